set_option maxHeartbeats 4000000 in
set_option maxRecDepth 100000 in
theorem lpX8_strikes_L2 {g : zb_G} {nc : Nat} (hnJ : 318 ≤ nc) (l : Launch) {a1 : Int32} {I O : Mem} {p : Program} {e : Env} {s : State} {m : MethodId} {args : Array Value} {below : List Frame} {meth : Method} {c : Code} {Q : State → Prop} (X : zb_X g p m c cX8_strikes 3 s args RX8 meth) : ∀ {n9 : Nat} {a2 : Int32} {J : Mem} {Jz : Mem} {H : Heap} {locs : List Loc} {ls : Array Slot}, fX8_strikes_L2 a1 n9 a2 J = some Jz → (∀ (H : Heap) (locs : List Loc) (ls : Array Slot), va_P g.1 vwCl (zb_ws g nc (zb_ce g I Jz O)) H → va_S (zb_A g) s.heap H locs → lv_has ls 3 [] → W p l e { frames := 1, cells := 0, slots := 0, locals := 21 } s m args below meth c H locs 0 0 Q (F0 m 115 ls [])) → va_P g.1 vwCl (zb_ws g nc (zb_ce g I J O)) H → va_S (zb_A g) s.heap H locs → lv_has ls 3 [(2, .int a2), (0, .ref (g.2.2 + 306)), (1, .int a1)] → W p l e { frames := 1, cells := 0, slots := 0, locals := 21 } s m args below meth c H locs 0 0 Q (F0 m 2 ls []) := by
  have hx := X.1.1
  have hb := X.1.2.1
  have ho := X.1.2.2.2.1
  have hts := X.1.2.2.2.2
  have hZ := X.2.2.2
  intro n9
  induction n9 with
  | zero =>
    intro a2 J Jz H locs ls hf
    exact nomatch hf
  | succ n9 ih =>
    intro a2 J Jz H locs ls hf KK hP hS hl
    rw [fX8_strikes_L2] at hf
    refine lv_iload_n hx hb dX8_strikes_2 rfl (lv_at hl 0 rfl) ?_
    refine lv_aload_n hx hb dX8_strikes_3 rfl (lv_at hl 1 rfl) ?_
    refine gf_X8_7 X hnJ hP zk_306 dX8_strikes_4 ?_
    refine lv_iconst (v := (0 : Int32)) hx hb dX8_strikes_7 (by decide) ?_
    obtain ⟨x1, hx1, hf⟩ := ob_e hf
    refine zr_aldJ X hP hnJ zk_307 hx1 dX8_strikes_8 ?_
    refine lv_icmp_ge (tgt := 115) hx hb dX8_strikes_9 (by decide) (fun hc => ?_) (fun hc => ?_)
    · have hf := if_t hc hf
      cases hf
      exact KK H locs ls hP hS (lv_sub hl [] rfl)
    · have hf := if_f hc hf
      refine lv_iload_n hx hb dX8_strikes_12 rfl (lv_at hl 2 rfl) ?_
      refine lv_iload_n hx hb dX8_strikes_13 rfl (lv_at hl 0 rfl) ?_
      obtain ⟨x2, hx2, hf⟩ := ob_e hf
      refine zr_cSi (rest := []) (As := [.int a1, .int a2]) X hP hS (ct_X8_has (g := g) (nc := nc) (I := I) (J := J) (O := O)  l  hx2) cw_X8_176  rfl hl.1 (Nat.le_of_ble_eq_true rfl) ⟨Nat.le_of_ble_eq_true rfl, Nat.le_of_ble_eq_true rfl⟩ ⟨Nat.le_of_ble_eq_true rfl, Nat.le_of_ble_eq_true rfl⟩ dX8_strikes_14 rfl (fun H locs hP hS => ?_)
      obtain ⟨J13, ht, hf⟩ := ob_e hf
      have K1 : ∀ (H : Heap) (locs : List Loc) (ls : Array Slot), va_P g.1 vwCl (zb_ws g nc (zb_ce g I J13 O)) H → va_S (zb_A g) s.heap H locs → lv_has ls 3 [(2, .int a2), (0, .ref (g.2.2 + 306)), (1, .int a1)] → W p l e { frames := 1, cells := 0, slots := 0, locals := 21 } s m args below meth c H locs 0 0 Q (F0 m 109 ls []) := by
        intro H locs ls hP hS hl
        refine lv_iinc (v := (a2 + (1 : Int32))) (lv' := [(2, .int (a2 + (1 : Int32))), (0, .ref (g.2.2 + 306)), (1, .int a1)]) hx hb dX8_strikes_109 hl (k := 0) rfl rfl (by decide) rfl (fun ls hl => ?_)
        refine lv_goto (tgt := 2) hx hb dX8_strikes_112 (by decide) ?_
        exact ih hf KK hP hS (lv_sub hl [0, 1, 2] rfl)
      have hf := ht
      refine lv_if_ne (tgt := 23) hx hb dX8_strikes_17 (by decide) (fun hc => ?_) (fun hc => ?_)
      · have hf := if_f hc hf
        refine lv_aload_n hx hb dX8_strikes_23 rfl (lv_at hl 1 rfl) ?_
        refine gf_X8_182 X hnJ hP zk_306 dX8_strikes_24 ?_
        refine lv_iload_n hx hb dX8_strikes_27 rfl (lv_at hl 0 rfl) ?_
        obtain ⟨x3, hx3, hf⟩ := ob_e hf
        refine zr_cSi (rest := []) (As := [.int (J 306 19), .int a2]) X hP hS (ct_X8_has (g := g) (nc := nc) (I := I) (J := J) (O := O)  l  hx3) cw_X8_176  rfl hl.1 (Nat.le_of_ble_eq_true rfl) ⟨Nat.le_of_ble_eq_true rfl, Nat.le_of_ble_eq_true rfl⟩ ⟨Nat.le_of_ble_eq_true rfl, Nat.le_of_ble_eq_true rfl⟩ dX8_strikes_28 rfl (fun H locs hP hS => ?_)
        refine lv_if_eq (tgt := 57) hx hb dX8_strikes_31 (by decide) (fun hc => ?_) (fun hc => ?_)
        · have hf := if_t hc hf
          refine lv_aload_n hx hb dX8_strikes_57 rfl (lv_at hl 1 rfl) ?_
          refine gf_X8_7 X hnJ hP zk_306 dX8_strikes_58 ?_
          refine lv_bipush (v := (82 : Int32)) hx hb dX8_strikes_61 (by decide) ?_
          refine lv_iload_n hx hb dX8_strikes_63 rfl (lv_at hl 0 rfl) ?_
          refine lv_iadd hx hb dX8_strikes_64 ?_
          refine lv_aload_n hx hb dX8_strikes_65 rfl (lv_at hl 1 rfl) ?_
          refine gf_X8_7 X hnJ hP zk_306 dX8_strikes_66 ?_
          refine lv_bipush (v := (62 : Int32)) hx hb dX8_strikes_69 (by decide) ?_
          refine lv_iload_n hx hb dX8_strikes_71 rfl (lv_at hl 0 rfl) ?_
          refine lv_iadd hx hb dX8_strikes_72 ?_
          obtain ⟨x4, hx4, hf⟩ := ob_e hf
          refine zr_aldJ X hP hnJ zk_307 hx4 dX8_strikes_73 ?_
          obtain ⟨x7, ht, hf⟩ := ob_e hf
          have K2 : ∀ (H : Heap) (locs : List Loc) (ls : Array Slot), va_P g.1 vwCl (zb_ws g nc (zb_ce g I J O)) H → va_S (zb_A g) s.heap H locs → lv_has ls 3 [(2, .int a2), (0, .ref (g.2.2 + 306)), (1, .int a1)] → W p l e { frames := 1, cells := 0, slots := 0, locals := 21 } s m args below meth c H locs 0 0 Q (F0 m 95 ls [.int x7, .int ((82 : Int32) + a2), .ref (g.2.2 + 307)]) := by
            intro H locs ls hP hS hl
            obtain ⟨J8, hJ8, hf⟩ := ob_e hf
            refine zr_astJ X hP hS hnJ zk_307 hJ8 dX8_strikes_95 (fun H locs hP hS => ?_)
            refine lv_aload_n hx hb dX8_strikes_96 rfl (lv_at hl 1 rfl) ?_
            refine gf_X8_7 X hnJ hP zk_306 dX8_strikes_97 ?_
            refine lv_bipush (v := (62 : Int32)) hx hb dX8_strikes_100 (by decide) ?_
            refine lv_iload_n hx hb dX8_strikes_102 rfl (lv_at hl 0 rfl) ?_
            refine lv_iadd hx hb dX8_strikes_103 ?_
            refine lv_dup2_11 hx hb dX8_strikes_104 rfl rfl ?_
            obtain ⟨x9, hx9, hf⟩ := ob_e hf
            refine zr_aldJ X hP hnJ zk_307 hx9 dX8_strikes_105 ?_
            refine lv_iconst (v := (1 : Int32)) hx hb dX8_strikes_106 (by decide) ?_
            refine lv_iadd hx hb dX8_strikes_107 ?_
            obtain ⟨J10, hJ10, hf⟩ := ob_e hf
            refine zr_astJ X hP hS hnJ zk_307 hJ10 dX8_strikes_108 (fun H locs hP hS => ?_)
            cases hf
            exact K1 H locs ls hP hS (lv_sub hl [0, 1, 2] rfl)
          have hf := ht
          refine lv_if_ne (tgt := 86) hx hb dX8_strikes_74 (by decide) (fun hc => ?_) (fun hc => ?_)
          · have hf := if_f hc hf
            refine lv_aload_n hx hb dX8_strikes_86 rfl (lv_at hl 1 rfl) ?_
            refine gf_X8_7 X hnJ hP zk_306 dX8_strikes_87 ?_
            refine lv_bipush (v := (82 : Int32)) hx hb dX8_strikes_90 (by decide) ?_
            refine lv_iload_n hx hb dX8_strikes_92 rfl (lv_at hl 0 rfl) ?_
            refine lv_iadd hx hb dX8_strikes_93 ?_
            obtain ⟨x5, hx5, hf⟩ := ob_e hf
            refine zr_aldJ X hP hnJ zk_307 hx5 dX8_strikes_94 ?_
            cases hf
            exact K2 H locs ls hP hS (lv_sub hl [0, 1, 2] rfl)
          · have hf := if_t hc hf
            refine lv_aload_n hx hb dX8_strikes_77 rfl (lv_at hl 1 rfl) ?_
            refine gf_X8_7 X hnJ hP zk_306 dX8_strikes_78 ?_
            refine lv_iconst (v := (5 : Int32)) hx hb dX8_strikes_81 (by decide) ?_
            obtain ⟨x6, hx6, hf⟩ := ob_e hf
            refine zr_aldJ X hP hnJ zk_307 hx6 dX8_strikes_82 ?_
            refine lv_goto (tgt := 95) hx hb dX8_strikes_83 (by decide) ?_
            cases hf
            exact K2 H locs ls hP hS (lv_sub hl [0, 1, 2] rfl)
        · have hf := if_f hc hf
          refine lv_aload_n hx hb dX8_strikes_34 rfl (lv_at hl 1 rfl) ?_
          refine gf_X8_7 X hnJ hP zk_306 dX8_strikes_35 ?_
          refine lv_bipush (v := (62 : Int32)) hx hb dX8_strikes_38 (by decide) ?_
          refine lv_iload_n hx hb dX8_strikes_40 rfl (lv_at hl 0 rfl) ?_
          refine lv_iadd hx hb dX8_strikes_41 ?_
          refine lv_iconst (v := (0 : Int32)) hx hb dX8_strikes_42 (by decide) ?_
          obtain ⟨J11, hJ11, hf⟩ := ob_e hf
          refine zr_astJ X hP hS hnJ zk_307 hJ11 dX8_strikes_43 (fun H locs hP hS => ?_)
          refine lv_aload_n hx hb dX8_strikes_44 rfl (lv_at hl 1 rfl) ?_
          refine gf_X8_7 X hnJ hP zk_306 dX8_strikes_45 ?_
          refine lv_bipush (v := (82 : Int32)) hx hb dX8_strikes_48 (by decide) ?_
          refine lv_iload_n hx hb dX8_strikes_50 rfl (lv_at hl 0 rfl) ?_
          refine lv_iadd hx hb dX8_strikes_51 ?_
          refine lv_iconst (v := (-1 : Int32)) hx hb dX8_strikes_52 (by decide) ?_
          obtain ⟨J12, hJ12, hf⟩ := ob_e hf
          refine zr_astJ X hP hS hnJ zk_307 hJ12 dX8_strikes_53 (fun H locs hP hS => ?_)
          refine lv_goto (tgt := 109) hx hb dX8_strikes_54 (by decide) ?_
          cases hf
          exact K1 H locs ls hP hS (lv_sub hl [0, 1, 2] rfl)
      · have hf := if_t hc hf
        refine lv_goto (tgt := 109) hx hb dX8_strikes_20 (by decide) ?_
        cases hf
        exact K1 H locs ls hP hS (lv_sub hl [0, 1, 2] rfl)
set_option maxHeartbeats 4000000 in
set_option maxRecDepth 100000 in
theorem ct_X8_strikes {g : zb_G} {nc : Nat} (hnJ : 318 ≤ nc) (l : Launch) {a1 : Int32} {I J O : Mem} {Jq : Mem} (hf : fX8_strikes a1 J = some Jq) : zb_Ct l g nc yX8_strikes cX8_strikes 3 none 1 21 [.ref (g.2.2 + 306), .int a1] (zb_ce g I J O) none (zb_ce g I Jq O) := by
  refine zb_ofW (own := RX8) (by decide +kernel) rfl (Nat.le_of_ble_eq_true rfl) ?_
  intro p e s m args below meth c ls X hr hP hl
  have hx := X.1.1
  have hb := X.1.2.1
  have ho := X.1.2.2.2.1
  have hts := X.1.2.2.2.2
  have hZ := X.2.2.2
  have hl : lv_has ls 3 [(0, .ref (g.2.2 + 306)), (1, .int a1)] := hl
  have hS : va_S (zb_A g) s.heap s.heap [] := va_S.rf
  obtain ⟨H, hH⟩ : ∃ H, H = s.heap := ⟨_, rfl⟩
  obtain ⟨locs, hlocs⟩ : ∃ z : List Loc, z = [] := ⟨_, rfl⟩
  rw [← hH] at hP
  have hS : va_S (zb_A g) s.heap H locs := by rw [hH, hlocs]; exact hS
  show W p l e _ s m args below meth c s.heap [] 0 0 _ _
  rw [← hH, ← hlocs]
  rw [fX8_strikes] at hf
  refine lv_iconst (v := (0 : Int32)) hx hb dX8_strikes_0 (by decide) ?_
  refine lv_istore_n (lv' := [(2, .int (0 : Int32)), (0, .ref (g.2.2 + 306)), (1, .int a1)]) hx hb dX8_strikes_1 rfl hl (by decide) rfl (fun ls hl => ?_)
  obtain ⟨J14, hJ14, hf⟩ := ob_e hf
  have K3 : ∀ (H : Heap) (locs : List Loc) (ls : Array Slot), va_P g.1 vwCl (zb_ws g nc (zb_ce g I J14 O)) H → va_S (zb_A g) s.heap H locs → lv_has ls 3 [] → W p l e { frames := 1, cells := 0, slots := 0, locals := 21 } s m args below meth c H locs 0 0 (MQ below (zb_Po g nc (zb_ce g I Jq O) none) args s 0 0 (zb_A g)) (F0 m 115 ls []) := by
    intro H locs ls hP hS hl
    cases hf
    exact zr_vret X hr hP hS rfl dX8_strikes_115
  exact lpX8_strikes_L2 hnJ l  X hJ14 K3 hP hS (lv_sub hl [0, 1, 2] rfl)
set_option maxHeartbeats 4000000 in
set_option maxRecDepth 100000 in
theorem lpX8_agrees_L2 {g : zb_G} {nc : Nat} (hnJ : 318 ≤ nc) (l : Launch) {a1 : Int32} {I O : Mem} {p : Program} {e : Env} {s : State} {m : MethodId} {args : Array Value} {below : List Frame} {meth : Method} {c : Code} {Q : State → Prop} (X : zb_X g p m c cX8_agrees 3 s args RX8 meth) : ∀ {n9 : Nat} {a2 : Int32} {J : Mem} {Jz : Mem} {H : Heap} {locs : List Loc} {ls : Array Slot}, fX8_agrees_L2 a1 n9 a2 J = some Jz → (∀ (H : Heap) (locs : List Loc) (ls : Array Slot), va_P g.1 vwCl (zb_ws g nc (zb_ce g I Jz O)) H → va_S (zb_A g) s.heap H locs → lv_has ls 3 [(0, .ref (g.2.2 + 306))] → W p l e { frames := 1, cells := 0, slots := 0, locals := 21 } s m args below meth c H locs 0 0 Q (F0 m 72 ls [])) → va_P g.1 vwCl (zb_ws g nc (zb_ce g I J O)) H → va_S (zb_A g) s.heap H locs → lv_has ls 3 [(2, .int a2), (0, .ref (g.2.2 + 306)), (1, .int a1)] → W p l e { frames := 1, cells := 0, slots := 0, locals := 21 } s m args below meth c H locs 0 0 Q (F0 m 2 ls []) := by
  have hx := X.1.1
  have hb := X.1.2.1
  have ho := X.1.2.2.2.1
  have hts := X.1.2.2.2.2
  have hZ := X.2.2.2
  intro n9
  induction n9 with
  | zero =>
    intro a2 J Jz H locs ls hf
    exact nomatch hf
  | succ n9 ih =>
    intro a2 J Jz H locs ls hf KK hP hS hl
    rw [fX8_agrees_L2] at hf
    refine lv_iload_n hx hb dX8_agrees_2 rfl (lv_at hl 0 rfl) ?_
    refine lv_aload_n hx hb dX8_agrees_3 rfl (lv_at hl 1 rfl) ?_
    refine gf_X8_7 X hnJ hP zk_306 dX8_agrees_4 ?_
    refine lv_iconst (v := (0 : Int32)) hx hb dX8_agrees_7 (by decide) ?_
    obtain ⟨x1, hx1, hf⟩ := ob_e hf
    refine zr_aldJ X hP hnJ zk_307 hx1 dX8_agrees_8 ?_
    refine lv_icmp_ge (tgt := 72) hx hb dX8_agrees_9 (by decide) (fun hc => ?_) (fun hc => ?_)
    · have hf := if_t hc hf
      cases hf
      exact KK H locs ls hP hS (lv_sub hl [1] rfl)
    · have hf := if_f hc hf
      refine lv_iload_n hx hb dX8_agrees_12 rfl (lv_at hl 2 rfl) ?_
      refine lv_iload_n hx hb dX8_agrees_13 rfl (lv_at hl 0 rfl) ?_
      obtain ⟨x2, hx2, hf⟩ := ob_e hf
      refine zr_cSi (rest := []) (As := [.int a1, .int a2]) X hP hS (ct_X8_has (g := g) (nc := nc) (I := I) (J := J) (O := O)  l  hx2) cw_X8_176  rfl hl.1 (Nat.le_of_ble_eq_true rfl) ⟨Nat.le_of_ble_eq_true rfl, Nat.le_of_ble_eq_true rfl⟩ ⟨Nat.le_of_ble_eq_true rfl, Nat.le_of_ble_eq_true rfl⟩ dX8_agrees_14 rfl (fun H locs hP hS => ?_)
      obtain ⟨J9, ht, hf⟩ := ob_e hf
      have K1 : ∀ (H : Heap) (locs : List Loc) (ls : Array Slot), va_P g.1 vwCl (zb_ws g nc (zb_ce g I J9 O)) H → va_S (zb_A g) s.heap H locs → lv_has ls 3 [(2, .int a2), (0, .ref (g.2.2 + 306)), (1, .int a1)] → W p l e { frames := 1, cells := 0, slots := 0, locals := 21 } s m args below meth c H locs 0 0 Q (F0 m 66 ls []) := by
        intro H locs ls hP hS hl
        refine lv_iinc (v := (a2 + (1 : Int32))) (lv' := [(2, .int (a2 + (1 : Int32))), (0, .ref (g.2.2 + 306)), (1, .int a1)]) hx hb dX8_agrees_66 hl (k := 0) rfl rfl (by decide) rfl (fun ls hl => ?_)
        refine lv_goto (tgt := 2) hx hb dX8_agrees_69 (by decide) ?_
        exact ih hf KK hP hS (lv_sub hl [0, 1, 2] rfl)
      have hf := ht
      refine lv_if_eq (tgt := 66) hx hb dX8_agrees_17 (by decide) (fun hc => ?_) (fun hc => ?_)
      · have hf := if_t hc hf
        cases hf
        exact K1 H locs ls hP hS (lv_sub hl [0, 1, 2] rfl)
      · have hf := if_f hc hf
        refine lv_aload_n hx hb dX8_agrees_20 rfl (lv_at hl 1 rfl) ?_
        refine gf_X8_7 X hnJ hP zk_306 dX8_agrees_21 ?_
        refine lv_bipush (v := (72 : Int32)) hx hb dX8_agrees_24 (by decide) ?_
        refine lv_iload_n hx hb dX8_agrees_26 rfl (lv_at hl 0 rfl) ?_
        refine lv_iadd hx hb dX8_agrees_27 ?_
        refine lv_aload_n hx hb dX8_agrees_28 rfl (lv_at hl 1 rfl) ?_
        refine gf_X8_40 X hnJ hP zk_306 dX8_agrees_29 ?_
        refine lv_iload_n hx hb dX8_agrees_32 rfl (lv_at hl 0 rfl) ?_
        obtain ⟨x3, hx3, hf⟩ := ob_e hf
        refine zr_aldJ X hP hnJ zk_315 hx3 dX8_agrees_33 ?_
        refine lv_aload_n hx hb dX8_agrees_34 rfl (lv_at hl 1 rfl) ?_
        refine gf_X8_189 X hnJ hP zk_306 dX8_agrees_35 ?_
        obtain ⟨x4, hx4, hf⟩ := ob_e hf
        refine zr_cSi (rest := [.int ((72 : Int32) + a2), .ref (g.2.2 + 307)]) (As := [.int x3, .int (J 306 21)]) X hP hS (ct_X8_off (g := g) (nc := nc) (I := I) (J := J) (O := O)  l  hx4) cw_X8_197  rfl hl.1 (Nat.le_of_ble_eq_true rfl) ⟨Nat.le_of_ble_eq_true rfl, Nat.le_of_ble_eq_true rfl⟩ ⟨Nat.le_of_ble_eq_true rfl, Nat.le_of_ble_eq_true rfl⟩ dX8_agrees_38 rfl (fun H locs hP hS => ?_)
        refine lv_aload_n hx hb dX8_agrees_41 rfl (lv_at hl 1 rfl) ?_
        refine gf_X8_7 X hnJ hP zk_306 dX8_agrees_42 ?_
        refine lv_iconst (v := (1 : Int32)) hx hb dX8_agrees_45 (by decide) ?_
        obtain ⟨x5, hx5, hf⟩ := ob_e hf
        refine zr_aldJ X hP hnJ zk_307 hx5 dX8_agrees_46 ?_
        obtain ⟨x7, ht, hf⟩ := ob_e hf
        have K2 : ∀ (H : Heap) (locs : List Loc) (ls : Array Slot), va_P g.1 vwCl (zb_ws g nc (zb_ce g I J O)) H → va_S (zb_A g) s.heap H locs → lv_has ls 3 [(2, .int a2), (0, .ref (g.2.2 + 306)), (1, .int a1)] → W p l e { frames := 1, cells := 0, slots := 0, locals := 21 } s m args below meth c H locs 0 0 Q (F0 m 65 ls [.int x7, .int ((72 : Int32) + a2), .ref (g.2.2 + 307)]) := by
          intro H locs ls hP hS hl
          obtain ⟨J8, hJ8, hf⟩ := ob_e hf
          refine zr_astJ X hP hS hnJ zk_307 hJ8 dX8_agrees_65 (fun H locs hP hS => ?_)
          cases hf
          exact K1 H locs ls hP hS (lv_sub hl [0, 1, 2] rfl)
        have hf := ht
        refine lv_icmp_gt (tgt := 64) hx hb dX8_agrees_47 (by decide) (fun hc => ?_) (fun hc => ?_)
        · have hf := if_t hc hf
          refine lv_iconst (v := (0 : Int32)) hx hb dX8_agrees_64 (by decide) ?_
          cases hf
          exact K2 H locs ls hP hS (lv_sub hl [0, 1, 2] rfl)
        · have hf := if_f hc hf
          refine lv_aload_n hx hb dX8_agrees_50 rfl (lv_at hl 1 rfl) ?_
          refine gf_X8_7 X hnJ hP zk_306 dX8_agrees_51 ?_
          refine lv_bipush (v := (72 : Int32)) hx hb dX8_agrees_54 (by decide) ?_
          refine lv_iload_n hx hb dX8_agrees_56 rfl (lv_at hl 0 rfl) ?_
          refine lv_iadd hx hb dX8_agrees_57 ?_
          obtain ⟨x6, hx6, hf⟩ := ob_e hf
          refine zr_aldJ X hP hnJ zk_307 hx6 dX8_agrees_58 ?_
          refine lv_iconst (v := (1 : Int32)) hx hb dX8_agrees_59 (by decide) ?_
          refine lv_iadd hx hb dX8_agrees_60 ?_
          refine lv_goto (tgt := 65) hx hb dX8_agrees_61 (by decide) ?_
          cases hf
          exact K2 H locs ls hP hS (lv_sub hl [0, 1, 2] rfl)
set_option maxHeartbeats 4000000 in
set_option maxRecDepth 100000 in
theorem lpX8_agrees_L74 {g : zb_G} {nc : Nat} (hnJ : 318 ≤ nc) (l : Launch) {I O : Mem} {p : Program} {e : Env} {s : State} {m : MethodId} {args : Array Value} {below : List Frame} {meth : Method} {c : Code} {Q : State → Prop} (X : zb_X g p m c cX8_agrees 3 s args RX8 meth) : ∀ {n9 : Nat} {a2 : Int32} {J : Mem} {Jz : Mem} {H : Heap} {locs : List Loc} {ls : Array Slot}, fX8_agrees_L74 n9 a2 J = some Jz → (∀ (H : Heap) (locs : List Loc) (ls : Array Slot), va_P g.1 vwCl (zb_ws g nc (zb_ce g I Jz O)) H → va_S (zb_A g) s.heap H locs → lv_has ls 3 [] → W p l e { frames := 1, cells := 0, slots := 0, locals := 21 } s m args below meth c H locs 0 0 Q (F0 m 141 ls [])) → va_P g.1 vwCl (zb_ws g nc (zb_ce g I J O)) H → va_S (zb_A g) s.heap H locs → lv_has ls 3 [(2, .int a2), (0, .ref (g.2.2 + 306))] → W p l e { frames := 1, cells := 0, slots := 0, locals := 21 } s m args below meth c H locs 0 0 Q (F0 m 74 ls []) := by
  have hx := X.1.1
  have hb := X.1.2.1
  have ho := X.1.2.2.2.1
  have hts := X.1.2.2.2.2
  have hZ := X.2.2.2
  intro n9
  induction n9 with
  | zero =>
    intro a2 J Jz H locs ls hf
    exact nomatch hf
  | succ n9 ih =>
    intro a2 J Jz H locs ls hf KK hP hS hl
    rw [fX8_agrees_L74] at hf
    refine lv_iload_n hx hb dX8_agrees_74 rfl (lv_at hl 0 rfl) ?_
    refine lv_aload_n hx hb dX8_agrees_75 rfl (lv_at hl 1 rfl) ?_
    refine gf_X8_7 X hnJ hP zk_306 dX8_agrees_76 ?_
    refine lv_iconst (v := (0 : Int32)) hx hb dX8_agrees_79 (by decide) ?_
    obtain ⟨x11, hx11, hf⟩ := ob_e hf
    refine zr_aldJ X hP hnJ zk_307 hx11 dX8_agrees_80 ?_
    refine lv_icmp_ge (tgt := 141) hx hb dX8_agrees_81 (by decide) (fun hc => ?_) (fun hc => ?_)
    · have hf := if_t hc hf
      cases hf
      exact KK H locs ls hP hS (lv_sub hl [] rfl)
    · have hf := if_f hc hf
      refine lv_aload_n hx hb dX8_agrees_84 rfl (lv_at hl 1 rfl) ?_
      refine gf_X8_7 X hnJ hP zk_306 dX8_agrees_85 ?_
      refine lv_bipush (v := (52 : Int32)) hx hb dX8_agrees_88 (by decide) ?_
      refine lv_iload_n hx hb dX8_agrees_90 rfl (lv_at hl 0 rfl) ?_
      refine lv_iadd hx hb dX8_agrees_91 ?_
      obtain ⟨x12, hx12, hf⟩ := ob_e hf
      refine zr_aldJ X hP hnJ zk_307 hx12 dX8_agrees_92 ?_
      refine lv_iconst (v := (1 : Int32)) hx hb dX8_agrees_93 (by decide) ?_
      obtain ⟨J17, ht, hf⟩ := ob_e hf
      have K3 : ∀ (H : Heap) (locs : List Loc) (ls : Array Slot), va_P g.1 vwCl (zb_ws g nc (zb_ce g I J17 O)) H → va_S (zb_A g) s.heap H locs → lv_has ls 3 [(2, .int a2), (0, .ref (g.2.2 + 306))] → W p l e { frames := 1, cells := 0, slots := 0, locals := 21 } s m args below meth c H locs 0 0 Q (F0 m 135 ls []) := by
        intro H locs ls hP hS hl
        refine lv_iinc (v := (a2 + (1 : Int32))) (lv' := [(2, .int (a2 + (1 : Int32))), (0, .ref (g.2.2 + 306))]) hx hb dX8_agrees_135 hl (k := 0) rfl rfl (by decide) rfl (fun ls hl => ?_)
        refine lv_goto (tgt := 74) hx hb dX8_agrees_138 (by decide) ?_
        exact ih hf KK hP hS (lv_sub hl [0, 1] rfl)
      have hf := ht
      refine lv_icmp_ne (tgt := 135) hx hb dX8_agrees_94 (by decide) (fun hc => ?_) (fun hc => ?_)
      · have hf := if_f hc hf
        cases hf
        exact K3 H locs ls hP hS (lv_sub hl [0, 1] rfl)
      · have hf := if_t hc hf
        refine lv_aload_n hx hb dX8_agrees_97 rfl (lv_at hl 1 rfl) ?_
        refine gf_X8_7 X hnJ hP zk_306 dX8_agrees_98 ?_
        refine lv_bipush (v := (72 : Int32)) hx hb dX8_agrees_101 (by decide) ?_
        refine lv_iload_n hx hb dX8_agrees_103 rfl (lv_at hl 0 rfl) ?_
        refine lv_iadd hx hb dX8_agrees_104 ?_
        obtain ⟨x13, hx13, hf⟩ := ob_e hf
        refine zr_aldJ X hP hnJ zk_307 hx13 dX8_agrees_105 ?_
        refine lv_aload_n hx hb dX8_agrees_106 rfl (lv_at hl 1 rfl) ?_
        refine gf_X8_7 X hnJ hP zk_306 dX8_agrees_107 ?_
        refine lv_iconst (v := (3 : Int32)) hx hb dX8_agrees_110 (by decide) ?_
        obtain ⟨x14, hx14, hf⟩ := ob_e hf
        refine zr_aldJ X hP hnJ zk_307 hx14 dX8_agrees_111 ?_
        refine lv_icmp_lt (tgt := 135) hx hb dX8_agrees_112 (by decide) (fun hc => ?_) (fun hc => ?_)
        · have hf := if_t hc hf
          cases hf
          exact K3 H locs ls hP hS (lv_sub hl [0, 1] rfl)
        · have hf := if_f hc hf
          refine lv_aload_n hx hb dX8_agrees_115 rfl (lv_at hl 1 rfl) ?_
          refine gf_X8_7 X hnJ hP zk_306 dX8_agrees_116 ?_
          refine lv_bipush (v := (52 : Int32)) hx hb dX8_agrees_119 (by decide) ?_
          refine lv_iload_n hx hb dX8_agrees_121 rfl (lv_at hl 0 rfl) ?_
          refine lv_iadd hx hb dX8_agrees_122 ?_
          refine lv_iconst (v := (0 : Int32)) hx hb dX8_agrees_123 (by decide) ?_
          obtain ⟨J15, hJ15, hf⟩ := ob_e hf
          refine zr_astJ X hP hS hnJ zk_307 hJ15 dX8_agrees_124 (fun H locs hP hS => ?_)
          refine lv_aload_n hx hb dX8_agrees_125 rfl (lv_at hl 1 rfl) ?_
          refine gf_X8_7 X hnJ hP zk_306 dX8_agrees_126 ?_
          refine lv_bipush (v := (72 : Int32)) hx hb dX8_agrees_129 (by decide) ?_
          refine lv_iload_n hx hb dX8_agrees_131 rfl (lv_at hl 0 rfl) ?_
          refine lv_iadd hx hb dX8_agrees_132 ?_
          refine lv_iconst (v := (0 : Int32)) hx hb dX8_agrees_133 (by decide) ?_
          obtain ⟨J16, hJ16, hf⟩ := ob_e hf
          refine zr_astJ X hP hS hnJ zk_307 hJ16 dX8_agrees_134 (fun H locs hP hS => ?_)
          cases hf
          exact K3 H locs ls hP hS (lv_sub hl [0, 1] rfl)
set_option maxHeartbeats 4000000 in
set_option maxRecDepth 100000 in
theorem ct_X8_agrees {g : zb_G} {nc : Nat} (hnJ : 318 ≤ nc) (l : Launch) {a1 : Int32} {I J O : Mem} {Jq : Mem} (hf : fX8_agrees a1 J = some Jq) : zb_Ct l g nc yX8_agrees cX8_agrees 3 none 1 21 [.ref (g.2.2 + 306), .int a1] (zb_ce g I J O) none (zb_ce g I Jq O) := by
  refine zb_ofW (own := RX8) (by decide +kernel) rfl (Nat.le_of_ble_eq_true rfl) ?_
  intro p e s m args below meth c ls X hr hP hl
  have hx := X.1.1
  have hb := X.1.2.1
  have ho := X.1.2.2.2.1
  have hts := X.1.2.2.2.2
  have hZ := X.2.2.2
  have hl : lv_has ls 3 [(0, .ref (g.2.2 + 306)), (1, .int a1)] := hl
  have hS : va_S (zb_A g) s.heap s.heap [] := va_S.rf
  obtain ⟨H, hH⟩ : ∃ H, H = s.heap := ⟨_, rfl⟩
  obtain ⟨locs, hlocs⟩ : ∃ z : List Loc, z = [] := ⟨_, rfl⟩
  rw [← hH] at hP
  have hS : va_S (zb_A g) s.heap H locs := by rw [hH, hlocs]; exact hS
  show W p l e _ s m args below meth c s.heap [] 0 0 _ _
  rw [← hH, ← hlocs]
  rw [fX8_agrees] at hf
  refine lv_iconst (v := (0 : Int32)) hx hb dX8_agrees_0 (by decide) ?_
  refine lv_istore_n (lv' := [(2, .int (0 : Int32)), (0, .ref (g.2.2 + 306)), (1, .int a1)]) hx hb dX8_agrees_1 rfl hl (by decide) rfl (fun ls hl => ?_)
  obtain ⟨J10, hJ10, hf⟩ := ob_e hf
  have K4 : ∀ (H : Heap) (locs : List Loc) (ls : Array Slot), va_P g.1 vwCl (zb_ws g nc (zb_ce g I J10 O)) H → va_S (zb_A g) s.heap H locs → lv_has ls 3 [(0, .ref (g.2.2 + 306))] → W p l e { frames := 1, cells := 0, slots := 0, locals := 21 } s m args below meth c H locs 0 0 (MQ below (zb_Po g nc (zb_ce g I Jq O) none) args s 0 0 (zb_A g)) (F0 m 72 ls []) := by
    intro H locs ls hP hS hl
    refine lv_iconst (v := (0 : Int32)) hx hb dX8_agrees_72 (by decide) ?_
    refine lv_istore_n (lv' := [(2, .int (0 : Int32)), (0, .ref (g.2.2 + 306))]) hx hb dX8_agrees_73 rfl hl (by decide) rfl (fun ls hl => ?_)
    obtain ⟨J18, hJ18, hf⟩ := ob_e hf
    have K5 : ∀ (H : Heap) (locs : List Loc) (ls : Array Slot), va_P g.1 vwCl (zb_ws g nc (zb_ce g I J18 O)) H → va_S (zb_A g) s.heap H locs → lv_has ls 3 [] → W p l e { frames := 1, cells := 0, slots := 0, locals := 21 } s m args below meth c H locs 0 0 (MQ below (zb_Po g nc (zb_ce g I Jq O) none) args s 0 0 (zb_A g)) (F0 m 141 ls []) := by
      intro H locs ls hP hS hl
      cases hf
      exact zr_vret X hr hP hS rfl dX8_agrees_141
    exact lpX8_agrees_L74 hnJ l  X hJ18 K5 hP hS (lv_sub hl [0, 1] rfl)
  exact lpX8_agrees_L2 hnJ l  X hJ10 K4 hP hS (lv_sub hl [0, 1, 2] rfl)
set_option maxHeartbeats 4000000 in
set_option maxRecDepth 100000 in
theorem lpX8_dragsOff_L4 {g : zb_G} {nc : Nat} (hnJ : 318 ≤ nc) (l : Launch) {a1 : Int32} {I O : Mem} {p : Program} {e : Env} {s : State} {m : MethodId} {args : Array Value} {below : List Frame} {meth : Method} {c : Code} {Q : State → Prop} (X : zb_X g p m c cX8_dragsOff 4 s args RX8 meth) : ∀ {n9 : Nat} {a3 : Int32} {a2 : Int32} {J : Mem} {z2 : Int32} {Jz : Mem} {H : Heap} {locs : List Loc} {ls : Array Slot}, fX8_dragsOff_L4 a1 n9 a3 a2 J = some (z2, Jz) → (∀ (H : Heap) (locs : List Loc) (ls : Array Slot), va_P g.1 vwCl (zb_ws g nc (zb_ce g I Jz O)) H → va_S (zb_A g) s.heap H locs → lv_has ls 4 [(2, .int z2)] → W p l e { frames := 1, cells := 0, slots := 0, locals := 21 } s m args below meth c H locs 0 0 Q (F0 m 62 ls [])) → va_P g.1 vwCl (zb_ws g nc (zb_ce g I J O)) H → va_S (zb_A g) s.heap H locs → lv_has ls 4 [(3, .int a3), (2, .int a2), (0, .ref (g.2.2 + 306)), (1, .int a1)] → W p l e { frames := 1, cells := 0, slots := 0, locals := 21 } s m args below meth c H locs 0 0 Q (F0 m 4 ls []) := by
  have hx := X.1.1
  have hb := X.1.2.1
  have ho := X.1.2.2.2.1
  have hts := X.1.2.2.2.2
  have hZ := X.2.2.2
  intro n9
  induction n9 with
  | zero =>
    intro a3 a2 J z2 Jz H locs ls hf
    exact nomatch hf
  | succ n9 ih =>
    intro a3 a2 J z2 Jz H locs ls hf KK hP hS hl
    rw [fX8_dragsOff_L4] at hf
    refine lv_iload_n hx hb dX8_dragsOff_4 rfl (lv_at hl 0 rfl) ?_
    refine lv_aload_n hx hb dX8_dragsOff_5 rfl (lv_at hl 2 rfl) ?_
    refine gf_X8_7 X hnJ hP zk_306 dX8_dragsOff_6 ?_
    refine lv_iconst (v := (0 : Int32)) hx hb dX8_dragsOff_9 (by decide) ?_
    obtain ⟨x1, hx1, hf⟩ := ob_e hf
    refine zr_aldJ X hP hnJ zk_307 hx1 dX8_dragsOff_10 ?_
    refine lv_icmp_ge (tgt := 62) hx hb dX8_dragsOff_11 (by decide) (fun hc => ?_) (fun hc => ?_)
    · have hf := if_t hc hf
      cases hf
      exact KK H locs ls hP hS (lv_sub hl [1] rfl)
    · have hf := if_f hc hf
      refine lv_iload_n hx hb dX8_dragsOff_14 rfl (lv_at hl 3 rfl) ?_
      refine lv_iload_n hx hb dX8_dragsOff_15 rfl (lv_at hl 0 rfl) ?_
      obtain ⟨x2, hx2, hf⟩ := ob_e hf
      refine zr_cSi (rest := []) (As := [.int a1, .int a3]) X hP hS (ct_X8_has (g := g) (nc := nc) (I := I) (J := J) (O := O)  l  hx2) cw_X8_176  rfl hl.1 (Nat.le_of_ble_eq_true rfl) ⟨Nat.le_of_ble_eq_true rfl, Nat.le_of_ble_eq_true rfl⟩ ⟨Nat.le_of_ble_eq_true rfl, Nat.le_of_ble_eq_true rfl⟩ dX8_dragsOff_16 rfl (fun H locs hP hS => ?_)
      obtain ⟨x6, J7, ht, hf⟩ := ob2_e hf
      have K1 : ∀ (H : Heap) (locs : List Loc) (ls : Array Slot), va_P g.1 vwCl (zb_ws g nc (zb_ce g I J7 O)) H → va_S (zb_A g) s.heap H locs → lv_has ls 4 [(3, .int a3), (2, .int x6), (0, .ref (g.2.2 + 306)), (1, .int a1)] → W p l e { frames := 1, cells := 0, slots := 0, locals := 21 } s m args below meth c H locs 0 0 Q (F0 m 56 ls []) := by
        intro H locs ls hP hS hl
        refine lv_iinc (v := (a3 + (1 : Int32))) (lv' := [(3, .int (a3 + (1 : Int32))), (2, .int x6), (0, .ref (g.2.2 + 306)), (1, .int a1)]) hx hb dX8_dragsOff_56 hl (k := 0) rfl rfl (by decide) rfl (fun ls hl => ?_)
        refine lv_goto (tgt := 4) hx hb dX8_dragsOff_59 (by decide) ?_
        exact ih hf KK hP hS (lv_sub hl [0, 1, 2, 3] rfl)
      have hf := ht
      refine lv_if_eq (tgt := 56) hx hb dX8_dragsOff_19 (by decide) (fun hc => ?_) (fun hc => ?_)
      · have hf := if_t hc hf
        cases hf
        exact K1 H locs ls hP hS (lv_sub hl [0, 1, 2, 3] rfl)
      · have hf := if_f hc hf
        refine lv_aload_n hx hb dX8_dragsOff_22 rfl (lv_at hl 2 rfl) ?_
        refine gf_X8_7 X hnJ hP zk_306 dX8_dragsOff_23 ?_
        refine lv_bipush (v := (62 : Int32)) hx hb dX8_dragsOff_26 (by decide) ?_
        refine lv_iload_n hx hb dX8_dragsOff_28 rfl (lv_at hl 0 rfl) ?_
        refine lv_iadd hx hb dX8_dragsOff_29 ?_
        obtain ⟨x3, hx3, hf⟩ := ob_e hf
        refine zr_aldJ X hP hnJ zk_307 hx3 dX8_dragsOff_30 ?_
        refine lv_aload_n hx hb dX8_dragsOff_31 rfl (lv_at hl 2 rfl) ?_
        refine gf_X8_7 X hnJ hP zk_306 dX8_dragsOff_32 ?_
        refine lv_iconst (v := (2 : Int32)) hx hb dX8_dragsOff_35 (by decide) ?_
        obtain ⟨x4, hx4, hf⟩ := ob_e hf
        refine zr_aldJ X hP hnJ zk_307 hx4 dX8_dragsOff_36 ?_
        refine lv_icmp_lt (tgt := 56) hx hb dX8_dragsOff_37 (by decide) (fun hc => ?_) (fun hc => ?_)
        · have hf := if_t hc hf
          cases hf
          exact K1 H locs ls hP hS (lv_sub hl [0, 1, 2, 3] rfl)
        · have hf := if_f hc hf
          refine lv_aload_n hx hb dX8_dragsOff_40 rfl (lv_at hl 2 rfl) ?_
          refine gf_X8_7 X hnJ hP zk_306 dX8_dragsOff_41 ?_
          refine lv_bipush (v := (52 : Int32)) hx hb dX8_dragsOff_44 (by decide) ?_
          refine lv_iload_n hx hb dX8_dragsOff_46 rfl (lv_at hl 0 rfl) ?_
          refine lv_iadd hx hb dX8_dragsOff_47 ?_
          refine lv_iconst (v := (2 : Int32)) hx hb dX8_dragsOff_48 (by decide) ?_
          obtain ⟨J5, hJ5, hf⟩ := ob_e hf
          refine zr_astJ X hP hS hnJ zk_307 hJ5 dX8_dragsOff_49 (fun H locs hP hS => ?_)
          refine lv_iload_n hx hb dX8_dragsOff_50 rfl (lv_at hl 1 rfl) ?_
          refine lv_iconst (v := (1 : Int32)) hx hb dX8_dragsOff_51 (by decide) ?_
          refine lv_iload_n hx hb dX8_dragsOff_52 rfl (lv_at hl 0 rfl) ?_
          refine lv_ishl hx hb dX8_dragsOff_53 ?_
          refine lv_ior hx hb dX8_dragsOff_54 ?_
          refine lv_istore_n (lv' := [(2, .int (a2 ||| ((1 : Int32) <<< (a3 &&& 31)))), (3, .int a3), (0, .ref (g.2.2 + 306)), (1, .int a1)]) hx hb dX8_dragsOff_55 rfl hl (by decide) rfl (fun ls hl => ?_)
          cases hf
          exact K1 H locs ls hP hS (lv_sub hl [1, 0, 2, 3] rfl)
set_option maxHeartbeats 4000000 in
set_option maxRecDepth 100000 in
theorem ct_X8_dragsOff {g : zb_G} {nc : Nat} (hnJ : 318 ≤ nc) (l : Launch) {a1 : Int32} {I J O : Mem} {r9 : Int32} {Jq : Mem} (hf : fX8_dragsOff a1 J = some (r9, Jq)) : zb_Ct l g nc yX8_dragsOff cX8_dragsOff 4 (some .int) 1 21 [.ref (g.2.2 + 306), .int a1] (zb_ce g I J O) (some (.int r9)) (zb_ce g I Jq O) := by
  refine zb_ofW (own := RX8) (by decide +kernel) rfl (Nat.le_of_ble_eq_true rfl) ?_
  intro p e s m args below meth c ls X hr hP hl
  have hx := X.1.1
  have hb := X.1.2.1
  have ho := X.1.2.2.2.1
  have hts := X.1.2.2.2.2
  have hZ := X.2.2.2
  have hl : lv_has ls 4 [(0, .ref (g.2.2 + 306)), (1, .int a1)] := hl
  have hS : va_S (zb_A g) s.heap s.heap [] := va_S.rf
  obtain ⟨H, hH⟩ : ∃ H, H = s.heap := ⟨_, rfl⟩
  obtain ⟨locs, hlocs⟩ : ∃ z : List Loc, z = [] := ⟨_, rfl⟩
  rw [← hH] at hP
  have hS : va_S (zb_A g) s.heap H locs := by rw [hH, hlocs]; exact hS
  show W p l e _ s m args below meth c s.heap [] 0 0 _ _
  rw [← hH, ← hlocs]
  rw [fX8_dragsOff] at hf
  refine lv_iconst (v := (0 : Int32)) hx hb dX8_dragsOff_0 (by decide) ?_
  refine lv_istore_n (lv' := [(2, .int (0 : Int32)), (0, .ref (g.2.2 + 306)), (1, .int a1)]) hx hb dX8_dragsOff_1 rfl hl (by decide) rfl (fun ls hl => ?_)
  refine lv_iconst (v := (0 : Int32)) hx hb dX8_dragsOff_2 (by decide) ?_
  refine lv_istore_n (lv' := [(3, .int (0 : Int32)), (2, .int (0 : Int32)), (0, .ref (g.2.2 + 306)), (1, .int a1)]) hx hb dX8_dragsOff_3 rfl hl (by decide) rfl (fun ls hl => ?_)
  obtain ⟨x8, J9, hx8_J9, hf⟩ := ob2_e hf
  have K2 : ∀ (H : Heap) (locs : List Loc) (ls : Array Slot), va_P g.1 vwCl (zb_ws g nc (zb_ce g I J9 O)) H → va_S (zb_A g) s.heap H locs → lv_has ls 4 [(2, .int x8)] → W p l e { frames := 1, cells := 0, slots := 0, locals := 21 } s m args below meth c H locs 0 0 (MQ below (zb_Po g nc (zb_ce g I Jq O) (some (.int r9))) args s 0 0 (zb_A g)) (F0 m 62 ls []) := by
    intro H locs ls hP hS hl
    refine lv_iload_n hx hb dX8_dragsOff_62 rfl (lv_at hl 0 rfl) ?_
    cases hf
    exact zr_iret X hr hP hS dX8_dragsOff_63
  exact lpX8_dragsOff_L4 hnJ l  X hx8_J9 K2 hP hS (lv_sub hl [0, 1, 2, 3] rfl)
set_option maxHeartbeats 4000000 in
set_option maxRecDepth 100000 in
theorem lpX8_takesOut_L20 {g : zb_G} {nc : Nat} (hnJ : 318 ≤ nc) (l : Launch) {a2 : Int32} {a1 : Int32} {I O : Mem} {p : Program} {e : Env} {s : State} {m : MethodId} {args : Array Value} {below : List Frame} {meth : Method} {c : Code} {Q : State → Prop} (X : zb_X g p m c cX8_takesOut 5 s args RX8 meth) : ∀ {n9 : Nat} {a4 : Int32} {a3 : Int32} {J : Mem} {z3 : Int32} {H : Heap} {locs : List Loc} {ls : Array Slot}, fX8_takesOut_L20 a2 a1 n9 a4 a3 J = some z3 → (∀ (H : Heap) (locs : List Loc) (ls : Array Slot), va_P g.1 vwCl (zb_ws g nc (zb_ce g I J O)) H → va_S (zb_A g) s.heap H locs → lv_has ls 5 [(3, .int z3), (2, .int a2), (0, .ref (g.2.2 + 306)), (1, .int a1)] → W p l e { frames := 3, cells := 0, slots := 0, locals := 70 } s m args below meth c H locs 0 0 Q (F0 m 71 ls [])) → va_P g.1 vwCl (zb_ws g nc (zb_ce g I J O)) H → va_S (zb_A g) s.heap H locs → lv_has ls 5 [(4, .int a4), (3, .int a3), (2, .int a2), (0, .ref (g.2.2 + 306)), (1, .int a1)] → W p l e { frames := 3, cells := 0, slots := 0, locals := 70 } s m args below meth c H locs 0 0 Q (F0 m 20 ls []) := by
  have hx := X.1.1
  have hb := X.1.2.1
  have ho := X.1.2.2.2.1
  have hts := X.1.2.2.2.2
  have hZ := X.2.2.2
  intro n9
  induction n9 with
  | zero =>
    intro a4 a3 J z3 H locs ls hf
    exact nomatch hf
  | succ n9 ih =>
    intro a4 a3 J z3 H locs ls hf KK hP hS hl
    rw [fX8_takesOut_L20] at hf
    refine lv_iload hx hb dX8_takesOut_20 (lv_at hl 0 rfl) ?_
    refine lv_aload_n hx hb dX8_takesOut_22 rfl (lv_at hl 3 rfl) ?_
    refine gf_X8_7 X hnJ hP zk_306 dX8_takesOut_23 ?_
    refine lv_iconst (v := (0 : Int32)) hx hb dX8_takesOut_26 (by decide) ?_
    obtain ⟨x3, hx3, hf⟩ := ob_e hf
    refine zr_aldJ X hP hnJ zk_307 hx3 dX8_takesOut_27 ?_
    refine lv_icmp_ge (tgt := 71) hx hb dX8_takesOut_28 (by decide) (fun hc => ?_) (fun hc => ?_)
    · have hf := if_t hc hf
      cases hf
      exact KK H locs ls hP hS (lv_sub hl [1, 2, 3, 4] rfl)
    · have hf := if_f hc hf
      refine lv_iload_n hx hb dX8_takesOut_31 rfl (lv_at hl 1 rfl) ?_
      refine lv_iload_n hx hb dX8_takesOut_32 rfl (lv_at hl 4 rfl) ?_
      refine lv_iload hx hb dX8_takesOut_33 (lv_at hl 0 rfl) ?_
      obtain ⟨x4, hx4, hf⟩ := ob_e hf
      refine zr_cSi (rest := [.int a3]) (As := [.int a1, .int a4]) X hP hS (ct_X8_has (g := g) (nc := nc) (I := I) (J := J) (O := O)  l  hx4) cw_X8_176  rfl hl.1 (Nat.le_of_ble_eq_true rfl) ⟨Nat.le_of_ble_eq_true rfl, Nat.le_of_ble_eq_true rfl⟩ ⟨Nat.le_of_ble_eq_true rfl, Nat.le_of_ble_eq_true rfl⟩ dX8_takesOut_35 rfl (fun H locs hP hS => ?_)
      obtain ⟨x6, ht, hf⟩ := ob_e hf
      have K1 : ∀ (H : Heap) (locs : List Loc) (ls : Array Slot), va_P g.1 vwCl (zb_ws g nc (zb_ce g I J O)) H → va_S (zb_A g) s.heap H locs → lv_has ls 5 [(4, .int a4), (2, .int a2), (0, .ref (g.2.2 + 306)), (1, .int a1)] → W p l e { frames := 3, cells := 0, slots := 0, locals := 70 } s m args below meth c H locs 0 0 Q (F0 m 63 ls [.int x6, .int a3]) := by
        intro H locs ls hP hS hl
        refine lv_ior hx hb dX8_takesOut_63 ?_
        refine lv_istore_n (lv' := [(3, .int (a3 ||| x6)), (4, .int a4), (2, .int a2), (0, .ref (g.2.2 + 306)), (1, .int a1)]) hx hb dX8_takesOut_64 rfl hl (by decide) rfl (fun ls hl => ?_)
        refine lv_iinc (v := (a4 + (1 : Int32))) (lv' := [(4, .int (a4 + (1 : Int32))), (3, .int (a3 ||| x6)), (2, .int a2), (0, .ref (g.2.2 + 306)), (1, .int a1)]) hx hb dX8_takesOut_65 hl (k := 1) rfl rfl (by decide) rfl (fun ls hl => ?_)
        refine lv_goto (tgt := 20) hx hb dX8_takesOut_68 (by decide) ?_
        exact ih hf KK hP hS (lv_sub hl [0, 1, 2, 3, 4] rfl)
      have hf := ht
      refine lv_if_eq (tgt := 62) hx hb dX8_takesOut_38 (by decide) (fun hc => ?_) (fun hc => ?_)
      · have hf := if_t hc hf
        refine lv_iconst (v := (0 : Int32)) hx hb dX8_takesOut_62 (by decide) ?_
        cases hf
        exact K1 H locs ls hP hS (lv_sub hl [0, 2, 3, 4] rfl)
      · have hf := if_f hc hf
        refine lv_iload_n hx hb dX8_takesOut_41 rfl (lv_at hl 2 rfl) ?_
        refine lv_aload_n hx hb dX8_takesOut_42 rfl (lv_at hl 3 rfl) ?_
        refine gf_X8_7 X hnJ hP zk_306 dX8_takesOut_43 ?_
        refine lv_bipush (v := (82 : Int32)) hx hb dX8_takesOut_46 (by decide) ?_
        refine lv_iload hx hb dX8_takesOut_48 (lv_at hl 0 rfl) ?_
        refine lv_iadd hx hb dX8_takesOut_50 ?_
        obtain ⟨x5, hx5, hf⟩ := ob_e hf
        refine zr_aldJ X hP hnJ zk_307 hx5 dX8_takesOut_51 ?_
        refine lv_icmp_lt (tgt := 62) hx hb dX8_takesOut_52 (by decide) (fun hc => ?_) (fun hc => ?_)
        · have hf := if_t hc hf
          refine lv_iconst (v := (0 : Int32)) hx hb dX8_takesOut_62 (by decide) ?_
          cases hf
          exact K1 H locs ls hP hS (lv_sub hl [0, 2, 3, 4] rfl)
        · have hf := if_f hc hf
          refine lv_iconst (v := (1 : Int32)) hx hb dX8_takesOut_55 (by decide) ?_
          refine lv_iload hx hb dX8_takesOut_56 (lv_at hl 0 rfl) ?_
          refine lv_ishl hx hb dX8_takesOut_58 ?_
          refine lv_goto (tgt := 63) hx hb dX8_takesOut_59 (by decide) ?_
          cases hf
          exact K1 H locs ls hP hS (lv_sub hl [0, 2, 3, 4] rfl)
set_option maxHeartbeats 4000000 in
set_option maxRecDepth 100000 in
theorem lpX8_takesOut_L5 {g : zb_G} {nc : Nat} (hnJ : 318 ≤ nc) (l : Launch) {a1 : Int32} {I O : Mem} {p : Program} {e : Env} {s : State} {m : MethodId} {args : Array Value} {below : List Frame} {meth : Method} {c : Code} {Q : State → Prop} (X : zb_X g p m c cX8_takesOut 5 s args RX8 meth) : ∀ {n9 : Nat} {a2 : Int32} {J : Mem} {Jz : Mem} {H : Heap} {locs : List Loc} {ls : Array Slot}, fX8_takesOut_L5 a1 n9 a2 J = some Jz → (∀ (H : Heap) (locs : List Loc) (ls : Array Slot), va_P g.1 vwCl (zb_ws g nc (zb_ce g I Jz O)) H → va_S (zb_A g) s.heap H locs → lv_has ls 5 [] → W p l e { frames := 3, cells := 0, slots := 0, locals := 70 } s m args below meth c H locs 0 0 Q (F0 m 154 ls [])) → va_P g.1 vwCl (zb_ws g nc (zb_ce g I J O)) H → va_S (zb_A g) s.heap H locs → lv_has ls 5 [(2, .int a2), (0, .ref (g.2.2 + 306)), (1, .int a1)] → W p l e { frames := 3, cells := 0, slots := 0, locals := 70 } s m args below meth c H locs 0 0 Q (F0 m 5 ls []) := by
  have hx := X.1.1
  have hb := X.1.2.1
  have ho := X.1.2.2.2.1
  have hts := X.1.2.2.2.2
  have hZ := X.2.2.2
  intro n9
  induction n9 with
  | zero =>
    intro a2 J Jz H locs ls hf
    exact nomatch hf
  | succ n9 ih =>
    intro a2 J Jz H locs ls hf KK hP hS hl
    rw [fX8_takesOut_L5] at hf
    refine lv_iload_n hx hb dX8_takesOut_5 rfl (lv_at hl 0 rfl) ?_
    refine lv_aload_n hx hb dX8_takesOut_6 rfl (lv_at hl 1 rfl) ?_
    refine gf_X8_7 X hnJ hP zk_306 dX8_takesOut_7 ?_
    refine lv_iconst (v := (5 : Int32)) hx hb dX8_takesOut_10 (by decide) ?_
    obtain ⟨x2, hx2, hf⟩ := ob_e hf
    refine zr_aldJ X hP hnJ zk_307 hx2 dX8_takesOut_11 ?_
    refine lv_icmp_ge (tgt := 154) hx hb dX8_takesOut_12 (by decide) (fun hc => ?_) (fun hc => ?_)
    · have hf := if_t hc hf
      cases hf
      exact KK H locs ls hP hS (lv_sub hl [] rfl)
    · have hf := if_f hc hf
      refine lv_iconst (v := (0 : Int32)) hx hb dX8_takesOut_15 (by decide) ?_
      refine lv_istore_n (lv' := [(3, .int (0 : Int32)), (2, .int a2), (0, .ref (g.2.2 + 306)), (1, .int a1)]) hx hb dX8_takesOut_16 rfl hl (by decide) rfl (fun ls hl => ?_)
      refine lv_iconst (v := (0 : Int32)) hx hb dX8_takesOut_17 (by decide) ?_
      refine lv_istore (lv' := [(4, .int (0 : Int32)), (3, .int (0 : Int32)), (2, .int a2), (0, .ref (g.2.2 + 306)), (1, .int a1)]) hx hb dX8_takesOut_18 hl (by decide) rfl (fun ls hl => ?_)
      obtain ⟨x7, hx7, hf⟩ := ob_e hf
      have K2 : ∀ (H : Heap) (locs : List Loc) (ls : Array Slot), va_P g.1 vwCl (zb_ws g nc (zb_ce g I J O)) H → va_S (zb_A g) s.heap H locs → lv_has ls 5 [(3, .int x7), (2, .int a2), (0, .ref (g.2.2 + 306)), (1, .int a1)] → W p l e { frames := 3, cells := 0, slots := 0, locals := 70 } s m args below meth c H locs 0 0 Q (F0 m 71 ls []) := by
        intro H locs ls hP hS hl
        refine lv_iload_n hx hb dX8_takesOut_71 rfl (lv_at hl 0 rfl) ?_
        refine lv_aload_n hx hb dX8_takesOut_72 rfl (lv_at hl 2 rfl) ?_
        refine lv_iload_n hx hb dX8_takesOut_73 rfl (lv_at hl 1 rfl) ?_
        refine lv_iconst (v := (0 : Int32)) hx hb dX8_takesOut_74 (by decide) ?_
        obtain ⟨x8, hx8, hf⟩ := ob_e hf
        refine zr_cVi (rest := [.int x7]) (As := [.int a2, .int (0 : Int32)]) X hP hS (ct_X8_of (g := g) (nc := nc) (I := I) (J := J) (O := O) hnJ l  hx8) cw_X8_209 (zr_recv X hP (Nat.lt_of_lt_of_le (zk_306).2.1 hnJ) (zb_ceJo zk_306 (by decide)) rfl) rfl hl.1 (Nat.le_of_ble_eq_true rfl) ⟨Nat.le_of_ble_eq_true rfl, Nat.le_of_ble_eq_true rfl⟩ ⟨Nat.le_of_ble_eq_true rfl, Nat.le_of_ble_eq_true rfl⟩ dX8_takesOut_75 rfl (fun H locs hP hS => ?_)
        refine lv_iand hx hb dX8_takesOut_78 ?_
        refine lv_istore_n (lv' := [(3, .int (x7 &&& x8)), (2, .int a2), (0, .ref (g.2.2 + 306)), (1, .int a1)]) hx hb dX8_takesOut_79 rfl hl (by decide) rfl (fun ls hl => ?_)
        refine lv_iload_n hx hb dX8_takesOut_80 rfl (lv_at hl 0 rfl) ?_
        obtain ⟨J19, ht, hf⟩ := ob_e hf
        have K3 : ∀ (H : Heap) (locs : List Loc) (ls : Array Slot), va_P g.1 vwCl (zb_ws g nc (zb_ce g I J19 O)) H → va_S (zb_A g) s.heap H locs → lv_has ls 5 [(2, .int a2), (0, .ref (g.2.2 + 306)), (1, .int a1)] → W p l e { frames := 3, cells := 0, slots := 0, locals := 70 } s m args below meth c H locs 0 0 Q (F0 m 148 ls []) := by
          intro H locs ls hP hS hl
          refine lv_iinc (v := (a2 + (1 : Int32))) (lv' := [(2, .int (a2 + (1 : Int32))), (0, .ref (g.2.2 + 306)), (1, .int a1)]) hx hb dX8_takesOut_148 hl (k := 0) rfl rfl (by decide) rfl (fun ls hl => ?_)
          refine lv_goto (tgt := 5) hx hb dX8_takesOut_151 (by decide) ?_
          exact ih hf KK hP hS (lv_sub hl [0, 1, 2] rfl)
        have hf := ht
        refine lv_if_ne (tgt := 87) hx hb dX8_takesOut_81 (by decide) (fun hc => ?_) (fun hc => ?_)
        · have hf := if_f hc hf
          refine lv_aload_n hx hb dX8_takesOut_87 rfl (lv_at hl 2 rfl) ?_
          refine lv_iload_n hx hb dX8_takesOut_88 rfl (lv_at hl 1 rfl) ?_
          refine lv_iconst (v := (0 : Int32)) hx hb dX8_takesOut_89 (by decide) ?_
          refine lv_aload_n hx hb dX8_takesOut_90 rfl (lv_at hl 2 rfl) ?_
          refine lv_iload_n hx hb dX8_takesOut_91 rfl (lv_at hl 1 rfl) ?_
          refine lv_iconst (v := (0 : Int32)) hx hb dX8_takesOut_92 (by decide) ?_
          obtain ⟨x9, hx9, hf⟩ := ob_e hf
          refine zr_cVi (rest := [.int (0 : Int32), .int a2, .ref (g.2.2 + 306)]) (As := [.int a2, .int (0 : Int32)]) X hP hS (ct_X8_of (g := g) (nc := nc) (I := I) (J := J) (O := O) hnJ l  hx9) cw_X8_209 (zr_recv X hP (Nat.lt_of_lt_of_le (zk_306).2.1 hnJ) (zb_ceJo zk_306 (by decide)) rfl) rfl hl.1 (Nat.le_of_ble_eq_true rfl) ⟨Nat.le_of_ble_eq_true rfl, Nat.le_of_ble_eq_true rfl⟩ ⟨Nat.le_of_ble_eq_true rfl, Nat.le_of_ble_eq_true rfl⟩ dX8_takesOut_93 rfl (fun H locs hP hS => ?_)
          refine lv_iload_n hx hb dX8_takesOut_96 rfl (lv_at hl 0 rfl) ?_
          refine lv_iconst (v := (-1 : Int32)) hx hb dX8_takesOut_97 (by decide) ?_
          refine lv_ixor hx hb dX8_takesOut_98 ?_
          refine lv_iand hx hb dX8_takesOut_99 ?_
          obtain ⟨J10, hJ10, hf⟩ := ob_e hf
          refine zr_cVv (rest := []) (As := [.int a2, .int (0 : Int32), .int (x9 &&& ((x7 &&& x8) ^^^ (-1 : Int32)))]) X hP hS (ct_X8_sets (g := g) (nc := nc) (I := I) (J := J) (O := O) hnJ l  hJ10) cw_X8_212 (zr_recv X hP (Nat.lt_of_lt_of_le (zk_306).2.1 hnJ) (zb_ceJo zk_306 (by decide)) rfl) rfl hl.1 (Nat.le_of_ble_eq_true rfl) ⟨Nat.le_of_ble_eq_true rfl, Nat.le_of_ble_eq_true rfl⟩ ⟨Nat.le_of_ble_eq_true rfl, Nat.le_of_ble_eq_true rfl⟩ dX8_takesOut_100 rfl (fun H locs hP hS => ?_)
          refine lv_aload_n hx hb dX8_takesOut_103 rfl (lv_at hl 2 rfl) ?_
          refine lv_iload_n hx hb dX8_takesOut_104 rfl (lv_at hl 1 rfl) ?_
          refine lv_iconst (v := (4 : Int32)) hx hb dX8_takesOut_105 (by decide) ?_
          refine lv_aload_n hx hb dX8_takesOut_106 rfl (lv_at hl 2 rfl) ?_
          refine lv_iload_n hx hb dX8_takesOut_107 rfl (lv_at hl 1 rfl) ?_
          refine lv_iconst (v := (4 : Int32)) hx hb dX8_takesOut_108 (by decide) ?_
          obtain ⟨x11, hx11, hf⟩ := ob_e hf
          refine zr_cVi (rest := [.int (4 : Int32), .int a2, .ref (g.2.2 + 306)]) (As := [.int a2, .int (4 : Int32)]) X hP hS (ct_X8_of (g := g) (nc := nc) (I := I) (J := J10) (O := O) hnJ l  hx11) cw_X8_209 (zr_recv X hP (Nat.lt_of_lt_of_le (zk_306).2.1 hnJ) (zb_ceJo zk_306 (by decide)) rfl) rfl hl.1 (Nat.le_of_ble_eq_true rfl) ⟨Nat.le_of_ble_eq_true rfl, Nat.le_of_ble_eq_true rfl⟩ ⟨Nat.le_of_ble_eq_true rfl, Nat.le_of_ble_eq_true rfl⟩ dX8_takesOut_109 rfl (fun H locs hP hS => ?_)
          refine lv_iload_n hx hb dX8_takesOut_112 rfl (lv_at hl 0 rfl) ?_
          refine lv_ior hx hb dX8_takesOut_113 ?_
          obtain ⟨J12, hJ12, hf⟩ := ob_e hf
          refine zr_cVv (rest := []) (As := [.int a2, .int (4 : Int32), .int (x11 ||| (x7 &&& x8))]) X hP hS (ct_X8_sets (g := g) (nc := nc) (I := I) (J := J10) (O := O) hnJ l  hJ12) cw_X8_212 (zr_recv X hP (Nat.lt_of_lt_of_le (zk_306).2.1 hnJ) (zb_ceJo zk_306 (by decide)) rfl) rfl hl.1 (Nat.le_of_ble_eq_true rfl) ⟨Nat.le_of_ble_eq_true rfl, Nat.le_of_ble_eq_true rfl⟩ ⟨Nat.le_of_ble_eq_true rfl, Nat.le_of_ble_eq_true rfl⟩ dX8_takesOut_114 rfl (fun H locs hP hS => ?_)
          refine lv_aload_n hx hb dX8_takesOut_117 rfl (lv_at hl 2 rfl) ?_
          refine lv_iload_n hx hb dX8_takesOut_118 rfl (lv_at hl 1 rfl) ?_
          obtain ⟨J13, hJ13, hf⟩ := ob_e hf
          refine zr_cVv (rest := []) (As := [.int a2]) X hP hS (ct_X8_laysValues (g := g) (nc := nc) (I := I) (J := J12) (O := O) hnJ l  hJ13) cw_X8_216 (zr_recv X hP (Nat.lt_of_lt_of_le (zk_306).2.1 hnJ) (zb_ceJo zk_306 (by decide)) rfl) rfl hl.1 (Nat.le_of_ble_eq_true rfl) ⟨Nat.le_of_ble_eq_true rfl, Nat.le_of_ble_eq_true rfl⟩ ⟨Nat.le_of_ble_eq_true rfl, Nat.le_of_ble_eq_true rfl⟩ dX8_takesOut_119 rfl (fun H locs hP hS => ?_)
          refine lv_aload_n hx hb dX8_takesOut_122 rfl (lv_at hl 2 rfl) ?_
          refine lv_aload_n hx hb dX8_takesOut_123 rfl (lv_at hl 2 rfl) ?_
          refine lv_iload_n hx hb dX8_takesOut_124 rfl (lv_at hl 1 rfl) ?_
          refine lv_iconst (v := (0 : Int32)) hx hb dX8_takesOut_125 (by decide) ?_
          obtain ⟨x14, hx14, hf⟩ := ob_e hf
          refine zr_cVi (rest := [.ref (g.2.2 + 306)]) (As := [.int a2, .int (0 : Int32)]) X hP hS (ct_X8_of (g := g) (nc := nc) (I := I) (J := J13) (O := O) hnJ l  hx14) cw_X8_209 (zr_recv X hP (Nat.lt_of_lt_of_le (zk_306).2.1 hnJ) (zb_ceJo zk_306 (by decide)) rfl) rfl hl.1 (Nat.le_of_ble_eq_true rfl) ⟨Nat.le_of_ble_eq_true rfl, Nat.le_of_ble_eq_true rfl⟩ ⟨Nat.le_of_ble_eq_true rfl, Nat.le_of_ble_eq_true rfl⟩ dX8_takesOut_126 rfl (fun H locs hP hS => ?_)
          obtain ⟨J15, hJ15, hf⟩ := ob_e hf
          refine zr_cVv (rest := []) (As := [.int x14]) X hP hS (ct_X8_tells (g := g) (nc := nc) (I := I) (J := J13) (O := O) hnJ l  hJ15) cw_X8_219 (zr_recv X hP (Nat.lt_of_lt_of_le (zk_306).2.1 hnJ) (zb_ceJo zk_306 (by decide)) rfl) rfl hl.1 (Nat.le_of_ble_eq_true rfl) ⟨Nat.le_of_ble_eq_true rfl, Nat.le_of_ble_eq_true rfl⟩ ⟨Nat.le_of_ble_eq_true rfl, Nat.le_of_ble_eq_true rfl⟩ dX8_takesOut_129 rfl (fun H locs hP hS => ?_)
          refine lv_aload_n hx hb dX8_takesOut_132 rfl (lv_at hl 2 rfl) ?_
          refine lv_iload_n hx hb dX8_takesOut_133 rfl (lv_at hl 1 rfl) ?_
          obtain ⟨J16, hJ16, hf⟩ := ob_e hf
          refine zr_cVv (rest := []) (As := [.int a2]) X hP hS (ct_X8_keepsLevel (g := g) (nc := nc) (I := I) (J := J15) (O := O) hnJ l  hJ16) cw_X8_222 (zr_recv X hP (Nat.lt_of_lt_of_le (zk_306).2.1 hnJ) (zb_ceJo zk_306 (by decide)) rfl) rfl hl.1 (Nat.le_of_ble_eq_true rfl) ⟨Nat.le_of_ble_eq_true rfl, Nat.le_of_ble_eq_true rfl⟩ ⟨Nat.le_of_ble_eq_true rfl, Nat.le_of_ble_eq_true rfl⟩ dX8_takesOut_134 rfl (fun H locs hP hS => ?_)
          refine lv_aload_n hx hb dX8_takesOut_137 rfl (lv_at hl 2 rfl) ?_
          refine gf_X8_7 X hnJ hP zk_306 dX8_takesOut_138 ?_
          refine lv_bipush (v := (8 : Int32)) hx hb dX8_takesOut_141 (by decide) ?_
          refine lv_dup2_11 hx hb dX8_takesOut_143 rfl rfl ?_
          obtain ⟨x17, hx17, hf⟩ := ob_e hf
          refine zr_aldJ X hP hnJ zk_307 hx17 dX8_takesOut_144 ?_
          refine lv_iconst (v := (1 : Int32)) hx hb dX8_takesOut_145 (by decide) ?_
          refine lv_iadd hx hb dX8_takesOut_146 ?_
          obtain ⟨J18, hJ18, hf⟩ := ob_e hf
          refine zr_astJ X hP hS hnJ zk_307 hJ18 dX8_takesOut_147 (fun H locs hP hS => ?_)
          cases hf
          exact K3 H locs ls hP hS (lv_sub hl [1, 2, 3] rfl)
        · have hf := if_t hc hf
          refine lv_goto (tgt := 148) hx hb dX8_takesOut_84 (by decide) ?_
          cases hf
          exact K3 H locs ls hP hS (lv_sub hl [1, 2, 3] rfl)
      exact lpX8_takesOut_L20 hnJ l  X hx7 K2 hP hS (lv_sub hl [0, 1, 2, 3, 4] rfl)
set_option maxHeartbeats 4000000 in
set_option maxRecDepth 100000 in
theorem ct_X8_takesOut {g : zb_G} {nc : Nat} (hnJ : 318 ≤ nc) (l : Launch) {a1 : Int32} {I J O : Mem} {Jq : Mem} (hf : fX8_takesOut a1 J = some Jq) : zb_Ct l g nc yX8_takesOut cX8_takesOut 5 none 3 70 [.ref (g.2.2 + 306), .int a1] (zb_ce g I J O) none (zb_ce g I Jq O) := by
  refine zb_ofW (own := RX8) (by decide +kernel) rfl (Nat.le_of_ble_eq_true rfl) ?_
  intro p e s m args below meth c ls X hr hP hl
  have hx := X.1.1
  have hb := X.1.2.1
  have ho := X.1.2.2.2.1
  have hts := X.1.2.2.2.2
  have hZ := X.2.2.2
  have hl : lv_has ls 5 [(0, .ref (g.2.2 + 306)), (1, .int a1)] := hl
  have hS : va_S (zb_A g) s.heap s.heap [] := va_S.rf
  obtain ⟨H, hH⟩ : ∃ H, H = s.heap := ⟨_, rfl⟩
  obtain ⟨locs, hlocs⟩ : ∃ z : List Loc, z = [] := ⟨_, rfl⟩
  rw [← hH] at hP
  have hS : va_S (zb_A g) s.heap H locs := by rw [hH, hlocs]; exact hS
  show W p l e _ s m args below meth c s.heap [] 0 0 _ _
  rw [← hH, ← hlocs]
  rw [fX8_takesOut] at hf
  refine lv_aload_n hx hb dX8_takesOut_0 rfl (lv_at hl 0 rfl) ?_
  obtain ⟨x1, hx1, hf⟩ := ob_e hf
  refine zr_cVi (rest := []) (As := []) X hP hS (ct_X8_firstHour (g := g) (nc := nc) (I := I) (J := J) (O := O) hnJ l  hx1) cw_X8_203 (zr_recv X hP (Nat.lt_of_lt_of_le (zk_306).2.1 hnJ) (zb_ceJo zk_306 (by decide)) rfl) rfl hl.1 (Nat.le_of_ble_eq_true rfl) ⟨Nat.le_of_ble_eq_true rfl, Nat.le_of_ble_eq_true rfl⟩ ⟨Nat.le_of_ble_eq_true rfl, Nat.le_of_ble_eq_true rfl⟩ dX8_takesOut_1 rfl (fun H locs hP hS => ?_)
  refine lv_istore_n (lv' := [(2, .int x1), (0, .ref (g.2.2 + 306)), (1, .int a1)]) hx hb dX8_takesOut_4 rfl hl (by decide) rfl (fun ls hl => ?_)
  obtain ⟨J20, hJ20, hf⟩ := ob_e hf
  have K4 : ∀ (H : Heap) (locs : List Loc) (ls : Array Slot), va_P g.1 vwCl (zb_ws g nc (zb_ce g I J20 O)) H → va_S (zb_A g) s.heap H locs → lv_has ls 5 [] → W p l e { frames := 3, cells := 0, slots := 0, locals := 70 } s m args below meth c H locs 0 0 (MQ below (zb_Po g nc (zb_ce g I Jq O) none) args s 0 0 (zb_A g)) (F0 m 154 ls []) := by
    intro H locs ls hP hS hl
    cases hf
    exact zr_vret X hr hP hS rfl dX8_takesOut_154
  exact lpX8_takesOut_L5 hnJ l  X hJ20 K4 hP hS (lv_sub hl [0, 1, 2] rfl)
set_option maxHeartbeats 4000000 in
set_option maxRecDepth 100000 in
theorem lpX8_ends_L100 {g : zb_G} {nc : Nat} (hnJ : 318 ≤ nc) (l : Launch) {a5 : Int32} {a4 : Int32} {I O : Mem} {p : Program} {e : Env} {s : State} {m : MethodId} {args : Array Value} {below : List Frame} {meth : Method} {c : Code} {Q : State → Prop} (X : zb_X g p m c cX8_ends 7 s args RX8 meth) : ∀ {n9 : Nat} {a6 : Int32} {J : Mem} {Jz : Mem} {H : Heap} {locs : List Loc} {ls : Array Slot}, fX8_ends_L100 a5 a4 n9 a6 J = some Jz → (∀ (H : Heap) (locs : List Loc) (ls : Array Slot), va_P g.1 vwCl (zb_ws g nc (zb_ce g I Jz O)) H → va_S (zb_A g) s.heap H locs → lv_has ls 7 [(4, .int a4), (0, .ref (g.2.2 + 306))] → W p l e { frames := 4, cells := 0, slots := 0, locals := 94 } s m args below meth c H locs 0 0 Q (F0 m 148 ls [])) → va_P g.1 vwCl (zb_ws g nc (zb_ce g I J O)) H → va_S (zb_A g) s.heap H locs → lv_has ls 7 [(6, .int a6), (5, .int a5), (4, .int a4), (0, .ref (g.2.2 + 306))] → W p l e { frames := 4, cells := 0, slots := 0, locals := 94 } s m args below meth c H locs 0 0 Q (F0 m 100 ls []) := by
  have hx := X.1.1
  have hb := X.1.2.1
  have ho := X.1.2.2.2.1
  have hts := X.1.2.2.2.2
  have hZ := X.2.2.2
  intro n9
  induction n9 with
  | zero =>
    intro a6 J Jz H locs ls hf
    exact nomatch hf
  | succ n9 ih =>
    intro a6 J Jz H locs ls hf KK hP hS hl
    rw [fX8_ends_L100] at hf
    refine lv_iload hx hb dX8_ends_100 (lv_at hl 0 rfl) ?_
    refine lv_bipush (v := (10 : Int32)) hx hb dX8_ends_102 (by decide) ?_
    refine lv_icmp_ge (tgt := 148) hx hb dX8_ends_104 (by decide) (fun hc => ?_) (fun hc => ?_)
    · have hf := if_t hc hf
      cases hf
      exact KK H locs ls hP hS (lv_sub hl [2, 3] rfl)
    · have hf := if_f hc hf
      refine lv_aload_n hx hb dX8_ends_107 rfl (lv_at hl 3 rfl) ?_
      refine gf_X8_7 X hnJ hP zk_306 dX8_ends_108 ?_
      refine lv_iload hx hb dX8_ends_111 (lv_at hl 1 rfl) ?_
      refine lv_bipush (v := (8 : Int32)) hx hb dX8_ends_113 (by decide) ?_
      refine lv_iadd hx hb dX8_ends_115 ?_
      refine lv_iload hx hb dX8_ends_116 (lv_at hl 0 rfl) ?_
      refine lv_iadd hx hb dX8_ends_118 ?_
      refine lv_iload hx hb dX8_ends_119 (lv_at hl 0 rfl) ?_
      refine lv_aload_n hx hb dX8_ends_121 rfl (lv_at hl 3 rfl) ?_
      refine gf_X8_7 X hnJ hP zk_306 dX8_ends_122 ?_
      refine lv_iconst (v := (0 : Int32)) hx hb dX8_ends_125 (by decide) ?_
      obtain ⟨x21, hx21, hf⟩ := ob_e hf
      refine zr_aldJ X hP hnJ zk_307 hx21 dX8_ends_126 ?_
      obtain ⟨x23, ht, hf⟩ := ob_e hf
      have K1 : ∀ (H : Heap) (locs : List Loc) (ls : Array Slot), va_P g.1 vwCl (zb_ws g nc (zb_ce g I J O)) H → va_S (zb_A g) s.heap H locs → lv_has ls 7 [(6, .int a6), (5, .int a5), (4, .int a4), (0, .ref (g.2.2 + 306))] → W p l e { frames := 4, cells := 0, slots := 0, locals := 94 } s m args below meth c H locs 0 0 Q (F0 m 141 ls [.int x23, .int ((a5 + (8 : Int32)) + a6), .ref (g.2.2 + 307)]) := by
        intro H locs ls hP hS hl
        obtain ⟨J24, hJ24, hf⟩ := ob_e hf
        refine zr_astJ X hP hS hnJ zk_307 hJ24 dX8_ends_141 (fun H locs hP hS => ?_)
        refine lv_iinc (v := (a6 + (1 : Int32))) (lv' := [(6, .int (a6 + (1 : Int32))), (5, .int a5), (4, .int a4), (0, .ref (g.2.2 + 306))]) hx hb dX8_ends_142 hl (k := 0) rfl rfl (by decide) rfl (fun ls hl => ?_)
        refine lv_goto (tgt := 100) hx hb dX8_ends_145 (by decide) ?_
        exact ih hf KK hP hS (lv_sub hl [0, 1, 2, 3] rfl)
      have hf := ht
      refine lv_icmp_ge (tgt := 140) hx hb dX8_ends_127 (by decide) (fun hc => ?_) (fun hc => ?_)
      · have hf := if_t hc hf
        refine lv_iconst (v := (0 : Int32)) hx hb dX8_ends_140 (by decide) ?_
        cases hf
        exact K1 H locs ls hP hS (lv_sub hl [0, 1, 2, 3] rfl)
      · have hf := if_f hc hf
        refine lv_aload_n hx hb dX8_ends_130 rfl (lv_at hl 3 rfl) ?_
        refine gf_X8_40 X hnJ hP zk_306 dX8_ends_131 ?_
        refine lv_iload hx hb dX8_ends_134 (lv_at hl 0 rfl) ?_
        obtain ⟨x22, hx22, hf⟩ := ob_e hf
        refine zr_aldJ X hP hnJ zk_315 hx22 dX8_ends_136 ?_
        refine lv_goto (tgt := 141) hx hb dX8_ends_137 (by decide) ?_
        cases hf
        exact K1 H locs ls hP hS (lv_sub hl [0, 1, 2, 3] rfl)
set_option maxHeartbeats 4000000 in
set_option maxRecDepth 100000 in
theorem lpX8_ends_L169 {g : zb_G} {nc : Nat} (hnJ : 318 ≤ nc) (l : Launch) {a4 : Int32} {I O : Mem} {p : Program} {e : Env} {s : State} {m : MethodId} {args : Array Value} {below : List Frame} {meth : Method} {c : Code} {Q : State → Prop} (X : zb_X g p m c cX8_ends 7 s args RX8 meth) : ∀ {n9 : Nat} {a6 : Int32} {J : Mem} {Jz : Mem} {H : Heap} {locs : List Loc} {ls : Array Slot}, fX8_ends_L169 a4 n9 a6 J = some Jz → (∀ (H : Heap) (locs : List Loc) (ls : Array Slot), va_P g.1 vwCl (zb_ws g nc (zb_ce g I Jz O)) H → va_S (zb_A g) s.heap H locs → lv_has ls 7 [(4, .int a4)] → W p l e { frames := 4, cells := 0, slots := 0, locals := 94 } s m args below meth c H locs 0 0 Q (F0 m 204 ls [])) → va_P g.1 vwCl (zb_ws g nc (zb_ce g I J O)) H → va_S (zb_A g) s.heap H locs → lv_has ls 7 [(6, .int a6), (4, .int a4), (0, .ref (g.2.2 + 306))] → W p l e { frames := 4, cells := 0, slots := 0, locals := 94 } s m args below meth c H locs 0 0 Q (F0 m 169 ls []) := by
  have hx := X.1.1
  have hb := X.1.2.1
  have ho := X.1.2.2.2.1
  have hts := X.1.2.2.2.2
  have hZ := X.2.2.2
  intro n9
  induction n9 with
  | zero =>
    intro a6 J Jz H locs ls hf
    exact nomatch hf
  | succ n9 ih =>
    intro a6 J Jz H locs ls hf KK hP hS hl
    rw [fX8_ends_L169] at hf
    refine lv_iload hx hb dX8_ends_169 (lv_at hl 0 rfl) ?_
    refine lv_bipush (v := (10 : Int32)) hx hb dX8_ends_171 (by decide) ?_
    refine lv_icmp_ge (tgt := 204) hx hb dX8_ends_173 (by decide) (fun hc => ?_) (fun hc => ?_)
    · have hf := if_t hc hf
      cases hf
      exact KK H locs ls hP hS (lv_sub hl [1] rfl)
    · have hf := if_f hc hf
      refine lv_aload_n hx hb dX8_ends_176 rfl (lv_at hl 2 rfl) ?_
      refine gf_X8_7 X hnJ hP zk_306 dX8_ends_177 ?_
      refine lv_bipush (v := (92 : Int32)) hx hb dX8_ends_180 (by decide) ?_
      refine lv_iload hx hb dX8_ends_182 (lv_at hl 0 rfl) ?_
      refine lv_iadd hx hb dX8_ends_184 ?_
      refine lv_iconst (v := (0 : Int32)) hx hb dX8_ends_185 (by decide) ?_
      obtain ⟨J29, hJ29, hf⟩ := ob_e hf
      refine zr_astJ X hP hS hnJ zk_307 hJ29 dX8_ends_186 (fun H locs hP hS => ?_)
      refine lv_aload_n hx hb dX8_ends_187 rfl (lv_at hl 2 rfl) ?_
      refine gf_X8_7 X hnJ hP zk_306 dX8_ends_188 ?_
      refine lv_bipush (v := (102 : Int32)) hx hb dX8_ends_191 (by decide) ?_
      refine lv_iload hx hb dX8_ends_193 (lv_at hl 0 rfl) ?_
      refine lv_iadd hx hb dX8_ends_195 ?_
      refine lv_iconst (v := (0 : Int32)) hx hb dX8_ends_196 (by decide) ?_
      obtain ⟨J30, hJ30, hf⟩ := ob_e hf
      refine zr_astJ X hP hS hnJ zk_307 hJ30 dX8_ends_197 (fun H locs hP hS => ?_)
      refine lv_iinc (v := (a6 + (1 : Int32))) (lv' := [(6, .int (a6 + (1 : Int32))), (4, .int a4), (0, .ref (g.2.2 + 306))]) hx hb dX8_ends_198 hl (k := 0) rfl rfl (by decide) rfl (fun ls hl => ?_)
      refine lv_goto (tgt := 169) hx hb dX8_ends_201 (by decide) ?_
      exact ih hf KK hP hS (lv_sub hl [0, 1, 2] rfl)
set_option maxHeartbeats 4000000 in
set_option maxRecDepth 100000 in
theorem ct_X8_ends {g : zb_G} {nc : Nat} (hnJ : 318 ≤ nc) (l : Launch) {I J O : Mem} {r9 : Int32} {Jq : Mem} (hf : fX8_ends J = some (r9, Jq)) : zb_Ct l g nc yX8_ends cX8_ends 7 (some .int) 4 94 [.ref (g.2.2 + 306)] (zb_ce g I J O) (some (.int r9)) (zb_ce g I Jq O) := by
  refine zb_ofW (own := RX8) (by decide +kernel) rfl (Nat.le_of_ble_eq_true rfl) ?_
  intro p e s m args below meth c ls X hr hP hl
  have hx := X.1.1
  have hb := X.1.2.1
  have ho := X.1.2.2.2.1
  have hts := X.1.2.2.2.2
  have hZ := X.2.2.2
  have hl : lv_has ls 7 [(0, .ref (g.2.2 + 306))] := hl
  have hS : va_S (zb_A g) s.heap s.heap [] := va_S.rf
  obtain ⟨H, hH⟩ : ∃ H, H = s.heap := ⟨_, rfl⟩
  obtain ⟨locs, hlocs⟩ : ∃ z : List Loc, z = [] := ⟨_, rfl⟩
  rw [← hH] at hP
  have hS : va_S (zb_A g) s.heap H locs := by rw [hH, hlocs]; exact hS
  show W p l e _ s m args below meth c s.heap [] 0 0 _ _
  rw [← hH, ← hlocs]
  rw [fX8_ends] at hf
  refine lv_aload_n hx hb dX8_ends_0 rfl (lv_at hl 0 rfl) ?_
  refine lv_iconst (v := (-1 : Int32)) hx hb dX8_ends_1 (by decide) ?_
  obtain ⟨x1, J2, hx1_J2, hf⟩ := ob2_e hf
  refine zr_cVi (rest := []) (As := [.int (-1 : Int32)]) X hP hS (ct_X8_reporters (g := g) (nc := nc) (I := I) (J := J) (O := O) hnJ l  hx1_J2) cw_X8_225 (zr_recv X hP (Nat.lt_of_lt_of_le (zk_306).2.1 hnJ) (zb_ceJo zk_306 (by decide)) rfl) rfl hl.1 (Nat.le_of_ble_eq_true rfl) ⟨Nat.le_of_ble_eq_true rfl, Nat.le_of_ble_eq_true rfl⟩ ⟨Nat.le_of_ble_eq_true rfl, Nat.le_of_ble_eq_true rfl⟩ dX8_ends_2 rfl (fun H locs hP hS => ?_)
  refine lv_istore_n (lv' := [(1, .int x1), (0, .ref (g.2.2 + 306))]) hx hb dX8_ends_5 rfl hl (by decide) rfl (fun ls hl => ?_)
  refine lv_aload_n hx hb dX8_ends_6 rfl (lv_at hl 1 rfl) ?_
  refine lv_iconst (v := (1 : Int32)) hx hb dX8_ends_7 (by decide) ?_
  obtain ⟨x3, J4, hx3_J4, hf⟩ := ob2_e hf
  refine zr_cVi (rest := []) (As := [.int (1 : Int32)]) X hP hS (ct_X8_reporters (g := g) (nc := nc) (I := I) (J := J2) (O := O) hnJ l  hx3_J4) cw_X8_225 (zr_recv X hP (Nat.lt_of_lt_of_le (zk_306).2.1 hnJ) (zb_ceJo zk_306 (by decide)) rfl) rfl hl.1 (Nat.le_of_ble_eq_true rfl) ⟨Nat.le_of_ble_eq_true rfl, Nat.le_of_ble_eq_true rfl⟩ ⟨Nat.le_of_ble_eq_true rfl, Nat.le_of_ble_eq_true rfl⟩ dX8_ends_8 rfl (fun H locs hP hS => ?_)
  refine lv_istore_n (lv' := [(2, .int x3), (1, .int x1), (0, .ref (g.2.2 + 306))]) hx hb dX8_ends_11 rfl hl (by decide) rfl (fun ls hl => ?_)
  refine lv_aload_n hx hb dX8_ends_12 rfl (lv_at hl 2 rfl) ?_
  refine lv_iconst (v := (0 : Int32)) hx hb dX8_ends_13 (by decide) ?_
  obtain ⟨x5, J6, hx5_J6, hf⟩ := ob2_e hf
  refine zr_cVi (rest := []) (As := [.int (0 : Int32)]) X hP hS (ct_X8_reporters (g := g) (nc := nc) (I := I) (J := J4) (O := O) hnJ l  hx5_J6) cw_X8_225 (zr_recv X hP (Nat.lt_of_lt_of_le (zk_306).2.1 hnJ) (zb_ceJo zk_306 (by decide)) rfl) rfl hl.1 (Nat.le_of_ble_eq_true rfl) ⟨Nat.le_of_ble_eq_true rfl, Nat.le_of_ble_eq_true rfl⟩ ⟨Nat.le_of_ble_eq_true rfl, Nat.le_of_ble_eq_true rfl⟩ dX8_ends_14 rfl (fun H locs hP hS => ?_)
  refine lv_istore_n (lv' := [(3, .int x5), (2, .int x3), (1, .int x1), (0, .ref (g.2.2 + 306))]) hx hb dX8_ends_17 rfl hl (by decide) rfl (fun ls hl => ?_)
  refine lv_aload_n hx hb dX8_ends_18 rfl (lv_at hl 3 rfl) ?_
  refine lv_iload_n hx hb dX8_ends_19 rfl (lv_at hl 0 rfl) ?_
  obtain ⟨J7, hJ7, hf⟩ := ob_e hf
  refine zr_cVv (rest := []) (As := [.int x5]) X hP hS (ct_X8_tells (g := g) (nc := nc) (I := I) (J := J6) (O := O) hnJ l  hJ7) cw_X8_219 (zr_recv X hP (Nat.lt_of_lt_of_le (zk_306).2.1 hnJ) (zb_ceJo zk_306 (by decide)) rfl) rfl hl.1 (Nat.le_of_ble_eq_true rfl) ⟨Nat.le_of_ble_eq_true rfl, Nat.le_of_ble_eq_true rfl⟩ ⟨Nat.le_of_ble_eq_true rfl, Nat.le_of_ble_eq_true rfl⟩ dX8_ends_20 rfl (fun H locs hP hS => ?_)
  refine lv_iconst (v := (0 : Int32)) hx hb dX8_ends_23 (by decide) ?_
  refine lv_istore (lv' := [(4, .int (0 : Int32)), (3, .int x5), (2, .int x3), (1, .int x1), (0, .ref (g.2.2 + 306))]) hx hb dX8_ends_24 hl (by decide) rfl (fun ls hl => ?_)
  refine lv_aload_n hx hb dX8_ends_26 rfl (lv_at hl 4 rfl) ?_
  refine gf_X8_185 X hnJ hP zk_306 dX8_ends_27 ?_
  obtain ⟨x12, J13, ht, hf⟩ := ob2_e hf
  have K2 : ∀ (H : Heap) (locs : List Loc) (ls : Array Slot), va_P g.1 vwCl (zb_ws g nc (zb_ce g I J13 O)) H → va_S (zb_A g) s.heap H locs → lv_has ls 7 [(4, .int x12), (3, .int x5), (2, .int x3), (1, .int x1), (0, .ref (g.2.2 + 306))] → W p l e { frames := 4, cells := 0, slots := 0, locals := 94 } s m args below meth c H locs 0 0 (MQ below (zb_Po g nc (zb_ce g I Jq O) (some (.int r9))) args s 0 0 (zb_A g)) (F0 m 50 ls []) := by
    intro H locs ls hP hS hl
    refine lv_aload_n hx hb dX8_ends_50 rfl (lv_at hl 4 rfl) ?_
    obtain ⟨x14, J15, hx14_J15, hf⟩ := ob2_e hf
    refine zr_cVi (rest := []) (As := []) X hP hS (ct_X8_newHour (g := g) (nc := nc) (I := I) (J := J13) (O := O) hnJ l  hx14_J15) cw_X8_237 (zr_recv X hP (Nat.lt_of_lt_of_le (zk_306).2.1 hnJ) (zb_ceJo zk_306 (by decide)) rfl) rfl hl.1 (Nat.le_of_ble_eq_true rfl) ⟨Nat.le_of_ble_eq_true rfl, Nat.le_of_ble_eq_true rfl⟩ ⟨Nat.le_of_ble_eq_true rfl, Nat.le_of_ble_eq_true rfl⟩ dX8_ends_51 rfl (fun H locs hP hS => ?_)
    refine lv_istore (lv' := [(5, .int x14), (4, .int x12), (3, .int x5), (2, .int x3), (1, .int x1), (0, .ref (g.2.2 + 306))]) hx hb dX8_ends_54 hl (by decide) rfl (fun ls hl => ?_)
    refine lv_aload_n hx hb dX8_ends_56 rfl (lv_at hl 5 rfl) ?_
    refine gf_X8_7 X hnJ hP zk_306 dX8_ends_57 ?_
    refine lv_iconst (v := (5 : Int32)) hx hb dX8_ends_60 (by decide) ?_
    refine lv_dup2_11 hx hb dX8_ends_61 rfl rfl ?_
    obtain ⟨x16, hx16, hf⟩ := ob_e hf
    refine zr_aldJ X hP hnJ zk_307 hx16 dX8_ends_62 ?_
    refine lv_iconst (v := (1 : Int32)) hx hb dX8_ends_63 (by decide) ?_
    refine lv_iadd hx hb dX8_ends_64 ?_
    obtain ⟨J17, hJ17, hf⟩ := ob_e hf
    refine zr_astJ X hP hS hnJ zk_307 hJ17 dX8_ends_65 (fun H locs hP hS => ?_)
    refine lv_aload_n hx hb dX8_ends_66 rfl (lv_at hl 5 rfl) ?_
    refine gf_X8_7 X hnJ hP zk_306 dX8_ends_67 ?_
    refine lv_iload hx hb dX8_ends_70 (lv_at hl 0 rfl) ?_
    refine lv_iconst (v := (0 : Int32)) hx hb dX8_ends_72 (by decide) ?_
    refine lv_iadd hx hb dX8_ends_73 ?_
    refine lv_iload_n hx hb dX8_ends_74 rfl (lv_at hl 2 rfl) ?_
    obtain ⟨J18, hJ18, hf⟩ := ob_e hf
    refine zr_astJ X hP hS hnJ zk_307 hJ18 dX8_ends_75 (fun H locs hP hS => ?_)
    refine lv_aload_n hx hb dX8_ends_76 rfl (lv_at hl 5 rfl) ?_
    refine gf_X8_7 X hnJ hP zk_306 dX8_ends_77 ?_
    refine lv_iload hx hb dX8_ends_80 (lv_at hl 0 rfl) ?_
    refine lv_iconst (v := (3 : Int32)) hx hb dX8_ends_82 (by decide) ?_
    refine lv_iadd hx hb dX8_ends_83 ?_
    refine lv_iload_n hx hb dX8_ends_84 rfl (lv_at hl 4 rfl) ?_
    obtain ⟨J19, hJ19, hf⟩ := ob_e hf
    refine zr_astJ X hP hS hnJ zk_307 hJ19 dX8_ends_85 (fun H locs hP hS => ?_)
    refine lv_aload_n hx hb dX8_ends_86 rfl (lv_at hl 5 rfl) ?_
    refine gf_X8_7 X hnJ hP zk_306 dX8_ends_87 ?_
    refine lv_iload hx hb dX8_ends_90 (lv_at hl 0 rfl) ?_
    refine lv_bipush (v := (6 : Int32)) hx hb dX8_ends_92 (by decide) ?_
    refine lv_iadd hx hb dX8_ends_94 ?_
    refine lv_iload_n hx hb dX8_ends_95 rfl (lv_at hl 3 rfl) ?_
    obtain ⟨J20, hJ20, hf⟩ := ob_e hf
    refine zr_astJ X hP hS hnJ zk_307 hJ20 dX8_ends_96 (fun H locs hP hS => ?_)
    refine lv_iconst (v := (0 : Int32)) hx hb dX8_ends_97 (by decide) ?_
    refine lv_istore (lv' := [(6, .int (0 : Int32)), (5, .int x14), (4, .int x12), (3, .int x5), (2, .int x3), (1, .int x1), (0, .ref (g.2.2 + 306))]) hx hb dX8_ends_98 hl (by decide) rfl (fun ls hl => ?_)
    obtain ⟨J25, hJ25, hf⟩ := ob_e hf
    have K3 : ∀ (H : Heap) (locs : List Loc) (ls : Array Slot), va_P g.1 vwCl (zb_ws g nc (zb_ce g I J25 O)) H → va_S (zb_A g) s.heap H locs → lv_has ls 7 [(4, .int x12), (0, .ref (g.2.2 + 306))] → W p l e { frames := 4, cells := 0, slots := 0, locals := 94 } s m args below meth c H locs 0 0 (MQ below (zb_Po g nc (zb_ce g I Jq O) (some (.int r9))) args s 0 0 (zb_A g)) (F0 m 148 ls []) := by
      intro H locs ls hP hS hl
      refine lv_aload_n hx hb dX8_ends_148 rfl (lv_at hl 1 rfl) ?_
      refine lv_aload_n hx hb dX8_ends_149 rfl (lv_at hl 1 rfl) ?_
      refine gf_X8_7 X hnJ hP zk_306 dX8_ends_150 ?_
      refine lv_iconst (v := (5 : Int32)) hx hb dX8_ends_153 (by decide) ?_
      obtain ⟨x26, hx26, hf⟩ := ob_e hf
      refine zr_aldJ X hP hnJ zk_307 hx26 dX8_ends_154 ?_
      refine lv_iconst (v := (1 : Int32)) hx hb dX8_ends_155 (by decide) ?_
      refine lv_isub hx hb dX8_ends_156 ?_
      obtain ⟨J27, hJ27, hf⟩ := ob_e hf
      refine zr_cVv (rest := []) (As := [.int (x26 - (1 : Int32))]) X hP hS (ct_X8_keepsLevel (g := g) (nc := nc) (I := I) (J := J25) (O := O) hnJ l  hJ27) cw_X8_222 (zr_recv X hP (Nat.lt_of_lt_of_le (zk_306).2.1 hnJ) (zb_ceJo zk_306 (by decide)) rfl) rfl hl.1 (Nat.le_of_ble_eq_true rfl) ⟨Nat.le_of_ble_eq_true rfl, Nat.le_of_ble_eq_true rfl⟩ ⟨Nat.le_of_ble_eq_true rfl, Nat.le_of_ble_eq_true rfl⟩ dX8_ends_157 rfl (fun H locs hP hS => ?_)
      refine lv_aload_n hx hb dX8_ends_160 rfl (lv_at hl 1 rfl) ?_
      refine lv_iload hx hb dX8_ends_161 (lv_at hl 0 rfl) ?_
      obtain ⟨J28, hJ28, hf⟩ := ob_e hf
      refine zr_cVv (rest := []) (As := [.int x12]) X hP hS (ct_X8_takesOut (g := g) (nc := nc) (I := I) (J := J27) (O := O) hnJ l  hJ28) cw_X8_240 (zr_recv X hP (Nat.lt_of_lt_of_le (zk_306).2.1 hnJ) (zb_ceJo zk_306 (by decide)) rfl) rfl hl.1 (Nat.le_of_ble_eq_true rfl) ⟨Nat.le_of_ble_eq_true rfl, Nat.le_of_ble_eq_true rfl⟩ ⟨Nat.le_of_ble_eq_true rfl, Nat.le_of_ble_eq_true rfl⟩ dX8_ends_163 rfl (fun H locs hP hS => ?_)
      refine lv_iconst (v := (0 : Int32)) hx hb dX8_ends_166 (by decide) ?_
      refine lv_istore (lv' := [(6, .int (0 : Int32)), (4, .int x12), (0, .ref (g.2.2 + 306))]) hx hb dX8_ends_167 hl (by decide) rfl (fun ls hl => ?_)
      obtain ⟨J31, hJ31, hf⟩ := ob_e hf
      have K4 : ∀ (H : Heap) (locs : List Loc) (ls : Array Slot), va_P g.1 vwCl (zb_ws g nc (zb_ce g I J31 O)) H → va_S (zb_A g) s.heap H locs → lv_has ls 7 [(4, .int x12)] → W p l e { frames := 4, cells := 0, slots := 0, locals := 94 } s m args below meth c H locs 0 0 (MQ below (zb_Po g nc (zb_ce g I Jq O) (some (.int r9))) args s 0 0 (zb_A g)) (F0 m 204 ls []) := by
        intro H locs ls hP hS hl
        refine lv_iload hx hb dX8_ends_204 (lv_at hl 0 rfl) ?_
        obtain ⟨x32, hx32, hf⟩ := ob_e hf
        refine zr_cSi (rest := []) (As := [.int x12]) X hP hS (ct_X8_bits (g := g) (nc := nc) (I := I) (J := J31) (O := O)  l  hx32) cw_X8_243  rfl hl.1 (Nat.le_of_ble_eq_true rfl) ⟨Nat.le_of_ble_eq_true rfl, Nat.le_of_ble_eq_true rfl⟩ ⟨Nat.le_of_ble_eq_true rfl, Nat.le_of_ble_eq_true rfl⟩ dX8_ends_206 rfl (fun H locs hP hS => ?_)
        cases hf
        exact zr_iret X hr hP hS dX8_ends_209
      exact lpX8_ends_L169 hnJ l  X hJ31 K4 hP hS (lv_sub hl [0, 1, 2] rfl)
    exact lpX8_ends_L100 hnJ l  X hJ25 K3 hP hS (lv_sub hl [0, 1, 2, 6] rfl)
  have hf := ht
  refine lv_if_eq (tgt := 50) hx hb dX8_ends_30 (by decide) (fun hc => ?_) (fun hc => ?_)
  · have hf := if_t hc hf
    cases hf
    exact K2 H locs ls hP hS (lv_sub hl [0, 1, 2, 3, 4] rfl)
  · have hf := if_f hc hf
    refine lv_aload_n hx hb dX8_ends_33 rfl (lv_at hl 4 rfl) ?_
    refine lv_iload_n hx hb dX8_ends_34 rfl (lv_at hl 1 rfl) ?_
    obtain ⟨J8, hJ8, hf⟩ := ob_e hf
    refine zr_cVv (rest := []) (As := [.int x5]) X hP hS (ct_X8_strikes (g := g) (nc := nc) (I := I) (J := J7) (O := O) hnJ l  hJ8) cw_X8_228 (zr_recv X hP (Nat.lt_of_lt_of_le (zk_306).2.1 hnJ) (zb_ceJo zk_306 (by decide)) rfl) rfl hl.1 (Nat.le_of_ble_eq_true rfl) ⟨Nat.le_of_ble_eq_true rfl, Nat.le_of_ble_eq_true rfl⟩ ⟨Nat.le_of_ble_eq_true rfl, Nat.le_of_ble_eq_true rfl⟩ dX8_ends_35 rfl (fun H locs hP hS => ?_)
    refine lv_aload_n hx hb dX8_ends_38 rfl (lv_at hl 4 rfl) ?_
    refine lv_iload_n hx hb dX8_ends_39 rfl (lv_at hl 2 rfl) ?_
    obtain ⟨J9, hJ9, hf⟩ := ob_e hf
    refine zr_cVv (rest := []) (As := [.int x3]) X hP hS (ct_X8_agrees (g := g) (nc := nc) (I := I) (J := J8) (O := O) hnJ l  hJ9) cw_X8_231 (zr_recv X hP (Nat.lt_of_lt_of_le (zk_306).2.1 hnJ) (zb_ceJo zk_306 (by decide)) rfl) rfl hl.1 (Nat.le_of_ble_eq_true rfl) ⟨Nat.le_of_ble_eq_true rfl, Nat.le_of_ble_eq_true rfl⟩ ⟨Nat.le_of_ble_eq_true rfl, Nat.le_of_ble_eq_true rfl⟩ dX8_ends_40 rfl (fun H locs hP hS => ?_)
    refine lv_aload_n hx hb dX8_ends_43 rfl (lv_at hl 4 rfl) ?_
    refine lv_iload_n hx hb dX8_ends_44 rfl (lv_at hl 1 rfl) ?_
    obtain ⟨x10, J11, hx10_J11, hf⟩ := ob2_e hf
    refine zr_cVi (rest := []) (As := [.int x5]) X hP hS (ct_X8_dragsOff (g := g) (nc := nc) (I := I) (J := J9) (O := O) hnJ l  hx10_J11) cw_X8_234 (zr_recv X hP (Nat.lt_of_lt_of_le (zk_306).2.1 hnJ) (zb_ceJo zk_306 (by decide)) rfl) rfl hl.1 (Nat.le_of_ble_eq_true rfl) ⟨Nat.le_of_ble_eq_true rfl, Nat.le_of_ble_eq_true rfl⟩ ⟨Nat.le_of_ble_eq_true rfl, Nat.le_of_ble_eq_true rfl⟩ dX8_ends_45 rfl (fun H locs hP hS => ?_)
    refine lv_istore (lv' := [(4, .int x10), (3, .int x5), (2, .int x3), (1, .int x1), (0, .ref (g.2.2 + 306))]) hx hb dX8_ends_48 hl (by decide) rfl (fun ls hl => ?_)
    cases hf
    exact K2 H locs ls hP hS (lv_sub hl [0, 1, 2, 3, 4] rfl)
set_option maxHeartbeats 4000000 in
set_option maxRecDepth 100000 in
theorem lpX8_inState_L4 {g : zb_G} {nc : Nat} (hnJ : 318 ≤ nc) (l : Launch) {a1 : Int32} {I O : Mem} {p : Program} {e : Env} {s : State} {m : MethodId} {args : Array Value} {below : List Frame} {meth : Method} {c : Code} {Q : State → Prop} (X : zb_X g p m c cX8_inState 4 s args RX8 meth) : ∀ {n9 : Nat} {a3 : Int32} {a2 : Int32} {J : Mem} {z2 : Int32} {H : Heap} {locs : List Loc} {ls : Array Slot}, fX8_inState_L4 a1 n9 a3 a2 J = some z2 → (∀ (H : Heap) (locs : List Loc) (ls : Array Slot), va_P g.1 vwCl (zb_ws g nc (zb_ce g I J O)) H → va_S (zb_A g) s.heap H locs → lv_has ls 4 [(2, .int z2)] → W p l e { frames := 0, cells := 0, slots := 0, locals := 0 } s m args below meth c H locs 0 0 Q (F0 m 41 ls [])) → va_P g.1 vwCl (zb_ws g nc (zb_ce g I J O)) H → va_S (zb_A g) s.heap H locs → lv_has ls 4 [(3, .int a3), (2, .int a2), (0, .ref (g.2.2 + 306)), (1, .int a1)] → W p l e { frames := 0, cells := 0, slots := 0, locals := 0 } s m args below meth c H locs 0 0 Q (F0 m 4 ls []) := by
  have hx := X.1.1
  have hb := X.1.2.1
  have ho := X.1.2.2.2.1
  have hts := X.1.2.2.2.2
  have hZ := X.2.2.2
  intro n9
  induction n9 with
  | zero =>
    intro a3 a2 J z2 H locs ls hf
    exact nomatch hf
  | succ n9 ih =>
    intro a3 a2 J z2 H locs ls hf KK hP hS hl
    rw [fX8_inState_L4] at hf
    refine lv_iload_n hx hb dX8_inState_4 rfl (lv_at hl 0 rfl) ?_
    refine lv_aload_n hx hb dX8_inState_5 rfl (lv_at hl 2 rfl) ?_
    refine gf_X8_7 X hnJ hP zk_306 dX8_inState_6 ?_
    refine lv_iconst (v := (0 : Int32)) hx hb dX8_inState_9 (by decide) ?_
    obtain ⟨x1, hx1, hf⟩ := ob_e hf
    refine zr_aldJ X hP hnJ zk_307 hx1 dX8_inState_10 ?_
    refine lv_icmp_ge (tgt := 41) hx hb dX8_inState_11 (by decide) (fun hc => ?_) (fun hc => ?_)
    · have hf := if_t hc hf
      cases hf
      exact KK H locs ls hP hS (lv_sub hl [1] rfl)
    · have hf := if_f hc hf
      refine lv_iload_n hx hb dX8_inState_14 rfl (lv_at hl 1 rfl) ?_
      refine lv_aload_n hx hb dX8_inState_15 rfl (lv_at hl 2 rfl) ?_
      refine gf_X8_7 X hnJ hP zk_306 dX8_inState_16 ?_
      refine lv_bipush (v := (52 : Int32)) hx hb dX8_inState_19 (by decide) ?_
      refine lv_iload_n hx hb dX8_inState_21 rfl (lv_at hl 0 rfl) ?_
      refine lv_iadd hx hb dX8_inState_22 ?_
      obtain ⟨x2, hx2, hf⟩ := ob_e hf
      refine zr_aldJ X hP hnJ zk_307 hx2 dX8_inState_23 ?_
      refine lv_iload_n hx hb dX8_inState_24 rfl (lv_at hl 3 rfl) ?_
      obtain ⟨x3, ht, hf⟩ := pl_e hf
      have K1 : ∀ (H : Heap) (locs : List Loc) (ls : Array Slot), va_P g.1 vwCl (zb_ws g nc (zb_ce g I J O)) H → va_S (zb_A g) s.heap H locs → lv_has ls 4 [(3, .int a3), (0, .ref (g.2.2 + 306)), (1, .int a1)] → W p l e { frames := 0, cells := 0, slots := 0, locals := 0 } s m args below meth c H locs 0 0 Q (F0 m 33 ls [.int x3, .int a2]) := by
        intro H locs ls hP hS hl
        refine lv_iadd hx hb dX8_inState_33 ?_
        refine lv_istore_n (lv' := [(2, .int (a2 + x3)), (3, .int a3), (0, .ref (g.2.2 + 306)), (1, .int a1)]) hx hb dX8_inState_34 rfl hl (by decide) rfl (fun ls hl => ?_)
        refine lv_iinc (v := (a3 + (1 : Int32))) (lv' := [(3, .int (a3 + (1 : Int32))), (2, .int (a2 + x3)), (0, .ref (g.2.2 + 306)), (1, .int a1)]) hx hb dX8_inState_35 hl (k := 1) rfl rfl (by decide) rfl (fun ls hl => ?_)
        refine lv_goto (tgt := 4) hx hb dX8_inState_38 (by decide) ?_
        exact ih hf KK hP hS (lv_sub hl [0, 1, 2, 3] rfl)
      have hf := ht
      refine lv_icmp_ne (tgt := 32) hx hb dX8_inState_25 (by decide) (fun hc => ?_) (fun hc => ?_)
      · have hf := if_f hc hf
        refine lv_iconst (v := (0 : Int32)) hx hb dX8_inState_32 (by decide) ?_
        cases hf
        exact K1 H locs ls hP hS (lv_sub hl [0, 2, 3] rfl)
      · have hf := if_t hc hf
        refine lv_iconst (v := (1 : Int32)) hx hb dX8_inState_28 (by decide) ?_
        refine lv_goto (tgt := 33) hx hb dX8_inState_29 (by decide) ?_
        cases hf
        exact K1 H locs ls hP hS (lv_sub hl [0, 2, 3] rfl)
set_option maxHeartbeats 4000000 in
set_option maxRecDepth 100000 in
theorem ct_X8_inState {g : zb_G} {nc : Nat} (hnJ : 318 ≤ nc) (l : Launch) {a1 : Int32} {I J O : Mem} {r9 : Int32} (hf : fX8_inState a1 J = some r9) : zb_Ct l g nc yX8_inState cX8_inState 4 (some .int) 0 0 [.ref (g.2.2 + 306), .int a1] (zb_ce g I J O) (some (.int r9)) (zb_ce g I J O) := by
  refine zb_ofW (own := RX8) (by decide +kernel) rfl (Nat.le_of_ble_eq_true rfl) ?_
  intro p e s m args below meth c ls X hr hP hl
  have hx := X.1.1
  have hb := X.1.2.1
  have ho := X.1.2.2.2.1
  have hts := X.1.2.2.2.2
  have hZ := X.2.2.2
  have hl : lv_has ls 4 [(0, .ref (g.2.2 + 306)), (1, .int a1)] := hl
  have hS : va_S (zb_A g) s.heap s.heap [] := va_S.rf
  obtain ⟨H, hH⟩ : ∃ H, H = s.heap := ⟨_, rfl⟩
  obtain ⟨locs, hlocs⟩ : ∃ z : List Loc, z = [] := ⟨_, rfl⟩
  rw [← hH] at hP
  have hS : va_S (zb_A g) s.heap H locs := by rw [hH, hlocs]; exact hS
  show W p l e _ s m args below meth c s.heap [] 0 0 _ _
  rw [← hH, ← hlocs]
  rw [fX8_inState] at hf
  refine lv_iconst (v := (0 : Int32)) hx hb dX8_inState_0 (by decide) ?_
  refine lv_istore_n (lv' := [(2, .int (0 : Int32)), (0, .ref (g.2.2 + 306)), (1, .int a1)]) hx hb dX8_inState_1 rfl hl (by decide) rfl (fun ls hl => ?_)
  refine lv_iconst (v := (0 : Int32)) hx hb dX8_inState_2 (by decide) ?_
  refine lv_istore_n (lv' := [(3, .int (0 : Int32)), (2, .int (0 : Int32)), (0, .ref (g.2.2 + 306)), (1, .int a1)]) hx hb dX8_inState_3 rfl hl (by decide) rfl (fun ls hl => ?_)
  obtain ⟨x4, hx4, hf⟩ := ob_e hf
  have K2 : ∀ (H : Heap) (locs : List Loc) (ls : Array Slot), va_P g.1 vwCl (zb_ws g nc (zb_ce g I J O)) H → va_S (zb_A g) s.heap H locs → lv_has ls 4 [(2, .int x4)] → W p l e { frames := 0, cells := 0, slots := 0, locals := 0 } s m args below meth c H locs 0 0 (MQ below (zb_Po g nc (zb_ce g I J O) (some (.int r9))) args s 0 0 (zb_A g)) (F0 m 41 ls []) := by
    intro H locs ls hP hS hl
    refine lv_iload_n hx hb dX8_inState_41 rfl (lv_at hl 0 rfl) ?_
    cases hf
    exact zr_iret X hr hP hS dX8_inState_42
  exact lpX8_inState_L4 hnJ l  X hx4 K2 hP hS (lv_sub hl [0, 1, 2, 3] rfl)
set_option maxHeartbeats 4000000 in
set_option maxRecDepth 100000 in
theorem lpX8_brokenSet_L4 {g : zb_G} {nc : Nat} (hnJ : 318 ≤ nc) (l : Launch) {I O : Mem} {p : Program} {e : Env} {s : State} {m : MethodId} {args : Array Value} {below : List Frame} {meth : Method} {c : Code} {Q : State → Prop} (X : zb_X g p m c cX8_brokenSet 3 s args RX8 meth) : ∀ {n9 : Nat} {a2 : Int32} {a1 : Int32} {J : Mem} {z1 : Int32} {H : Heap} {locs : List Loc} {ls : Array Slot}, fX8_brokenSet_L4 n9 a2 a1 J = some z1 → (∀ (H : Heap) (locs : List Loc) (ls : Array Slot), va_P g.1 vwCl (zb_ws g nc (zb_ce g I J O)) H → va_S (zb_A g) s.heap H locs → lv_has ls 3 [(1, .int z1)] → W p l e { frames := 0, cells := 0, slots := 0, locals := 0 } s m args below meth c H locs 0 0 Q (F0 m 46 ls [])) → va_P g.1 vwCl (zb_ws g nc (zb_ce g I J O)) H → va_S (zb_A g) s.heap H locs → lv_has ls 3 [(2, .int a2), (1, .int a1), (0, .ref (g.2.2 + 306))] → W p l e { frames := 0, cells := 0, slots := 0, locals := 0 } s m args below meth c H locs 0 0 Q (F0 m 4 ls []) := by
  have hx := X.1.1
  have hb := X.1.2.1
  have ho := X.1.2.2.2.1
  have hts := X.1.2.2.2.2
  have hZ := X.2.2.2
  intro n9
  induction n9 with
  | zero =>
    intro a2 a1 J z1 H locs ls hf
    exact nomatch hf
  | succ n9 ih =>
    intro a2 a1 J z1 H locs ls hf KK hP hS hl
    rw [fX8_brokenSet_L4] at hf
    refine lv_iload_n hx hb dX8_brokenSet_4 rfl (lv_at hl 0 rfl) ?_
    refine lv_iconst (v := (1 : Int32)) hx hb dX8_brokenSet_5 (by decide) ?_
    refine lv_iadd hx hb dX8_brokenSet_6 ?_
    refine lv_aload_n hx hb dX8_brokenSet_7 rfl (lv_at hl 2 rfl) ?_
    refine gf_X8_7 X hnJ hP zk_306 dX8_brokenSet_8 ?_
    refine lv_iconst (v := (0 : Int32)) hx hb dX8_brokenSet_11 (by decide) ?_
    obtain ⟨x1, hx1, hf⟩ := ob_e hf
    refine zr_aldJ X hP hnJ zk_307 hx1 dX8_brokenSet_12 ?_
    refine lv_icmp_ge (tgt := 46) hx hb dX8_brokenSet_13 (by decide) (fun hc => ?_) (fun hc => ?_)
    · have hf := if_t hc hf
      cases hf
      exact KK H locs ls hP hS (lv_sub hl [1] rfl)
    · have hf := if_f hc hf
      refine lv_iload_n hx hb dX8_brokenSet_16 rfl (lv_at hl 1 rfl) ?_
      refine lv_aload_n hx hb dX8_brokenSet_17 rfl (lv_at hl 2 rfl) ?_
      refine gf_X8_7 X hnJ hP zk_306 dX8_brokenSet_18 ?_
      refine lv_sipush (v := (132 : Int32)) hx hb dX8_brokenSet_21 (by decide) ?_
      refine lv_iload_n hx hb dX8_brokenSet_24 rfl (lv_at hl 0 rfl) ?_
      refine lv_iadd hx hb dX8_brokenSet_25 ?_
      obtain ⟨x2, hx2, hf⟩ := ob_e hf
      refine zr_aldJ X hP hnJ zk_307 hx2 dX8_brokenSet_26 ?_
      refine lv_iconst (v := (1 : Int32)) hx hb dX8_brokenSet_27 (by decide) ?_
      obtain ⟨x3, ht, hf⟩ := pl_e hf
      have K1 : ∀ (H : Heap) (locs : List Loc) (ls : Array Slot), va_P g.1 vwCl (zb_ws g nc (zb_ce g I J O)) H → va_S (zb_A g) s.heap H locs → lv_has ls 3 [(2, .int a2), (0, .ref (g.2.2 + 306))] → W p l e { frames := 0, cells := 0, slots := 0, locals := 0 } s m args below meth c H locs 0 0 Q (F0 m 38 ls [.int x3, .int a1]) := by
        intro H locs ls hP hS hl
        refine lv_ior hx hb dX8_brokenSet_38 ?_
        refine lv_istore_n (lv' := [(1, .int (a1 ||| x3)), (2, .int a2), (0, .ref (g.2.2 + 306))]) hx hb dX8_brokenSet_39 rfl hl (by decide) rfl (fun ls hl => ?_)
        refine lv_iinc (v := (a2 + (1 : Int32))) (lv' := [(2, .int (a2 + (1 : Int32))), (1, .int (a1 ||| x3)), (0, .ref (g.2.2 + 306))]) hx hb dX8_brokenSet_40 hl (k := 1) rfl rfl (by decide) rfl (fun ls hl => ?_)
        refine lv_goto (tgt := 4) hx hb dX8_brokenSet_43 (by decide) ?_
        exact ih hf KK hP hS (lv_sub hl [0, 1, 2] rfl)
      have hf := ht
      refine lv_icmp_ne (tgt := 37) hx hb dX8_brokenSet_28 (by decide) (fun hc => ?_) (fun hc => ?_)
      · have hf := if_f hc hf
        refine lv_iconst (v := (0 : Int32)) hx hb dX8_brokenSet_37 (by decide) ?_
        cases hf
        exact K1 H locs ls hP hS (lv_sub hl [0, 2] rfl)
      · have hf := if_t hc hf
        refine lv_iconst (v := (1 : Int32)) hx hb dX8_brokenSet_31 (by decide) ?_
        refine lv_iload_n hx hb dX8_brokenSet_32 rfl (lv_at hl 0 rfl) ?_
        refine lv_ishl hx hb dX8_brokenSet_33 ?_
        refine lv_goto (tgt := 38) hx hb dX8_brokenSet_34 (by decide) ?_
        cases hf
        exact K1 H locs ls hP hS (lv_sub hl [0, 2] rfl)
set_option maxHeartbeats 4000000 in
set_option maxRecDepth 100000 in
theorem ct_X8_brokenSet {g : zb_G} {nc : Nat} (hnJ : 318 ≤ nc) (l : Launch) {I J O : Mem} {r9 : Int32} (hf : fX8_brokenSet J = some r9) : zb_Ct l g nc yX8_brokenSet cX8_brokenSet 3 (some .int) 0 0 [.ref (g.2.2 + 306)] (zb_ce g I J O) (some (.int r9)) (zb_ce g I J O) := by
  refine zb_ofW (own := RX8) (by decide +kernel) rfl (Nat.le_of_ble_eq_true rfl) ?_
  intro p e s m args below meth c ls X hr hP hl
  have hx := X.1.1
  have hb := X.1.2.1
  have ho := X.1.2.2.2.1
  have hts := X.1.2.2.2.2
  have hZ := X.2.2.2
  have hl : lv_has ls 3 [(0, .ref (g.2.2 + 306))] := hl
  have hS : va_S (zb_A g) s.heap s.heap [] := va_S.rf
  obtain ⟨H, hH⟩ : ∃ H, H = s.heap := ⟨_, rfl⟩
  obtain ⟨locs, hlocs⟩ : ∃ z : List Loc, z = [] := ⟨_, rfl⟩
  rw [← hH] at hP
  have hS : va_S (zb_A g) s.heap H locs := by rw [hH, hlocs]; exact hS
  show W p l e _ s m args below meth c s.heap [] 0 0 _ _
  rw [← hH, ← hlocs]
  rw [fX8_brokenSet] at hf
  refine lv_iconst (v := (0 : Int32)) hx hb dX8_brokenSet_0 (by decide) ?_
  refine lv_istore_n (lv' := [(1, .int (0 : Int32)), (0, .ref (g.2.2 + 306))]) hx hb dX8_brokenSet_1 rfl hl (by decide) rfl (fun ls hl => ?_)
  refine lv_iconst (v := (0 : Int32)) hx hb dX8_brokenSet_2 (by decide) ?_
  refine lv_istore_n (lv' := [(2, .int (0 : Int32)), (1, .int (0 : Int32)), (0, .ref (g.2.2 + 306))]) hx hb dX8_brokenSet_3 rfl hl (by decide) rfl (fun ls hl => ?_)
  obtain ⟨x4, hx4, hf⟩ := ob_e hf
  have K2 : ∀ (H : Heap) (locs : List Loc) (ls : Array Slot), va_P g.1 vwCl (zb_ws g nc (zb_ce g I J O)) H → va_S (zb_A g) s.heap H locs → lv_has ls 3 [(1, .int x4)] → W p l e { frames := 0, cells := 0, slots := 0, locals := 0 } s m args below meth c H locs 0 0 (MQ below (zb_Po g nc (zb_ce g I J O) (some (.int r9))) args s 0 0 (zb_A g)) (F0 m 46 ls []) := by
    intro H locs ls hP hS hl
    refine lv_iload_n hx hb dX8_brokenSet_46 rfl (lv_at hl 0 rfl) ?_
    cases hf
    exact zr_iret X hr hP hS dX8_brokenSet_47
  exact lpX8_brokenSet_L4 hnJ l  X hx4 K2 hP hS (lv_sub hl [0, 1, 2] rfl)
set_option maxHeartbeats 4000000 in
set_option maxRecDepth 100000 in
theorem lpX8_levelled_L7 {g : zb_G} {nc : Nat} (hnJ : 318 ≤ nc) (l : Launch) {I O : Mem} {p : Program} {e : Env} {s : State} {m : MethodId} {args : Array Value} {below : List Frame} {meth : Method} {c : Code} {Q : State → Prop} (X : zb_X g p m c cX8_levelled 3 s args RX8 meth) : ∀ {n9 : Nat} {a2 : Int32} {a1 : Int32} {J : Mem} {z1 : Int32} {H : Heap} {locs : List Loc} {ls : Array Slot}, fX8_levelled_L7 n9 a2 a1 J = some z1 → (∀ (H : Heap) (locs : List Loc) (ls : Array Slot), va_P g.1 vwCl (zb_ws g nc (zb_ce g I J O)) H → va_S (zb_A g) s.heap H locs → lv_has ls 3 [(1, .int z1)] → W p l e { frames := 2, cells := 0, slots := 0, locals := 43 } s m args below meth c H locs 0 0 Q (F0 m 32 ls [])) → va_P g.1 vwCl (zb_ws g nc (zb_ce g I J O)) H → va_S (zb_A g) s.heap H locs → lv_has ls 3 [(2, .int a2), (1, .int a1), (0, .ref (g.2.2 + 306))] → W p l e { frames := 2, cells := 0, slots := 0, locals := 43 } s m args below meth c H locs 0 0 Q (F0 m 7 ls []) := by
  have hx := X.1.1
  have hb := X.1.2.1
  have ho := X.1.2.2.2.1
  have hts := X.1.2.2.2.2
  have hZ := X.2.2.2
  intro n9
  induction n9 with
  | zero =>
    intro a2 a1 J z1 H locs ls hf
    exact nomatch hf
  | succ n9 ih =>
    intro a2 a1 J z1 H locs ls hf KK hP hS hl
    rw [fX8_levelled_L7] at hf
    refine lv_iload_n hx hb dX8_levelled_7 rfl (lv_at hl 0 rfl) ?_
    refine lv_aload_n hx hb dX8_levelled_8 rfl (lv_at hl 2 rfl) ?_
    refine gf_X8_7 X hnJ hP zk_306 dX8_levelled_9 ?_
    refine lv_iconst (v := (5 : Int32)) hx hb dX8_levelled_12 (by decide) ?_
    obtain ⟨x2, hx2, hf⟩ := ob_e hf
    refine zr_aldJ X hP hnJ zk_307 hx2 dX8_levelled_13 ?_
    refine lv_icmp_ge (tgt := 32) hx hb dX8_levelled_14 (by decide) (fun hc => ?_) (fun hc => ?_)
    · have hf := if_t hc hf
      cases hf
      exact KK H locs ls hP hS (lv_sub hl [1] rfl)
    · have hf := if_f hc hf
      refine lv_iload_n hx hb dX8_levelled_17 rfl (lv_at hl 1 rfl) ?_
      refine lv_aload_n hx hb dX8_levelled_18 rfl (lv_at hl 2 rfl) ?_
      refine lv_iload_n hx hb dX8_levelled_19 rfl (lv_at hl 0 rfl) ?_
      refine lv_iconst (v := (2 : Int32)) hx hb dX8_levelled_20 (by decide) ?_
      obtain ⟨x3, hx3, hf⟩ := ob_e hf
      refine zr_cVi (rest := [.int a1]) (As := [.int a2, .int (2 : Int32)]) X hP hS (ct_X8_of (g := g) (nc := nc) (I := I) (J := J) (O := O) hnJ l  hx3) cw_X8_209 (zr_recv X hP (Nat.lt_of_lt_of_le (zk_306).2.1 hnJ) (zb_ceJo zk_306 (by decide)) rfl) rfl hl.1 (Nat.le_of_ble_eq_true rfl) ⟨Nat.le_of_ble_eq_true rfl, Nat.le_of_ble_eq_true rfl⟩ ⟨Nat.le_of_ble_eq_true rfl, Nat.le_of_ble_eq_true rfl⟩ dX8_levelled_21 rfl (fun H locs hP hS => ?_)
      refine lv_iadd hx hb dX8_levelled_24 ?_
      refine lv_istore_n (lv' := [(1, .int (a1 + x3)), (2, .int a2), (0, .ref (g.2.2 + 306))]) hx hb dX8_levelled_25 rfl hl (by decide) rfl (fun ls hl => ?_)
      refine lv_iinc (v := (a2 + (1 : Int32))) (lv' := [(2, .int (a2 + (1 : Int32))), (1, .int (a1 + x3)), (0, .ref (g.2.2 + 306))]) hx hb dX8_levelled_26 hl (k := 1) rfl rfl (by decide) rfl (fun ls hl => ?_)
      refine lv_goto (tgt := 7) hx hb dX8_levelled_29 (by decide) ?_
      exact ih hf KK hP hS (lv_sub hl [0, 1, 2] rfl)
set_option maxHeartbeats 4000000 in
set_option maxRecDepth 100000 in
theorem ct_X8_levelled {g : zb_G} {nc : Nat} (hnJ : 318 ≤ nc) (l : Launch) {I J O : Mem} {r9 : Int32} (hf : fX8_levelled J = some r9) : zb_Ct l g nc yX8_levelled cX8_levelled 3 (some .int) 2 43 [.ref (g.2.2 + 306)] (zb_ce g I J O) (some (.int r9)) (zb_ce g I J O) := by
  refine zb_ofW (own := RX8) (by decide +kernel) rfl (Nat.le_of_ble_eq_true rfl) ?_
  intro p e s m args below meth c ls X hr hP hl
  have hx := X.1.1
  have hb := X.1.2.1
  have ho := X.1.2.2.2.1
  have hts := X.1.2.2.2.2
  have hZ := X.2.2.2
  have hl : lv_has ls 3 [(0, .ref (g.2.2 + 306))] := hl
  have hS : va_S (zb_A g) s.heap s.heap [] := va_S.rf
  obtain ⟨H, hH⟩ : ∃ H, H = s.heap := ⟨_, rfl⟩
  obtain ⟨locs, hlocs⟩ : ∃ z : List Loc, z = [] := ⟨_, rfl⟩
  rw [← hH] at hP
  have hS : va_S (zb_A g) s.heap H locs := by rw [hH, hlocs]; exact hS
  show W p l e _ s m args below meth c s.heap [] 0 0 _ _
  rw [← hH, ← hlocs]
  rw [fX8_levelled] at hf
  refine lv_iconst (v := (0 : Int32)) hx hb dX8_levelled_0 (by decide) ?_
  refine lv_istore_n (lv' := [(1, .int (0 : Int32)), (0, .ref (g.2.2 + 306))]) hx hb dX8_levelled_1 rfl hl (by decide) rfl (fun ls hl => ?_)
  refine lv_aload_n hx hb dX8_levelled_2 rfl (lv_at hl 1 rfl) ?_
  obtain ⟨x1, hx1, hf⟩ := ob_e hf
  refine zr_cVi (rest := []) (As := []) X hP hS (ct_X8_firstHour (g := g) (nc := nc) (I := I) (J := J) (O := O) hnJ l  hx1) cw_X8_203 (zr_recv X hP (Nat.lt_of_lt_of_le (zk_306).2.1 hnJ) (zb_ceJo zk_306 (by decide)) rfl) rfl hl.1 (Nat.le_of_ble_eq_true rfl) ⟨Nat.le_of_ble_eq_true rfl, Nat.le_of_ble_eq_true rfl⟩ ⟨Nat.le_of_ble_eq_true rfl, Nat.le_of_ble_eq_true rfl⟩ dX8_levelled_3 rfl (fun H locs hP hS => ?_)
  refine lv_istore_n (lv' := [(2, .int x1), (1, .int (0 : Int32)), (0, .ref (g.2.2 + 306))]) hx hb dX8_levelled_6 rfl hl (by decide) rfl (fun ls hl => ?_)
  obtain ⟨x4, hx4, hf⟩ := ob_e hf
  have K1 : ∀ (H : Heap) (locs : List Loc) (ls : Array Slot), va_P g.1 vwCl (zb_ws g nc (zb_ce g I J O)) H → va_S (zb_A g) s.heap H locs → lv_has ls 3 [(1, .int x4)] → W p l e { frames := 2, cells := 0, slots := 0, locals := 43 } s m args below meth c H locs 0 0 (MQ below (zb_Po g nc (zb_ce g I J O) (some (.int r9))) args s 0 0 (zb_A g)) (F0 m 32 ls []) := by
    intro H locs ls hP hS hl
    refine lv_iload_n hx hb dX8_levelled_32 rfl (lv_at hl 0 rfl) ?_
    cases hf
    exact zr_iret X hr hP hS dX8_levelled_33
  exact lpX8_levelled_L7 hnJ l  X hx4 K1 hP hS (lv_sub hl [0, 1, 2] rfl)
set_option maxHeartbeats 4000000 in
set_option maxRecDepth 100000 in
theorem ct_X8_size {g : zb_G} {nc : Nat} (hnJ : 318 ≤ nc) (l : Launch) {a1 : Int32} {I J O : Mem} {r9 : Int32} {Jq : Mem} (hf : fX8_size a1 J = some (r9, Jq)) : zb_Ct l g nc yX8_size cX8_size 2 (some .int) 3 65 [.ref (g.2.2 + 306), .int a1] (zb_ce g I J O) (some (.int r9)) (zb_ce g I Jq O) := by
  refine zb_ofW (own := RX8) (by decide +kernel) rfl (Nat.le_of_ble_eq_true rfl) ?_
  intro p e s m args below meth c ls X hr hP hl
  have hx := X.1.1
  have hb := X.1.2.1
  have ho := X.1.2.2.2.1
  have hts := X.1.2.2.2.2
  have hZ := X.2.2.2
  have hl : lv_has ls 2 [(0, .ref (g.2.2 + 306)), (1, .int a1)] := hl
  have hS : va_S (zb_A g) s.heap s.heap [] := va_S.rf
  obtain ⟨H, hH⟩ : ∃ H, H = s.heap := ⟨_, rfl⟩
  obtain ⟨locs, hlocs⟩ : ∃ z : List Loc, z = [] := ⟨_, rfl⟩
  rw [← hH] at hP
  have hS : va_S (zb_A g) s.heap H locs := by rw [hH, hlocs]; exact hS
  show W p l e _ s m args below meth c s.heap [] 0 0 _ _
  rw [← hH, ← hlocs]
  rw [fX8_size] at hf
  refine lv_aload_n hx hb dX8_size_0 rfl (lv_at hl 0 rfl) ?_
  refine lv_iconst (v := (0 : Int32)) hx hb dX8_size_1 (by decide) ?_
  refine pf_X8_57 X hnJ hP hS zk_306 dX8_size_2 (fun H locs hP hS => ?_)
  refine lv_aload_n hx hb dX8_size_5 rfl (lv_at hl 0 rfl) ?_
  refine lv_iload_n hx hb dX8_size_6 rfl (lv_at hl 1 rfl) ?_
  refine lv_iconst (v := (0 : Int32)) hx hb dX8_size_7 (by decide) ?_
  refine lv_bipush (v := (16 : Int32)) hx hb dX8_size_8 (by decide) ?_
  obtain ⟨x1, hx1, hf⟩ := ob_e hf
  refine zr_cSi (rest := [.ref (g.2.2 + 306)]) (As := [.int a1, .int (0 : Int32), .int (16 : Int32)]) X hP hS (ct_X8_within (g := g) (nc := nc) (I := I) (J := (wr J 306 0 (0 : Int32))) (O := O)  l  hx1) cw_X8_60  rfl hl.1 (Nat.le_of_ble_eq_true rfl) ⟨Nat.le_of_ble_eq_true rfl, Nat.le_of_ble_eq_true rfl⟩ ⟨Nat.le_of_ble_eq_true rfl, Nat.le_of_ble_eq_true rfl⟩ dX8_size_10 rfl (fun H locs hP hS => ?_)
  obtain ⟨x2, ht, hf⟩ := pl_e hf
  have K1 : ∀ (H : Heap) (locs : List Loc) (ls : Array Slot), va_P g.1 vwCl (zb_ws g nc (zb_ce g I (wr J 306 0 (0 : Int32)) O)) H → va_S (zb_A g) s.heap H locs → lv_has ls 2 [(0, .ref (g.2.2 + 306)), (1, .int a1)] → W p l e { frames := 3, cells := 0, slots := 0, locals := 65 } s m args below meth c H locs 0 0 (MQ below (zb_Po g nc (zb_ce g I Jq O) (some (.int r9))) args s 0 0 (zb_A g)) (F0 m 21 ls [.int x2, .ref (g.2.2 + 306)]) := by
    intro H locs ls hP hS hl
    refine lv_iconst (v := (1 : Int32)) hx hb dX8_size_21 (by decide) ?_
    obtain ⟨x3, J4, hx3_J4, hf⟩ := ob2_e hf
    refine zr_cVi (rest := []) (As := [.int x2, .int (1 : Int32)]) X hP hS (ct_X8_throwsIf (g := g) (nc := nc) (I := I) (J := (wr J 306 0 (0 : Int32))) (O := O) hnJ l  hx3_J4) cw_X8_64 (zr_recv X hP (Nat.lt_of_lt_of_le (zk_306).2.1 hnJ) (zb_ceJo zk_306 (by decide)) rfl) rfl hl.1 (Nat.le_of_ble_eq_true rfl) ⟨Nat.le_of_ble_eq_true rfl, Nat.le_of_ble_eq_true rfl⟩ ⟨Nat.le_of_ble_eq_true rfl, Nat.le_of_ble_eq_true rfl⟩ dX8_size_22 rfl (fun H locs hP hS => ?_)
    refine lv_if_eq (tgt := 30) hx hb dX8_size_25 (by decide) (fun hc => ?_) (fun hc => ?_)
    · have hf := if_t hc hf
      refine lv_iload_n hx hb dX8_size_30 rfl (lv_at hl 1 rfl) ?_
      rcases Classical.em (a1 = (0 : Int32)) with q0 | q0
      · have hf := if_t q0 hf
        refine lv_tableIn (off := 77) (tgt := 108) hx hb dX8_size_31 (by rw [q0]; decide) (by rw [q0]; decide) (by rw [q0]; rfl) (by decide) ?_
        refine lv_aload_n hx hb dX8_size_108 rfl (lv_at hl 0 rfl) ?_
        refine gf_X8_7 X hnJ hP zk_306 dX8_size_109 ?_
        refine lv_iconst (v := (0 : Int32)) hx hb dX8_size_112 (by decide) ?_
        obtain ⟨x5, hx5, hf⟩ := ob_e hf
        refine zr_aldJ X hP hnJ zk_307 hx5 dX8_size_113 ?_
        cases hf
        exact zr_iret X hr hP hS dX8_size_114
      have hf := if_f q0 hf
      rcases Classical.em (a1 = (1 : Int32)) with q1 | q1
      · have hf := if_t q1 hf
        refine lv_tableIn (off := 84) (tgt := 115) hx hb dX8_size_31 (by rw [q1]; decide) (by rw [q1]; decide) (by rw [q1]; rfl) (by decide) ?_
        refine lv_aload_n hx hb dX8_size_115 rfl (lv_at hl 0 rfl) ?_
        refine gf_X8_7 X hnJ hP zk_306 dX8_size_116 ?_
        refine lv_iconst (v := (5 : Int32)) hx hb dX8_size_119 (by decide) ?_
        obtain ⟨x6, hx6, hf⟩ := ob_e hf
        refine zr_aldJ X hP hnJ zk_307 hx6 dX8_size_120 ?_
        cases hf
        exact zr_iret X hr hP hS dX8_size_121
      have hf := if_f q1 hf
      rcases Classical.em (a1 = (2 : Int32)) with q2 | q2
      · have hf := if_t q2 hf
        refine lv_tableIn (off := 91) (tgt := 122) hx hb dX8_size_31 (by rw [q2]; decide) (by rw [q2]; decide) (by rw [q2]; rfl) (by decide) ?_
        refine lv_aload_n hx hb dX8_size_122 rfl (lv_at hl 0 rfl) ?_
        refine gf_X8_7 X hnJ hP zk_306 dX8_size_123 ?_
        refine lv_bipush (v := (6 : Int32)) hx hb dX8_size_126 (by decide) ?_
        obtain ⟨x7, hx7, hf⟩ := ob_e hf
        refine zr_aldJ X hP hnJ zk_307 hx7 dX8_size_128 ?_
        cases hf
        exact zr_iret X hr hP hS dX8_size_129
      have hf := if_f q2 hf
      rcases Classical.em (a1 = (3 : Int32)) with q3 | q3
      · have hf := if_t q3 hf
        refine lv_tableIn (off := 99) (tgt := 130) hx hb dX8_size_31 (by rw [q3]; decide) (by rw [q3]; decide) (by rw [q3]; rfl) (by decide) ?_
        refine lv_aload_n hx hb dX8_size_130 rfl (lv_at hl 0 rfl) ?_
        refine lv_iconst (v := (0 : Int32)) hx hb dX8_size_131 (by decide) ?_
        obtain ⟨x8, hx8, hf⟩ := ob_e hf
        refine zr_cVi (rest := []) (As := [.int (0 : Int32)]) X hP hS (ct_X8_inState (g := g) (nc := nc) (I := I) (J := J4) (O := O) hnJ l  hx8) cw_X8_246 (zr_recv X hP (Nat.lt_of_lt_of_le (zk_306).2.1 hnJ) (zb_ceJo zk_306 (by decide)) rfl) rfl hl.1 (Nat.le_of_ble_eq_true rfl) ⟨Nat.le_of_ble_eq_true rfl, Nat.le_of_ble_eq_true rfl⟩ ⟨Nat.le_of_ble_eq_true rfl, Nat.le_of_ble_eq_true rfl⟩ dX8_size_132 rfl (fun H locs hP hS => ?_)
        cases hf
        exact zr_iret X hr hP hS dX8_size_135
      have hf := if_f q3 hf
      rcases Classical.em (a1 = (4 : Int32)) with q4 | q4
      · have hf := if_t q4 hf
        refine lv_tableIn (off := 105) (tgt := 136) hx hb dX8_size_31 (by rw [q4]; decide) (by rw [q4]; decide) (by rw [q4]; rfl) (by decide) ?_
        refine lv_aload_n hx hb dX8_size_136 rfl (lv_at hl 0 rfl) ?_
        refine lv_iconst (v := (1 : Int32)) hx hb dX8_size_137 (by decide) ?_
        obtain ⟨x9, hx9, hf⟩ := ob_e hf
        refine zr_cVi (rest := []) (As := [.int (1 : Int32)]) X hP hS (ct_X8_inState (g := g) (nc := nc) (I := I) (J := J4) (O := O) hnJ l  hx9) cw_X8_246 (zr_recv X hP (Nat.lt_of_lt_of_le (zk_306).2.1 hnJ) (zb_ceJo zk_306 (by decide)) rfl) rfl hl.1 (Nat.le_of_ble_eq_true rfl) ⟨Nat.le_of_ble_eq_true rfl, Nat.le_of_ble_eq_true rfl⟩ ⟨Nat.le_of_ble_eq_true rfl, Nat.le_of_ble_eq_true rfl⟩ dX8_size_138 rfl (fun H locs hP hS => ?_)
        cases hf
        exact zr_iret X hr hP hS dX8_size_141
      have hf := if_f q4 hf
      rcases Classical.em (a1 = (5 : Int32)) with q5 | q5
      · have hf := if_t q5 hf
        refine lv_tableIn (off := 111) (tgt := 142) hx hb dX8_size_31 (by rw [q5]; decide) (by rw [q5]; decide) (by rw [q5]; rfl) (by decide) ?_
        refine lv_aload_n hx hb dX8_size_142 rfl (lv_at hl 0 rfl) ?_
        refine lv_iconst (v := (2 : Int32)) hx hb dX8_size_143 (by decide) ?_
        obtain ⟨x10, hx10, hf⟩ := ob_e hf
        refine zr_cVi (rest := []) (As := [.int (2 : Int32)]) X hP hS (ct_X8_inState (g := g) (nc := nc) (I := I) (J := J4) (O := O) hnJ l  hx10) cw_X8_246 (zr_recv X hP (Nat.lt_of_lt_of_le (zk_306).2.1 hnJ) (zb_ceJo zk_306 (by decide)) rfl) rfl hl.1 (Nat.le_of_ble_eq_true rfl) ⟨Nat.le_of_ble_eq_true rfl, Nat.le_of_ble_eq_true rfl⟩ ⟨Nat.le_of_ble_eq_true rfl, Nat.le_of_ble_eq_true rfl⟩ dX8_size_144 rfl (fun H locs hP hS => ?_)
        cases hf
        exact zr_iret X hr hP hS dX8_size_147
      have hf := if_f q5 hf
      rcases Classical.em (a1 = (6 : Int32)) with q6 | q6
      · have hf := if_t q6 hf
        refine lv_tableIn (off := 117) (tgt := 148) hx hb dX8_size_31 (by rw [q6]; decide) (by rw [q6]; decide) (by rw [q6]; rfl) (by decide) ?_
        refine lv_aload_n hx hb dX8_size_148 rfl (lv_at hl 0 rfl) ?_
        obtain ⟨x11, hx11, hf⟩ := ob_e hf
        refine zr_cVi (rest := []) (As := []) X hP hS (ct_X8_brokenSet (g := g) (nc := nc) (I := I) (J := J4) (O := O) hnJ l  hx11) cw_X8_249 (zr_recv X hP (Nat.lt_of_lt_of_le (zk_306).2.1 hnJ) (zb_ceJo zk_306 (by decide)) rfl) rfl hl.1 (Nat.le_of_ble_eq_true rfl) ⟨Nat.le_of_ble_eq_true rfl, Nat.le_of_ble_eq_true rfl⟩ ⟨Nat.le_of_ble_eq_true rfl, Nat.le_of_ble_eq_true rfl⟩ dX8_size_149 rfl (fun H locs hP hS => ?_)
        obtain ⟨x12, hx12, hf⟩ := ob_e hf
        refine zr_cSi (rest := []) (As := [.int x11]) X hP hS (ct_X8_bits (g := g) (nc := nc) (I := I) (J := J4) (O := O)  l  hx12) cw_X8_243  rfl hl.1 (Nat.le_of_ble_eq_true rfl) ⟨Nat.le_of_ble_eq_true rfl, Nat.le_of_ble_eq_true rfl⟩ ⟨Nat.le_of_ble_eq_true rfl, Nat.le_of_ble_eq_true rfl⟩ dX8_size_152 rfl (fun H locs hP hS => ?_)
        cases hf
        exact zr_iret X hr hP hS dX8_size_155
      have hf := if_f q6 hf
      rcases Classical.em (a1 = (7 : Int32)) with q7 | q7
      · have hf := if_t q7 hf
        refine lv_tableIn (off := 125) (tgt := 156) hx hb dX8_size_31 (by rw [q7]; decide) (by rw [q7]; decide) (by rw [q7]; rfl) (by decide) ?_
        refine lv_aload_n hx hb dX8_size_156 rfl (lv_at hl 0 rfl) ?_
        refine gf_X8_7 X hnJ hP zk_306 dX8_size_157 ?_
        refine lv_iconst (v := (4 : Int32)) hx hb dX8_size_160 (by decide) ?_
        obtain ⟨x13, hx13, hf⟩ := ob_e hf
        refine zr_aldJ X hP hnJ zk_307 hx13 dX8_size_161 ?_
        cases hf
        exact zr_iret X hr hP hS dX8_size_162
      have hf := if_f q7 hf
      rcases Classical.em (a1 = (8 : Int32)) with q8 | q8
      · have hf := if_t q8 hf
        refine lv_tableIn (off := 132) (tgt := 163) hx hb dX8_size_31 (by rw [q8]; decide) (by rw [q8]; decide) (by rw [q8]; rfl) (by decide) ?_
        refine lv_aload_n hx hb dX8_size_163 rfl (lv_at hl 0 rfl) ?_
        refine gf_X8_7 X hnJ hP zk_306 dX8_size_164 ?_
        refine lv_iconst (v := (1 : Int32)) hx hb dX8_size_167 (by decide) ?_
        obtain ⟨x14, hx14, hf⟩ := ob_e hf
        refine zr_aldJ X hP hnJ zk_307 hx14 dX8_size_168 ?_
        cases hf
        exact zr_iret X hr hP hS dX8_size_169
      have hf := if_f q8 hf
      rcases Classical.em (a1 = (9 : Int32)) with q9 | q9
      · have hf := if_t q9 hf
        refine lv_tableIn (off := 139) (tgt := 170) hx hb dX8_size_31 (by rw [q9]; decide) (by rw [q9]; decide) (by rw [q9]; rfl) (by decide) ?_
        refine lv_aload_n hx hb dX8_size_170 rfl (lv_at hl 0 rfl) ?_
        refine gf_X8_7 X hnJ hP zk_306 dX8_size_171 ?_
        refine lv_iconst (v := (2 : Int32)) hx hb dX8_size_174 (by decide) ?_
        obtain ⟨x15, hx15, hf⟩ := ob_e hf
        refine zr_aldJ X hP hnJ zk_307 hx15 dX8_size_175 ?_
        cases hf
        exact zr_iret X hr hP hS dX8_size_176
      have hf := if_f q9 hf
      rcases Classical.em (a1 = (10 : Int32)) with q10 | q10
      · have hf := if_t q10 hf
        refine lv_tableIn (off := 146) (tgt := 177) hx hb dX8_size_31 (by rw [q10]; decide) (by rw [q10]; decide) (by rw [q10]; rfl) (by decide) ?_
        refine lv_aload_n hx hb dX8_size_177 rfl (lv_at hl 0 rfl) ?_
        refine gf_X8_7 X hnJ hP zk_306 dX8_size_178 ?_
        refine lv_iconst (v := (3 : Int32)) hx hb dX8_size_181 (by decide) ?_
        obtain ⟨x16, hx16, hf⟩ := ob_e hf
        refine zr_aldJ X hP hnJ zk_307 hx16 dX8_size_182 ?_
        cases hf
        exact zr_iret X hr hP hS dX8_size_183
      have hf := if_f q10 hf
      rcases Classical.em (a1 = (11 : Int32)) with q11 | q11
      · have hf := if_t q11 hf
        refine lv_tableIn (off := 153) (tgt := 184) hx hb dX8_size_31 (by rw [q11]; decide) (by rw [q11]; decide) (by rw [q11]; rfl) (by decide) ?_
        refine lv_aload_n hx hb dX8_size_184 rfl (lv_at hl 0 rfl) ?_
        refine gf_X8_7 X hnJ hP zk_306 dX8_size_185 ?_
        refine lv_bipush (v := (7 : Int32)) hx hb dX8_size_188 (by decide) ?_
        obtain ⟨x17, hx17, hf⟩ := ob_e hf
        refine zr_aldJ X hP hnJ zk_307 hx17 dX8_size_190 ?_
        cases hf
        exact zr_iret X hr hP hS dX8_size_191
      have hf := if_f q11 hf
      rcases Classical.em (a1 = (12 : Int32)) with q12 | q12
      · have hf := if_t q12 hf
        refine lv_tableIn (off := 161) (tgt := 192) hx hb dX8_size_31 (by rw [q12]; decide) (by rw [q12]; decide) (by rw [q12]; rfl) (by decide) ?_
        refine lv_aload_n hx hb dX8_size_192 rfl (lv_at hl 0 rfl) ?_
        refine gf_X8_173 X hnJ hP zk_306 dX8_size_193 ?_
        cases hf
        exact zr_iret X hr hP hS dX8_size_196
      have hf := if_f q12 hf
      rcases Classical.em (a1 = (13 : Int32)) with q13 | q13
      · have hf := if_t q13 hf
        refine lv_tableIn (off := 166) (tgt := 197) hx hb dX8_size_31 (by rw [q13]; decide) (by rw [q13]; decide) (by rw [q13]; rfl) (by decide) ?_
        refine lv_aload_n hx hb dX8_size_197 rfl (lv_at hl 0 rfl) ?_
        obtain ⟨x18, hx18, hf⟩ := ob_e hf
        refine zr_cVi (rest := []) (As := []) X hP hS (ct_X8_levelled (g := g) (nc := nc) (I := I) (J := J4) (O := O) hnJ l  hx18) cw_X8_252 (zr_recv X hP (Nat.lt_of_lt_of_le (zk_306).2.1 hnJ) (zb_ceJo zk_306 (by decide)) rfl) rfl hl.1 (Nat.le_of_ble_eq_true rfl) ⟨Nat.le_of_ble_eq_true rfl, Nat.le_of_ble_eq_true rfl⟩ ⟨Nat.le_of_ble_eq_true rfl, Nat.le_of_ble_eq_true rfl⟩ dX8_size_198 rfl (fun H locs hP hS => ?_)
        cases hf
        exact zr_iret X hr hP hS dX8_size_201
      have hf := if_f q13 hf
      rcases Classical.em (a1 = (14 : Int32)) with q14 | q14
      · have hf := if_t q14 hf
        refine lv_tableIn (off := 171) (tgt := 202) hx hb dX8_size_31 (by rw [q14]; decide) (by rw [q14]; decide) (by rw [q14]; rfl) (by decide) ?_
        refine lv_aload_n hx hb dX8_size_202 rfl (lv_at hl 0 rfl) ?_
        refine gf_X8_7 X hnJ hP zk_306 dX8_size_203 ?_
        refine lv_bipush (v := (8 : Int32)) hx hb dX8_size_206 (by decide) ?_
        obtain ⟨x19, hx19, hf⟩ := ob_e hf
        refine zr_aldJ X hP hnJ zk_307 hx19 dX8_size_208 ?_
        cases hf
        exact zr_iret X hr hP hS dX8_size_209
      have hf := if_f q14 hf
      rcases Classical.em (a1 = (15 : Int32)) with q15 | q15
      · have hf := if_t q15 hf
        refine lv_tableIn (off := 179) (tgt := 210) hx hb dX8_size_31 (by rw [q15]; decide) (by rw [q15]; decide) (by rw [q15]; rfl) (by decide) ?_
        refine lv_aload_n hx hb dX8_size_210 rfl (lv_at hl 0 rfl) ?_
        refine gf_X8_7 X hnJ hP zk_306 dX8_size_211 ?_
        refine lv_bipush (v := (9 : Int32)) hx hb dX8_size_214 (by decide) ?_
        obtain ⟨x20, hx20, hf⟩ := ob_e hf
        refine zr_aldJ X hP hnJ zk_307 hx20 dX8_size_216 ?_
        cases hf
        exact zr_iret X hr hP hS dX8_size_217
      have hf := if_f q15 hf
      refine lv_tableOut (tgt := 218) hx hb dX8_size_31 (by have z0 := zr_ne (k := 0) (by decide) q0; have z1 := zr_ne (k := 1) (by decide) q1; have z2 := zr_ne (k := 2) (by decide) q2; have z3 := zr_ne (k := 3) (by decide) q3; have z4 := zr_ne (k := 4) (by decide) q4; have z5 := zr_ne (k := 5) (by decide) q5; have z6 := zr_ne (k := 6) (by decide) q6; have z7 := zr_ne (k := 7) (by decide) q7; have z8 := zr_ne (k := 8) (by decide) q8; have z9 := zr_ne (k := 9) (by decide) q9; have z10 := zr_ne (k := 10) (by decide) q10; have z11 := zr_ne (k := 11) (by decide) q11; have z12 := zr_ne (k := 12) (by decide) q12; have z13 := zr_ne (k := 13) (by decide) q13; have z14 := zr_ne (k := 14) (by decide) q14; have z15 := zr_ne (k := 15) (by decide) q15; omega) (by decide) ?_
      refine lv_aload_n hx hb dX8_size_218 rfl (lv_at hl 0 rfl) ?_
      refine gf_X8_7 X hnJ hP zk_306 dX8_size_219 ?_
      refine lv_bipush (v := (10 : Int32)) hx hb dX8_size_222 (by decide) ?_
      obtain ⟨x21, hx21, hf⟩ := ob_e hf
      refine zr_aldJ X hP hnJ zk_307 hx21 dX8_size_224 ?_
      cases hf
      exact zr_iret X hr hP hS dX8_size_225
    · have hf := if_f hc hf
      refine lv_iconst (v := (0 : Int32)) hx hb dX8_size_28 (by decide) ?_
      cases hf
      exact zr_iret X hr hP hS dX8_size_29
  have hf := ht
  refine lv_if_ne (tgt := 20) hx hb dX8_size_13 (by decide) (fun hc => ?_) (fun hc => ?_)
  · have hf := if_f hc hf
    refine lv_iconst (v := (0 : Int32)) hx hb dX8_size_20 (by decide) ?_
    cases hf
    exact K1 H locs ls hP hS (lv_sub hl [0, 1] rfl)
  · have hf := if_t hc hf
    refine lv_iconst (v := (1 : Int32)) hx hb dX8_size_16 (by decide) ?_
    refine lv_goto (tgt := 21) hx hb dX8_size_17 (by decide) ?_
    cases hf
    exact K1 H locs ls hP hS (lv_sub hl [0, 1] rfl)
set_option maxHeartbeats 4000000 in
set_option maxRecDepth 100000 in
theorem ct_X8_buoy {g : zb_G} {nc : Nat} (hnJ : 318 ≤ nc) (l : Launch) {a1 : Int32} {a2 : Int32} {I J O : Mem} {r9 : Int32} {Jq : Mem} (hf : fX8_buoy a1 a2 J = some (r9, Jq)) : zb_Ct l g nc yX8_buoy cX8_buoy 3 (some .int) 2 43 [.ref (g.2.2 + 306), .int a1, .int a2] (zb_ce g I J O) (some (.int r9)) (zb_ce g I Jq O) := by
  refine zb_ofW (own := RX8) (by decide +kernel) rfl (Nat.le_of_ble_eq_true rfl) ?_
  intro p e s m args below meth c ls X hr hP hl
  have hx := X.1.1
  have hb := X.1.2.1
  have ho := X.1.2.2.2.1
  have hts := X.1.2.2.2.2
  have hZ := X.2.2.2
  have hl : lv_has ls 3 [(0, .ref (g.2.2 + 306)), (1, .int a1), (2, .int a2)] := hl
  have hS : va_S (zb_A g) s.heap s.heap [] := va_S.rf
  obtain ⟨H, hH⟩ : ∃ H, H = s.heap := ⟨_, rfl⟩
  obtain ⟨locs, hlocs⟩ : ∃ z : List Loc, z = [] := ⟨_, rfl⟩
  rw [← hH] at hP
  have hS : va_S (zb_A g) s.heap H locs := by rw [hH, hlocs]; exact hS
  show W p l e _ s m args below meth c s.heap [] 0 0 _ _
  rw [← hH, ← hlocs]
  rw [fX8_buoy] at hf
  refine lv_aload_n hx hb dX8_buoy_0 rfl (lv_at hl 0 rfl) ?_
  refine lv_iconst (v := (0 : Int32)) hx hb dX8_buoy_1 (by decide) ?_
  refine pf_X8_57 X hnJ hP hS zk_306 dX8_buoy_2 (fun H locs hP hS => ?_)
  refine lv_aload_n hx hb dX8_buoy_5 rfl (lv_at hl 0 rfl) ?_
  refine lv_iload_n hx hb dX8_buoy_6 rfl (lv_at hl 1 rfl) ?_
  obtain ⟨x1, J2, hx1_J2, hf⟩ := ob2_e hf
  refine zr_cVi (rest := []) (As := [.int a1]) X hP hS (ct_X8_noBuoy (g := g) (nc := nc) (I := I) (J := (wr J 306 0 (0 : Int32))) (O := O) hnJ l  hx1_J2) cw_X8_255 (zr_recv X hP (Nat.lt_of_lt_of_le (zk_306).2.1 hnJ) (zb_ceJo zk_306 (by decide)) rfl) rfl hl.1 (Nat.le_of_ble_eq_true rfl) ⟨Nat.le_of_ble_eq_true rfl, Nat.le_of_ble_eq_true rfl⟩ ⟨Nat.le_of_ble_eq_true rfl, Nat.le_of_ble_eq_true rfl⟩ dX8_buoy_7 rfl (fun H locs hP hS => ?_)
  refine lv_if_ne (tgt := 36) hx hb dX8_buoy_10 (by decide) (fun hc => ?_) (fun hc => ?_)
  · have hf := if_f hc hf
    refine lv_iconst (v := (0 : Int32)) hx hb dX8_buoy_36 (by decide) ?_
    cases hf
    exact zr_iret X hr hP hS dX8_buoy_37
  · have hf := if_t hc hf
    refine lv_aload_n hx hb dX8_buoy_13 rfl (lv_at hl 0 rfl) ?_
    refine lv_iload_n hx hb dX8_buoy_14 rfl (lv_at hl 2 rfl) ?_
    refine lv_iconst (v := (0 : Int32)) hx hb dX8_buoy_15 (by decide) ?_
    refine lv_bipush (v := (9 : Int32)) hx hb dX8_buoy_16 (by decide) ?_
    obtain ⟨x3, hx3, hf⟩ := ob_e hf
    refine zr_cSi (rest := [.ref (g.2.2 + 306)]) (As := [.int a2, .int (0 : Int32), .int (9 : Int32)]) X hP hS (ct_X8_within (g := g) (nc := nc) (I := I) (J := J2) (O := O)  l  hx3) cw_X8_60  rfl hl.1 (Nat.le_of_ble_eq_true rfl) ⟨Nat.le_of_ble_eq_true rfl, Nat.le_of_ble_eq_true rfl⟩ ⟨Nat.le_of_ble_eq_true rfl, Nat.le_of_ble_eq_true rfl⟩ dX8_buoy_18 rfl (fun H locs hP hS => ?_)
    obtain ⟨x4, ht, hf⟩ := pl_e hf
    have K1 : ∀ (H : Heap) (locs : List Loc) (ls : Array Slot), va_P g.1 vwCl (zb_ws g nc (zb_ce g I J2 O)) H → va_S (zb_A g) s.heap H locs → lv_has ls 3 [(0, .ref (g.2.2 + 306)), (1, .int a1), (2, .int a2)] → W p l e { frames := 2, cells := 0, slots := 0, locals := 43 } s m args below meth c H locs 0 0 (MQ below (zb_Po g nc (zb_ce g I Jq O) (some (.int r9))) args s 0 0 (zb_A g)) (F0 m 29 ls [.int x4, .ref (g.2.2 + 306)]) := by
      intro H locs ls hP hS hl
      refine lv_iconst (v := (2 : Int32)) hx hb dX8_buoy_29 (by decide) ?_
      obtain ⟨x5, J6, hx5_J6, hf⟩ := ob2_e hf
      refine zr_cVi (rest := []) (As := [.int x4, .int (2 : Int32)]) X hP hS (ct_X8_throwsIf (g := g) (nc := nc) (I := I) (J := J2) (O := O) hnJ l  hx5_J6) cw_X8_64 (zr_recv X hP (Nat.lt_of_lt_of_le (zk_306).2.1 hnJ) (zb_ceJo zk_306 (by decide)) rfl) rfl hl.1 (Nat.le_of_ble_eq_true rfl) ⟨Nat.le_of_ble_eq_true rfl, Nat.le_of_ble_eq_true rfl⟩ ⟨Nat.le_of_ble_eq_true rfl, Nat.le_of_ble_eq_true rfl⟩ dX8_buoy_30 rfl (fun H locs hP hS => ?_)
      refine lv_if_eq (tgt := 38) hx hb dX8_buoy_33 (by decide) (fun hc => ?_) (fun hc => ?_)
      · have hf := if_t hc hf
        refine lv_aload_n hx hb dX8_buoy_38 rfl (lv_at hl 0 rfl) ?_
        refine gf_X8_7 X hnJ hP zk_306 dX8_buoy_39 ?_
        refine lv_bipush (v := (12 : Int32)) hx hb dX8_buoy_42 (by decide) ?_
        refine lv_bipush (v := (10 : Int32)) hx hb dX8_buoy_44 (by decide) ?_
        refine lv_iload_n hx hb dX8_buoy_46 rfl (lv_at hl 2 rfl) ?_
        refine lv_imul hx hb dX8_buoy_47 ?_
        refine lv_iadd hx hb dX8_buoy_48 ?_
        refine lv_iload_n hx hb dX8_buoy_49 rfl (lv_at hl 1 rfl) ?_
        refine lv_iadd hx hb dX8_buoy_50 ?_
        obtain ⟨x7, hx7, hf⟩ := ob_e hf
        refine zr_aldJ X hP hnJ zk_307 hx7 dX8_buoy_51 ?_
        cases hf
        exact zr_iret X hr hP hS dX8_buoy_52
      · have hf := if_f hc hf
        refine lv_iconst (v := (0 : Int32)) hx hb dX8_buoy_36 (by decide) ?_
        cases hf
        exact zr_iret X hr hP hS dX8_buoy_37
    have hf := ht
    refine lv_if_ne (tgt := 28) hx hb dX8_buoy_21 (by decide) (fun hc => ?_) (fun hc => ?_)
    · have hf := if_f hc hf
      refine lv_iconst (v := (0 : Int32)) hx hb dX8_buoy_28 (by decide) ?_
      cases hf
      exact K1 H locs ls hP hS (lv_sub hl [0, 1, 2] rfl)
    · have hf := if_t hc hf
      refine lv_iconst (v := (1 : Int32)) hx hb dX8_buoy_24 (by decide) ?_
      refine lv_goto (tgt := 29) hx hb dX8_buoy_25 (by decide) ?_
      cases hf
      exact K1 H locs ls hP hS (lv_sub hl [0, 1, 2] rfl)
set_option maxHeartbeats 4000000 in
set_option maxRecDepth 100000 in
theorem ct_X8_long0 {g : zb_G} {nc : Nat} (hnJ : 318 ≤ nc) (l : Launch) {a1 : Int32} {I J O : Mem} {r9 : Int32} (hf : fX8_long0 a1 J = some r9) : zb_Ct l g nc yX8_long0 cX8_long0 2 (some .int) 0 0 [.ref (g.2.2 + 306), .int a1] (zb_ce g I J O) (some (.int r9)) (zb_ce g I J O) := by
  refine zb_ofW (own := RX8) (by decide +kernel) rfl (Nat.le_of_ble_eq_true rfl) ?_
  intro p e s m args below meth c ls X hr hP hl
  have hx := X.1.1
  have hb := X.1.2.1
  have ho := X.1.2.2.2.1
  have hts := X.1.2.2.2.2
  have hZ := X.2.2.2
  have hl : lv_has ls 2 [(0, .ref (g.2.2 + 306)), (1, .int a1)] := hl
  have hS : va_S (zb_A g) s.heap s.heap [] := va_S.rf
  obtain ⟨H, hH⟩ : ∃ H, H = s.heap := ⟨_, rfl⟩
  obtain ⟨locs, hlocs⟩ : ∃ z : List Loc, z = [] := ⟨_, rfl⟩
  rw [← hH] at hP
  have hS : va_S (zb_A g) s.heap H locs := by rw [hH, hlocs]; exact hS
  show W p l e _ s m args below meth c s.heap [] 0 0 _ _
  rw [← hH, ← hlocs]
  rw [fX8_long0] at hf
  refine lv_aload_n hx hb dX8_long0_0 rfl (lv_at hl 0 rfl) ?_
  refine gf_X8_7 X hnJ hP zk_306 dX8_long0_1 ?_
  refine lv_bipush (v := (12 : Int32)) hx hb dX8_long0_4 (by decide) ?_
  refine lv_iload_n hx hb dX8_long0_6 rfl (lv_at hl 1 rfl) ?_
  refine lv_iadd hx hb dX8_long0_7 ?_
  refine lv_iconst (v := (1 : Int32)) hx hb dX8_long0_8 (by decide) ?_
  refine lv_iadd hx hb dX8_long0_9 ?_
  obtain ⟨x1, hx1, hf⟩ := ob_e hf
  refine zr_aldJ X hP hnJ zk_307 hx1 dX8_long0_10 ?_
  refine lv_aload_n hx hb dX8_long0_11 rfl (lv_at hl 0 rfl) ?_
  refine gf_X8_7 X hnJ hP zk_306 dX8_long0_12 ?_
  refine lv_bipush (v := (12 : Int32)) hx hb dX8_long0_15 (by decide) ?_
  refine lv_iload_n hx hb dX8_long0_17 rfl (lv_at hl 1 rfl) ?_
  refine lv_iadd hx hb dX8_long0_18 ?_
  obtain ⟨x2, hx2, hf⟩ := ob_e hf
  refine zr_aldJ X hP hnJ zk_307 hx2 dX8_long0_19 ?_
  refine lv_isub hx hb dX8_long0_20 ?_
  cases hf
  exact zr_iret X hr hP hS dX8_long0_21
set_option maxHeartbeats 4000000 in
set_option maxRecDepth 100000 in
theorem ct_X8_rope {g : zb_G} {nc : Nat} (hnJ : 318 ≤ nc) (l : Launch) {a1 : Int32} {a2 : Int32} {I J O : Mem} {r9 : Int32} {Jq : Mem} (hf : fX8_rope a1 a2 J = some (r9, Jq)) : zb_Ct l g nc yX8_rope cX8_rope 3 (some .int) 2 43 [.ref (g.2.2 + 306), .int a1, .int a2] (zb_ce g I J O) (some (.int r9)) (zb_ce g I Jq O) := by
  refine zb_ofW (own := RX8) (by decide +kernel) rfl (Nat.le_of_ble_eq_true rfl) ?_
  intro p e s m args below meth c ls X hr hP hl
  have hx := X.1.1
  have hb := X.1.2.1
  have ho := X.1.2.2.2.1
  have hts := X.1.2.2.2.2
  have hZ := X.2.2.2
  have hl : lv_has ls 3 [(0, .ref (g.2.2 + 306)), (1, .int a1), (2, .int a2)] := hl
  have hS : va_S (zb_A g) s.heap s.heap [] := va_S.rf
  obtain ⟨H, hH⟩ : ∃ H, H = s.heap := ⟨_, rfl⟩
  obtain ⟨locs, hlocs⟩ : ∃ z : List Loc, z = [] := ⟨_, rfl⟩
  rw [← hH] at hP
  have hS : va_S (zb_A g) s.heap H locs := by rw [hH, hlocs]; exact hS
  show W p l e _ s m args below meth c s.heap [] 0 0 _ _
  rw [← hH, ← hlocs]
  rw [fX8_rope] at hf
  refine lv_aload_n hx hb dX8_rope_0 rfl (lv_at hl 0 rfl) ?_
  refine lv_iconst (v := (0 : Int32)) hx hb dX8_rope_1 (by decide) ?_
  refine pf_X8_57 X hnJ hP hS zk_306 dX8_rope_2 (fun H locs hP hS => ?_)
  refine lv_aload_n hx hb dX8_rope_5 rfl (lv_at hl 0 rfl) ?_
  refine lv_iload_n hx hb dX8_rope_6 rfl (lv_at hl 1 rfl) ?_
  obtain ⟨x1, J2, hx1_J2, hf⟩ := ob2_e hf
  refine zr_cVi (rest := []) (As := [.int a1]) X hP hS (ct_X8_noRope (g := g) (nc := nc) (I := I) (J := (wr J 306 0 (0 : Int32))) (O := O) hnJ l  hx1_J2) cw_X8_258 (zr_recv X hP (Nat.lt_of_lt_of_le (zk_306).2.1 hnJ) (zb_ceJo zk_306 (by decide)) rfl) rfl hl.1 (Nat.le_of_ble_eq_true rfl) ⟨Nat.le_of_ble_eq_true rfl, Nat.le_of_ble_eq_true rfl⟩ ⟨Nat.le_of_ble_eq_true rfl, Nat.le_of_ble_eq_true rfl⟩ dX8_rope_7 rfl (fun H locs hP hS => ?_)
  refine lv_if_ne (tgt := 35) hx hb dX8_rope_10 (by decide) (fun hc => ?_) (fun hc => ?_)
  · have hf := if_f hc hf
    refine lv_iconst (v := (0 : Int32)) hx hb dX8_rope_35 (by decide) ?_
    cases hf
    exact zr_iret X hr hP hS dX8_rope_36
  · have hf := if_t hc hf
    refine lv_aload_n hx hb dX8_rope_13 rfl (lv_at hl 0 rfl) ?_
    refine lv_iload_n hx hb dX8_rope_14 rfl (lv_at hl 2 rfl) ?_
    refine lv_iconst (v := (0 : Int32)) hx hb dX8_rope_15 (by decide) ?_
    refine lv_iconst (v := (3 : Int32)) hx hb dX8_rope_16 (by decide) ?_
    obtain ⟨x3, hx3, hf⟩ := ob_e hf
    refine zr_cSi (rest := [.ref (g.2.2 + 306)]) (As := [.int a2, .int (0 : Int32), .int (3 : Int32)]) X hP hS (ct_X8_within (g := g) (nc := nc) (I := I) (J := J2) (O := O)  l  hx3) cw_X8_60  rfl hl.1 (Nat.le_of_ble_eq_true rfl) ⟨Nat.le_of_ble_eq_true rfl, Nat.le_of_ble_eq_true rfl⟩ ⟨Nat.le_of_ble_eq_true rfl, Nat.le_of_ble_eq_true rfl⟩ dX8_rope_17 rfl (fun H locs hP hS => ?_)
    obtain ⟨x4, ht, hf⟩ := pl_e hf
    have K1 : ∀ (H : Heap) (locs : List Loc) (ls : Array Slot), va_P g.1 vwCl (zb_ws g nc (zb_ce g I J2 O)) H → va_S (zb_A g) s.heap H locs → lv_has ls 3 [(0, .ref (g.2.2 + 306)), (1, .int a1), (2, .int a2)] → W p l e { frames := 2, cells := 0, slots := 0, locals := 43 } s m args below meth c H locs 0 0 (MQ below (zb_Po g nc (zb_ce g I Jq O) (some (.int r9))) args s 0 0 (zb_A g)) (F0 m 28 ls [.int x4, .ref (g.2.2 + 306)]) := by
      intro H locs ls hP hS hl
      refine lv_iconst (v := (2 : Int32)) hx hb dX8_rope_28 (by decide) ?_
      obtain ⟨x5, J6, hx5_J6, hf⟩ := ob2_e hf
      refine zr_cVi (rest := []) (As := [.int x4, .int (2 : Int32)]) X hP hS (ct_X8_throwsIf (g := g) (nc := nc) (I := I) (J := J2) (O := O) hnJ l  hx5_J6) cw_X8_64 (zr_recv X hP (Nat.lt_of_lt_of_le (zk_306).2.1 hnJ) (zb_ceJo zk_306 (by decide)) rfl) rfl hl.1 (Nat.le_of_ble_eq_true rfl) ⟨Nat.le_of_ble_eq_true rfl, Nat.le_of_ble_eq_true rfl⟩ ⟨Nat.le_of_ble_eq_true rfl, Nat.le_of_ble_eq_true rfl⟩ dX8_rope_29 rfl (fun H locs hP hS => ?_)
      refine lv_if_eq (tgt := 37) hx hb dX8_rope_32 (by decide) (fun hc => ?_) (fun hc => ?_)
      · have hf := if_t hc hf
        refine lv_iload_n hx hb dX8_rope_37 rfl (lv_at hl 2 rfl) ?_
        obtain ⟨x9, ht, hf⟩ := ob_e hf
        have K2 : ∀ (H : Heap) (locs : List Loc) (ls : Array Slot), va_P g.1 vwCl (zb_ws g nc (zb_ce g I J6 O)) H → va_S (zb_A g) s.heap H locs → lv_has ls 3 [] → W p l e { frames := 2, cells := 0, slots := 0, locals := 43 } s m args below meth c H locs 0 0 (MQ below (zb_Po g nc (zb_ce g I Jq O) (some (.int r9))) args s 0 0 (zb_A g)) (F0 m 65 ls [.int x9]) := by
          intro H locs ls hP hS hl
          cases hf
          exact zr_iret X hr hP hS dX8_rope_65
        have hf := ht
        refine lv_if_ne (tgt := 49) hx hb dX8_rope_38 (by decide) (fun hc => ?_) (fun hc => ?_)
        · have hf := if_f hc hf
          refine lv_aload_n hx hb dX8_rope_49 rfl (lv_at hl 0 rfl) ?_
          refine gf_X8_7 X hnJ hP zk_306 dX8_rope_50 ?_
          refine lv_bipush (v := (112 : Int32)) hx hb dX8_rope_53 (by decide) ?_
          refine lv_bipush (v := (10 : Int32)) hx hb dX8_rope_55 (by decide) ?_
          refine lv_iload_n hx hb dX8_rope_57 rfl (lv_at hl 2 rfl) ?_
          refine lv_iconst (v := (1 : Int32)) hx hb dX8_rope_58 (by decide) ?_
          refine lv_isub hx hb dX8_rope_59 ?_
          refine lv_imul hx hb dX8_rope_60 ?_
          refine lv_iadd hx hb dX8_rope_61 ?_
          refine lv_iload_n hx hb dX8_rope_62 rfl (lv_at hl 1 rfl) ?_
          refine lv_iadd hx hb dX8_rope_63 ?_
          obtain ⟨x7, hx7, hf⟩ := ob_e hf
          refine zr_aldJ X hP hnJ zk_307 hx7 dX8_rope_64 ?_
          cases hf
          exact K2 H locs ls hP hS (lv_sub hl [] rfl)
        · have hf := if_t hc hf
          refine lv_aload_n hx hb dX8_rope_41 rfl (lv_at hl 0 rfl) ?_
          refine lv_iload_n hx hb dX8_rope_42 rfl (lv_at hl 1 rfl) ?_
          obtain ⟨x8, hx8, hf⟩ := ob_e hf
          refine zr_cVi (rest := []) (As := [.int a1]) X hP hS (ct_X8_long0 (g := g) (nc := nc) (I := I) (J := J6) (O := O) hnJ l  hx8) cw_X8_261 (zr_recv X hP (Nat.lt_of_lt_of_le (zk_306).2.1 hnJ) (zb_ceJo zk_306 (by decide)) rfl) rfl hl.1 (Nat.le_of_ble_eq_true rfl) ⟨Nat.le_of_ble_eq_true rfl, Nat.le_of_ble_eq_true rfl⟩ ⟨Nat.le_of_ble_eq_true rfl, Nat.le_of_ble_eq_true rfl⟩ dX8_rope_43 rfl (fun H locs hP hS => ?_)
          refine lv_goto (tgt := 65) hx hb dX8_rope_46 (by decide) ?_
          cases hf
          exact K2 H locs ls hP hS (lv_sub hl [] rfl)
      · have hf := if_f hc hf
        refine lv_iconst (v := (0 : Int32)) hx hb dX8_rope_35 (by decide) ?_
        cases hf
        exact zr_iret X hr hP hS dX8_rope_36
    have hf := ht
    refine lv_if_ne (tgt := 27) hx hb dX8_rope_20 (by decide) (fun hc => ?_) (fun hc => ?_)
    · have hf := if_f hc hf
      refine lv_iconst (v := (0 : Int32)) hx hb dX8_rope_27 (by decide) ?_
      cases hf
      exact K1 H locs ls hP hS (lv_sub hl [0, 1, 2] rfl)
    · have hf := if_t hc hf
      refine lv_iconst (v := (1 : Int32)) hx hb dX8_rope_23 (by decide) ?_
      refine lv_goto (tgt := 28) hx hb dX8_rope_24 (by decide) ?_
      cases hf
      exact K1 H locs ls hP hS (lv_sub hl [0, 1, 2] rfl)
set_option maxHeartbeats 4000000 in
set_option maxRecDepth 100000 in
theorem ct_X8_account {g : zb_G} {nc : Nat} (hnJ : 318 ≤ nc) (l : Launch) {a1 : Int32} {I J O : Mem} {r9 : Int32} {Jq : Mem} (hf : fX8_account a1 J = some (r9, Jq)) : zb_Ct l g nc yX8_account cX8_account 2 (some .int) 1 22 [.ref (g.2.2 + 306), .int a1] (zb_ce g I J O) (some (.int r9)) (zb_ce g I Jq O) := by
  refine zb_ofW (own := RX8) (by decide +kernel) rfl (Nat.le_of_ble_eq_true rfl) ?_
  intro p e s m args below meth c ls X hr hP hl
  have hx := X.1.1
  have hb := X.1.2.1
  have ho := X.1.2.2.2.1
  have hts := X.1.2.2.2.2
  have hZ := X.2.2.2
  have hl : lv_has ls 2 [(0, .ref (g.2.2 + 306)), (1, .int a1)] := hl
  have hS : va_S (zb_A g) s.heap s.heap [] := va_S.rf
  obtain ⟨H, hH⟩ : ∃ H, H = s.heap := ⟨_, rfl⟩
  obtain ⟨locs, hlocs⟩ : ∃ z : List Loc, z = [] := ⟨_, rfl⟩
  rw [← hH] at hP
  have hS : va_S (zb_A g) s.heap H locs := by rw [hH, hlocs]; exact hS
  show W p l e _ s m args below meth c s.heap [] 0 0 _ _
  rw [← hH, ← hlocs]
  rw [fX8_account] at hf
  refine lv_aload_n hx hb dX8_account_0 rfl (lv_at hl 0 rfl) ?_
  refine lv_iconst (v := (0 : Int32)) hx hb dX8_account_1 (by decide) ?_
  refine pf_X8_57 X hnJ hP hS zk_306 dX8_account_2 (fun H locs hP hS => ?_)
  refine lv_aload_n hx hb dX8_account_5 rfl (lv_at hl 0 rfl) ?_
  refine lv_iload_n hx hb dX8_account_6 rfl (lv_at hl 1 rfl) ?_
  refine lv_iconst (v := (0 : Int32)) hx hb dX8_account_7 (by decide) ?_
  refine lv_iconst (v := (4 : Int32)) hx hb dX8_account_8 (by decide) ?_
  obtain ⟨x1, hx1, hf⟩ := ob_e hf
  refine zr_cSi (rest := [.ref (g.2.2 + 306)]) (As := [.int a1, .int (0 : Int32), .int (4 : Int32)]) X hP hS (ct_X8_within (g := g) (nc := nc) (I := I) (J := (wr J 306 0 (0 : Int32))) (O := O)  l  hx1) cw_X8_60  rfl hl.1 (Nat.le_of_ble_eq_true rfl) ⟨Nat.le_of_ble_eq_true rfl, Nat.le_of_ble_eq_true rfl⟩ ⟨Nat.le_of_ble_eq_true rfl, Nat.le_of_ble_eq_true rfl⟩ dX8_account_9 rfl (fun H locs hP hS => ?_)
  obtain ⟨x2, ht, hf⟩ := pl_e hf
  have K1 : ∀ (H : Heap) (locs : List Loc) (ls : Array Slot), va_P g.1 vwCl (zb_ws g nc (zb_ce g I (wr J 306 0 (0 : Int32)) O)) H → va_S (zb_A g) s.heap H locs → lv_has ls 2 [(0, .ref (g.2.2 + 306)), (1, .int a1)] → W p l e { frames := 1, cells := 0, slots := 0, locals := 22 } s m args below meth c H locs 0 0 (MQ below (zb_Po g nc (zb_ce g I Jq O) (some (.int r9))) args s 0 0 (zb_A g)) (F0 m 20 ls [.int x2, .ref (g.2.2 + 306)]) := by
    intro H locs ls hP hS hl
    refine lv_iconst (v := (1 : Int32)) hx hb dX8_account_20 (by decide) ?_
    obtain ⟨x3, J4, hx3_J4, hf⟩ := ob2_e hf
    refine zr_cVi (rest := []) (As := [.int x2, .int (1 : Int32)]) X hP hS (ct_X8_throwsIf (g := g) (nc := nc) (I := I) (J := (wr J 306 0 (0 : Int32))) (O := O) hnJ l  hx3_J4) cw_X8_64 (zr_recv X hP (Nat.lt_of_lt_of_le (zk_306).2.1 hnJ) (zb_ceJo zk_306 (by decide)) rfl) rfl hl.1 (Nat.le_of_ble_eq_true rfl) ⟨Nat.le_of_ble_eq_true rfl, Nat.le_of_ble_eq_true rfl⟩ ⟨Nat.le_of_ble_eq_true rfl, Nat.le_of_ble_eq_true rfl⟩ dX8_account_21 rfl (fun H locs hP hS => ?_)
    obtain ⟨x6, ht, hf⟩ := ob_e hf
    have K2 : ∀ (H : Heap) (locs : List Loc) (ls : Array Slot), va_P g.1 vwCl (zb_ws g nc (zb_ce g I J4 O)) H → va_S (zb_A g) s.heap H locs → lv_has ls 2 [] → W p l e { frames := 1, cells := 0, slots := 0, locals := 22 } s m args below meth c H locs 0 0 (MQ below (zb_Po g nc (zb_ce g I Jq O) (some (.int r9))) args s 0 0 (zb_A g)) (F0 m 37 ls [.int x6]) := by
      intro H locs ls hP hS hl
      cases hf
      exact zr_iret X hr hP hS dX8_account_37
    have hf := ht
    refine lv_if_eq (tgt := 31) hx hb dX8_account_24 (by decide) (fun hc => ?_) (fun hc => ?_)
    · have hf := if_t hc hf
      refine lv_aload_n hx hb dX8_account_31 rfl (lv_at hl 0 rfl) ?_
      refine gf_X8_29 X hnJ hP zk_306 dX8_account_32 ?_
      refine lv_iload_n hx hb dX8_account_35 rfl (lv_at hl 1 rfl) ?_
      obtain ⟨x5, hx5, hf⟩ := ob_e hf
      refine zr_aldJ X hP hnJ zk_313 hx5 dX8_account_36 ?_
      cases hf
      exact K2 H locs ls hP hS (lv_sub hl [] rfl)
    · have hf := if_f hc hf
      refine lv_iconst (v := (0 : Int32)) hx hb dX8_account_27 (by decide) ?_
      refine lv_goto (tgt := 37) hx hb dX8_account_28 (by decide) ?_
      cases hf
      exact K2 H locs ls hP hS (lv_sub hl [] rfl)
  have hf := ht
  refine lv_if_ne (tgt := 19) hx hb dX8_account_12 (by decide) (fun hc => ?_) (fun hc => ?_)
  · have hf := if_f hc hf
    refine lv_iconst (v := (0 : Int32)) hx hb dX8_account_19 (by decide) ?_
    cases hf
    exact K1 H locs ls hP hS (lv_sub hl [0, 1] rfl)
  · have hf := if_t hc hf
    refine lv_iconst (v := (1 : Int32)) hx hb dX8_account_15 (by decide) ?_
    refine lv_goto (tgt := 20) hx hb dX8_account_16 (by decide) ?_
    cases hf
    exact K1 H locs ls hP hS (lv_sub hl [0, 1] rfl)
set_option maxHeartbeats 4000000 in
set_option maxRecDepth 100000 in
theorem ct_X8_noHour {g : zb_G} {nc : Nat} (hnJ : 318 ≤ nc) (l : Launch) {a1 : Int32} {I J O : Mem} {r9 : Int32} {Jq : Mem} (hf : fX8_noHour a1 J = some (r9, Jq)) : zb_Ct l g nc yX8_noHour cX8_noHour 2 (some .boolean) 1 22 [.ref (g.2.2 + 306), .int a1] (zb_ce g I J O) (some (.int r9)) (zb_ce g I Jq O) := by
  refine zb_ofW (own := RX8) (by decide +kernel) rfl (Nat.le_of_ble_eq_true rfl) ?_
  intro p e s m args below meth c ls X hr hP hl
  have hx := X.1.1
  have hb := X.1.2.1
  have ho := X.1.2.2.2.1
  have hts := X.1.2.2.2.2
  have hZ := X.2.2.2
  have hl : lv_has ls 2 [(0, .ref (g.2.2 + 306)), (1, .int a1)] := hl
  have hS : va_S (zb_A g) s.heap s.heap [] := va_S.rf
  obtain ⟨H, hH⟩ : ∃ H, H = s.heap := ⟨_, rfl⟩
  obtain ⟨locs, hlocs⟩ : ∃ z : List Loc, z = [] := ⟨_, rfl⟩
  rw [← hH] at hP
  have hS : va_S (zb_A g) s.heap H locs := by rw [hH, hlocs]; exact hS
  show W p l e _ s m args below meth c s.heap [] 0 0 _ _
  rw [← hH, ← hlocs]
  rw [fX8_noHour] at hf
  refine lv_aload_n hx hb dX8_noHour_0 rfl (lv_at hl 0 rfl) ?_
  refine lv_iload_n hx hb dX8_noHour_1 rfl (lv_at hl 1 rfl) ?_
  refine lv_aload_n hx hb dX8_noHour_2 rfl (lv_at hl 0 rfl) ?_
  obtain ⟨x1, hx1, hf⟩ := ob_e hf
  refine zr_cVi (rest := [.int a1, .ref (g.2.2 + 306)]) (As := []) X hP hS (ct_X8_firstHour (g := g) (nc := nc) (I := I) (J := J) (O := O) hnJ l  hx1) cw_X8_203 (zr_recv X hP (Nat.lt_of_lt_of_le (zk_306).2.1 hnJ) (zb_ceJo zk_306 (by decide)) rfl) rfl hl.1 (Nat.le_of_ble_eq_true rfl) ⟨Nat.le_of_ble_eq_true rfl, Nat.le_of_ble_eq_true rfl⟩ ⟨Nat.le_of_ble_eq_true rfl, Nat.le_of_ble_eq_true rfl⟩ dX8_noHour_3 rfl (fun H locs hP hS => ?_)
  refine lv_aload_n hx hb dX8_noHour_6 rfl (lv_at hl 0 rfl) ?_
  refine gf_X8_7 X hnJ hP zk_306 dX8_noHour_7 ?_
  refine lv_iconst (v := (5 : Int32)) hx hb dX8_noHour_10 (by decide) ?_
  obtain ⟨x2, hx2, hf⟩ := ob_e hf
  refine zr_aldJ X hP hnJ zk_307 hx2 dX8_noHour_11 ?_
  refine lv_iconst (v := (1 : Int32)) hx hb dX8_noHour_12 (by decide) ?_
  refine lv_isub hx hb dX8_noHour_13 ?_
  obtain ⟨x3, hx3, hf⟩ := ob_e hf
  refine zr_cSi (rest := [.ref (g.2.2 + 306)]) (As := [.int a1, .int x1, .int (x2 - (1 : Int32))]) X hP hS (ct_X8_within (g := g) (nc := nc) (I := I) (J := J) (O := O)  l  hx3) cw_X8_60  rfl hl.1 (Nat.le_of_ble_eq_true rfl) ⟨Nat.le_of_ble_eq_true rfl, Nat.le_of_ble_eq_true rfl⟩ ⟨Nat.le_of_ble_eq_true rfl, Nat.le_of_ble_eq_true rfl⟩ dX8_noHour_14 rfl (fun H locs hP hS => ?_)
  obtain ⟨x4, ht, hf⟩ := pl_e hf
  have K1 : ∀ (H : Heap) (locs : List Loc) (ls : Array Slot), va_P g.1 vwCl (zb_ws g nc (zb_ce g I J O)) H → va_S (zb_A g) s.heap H locs → lv_has ls 2 [] → W p l e { frames := 1, cells := 0, slots := 0, locals := 22 } s m args below meth c H locs 0 0 (MQ below (zb_Po g nc (zb_ce g I Jq O) (some (.int r9))) args s 0 0 (zb_A g)) (F0 m 25 ls [.int x4, .ref (g.2.2 + 306)]) := by
    intro H locs ls hP hS hl
    refine lv_iconst (v := (1 : Int32)) hx hb dX8_noHour_25 (by decide) ?_
    obtain ⟨x5, J6, hx5_J6, hf⟩ := ob2_e hf
    refine zr_cVi (rest := []) (As := [.int x4, .int (1 : Int32)]) X hP hS (ct_X8_throwsIf (g := g) (nc := nc) (I := I) (J := J) (O := O) hnJ l  hx5_J6) cw_X8_64 (zr_recv X hP (Nat.lt_of_lt_of_le (zk_306).2.1 hnJ) (zb_ceJo zk_306 (by decide)) rfl) rfl hl.1 (Nat.le_of_ble_eq_true rfl) ⟨Nat.le_of_ble_eq_true rfl, Nat.le_of_ble_eq_true rfl⟩ ⟨Nat.le_of_ble_eq_true rfl, Nat.le_of_ble_eq_true rfl⟩ dX8_noHour_26 rfl (fun H locs hP hS => ?_)
    obtain ⟨v9, hv9, hf⟩ := ob_e hf
    obtain ⟨hn9, he9⟩ := zbo_e hv9
    cases hf
    cases he9
    exact zr_zret X hr hn9 hP hS dX8_noHour_29
  have hf := ht
  refine lv_if_ne (tgt := 24) hx hb dX8_noHour_17 (by decide) (fun hc => ?_) (fun hc => ?_)
  · have hf := if_f hc hf
    refine lv_iconst (v := (0 : Int32)) hx hb dX8_noHour_24 (by decide) ?_
    cases hf
    exact K1 H locs ls hP hS (lv_sub hl [] rfl)
  · have hf := if_t hc hf
    refine lv_iconst (v := (1 : Int32)) hx hb dX8_noHour_20 (by decide) ?_
    refine lv_goto (tgt := 25) hx hb dX8_noHour_21 (by decide) ?_
    cases hf
    exact K1 H locs ls hP hS (lv_sub hl [] rfl)
set_option maxHeartbeats 4000000 in
set_option maxRecDepth 100000 in
theorem ct_X8_hour {g : zb_G} {nc : Nat} (hnJ : 318 ≤ nc) (l : Launch) {a1 : Int32} {a2 : Int32} {I J O : Mem} {r9 : Int32} {Jq : Mem} (hf : fX8_hour a1 a2 J = some (r9, Jq)) : zb_Ct l g nc yX8_hour cX8_hour 3 (some .int) 2 43 [.ref (g.2.2 + 306), .int a1, .int a2] (zb_ce g I J O) (some (.int r9)) (zb_ce g I Jq O) := by
  refine zb_ofW (own := RX8) (by decide +kernel) rfl (Nat.le_of_ble_eq_true rfl) ?_
  intro p e s m args below meth c ls X hr hP hl
  have hx := X.1.1
  have hb := X.1.2.1
  have ho := X.1.2.2.2.1
  have hts := X.1.2.2.2.2
  have hZ := X.2.2.2
  have hl : lv_has ls 3 [(0, .ref (g.2.2 + 306)), (1, .int a1), (2, .int a2)] := hl
  have hS : va_S (zb_A g) s.heap s.heap [] := va_S.rf
  obtain ⟨H, hH⟩ : ∃ H, H = s.heap := ⟨_, rfl⟩
  obtain ⟨locs, hlocs⟩ : ∃ z : List Loc, z = [] := ⟨_, rfl⟩
  rw [← hH] at hP
  have hS : va_S (zb_A g) s.heap H locs := by rw [hH, hlocs]; exact hS
  show W p l e _ s m args below meth c s.heap [] 0 0 _ _
  rw [← hH, ← hlocs]
  rw [fX8_hour] at hf
  refine lv_aload_n hx hb dX8_hour_0 rfl (lv_at hl 0 rfl) ?_
  refine lv_iconst (v := (0 : Int32)) hx hb dX8_hour_1 (by decide) ?_
  refine pf_X8_57 X hnJ hP hS zk_306 dX8_hour_2 (fun H locs hP hS => ?_)
  refine lv_aload_n hx hb dX8_hour_5 rfl (lv_at hl 0 rfl) ?_
  refine lv_iload_n hx hb dX8_hour_6 rfl (lv_at hl 1 rfl) ?_
  obtain ⟨x1, J2, hx1_J2, hf⟩ := ob2_e hf
  refine zr_cVi (rest := []) (As := [.int a1]) X hP hS (ct_X8_noHour (g := g) (nc := nc) (I := I) (J := (wr J 306 0 (0 : Int32))) (O := O) hnJ l  hx1_J2) cw_X8_264 (zr_recv X hP (Nat.lt_of_lt_of_le (zk_306).2.1 hnJ) (zb_ceJo zk_306 (by decide)) rfl) rfl hl.1 (Nat.le_of_ble_eq_true rfl) ⟨Nat.le_of_ble_eq_true rfl, Nat.le_of_ble_eq_true rfl⟩ ⟨Nat.le_of_ble_eq_true rfl, Nat.le_of_ble_eq_true rfl⟩ dX8_hour_7 rfl (fun H locs hP hS => ?_)
  refine lv_if_ne (tgt := 35) hx hb dX8_hour_10 (by decide) (fun hc => ?_) (fun hc => ?_)
  · have hf := if_f hc hf
    refine lv_iconst (v := (0 : Int32)) hx hb dX8_hour_35 (by decide) ?_
    cases hf
    exact zr_iret X hr hP hS dX8_hour_36
  · have hf := if_t hc hf
    refine lv_aload_n hx hb dX8_hour_13 rfl (lv_at hl 0 rfl) ?_
    refine lv_iload_n hx hb dX8_hour_14 rfl (lv_at hl 2 rfl) ?_
    refine lv_iconst (v := (0 : Int32)) hx hb dX8_hour_15 (by decide) ?_
    refine lv_iconst (v := (4 : Int32)) hx hb dX8_hour_16 (by decide) ?_
    obtain ⟨x3, hx3, hf⟩ := ob_e hf
    refine zr_cSi (rest := [.ref (g.2.2 + 306)]) (As := [.int a2, .int (0 : Int32), .int (4 : Int32)]) X hP hS (ct_X8_within (g := g) (nc := nc) (I := I) (J := J2) (O := O)  l  hx3) cw_X8_60  rfl hl.1 (Nat.le_of_ble_eq_true rfl) ⟨Nat.le_of_ble_eq_true rfl, Nat.le_of_ble_eq_true rfl⟩ ⟨Nat.le_of_ble_eq_true rfl, Nat.le_of_ble_eq_true rfl⟩ dX8_hour_17 rfl (fun H locs hP hS => ?_)
    obtain ⟨x4, ht, hf⟩ := pl_e hf
    have K1 : ∀ (H : Heap) (locs : List Loc) (ls : Array Slot), va_P g.1 vwCl (zb_ws g nc (zb_ce g I J2 O)) H → va_S (zb_A g) s.heap H locs → lv_has ls 3 [(0, .ref (g.2.2 + 306)), (1, .int a1), (2, .int a2)] → W p l e { frames := 2, cells := 0, slots := 0, locals := 43 } s m args below meth c H locs 0 0 (MQ below (zb_Po g nc (zb_ce g I Jq O) (some (.int r9))) args s 0 0 (zb_A g)) (F0 m 28 ls [.int x4, .ref (g.2.2 + 306)]) := by
      intro H locs ls hP hS hl
      refine lv_iconst (v := (2 : Int32)) hx hb dX8_hour_28 (by decide) ?_
      obtain ⟨x5, J6, hx5_J6, hf⟩ := ob2_e hf
      refine zr_cVi (rest := []) (As := [.int x4, .int (2 : Int32)]) X hP hS (ct_X8_throwsIf (g := g) (nc := nc) (I := I) (J := J2) (O := O) hnJ l  hx5_J6) cw_X8_64 (zr_recv X hP (Nat.lt_of_lt_of_le (zk_306).2.1 hnJ) (zb_ceJo zk_306 (by decide)) rfl) rfl hl.1 (Nat.le_of_ble_eq_true rfl) ⟨Nat.le_of_ble_eq_true rfl, Nat.le_of_ble_eq_true rfl⟩ ⟨Nat.le_of_ble_eq_true rfl, Nat.le_of_ble_eq_true rfl⟩ dX8_hour_29 rfl (fun H locs hP hS => ?_)
      refine lv_if_eq (tgt := 37) hx hb dX8_hour_32 (by decide) (fun hc => ?_) (fun hc => ?_)
      · have hf := if_t hc hf
        refine lv_iload_n hx hb dX8_hour_37 rfl (lv_at hl 2 rfl) ?_
        refine lv_iconst (v := (3 : Int32)) hx hb dX8_hour_38 (by decide) ?_
        obtain ⟨x10, ht, hf⟩ := ob_e hf
        have K2 : ∀ (H : Heap) (locs : List Loc) (ls : Array Slot), va_P g.1 vwCl (zb_ws g nc (zb_ce g I J6 O)) H → va_S (zb_A g) s.heap H locs → lv_has ls 3 [] → W p l e { frames := 2, cells := 0, slots := 0, locals := 43 } s m args below meth c H locs 0 0 (MQ below (zb_Po g nc (zb_ce g I Jq O) (some (.int r9))) args s 0 0 (zb_A g)) (F0 m 60 ls [.int x10]) := by
          intro H locs ls hP hS hl
          cases hf
          exact zr_iret X hr hP hS dX8_hour_60
        have hf := ht
        refine lv_icmp_ne (tgt := 54) hx hb dX8_hour_39 (by decide) (fun hc => ?_) (fun hc => ?_)
        · have hf := if_f hc hf
          refine lv_aload_n hx hb dX8_hour_54 rfl (lv_at hl 0 rfl) ?_
          refine lv_iload_n hx hb dX8_hour_55 rfl (lv_at hl 1 rfl) ?_
          refine lv_iload_n hx hb dX8_hour_56 rfl (lv_at hl 2 rfl) ?_
          obtain ⟨x7, hx7, hf⟩ := ob_e hf
          refine zr_cVi (rest := []) (As := [.int a1, .int a2]) X hP hS (ct_X8_of (g := g) (nc := nc) (I := I) (J := J6) (O := O) hnJ l  hx7) cw_X8_209 (zr_recv X hP (Nat.lt_of_lt_of_le (zk_306).2.1 hnJ) (zb_ceJo zk_306 (by decide)) rfl) rfl hl.1 (Nat.le_of_ble_eq_true rfl) ⟨Nat.le_of_ble_eq_true rfl, Nat.le_of_ble_eq_true rfl⟩ ⟨Nat.le_of_ble_eq_true rfl, Nat.le_of_ble_eq_true rfl⟩ dX8_hour_57 rfl (fun H locs hP hS => ?_)
          cases hf
          exact K2 H locs ls hP hS (lv_sub hl [] rfl)
        · have hf := if_t hc hf
          refine lv_aload_n hx hb dX8_hour_42 rfl (lv_at hl 0 rfl) ?_
          refine lv_iload_n hx hb dX8_hour_43 rfl (lv_at hl 1 rfl) ?_
          refine lv_iconst (v := (3 : Int32)) hx hb dX8_hour_44 (by decide) ?_
          obtain ⟨x8, hx8, hf⟩ := ob_e hf
          refine zr_cVi (rest := []) (As := [.int a1, .int (3 : Int32)]) X hP hS (ct_X8_of (g := g) (nc := nc) (I := I) (J := J6) (O := O) hnJ l  hx8) cw_X8_209 (zr_recv X hP (Nat.lt_of_lt_of_le (zk_306).2.1 hnJ) (zb_ceJo zk_306 (by decide)) rfl) rfl hl.1 (Nat.le_of_ble_eq_true rfl) ⟨Nat.le_of_ble_eq_true rfl, Nat.le_of_ble_eq_true rfl⟩ ⟨Nat.le_of_ble_eq_true rfl, Nat.le_of_ble_eq_true rfl⟩ dX8_hour_45 rfl (fun H locs hP hS => ?_)
          obtain ⟨x9, hx9, hf⟩ := ob_e hf
          refine zr_cSi (rest := []) (As := [.int x8]) X hP hS (ct_X8_bits (g := g) (nc := nc) (I := I) (J := J6) (O := O)  l  hx9) cw_X8_243  rfl hl.1 (Nat.le_of_ble_eq_true rfl) ⟨Nat.le_of_ble_eq_true rfl, Nat.le_of_ble_eq_true rfl⟩ ⟨Nat.le_of_ble_eq_true rfl, Nat.le_of_ble_eq_true rfl⟩ dX8_hour_48 rfl (fun H locs hP hS => ?_)
          refine lv_goto (tgt := 60) hx hb dX8_hour_51 (by decide) ?_
          cases hf
          exact K2 H locs ls hP hS (lv_sub hl [] rfl)
      · have hf := if_f hc hf
        refine lv_iconst (v := (0 : Int32)) hx hb dX8_hour_35 (by decide) ?_
        cases hf
        exact zr_iret X hr hP hS dX8_hour_36
    have hf := ht
    refine lv_if_ne (tgt := 27) hx hb dX8_hour_20 (by decide) (fun hc => ?_) (fun hc => ?_)
    · have hf := if_f hc hf
      refine lv_iconst (v := (0 : Int32)) hx hb dX8_hour_27 (by decide) ?_
      cases hf
      exact K1 H locs ls hP hS (lv_sub hl [0, 1, 2] rfl)
    · have hf := if_t hc hf
      refine lv_iconst (v := (1 : Int32)) hx hb dX8_hour_23 (by decide) ?_
      refine lv_goto (tgt := 28) hx hb dX8_hour_24 (by decide) ?_
      cases hf
      exact K1 H locs ls hP hS (lv_sub hl [0, 1, 2] rfl)
set_option maxHeartbeats 4000000 in
set_option maxRecDepth 100000 in
theorem ct_X8_level {g : zb_G} {nc : Nat} (hnJ : 318 ≤ nc) (l : Launch) {a1 : Int32} {I J O : Mem} {r9 : Int32} {Jq : Mem} (hf : fX8_level a1 J = some (r9, Jq)) : zb_Ct l g nc yX8_level cX8_level 2 (some .int) 2 43 [.ref (g.2.2 + 306), .int a1] (zb_ce g I J O) (some (.int r9)) (zb_ce g I Jq O) := by
  refine zb_ofW (own := RX8) (by decide +kernel) rfl (Nat.le_of_ble_eq_true rfl) ?_
  intro p e s m args below meth c ls X hr hP hl
  have hx := X.1.1
  have hb := X.1.2.1
  have ho := X.1.2.2.2.1
  have hts := X.1.2.2.2.2
  have hZ := X.2.2.2
  have hl : lv_has ls 2 [(0, .ref (g.2.2 + 306)), (1, .int a1)] := hl
  have hS : va_S (zb_A g) s.heap s.heap [] := va_S.rf
  obtain ⟨H, hH⟩ : ∃ H, H = s.heap := ⟨_, rfl⟩
  obtain ⟨locs, hlocs⟩ : ∃ z : List Loc, z = [] := ⟨_, rfl⟩
  rw [← hH] at hP
  have hS : va_S (zb_A g) s.heap H locs := by rw [hH, hlocs]; exact hS
  show W p l e _ s m args below meth c s.heap [] 0 0 _ _
  rw [← hH, ← hlocs]
  rw [fX8_level] at hf
  refine lv_aload_n hx hb dX8_level_0 rfl (lv_at hl 0 rfl) ?_
  refine lv_iconst (v := (0 : Int32)) hx hb dX8_level_1 (by decide) ?_
  refine pf_X8_57 X hnJ hP hS zk_306 dX8_level_2 (fun H locs hP hS => ?_)
  refine lv_aload_n hx hb dX8_level_5 rfl (lv_at hl 0 rfl) ?_
  refine lv_iload_n hx hb dX8_level_6 rfl (lv_at hl 1 rfl) ?_
  obtain ⟨x1, J2, hx1_J2, hf⟩ := ob2_e hf
  refine zr_cVi (rest := []) (As := [.int a1]) X hP hS (ct_X8_noHour (g := g) (nc := nc) (I := I) (J := (wr J 306 0 (0 : Int32))) (O := O) hnJ l  hx1_J2) cw_X8_264 (zr_recv X hP (Nat.lt_of_lt_of_le (zk_306).2.1 hnJ) (zb_ceJo zk_306 (by decide)) rfl) rfl hl.1 (Nat.le_of_ble_eq_true rfl) ⟨Nat.le_of_ble_eq_true rfl, Nat.le_of_ble_eq_true rfl⟩ ⟨Nat.le_of_ble_eq_true rfl, Nat.le_of_ble_eq_true rfl⟩ dX8_level_7 rfl (fun H locs hP hS => ?_)
  obtain ⟨x8, J9, ht, hf⟩ := ob2_e hf
  have K1 : ∀ (H : Heap) (locs : List Loc) (ls : Array Slot), va_P g.1 vwCl (zb_ws g nc (zb_ce g I J9 O)) H → va_S (zb_A g) s.heap H locs → lv_has ls 2 [] → W p l e { frames := 2, cells := 0, slots := 0, locals := 43 } s m args below meth c H locs 0 0 (MQ below (zb_Po g nc (zb_ce g I Jq O) (some (.int r9))) args s 0 0 (zb_A g)) (F0 m 45 ls [.int x8]) := by
    intro H locs ls hP hS hl
    cases hf
    exact zr_iret X hr hP hS dX8_level_45
  have hf := ht
  refine lv_if_ne (tgt := 35) hx hb dX8_level_10 (by decide) (fun hc => ?_) (fun hc => ?_)
  · have hf := if_f hc hf
    refine lv_iconst (v := (0 : Int32)) hx hb dX8_level_35 (by decide) ?_
    refine lv_goto (tgt := 45) hx hb dX8_level_36 (by decide) ?_
    cases hf
    exact K1 H locs ls hP hS (lv_sub hl [] rfl)
  · have hf := if_t hc hf
    refine lv_aload_n hx hb dX8_level_13 rfl (lv_at hl 0 rfl) ?_
    refine lv_aload_n hx hb dX8_level_14 rfl (lv_at hl 0 rfl) ?_
    refine lv_iload_n hx hb dX8_level_15 rfl (lv_at hl 1 rfl) ?_
    refine lv_iconst (v := (2 : Int32)) hx hb dX8_level_16 (by decide) ?_
    obtain ⟨x3, hx3, hf⟩ := ob_e hf
    refine zr_cVi (rest := [.ref (g.2.2 + 306)]) (As := [.int a1, .int (2 : Int32)]) X hP hS (ct_X8_of (g := g) (nc := nc) (I := I) (J := J2) (O := O) hnJ l  hx3) cw_X8_209 (zr_recv X hP (Nat.lt_of_lt_of_le (zk_306).2.1 hnJ) (zb_ceJo zk_306 (by decide)) rfl) rfl hl.1 (Nat.le_of_ble_eq_true rfl) ⟨Nat.le_of_ble_eq_true rfl, Nat.le_of_ble_eq_true rfl⟩ ⟨Nat.le_of_ble_eq_true rfl, Nat.le_of_ble_eq_true rfl⟩ dX8_level_17 rfl (fun H locs hP hS => ?_)
    obtain ⟨x4, ht, hf⟩ := pl_e hf
    have K2 : ∀ (H : Heap) (locs : List Loc) (ls : Array Slot), va_P g.1 vwCl (zb_ws g nc (zb_ce g I J2 O)) H → va_S (zb_A g) s.heap H locs → lv_has ls 2 [(0, .ref (g.2.2 + 306)), (1, .int a1)] → W p l e { frames := 2, cells := 0, slots := 0, locals := 43 } s m args below meth c H locs 0 0 (MQ below (zb_Po g nc (zb_ce g I Jq O) (some (.int r9))) args s 0 0 (zb_A g)) (F0 m 28 ls [.int x4, .ref (g.2.2 + 306)]) := by
      intro H locs ls hP hS hl
      refine lv_iconst (v := (2 : Int32)) hx hb dX8_level_28 (by decide) ?_
      obtain ⟨x5, J6, hx5_J6, hf⟩ := ob2_e hf
      refine zr_cVi (rest := []) (As := [.int x4, .int (2 : Int32)]) X hP hS (ct_X8_throwsIf (g := g) (nc := nc) (I := I) (J := J2) (O := O) hnJ l  hx5_J6) cw_X8_64 (zr_recv X hP (Nat.lt_of_lt_of_le (zk_306).2.1 hnJ) (zb_ceJo zk_306 (by decide)) rfl) rfl hl.1 (Nat.le_of_ble_eq_true rfl) ⟨Nat.le_of_ble_eq_true rfl, Nat.le_of_ble_eq_true rfl⟩ ⟨Nat.le_of_ble_eq_true rfl, Nat.le_of_ble_eq_true rfl⟩ dX8_level_29 rfl (fun H locs hP hS => ?_)
      refine lv_if_eq (tgt := 39) hx hb dX8_level_32 (by decide) (fun hc => ?_) (fun hc => ?_)
      · have hf := if_t hc hf
        refine lv_aload_n hx hb dX8_level_39 rfl (lv_at hl 0 rfl) ?_
        refine lv_iload_n hx hb dX8_level_40 rfl (lv_at hl 1 rfl) ?_
        refine lv_iconst (v := (5 : Int32)) hx hb dX8_level_41 (by decide) ?_
        obtain ⟨x7, hx7, hf⟩ := ob_e hf
        refine zr_cVi (rest := []) (As := [.int a1, .int (5 : Int32)]) X hP hS (ct_X8_of (g := g) (nc := nc) (I := I) (J := J6) (O := O) hnJ l  hx7) cw_X8_209 (zr_recv X hP (Nat.lt_of_lt_of_le (zk_306).2.1 hnJ) (zb_ceJo zk_306 (by decide)) rfl) rfl hl.1 (Nat.le_of_ble_eq_true rfl) ⟨Nat.le_of_ble_eq_true rfl, Nat.le_of_ble_eq_true rfl⟩ ⟨Nat.le_of_ble_eq_true rfl, Nat.le_of_ble_eq_true rfl⟩ dX8_level_42 rfl (fun H locs hP hS => ?_)
        cases hf
        exact K1 H locs ls hP hS (lv_sub hl [] rfl)
      · have hf := if_f hc hf
        refine lv_iconst (v := (0 : Int32)) hx hb dX8_level_35 (by decide) ?_
        refine lv_goto (tgt := 45) hx hb dX8_level_36 (by decide) ?_
        cases hf
        exact K1 H locs ls hP hS (lv_sub hl [] rfl)
    have hf := ht
    refine lv_if_ne (tgt := 27) hx hb dX8_level_20 (by decide) (fun hc => ?_) (fun hc => ?_)
    · have hf := if_f hc hf
      refine lv_iconst (v := (0 : Int32)) hx hb dX8_level_27 (by decide) ?_
      cases hf
      exact K2 H locs ls hP hS (lv_sub hl [0, 1] rfl)
    · have hf := if_t hc hf
      refine lv_iconst (v := (1 : Int32)) hx hb dX8_level_23 (by decide) ?_
      refine lv_goto (tgt := 28) hx hb dX8_level_24 (by decide) ?_
      cases hf
      exact K2 H locs ls hP hS (lv_sub hl [0, 1] rfl)
set_option maxHeartbeats 4000000 in
set_option maxRecDepth 100000 in
theorem ct_X8_value {g : zb_G} {nc : Nat} (hnJ : 318 ≤ nc) (l : Launch) {a1 : Int32} {a2 : Int32} {I J O : Mem} {r9 : Int32} {Jq : Mem} (hf : fX8_value a1 a2 J = some (r9, Jq)) : zb_Ct l g nc yX8_value cX8_value 3 (some .int) 2 43 [.ref (g.2.2 + 306), .int a1, .int a2] (zb_ce g I J O) (some (.int r9)) (zb_ce g I Jq O) := by
  refine zb_ofW (own := RX8) (by decide +kernel) rfl (Nat.le_of_ble_eq_true rfl) ?_
  intro p e s m args below meth c ls X hr hP hl
  have hx := X.1.1
  have hb := X.1.2.1
  have ho := X.1.2.2.2.1
  have hts := X.1.2.2.2.2
  have hZ := X.2.2.2
  have hl : lv_has ls 3 [(0, .ref (g.2.2 + 306)), (1, .int a1), (2, .int a2)] := hl
  have hS : va_S (zb_A g) s.heap s.heap [] := va_S.rf
  obtain ⟨H, hH⟩ : ∃ H, H = s.heap := ⟨_, rfl⟩
  obtain ⟨locs, hlocs⟩ : ∃ z : List Loc, z = [] := ⟨_, rfl⟩
  rw [← hH] at hP
  have hS : va_S (zb_A g) s.heap H locs := by rw [hH, hlocs]; exact hS
  show W p l e _ s m args below meth c s.heap [] 0 0 _ _
  rw [← hH, ← hlocs]
  rw [fX8_value] at hf
  refine lv_aload_n hx hb dX8_value_0 rfl (lv_at hl 0 rfl) ?_
  refine lv_iconst (v := (0 : Int32)) hx hb dX8_value_1 (by decide) ?_
  refine pf_X8_57 X hnJ hP hS zk_306 dX8_value_2 (fun H locs hP hS => ?_)
  refine lv_aload_n hx hb dX8_value_5 rfl (lv_at hl 0 rfl) ?_
  refine lv_iload_n hx hb dX8_value_6 rfl (lv_at hl 1 rfl) ?_
  obtain ⟨x1, J2, hx1_J2, hf⟩ := ob2_e hf
  refine zr_cVi (rest := []) (As := [.int a1]) X hP hS (ct_X8_noHour (g := g) (nc := nc) (I := I) (J := (wr J 306 0 (0 : Int32))) (O := O) hnJ l  hx1_J2) cw_X8_264 (zr_recv X hP (Nat.lt_of_lt_of_le (zk_306).2.1 hnJ) (zb_ceJo zk_306 (by decide)) rfl) rfl hl.1 (Nat.le_of_ble_eq_true rfl) ⟨Nat.le_of_ble_eq_true rfl, Nat.le_of_ble_eq_true rfl⟩ ⟨Nat.le_of_ble_eq_true rfl, Nat.le_of_ble_eq_true rfl⟩ dX8_value_7 rfl (fun H locs hP hS => ?_)
  obtain ⟨x11, J12, ht, hf⟩ := ob2_e hf
  have K1 : ∀ (H : Heap) (locs : List Loc) (ls : Array Slot), va_P g.1 vwCl (zb_ws g nc (zb_ce g I J12 O)) H → va_S (zb_A g) s.heap H locs → lv_has ls 3 [] → W p l e { frames := 2, cells := 0, slots := 0, locals := 43 } s m args below meth c H locs 0 0 (MQ below (zb_Po g nc (zb_ce g I Jq O) (some (.int r9))) args s 0 0 (zb_A g)) (F0 m 60 ls [.int x11]) := by
    intro H locs ls hP hS hl
    cases hf
    exact zr_iret X hr hP hS dX8_value_60
  have hf := ht
  refine lv_if_ne (tgt := 47) hx hb dX8_value_10 (by decide) (fun hc => ?_) (fun hc => ?_)
  · have hf := if_f hc hf
    refine lv_iconst (v := (0 : Int32)) hx hb dX8_value_47 (by decide) ?_
    refine lv_goto (tgt := 60) hx hb dX8_value_48 (by decide) ?_
    cases hf
    exact K1 H locs ls hP hS (lv_sub hl [] rfl)
  · have hf := if_t hc hf
    refine lv_aload_n hx hb dX8_value_13 rfl (lv_at hl 0 rfl) ?_
    refine lv_iload_n hx hb dX8_value_14 rfl (lv_at hl 2 rfl) ?_
    obtain ⟨x3, J4, hx3_J4, hf⟩ := ob2_e hf
    refine zr_cVi (rest := []) (As := [.int a2]) X hP hS (ct_X8_noBuoy (g := g) (nc := nc) (I := I) (J := J2) (O := O) hnJ l  hx3_J4) cw_X8_255 (zr_recv X hP (Nat.lt_of_lt_of_le (zk_306).2.1 hnJ) (zb_ceJo zk_306 (by decide)) rfl) rfl hl.1 (Nat.le_of_ble_eq_true rfl) ⟨Nat.le_of_ble_eq_true rfl, Nat.le_of_ble_eq_true rfl⟩ ⟨Nat.le_of_ble_eq_true rfl, Nat.le_of_ble_eq_true rfl⟩ dX8_value_15 rfl (fun H locs hP hS => ?_)
    refine lv_if_ne (tgt := 47) hx hb dX8_value_18 (by decide) (fun hc => ?_) (fun hc => ?_)
    · have hf := if_f hc hf
      refine lv_iconst (v := (0 : Int32)) hx hb dX8_value_47 (by decide) ?_
      refine lv_goto (tgt := 60) hx hb dX8_value_48 (by decide) ?_
      cases hf
      exact K1 H locs ls hP hS (lv_sub hl [] rfl)
    · have hf := if_t hc hf
      refine lv_aload_n hx hb dX8_value_21 rfl (lv_at hl 0 rfl) ?_
      refine lv_aload_n hx hb dX8_value_22 rfl (lv_at hl 0 rfl) ?_
      refine lv_iload_n hx hb dX8_value_23 rfl (lv_at hl 1 rfl) ?_
      refine lv_iconst (v := (3 : Int32)) hx hb dX8_value_24 (by decide) ?_
      obtain ⟨x5, hx5, hf⟩ := ob_e hf
      refine zr_cVi (rest := [.ref (g.2.2 + 306)]) (As := [.int a1, .int (3 : Int32)]) X hP hS (ct_X8_of (g := g) (nc := nc) (I := I) (J := J4) (O := O) hnJ l  hx5) cw_X8_209 (zr_recv X hP (Nat.lt_of_lt_of_le (zk_306).2.1 hnJ) (zb_ceJo zk_306 (by decide)) rfl) rfl hl.1 (Nat.le_of_ble_eq_true rfl) ⟨Nat.le_of_ble_eq_true rfl, Nat.le_of_ble_eq_true rfl⟩ ⟨Nat.le_of_ble_eq_true rfl, Nat.le_of_ble_eq_true rfl⟩ dX8_value_25 rfl (fun H locs hP hS => ?_)
      refine lv_iload_n hx hb dX8_value_28 rfl (lv_at hl 2 rfl) ?_
      obtain ⟨x6, hx6, hf⟩ := ob_e hf
      refine zr_cSi (rest := [.ref (g.2.2 + 306)]) (As := [.int x5, .int a2]) X hP hS (ct_X8_has (g := g) (nc := nc) (I := I) (J := J4) (O := O)  l  hx6) cw_X8_176  rfl hl.1 (Nat.le_of_ble_eq_true rfl) ⟨Nat.le_of_ble_eq_true rfl, Nat.le_of_ble_eq_true rfl⟩ ⟨Nat.le_of_ble_eq_true rfl, Nat.le_of_ble_eq_true rfl⟩ dX8_value_29 rfl (fun H locs hP hS => ?_)
      obtain ⟨x7, ht, hf⟩ := pl_e hf
      have K2 : ∀ (H : Heap) (locs : List Loc) (ls : Array Slot), va_P g.1 vwCl (zb_ws g nc (zb_ce g I J4 O)) H → va_S (zb_A g) s.heap H locs → lv_has ls 3 [(0, .ref (g.2.2 + 306)), (1, .int a1), (2, .int a2)] → W p l e { frames := 2, cells := 0, slots := 0, locals := 43 } s m args below meth c H locs 0 0 (MQ below (zb_Po g nc (zb_ce g I Jq O) (some (.int r9))) args s 0 0 (zb_A g)) (F0 m 40 ls [.int x7, .ref (g.2.2 + 306)]) := by
        intro H locs ls hP hS hl
        refine lv_iconst (v := (2 : Int32)) hx hb dX8_value_40 (by decide) ?_
        obtain ⟨x8, J9, hx8_J9, hf⟩ := ob2_e hf
        refine zr_cVi (rest := []) (As := [.int x7, .int (2 : Int32)]) X hP hS (ct_X8_throwsIf (g := g) (nc := nc) (I := I) (J := J4) (O := O) hnJ l  hx8_J9) cw_X8_64 (zr_recv X hP (Nat.lt_of_lt_of_le (zk_306).2.1 hnJ) (zb_ceJo zk_306 (by decide)) rfl) rfl hl.1 (Nat.le_of_ble_eq_true rfl) ⟨Nat.le_of_ble_eq_true rfl, Nat.le_of_ble_eq_true rfl⟩ ⟨Nat.le_of_ble_eq_true rfl, Nat.le_of_ble_eq_true rfl⟩ dX8_value_41 rfl (fun H locs hP hS => ?_)
        refine lv_if_eq (tgt := 51) hx hb dX8_value_44 (by decide) (fun hc => ?_) (fun hc => ?_)
        · have hf := if_t hc hf
          refine lv_aload_n hx hb dX8_value_51 rfl (lv_at hl 0 rfl) ?_
          refine lv_iload_n hx hb dX8_value_52 rfl (lv_at hl 1 rfl) ?_
          refine lv_bipush (v := (8 : Int32)) hx hb dX8_value_53 (by decide) ?_
          refine lv_iload_n hx hb dX8_value_55 rfl (lv_at hl 2 rfl) ?_
          refine lv_iadd hx hb dX8_value_56 ?_
          obtain ⟨x10, hx10, hf⟩ := ob_e hf
          refine zr_cVi (rest := []) (As := [.int a1, .int ((8 : Int32) + a2)]) X hP hS (ct_X8_of (g := g) (nc := nc) (I := I) (J := J9) (O := O) hnJ l  hx10) cw_X8_209 (zr_recv X hP (Nat.lt_of_lt_of_le (zk_306).2.1 hnJ) (zb_ceJo zk_306 (by decide)) rfl) rfl hl.1 (Nat.le_of_ble_eq_true rfl) ⟨Nat.le_of_ble_eq_true rfl, Nat.le_of_ble_eq_true rfl⟩ ⟨Nat.le_of_ble_eq_true rfl, Nat.le_of_ble_eq_true rfl⟩ dX8_value_57 rfl (fun H locs hP hS => ?_)
          cases hf
          exact K1 H locs ls hP hS (lv_sub hl [] rfl)
        · have hf := if_f hc hf
          refine lv_iconst (v := (0 : Int32)) hx hb dX8_value_47 (by decide) ?_
          refine lv_goto (tgt := 60) hx hb dX8_value_48 (by decide) ?_
          cases hf
          exact K1 H locs ls hP hS (lv_sub hl [] rfl)
      have hf := ht
      refine lv_if_ne (tgt := 39) hx hb dX8_value_32 (by decide) (fun hc => ?_) (fun hc => ?_)
      · have hf := if_f hc hf
        refine lv_iconst (v := (0 : Int32)) hx hb dX8_value_39 (by decide) ?_
        cases hf
        exact K2 H locs ls hP hS (lv_sub hl [0, 1, 2] rfl)
      · have hf := if_t hc hf
        refine lv_iconst (v := (1 : Int32)) hx hb dX8_value_35 (by decide) ?_
        refine lv_goto (tgt := 40) hx hb dX8_value_36 (by decide) ?_
        cases hf
        exact K2 H locs ls hP hS (lv_sub hl [0, 1, 2] rfl)
set_option maxHeartbeats 4000000 in
set_option maxRecDepth 100000 in
theorem ct_X8_why {g : zb_G} {nc : Nat} (hnJ : 318 ≤ nc) (l : Launch) {a1 : Int32} {a2 : Int32} {I J O : Mem} {r9 : Int32} {Jq : Mem} (hf : fX8_why a1 a2 J = some (r9, Jq)) : zb_Ct l g nc yX8_why cX8_why 3 (some .int) 2 43 [.ref (g.2.2 + 306), .int a1, .int a2] (zb_ce g I J O) (some (.int r9)) (zb_ce g I Jq O) := by
  refine zb_ofW (own := RX8) (by decide +kernel) rfl (Nat.le_of_ble_eq_true rfl) ?_
  intro p e s m args below meth c ls X hr hP hl
  have hx := X.1.1
  have hb := X.1.2.1
  have ho := X.1.2.2.2.1
  have hts := X.1.2.2.2.2
  have hZ := X.2.2.2
  have hl : lv_has ls 3 [(0, .ref (g.2.2 + 306)), (1, .int a1), (2, .int a2)] := hl
  have hS : va_S (zb_A g) s.heap s.heap [] := va_S.rf
  obtain ⟨H, hH⟩ : ∃ H, H = s.heap := ⟨_, rfl⟩
  obtain ⟨locs, hlocs⟩ : ∃ z : List Loc, z = [] := ⟨_, rfl⟩
  rw [← hH] at hP
  have hS : va_S (zb_A g) s.heap H locs := by rw [hH, hlocs]; exact hS
  show W p l e _ s m args below meth c s.heap [] 0 0 _ _
  rw [← hH, ← hlocs]
  rw [fX8_why] at hf
  refine lv_aload_n hx hb dX8_why_0 rfl (lv_at hl 0 rfl) ?_
  refine lv_iconst (v := (0 : Int32)) hx hb dX8_why_1 (by decide) ?_
  refine pf_X8_57 X hnJ hP hS zk_306 dX8_why_2 (fun H locs hP hS => ?_)
  refine lv_aload_n hx hb dX8_why_5 rfl (lv_at hl 0 rfl) ?_
  refine lv_iload_n hx hb dX8_why_6 rfl (lv_at hl 1 rfl) ?_
  obtain ⟨x1, J2, hx1_J2, hf⟩ := ob2_e hf
  refine zr_cVi (rest := []) (As := [.int a1]) X hP hS (ct_X8_noHour (g := g) (nc := nc) (I := I) (J := (wr J 306 0 (0 : Int32))) (O := O) hnJ l  hx1_J2) cw_X8_264 (zr_recv X hP (Nat.lt_of_lt_of_le (zk_306).2.1 hnJ) (zb_ceJo zk_306 (by decide)) rfl) rfl hl.1 (Nat.le_of_ble_eq_true rfl) ⟨Nat.le_of_ble_eq_true rfl, Nat.le_of_ble_eq_true rfl⟩ ⟨Nat.le_of_ble_eq_true rfl, Nat.le_of_ble_eq_true rfl⟩ dX8_why_7 rfl (fun H locs hP hS => ?_)
  refine lv_if_ne (tgt := 21) hx hb dX8_why_10 (by decide) (fun hc => ?_) (fun hc => ?_)
  · have hf := if_f hc hf
    refine lv_iconst (v := (0 : Int32)) hx hb dX8_why_21 (by decide) ?_
    cases hf
    exact zr_iret X hr hP hS dX8_why_22
  · have hf := if_t hc hf
    refine lv_aload_n hx hb dX8_why_13 rfl (lv_at hl 0 rfl) ?_
    refine lv_iload_n hx hb dX8_why_14 rfl (lv_at hl 2 rfl) ?_
    obtain ⟨x3, J4, hx3_J4, hf⟩ := ob2_e hf
    refine zr_cVi (rest := []) (As := [.int a2]) X hP hS (ct_X8_noBuoy (g := g) (nc := nc) (I := I) (J := J2) (O := O) hnJ l  hx3_J4) cw_X8_255 (zr_recv X hP (Nat.lt_of_lt_of_le (zk_306).2.1 hnJ) (zb_ceJo zk_306 (by decide)) rfl) rfl hl.1 (Nat.le_of_ble_eq_true rfl) ⟨Nat.le_of_ble_eq_true rfl, Nat.le_of_ble_eq_true rfl⟩ ⟨Nat.le_of_ble_eq_true rfl, Nat.le_of_ble_eq_true rfl⟩ dX8_why_15 rfl (fun H locs hP hS => ?_)
    refine lv_if_eq (tgt := 23) hx hb dX8_why_18 (by decide) (fun hc => ?_) (fun hc => ?_)
    · have hf := if_t hc hf
      refine lv_aload_n hx hb dX8_why_23 rfl (lv_at hl 0 rfl) ?_
      refine lv_iload_n hx hb dX8_why_24 rfl (lv_at hl 1 rfl) ?_
      refine lv_iconst (v := (3 : Int32)) hx hb dX8_why_25 (by decide) ?_
      obtain ⟨x5, hx5, hf⟩ := ob_e hf
      refine zr_cVi (rest := []) (As := [.int a1, .int (3 : Int32)]) X hP hS (ct_X8_of (g := g) (nc := nc) (I := I) (J := J4) (O := O) hnJ l  hx5) cw_X8_209 (zr_recv X hP (Nat.lt_of_lt_of_le (zk_306).2.1 hnJ) (zb_ceJo zk_306 (by decide)) rfl) rfl hl.1 (Nat.le_of_ble_eq_true rfl) ⟨Nat.le_of_ble_eq_true rfl, Nat.le_of_ble_eq_true rfl⟩ ⟨Nat.le_of_ble_eq_true rfl, Nat.le_of_ble_eq_true rfl⟩ dX8_why_26 rfl (fun H locs hP hS => ?_)
      refine lv_iload_n hx hb dX8_why_29 rfl (lv_at hl 2 rfl) ?_
      obtain ⟨x6, hx6, hf⟩ := ob_e hf
      refine zr_cSi (rest := []) (As := [.int x5, .int a2]) X hP hS (ct_X8_has (g := g) (nc := nc) (I := I) (J := J4) (O := O)  l  hx6) cw_X8_176  rfl hl.1 (Nat.le_of_ble_eq_true rfl) ⟨Nat.le_of_ble_eq_true rfl, Nat.le_of_ble_eq_true rfl⟩ ⟨Nat.le_of_ble_eq_true rfl, Nat.le_of_ble_eq_true rfl⟩ dX8_why_30 rfl (fun H locs hP hS => ?_)
      refine lv_if_ne (tgt := 38) hx hb dX8_why_33 (by decide) (fun hc => ?_) (fun hc => ?_)
      · have hf := if_f hc hf
        refine lv_aload_n hx hb dX8_why_38 rfl (lv_at hl 0 rfl) ?_
        refine lv_iload_n hx hb dX8_why_39 rfl (lv_at hl 1 rfl) ?_
        refine lv_iconst (v := (4 : Int32)) hx hb dX8_why_40 (by decide) ?_
        obtain ⟨x7, hx7, hf⟩ := ob_e hf
        refine zr_cVi (rest := []) (As := [.int a1, .int (4 : Int32)]) X hP hS (ct_X8_of (g := g) (nc := nc) (I := I) (J := J4) (O := O) hnJ l  hx7) cw_X8_209 (zr_recv X hP (Nat.lt_of_lt_of_le (zk_306).2.1 hnJ) (zb_ceJo zk_306 (by decide)) rfl) rfl hl.1 (Nat.le_of_ble_eq_true rfl) ⟨Nat.le_of_ble_eq_true rfl, Nat.le_of_ble_eq_true rfl⟩ ⟨Nat.le_of_ble_eq_true rfl, Nat.le_of_ble_eq_true rfl⟩ dX8_why_41 rfl (fun H locs hP hS => ?_)
        refine lv_iload_n hx hb dX8_why_44 rfl (lv_at hl 2 rfl) ?_
        obtain ⟨x8, hx8, hf⟩ := ob_e hf
        refine zr_cSi (rest := []) (As := [.int x7, .int a2]) X hP hS (ct_X8_has (g := g) (nc := nc) (I := I) (J := J4) (O := O)  l  hx8) cw_X8_176  rfl hl.1 (Nat.le_of_ble_eq_true rfl) ⟨Nat.le_of_ble_eq_true rfl, Nat.le_of_ble_eq_true rfl⟩ ⟨Nat.le_of_ble_eq_true rfl, Nat.le_of_ble_eq_true rfl⟩ dX8_why_45 rfl (fun H locs hP hS => ?_)
        refine lv_if_eq (tgt := 53) hx hb dX8_why_48 (by decide) (fun hc => ?_) (fun hc => ?_)
        · have hf := if_t hc hf
          refine lv_aload_n hx hb dX8_why_53 rfl (lv_at hl 0 rfl) ?_
          refine lv_iload_n hx hb dX8_why_54 rfl (lv_at hl 1 rfl) ?_
          refine lv_iconst (v := (0 : Int32)) hx hb dX8_why_55 (by decide) ?_
          obtain ⟨x9, hx9, hf⟩ := ob_e hf
          refine zr_cVi (rest := []) (As := [.int a1, .int (0 : Int32)]) X hP hS (ct_X8_of (g := g) (nc := nc) (I := I) (J := J4) (O := O) hnJ l  hx9) cw_X8_209 (zr_recv X hP (Nat.lt_of_lt_of_le (zk_306).2.1 hnJ) (zb_ceJo zk_306 (by decide)) rfl) rfl hl.1 (Nat.le_of_ble_eq_true rfl) ⟨Nat.le_of_ble_eq_true rfl, Nat.le_of_ble_eq_true rfl⟩ ⟨Nat.le_of_ble_eq_true rfl, Nat.le_of_ble_eq_true rfl⟩ dX8_why_56 rfl (fun H locs hP hS => ?_)
          refine lv_iload_n hx hb dX8_why_59 rfl (lv_at hl 2 rfl) ?_
          obtain ⟨x10, hx10, hf⟩ := ob_e hf
          refine zr_cSi (rest := []) (As := [.int x9, .int a2]) X hP hS (ct_X8_has (g := g) (nc := nc) (I := I) (J := J4) (O := O)  l  hx10) cw_X8_176  rfl hl.1 (Nat.le_of_ble_eq_true rfl) ⟨Nat.le_of_ble_eq_true rfl, Nat.le_of_ble_eq_true rfl⟩ ⟨Nat.le_of_ble_eq_true rfl, Nat.le_of_ble_eq_true rfl⟩ dX8_why_60 rfl (fun H locs hP hS => ?_)
          refine lv_if_ne (tgt := 86) hx hb dX8_why_63 (by decide) (fun hc => ?_) (fun hc => ?_)
          · have hf := if_f hc hf
            refine lv_aload_n hx hb dX8_why_86 rfl (lv_at hl 0 rfl) ?_
            refine lv_iload_n hx hb dX8_why_87 rfl (lv_at hl 1 rfl) ?_
            refine lv_iconst (v := (2 : Int32)) hx hb dX8_why_88 (by decide) ?_
            obtain ⟨x11, hx11, hf⟩ := ob_e hf
            refine zr_cVi (rest := []) (As := [.int a1, .int (2 : Int32)]) X hP hS (ct_X8_of (g := g) (nc := nc) (I := I) (J := J4) (O := O) hnJ l  hx11) cw_X8_209 (zr_recv X hP (Nat.lt_of_lt_of_le (zk_306).2.1 hnJ) (zb_ceJo zk_306 (by decide)) rfl) rfl hl.1 (Nat.le_of_ble_eq_true rfl) ⟨Nat.le_of_ble_eq_true rfl, Nat.le_of_ble_eq_true rfl⟩ ⟨Nat.le_of_ble_eq_true rfl, Nat.le_of_ble_eq_true rfl⟩ dX8_why_89 rfl (fun H locs hP hS => ?_)
            obtain ⟨x14, ht, hf⟩ := ob_e hf
            have K1 : ∀ (H : Heap) (locs : List Loc) (ls : Array Slot), va_P g.1 vwCl (zb_ws g nc (zb_ce g I J4 O)) H → va_S (zb_A g) s.heap H locs → lv_has ls 3 [] → W p l e { frames := 2, cells := 0, slots := 0, locals := 43 } s m args below meth c H locs 0 0 (MQ below (zb_Po g nc (zb_ce g I Jq O) (some (.int r9))) args s 0 0 (zb_A g)) (F0 m 118 ls [.int x14]) := by
              intro H locs ls hP hS hl
              cases hf
              exact zr_iret X hr hP hS dX8_why_118
            have hf := ht
            refine lv_if_ne (tgt := 100) hx hb dX8_why_92 (by decide) (fun hc => ?_) (fun hc => ?_)
            · have hf := if_f hc hf
              refine lv_aload_n hx hb dX8_why_100 rfl (lv_at hl 0 rfl) ?_
              refine lv_iload_n hx hb dX8_why_101 rfl (lv_at hl 1 rfl) ?_
              refine lv_iconst (v := (1 : Int32)) hx hb dX8_why_102 (by decide) ?_
              obtain ⟨x12, hx12, hf⟩ := ob_e hf
              refine zr_cVi (rest := []) (As := [.int a1, .int (1 : Int32)]) X hP hS (ct_X8_of (g := g) (nc := nc) (I := I) (J := J4) (O := O) hnJ l  hx12) cw_X8_209 (zr_recv X hP (Nat.lt_of_lt_of_le (zk_306).2.1 hnJ) (zb_ceJo zk_306 (by decide)) rfl) rfl hl.1 (Nat.le_of_ble_eq_true rfl) ⟨Nat.le_of_ble_eq_true rfl, Nat.le_of_ble_eq_true rfl⟩ ⟨Nat.le_of_ble_eq_true rfl, Nat.le_of_ble_eq_true rfl⟩ dX8_why_103 rfl (fun H locs hP hS => ?_)
              refine lv_iload_n hx hb dX8_why_106 rfl (lv_at hl 2 rfl) ?_
              obtain ⟨x13, hx13, hf⟩ := ob_e hf
              refine zr_cSi (rest := []) (As := [.int x12, .int a2]) X hP hS (ct_X8_has (g := g) (nc := nc) (I := I) (J := J4) (O := O)  l  hx13) cw_X8_176  rfl hl.1 (Nat.le_of_ble_eq_true rfl) ⟨Nat.le_of_ble_eq_true rfl, Nat.le_of_ble_eq_true rfl⟩ ⟨Nat.le_of_ble_eq_true rfl, Nat.le_of_ble_eq_true rfl⟩ dX8_why_107 rfl (fun H locs hP hS => ?_)
              refine lv_if_eq (tgt := 117) hx hb dX8_why_110 (by decide) (fun hc => ?_) (fun hc => ?_)
              · have hf := if_t hc hf
                refine lv_iconst (v := (4 : Int32)) hx hb dX8_why_117 (by decide) ?_
                cases hf
                exact K1 H locs ls hP hS (lv_sub hl [] rfl)
              · have hf := if_f hc hf
                refine lv_iconst (v := (0 : Int32)) hx hb dX8_why_113 (by decide) ?_
                refine lv_goto (tgt := 118) hx hb dX8_why_114 (by decide) ?_
                cases hf
                exact K1 H locs ls hP hS (lv_sub hl [] rfl)
            · have hf := if_t hc hf
              refine lv_bipush (v := (6 : Int32)) hx hb dX8_why_95 (by decide) ?_
              refine lv_goto (tgt := 118) hx hb dX8_why_97 (by decide) ?_
              cases hf
              exact K1 H locs ls hP hS (lv_sub hl [] rfl)
          · have hf := if_t hc hf
            refine lv_aload_n hx hb dX8_why_66 rfl (lv_at hl 0 rfl) ?_
            refine lv_iload_n hx hb dX8_why_67 rfl (lv_at hl 1 rfl) ?_
            refine lv_bipush (v := (6 : Int32)) hx hb dX8_why_68 (by decide) ?_
            obtain ⟨x15, hx15, hf⟩ := ob_e hf
            refine zr_cVi (rest := []) (As := [.int a1, .int (6 : Int32)]) X hP hS (ct_X8_of (g := g) (nc := nc) (I := I) (J := J4) (O := O) hnJ l  hx15) cw_X8_209 (zr_recv X hP (Nat.lt_of_lt_of_le (zk_306).2.1 hnJ) (zb_ceJo zk_306 (by decide)) rfl) rfl hl.1 (Nat.le_of_ble_eq_true rfl) ⟨Nat.le_of_ble_eq_true rfl, Nat.le_of_ble_eq_true rfl⟩ ⟨Nat.le_of_ble_eq_true rfl, Nat.le_of_ble_eq_true rfl⟩ dX8_why_70 rfl (fun H locs hP hS => ?_)
            refine lv_iload_n hx hb dX8_why_73 rfl (lv_at hl 2 rfl) ?_
            obtain ⟨x16, hx16, hf⟩ := ob_e hf
            refine zr_cSi (rest := []) (As := [.int x15, .int a2]) X hP hS (ct_X8_has (g := g) (nc := nc) (I := I) (J := J4) (O := O)  l  hx16) cw_X8_176  rfl hl.1 (Nat.le_of_ble_eq_true rfl) ⟨Nat.le_of_ble_eq_true rfl, Nat.le_of_ble_eq_true rfl⟩ ⟨Nat.le_of_ble_eq_true rfl, Nat.le_of_ble_eq_true rfl⟩ dX8_why_74 rfl (fun H locs hP hS => ?_)
            obtain ⟨x17, ht, hf⟩ := pl_e hf
            have K2 : ∀ (H : Heap) (locs : List Loc) (ls : Array Slot), va_P g.1 vwCl (zb_ws g nc (zb_ce g I J4 O)) H → va_S (zb_A g) s.heap H locs → lv_has ls 3 [] → W p l e { frames := 2, cells := 0, slots := 0, locals := 43 } s m args below meth c H locs 0 0 (MQ below (zb_Po g nc (zb_ce g I Jq O) (some (.int r9))) args s 0 0 (zb_A g)) (F0 m 85 ls [.int x17]) := by
              intro H locs ls hP hS hl
              cases hf
              exact zr_iret X hr hP hS dX8_why_85
            have hf := ht
            refine lv_if_eq (tgt := 84) hx hb dX8_why_77 (by decide) (fun hc => ?_) (fun hc => ?_)
            · have hf := if_t hc hf
              refine lv_iconst (v := (3 : Int32)) hx hb dX8_why_84 (by decide) ?_
              cases hf
              exact K2 H locs ls hP hS (lv_sub hl [] rfl)
            · have hf := if_f hc hf
              refine lv_iconst (v := (2 : Int32)) hx hb dX8_why_80 (by decide) ?_
              refine lv_goto (tgt := 85) hx hb dX8_why_81 (by decide) ?_
              cases hf
              exact K2 H locs ls hP hS (lv_sub hl [] rfl)
        · have hf := if_f hc hf
          refine lv_iconst (v := (5 : Int32)) hx hb dX8_why_51 (by decide) ?_
          cases hf
          exact zr_iret X hr hP hS dX8_why_52
      · have hf := if_t hc hf
        refine lv_iconst (v := (1 : Int32)) hx hb dX8_why_36 (by decide) ?_
        cases hf
        exact zr_iret X hr hP hS dX8_why_37
    · have hf := if_f hc hf
      refine lv_iconst (v := (0 : Int32)) hx hb dX8_why_21 (by decide) ?_
      cases hf
      exact zr_iret X hr hP hS dX8_why_22
set_option maxHeartbeats 4000000 in
set_option maxRecDepth 100000 in
theorem lpX8_tide_L41 {g : zb_G} {nc : Nat} (hnJ : 318 ≤ nc) (l : Launch) {a1 : Int32} {I O : Mem} {p : Program} {e : Env} {s : State} {m : MethodId} {args : Array Value} {below : List Frame} {meth : Method} {c : Code} {Q : State → Prop} (X : zb_X g p m c cX8_tide 4 s args RX8 meth) : ∀ {n9 : Nat} {a2 : Int32} {J : Mem} {z2 : Int32} {H : Heap} {locs : List Loc} {ls : Array Slot}, fX8_tide_L41 a1 n9 a2 J = some z2 → (∀ (H : Heap) (locs : List Loc) (ls : Array Slot), va_P g.1 vwCl (zb_ws g nc (zb_ce g I J O)) H → va_S (zb_A g) s.heap H locs → lv_has ls 4 [(2, .int z2), (0, .ref (g.2.2 + 306)), (1, .int a1)] → W p l e { frames := 2, cells := 0, slots := 0, locals := 43 } s m args below meth c H locs 0 0 Q (F0 m 64 ls [])) → va_P g.1 vwCl (zb_ws g nc (zb_ce g I J O)) H → va_S (zb_A g) s.heap H locs → lv_has ls 4 [(2, .int a2), (0, .ref (g.2.2 + 306)), (1, .int a1)] → W p l e { frames := 2, cells := 0, slots := 0, locals := 43 } s m args below meth c H locs 0 0 Q (F0 m 41 ls []) := by
  have hx := X.1.1
  have hb := X.1.2.1
  have ho := X.1.2.2.2.1
  have hts := X.1.2.2.2.2
  have hZ := X.2.2.2
  intro n9
  induction n9 with
  | zero =>
    intro a2 J z2 H locs ls hf
    exact nomatch hf
  | succ n9 ih =>
    intro a2 J z2 H locs ls hf KK hP hS hl
    rw [fX8_tide_L41] at hf
    refine lv_iload_n hx hb dX8_tide_41 rfl (lv_at hl 0 rfl) ?_
    refine lv_aload_n hx hb dX8_tide_42 rfl (lv_at hl 1 rfl) ?_
    obtain ⟨x7, hx7, hf⟩ := ob_e hf
    refine zr_cVi (rest := [.int a2]) (As := []) X hP hS (ct_X8_firstHour (g := g) (nc := nc) (I := I) (J := J) (O := O) hnJ l  hx7) cw_X8_203 (zr_recv X hP (Nat.lt_of_lt_of_le (zk_306).2.1 hnJ) (zb_ceJo zk_306 (by decide)) rfl) rfl hl.1 (Nat.le_of_ble_eq_true rfl) ⟨Nat.le_of_ble_eq_true rfl, Nat.le_of_ble_eq_true rfl⟩ ⟨Nat.le_of_ble_eq_true rfl, Nat.le_of_ble_eq_true rfl⟩ dX8_tide_43 rfl (fun H locs hP hS => ?_)
    refine lv_icmp_lt (tgt := 64) hx hb dX8_tide_46 (by decide) (fun hc => ?_) (fun hc => ?_)
    · have hf := if_t hc hf
      cases hf
      exact KK H locs ls hP hS (lv_sub hl [0, 1, 2] rfl)
    · have hf := if_f hc hf
      refine lv_aload_n hx hb dX8_tide_49 rfl (lv_at hl 1 rfl) ?_
      refine lv_iload_n hx hb dX8_tide_50 rfl (lv_at hl 0 rfl) ?_
      refine lv_iconst (v := (2 : Int32)) hx hb dX8_tide_51 (by decide) ?_
      obtain ⟨x8, hx8, hf⟩ := ob_e hf
      refine zr_cVi (rest := []) (As := [.int a2, .int (2 : Int32)]) X hP hS (ct_X8_of (g := g) (nc := nc) (I := I) (J := J) (O := O) hnJ l  hx8) cw_X8_209 (zr_recv X hP (Nat.lt_of_lt_of_le (zk_306).2.1 hnJ) (zb_ceJo zk_306 (by decide)) rfl) rfl hl.1 (Nat.le_of_ble_eq_true rfl) ⟨Nat.le_of_ble_eq_true rfl, Nat.le_of_ble_eq_true rfl⟩ ⟨Nat.le_of_ble_eq_true rfl, Nat.le_of_ble_eq_true rfl⟩ dX8_tide_52 rfl (fun H locs hP hS => ?_)
      refine lv_if_ne (tgt := 64) hx hb dX8_tide_55 (by decide) (fun hc => ?_) (fun hc => ?_)
      · have hf := if_f hc hf
        cases hf
        exact KK H locs ls hP hS (lv_sub hl [0, 1, 2] rfl)
      · have hf := if_t hc hf
        refine lv_iinc (v := (a2 + (-1 : Int32))) (lv' := [(2, .int (a2 + (-1 : Int32))), (0, .ref (g.2.2 + 306)), (1, .int a1)]) hx hb dX8_tide_58 hl (k := 0) rfl rfl (by decide) rfl (fun ls hl => ?_)
        refine lv_goto (tgt := 41) hx hb dX8_tide_61 (by decide) ?_
        exact ih hf KK hP hS (lv_sub hl [0, 1, 2] rfl)
set_option maxHeartbeats 4000000 in
set_option maxRecDepth 100000 in
theorem ct_X8_tide {g : zb_G} {nc : Nat} (hnJ : 318 ≤ nc) (l : Launch) {a1 : Int32} {I J O : Mem} {r9 : Int32} {Jq : Mem} (hf : fX8_tide a1 J = some (r9, Jq)) : zb_Ct l g nc yX8_tide cX8_tide 4 (some .int) 2 43 [.ref (g.2.2 + 306), .int a1] (zb_ce g I J O) (some (.int r9)) (zb_ce g I Jq O) := by
  refine zb_ofW (own := RX8) (by decide +kernel) rfl (Nat.le_of_ble_eq_true rfl) ?_
  intro p e s m args below meth c ls X hr hP hl
  have hx := X.1.1
  have hb := X.1.2.1
  have ho := X.1.2.2.2.1
  have hts := X.1.2.2.2.2
  have hZ := X.2.2.2
  have hl : lv_has ls 4 [(0, .ref (g.2.2 + 306)), (1, .int a1)] := hl
  have hS : va_S (zb_A g) s.heap s.heap [] := va_S.rf
  obtain ⟨H, hH⟩ : ∃ H, H = s.heap := ⟨_, rfl⟩
  obtain ⟨locs, hlocs⟩ : ∃ z : List Loc, z = [] := ⟨_, rfl⟩
  rw [← hH] at hP
  have hS : va_S (zb_A g) s.heap H locs := by rw [hH, hlocs]; exact hS
  show W p l e _ s m args below meth c s.heap [] 0 0 _ _
  rw [← hH, ← hlocs]
  rw [fX8_tide] at hf
  refine lv_aload_n hx hb dX8_tide_0 rfl (lv_at hl 0 rfl) ?_
  refine lv_iconst (v := (0 : Int32)) hx hb dX8_tide_1 (by decide) ?_
  refine pf_X8_57 X hnJ hP hS zk_306 dX8_tide_2 (fun H locs hP hS => ?_)
  refine lv_aload_n hx hb dX8_tide_5 rfl (lv_at hl 0 rfl) ?_
  refine lv_iload_n hx hb dX8_tide_6 rfl (lv_at hl 1 rfl) ?_
  obtain ⟨x1, J2, hx1_J2, hf⟩ := ob2_e hf
  refine zr_cVi (rest := []) (As := [.int a1]) X hP hS (ct_X8_noHour (g := g) (nc := nc) (I := I) (J := (wr J 306 0 (0 : Int32))) (O := O) hnJ l  hx1_J2) cw_X8_264 (zr_recv X hP (Nat.lt_of_lt_of_le (zk_306).2.1 hnJ) (zb_ceJo zk_306 (by decide)) rfl) rfl hl.1 (Nat.le_of_ble_eq_true rfl) ⟨Nat.le_of_ble_eq_true rfl, Nat.le_of_ble_eq_true rfl⟩ ⟨Nat.le_of_ble_eq_true rfl, Nat.le_of_ble_eq_true rfl⟩ dX8_tide_7 rfl (fun H locs hP hS => ?_)
  refine lv_if_ne (tgt := 35) hx hb dX8_tide_10 (by decide) (fun hc => ?_) (fun hc => ?_)
  · have hf := if_f hc hf
    refine lv_iconst (v := (0 : Int32)) hx hb dX8_tide_35 (by decide) ?_
    cases hf
    exact zr_iret X hr hP hS dX8_tide_36
  · have hf := if_t hc hf
    refine lv_aload_n hx hb dX8_tide_13 rfl (lv_at hl 0 rfl) ?_
    refine lv_aload_n hx hb dX8_tide_14 rfl (lv_at hl 0 rfl) ?_
    refine lv_iload_n hx hb dX8_tide_15 rfl (lv_at hl 1 rfl) ?_
    refine lv_iconst (v := (2 : Int32)) hx hb dX8_tide_16 (by decide) ?_
    obtain ⟨x3, hx3, hf⟩ := ob_e hf
    refine zr_cVi (rest := [.ref (g.2.2 + 306)]) (As := [.int a1, .int (2 : Int32)]) X hP hS (ct_X8_of (g := g) (nc := nc) (I := I) (J := J2) (O := O) hnJ l  hx3) cw_X8_209 (zr_recv X hP (Nat.lt_of_lt_of_le (zk_306).2.1 hnJ) (zb_ceJo zk_306 (by decide)) rfl) rfl hl.1 (Nat.le_of_ble_eq_true rfl) ⟨Nat.le_of_ble_eq_true rfl, Nat.le_of_ble_eq_true rfl⟩ ⟨Nat.le_of_ble_eq_true rfl, Nat.le_of_ble_eq_true rfl⟩ dX8_tide_17 rfl (fun H locs hP hS => ?_)
    obtain ⟨x4, ht, hf⟩ := pl_e hf
    have K1 : ∀ (H : Heap) (locs : List Loc) (ls : Array Slot), va_P g.1 vwCl (zb_ws g nc (zb_ce g I J2 O)) H → va_S (zb_A g) s.heap H locs → lv_has ls 4 [(0, .ref (g.2.2 + 306)), (1, .int a1)] → W p l e { frames := 2, cells := 0, slots := 0, locals := 43 } s m args below meth c H locs 0 0 (MQ below (zb_Po g nc (zb_ce g I Jq O) (some (.int r9))) args s 0 0 (zb_A g)) (F0 m 28 ls [.int x4, .ref (g.2.2 + 306)]) := by
      intro H locs ls hP hS hl
      refine lv_iconst (v := (2 : Int32)) hx hb dX8_tide_28 (by decide) ?_
      obtain ⟨x5, J6, hx5_J6, hf⟩ := ob2_e hf
      refine zr_cVi (rest := []) (As := [.int x4, .int (2 : Int32)]) X hP hS (ct_X8_throwsIf (g := g) (nc := nc) (I := I) (J := J2) (O := O) hnJ l  hx5_J6) cw_X8_64 (zr_recv X hP (Nat.lt_of_lt_of_le (zk_306).2.1 hnJ) (zb_ceJo zk_306 (by decide)) rfl) rfl hl.1 (Nat.le_of_ble_eq_true rfl) ⟨Nat.le_of_ble_eq_true rfl, Nat.le_of_ble_eq_true rfl⟩ ⟨Nat.le_of_ble_eq_true rfl, Nat.le_of_ble_eq_true rfl⟩ dX8_tide_29 rfl (fun H locs hP hS => ?_)
      refine lv_if_eq (tgt := 37) hx hb dX8_tide_32 (by decide) (fun hc => ?_) (fun hc => ?_)
      · have hf := if_t hc hf
        refine lv_iload_n hx hb dX8_tide_37 rfl (lv_at hl 1 rfl) ?_
        refine lv_iconst (v := (1 : Int32)) hx hb dX8_tide_38 (by decide) ?_
        refine lv_isub hx hb dX8_tide_39 ?_
        refine lv_istore_n (lv' := [(2, .int (a1 - (1 : Int32))), (0, .ref (g.2.2 + 306)), (1, .int a1)]) hx hb dX8_tide_40 rfl hl (by decide) rfl (fun ls hl => ?_)
        obtain ⟨x9, hx9, hf⟩ := ob_e hf
        have K2 : ∀ (H : Heap) (locs : List Loc) (ls : Array Slot), va_P g.1 vwCl (zb_ws g nc (zb_ce g I J6 O)) H → va_S (zb_A g) s.heap H locs → lv_has ls 4 [(2, .int x9), (0, .ref (g.2.2 + 306)), (1, .int a1)] → W p l e { frames := 2, cells := 0, slots := 0, locals := 43 } s m args below meth c H locs 0 0 (MQ below (zb_Po g nc (zb_ce g I Jq O) (some (.int r9))) args s 0 0 (zb_A g)) (F0 m 64 ls []) := by
          intro H locs ls hP hS hl
          refine lv_aload_n hx hb dX8_tide_64 rfl (lv_at hl 1 rfl) ?_
          refine lv_iload_n hx hb dX8_tide_65 rfl (lv_at hl 0 rfl) ?_
          refine lv_aload_n hx hb dX8_tide_66 rfl (lv_at hl 1 rfl) ?_
          obtain ⟨x10, hx10, hf⟩ := ob_e hf
          refine zr_cVi (rest := [.int x9, .ref (g.2.2 + 306)]) (As := []) X hP hS (ct_X8_firstHour (g := g) (nc := nc) (I := I) (J := J6) (O := O) hnJ l  hx10) cw_X8_203 (zr_recv X hP (Nat.lt_of_lt_of_le (zk_306).2.1 hnJ) (zb_ceJo zk_306 (by decide)) rfl) rfl hl.1 (Nat.le_of_ble_eq_true rfl) ⟨Nat.le_of_ble_eq_true rfl, Nat.le_of_ble_eq_true rfl⟩ ⟨Nat.le_of_ble_eq_true rfl, Nat.le_of_ble_eq_true rfl⟩ dX8_tide_67 rfl (fun H locs hP hS => ?_)
          obtain ⟨x11, ht, hf⟩ := pl_e hf
          have K3 : ∀ (H : Heap) (locs : List Loc) (ls : Array Slot), va_P g.1 vwCl (zb_ws g nc (zb_ce g I J6 O)) H → va_S (zb_A g) s.heap H locs → lv_has ls 4 [(2, .int x9), (0, .ref (g.2.2 + 306)), (1, .int a1)] → W p l e { frames := 2, cells := 0, slots := 0, locals := 43 } s m args below meth c H locs 0 0 (MQ below (zb_Po g nc (zb_ce g I Jq O) (some (.int r9))) args s 0 0 (zb_A g)) (F0 m 78 ls [.int x11, .ref (g.2.2 + 306)]) := by
            intro H locs ls hP hS hl
            refine lv_iconst (v := (2 : Int32)) hx hb dX8_tide_78 (by decide) ?_
            obtain ⟨x12, J13, hx12_J13, hf⟩ := ob2_e hf
            refine zr_cVi (rest := []) (As := [.int x11, .int (2 : Int32)]) X hP hS (ct_X8_throwsIf (g := g) (nc := nc) (I := I) (J := J6) (O := O) hnJ l  hx12_J13) cw_X8_64 (zr_recv X hP (Nat.lt_of_lt_of_le (zk_306).2.1 hnJ) (zb_ceJo zk_306 (by decide)) rfl) rfl hl.1 (Nat.le_of_ble_eq_true rfl) ⟨Nat.le_of_ble_eq_true rfl, Nat.le_of_ble_eq_true rfl⟩ ⟨Nat.le_of_ble_eq_true rfl, Nat.le_of_ble_eq_true rfl⟩ dX8_tide_79 rfl (fun H locs hP hS => ?_)
            refine lv_if_eq (tgt := 87) hx hb dX8_tide_82 (by decide) (fun hc => ?_) (fun hc => ?_)
            · have hf := if_t hc hf
              refine lv_aload_n hx hb dX8_tide_87 rfl (lv_at hl 1 rfl) ?_
              refine lv_iload_n hx hb dX8_tide_88 rfl (lv_at hl 2 rfl) ?_
              refine lv_iconst (v := (5 : Int32)) hx hb dX8_tide_89 (by decide) ?_
              obtain ⟨x14, hx14, hf⟩ := ob_e hf
              refine zr_cVi (rest := []) (As := [.int a1, .int (5 : Int32)]) X hP hS (ct_X8_of (g := g) (nc := nc) (I := I) (J := J13) (O := O) hnJ l  hx14) cw_X8_209 (zr_recv X hP (Nat.lt_of_lt_of_le (zk_306).2.1 hnJ) (zb_ceJo zk_306 (by decide)) rfl) rfl hl.1 (Nat.le_of_ble_eq_true rfl) ⟨Nat.le_of_ble_eq_true rfl, Nat.le_of_ble_eq_true rfl⟩ ⟨Nat.le_of_ble_eq_true rfl, Nat.le_of_ble_eq_true rfl⟩ dX8_tide_90 rfl (fun H locs hP hS => ?_)
              refine lv_aload_n hx hb dX8_tide_93 rfl (lv_at hl 1 rfl) ?_
              refine lv_iload_n hx hb dX8_tide_94 rfl (lv_at hl 0 rfl) ?_
              refine lv_iconst (v := (5 : Int32)) hx hb dX8_tide_95 (by decide) ?_
              obtain ⟨x15, hx15, hf⟩ := ob_e hf
              refine zr_cVi (rest := [.int x14]) (As := [.int x9, .int (5 : Int32)]) X hP hS (ct_X8_of (g := g) (nc := nc) (I := I) (J := J13) (O := O) hnJ l  hx15) cw_X8_209 (zr_recv X hP (Nat.lt_of_lt_of_le (zk_306).2.1 hnJ) (zb_ceJo zk_306 (by decide)) rfl) rfl hl.1 (Nat.le_of_ble_eq_true rfl) ⟨Nat.le_of_ble_eq_true rfl, Nat.le_of_ble_eq_true rfl⟩ ⟨Nat.le_of_ble_eq_true rfl, Nat.le_of_ble_eq_true rfl⟩ dX8_tide_96 rfl (fun H locs hP hS => ?_)
              refine lv_isub hx hb dX8_tide_99 ?_
              refine lv_istore_n (lv' := [(3, .int (x14 - x15)), (2, .int x9), (0, .ref (g.2.2 + 306)), (1, .int a1)]) hx hb dX8_tide_100 rfl hl (by decide) rfl (fun ls hl => ?_)
              refine lv_iload_n hx hb dX8_tide_101 rfl (lv_at hl 0 rfl) ?_
              obtain ⟨x16, ht, hf⟩ := pl_e hf
              have K4 : ∀ (H : Heap) (locs : List Loc) (ls : Array Slot), va_P g.1 vwCl (zb_ws g nc (zb_ce g I J13 O)) H → va_S (zb_A g) s.heap H locs → lv_has ls 4 [] → W p l e { frames := 2, cells := 0, slots := 0, locals := 43 } s m args below meth c H locs 0 0 (MQ below (zb_Po g nc (zb_ce g I Jq O) (some (.int r9))) args s 0 0 (zb_A g)) (F0 m 118 ls [.int x16]) := by
                intro H locs ls hP hS hl
                cases hf
                exact zr_iret X hr hP hS dX8_tide_118
              have hf := ht
              refine lv_if_le (tgt := 109) hx hb dX8_tide_102 (by decide) (fun hc => ?_) (fun hc => ?_)
              · have hf := if_t hc hf
                refine lv_iload_n hx hb dX8_tide_109 rfl (lv_at hl 0 rfl) ?_
                refine lv_if_ge (tgt := 117) hx hb dX8_tide_110 (by decide) (fun hc => ?_) (fun hc => ?_)
                · have hf := if_t hc hf
                  refine lv_iconst (v := (0 : Int32)) hx hb dX8_tide_117 (by decide) ?_
                  cases hf
                  exact K4 H locs ls hP hS (lv_sub hl [] rfl)
                · have hf := if_f hc hf
                  refine lv_iconst (v := (-1 : Int32)) hx hb dX8_tide_113 (by decide) ?_
                  refine lv_goto (tgt := 118) hx hb dX8_tide_114 (by decide) ?_
                  cases hf
                  exact K4 H locs ls hP hS (lv_sub hl [] rfl)
              · have hf := if_f hc hf
                refine lv_iconst (v := (1 : Int32)) hx hb dX8_tide_105 (by decide) ?_
                refine lv_goto (tgt := 118) hx hb dX8_tide_106 (by decide) ?_
                cases hf
                exact K4 H locs ls hP hS (lv_sub hl [] rfl)
            · have hf := if_f hc hf
              refine lv_iconst (v := (0 : Int32)) hx hb dX8_tide_85 (by decide) ?_
              cases hf
              exact zr_iret X hr hP hS dX8_tide_86
          have hf := ht
          refine lv_icmp_ge (tgt := 77) hx hb dX8_tide_70 (by decide) (fun hc => ?_) (fun hc => ?_)
          · have hf := if_t hc hf
            refine lv_iconst (v := (0 : Int32)) hx hb dX8_tide_77 (by decide) ?_
            cases hf
            exact K3 H locs ls hP hS (lv_sub hl [0, 1, 2] rfl)
          · have hf := if_f hc hf
            refine lv_iconst (v := (1 : Int32)) hx hb dX8_tide_73 (by decide) ?_
            refine lv_goto (tgt := 78) hx hb dX8_tide_74 (by decide) ?_
            cases hf
            exact K3 H locs ls hP hS (lv_sub hl [0, 1, 2] rfl)
        exact lpX8_tide_L41 hnJ l  X hx9 K2 hP hS (lv_sub hl [0, 1, 2] rfl)
      · have hf := if_f hc hf
        refine lv_iconst (v := (0 : Int32)) hx hb dX8_tide_35 (by decide) ?_
        cases hf
        exact zr_iret X hr hP hS dX8_tide_36
    have hf := ht
    refine lv_if_ne (tgt := 27) hx hb dX8_tide_20 (by decide) (fun hc => ?_) (fun hc => ?_)
    · have hf := if_f hc hf
      refine lv_iconst (v := (0 : Int32)) hx hb dX8_tide_27 (by decide) ?_
      cases hf
      exact K1 H locs ls hP hS (lv_sub hl [0, 1] rfl)
    · have hf := if_t hc hf
      refine lv_iconst (v := (1 : Int32)) hx hb dX8_tide_23 (by decide) ?_
      refine lv_goto (tgt := 28) hx hb dX8_tide_24 (by decide) ?_
      cases hf
      exact K1 H locs ls hP hS (lv_sub hl [0, 1] rfl)
set_option maxHeartbeats 4000000 in
set_option maxRecDepth 100000 in
theorem lpX8_extreme_L12 {g : zb_G} {nc : Nat} (hnJ : 318 ≤ nc) (l : Launch) {a1 : Int32} {I O : Mem} {p : Program} {e : Env} {s : State} {m : MethodId} {args : Array Value} {below : List Frame} {meth : Method} {c : Code} {Q : State → Prop} (X : zb_X g p m c cX8_extreme 5 s args RX8 meth) : ∀ {n9 : Nat} {a3 : Int32} {a2 : Int32} {J : Mem} {z2 : Int32} {H : Heap} {locs : List Loc} {ls : Array Slot}, fX8_extreme_L12 a1 n9 a3 a2 J = some z2 → (∀ (H : Heap) (locs : List Loc) (ls : Array Slot), va_P g.1 vwCl (zb_ws g nc (zb_ce g I J O)) H → va_S (zb_A g) s.heap H locs → lv_has ls 5 [(2, .int z2)] → W p l e { frames := 2, cells := 0, slots := 0, locals := 43 } s m args below meth c H locs 0 0 Q (F0 m 100 ls [])) → va_P g.1 vwCl (zb_ws g nc (zb_ce g I J O)) H → va_S (zb_A g) s.heap H locs → lv_has ls 5 [(3, .int a3), (2, .int a2), (0, .ref (g.2.2 + 306)), (1, .int a1)] → W p l e { frames := 2, cells := 0, slots := 0, locals := 43 } s m args below meth c H locs 0 0 Q (F0 m 12 ls []) := by
  have hx := X.1.1
  have hb := X.1.2.1
  have ho := X.1.2.2.2.1
  have hts := X.1.2.2.2.2
  have hZ := X.2.2.2
  intro n9
  induction n9 with
  | zero =>
    intro a3 a2 J z2 H locs ls hf
    exact nomatch hf
  | succ n9 ih =>
    intro a3 a2 J z2 H locs ls hf KK hP hS hl
    rw [fX8_extreme_L12] at hf
    refine lv_iload_n hx hb dX8_extreme_12 rfl (lv_at hl 0 rfl) ?_
    refine lv_aload_n hx hb dX8_extreme_13 rfl (lv_at hl 2 rfl) ?_
    refine gf_X8_7 X hnJ hP zk_306 dX8_extreme_14 ?_
    refine lv_iconst (v := (5 : Int32)) hx hb dX8_extreme_17 (by decide) ?_
    obtain ⟨x2, hx2, hf⟩ := ob_e hf
    refine zr_aldJ X hP hnJ zk_307 hx2 dX8_extreme_18 ?_
    refine lv_icmp_ge (tgt := 100) hx hb dX8_extreme_19 (by decide) (fun hc => ?_) (fun hc => ?_)
    · have hf := if_t hc hf
      cases hf
      exact KK H locs ls hP hS (lv_sub hl [1] rfl)
    · have hf := if_f hc hf
      refine lv_aload_n hx hb dX8_extreme_22 rfl (lv_at hl 2 rfl) ?_
      refine lv_iload_n hx hb dX8_extreme_23 rfl (lv_at hl 0 rfl) ?_
      refine lv_iconst (v := (2 : Int32)) hx hb dX8_extreme_24 (by decide) ?_
      obtain ⟨x3, hx3, hf⟩ := ob_e hf
      refine zr_cVi (rest := []) (As := [.int a3, .int (2 : Int32)]) X hP hS (ct_X8_of (g := g) (nc := nc) (I := I) (J := J) (O := O) hnJ l  hx3) cw_X8_209 (zr_recv X hP (Nat.lt_of_lt_of_le (zk_306).2.1 hnJ) (zb_ceJo zk_306 (by decide)) rfl) rfl hl.1 (Nat.le_of_ble_eq_true rfl) ⟨Nat.le_of_ble_eq_true rfl, Nat.le_of_ble_eq_true rfl⟩ ⟨Nat.le_of_ble_eq_true rfl, Nat.le_of_ble_eq_true rfl⟩ dX8_extreme_25 rfl (fun H locs hP hS => ?_)
      obtain ⟨x10, ht, hf⟩ := ob_e hf
      have K1 : ∀ (H : Heap) (locs : List Loc) (ls : Array Slot), va_P g.1 vwCl (zb_ws g nc (zb_ce g I J O)) H → va_S (zb_A g) s.heap H locs → lv_has ls 5 [(2, .int x10), (3, .int a3), (0, .ref (g.2.2 + 306)), (1, .int a1)] → W p l e { frames := 2, cells := 0, slots := 0, locals := 43 } s m args below meth c H locs 0 0 Q (F0 m 94 ls []) := by
        intro H locs ls hP hS hl
        refine lv_iinc (v := (a3 + (1 : Int32))) (lv' := [(3, .int (a3 + (1 : Int32))), (2, .int x10), (0, .ref (g.2.2 + 306)), (1, .int a1)]) hx hb dX8_extreme_94 hl (k := 1) rfl rfl (by decide) rfl (fun ls hl => ?_)
        refine lv_goto (tgt := 12) hx hb dX8_extreme_97 (by decide) ?_
        exact ih hf KK hP hS (lv_sub hl [0, 1, 2, 3] rfl)
      have hf := ht
      refine lv_if_ne (tgt := 34) hx hb dX8_extreme_28 (by decide) (fun hc => ?_) (fun hc => ?_)
      · have hf := if_f hc hf
        refine lv_iload_n hx hb dX8_extreme_34 rfl (lv_at hl 1 rfl) ?_
        refine lv_iconst (v := (-1 : Int32)) hx hb dX8_extreme_35 (by decide) ?_
        obtain ⟨x8, ht, hf⟩ := ob_e hf
        have K2 : ∀ (H : Heap) (locs : List Loc) (ls : Array Slot), va_P g.1 vwCl (zb_ws g nc (zb_ce g I J O)) H → va_S (zb_A g) s.heap H locs → lv_has ls 5 [(3, .int a3), (2, .int a2), (0, .ref (g.2.2 + 306)), (1, .int a1)] → W p l e { frames := 2, cells := 0, slots := 0, locals := 43 } s m args below meth c H locs 0 0 Q (F0 m 81 ls [.int x8]) := by
          intro H locs ls hP hS hl
          refine lv_istore (lv' := [(4, .int x8), (3, .int a3), (2, .int a2), (0, .ref (g.2.2 + 306)), (1, .int a1)]) hx hb dX8_extreme_81 hl (by decide) rfl (fun ls hl => ?_)
          refine lv_iload hx hb dX8_extreme_83 (lv_at hl 0 rfl) ?_
          obtain ⟨x9, ht, hf⟩ := pl_e hf
          have K3 : ∀ (H : Heap) (locs : List Loc) (ls : Array Slot), va_P g.1 vwCl (zb_ws g nc (zb_ce g I J O)) H → va_S (zb_A g) s.heap H locs → lv_has ls 5 [(3, .int a3), (0, .ref (g.2.2 + 306)), (1, .int a1)] → W p l e { frames := 2, cells := 0, slots := 0, locals := 43 } s m args below meth c H locs 0 0 Q (F0 m 93 ls [.int x9]) := by
            intro H locs ls hP hS hl
            refine lv_istore_n (lv' := [(2, .int x9), (3, .int a3), (0, .ref (g.2.2 + 306)), (1, .int a1)]) hx hb dX8_extreme_93 rfl hl (by decide) rfl (fun ls hl => ?_)
            cases hf
            exact K1 H locs ls hP hS (lv_sub hl [0, 1, 2, 3] rfl)
          have hf := ht
          refine lv_if_eq (tgt := 92) hx hb dX8_extreme_85 (by decide) (fun hc => ?_) (fun hc => ?_)
          · have hf := if_t hc hf
            refine lv_iload_n hx hb dX8_extreme_92 rfl (lv_at hl 2 rfl) ?_
            cases hf
            exact K3 H locs ls hP hS (lv_sub hl [1, 3, 4] rfl)
          · have hf := if_f hc hf
            refine lv_iload_n hx hb dX8_extreme_88 rfl (lv_at hl 1 rfl) ?_
            refine lv_goto (tgt := 93) hx hb dX8_extreme_89 (by decide) ?_
            cases hf
            exact K3 H locs ls hP hS (lv_sub hl [1, 3, 4] rfl)
        have hf := ht
        refine lv_icmp_eq (tgt := 76) hx hb dX8_extreme_36 (by decide) (fun hc => ?_) (fun hc => ?_)
        · have hf := if_t hc hf
          refine lv_iconst (v := (1 : Int32)) hx hb dX8_extreme_76 (by decide) ?_
          refine lv_goto (tgt := 81) hx hb dX8_extreme_77 (by decide) ?_
          cases hf
          exact K2 H locs ls hP hS (lv_sub hl [0, 1, 2, 3] rfl)
        · have hf := if_f hc hf
          refine lv_iload_n hx hb dX8_extreme_39 rfl (lv_at hl 3 rfl) ?_
          refine lv_if_eq (tgt := 61) hx hb dX8_extreme_40 (by decide) (fun hc => ?_) (fun hc => ?_)
          · have hf := if_t hc hf
            refine lv_aload_n hx hb dX8_extreme_61 rfl (lv_at hl 2 rfl) ?_
            refine lv_iload_n hx hb dX8_extreme_62 rfl (lv_at hl 0 rfl) ?_
            refine lv_iconst (v := (5 : Int32)) hx hb dX8_extreme_63 (by decide) ?_
            obtain ⟨x4, hx4, hf⟩ := ob_e hf
            refine zr_cVi (rest := []) (As := [.int a3, .int (5 : Int32)]) X hP hS (ct_X8_of (g := g) (nc := nc) (I := I) (J := J) (O := O) hnJ l  hx4) cw_X8_209 (zr_recv X hP (Nat.lt_of_lt_of_le (zk_306).2.1 hnJ) (zb_ceJo zk_306 (by decide)) rfl) rfl hl.1 (Nat.le_of_ble_eq_true rfl) ⟨Nat.le_of_ble_eq_true rfl, Nat.le_of_ble_eq_true rfl⟩ ⟨Nat.le_of_ble_eq_true rfl, Nat.le_of_ble_eq_true rfl⟩ dX8_extreme_64 rfl (fun H locs hP hS => ?_)
            refine lv_aload_n hx hb dX8_extreme_67 rfl (lv_at hl 2 rfl) ?_
            refine lv_iload_n hx hb dX8_extreme_68 rfl (lv_at hl 1 rfl) ?_
            refine lv_iconst (v := (5 : Int32)) hx hb dX8_extreme_69 (by decide) ?_
            obtain ⟨x5, hx5, hf⟩ := ob_e hf
            refine zr_cVi (rest := [.int x4]) (As := [.int a2, .int (5 : Int32)]) X hP hS (ct_X8_of (g := g) (nc := nc) (I := I) (J := J) (O := O) hnJ l  hx5) cw_X8_209 (zr_recv X hP (Nat.lt_of_lt_of_le (zk_306).2.1 hnJ) (zb_ceJo zk_306 (by decide)) rfl) rfl hl.1 (Nat.le_of_ble_eq_true rfl) ⟨Nat.le_of_ble_eq_true rfl, Nat.le_of_ble_eq_true rfl⟩ ⟨Nat.le_of_ble_eq_true rfl, Nat.le_of_ble_eq_true rfl⟩ dX8_extreme_70 rfl (fun H locs hP hS => ?_)
            refine lv_icmp_le (tgt := 80) hx hb dX8_extreme_73 (by decide) (fun hc => ?_) (fun hc => ?_)
            · have hf := if_t hc hf
              refine lv_iconst (v := (0 : Int32)) hx hb dX8_extreme_80 (by decide) ?_
              cases hf
              exact K2 H locs ls hP hS (lv_sub hl [0, 1, 2, 3] rfl)
            · have hf := if_f hc hf
              refine lv_iconst (v := (1 : Int32)) hx hb dX8_extreme_76 (by decide) ?_
              refine lv_goto (tgt := 81) hx hb dX8_extreme_77 (by decide) ?_
              cases hf
              exact K2 H locs ls hP hS (lv_sub hl [0, 1, 2, 3] rfl)
          · have hf := if_f hc hf
            refine lv_aload_n hx hb dX8_extreme_43 rfl (lv_at hl 2 rfl) ?_
            refine lv_iload_n hx hb dX8_extreme_44 rfl (lv_at hl 0 rfl) ?_
            refine lv_iconst (v := (5 : Int32)) hx hb dX8_extreme_45 (by decide) ?_
            obtain ⟨x6, hx6, hf⟩ := ob_e hf
            refine zr_cVi (rest := []) (As := [.int a3, .int (5 : Int32)]) X hP hS (ct_X8_of (g := g) (nc := nc) (I := I) (J := J) (O := O) hnJ l  hx6) cw_X8_209 (zr_recv X hP (Nat.lt_of_lt_of_le (zk_306).2.1 hnJ) (zb_ceJo zk_306 (by decide)) rfl) rfl hl.1 (Nat.le_of_ble_eq_true rfl) ⟨Nat.le_of_ble_eq_true rfl, Nat.le_of_ble_eq_true rfl⟩ ⟨Nat.le_of_ble_eq_true rfl, Nat.le_of_ble_eq_true rfl⟩ dX8_extreme_46 rfl (fun H locs hP hS => ?_)
            refine lv_aload_n hx hb dX8_extreme_49 rfl (lv_at hl 2 rfl) ?_
            refine lv_iload_n hx hb dX8_extreme_50 rfl (lv_at hl 1 rfl) ?_
            refine lv_iconst (v := (5 : Int32)) hx hb dX8_extreme_51 (by decide) ?_
            obtain ⟨x7, hx7, hf⟩ := ob_e hf
            refine zr_cVi (rest := [.int x6]) (As := [.int a2, .int (5 : Int32)]) X hP hS (ct_X8_of (g := g) (nc := nc) (I := I) (J := J) (O := O) hnJ l  hx7) cw_X8_209 (zr_recv X hP (Nat.lt_of_lt_of_le (zk_306).2.1 hnJ) (zb_ceJo zk_306 (by decide)) rfl) rfl hl.1 (Nat.le_of_ble_eq_true rfl) ⟨Nat.le_of_ble_eq_true rfl, Nat.le_of_ble_eq_true rfl⟩ ⟨Nat.le_of_ble_eq_true rfl, Nat.le_of_ble_eq_true rfl⟩ dX8_extreme_52 rfl (fun H locs hP hS => ?_)
            refine lv_icmp_ge (tgt := 80) hx hb dX8_extreme_55 (by decide) (fun hc => ?_) (fun hc => ?_)
            · have hf := if_t hc hf
              refine lv_iconst (v := (0 : Int32)) hx hb dX8_extreme_80 (by decide) ?_
              cases hf
              exact K2 H locs ls hP hS (lv_sub hl [0, 1, 2, 3] rfl)
            · have hf := if_f hc hf
              refine lv_goto (tgt := 76) hx hb dX8_extreme_58 (by decide) ?_
              refine lv_iconst (v := (1 : Int32)) hx hb dX8_extreme_76 (by decide) ?_
              refine lv_goto (tgt := 81) hx hb dX8_extreme_77 (by decide) ?_
              cases hf
              exact K2 H locs ls hP hS (lv_sub hl [0, 1, 2, 3] rfl)
      · have hf := if_t hc hf
        refine lv_goto (tgt := 94) hx hb dX8_extreme_31 (by decide) ?_
        cases hf
        exact K1 H locs ls hP hS (lv_sub hl [1, 0, 2, 3] rfl)
set_option maxHeartbeats 4000000 in
set_option maxRecDepth 100000 in
theorem ct_X8_extreme {g : zb_G} {nc : Nat} (hnJ : 318 ≤ nc) (l : Launch) {a1 : Int32} {I J O : Mem} {r9 : Int32} {Jq : Mem} (hf : fX8_extreme a1 J = some (r9, Jq)) : zb_Ct l g nc yX8_extreme cX8_extreme 5 (some .int) 2 43 [.ref (g.2.2 + 306), .int a1] (zb_ce g I J O) (some (.int r9)) (zb_ce g I Jq O) := by
  refine zb_ofW (own := RX8) (by decide +kernel) rfl (Nat.le_of_ble_eq_true rfl) ?_
  intro p e s m args below meth c ls X hr hP hl
  have hx := X.1.1
  have hb := X.1.2.1
  have ho := X.1.2.2.2.1
  have hts := X.1.2.2.2.2
  have hZ := X.2.2.2
  have hl : lv_has ls 5 [(0, .ref (g.2.2 + 306)), (1, .int a1)] := hl
  have hS : va_S (zb_A g) s.heap s.heap [] := va_S.rf
  obtain ⟨H, hH⟩ : ∃ H, H = s.heap := ⟨_, rfl⟩
  obtain ⟨locs, hlocs⟩ : ∃ z : List Loc, z = [] := ⟨_, rfl⟩
  rw [← hH] at hP
  have hS : va_S (zb_A g) s.heap H locs := by rw [hH, hlocs]; exact hS
  show W p l e _ s m args below meth c s.heap [] 0 0 _ _
  rw [← hH, ← hlocs]
  rw [fX8_extreme] at hf
  refine lv_aload_n hx hb dX8_extreme_0 rfl (lv_at hl 0 rfl) ?_
  refine lv_iconst (v := (0 : Int32)) hx hb dX8_extreme_1 (by decide) ?_
  refine pf_X8_57 X hnJ hP hS zk_306 dX8_extreme_2 (fun H locs hP hS => ?_)
  refine lv_iconst (v := (-1 : Int32)) hx hb dX8_extreme_5 (by decide) ?_
  refine lv_istore_n (lv' := [(2, .int (-1 : Int32)), (0, .ref (g.2.2 + 306)), (1, .int a1)]) hx hb dX8_extreme_6 rfl hl (by decide) rfl (fun ls hl => ?_)
  refine lv_aload_n hx hb dX8_extreme_7 rfl (lv_at hl 1 rfl) ?_
  obtain ⟨x1, hx1, hf⟩ := ob_e hf
  refine zr_cVi (rest := []) (As := []) X hP hS (ct_X8_firstHour (g := g) (nc := nc) (I := I) (J := (wr J 306 0 (0 : Int32))) (O := O) hnJ l  hx1) cw_X8_203 (zr_recv X hP (Nat.lt_of_lt_of_le (zk_306).2.1 hnJ) (zb_ceJo zk_306 (by decide)) rfl) rfl hl.1 (Nat.le_of_ble_eq_true rfl) ⟨Nat.le_of_ble_eq_true rfl, Nat.le_of_ble_eq_true rfl⟩ ⟨Nat.le_of_ble_eq_true rfl, Nat.le_of_ble_eq_true rfl⟩ dX8_extreme_8 rfl (fun H locs hP hS => ?_)
  refine lv_istore_n (lv' := [(3, .int x1), (2, .int (-1 : Int32)), (0, .ref (g.2.2 + 306)), (1, .int a1)]) hx hb dX8_extreme_11 rfl hl (by decide) rfl (fun ls hl => ?_)
  obtain ⟨x11, hx11, hf⟩ := ob_e hf
  have K4 : ∀ (H : Heap) (locs : List Loc) (ls : Array Slot), va_P g.1 vwCl (zb_ws g nc (zb_ce g I (wr J 306 0 (0 : Int32)) O)) H → va_S (zb_A g) s.heap H locs → lv_has ls 5 [(2, .int x11)] → W p l e { frames := 2, cells := 0, slots := 0, locals := 43 } s m args below meth c H locs 0 0 (MQ below (zb_Po g nc (zb_ce g I Jq O) (some (.int r9))) args s 0 0 (zb_A g)) (F0 m 100 ls []) := by
    intro H locs ls hP hS hl
    refine lv_iload_n hx hb dX8_extreme_100 rfl (lv_at hl 0 rfl) ?_
    cases hf
    exact zr_iret X hr hP hS dX8_extreme_101
  exact lpX8_extreme_L12 hnJ l  X hx11 K4 hP hS (lv_sub hl [0, 1, 2, 3] rfl)
set_option maxHeartbeats 4000000 in
set_option maxRecDepth 100000 in
theorem lpX8_meanLevel_L12 {g : zb_G} {nc : Nat} (hnJ : 318 ≤ nc) (l : Launch) {I O : Mem} {p : Program} {e : Env} {s : State} {m : MethodId} {args : Array Value} {below : List Frame} {meth : Method} {c : Code} {Q : State → Prop} (X : zb_X g p m c cX8_meanLevel 3 s args RX8 meth) : ∀ {n9 : Nat} {a2 : Int32} {a1 : Int32} {J : Mem} {z1 : Int32} {H : Heap} {locs : List Loc} {ls : Array Slot}, fX8_meanLevel_L12 n9 a2 a1 J = some z1 → (∀ (H : Heap) (locs : List Loc) (ls : Array Slot), va_P g.1 vwCl (zb_ws g nc (zb_ce g I J O)) H → va_S (zb_A g) s.heap H locs → lv_has ls 3 [(1, .int z1), (0, .ref (g.2.2 + 306))] → W p l e { frames := 3, cells := 0, slots := 0, locals := 65 } s m args below meth c H locs 0 0 Q (F0 m 51 ls [])) → va_P g.1 vwCl (zb_ws g nc (zb_ce g I J O)) H → va_S (zb_A g) s.heap H locs → lv_has ls 3 [(2, .int a2), (1, .int a1), (0, .ref (g.2.2 + 306))] → W p l e { frames := 3, cells := 0, slots := 0, locals := 65 } s m args below meth c H locs 0 0 Q (F0 m 12 ls []) := by
  have hx := X.1.1
  have hb := X.1.2.1
  have ho := X.1.2.2.2.1
  have hts := X.1.2.2.2.2
  have hZ := X.2.2.2
  intro n9
  induction n9 with
  | zero =>
    intro a2 a1 J z1 H locs ls hf
    exact nomatch hf
  | succ n9 ih =>
    intro a2 a1 J z1 H locs ls hf KK hP hS hl
    rw [fX8_meanLevel_L12] at hf
    refine lv_iload_n hx hb dX8_meanLevel_12 rfl (lv_at hl 0 rfl) ?_
    refine lv_aload_n hx hb dX8_meanLevel_13 rfl (lv_at hl 2 rfl) ?_
    refine gf_X8_7 X hnJ hP zk_306 dX8_meanLevel_14 ?_
    refine lv_iconst (v := (5 : Int32)) hx hb dX8_meanLevel_17 (by decide) ?_
    obtain ⟨x2, hx2, hf⟩ := ob_e hf
    refine zr_aldJ X hP hnJ zk_307 hx2 dX8_meanLevel_18 ?_
    refine lv_icmp_ge (tgt := 51) hx hb dX8_meanLevel_19 (by decide) (fun hc => ?_) (fun hc => ?_)
    · have hf := if_t hc hf
      cases hf
      exact KK H locs ls hP hS (lv_sub hl [1, 2] rfl)
    · have hf := if_f hc hf
      refine lv_iload_n hx hb dX8_meanLevel_22 rfl (lv_at hl 1 rfl) ?_
      refine lv_aload_n hx hb dX8_meanLevel_23 rfl (lv_at hl 2 rfl) ?_
      refine lv_iload_n hx hb dX8_meanLevel_24 rfl (lv_at hl 0 rfl) ?_
      refine lv_iconst (v := (2 : Int32)) hx hb dX8_meanLevel_25 (by decide) ?_
      obtain ⟨x3, hx3, hf⟩ := ob_e hf
      refine zr_cVi (rest := [.int a1]) (As := [.int a2, .int (2 : Int32)]) X hP hS (ct_X8_of (g := g) (nc := nc) (I := I) (J := J) (O := O) hnJ l  hx3) cw_X8_209 (zr_recv X hP (Nat.lt_of_lt_of_le (zk_306).2.1 hnJ) (zb_ceJo zk_306 (by decide)) rfl) rfl hl.1 (Nat.le_of_ble_eq_true rfl) ⟨Nat.le_of_ble_eq_true rfl, Nat.le_of_ble_eq_true rfl⟩ ⟨Nat.le_of_ble_eq_true rfl, Nat.le_of_ble_eq_true rfl⟩ dX8_meanLevel_26 rfl (fun H locs hP hS => ?_)
      refine lv_iconst (v := (1 : Int32)) hx hb dX8_meanLevel_29 (by decide) ?_
      obtain ⟨x5, ht, hf⟩ := ob_e hf
      have K1 : ∀ (H : Heap) (locs : List Loc) (ls : Array Slot), va_P g.1 vwCl (zb_ws g nc (zb_ce g I J O)) H → va_S (zb_A g) s.heap H locs → lv_has ls 3 [(2, .int a2), (0, .ref (g.2.2 + 306))] → W p l e { frames := 3, cells := 0, slots := 0, locals := 65 } s m args below meth c H locs 0 0 Q (F0 m 43 ls [.int x5, .int a1]) := by
        intro H locs ls hP hS hl
        refine lv_iadd hx hb dX8_meanLevel_43 ?_
        refine lv_istore_n (lv' := [(1, .int (a1 + x5)), (2, .int a2), (0, .ref (g.2.2 + 306))]) hx hb dX8_meanLevel_44 rfl hl (by decide) rfl (fun ls hl => ?_)
        refine lv_iinc (v := (a2 + (1 : Int32))) (lv' := [(2, .int (a2 + (1 : Int32))), (1, .int (a1 + x5)), (0, .ref (g.2.2 + 306))]) hx hb dX8_meanLevel_45 hl (k := 1) rfl rfl (by decide) rfl (fun ls hl => ?_)
        refine lv_goto (tgt := 12) hx hb dX8_meanLevel_48 (by decide) ?_
        exact ih hf KK hP hS (lv_sub hl [0, 1, 2] rfl)
      have hf := ht
      refine lv_icmp_ne (tgt := 42) hx hb dX8_meanLevel_30 (by decide) (fun hc => ?_) (fun hc => ?_)
      · have hf := if_f hc hf
        refine lv_iconst (v := (0 : Int32)) hx hb dX8_meanLevel_42 (by decide) ?_
        cases hf
        exact K1 H locs ls hP hS (lv_sub hl [0, 2] rfl)
      · have hf := if_t hc hf
        refine lv_aload_n hx hb dX8_meanLevel_33 rfl (lv_at hl 2 rfl) ?_
        refine lv_iload_n hx hb dX8_meanLevel_34 rfl (lv_at hl 0 rfl) ?_
        refine lv_iconst (v := (5 : Int32)) hx hb dX8_meanLevel_35 (by decide) ?_
        obtain ⟨x4, hx4, hf⟩ := ob_e hf
        refine zr_cVi (rest := [.int a1]) (As := [.int a2, .int (5 : Int32)]) X hP hS (ct_X8_of (g := g) (nc := nc) (I := I) (J := J) (O := O) hnJ l  hx4) cw_X8_209 (zr_recv X hP (Nat.lt_of_lt_of_le (zk_306).2.1 hnJ) (zb_ceJo zk_306 (by decide)) rfl) rfl hl.1 (Nat.le_of_ble_eq_true rfl) ⟨Nat.le_of_ble_eq_true rfl, Nat.le_of_ble_eq_true rfl⟩ ⟨Nat.le_of_ble_eq_true rfl, Nat.le_of_ble_eq_true rfl⟩ dX8_meanLevel_36 rfl (fun H locs hP hS => ?_)
        refine lv_goto (tgt := 43) hx hb dX8_meanLevel_39 (by decide) ?_
        cases hf
        exact K1 H locs ls hP hS (lv_sub hl [0, 2] rfl)
set_option maxHeartbeats 4000000 in
set_option maxRecDepth 100000 in
theorem ct_X8_meanLevel {g : zb_G} {nc : Nat} (hnJ : 318 ≤ nc) (l : Launch) {I J O : Mem} {r9 : UInt64} {Jq : Mem} (hf : fX8_meanLevel J = some (r9, Jq)) : zb_Ct l g nc yX8_meanLevel cX8_meanLevel 3 (some .double) 3 65 [.ref (g.2.2 + 306)] (zb_ce g I J O) (some (.double r9)) (zb_ce g I Jq O) := by
  refine zb_ofW (own := RX8) (by decide +kernel) rfl (Nat.le_of_ble_eq_true rfl) ?_
  intro p e s m args below meth c ls X hr hP hl
  have hx := X.1.1
  have hb := X.1.2.1
  have ho := X.1.2.2.2.1
  have hts := X.1.2.2.2.2
  have hZ := X.2.2.2
  have hl : lv_has ls 3 [(0, .ref (g.2.2 + 306))] := hl
  have hS : va_S (zb_A g) s.heap s.heap [] := va_S.rf
  obtain ⟨H, hH⟩ : ∃ H, H = s.heap := ⟨_, rfl⟩
  obtain ⟨locs, hlocs⟩ : ∃ z : List Loc, z = [] := ⟨_, rfl⟩
  rw [← hH] at hP
  have hS : va_S (zb_A g) s.heap H locs := by rw [hH, hlocs]; exact hS
  show W p l e _ s m args below meth c s.heap [] 0 0 _ _
  rw [← hH, ← hlocs]
  rw [fX8_meanLevel] at hf
  refine lv_aload_n hx hb dX8_meanLevel_0 rfl (lv_at hl 0 rfl) ?_
  refine lv_iconst (v := (0 : Int32)) hx hb dX8_meanLevel_1 (by decide) ?_
  refine pf_X8_57 X hnJ hP hS zk_306 dX8_meanLevel_2 (fun H locs hP hS => ?_)
  refine lv_iconst (v := (0 : Int32)) hx hb dX8_meanLevel_5 (by decide) ?_
  refine lv_istore_n (lv' := [(1, .int (0 : Int32)), (0, .ref (g.2.2 + 306))]) hx hb dX8_meanLevel_6 rfl hl (by decide) rfl (fun ls hl => ?_)
  refine lv_aload_n hx hb dX8_meanLevel_7 rfl (lv_at hl 1 rfl) ?_
  obtain ⟨x1, hx1, hf⟩ := ob_e hf
  refine zr_cVi (rest := []) (As := []) X hP hS (ct_X8_firstHour (g := g) (nc := nc) (I := I) (J := (wr J 306 0 (0 : Int32))) (O := O) hnJ l  hx1) cw_X8_203 (zr_recv X hP (Nat.lt_of_lt_of_le (zk_306).2.1 hnJ) (zb_ceJo zk_306 (by decide)) rfl) rfl hl.1 (Nat.le_of_ble_eq_true rfl) ⟨Nat.le_of_ble_eq_true rfl, Nat.le_of_ble_eq_true rfl⟩ ⟨Nat.le_of_ble_eq_true rfl, Nat.le_of_ble_eq_true rfl⟩ dX8_meanLevel_8 rfl (fun H locs hP hS => ?_)
  refine lv_istore_n (lv' := [(2, .int x1), (1, .int (0 : Int32)), (0, .ref (g.2.2 + 306))]) hx hb dX8_meanLevel_11 rfl hl (by decide) rfl (fun ls hl => ?_)
  obtain ⟨x6, hx6, hf⟩ := ob_e hf
  have K2 : ∀ (H : Heap) (locs : List Loc) (ls : Array Slot), va_P g.1 vwCl (zb_ws g nc (zb_ce g I (wr J 306 0 (0 : Int32)) O)) H → va_S (zb_A g) s.heap H locs → lv_has ls 3 [(1, .int x6), (0, .ref (g.2.2 + 306))] → W p l e { frames := 3, cells := 0, slots := 0, locals := 65 } s m args below meth c H locs 0 0 (MQ below (zb_Po g nc (zb_ce g I Jq O) (some (.double r9))) args s 0 0 (zb_A g)) (F0 m 51 ls []) := by
    intro H locs ls hP hS hl
    refine lv_aload_n hx hb dX8_meanLevel_51 rfl (lv_at hl 1 rfl) ?_
    obtain ⟨x7, hx7, hf⟩ := ob_e hf
    refine zr_cVi (rest := []) (As := []) X hP hS (ct_X8_levelled (g := g) (nc := nc) (I := I) (J := (wr J 306 0 (0 : Int32))) (O := O) hnJ l  hx7) cw_X8_252 (zr_recv X hP (Nat.lt_of_lt_of_le (zk_306).2.1 hnJ) (zb_ceJo zk_306 (by decide)) rfl) rfl hl.1 (Nat.le_of_ble_eq_true rfl) ⟨Nat.le_of_ble_eq_true rfl, Nat.le_of_ble_eq_true rfl⟩ ⟨Nat.le_of_ble_eq_true rfl, Nat.le_of_ble_eq_true rfl⟩ dX8_meanLevel_52 rfl (fun H locs hP hS => ?_)
    obtain ⟨x10, ht, hf⟩ := ob_e hf
    have K3 : ∀ (H : Heap) (locs : List Loc) (ls : Array Slot), va_P g.1 vwCl (zb_ws g nc (zb_ce g I (wr J 306 0 (0 : Int32)) O)) H → va_S (zb_A g) s.heap H locs → lv_has ls 3 [] → W p l e { frames := 3, cells := 0, slots := 0, locals := 65 } s m args below meth c H locs 0 0 (MQ below (zb_Po g nc (zb_ce g I Jq O) (some (.double r9))) args s 0 0 (zb_A g)) (F0 m 70 ls [.double x10]) := by
      intro H locs ls hP hS hl
      cases hf
      exact zr_dret X hr hP hS dX8_meanLevel_70
    have hf := ht
    refine lv_if_ne (tgt := 62) hx hb dX8_meanLevel_55 (by decide) (fun hc => ?_) (fun hc => ?_)
    · have hf := if_f hc hf
      refine lv_iload_n hx hb dX8_meanLevel_62 rfl (lv_at hl 0 rfl) ?_
      refine lv_i2d hx hb dX8_meanLevel_63 ?_
      refine lv_aload_n hx hb dX8_meanLevel_64 rfl (lv_at hl 1 rfl) ?_
      obtain ⟨x8, hx8, hf⟩ := ob_e hf
      refine zr_cVi (rest := [.double (FP.i2d x6)]) (As := []) X hP hS (ct_X8_levelled (g := g) (nc := nc) (I := I) (J := (wr J 306 0 (0 : Int32))) (O := O) hnJ l  hx8) cw_X8_252 (zr_recv X hP (Nat.lt_of_lt_of_le (zk_306).2.1 hnJ) (zb_ceJo zk_306 (by decide)) rfl) rfl hl.1 (Nat.le_of_ble_eq_true rfl) ⟨Nat.le_of_ble_eq_true rfl, Nat.le_of_ble_eq_true rfl⟩ ⟨Nat.le_of_ble_eq_true rfl, Nat.le_of_ble_eq_true rfl⟩ dX8_meanLevel_65 rfl (fun H locs hP hS => ?_)
      refine lv_i2d hx hb dX8_meanLevel_68 ?_
      obtain ⟨x9, hx9, hf⟩ := ob_e hf
      refine zr_ddiv X hx9 dX8_meanLevel_69 ?_
      cases hf
      exact K3 H locs ls hP hS (lv_sub hl [] rfl)
    · have hf := if_t hc hf
      refine lv_dconst0 hx hb dX8_meanLevel_58 ?_
      refine lv_goto (tgt := 70) hx hb dX8_meanLevel_59 (by decide) ?_
      cases hf
      exact K3 H locs ls hP hS (lv_sub hl [] rfl)
  exact lpX8_meanLevel_L12 hnJ l  X hx6 K2 hP hS (lv_sub hl [0, 1, 2] rfl)
set_option maxHeartbeats 4000000 in
set_option maxRecDepth 100000 in
theorem ct_X8_agreement {g : zb_G} {nc : Nat} (hnJ : 318 ≤ nc) (l : Launch) {a1 : Int32} {I J O : Mem} {r9 : UInt32} {Jq : Mem} (hf : fX8_agreement a1 J = some (r9, Jq)) : zb_Ct l g nc yX8_agreement cX8_agreement 2 (some .float) 2 44 [.ref (g.2.2 + 306), .int a1] (zb_ce g I J O) (some (.float r9)) (zb_ce g I Jq O) := by
  refine zb_ofW (own := RX8) (by decide +kernel) rfl (Nat.le_of_ble_eq_true rfl) ?_
  intro p e s m args below meth c ls X hr hP hl
  have hx := X.1.1
  have hb := X.1.2.1
  have ho := X.1.2.2.2.1
  have hts := X.1.2.2.2.2
  have hZ := X.2.2.2
  have hl : lv_has ls 2 [(0, .ref (g.2.2 + 306)), (1, .int a1)] := hl
  have hS : va_S (zb_A g) s.heap s.heap [] := va_S.rf
  obtain ⟨H, hH⟩ : ∃ H, H = s.heap := ⟨_, rfl⟩
  obtain ⟨locs, hlocs⟩ : ∃ z : List Loc, z = [] := ⟨_, rfl⟩
  rw [← hH] at hP
  have hS : va_S (zb_A g) s.heap H locs := by rw [hH, hlocs]; exact hS
  show W p l e _ s m args below meth c s.heap [] 0 0 _ _
  rw [← hH, ← hlocs]
  rw [fX8_agreement] at hf
  refine lv_aload_n hx hb dX8_agreement_0 rfl (lv_at hl 0 rfl) ?_
  refine lv_iconst (v := (0 : Int32)) hx hb dX8_agreement_1 (by decide) ?_
  refine pf_X8_57 X hnJ hP hS zk_306 dX8_agreement_2 (fun H locs hP hS => ?_)
  refine lv_aload_n hx hb dX8_agreement_5 rfl (lv_at hl 0 rfl) ?_
  refine lv_iload_n hx hb dX8_agreement_6 rfl (lv_at hl 1 rfl) ?_
  obtain ⟨x1, J2, hx1_J2, hf⟩ := ob2_e hf
  refine zr_cVi (rest := []) (As := [.int a1]) X hP hS (ct_X8_noHour (g := g) (nc := nc) (I := I) (J := (wr J 306 0 (0 : Int32))) (O := O) hnJ l  hx1_J2) cw_X8_264 (zr_recv X hP (Nat.lt_of_lt_of_le (zk_306).2.1 hnJ) (zb_ceJo zk_306 (by decide)) rfl) rfl hl.1 (Nat.le_of_ble_eq_true rfl) ⟨Nat.le_of_ble_eq_true rfl, Nat.le_of_ble_eq_true rfl⟩ ⟨Nat.le_of_ble_eq_true rfl, Nat.le_of_ble_eq_true rfl⟩ dX8_agreement_7 rfl (fun H locs hP hS => ?_)
  refine lv_if_eq (tgt := 15) hx hb dX8_agreement_10 (by decide) (fun hc => ?_) (fun hc => ?_)
  · have hf := if_t hc hf
    refine lv_aload_n hx hb dX8_agreement_15 rfl (lv_at hl 0 rfl) ?_
    refine lv_iload_n hx hb dX8_agreement_16 rfl (lv_at hl 1 rfl) ?_
    refine lv_iconst (v := (0 : Int32)) hx hb dX8_agreement_17 (by decide) ?_
    obtain ⟨x3, hx3, hf⟩ := ob_e hf
    refine zr_cVi (rest := []) (As := [.int a1, .int (0 : Int32)]) X hP hS (ct_X8_of (g := g) (nc := nc) (I := I) (J := J2) (O := O) hnJ l  hx3) cw_X8_209 (zr_recv X hP (Nat.lt_of_lt_of_le (zk_306).2.1 hnJ) (zb_ceJo zk_306 (by decide)) rfl) rfl hl.1 (Nat.le_of_ble_eq_true rfl) ⟨Nat.le_of_ble_eq_true rfl, Nat.le_of_ble_eq_true rfl⟩ ⟨Nat.le_of_ble_eq_true rfl, Nat.le_of_ble_eq_true rfl⟩ dX8_agreement_18 rfl (fun H locs hP hS => ?_)
    obtain ⟨x9, ht, hf⟩ := ob_e hf
    have K1 : ∀ (H : Heap) (locs : List Loc) (ls : Array Slot), va_P g.1 vwCl (zb_ws g nc (zb_ce g I J2 O)) H → va_S (zb_A g) s.heap H locs → lv_has ls 2 [] → W p l e { frames := 2, cells := 0, slots := 0, locals := 44 } s m args below meth c H locs 0 0 (MQ below (zb_Po g nc (zb_ce g I Jq O) (some (.float r9))) args s 0 0 (zb_A g)) (F0 m 51 ls [.float x9]) := by
      intro H locs ls hP hS hl
      cases hf
      exact zr_fret X hr hP hS dX8_agreement_51
    have hf := ht
    refine lv_if_ne (tgt := 28) hx hb dX8_agreement_21 (by decide) (fun hc => ?_) (fun hc => ?_)
    · have hf := if_f hc hf
      refine lv_aload_n hx hb dX8_agreement_28 rfl (lv_at hl 0 rfl) ?_
      refine lv_aload_n hx hb dX8_agreement_29 rfl (lv_at hl 0 rfl) ?_
      refine lv_iload_n hx hb dX8_agreement_30 rfl (lv_at hl 1 rfl) ?_
      refine lv_iconst (v := (1 : Int32)) hx hb dX8_agreement_31 (by decide) ?_
      obtain ⟨x4, hx4, hf⟩ := ob_e hf
      refine zr_cVi (rest := [.ref (g.2.2 + 306)]) (As := [.int a1, .int (1 : Int32)]) X hP hS (ct_X8_of (g := g) (nc := nc) (I := I) (J := J2) (O := O) hnJ l  hx4) cw_X8_209 (zr_recv X hP (Nat.lt_of_lt_of_le (zk_306).2.1 hnJ) (zb_ceJo zk_306 (by decide)) rfl) rfl hl.1 (Nat.le_of_ble_eq_true rfl) ⟨Nat.le_of_ble_eq_true rfl, Nat.le_of_ble_eq_true rfl⟩ ⟨Nat.le_of_ble_eq_true rfl, Nat.le_of_ble_eq_true rfl⟩ dX8_agreement_32 rfl (fun H locs hP hS => ?_)
      obtain ⟨x5, hx5, hf⟩ := ob_e hf
      refine zr_cVi (rest := []) (As := [.int x4]) X hP hS (ct_X8_votes (g := g) (nc := nc) (I := I) (J := J2) (O := O) hnJ l  hx5) cw_X8_179 (zr_recv X hP (Nat.lt_of_lt_of_le (zk_306).2.1 hnJ) (zb_ceJo zk_306 (by decide)) rfl) rfl hl.1 (Nat.le_of_ble_eq_true rfl) ⟨Nat.le_of_ble_eq_true rfl, Nat.le_of_ble_eq_true rfl⟩ ⟨Nat.le_of_ble_eq_true rfl, Nat.le_of_ble_eq_true rfl⟩ dX8_agreement_35 rfl (fun H locs hP hS => ?_)
      refine lv_i2f hx hb dX8_agreement_38 ?_
      refine lv_aload_n hx hb dX8_agreement_39 rfl (lv_at hl 0 rfl) ?_
      refine lv_aload_n hx hb dX8_agreement_40 rfl (lv_at hl 0 rfl) ?_
      refine lv_iload_n hx hb dX8_agreement_41 rfl (lv_at hl 1 rfl) ?_
      refine lv_iconst (v := (0 : Int32)) hx hb dX8_agreement_42 (by decide) ?_
      obtain ⟨x6, hx6, hf⟩ := ob_e hf
      refine zr_cVi (rest := [.ref (g.2.2 + 306), .float (FP.i2f x5)]) (As := [.int a1, .int (0 : Int32)]) X hP hS (ct_X8_of (g := g) (nc := nc) (I := I) (J := J2) (O := O) hnJ l  hx6) cw_X8_209 (zr_recv X hP (Nat.lt_of_lt_of_le (zk_306).2.1 hnJ) (zb_ceJo zk_306 (by decide)) rfl) rfl hl.1 (Nat.le_of_ble_eq_true rfl) ⟨Nat.le_of_ble_eq_true rfl, Nat.le_of_ble_eq_true rfl⟩ ⟨Nat.le_of_ble_eq_true rfl, Nat.le_of_ble_eq_true rfl⟩ dX8_agreement_43 rfl (fun H locs hP hS => ?_)
      obtain ⟨x7, hx7, hf⟩ := ob_e hf
      refine zr_cVi (rest := [.float (FP.i2f x5)]) (As := [.int x6]) X hP hS (ct_X8_votes (g := g) (nc := nc) (I := I) (J := J2) (O := O) hnJ l  hx7) cw_X8_179 (zr_recv X hP (Nat.lt_of_lt_of_le (zk_306).2.1 hnJ) (zb_ceJo zk_306 (by decide)) rfl) rfl hl.1 (Nat.le_of_ble_eq_true rfl) ⟨Nat.le_of_ble_eq_true rfl, Nat.le_of_ble_eq_true rfl⟩ ⟨Nat.le_of_ble_eq_true rfl, Nat.le_of_ble_eq_true rfl⟩ dX8_agreement_46 rfl (fun H locs hP hS => ?_)
      refine lv_i2f hx hb dX8_agreement_49 ?_
      obtain ⟨x8, hx8, hf⟩ := ob_e hf
      refine zr_fdiv X hx8 dX8_agreement_50 ?_
      cases hf
      exact K1 H locs ls hP hS (lv_sub hl [] rfl)
    · have hf := if_t hc hf
      refine lv_fconst0 hx hb dX8_agreement_24 ?_
      refine lv_goto (tgt := 51) hx hb dX8_agreement_25 (by decide) ?_
      cases hf
      exact K1 H locs ls hP hS (lv_sub hl [] rfl)
  · have hf := if_f hc hf
    refine lv_fconst0 hx hb dX8_agreement_13 ?_
    cases hf
    exact zr_fret X hr hP hS dX8_agreement_14
set_option maxHeartbeats 4000000 in
set_option maxRecDepth 100000 in
theorem ct_X8_levelNow {g : zb_G} {nc : Nat} (hnJ : 318 ≤ nc) (l : Launch) {I J O : Mem} {r9 : Int32} {Jq : Mem} (hf : fX8_levelNow J = some (r9, Jq)) : zb_Ct l g nc yX8_levelNow cX8_levelNow 1 (some .int) 3 70 [.ref (g.2.2 + 306)] (zb_ce g I J O) (some (.int r9)) (zb_ce g I Jq O) := by
  refine zb_ofW (own := RX8) (by decide +kernel) rfl (Nat.le_of_ble_eq_true rfl) ?_
  intro p e s m args below meth c ls X hr hP hl
  have hx := X.1.1
  have hb := X.1.2.1
  have ho := X.1.2.2.2.1
  have hts := X.1.2.2.2.2
  have hZ := X.2.2.2
  have hl : lv_has ls 1 [(0, .ref (g.2.2 + 306))] := hl
  have hS : va_S (zb_A g) s.heap s.heap [] := va_S.rf
  obtain ⟨H, hH⟩ : ∃ H, H = s.heap := ⟨_, rfl⟩
  obtain ⟨locs, hlocs⟩ : ∃ z : List Loc, z = [] := ⟨_, rfl⟩
  rw [← hH] at hP
  have hS : va_S (zb_A g) s.heap H locs := by rw [hH, hlocs]; exact hS
  show W p l e _ s m args below meth c s.heap [] 0 0 _ _
  rw [← hH, ← hlocs]
  rw [fX8_levelNow] at hf
  refine lv_aload_n hx hb dX8_levelNow_0 rfl (lv_at hl 0 rfl) ?_
  refine lv_iconst (v := (0 : Int32)) hx hb dX8_levelNow_1 (by decide) ?_
  refine pf_X8_57 X hnJ hP hS zk_306 dX8_levelNow_2 (fun H locs hP hS => ?_)
  refine lv_aload_n hx hb dX8_levelNow_5 rfl (lv_at hl 0 rfl) ?_
  refine lv_aload_n hx hb dX8_levelNow_6 rfl (lv_at hl 0 rfl) ?_
  refine lv_iconst (v := (0 : Int32)) hx hb dX8_levelNow_7 (by decide) ?_
  obtain ⟨x1, J2, hx1_J2, hf⟩ := ob2_e hf
  refine zr_cVi (rest := [.ref (g.2.2 + 306)]) (As := [.int (0 : Int32)]) X hP hS (ct_X8_reporters (g := g) (nc := nc) (I := I) (J := (wr J 306 0 (0 : Int32))) (O := O) hnJ l  hx1_J2) cw_X8_225 (zr_recv X hP (Nat.lt_of_lt_of_le (zk_306).2.1 hnJ) (zb_ceJo zk_306 (by decide)) rfl) rfl hl.1 (Nat.le_of_ble_eq_true rfl) ⟨Nat.le_of_ble_eq_true rfl, Nat.le_of_ble_eq_true rfl⟩ ⟨Nat.le_of_ble_eq_true rfl, Nat.le_of_ble_eq_true rfl⟩ dX8_levelNow_8 rfl (fun H locs hP hS => ?_)
  obtain ⟨J3, hJ3, hf⟩ := ob_e hf
  refine zr_cVv (rest := []) (As := [.int x1]) X hP hS (ct_X8_tells (g := g) (nc := nc) (I := I) (J := J2) (O := O) hnJ l  hJ3) cw_X8_219 (zr_recv X hP (Nat.lt_of_lt_of_le (zk_306).2.1 hnJ) (zb_ceJo zk_306 (by decide)) rfl) rfl hl.1 (Nat.le_of_ble_eq_true rfl) ⟨Nat.le_of_ble_eq_true rfl, Nat.le_of_ble_eq_true rfl⟩ ⟨Nat.le_of_ble_eq_true rfl, Nat.le_of_ble_eq_true rfl⟩ dX8_levelNow_11 rfl (fun H locs hP hS => ?_)
  refine lv_aload_n hx hb dX8_levelNow_14 rfl (lv_at hl 0 rfl) ?_
  refine lv_aload_n hx hb dX8_levelNow_15 rfl (lv_at hl 0 rfl) ?_
  refine gf_X8_185 X hnJ hP zk_306 dX8_levelNow_16 ?_
  obtain ⟨x4, ht, hf⟩ := pl_e hf
  have K1 : ∀ (H : Heap) (locs : List Loc) (ls : Array Slot), va_P g.1 vwCl (zb_ws g nc (zb_ce g I J3 O)) H → va_S (zb_A g) s.heap H locs → lv_has ls 1 [(0, .ref (g.2.2 + 306))] → W p l e { frames := 3, cells := 0, slots := 0, locals := 70 } s m args below meth c H locs 0 0 (MQ below (zb_Po g nc (zb_ce g I Jq O) (some (.int r9))) args s 0 0 (zb_A g)) (F0 m 27 ls [.int x4, .ref (g.2.2 + 306)]) := by
    intro H locs ls hP hS hl
    refine lv_iconst (v := (1 : Int32)) hx hb dX8_levelNow_27 (by decide) ?_
    obtain ⟨x5, J6, hx5_J6, hf⟩ := ob2_e hf
    refine zr_cVi (rest := []) (As := [.int x4, .int (1 : Int32)]) X hP hS (ct_X8_throwsIf (g := g) (nc := nc) (I := I) (J := J3) (O := O) hnJ l  hx5_J6) cw_X8_64 (zr_recv X hP (Nat.lt_of_lt_of_le (zk_306).2.1 hnJ) (zb_ceJo zk_306 (by decide)) rfl) rfl hl.1 (Nat.le_of_ble_eq_true rfl) ⟨Nat.le_of_ble_eq_true rfl, Nat.le_of_ble_eq_true rfl⟩ ⟨Nat.le_of_ble_eq_true rfl, Nat.le_of_ble_eq_true rfl⟩ dX8_levelNow_28 rfl (fun H locs hP hS => ?_)
    obtain ⟨x7, ht, hf⟩ := pl_e hf
    have K2 : ∀ (H : Heap) (locs : List Loc) (ls : Array Slot), va_P g.1 vwCl (zb_ws g nc (zb_ce g I J6 O)) H → va_S (zb_A g) s.heap H locs → lv_has ls 1 [] → W p l e { frames := 3, cells := 0, slots := 0, locals := 70 } s m args below meth c H locs 0 0 (MQ below (zb_Po g nc (zb_ce g I Jq O) (some (.int r9))) args s 0 0 (zb_A g)) (F0 m 42 ls [.int x7]) := by
      intro H locs ls hP hS hl
      cases hf
      exact zr_iret X hr hP hS dX8_levelNow_42
    have hf := ht
    refine lv_if_eq (tgt := 38) hx hb dX8_levelNow_31 (by decide) (fun hc => ?_) (fun hc => ?_)
    · have hf := if_t hc hf
      refine lv_aload_n hx hb dX8_levelNow_38 rfl (lv_at hl 0 rfl) ?_
      refine gf_X8_189 X hnJ hP zk_306 dX8_levelNow_39 ?_
      cases hf
      exact K2 H locs ls hP hS (lv_sub hl [] rfl)
    · have hf := if_f hc hf
      refine lv_iconst (v := (0 : Int32)) hx hb dX8_levelNow_34 (by decide) ?_
      refine lv_goto (tgt := 42) hx hb dX8_levelNow_35 (by decide) ?_
      cases hf
      exact K2 H locs ls hP hS (lv_sub hl [] rfl)
  have hf := ht
  refine lv_if_ne (tgt := 26) hx hb dX8_levelNow_19 (by decide) (fun hc => ?_) (fun hc => ?_)
  · have hf := if_f hc hf
    refine lv_iconst (v := (0 : Int32)) hx hb dX8_levelNow_26 (by decide) ?_
    cases hf
    exact K1 H locs ls hP hS (lv_sub hl [0] rfl)
  · have hf := if_t hc hf
    refine lv_iconst (v := (1 : Int32)) hx hb dX8_levelNow_22 (by decide) ?_
    refine lv_goto (tgt := 27) hx hb dX8_levelNow_23 (by decide) ?_
    cases hf
    exact K1 H locs ls hP hS (lv_sub hl [0] rfl)
set_option maxHeartbeats 4000000 in
set_option maxRecDepth 100000 in
theorem ct_X8_levelWithout {g : zb_G} {nc : Nat} (hnJ : 318 ≤ nc) (l : Launch) {a1 : Int32} {a2 : Int32} {I J O : Mem} {r9 : Int32} {Jq : Mem} (hf : fX8_levelWithout a1 a2 J = some (r9, Jq)) : zb_Ct l g nc yX8_levelWithout cX8_levelWithout 3 (some .int) 3 70 [.ref (g.2.2 + 306), .int a1, .int a2] (zb_ce g I J O) (some (.int r9)) (zb_ce g I Jq O) := by
  refine zb_ofW (own := RX8) (by decide +kernel) rfl (Nat.le_of_ble_eq_true rfl) ?_
  intro p e s m args below meth c ls X hr hP hl
  have hx := X.1.1
  have hb := X.1.2.1
  have ho := X.1.2.2.2.1
  have hts := X.1.2.2.2.2
  have hZ := X.2.2.2
  have hl : lv_has ls 3 [(0, .ref (g.2.2 + 306)), (1, .int a1), (2, .int a2)] := hl
  have hS : va_S (zb_A g) s.heap s.heap [] := va_S.rf
  obtain ⟨H, hH⟩ : ∃ H, H = s.heap := ⟨_, rfl⟩
  obtain ⟨locs, hlocs⟩ : ∃ z : List Loc, z = [] := ⟨_, rfl⟩
  rw [← hH] at hP
  have hS : va_S (zb_A g) s.heap H locs := by rw [hH, hlocs]; exact hS
  show W p l e _ s m args below meth c s.heap [] 0 0 _ _
  rw [← hH, ← hlocs]
  rw [fX8_levelWithout] at hf
  refine lv_aload_n hx hb dX8_levelWithout_0 rfl (lv_at hl 0 rfl) ?_
  refine lv_iconst (v := (0 : Int32)) hx hb dX8_levelWithout_1 (by decide) ?_
  refine pf_X8_57 X hnJ hP hS zk_306 dX8_levelWithout_2 (fun H locs hP hS => ?_)
  refine lv_aload_n hx hb dX8_levelWithout_5 rfl (lv_at hl 0 rfl) ?_
  refine lv_iload_n hx hb dX8_levelWithout_6 rfl (lv_at hl 1 rfl) ?_
  obtain ⟨x1, J2, hx1_J2, hf⟩ := ob2_e hf
  refine zr_cVi (rest := []) (As := [.int a1]) X hP hS (ct_X8_noHour (g := g) (nc := nc) (I := I) (J := (wr J 306 0 (0 : Int32))) (O := O) hnJ l  hx1_J2) cw_X8_264 (zr_recv X hP (Nat.lt_of_lt_of_le (zk_306).2.1 hnJ) (zb_ceJo zk_306 (by decide)) rfl) rfl hl.1 (Nat.le_of_ble_eq_true rfl) ⟨Nat.le_of_ble_eq_true rfl, Nat.le_of_ble_eq_true rfl⟩ ⟨Nat.le_of_ble_eq_true rfl, Nat.le_of_ble_eq_true rfl⟩ dX8_levelWithout_7 rfl (fun H locs hP hS => ?_)
  refine lv_if_eq (tgt := 15) hx hb dX8_levelWithout_10 (by decide) (fun hc => ?_) (fun hc => ?_)
  · have hf := if_t hc hf
    refine lv_aload_n hx hb dX8_levelWithout_15 rfl (lv_at hl 0 rfl) ?_
    refine lv_iload_n hx hb dX8_levelWithout_16 rfl (lv_at hl 1 rfl) ?_
    obtain ⟨J3, hJ3, hf⟩ := ob_e hf
    refine zr_cVv (rest := []) (As := [.int a1]) X hP hS (ct_X8_laysValues (g := g) (nc := nc) (I := I) (J := J2) (O := O) hnJ l  hJ3) cw_X8_216 (zr_recv X hP (Nat.lt_of_lt_of_le (zk_306).2.1 hnJ) (zb_ceJo zk_306 (by decide)) rfl) rfl hl.1 (Nat.le_of_ble_eq_true rfl) ⟨Nat.le_of_ble_eq_true rfl, Nat.le_of_ble_eq_true rfl⟩ ⟨Nat.le_of_ble_eq_true rfl, Nat.le_of_ble_eq_true rfl⟩ dX8_levelWithout_17 rfl (fun H locs hP hS => ?_)
    refine lv_aload_n hx hb dX8_levelWithout_20 rfl (lv_at hl 0 rfl) ?_
    refine lv_aload_n hx hb dX8_levelWithout_21 rfl (lv_at hl 0 rfl) ?_
    refine lv_iload_n hx hb dX8_levelWithout_22 rfl (lv_at hl 1 rfl) ?_
    refine lv_iconst (v := (0 : Int32)) hx hb dX8_levelWithout_23 (by decide) ?_
    obtain ⟨x4, hx4, hf⟩ := ob_e hf
    refine zr_cVi (rest := [.ref (g.2.2 + 306)]) (As := [.int a1, .int (0 : Int32)]) X hP hS (ct_X8_of (g := g) (nc := nc) (I := I) (J := J3) (O := O) hnJ l  hx4) cw_X8_209 (zr_recv X hP (Nat.lt_of_lt_of_le (zk_306).2.1 hnJ) (zb_ceJo zk_306 (by decide)) rfl) rfl hl.1 (Nat.le_of_ble_eq_true rfl) ⟨Nat.le_of_ble_eq_true rfl, Nat.le_of_ble_eq_true rfl⟩ ⟨Nat.le_of_ble_eq_true rfl, Nat.le_of_ble_eq_true rfl⟩ dX8_levelWithout_24 rfl (fun H locs hP hS => ?_)
    refine lv_iload_n hx hb dX8_levelWithout_27 rfl (lv_at hl 2 rfl) ?_
    refine lv_iconst (v := (-1 : Int32)) hx hb dX8_levelWithout_28 (by decide) ?_
    refine lv_ixor hx hb dX8_levelWithout_29 ?_
    refine lv_iand hx hb dX8_levelWithout_30 ?_
    obtain ⟨J5, hJ5, hf⟩ := ob_e hf
    refine zr_cVv (rest := []) (As := [.int (x4 &&& (a2 ^^^ (-1 : Int32)))]) X hP hS (ct_X8_tells (g := g) (nc := nc) (I := I) (J := J3) (O := O) hnJ l  hJ5) cw_X8_219 (zr_recv X hP (Nat.lt_of_lt_of_le (zk_306).2.1 hnJ) (zb_ceJo zk_306 (by decide)) rfl) rfl hl.1 (Nat.le_of_ble_eq_true rfl) ⟨Nat.le_of_ble_eq_true rfl, Nat.le_of_ble_eq_true rfl⟩ ⟨Nat.le_of_ble_eq_true rfl, Nat.le_of_ble_eq_true rfl⟩ dX8_levelWithout_31 rfl (fun H locs hP hS => ?_)
    refine lv_aload_n hx hb dX8_levelWithout_34 rfl (lv_at hl 0 rfl) ?_
    refine lv_aload_n hx hb dX8_levelWithout_35 rfl (lv_at hl 0 rfl) ?_
    refine gf_X8_185 X hnJ hP zk_306 dX8_levelWithout_36 ?_
    obtain ⟨x6, ht, hf⟩ := pl_e hf
    have K1 : ∀ (H : Heap) (locs : List Loc) (ls : Array Slot), va_P g.1 vwCl (zb_ws g nc (zb_ce g I J5 O)) H → va_S (zb_A g) s.heap H locs → lv_has ls 3 [(0, .ref (g.2.2 + 306))] → W p l e { frames := 3, cells := 0, slots := 0, locals := 70 } s m args below meth c H locs 0 0 (MQ below (zb_Po g nc (zb_ce g I Jq O) (some (.int r9))) args s 0 0 (zb_A g)) (F0 m 47 ls [.int x6, .ref (g.2.2 + 306)]) := by
      intro H locs ls hP hS hl
      refine lv_iconst (v := (2 : Int32)) hx hb dX8_levelWithout_47 (by decide) ?_
      obtain ⟨x7, J8, hx7_J8, hf⟩ := ob2_e hf
      refine zr_cVi (rest := []) (As := [.int x6, .int (2 : Int32)]) X hP hS (ct_X8_throwsIf (g := g) (nc := nc) (I := I) (J := J5) (O := O) hnJ l  hx7_J8) cw_X8_64 (zr_recv X hP (Nat.lt_of_lt_of_le (zk_306).2.1 hnJ) (zb_ceJo zk_306 (by decide)) rfl) rfl hl.1 (Nat.le_of_ble_eq_true rfl) ⟨Nat.le_of_ble_eq_true rfl, Nat.le_of_ble_eq_true rfl⟩ ⟨Nat.le_of_ble_eq_true rfl, Nat.le_of_ble_eq_true rfl⟩ dX8_levelWithout_48 rfl (fun H locs hP hS => ?_)
      obtain ⟨x9, ht, hf⟩ := pl_e hf
      have K2 : ∀ (H : Heap) (locs : List Loc) (ls : Array Slot), va_P g.1 vwCl (zb_ws g nc (zb_ce g I J8 O)) H → va_S (zb_A g) s.heap H locs → lv_has ls 3 [] → W p l e { frames := 3, cells := 0, slots := 0, locals := 70 } s m args below meth c H locs 0 0 (MQ below (zb_Po g nc (zb_ce g I Jq O) (some (.int r9))) args s 0 0 (zb_A g)) (F0 m 62 ls [.int x9]) := by
        intro H locs ls hP hS hl
        cases hf
        exact zr_iret X hr hP hS dX8_levelWithout_62
      have hf := ht
      refine lv_if_eq (tgt := 58) hx hb dX8_levelWithout_51 (by decide) (fun hc => ?_) (fun hc => ?_)
      · have hf := if_t hc hf
        refine lv_aload_n hx hb dX8_levelWithout_58 rfl (lv_at hl 0 rfl) ?_
        refine gf_X8_189 X hnJ hP zk_306 dX8_levelWithout_59 ?_
        cases hf
        exact K2 H locs ls hP hS (lv_sub hl [] rfl)
      · have hf := if_f hc hf
        refine lv_iconst (v := (0 : Int32)) hx hb dX8_levelWithout_54 (by decide) ?_
        refine lv_goto (tgt := 62) hx hb dX8_levelWithout_55 (by decide) ?_
        cases hf
        exact K2 H locs ls hP hS (lv_sub hl [] rfl)
    have hf := ht
    refine lv_if_ne (tgt := 46) hx hb dX8_levelWithout_39 (by decide) (fun hc => ?_) (fun hc => ?_)
    · have hf := if_f hc hf
      refine lv_iconst (v := (0 : Int32)) hx hb dX8_levelWithout_46 (by decide) ?_
      cases hf
      exact K1 H locs ls hP hS (lv_sub hl [0] rfl)
    · have hf := if_t hc hf
      refine lv_iconst (v := (1 : Int32)) hx hb dX8_levelWithout_42 (by decide) ?_
      refine lv_goto (tgt := 47) hx hb dX8_levelWithout_43 (by decide) ?_
      cases hf
      exact K1 H locs ls hP hS (lv_sub hl [0] rfl)
  · have hf := if_f hc hf
    refine lv_iconst (v := (0 : Int32)) hx hb dX8_levelWithout_13 (by decide) ?_
    cases hf
    exact zr_iret X hr hP hS dX8_levelWithout_14
set_option maxHeartbeats 4000000 in
set_option maxRecDepth 100000 in
theorem lpX8_needed_L24 {g : zb_G} {nc : Nat} (hnJ : 318 ≤ nc) (l : Launch) {a1 : Int32} {I O : Mem} {p : Program} {e : Env} {s : State} {m : MethodId} {args : Array Value} {below : List Frame} {meth : Method} {c : Code} {Q : State → Prop} (X : zb_X g p m c cX8_needed 4 s args RX8 meth) : ∀ {n9 : Nat} {a3 : Int32} {a2 : Int32} {J : Mem} {z2 : Int32} {Jz : Mem} {H : Heap} {locs : List Loc} {ls : Array Slot}, fX8_needed_L24 a1 n9 a3 a2 J = some (z2, Jz) → (∀ (H : Heap) (locs : List Loc) (ls : Array Slot), va_P g.1 vwCl (zb_ws g nc (zb_ce g I Jz O)) H → va_S (zb_A g) s.heap H locs → lv_has ls 4 [(2, .int z2)] → W p l e { frames := 3, cells := 0, slots := 0, locals := 70 } s m args below meth c H locs 0 0 Q (F0 m 86 ls [])) → va_P g.1 vwCl (zb_ws g nc (zb_ce g I J O)) H → va_S (zb_A g) s.heap H locs → lv_has ls 4 [(3, .int a3), (2, .int a2), (0, .ref (g.2.2 + 306)), (1, .int a1)] → W p l e { frames := 3, cells := 0, slots := 0, locals := 70 } s m args below meth c H locs 0 0 Q (F0 m 24 ls []) := by
  have hx := X.1.1
  have hb := X.1.2.1
  have ho := X.1.2.2.2.1
  have hts := X.1.2.2.2.2
  have hZ := X.2.2.2
  intro n9
  induction n9 with
  | zero =>
    intro a3 a2 J z2 Jz H locs ls hf
    exact nomatch hf
  | succ n9 ih =>
    intro a3 a2 J z2 Jz H locs ls hf KK hP hS hl
    rw [fX8_needed_L24] at hf
    refine lv_iload_n hx hb dX8_needed_24 rfl (lv_at hl 0 rfl) ?_
    refine lv_aload_n hx hb dX8_needed_25 rfl (lv_at hl 2 rfl) ?_
    refine gf_X8_7 X hnJ hP zk_306 dX8_needed_26 ?_
    refine lv_iconst (v := (0 : Int32)) hx hb dX8_needed_29 (by decide) ?_
    obtain ⟨x4, hx4, hf⟩ := ob_e hf
    refine zr_aldJ X hP hnJ zk_307 hx4 dX8_needed_30 ?_
    refine lv_icmp_ge (tgt := 86) hx hb dX8_needed_31 (by decide) (fun hc => ?_) (fun hc => ?_)
    · have hf := if_t hc hf
      cases hf
      exact KK H locs ls hP hS (lv_sub hl [1] rfl)
    · have hf := if_f hc hf
      refine lv_aload_n hx hb dX8_needed_34 rfl (lv_at hl 2 rfl) ?_
      refine lv_iload_n hx hb dX8_needed_35 rfl (lv_at hl 3 rfl) ?_
      refine lv_iconst (v := (0 : Int32)) hx hb dX8_needed_36 (by decide) ?_
      obtain ⟨x5, hx5, hf⟩ := ob_e hf
      refine zr_cVi (rest := []) (As := [.int a1, .int (0 : Int32)]) X hP hS (ct_X8_of (g := g) (nc := nc) (I := I) (J := J) (O := O) hnJ l  hx5) cw_X8_209 (zr_recv X hP (Nat.lt_of_lt_of_le (zk_306).2.1 hnJ) (zb_ceJo zk_306 (by decide)) rfl) rfl hl.1 (Nat.le_of_ble_eq_true rfl) ⟨Nat.le_of_ble_eq_true rfl, Nat.le_of_ble_eq_true rfl⟩ ⟨Nat.le_of_ble_eq_true rfl, Nat.le_of_ble_eq_true rfl⟩ dX8_needed_37 rfl (fun H locs hP hS => ?_)
      refine lv_iload_n hx hb dX8_needed_40 rfl (lv_at hl 0 rfl) ?_
      obtain ⟨x6, hx6, hf⟩ := ob_e hf
      refine zr_cSi (rest := []) (As := [.int x5, .int a3]) X hP hS (ct_X8_has (g := g) (nc := nc) (I := I) (J := J) (O := O)  l  hx6) cw_X8_176  rfl hl.1 (Nat.le_of_ble_eq_true rfl) ⟨Nat.le_of_ble_eq_true rfl, Nat.le_of_ble_eq_true rfl⟩ ⟨Nat.le_of_ble_eq_true rfl, Nat.le_of_ble_eq_true rfl⟩ dX8_needed_41 rfl (fun H locs hP hS => ?_)
      obtain ⟨x10, J11, ht, hf⟩ := ob2_e hf
      have K1 : ∀ (H : Heap) (locs : List Loc) (ls : Array Slot), va_P g.1 vwCl (zb_ws g nc (zb_ce g I J11 O)) H → va_S (zb_A g) s.heap H locs → lv_has ls 4 [(3, .int a3), (2, .int x10), (0, .ref (g.2.2 + 306)), (1, .int a1)] → W p l e { frames := 3, cells := 0, slots := 0, locals := 70 } s m args below meth c H locs 0 0 Q (F0 m 80 ls []) := by
        intro H locs ls hP hS hl
        refine lv_iinc (v := (a3 + (1 : Int32))) (lv' := [(3, .int (a3 + (1 : Int32))), (2, .int x10), (0, .ref (g.2.2 + 306)), (1, .int a1)]) hx hb dX8_needed_80 hl (k := 0) rfl rfl (by decide) rfl (fun ls hl => ?_)
        refine lv_goto (tgt := 24) hx hb dX8_needed_83 (by decide) ?_
        exact ih hf KK hP hS (lv_sub hl [0, 1, 2, 3] rfl)
      have hf := ht
      refine lv_if_eq (tgt := 80) hx hb dX8_needed_44 (by decide) (fun hc => ?_) (fun hc => ?_)
      · have hf := if_t hc hf
        cases hf
        exact K1 H locs ls hP hS (lv_sub hl [0, 1, 2, 3] rfl)
      · have hf := if_f hc hf
        refine lv_aload_n hx hb dX8_needed_47 rfl (lv_at hl 2 rfl) ?_
        refine lv_aload_n hx hb dX8_needed_48 rfl (lv_at hl 2 rfl) ?_
        refine lv_iload_n hx hb dX8_needed_49 rfl (lv_at hl 3 rfl) ?_
        refine lv_iconst (v := (0 : Int32)) hx hb dX8_needed_50 (by decide) ?_
        obtain ⟨x7, hx7, hf⟩ := ob_e hf
        refine zr_cVi (rest := [.ref (g.2.2 + 306)]) (As := [.int a1, .int (0 : Int32)]) X hP hS (ct_X8_of (g := g) (nc := nc) (I := I) (J := J) (O := O) hnJ l  hx7) cw_X8_209 (zr_recv X hP (Nat.lt_of_lt_of_le (zk_306).2.1 hnJ) (zb_ceJo zk_306 (by decide)) rfl) rfl hl.1 (Nat.le_of_ble_eq_true rfl) ⟨Nat.le_of_ble_eq_true rfl, Nat.le_of_ble_eq_true rfl⟩ ⟨Nat.le_of_ble_eq_true rfl, Nat.le_of_ble_eq_true rfl⟩ dX8_needed_51 rfl (fun H locs hP hS => ?_)
        refine lv_iconst (v := (1 : Int32)) hx hb dX8_needed_54 (by decide) ?_
        refine lv_iload_n hx hb dX8_needed_55 rfl (lv_at hl 0 rfl) ?_
        refine lv_ishl hx hb dX8_needed_56 ?_
        refine lv_iconst (v := (-1 : Int32)) hx hb dX8_needed_57 (by decide) ?_
        refine lv_ixor hx hb dX8_needed_58 ?_
        refine lv_iand hx hb dX8_needed_59 ?_
        obtain ⟨J8, hJ8, hf⟩ := ob_e hf
        refine zr_cVv (rest := []) (As := [.int (x7 &&& (((1 : Int32) <<< (a3 &&& 31)) ^^^ (-1 : Int32)))]) X hP hS (ct_X8_tells (g := g) (nc := nc) (I := I) (J := J) (O := O) hnJ l  hJ8) cw_X8_219 (zr_recv X hP (Nat.lt_of_lt_of_le (zk_306).2.1 hnJ) (zb_ceJo zk_306 (by decide)) rfl) rfl hl.1 (Nat.le_of_ble_eq_true rfl) ⟨Nat.le_of_ble_eq_true rfl, Nat.le_of_ble_eq_true rfl⟩ ⟨Nat.le_of_ble_eq_true rfl, Nat.le_of_ble_eq_true rfl⟩ dX8_needed_60 rfl (fun H locs hP hS => ?_)
        refine lv_iload_n hx hb dX8_needed_63 rfl (lv_at hl 1 rfl) ?_
        refine lv_aload_n hx hb dX8_needed_64 rfl (lv_at hl 2 rfl) ?_
        refine gf_X8_185 X hnJ hP zk_306 dX8_needed_65 ?_
        obtain ⟨x9, ht, hf⟩ := pl_e hf
        have K2 : ∀ (H : Heap) (locs : List Loc) (ls : Array Slot), va_P g.1 vwCl (zb_ws g nc (zb_ce g I J8 O)) H → va_S (zb_A g) s.heap H locs → lv_has ls 4 [(3, .int a3), (0, .ref (g.2.2 + 306)), (1, .int a1)] → W p l e { frames := 3, cells := 0, slots := 0, locals := 70 } s m args below meth c H locs 0 0 Q (F0 m 78 ls [.int x9, .int a2]) := by
          intro H locs ls hP hS hl
          refine lv_ior hx hb dX8_needed_78 ?_
          refine lv_istore_n (lv' := [(2, .int (a2 ||| x9)), (3, .int a3), (0, .ref (g.2.2 + 306)), (1, .int a1)]) hx hb dX8_needed_79 rfl hl (by decide) rfl (fun ls hl => ?_)
          cases hf
          exact K1 H locs ls hP hS (lv_sub hl [1, 0, 2, 3] rfl)
        have hf := ht
        refine lv_if_eq (tgt := 75) hx hb dX8_needed_68 (by decide) (fun hc => ?_) (fun hc => ?_)
        · have hf := if_t hc hf
          refine lv_iconst (v := (1 : Int32)) hx hb dX8_needed_75 (by decide) ?_
          refine lv_iload_n hx hb dX8_needed_76 rfl (lv_at hl 0 rfl) ?_
          refine lv_ishl hx hb dX8_needed_77 ?_
          cases hf
          exact K2 H locs ls hP hS (lv_sub hl [0, 2, 3] rfl)
        · have hf := if_f hc hf
          refine lv_iconst (v := (0 : Int32)) hx hb dX8_needed_71 (by decide) ?_
          refine lv_goto (tgt := 78) hx hb dX8_needed_72 (by decide) ?_
          cases hf
          exact K2 H locs ls hP hS (lv_sub hl [0, 2, 3] rfl)
set_option maxHeartbeats 4000000 in
set_option maxRecDepth 100000 in
theorem ct_X8_needed {g : zb_G} {nc : Nat} (hnJ : 318 ≤ nc) (l : Launch) {a1 : Int32} {I J O : Mem} {r9 : Int32} {Jq : Mem} (hf : fX8_needed a1 J = some (r9, Jq)) : zb_Ct l g nc yX8_needed cX8_needed 4 (some .int) 3 70 [.ref (g.2.2 + 306), .int a1] (zb_ce g I J O) (some (.int r9)) (zb_ce g I Jq O) := by
  refine zb_ofW (own := RX8) (by decide +kernel) rfl (Nat.le_of_ble_eq_true rfl) ?_
  intro p e s m args below meth c ls X hr hP hl
  have hx := X.1.1
  have hb := X.1.2.1
  have ho := X.1.2.2.2.1
  have hts := X.1.2.2.2.2
  have hZ := X.2.2.2
  have hl : lv_has ls 4 [(0, .ref (g.2.2 + 306)), (1, .int a1)] := hl
  have hS : va_S (zb_A g) s.heap s.heap [] := va_S.rf
  obtain ⟨H, hH⟩ : ∃ H, H = s.heap := ⟨_, rfl⟩
  obtain ⟨locs, hlocs⟩ : ∃ z : List Loc, z = [] := ⟨_, rfl⟩
  rw [← hH] at hP
  have hS : va_S (zb_A g) s.heap H locs := by rw [hH, hlocs]; exact hS
  show W p l e _ s m args below meth c s.heap [] 0 0 _ _
  rw [← hH, ← hlocs]
  rw [fX8_needed] at hf
  refine lv_aload_n hx hb dX8_needed_0 rfl (lv_at hl 0 rfl) ?_
  refine lv_iconst (v := (0 : Int32)) hx hb dX8_needed_1 (by decide) ?_
  refine pf_X8_57 X hnJ hP hS zk_306 dX8_needed_2 (fun H locs hP hS => ?_)
  refine lv_aload_n hx hb dX8_needed_5 rfl (lv_at hl 0 rfl) ?_
  refine lv_iload_n hx hb dX8_needed_6 rfl (lv_at hl 1 rfl) ?_
  obtain ⟨x1, J2, hx1_J2, hf⟩ := ob2_e hf
  refine zr_cVi (rest := []) (As := [.int a1]) X hP hS (ct_X8_noHour (g := g) (nc := nc) (I := I) (J := (wr J 306 0 (0 : Int32))) (O := O) hnJ l  hx1_J2) cw_X8_264 (zr_recv X hP (Nat.lt_of_lt_of_le (zk_306).2.1 hnJ) (zb_ceJo zk_306 (by decide)) rfl) rfl hl.1 (Nat.le_of_ble_eq_true rfl) ⟨Nat.le_of_ble_eq_true rfl, Nat.le_of_ble_eq_true rfl⟩ ⟨Nat.le_of_ble_eq_true rfl, Nat.le_of_ble_eq_true rfl⟩ dX8_needed_7 rfl (fun H locs hP hS => ?_)
  refine lv_if_eq (tgt := 15) hx hb dX8_needed_10 (by decide) (fun hc => ?_) (fun hc => ?_)
  · have hf := if_t hc hf
    refine lv_iconst (v := (0 : Int32)) hx hb dX8_needed_15 (by decide) ?_
    refine lv_istore_n (lv' := [(2, .int (0 : Int32)), (0, .ref (g.2.2 + 306)), (1, .int a1)]) hx hb dX8_needed_16 rfl hl (by decide) rfl (fun ls hl => ?_)
    refine lv_aload_n hx hb dX8_needed_17 rfl (lv_at hl 1 rfl) ?_
    refine lv_iload_n hx hb dX8_needed_18 rfl (lv_at hl 2 rfl) ?_
    obtain ⟨J3, hJ3, hf⟩ := ob_e hf
    refine zr_cVv (rest := []) (As := [.int a1]) X hP hS (ct_X8_laysValues (g := g) (nc := nc) (I := I) (J := J2) (O := O) hnJ l  hJ3) cw_X8_216 (zr_recv X hP (Nat.lt_of_lt_of_le (zk_306).2.1 hnJ) (zb_ceJo zk_306 (by decide)) rfl) rfl hl.1 (Nat.le_of_ble_eq_true rfl) ⟨Nat.le_of_ble_eq_true rfl, Nat.le_of_ble_eq_true rfl⟩ ⟨Nat.le_of_ble_eq_true rfl, Nat.le_of_ble_eq_true rfl⟩ dX8_needed_19 rfl (fun H locs hP hS => ?_)
    refine lv_iconst (v := (0 : Int32)) hx hb dX8_needed_22 (by decide) ?_
    refine lv_istore_n (lv' := [(3, .int (0 : Int32)), (2, .int (0 : Int32)), (0, .ref (g.2.2 + 306)), (1, .int a1)]) hx hb dX8_needed_23 rfl hl (by decide) rfl (fun ls hl => ?_)
    obtain ⟨x12, J13, hx12_J13, hf⟩ := ob2_e hf
    have K3 : ∀ (H : Heap) (locs : List Loc) (ls : Array Slot), va_P g.1 vwCl (zb_ws g nc (zb_ce g I J13 O)) H → va_S (zb_A g) s.heap H locs → lv_has ls 4 [(2, .int x12)] → W p l e { frames := 3, cells := 0, slots := 0, locals := 70 } s m args below meth c H locs 0 0 (MQ below (zb_Po g nc (zb_ce g I Jq O) (some (.int r9))) args s 0 0 (zb_A g)) (F0 m 86 ls []) := by
      intro H locs ls hP hS hl
      refine lv_iload_n hx hb dX8_needed_86 rfl (lv_at hl 0 rfl) ?_
      cases hf
      exact zr_iret X hr hP hS dX8_needed_87
    exact lpX8_needed_L24 hnJ l  X hx12_J13 K3 hP hS (lv_sub hl [0, 1, 2, 3] rfl)
  · have hf := if_f hc hf
    refine lv_iconst (v := (0 : Int32)) hx hb dX8_needed_13 (by decide) ?_
    cases hf
    exact zr_iret X hr hP hS dX8_needed_14
set_option maxHeartbeats 4000000 in
set_option maxRecDepth 100000 in
theorem lpX8_lastOf_L2 {g : zb_G} {nc : Nat} (hnJ : 318 ≤ nc) (l : Launch) {a2 : Int32} {I O : Mem} {p : Program} {e : Env} {s : State} {m : MethodId} {args : Array Value} {below : List Frame} {meth : Method} {c : Code} {Q : State → Prop} (X : zb_X g p m c cX8_lastOf 4 s args RX8 meth) : ∀ {n9 : Nat} {a3 : Int32} {J : Mem} {z3 : Int32} {H : Heap} {locs : List Loc} {ls : Array Slot}, fX8_lastOf_L2 a2 n9 a3 J = some z3 → (∀ (H : Heap) (locs : List Loc) (ls : Array Slot), va_P g.1 vwCl (zb_ws g nc (zb_ce g I J O)) H → va_S (zb_A g) s.heap H locs → lv_has ls 4 [(3, .int z3)] → W p l e { frames := 1, cells := 0, slots := 0, locals := 21 } s m args below meth c H locs 0 0 Q (F0 m 28 ls [])) → va_P g.1 vwCl (zb_ws g nc (zb_ce g I J O)) H → va_S (zb_A g) s.heap H locs → lv_has ls 4 [(3, .int a3), (0, .ref (g.2.2 + 306)), (2, .int a2)] → W p l e { frames := 1, cells := 0, slots := 0, locals := 21 } s m args below meth c H locs 0 0 Q (F0 m 2 ls []) := by
  have hx := X.1.1
  have hb := X.1.2.1
  have ho := X.1.2.2.2.1
  have hts := X.1.2.2.2.2
  have hZ := X.2.2.2
  intro n9
  induction n9 with
  | zero =>
    intro a3 J z3 H locs ls hf
    exact nomatch hf
  | succ n9 ih =>
    intro a3 J z3 H locs ls hf KK hP hS hl
    rw [fX8_lastOf_L2] at hf
    refine lv_iload_n hx hb dX8_lastOf_2 rfl (lv_at hl 0 rfl) ?_
    refine lv_iconst (v := (1 : Int32)) hx hb dX8_lastOf_3 (by decide) ?_
    refine lv_iadd hx hb dX8_lastOf_4 ?_
    refine lv_aload_n hx hb dX8_lastOf_5 rfl (lv_at hl 1 rfl) ?_
    refine gf_X8_7 X hnJ hP zk_306 dX8_lastOf_6 ?_
    refine lv_iconst (v := (0 : Int32)) hx hb dX8_lastOf_9 (by decide) ?_
    obtain ⟨x1, hx1, hf⟩ := ob_e hf
    refine zr_aldJ X hP hnJ zk_307 hx1 dX8_lastOf_10 ?_
    refine lv_icmp_ge (tgt := 28) hx hb dX8_lastOf_11 (by decide) (fun hc => ?_) (fun hc => ?_)
    · have hf := if_t hc hf
      cases hf
      exact KK H locs ls hP hS (lv_sub hl [0] rfl)
    · have hf := if_f hc hf
      refine lv_iload_n hx hb dX8_lastOf_14 rfl (lv_at hl 2 rfl) ?_
      refine lv_iload_n hx hb dX8_lastOf_15 rfl (lv_at hl 0 rfl) ?_
      obtain ⟨x2, hx2, hf⟩ := ob_e hf
      refine zr_cSi (rest := []) (As := [.int a2, .int a3]) X hP hS (ct_X8_has (g := g) (nc := nc) (I := I) (J := J) (O := O)  l  hx2) cw_X8_176  rfl hl.1 (Nat.le_of_ble_eq_true rfl) ⟨Nat.le_of_ble_eq_true rfl, Nat.le_of_ble_eq_true rfl⟩ ⟨Nat.le_of_ble_eq_true rfl, Nat.le_of_ble_eq_true rfl⟩ dX8_lastOf_16 rfl (fun H locs hP hS => ?_)
      refine lv_if_ne (tgt := 28) hx hb dX8_lastOf_19 (by decide) (fun hc => ?_) (fun hc => ?_)
      · have hf := if_f hc hf
        cases hf
        exact KK H locs ls hP hS (lv_sub hl [0] rfl)
      · have hf := if_t hc hf
        refine lv_iinc (v := (a3 + (1 : Int32))) (lv' := [(3, .int (a3 + (1 : Int32))), (0, .ref (g.2.2 + 306)), (2, .int a2)]) hx hb dX8_lastOf_22 hl (k := 0) rfl rfl (by decide) rfl (fun ls hl => ?_)
        refine lv_goto (tgt := 2) hx hb dX8_lastOf_25 (by decide) ?_
        exact ih hf KK hP hS (lv_sub hl [0, 1, 2] rfl)
set_option maxHeartbeats 4000000 in
set_option maxRecDepth 100000 in
theorem ct_X8_lastOf {g : zb_G} {nc : Nat} (hnJ : 318 ≤ nc) (l : Launch) {a1 : Int32} {a2 : Int32} {I J O : Mem} {r9 : Int32} (hf : fX8_lastOf a1 a2 J = some r9) : zb_Ct l g nc yX8_lastOf cX8_lastOf 4 (some .int) 1 21 [.ref (g.2.2 + 306), .int a1, .int a2] (zb_ce g I J O) (some (.int r9)) (zb_ce g I J O) := by
  refine zb_ofW (own := RX8) (by decide +kernel) rfl (Nat.le_of_ble_eq_true rfl) ?_
  intro p e s m args below meth c ls X hr hP hl
  have hx := X.1.1
  have hb := X.1.2.1
  have ho := X.1.2.2.2.1
  have hts := X.1.2.2.2.2
  have hZ := X.2.2.2
  have hl : lv_has ls 4 [(0, .ref (g.2.2 + 306)), (1, .int a1), (2, .int a2)] := hl
  have hS : va_S (zb_A g) s.heap s.heap [] := va_S.rf
  obtain ⟨H, hH⟩ : ∃ H, H = s.heap := ⟨_, rfl⟩
  obtain ⟨locs, hlocs⟩ : ∃ z : List Loc, z = [] := ⟨_, rfl⟩
  rw [← hH] at hP
  have hS : va_S (zb_A g) s.heap H locs := by rw [hH, hlocs]; exact hS
  show W p l e _ s m args below meth c s.heap [] 0 0 _ _
  rw [← hH, ← hlocs]
  rw [fX8_lastOf] at hf
  refine lv_iload_n hx hb dX8_lastOf_0 rfl (lv_at hl 1 rfl) ?_
  refine lv_istore_n (lv' := [(3, .int a1), (0, .ref (g.2.2 + 306)), (1, .int a1), (2, .int a2)]) hx hb dX8_lastOf_1 rfl hl (by decide) rfl (fun ls hl => ?_)
  obtain ⟨x3, hx3, hf⟩ := ob_e hf
  have K1 : ∀ (H : Heap) (locs : List Loc) (ls : Array Slot), va_P g.1 vwCl (zb_ws g nc (zb_ce g I J O)) H → va_S (zb_A g) s.heap H locs → lv_has ls 4 [(3, .int x3)] → W p l e { frames := 1, cells := 0, slots := 0, locals := 21 } s m args below meth c H locs 0 0 (MQ below (zb_Po g nc (zb_ce g I J O) (some (.int r9))) args s 0 0 (zb_A g)) (F0 m 28 ls []) := by
    intro H locs ls hP hS hl
    refine lv_iload_n hx hb dX8_lastOf_28 rfl (lv_at hl 0 rfl) ?_
    cases hf
    exact zr_iret X hr hP hS dX8_lastOf_29
  exact lpX8_lastOf_L2 hnJ l  X hx3 K1 hP hS (lv_sub hl [0, 1, 3] rfl)
set_option maxHeartbeats 4000000 in
set_option maxRecDepth 100000 in
theorem ct_X8_setOf {g : zb_G} {nc : Nat} (l : Launch) {a0 : Int32} {a1 : Int32} {I J O : Mem} {r9 : Int32} (hf : fX8_setOf a0 a1 = some r9) : zb_Ct l g nc yX8_setOf cX8_setOf 2 (some .int) 0 0 [.int a0, .int a1] (zb_ce g I J O) (some (.int r9)) (zb_ce g I J O) := by
  refine zb_ofW (own := RX8) (by decide +kernel) rfl (Nat.le_of_ble_eq_true rfl) ?_
  intro p e s m args below meth c ls X hr hP hl
  have hx := X.1.1
  have hb := X.1.2.1
  have ho := X.1.2.2.2.1
  have hts := X.1.2.2.2.2
  have hZ := X.2.2.2
  have hl : lv_has ls 2 [(0, .int a0), (1, .int a1)] := hl
  have hS : va_S (zb_A g) s.heap s.heap [] := va_S.rf
  obtain ⟨H, hH⟩ : ∃ H, H = s.heap := ⟨_, rfl⟩
  obtain ⟨locs, hlocs⟩ : ∃ z : List Loc, z = [] := ⟨_, rfl⟩
  rw [← hH] at hP
  have hS : va_S (zb_A g) s.heap H locs := by rw [hH, hlocs]; exact hS
  show W p l e _ s m args below meth c s.heap [] 0 0 _ _
  rw [← hH, ← hlocs]
  rw [fX8_setOf] at hf
  refine lv_iconst (v := (1 : Int32)) hx hb dX8_setOf_0 (by decide) ?_
  refine lv_iload_n hx hb dX8_setOf_1 rfl (lv_at hl 1 rfl) ?_
  refine lv_iconst (v := (1 : Int32)) hx hb dX8_setOf_2 (by decide) ?_
  refine lv_iadd hx hb dX8_setOf_3 ?_
  refine lv_ishl hx hb dX8_setOf_4 ?_
  refine lv_iconst (v := (1 : Int32)) hx hb dX8_setOf_5 (by decide) ?_
  refine lv_iload_n hx hb dX8_setOf_6 rfl (lv_at hl 0 rfl) ?_
  refine lv_ishl hx hb dX8_setOf_7 ?_
  refine lv_isub hx hb dX8_setOf_8 ?_
  cases hf
  exact zr_iret X hr hP hS dX8_setOf_9
set_option maxHeartbeats 4000000 in
set_option maxRecDepth 100000 in
theorem lpX8_holds_L5 {g : zb_G} {nc : Nat} (hnJ : 318 ≤ nc) (l : Launch) {a2 : Int32} {I O : Mem} {p : Program} {e : Env} {s : State} {m : MethodId} {args : Array Value} {below : List Frame} {meth : Method} {c : Code} {Q : State → Prop} (X : zb_X g p m c cX8_holds 5 s args RX8 meth) : ∀ {n9 : Nat} {a4 : Int32} {a3 : Int32} {J : Mem} {z3 : Int32} {H : Heap} {locs : List Loc} {ls : Array Slot}, fX8_holds_L5 a2 n9 a4 a3 J = some z3 → (∀ (H : Heap) (locs : List Loc) (ls : Array Slot), va_P g.1 vwCl (zb_ws g nc (zb_ce g I J O)) H → va_S (zb_A g) s.heap H locs → lv_has ls 5 [(3, .int z3)] → W p l e { frames := 0, cells := 0, slots := 0, locals := 0 } s m args below meth c H locs 0 0 Q (F0 m 30 ls [])) → va_P g.1 vwCl (zb_ws g nc (zb_ce g I J O)) H → va_S (zb_A g) s.heap H locs → lv_has ls 5 [(4, .int a4), (3, .int a3), (0, .ref (g.2.2 + 306)), (2, .int a2)] → W p l e { frames := 0, cells := 0, slots := 0, locals := 0 } s m args below meth c H locs 0 0 Q (F0 m 5 ls []) := by
  have hx := X.1.1
  have hb := X.1.2.1
  have ho := X.1.2.2.2.1
  have hts := X.1.2.2.2.2
  have hZ := X.2.2.2
  intro n9
  induction n9 with
  | zero =>
    intro a4 a3 J z3 H locs ls hf
    exact nomatch hf
  | succ n9 ih =>
    intro a4 a3 J z3 H locs ls hf KK hP hS hl
    rw [fX8_holds_L5] at hf
    refine lv_iload hx hb dX8_holds_5 (lv_at hl 0 rfl) ?_
    refine lv_iload_n hx hb dX8_holds_7 rfl (lv_at hl 3 rfl) ?_
    refine lv_icmp_gt (tgt := 30) hx hb dX8_holds_8 (by decide) (fun hc => ?_) (fun hc => ?_)
    · have hf := if_t hc hf
      cases hf
      exact KK H locs ls hP hS (lv_sub hl [1] rfl)
    · have hf := if_f hc hf
      refine lv_iload_n hx hb dX8_holds_11 rfl (lv_at hl 1 rfl) ?_
      refine lv_aload_n hx hb dX8_holds_12 rfl (lv_at hl 2 rfl) ?_
      refine gf_X8_7 X hnJ hP zk_306 dX8_holds_13 ?_
      refine lv_bipush (v := (32 : Int32)) hx hb dX8_holds_16 (by decide) ?_
      refine lv_iload hx hb dX8_holds_18 (lv_at hl 0 rfl) ?_
      refine lv_iadd hx hb dX8_holds_20 ?_
      obtain ⟨x1, hx1, hf⟩ := ob_e hf
      refine zr_aldJ X hP hnJ zk_307 hx1 dX8_holds_21 ?_
      refine lv_iadd hx hb dX8_holds_22 ?_
      refine lv_istore_n (lv' := [(3, .int (a3 + x1)), (4, .int a4), (0, .ref (g.2.2 + 306)), (2, .int a2)]) hx hb dX8_holds_23 rfl hl (by decide) rfl (fun ls hl => ?_)
      refine lv_iinc (v := (a4 + (1 : Int32))) (lv' := [(4, .int (a4 + (1 : Int32))), (3, .int (a3 + x1)), (0, .ref (g.2.2 + 306)), (2, .int a2)]) hx hb dX8_holds_24 hl (k := 1) rfl rfl (by decide) rfl (fun ls hl => ?_)
      refine lv_goto (tgt := 5) hx hb dX8_holds_27 (by decide) ?_
      exact ih hf KK hP hS (lv_sub hl [0, 1, 2, 3] rfl)
set_option maxHeartbeats 4000000 in
set_option maxRecDepth 100000 in
theorem ct_X8_holds {g : zb_G} {nc : Nat} (hnJ : 318 ≤ nc) (l : Launch) {a1 : Int32} {a2 : Int32} {I J O : Mem} {r9 : Int32} (hf : fX8_holds a1 a2 J = some r9) : zb_Ct l g nc yX8_holds cX8_holds 5 (some .int) 0 0 [.ref (g.2.2 + 306), .int a1, .int a2] (zb_ce g I J O) (some (.int r9)) (zb_ce g I J O) := by
  refine zb_ofW (own := RX8) (by decide +kernel) rfl (Nat.le_of_ble_eq_true rfl) ?_
  intro p e s m args below meth c ls X hr hP hl
  have hx := X.1.1
  have hb := X.1.2.1
  have ho := X.1.2.2.2.1
  have hts := X.1.2.2.2.2
  have hZ := X.2.2.2
  have hl : lv_has ls 5 [(0, .ref (g.2.2 + 306)), (1, .int a1), (2, .int a2)] := hl
  have hS : va_S (zb_A g) s.heap s.heap [] := va_S.rf
  obtain ⟨H, hH⟩ : ∃ H, H = s.heap := ⟨_, rfl⟩
  obtain ⟨locs, hlocs⟩ : ∃ z : List Loc, z = [] := ⟨_, rfl⟩
  rw [← hH] at hP
  have hS : va_S (zb_A g) s.heap H locs := by rw [hH, hlocs]; exact hS
  show W p l e _ s m args below meth c s.heap [] 0 0 _ _
  rw [← hH, ← hlocs]
  rw [fX8_holds] at hf
  refine lv_iconst (v := (0 : Int32)) hx hb dX8_holds_0 (by decide) ?_
  refine lv_istore_n (lv' := [(3, .int (0 : Int32)), (0, .ref (g.2.2 + 306)), (1, .int a1), (2, .int a2)]) hx hb dX8_holds_1 rfl hl (by decide) rfl (fun ls hl => ?_)
  refine lv_iload_n hx hb dX8_holds_2 rfl (lv_at hl 2 rfl) ?_
  refine lv_istore (lv' := [(4, .int a1), (3, .int (0 : Int32)), (0, .ref (g.2.2 + 306)), (1, .int a1), (2, .int a2)]) hx hb dX8_holds_3 hl (by decide) rfl (fun ls hl => ?_)
  obtain ⟨x2, hx2, hf⟩ := ob_e hf
  have K1 : ∀ (H : Heap) (locs : List Loc) (ls : Array Slot), va_P g.1 vwCl (zb_ws g nc (zb_ce g I J O)) H → va_S (zb_A g) s.heap H locs → lv_has ls 5 [(3, .int x2)] → W p l e { frames := 0, cells := 0, slots := 0, locals := 0 } s m args below meth c H locs 0 0 (MQ below (zb_Po g nc (zb_ce g I J O) (some (.int r9))) args s 0 0 (zb_A g)) (F0 m 30 ls []) := by
    intro H locs ls hP hS hl
    refine lv_iload_n hx hb dX8_holds_30 rfl (lv_at hl 0 rfl) ?_
    cases hf
    exact zr_iret X hr hP hS dX8_holds_31
  exact lpX8_holds_L5 hnJ l  X hx2 K1 hP hS (lv_sub hl [0, 1, 2, 4] rfl)
set_option maxHeartbeats 4000000 in
set_option maxRecDepth 100000 in
theorem ct_X8_segments {g : zb_G} {nc : Nat} (hnJ : 318 ≤ nc) (l : Launch) {I J O : Mem} {r9 : Int32} {Jq : Mem} (hf : fX8_segments J = some (r9, Jq)) : zb_Ct l g nc yX8_segments cX8_segments 1 (some .int) 1 22 [.ref (g.2.2 + 306)] (zb_ce g I J O) (some (.int r9)) (zb_ce g I Jq O) := by
  refine zb_ofW (own := RX8) (by decide +kernel) rfl (Nat.le_of_ble_eq_true rfl) ?_
  intro p e s m args below meth c ls X hr hP hl
  have hx := X.1.1
  have hb := X.1.2.1
  have ho := X.1.2.2.2.1
  have hts := X.1.2.2.2.2
  have hZ := X.2.2.2
  have hl : lv_has ls 1 [(0, .ref (g.2.2 + 306))] := hl
  have hS : va_S (zb_A g) s.heap s.heap [] := va_S.rf
  obtain ⟨H, hH⟩ : ∃ H, H = s.heap := ⟨_, rfl⟩
  obtain ⟨locs, hlocs⟩ : ∃ z : List Loc, z = [] := ⟨_, rfl⟩
  rw [← hH] at hP
  have hS : va_S (zb_A g) s.heap H locs := by rw [hH, hlocs]; exact hS
  show W p l e _ s m args below meth c s.heap [] 0 0 _ _
  rw [← hH, ← hlocs]
  rw [fX8_segments] at hf
  refine lv_aload_n hx hb dX8_segments_0 rfl (lv_at hl 0 rfl) ?_
  refine lv_iconst (v := (0 : Int32)) hx hb dX8_segments_1 (by decide) ?_
  refine pf_X8_57 X hnJ hP hS zk_306 dX8_segments_2 (fun H locs hP hS => ?_)
  refine lv_aload_n hx hb dX8_segments_5 rfl (lv_at hl 0 rfl) ?_
  obtain ⟨x1, hx1, hf⟩ := ob_e hf
  refine zr_cVi (rest := []) (As := []) X hP hS (ct_X8_brokenSet (g := g) (nc := nc) (I := I) (J := (wr J 306 0 (0 : Int32))) (O := O) hnJ l  hx1) cw_X8_249 (zr_recv X hP (Nat.lt_of_lt_of_le (zk_306).2.1 hnJ) (zb_ceJo zk_306 (by decide)) rfl) rfl hl.1 (Nat.le_of_ble_eq_true rfl) ⟨Nat.le_of_ble_eq_true rfl, Nat.le_of_ble_eq_true rfl⟩ ⟨Nat.le_of_ble_eq_true rfl, Nat.le_of_ble_eq_true rfl⟩ dX8_segments_6 rfl (fun H locs hP hS => ?_)
  obtain ⟨x2, hx2, hf⟩ := ob_e hf
  refine zr_cSi (rest := []) (As := [.int x1]) X hP hS (ct_X8_bits (g := g) (nc := nc) (I := I) (J := (wr J 306 0 (0 : Int32))) (O := O)  l  hx2) cw_X8_243  rfl hl.1 (Nat.le_of_ble_eq_true rfl) ⟨Nat.le_of_ble_eq_true rfl, Nat.le_of_ble_eq_true rfl⟩ ⟨Nat.le_of_ble_eq_true rfl, Nat.le_of_ble_eq_true rfl⟩ dX8_segments_9 rfl (fun H locs hP hS => ?_)
  refine lv_iconst (v := (1 : Int32)) hx hb dX8_segments_12 (by decide) ?_
  refine lv_iadd hx hb dX8_segments_13 ?_
  cases hf
  exact zr_iret X hr hP hS dX8_segments_14
set_option maxHeartbeats 4000000 in
set_option maxRecDepth 100000 in
theorem lpX8_segmentOf_L17 {g : zb_G} {nc : Nat} (hnJ : 318 ≤ nc) (l : Launch) {a1 : Int32} {I O : Mem} {p : Program} {e : Env} {s : State} {m : MethodId} {args : Array Value} {below : List Frame} {meth : Method} {c : Code} {Q : State → Prop} (X : zb_X g p m c cX8_segmentOf 3 s args RX8 meth) : ∀ {n9 : Nat} {a2 : Int32} {J : Mem} {z2 : Int32} {H : Heap} {locs : List Loc} {ls : Array Slot}, fX8_segmentOf_L17 a1 n9 a2 J = some z2 → (∀ (H : Heap) (locs : List Loc) (ls : Array Slot), va_P g.1 vwCl (zb_ws g nc (zb_ce g I J O)) H → va_S (zb_A g) s.heap H locs → lv_has ls 3 [(2, .int z2), (0, .ref (g.2.2 + 306)), (1, .int a1)] → W p l e { frames := 2, cells := 0, slots := 0, locals := 44 } s m args below meth c H locs 0 0 Q (F0 m 42 ls [])) → va_P g.1 vwCl (zb_ws g nc (zb_ce g I J O)) H → va_S (zb_A g) s.heap H locs → lv_has ls 3 [(2, .int a2), (0, .ref (g.2.2 + 306)), (1, .int a1)] → W p l e { frames := 2, cells := 0, slots := 0, locals := 44 } s m args below meth c H locs 0 0 Q (F0 m 17 ls []) := by
  have hx := X.1.1
  have hb := X.1.2.1
  have ho := X.1.2.2.2.1
  have hts := X.1.2.2.2.2
  have hZ := X.2.2.2
  intro n9
  induction n9 with
  | zero =>
    intro a2 J z2 H locs ls hf
    exact nomatch hf
  | succ n9 ih =>
    intro a2 J z2 H locs ls hf KK hP hS hl
    rw [fX8_segmentOf_L17] at hf
    refine lv_iload_n hx hb dX8_segmentOf_17 rfl (lv_at hl 0 rfl) ?_
    refine lv_if_le (tgt := 42) hx hb dX8_segmentOf_18 (by decide) (fun hc => ?_) (fun hc => ?_)
    · have hf := if_t hc hf
      cases hf
      exact KK H locs ls hP hS (lv_sub hl [0, 1, 2] rfl)
    · have hf := if_f hc hf
      refine lv_aload_n hx hb dX8_segmentOf_21 rfl (lv_at hl 1 rfl) ?_
      refine gf_X8_7 X hnJ hP zk_306 dX8_segmentOf_22 ?_
      refine lv_sipush (v := (132 : Int32)) hx hb dX8_segmentOf_25 (by decide) ?_
      refine lv_iload_n hx hb dX8_segmentOf_28 rfl (lv_at hl 0 rfl) ?_
      refine lv_iadd hx hb dX8_segmentOf_29 ?_
      refine lv_iconst (v := (1 : Int32)) hx hb dX8_segmentOf_30 (by decide) ?_
      refine lv_isub hx hb dX8_segmentOf_31 ?_
      obtain ⟨x3, hx3, hf⟩ := ob_e hf
      refine zr_aldJ X hP hnJ zk_307 hx3 dX8_segmentOf_32 ?_
      refine lv_if_ne (tgt := 42) hx hb dX8_segmentOf_33 (by decide) (fun hc => ?_) (fun hc => ?_)
      · have hf := if_f hc hf
        cases hf
        exact KK H locs ls hP hS (lv_sub hl [0, 1, 2] rfl)
      · have hf := if_t hc hf
        refine lv_iinc (v := (a2 + (-1 : Int32))) (lv' := [(2, .int (a2 + (-1 : Int32))), (0, .ref (g.2.2 + 306)), (1, .int a1)]) hx hb dX8_segmentOf_36 hl (k := 0) rfl rfl (by decide) rfl (fun ls hl => ?_)
        refine lv_goto (tgt := 17) hx hb dX8_segmentOf_39 (by decide) ?_
        exact ih hf KK hP hS (lv_sub hl [0, 1, 2] rfl)
set_option maxHeartbeats 4000000 in
set_option maxRecDepth 100000 in
theorem ct_X8_segmentOf {g : zb_G} {nc : Nat} (hnJ : 318 ≤ nc) (l : Launch) {a1 : Int32} {I J O : Mem} {r9 : Int32} {Jq : Mem} (hf : fX8_segmentOf a1 J = some (r9, Jq)) : zb_Ct l g nc yX8_segmentOf cX8_segmentOf 3 (some .int) 2 44 [.ref (g.2.2 + 306), .int a1] (zb_ce g I J O) (some (.int r9)) (zb_ce g I Jq O) := by
  refine zb_ofW (own := RX8) (by decide +kernel) rfl (Nat.le_of_ble_eq_true rfl) ?_
  intro p e s m args below meth c ls X hr hP hl
  have hx := X.1.1
  have hb := X.1.2.1
  have ho := X.1.2.2.2.1
  have hts := X.1.2.2.2.2
  have hZ := X.2.2.2
  have hl : lv_has ls 3 [(0, .ref (g.2.2 + 306)), (1, .int a1)] := hl
  have hS : va_S (zb_A g) s.heap s.heap [] := va_S.rf
  obtain ⟨H, hH⟩ : ∃ H, H = s.heap := ⟨_, rfl⟩
  obtain ⟨locs, hlocs⟩ : ∃ z : List Loc, z = [] := ⟨_, rfl⟩
  rw [← hH] at hP
  have hS : va_S (zb_A g) s.heap H locs := by rw [hH, hlocs]; exact hS
  show W p l e _ s m args below meth c s.heap [] 0 0 _ _
  rw [← hH, ← hlocs]
  rw [fX8_segmentOf] at hf
  refine lv_aload_n hx hb dX8_segmentOf_0 rfl (lv_at hl 0 rfl) ?_
  refine lv_iconst (v := (0 : Int32)) hx hb dX8_segmentOf_1 (by decide) ?_
  refine pf_X8_57 X hnJ hP hS zk_306 dX8_segmentOf_2 (fun H locs hP hS => ?_)
  refine lv_aload_n hx hb dX8_segmentOf_5 rfl (lv_at hl 0 rfl) ?_
  refine lv_iload_n hx hb dX8_segmentOf_6 rfl (lv_at hl 1 rfl) ?_
  obtain ⟨x1, J2, hx1_J2, hf⟩ := ob2_e hf
  refine zr_cVi (rest := []) (As := [.int a1]) X hP hS (ct_X8_noBuoy (g := g) (nc := nc) (I := I) (J := (wr J 306 0 (0 : Int32))) (O := O) hnJ l  hx1_J2) cw_X8_255 (zr_recv X hP (Nat.lt_of_lt_of_le (zk_306).2.1 hnJ) (zb_ceJo zk_306 (by decide)) rfl) rfl hl.1 (Nat.le_of_ble_eq_true rfl) ⟨Nat.le_of_ble_eq_true rfl, Nat.le_of_ble_eq_true rfl⟩ ⟨Nat.le_of_ble_eq_true rfl, Nat.le_of_ble_eq_true rfl⟩ dX8_segmentOf_7 rfl (fun H locs hP hS => ?_)
  refine lv_if_eq (tgt := 15) hx hb dX8_segmentOf_10 (by decide) (fun hc => ?_) (fun hc => ?_)
  · have hf := if_t hc hf
    refine lv_iload_n hx hb dX8_segmentOf_15 rfl (lv_at hl 1 rfl) ?_
    refine lv_istore_n (lv' := [(2, .int a1), (0, .ref (g.2.2 + 306)), (1, .int a1)]) hx hb dX8_segmentOf_16 rfl hl (by decide) rfl (fun ls hl => ?_)
    obtain ⟨x4, hx4, hf⟩ := ob_e hf
    have K1 : ∀ (H : Heap) (locs : List Loc) (ls : Array Slot), va_P g.1 vwCl (zb_ws g nc (zb_ce g I J2 O)) H → va_S (zb_A g) s.heap H locs → lv_has ls 3 [(2, .int x4), (0, .ref (g.2.2 + 306)), (1, .int a1)] → W p l e { frames := 2, cells := 0, slots := 0, locals := 44 } s m args below meth c H locs 0 0 (MQ below (zb_Po g nc (zb_ce g I Jq O) (some (.int r9))) args s 0 0 (zb_A g)) (F0 m 42 ls []) := by
      intro H locs ls hP hS hl
      refine lv_iload_n hx hb dX8_segmentOf_42 rfl (lv_at hl 0 rfl) ?_
      refine lv_aload_n hx hb dX8_segmentOf_43 rfl (lv_at hl 1 rfl) ?_
      refine lv_iload_n hx hb dX8_segmentOf_44 rfl (lv_at hl 2 rfl) ?_
      refine lv_aload_n hx hb dX8_segmentOf_45 rfl (lv_at hl 1 rfl) ?_
      obtain ⟨x5, hx5, hf⟩ := ob_e hf
      refine zr_cVi (rest := [.int a1, .ref (g.2.2 + 306), .int x4]) (As := []) X hP hS (ct_X8_brokenSet (g := g) (nc := nc) (I := I) (J := J2) (O := O) hnJ l  hx5) cw_X8_249 (zr_recv X hP (Nat.lt_of_lt_of_le (zk_306).2.1 hnJ) (zb_ceJo zk_306 (by decide)) rfl) rfl hl.1 (Nat.le_of_ble_eq_true rfl) ⟨Nat.le_of_ble_eq_true rfl, Nat.le_of_ble_eq_true rfl⟩ ⟨Nat.le_of_ble_eq_true rfl, Nat.le_of_ble_eq_true rfl⟩ dX8_segmentOf_46 rfl (fun H locs hP hS => ?_)
      obtain ⟨x6, hx6, hf⟩ := ob_e hf
      refine zr_cVi (rest := [.int x4]) (As := [.int a1, .int x5]) X hP hS (ct_X8_lastOf (g := g) (nc := nc) (I := I) (J := J2) (O := O) hnJ l  hx6) cw_X8_267 (zr_recv X hP (Nat.lt_of_lt_of_le (zk_306).2.1 hnJ) (zb_ceJo zk_306 (by decide)) rfl) rfl hl.1 (Nat.le_of_ble_eq_true rfl) ⟨Nat.le_of_ble_eq_true rfl, Nat.le_of_ble_eq_true rfl⟩ ⟨Nat.le_of_ble_eq_true rfl, Nat.le_of_ble_eq_true rfl⟩ dX8_segmentOf_49 rfl (fun H locs hP hS => ?_)
      obtain ⟨x7, hx7, hf⟩ := ob_e hf
      refine zr_cSi (rest := []) (As := [.int x4, .int x6]) X hP hS (ct_X8_setOf (g := g) (nc := nc) (I := I) (J := J2) (O := O)  l  hx7) cw_X8_270  rfl hl.1 (Nat.le_of_ble_eq_true rfl) ⟨Nat.le_of_ble_eq_true rfl, Nat.le_of_ble_eq_true rfl⟩ ⟨Nat.le_of_ble_eq_true rfl, Nat.le_of_ble_eq_true rfl⟩ dX8_segmentOf_52 rfl (fun H locs hP hS => ?_)
      cases hf
      exact zr_iret X hr hP hS dX8_segmentOf_55
    exact lpX8_segmentOf_L17 hnJ l  X hx4 K1 hP hS (lv_sub hl [0, 1, 2] rfl)
  · have hf := if_f hc hf
    refine lv_iconst (v := (0 : Int32)) hx hb dX8_segmentOf_13 (by decide) ?_
    cases hf
    exact zr_iret X hr hP hS dX8_segmentOf_14
set_option maxHeartbeats 4000000 in
set_option maxRecDepth 100000 in
theorem lpX8_weakest_L9 {g : zb_G} {nc : Nat} (hnJ : 318 ≤ nc) (l : Launch) {I O : Mem} {p : Program} {e : Env} {s : State} {m : MethodId} {args : Array Value} {below : List Frame} {meth : Method} {c : Code} {Q : State → Prop} (X : zb_X g p m c cX8_weakest 3 s args RX8 meth) : ∀ {n9 : Nat} {a2 : Int32} {a1 : Int32} {J : Mem} {z1 : Int32} {H : Heap} {locs : List Loc} {ls : Array Slot}, fX8_weakest_L9 n9 a2 a1 J = some z1 → (∀ (H : Heap) (locs : List Loc) (ls : Array Slot), va_P g.1 vwCl (zb_ws g nc (zb_ce g I J O)) H → va_S (zb_A g) s.heap H locs → lv_has ls 3 [(1, .int z1)] → W p l e { frames := 0, cells := 0, slots := 0, locals := 0 } s m args below meth c H locs 0 0 Q (F0 m 88 ls [])) → va_P g.1 vwCl (zb_ws g nc (zb_ce g I J O)) H → va_S (zb_A g) s.heap H locs → lv_has ls 3 [(2, .int a2), (1, .int a1), (0, .ref (g.2.2 + 306))] → W p l e { frames := 0, cells := 0, slots := 0, locals := 0 } s m args below meth c H locs 0 0 Q (F0 m 9 ls []) := by
  have hx := X.1.1
  have hb := X.1.2.1
  have ho := X.1.2.2.2.1
  have hts := X.1.2.2.2.2
  have hZ := X.2.2.2
  intro n9
  induction n9 with
  | zero =>
    intro a2 a1 J z1 H locs ls hf
    exact nomatch hf
  | succ n9 ih =>
    intro a2 a1 J z1 H locs ls hf KK hP hS hl
    rw [fX8_weakest_L9] at hf
    refine lv_iload_n hx hb dX8_weakest_9 rfl (lv_at hl 0 rfl) ?_
    refine lv_iconst (v := (1 : Int32)) hx hb dX8_weakest_10 (by decide) ?_
    refine lv_iadd hx hb dX8_weakest_11 ?_
    refine lv_aload_n hx hb dX8_weakest_12 rfl (lv_at hl 2 rfl) ?_
    refine gf_X8_7 X hnJ hP zk_306 dX8_weakest_13 ?_
    refine lv_iconst (v := (0 : Int32)) hx hb dX8_weakest_16 (by decide) ?_
    obtain ⟨x1, hx1, hf⟩ := ob_e hf
    refine zr_aldJ X hP hnJ zk_307 hx1 dX8_weakest_17 ?_
    refine lv_icmp_ge (tgt := 88) hx hb dX8_weakest_18 (by decide) (fun hc => ?_) (fun hc => ?_)
    · have hf := if_t hc hf
      cases hf
      exact KK H locs ls hP hS (lv_sub hl [1] rfl)
    · have hf := if_f hc hf
      refine lv_aload_n hx hb dX8_weakest_21 rfl (lv_at hl 2 rfl) ?_
      refine gf_X8_7 X hnJ hP zk_306 dX8_weakest_22 ?_
      refine lv_sipush (v := (132 : Int32)) hx hb dX8_weakest_25 (by decide) ?_
      refine lv_iload_n hx hb dX8_weakest_28 rfl (lv_at hl 0 rfl) ?_
      refine lv_iadd hx hb dX8_weakest_29 ?_
      obtain ⟨x2, hx2, hf⟩ := ob_e hf
      refine zr_aldJ X hP hnJ zk_307 hx2 dX8_weakest_30 ?_
      obtain ⟨x7, ht, hf⟩ := ob_e hf
      have K1 : ∀ (H : Heap) (locs : List Loc) (ls : Array Slot), va_P g.1 vwCl (zb_ws g nc (zb_ce g I J O)) H → va_S (zb_A g) s.heap H locs → lv_has ls 3 [(2, .int a2), (1, .int x7), (0, .ref (g.2.2 + 306))] → W p l e { frames := 0, cells := 0, slots := 0, locals := 0 } s m args below meth c H locs 0 0 Q (F0 m 82 ls []) := by
        intro H locs ls hP hS hl
        refine lv_iinc (v := (a2 + (1 : Int32))) (lv' := [(2, .int (a2 + (1 : Int32))), (1, .int x7), (0, .ref (g.2.2 + 306))]) hx hb dX8_weakest_82 hl (k := 0) rfl rfl (by decide) rfl (fun ls hl => ?_)
        refine lv_goto (tgt := 9) hx hb dX8_weakest_85 (by decide) ?_
        exact ih hf KK hP hS (lv_sub hl [0, 1, 2] rfl)
      have hf := ht
      refine lv_if_ne (tgt := 82) hx hb dX8_weakest_31 (by decide) (fun hc => ?_) (fun hc => ?_)
      · have hf := if_f hc hf
        cases hf
        exact K1 H locs ls hP hS (lv_sub hl [0, 1, 2] rfl)
      · have hf := if_t hc hf
        refine lv_iload_n hx hb dX8_weakest_34 rfl (lv_at hl 1 rfl) ?_
        refine lv_iconst (v := (-1 : Int32)) hx hb dX8_weakest_35 (by decide) ?_
        refine lv_icmp_eq (tgt := 80) hx hb dX8_weakest_36 (by decide) (fun hc => ?_) (fun hc => ?_)
        · have hf := if_t hc hf
          refine lv_iload_n hx hb dX8_weakest_80 rfl (lv_at hl 0 rfl) ?_
          refine lv_istore_n (lv' := [(1, .int a2), (2, .int a2), (0, .ref (g.2.2 + 306))]) hx hb dX8_weakest_81 rfl hl (by decide) rfl (fun ls hl => ?_)
          cases hf
          exact K1 H locs ls hP hS (lv_sub hl [1, 0, 2] rfl)
        · have hf := if_f hc hf
          refine lv_aload_n hx hb dX8_weakest_39 rfl (lv_at hl 2 rfl) ?_
          refine gf_X8_7 X hnJ hP zk_306 dX8_weakest_40 ?_
          refine lv_bipush (v := (112 : Int32)) hx hb dX8_weakest_43 (by decide) ?_
          refine lv_iload_n hx hb dX8_weakest_45 rfl (lv_at hl 0 rfl) ?_
          refine lv_iadd hx hb dX8_weakest_46 ?_
          obtain ⟨x3, hx3, hf⟩ := ob_e hf
          refine zr_aldJ X hP hnJ zk_307 hx3 dX8_weakest_47 ?_
          refine lv_aload_n hx hb dX8_weakest_48 rfl (lv_at hl 2 rfl) ?_
          refine gf_X8_7 X hnJ hP zk_306 dX8_weakest_49 ?_
          refine lv_bipush (v := (122 : Int32)) hx hb dX8_weakest_52 (by decide) ?_
          refine lv_iload_n hx hb dX8_weakest_54 rfl (lv_at hl 0 rfl) ?_
          refine lv_iadd hx hb dX8_weakest_55 ?_
          obtain ⟨x4, hx4, hf⟩ := ob_e hf
          refine zr_aldJ X hP hnJ zk_307 hx4 dX8_weakest_56 ?_
          refine lv_isub hx hb dX8_weakest_57 ?_
          refine lv_aload_n hx hb dX8_weakest_58 rfl (lv_at hl 2 rfl) ?_
          refine gf_X8_7 X hnJ hP zk_306 dX8_weakest_59 ?_
          refine lv_bipush (v := (112 : Int32)) hx hb dX8_weakest_62 (by decide) ?_
          refine lv_iload_n hx hb dX8_weakest_64 rfl (lv_at hl 1 rfl) ?_
          refine lv_iadd hx hb dX8_weakest_65 ?_
          obtain ⟨x5, hx5, hf⟩ := ob_e hf
          refine zr_aldJ X hP hnJ zk_307 hx5 dX8_weakest_66 ?_
          refine lv_aload_n hx hb dX8_weakest_67 rfl (lv_at hl 2 rfl) ?_
          refine gf_X8_7 X hnJ hP zk_306 dX8_weakest_68 ?_
          refine lv_bipush (v := (122 : Int32)) hx hb dX8_weakest_71 (by decide) ?_
          refine lv_iload_n hx hb dX8_weakest_73 rfl (lv_at hl 1 rfl) ?_
          refine lv_iadd hx hb dX8_weakest_74 ?_
          obtain ⟨x6, hx6, hf⟩ := ob_e hf
          refine zr_aldJ X hP hnJ zk_307 hx6 dX8_weakest_75 ?_
          refine lv_isub hx hb dX8_weakest_76 ?_
          refine lv_icmp_ge (tgt := 82) hx hb dX8_weakest_77 (by decide) (fun hc => ?_) (fun hc => ?_)
          · have hf := if_t hc hf
            cases hf
            exact K1 H locs ls hP hS (lv_sub hl [0, 1, 2] rfl)
          · have hf := if_f hc hf
            refine lv_iload_n hx hb dX8_weakest_80 rfl (lv_at hl 0 rfl) ?_
            refine lv_istore_n (lv' := [(1, .int a2), (2, .int a2), (0, .ref (g.2.2 + 306))]) hx hb dX8_weakest_81 rfl hl (by decide) rfl (fun ls hl => ?_)
            cases hf
            exact K1 H locs ls hP hS (lv_sub hl [1, 0, 2] rfl)
set_option maxHeartbeats 4000000 in
set_option maxRecDepth 100000 in
theorem ct_X8_weakest {g : zb_G} {nc : Nat} (hnJ : 318 ≤ nc) (l : Launch) {I J O : Mem} {r9 : Int32} {Jq : Mem} (hf : fX8_weakest J = some (r9, Jq)) : zb_Ct l g nc yX8_weakest cX8_weakest 3 (some .int) 0 0 [.ref (g.2.2 + 306)] (zb_ce g I J O) (some (.int r9)) (zb_ce g I Jq O) := by
  refine zb_ofW (own := RX8) (by decide +kernel) rfl (Nat.le_of_ble_eq_true rfl) ?_
  intro p e s m args below meth c ls X hr hP hl
  have hx := X.1.1
  have hb := X.1.2.1
  have ho := X.1.2.2.2.1
  have hts := X.1.2.2.2.2
  have hZ := X.2.2.2
  have hl : lv_has ls 3 [(0, .ref (g.2.2 + 306))] := hl
  have hS : va_S (zb_A g) s.heap s.heap [] := va_S.rf
  obtain ⟨H, hH⟩ : ∃ H, H = s.heap := ⟨_, rfl⟩
  obtain ⟨locs, hlocs⟩ : ∃ z : List Loc, z = [] := ⟨_, rfl⟩
  rw [← hH] at hP
  have hS : va_S (zb_A g) s.heap H locs := by rw [hH, hlocs]; exact hS
  show W p l e _ s m args below meth c s.heap [] 0 0 _ _
  rw [← hH, ← hlocs]
  rw [fX8_weakest] at hf
  refine lv_aload_n hx hb dX8_weakest_0 rfl (lv_at hl 0 rfl) ?_
  refine lv_iconst (v := (0 : Int32)) hx hb dX8_weakest_1 (by decide) ?_
  refine pf_X8_57 X hnJ hP hS zk_306 dX8_weakest_2 (fun H locs hP hS => ?_)
  refine lv_iconst (v := (-1 : Int32)) hx hb dX8_weakest_5 (by decide) ?_
  refine lv_istore_n (lv' := [(1, .int (-1 : Int32)), (0, .ref (g.2.2 + 306))]) hx hb dX8_weakest_6 rfl hl (by decide) rfl (fun ls hl => ?_)
  refine lv_iconst (v := (0 : Int32)) hx hb dX8_weakest_7 (by decide) ?_
  refine lv_istore_n (lv' := [(2, .int (0 : Int32)), (1, .int (-1 : Int32)), (0, .ref (g.2.2 + 306))]) hx hb dX8_weakest_8 rfl hl (by decide) rfl (fun ls hl => ?_)
  obtain ⟨x8, hx8, hf⟩ := ob_e hf
  have K2 : ∀ (H : Heap) (locs : List Loc) (ls : Array Slot), va_P g.1 vwCl (zb_ws g nc (zb_ce g I (wr J 306 0 (0 : Int32)) O)) H → va_S (zb_A g) s.heap H locs → lv_has ls 3 [(1, .int x8)] → W p l e { frames := 0, cells := 0, slots := 0, locals := 0 } s m args below meth c H locs 0 0 (MQ below (zb_Po g nc (zb_ce g I Jq O) (some (.int r9))) args s 0 0 (zb_A g)) (F0 m 88 ls []) := by
    intro H locs ls hP hS hl
    refine lv_iload_n hx hb dX8_weakest_88 rfl (lv_at hl 0 rfl) ?_
    cases hf
    exact zr_iret X hr hP hS dX8_weakest_89
  exact lpX8_weakest_L9 hnJ l  X hx8 K2 hP hS (lv_sub hl [0, 1, 2] rfl)
set_option maxHeartbeats 4000000 in
set_option maxRecDepth 100000 in
theorem lpX8_breaks_L6 {g : zb_G} {nc : Nat} (hnJ : 318 ≤ nc) (l : Launch) {a1 : Int32} {a3 : Int32} {I O : Mem} {p : Program} {e : Env} {s : State} {m : MethodId} {args : Array Value} {below : List Frame} {meth : Method} {c : Code} {Q : State → Prop} (X : zb_X g p m c cX8_breaks 6 s args RX8 meth) : ∀ {n9 : Nat} {a5 : Int32} {a4 : Int32} {J : Mem} {z4 : Int32} {H : Heap} {locs : List Loc} {ls : Array Slot}, fX8_breaks_L6 a1 a3 n9 a5 a4 J = some z4 → (∀ (H : Heap) (locs : List Loc) (ls : Array Slot), va_P g.1 vwCl (zb_ws g nc (zb_ce g I J O)) H → va_S (zb_A g) s.heap H locs → lv_has ls 6 [(4, .int z4)] → W p l e { frames := 0, cells := 0, slots := 0, locals := 0 } s m args below meth c H locs 0 0 Q (F0 m 70 ls [])) → va_P g.1 vwCl (zb_ws g nc (zb_ce g I J O)) H → va_S (zb_A g) s.heap H locs → lv_has ls 6 [(5, .int a5), (4, .int a4), (0, .ref (g.2.2 + 306)), (1, .int a1), (3, .int a3)] → W p l e { frames := 0, cells := 0, slots := 0, locals := 0 } s m args below meth c H locs 0 0 Q (F0 m 6 ls []) := by
  have hx := X.1.1
  have hb := X.1.2.1
  have ho := X.1.2.2.2.1
  have hts := X.1.2.2.2.2
  have hZ := X.2.2.2
  intro n9
  induction n9 with
  | zero =>
    intro a5 a4 J z4 H locs ls hf
    exact nomatch hf
  | succ n9 ih =>
    intro a5 a4 J z4 H locs ls hf KK hP hS hl
    rw [fX8_breaks_L6] at hf
    refine lv_iload hx hb dX8_breaks_6 (lv_at hl 0 rfl) ?_
    refine lv_iload_n hx hb dX8_breaks_8 rfl (lv_at hl 4 rfl) ?_
    refine lv_icmp_ge (tgt := 70) hx hb dX8_breaks_9 (by decide) (fun hc => ?_) (fun hc => ?_)
    · have hf := if_t hc hf
      cases hf
      exact KK H locs ls hP hS (lv_sub hl [1] rfl)
    · have hf := if_f hc hf
      refine lv_iload hx hb dX8_breaks_12 (lv_at hl 1 rfl) ?_
      refine lv_aload_n hx hb dX8_breaks_14 rfl (lv_at hl 2 rfl) ?_
      refine gf_X8_7 X hnJ hP zk_306 dX8_breaks_15 ?_
      refine lv_sipush (v := (132 : Int32)) hx hb dX8_breaks_18 (by decide) ?_
      refine lv_iload hx hb dX8_breaks_21 (lv_at hl 0 rfl) ?_
      refine lv_iadd hx hb dX8_breaks_23 ?_
      obtain ⟨x1, hx1, hf⟩ := ob_e hf
      refine zr_aldJ X hP hnJ zk_307 hx1 dX8_breaks_24 ?_
      obtain ⟨x4, ht, hf⟩ := ob_e hf
      have K1 : ∀ (H : Heap) (locs : List Loc) (ls : Array Slot), va_P g.1 vwCl (zb_ws g nc (zb_ce g I J O)) H → va_S (zb_A g) s.heap H locs → lv_has ls 6 [(5, .int a5), (0, .ref (g.2.2 + 306)), (1, .int a1), (3, .int a3)] → W p l e { frames := 0, cells := 0, slots := 0, locals := 0 } s m args below meth c H locs 0 0 Q (F0 m 61 ls [.int x4, .int a4]) := by
        intro H locs ls hP hS hl
        refine lv_ior hx hb dX8_breaks_61 ?_
        refine lv_istore (lv' := [(4, .int (a4 ||| x4)), (5, .int a5), (0, .ref (g.2.2 + 306)), (1, .int a1), (3, .int a3)]) hx hb dX8_breaks_62 hl (by decide) rfl (fun ls hl => ?_)
        refine lv_iinc (v := (a5 + (1 : Int32))) (lv' := [(5, .int (a5 + (1 : Int32))), (4, .int (a4 ||| x4)), (0, .ref (g.2.2 + 306)), (1, .int a1), (3, .int a3)]) hx hb dX8_breaks_64 hl (k := 1) rfl rfl (by decide) rfl (fun ls hl => ?_)
        refine lv_goto (tgt := 6) hx hb dX8_breaks_67 (by decide) ?_
        exact ih hf KK hP hS (lv_sub hl [0, 1, 2, 3, 4] rfl)
      have hf := ht
      refine lv_if_ne (tgt := 60) hx hb dX8_breaks_25 (by decide) (fun hc => ?_) (fun hc => ?_)
      · have hf := if_f hc hf
        refine lv_iconst (v := (0 : Int32)) hx hb dX8_breaks_60 (by decide) ?_
        cases hf
        exact K1 H locs ls hP hS (lv_sub hl [0, 2, 3, 4] rfl)
      · have hf := if_t hc hf
        refine lv_aload_n hx hb dX8_breaks_28 rfl (lv_at hl 2 rfl) ?_
        refine gf_X8_7 X hnJ hP zk_306 dX8_breaks_29 ?_
        refine lv_bipush (v := (122 : Int32)) hx hb dX8_breaks_32 (by decide) ?_
        refine lv_iload hx hb dX8_breaks_34 (lv_at hl 0 rfl) ?_
        refine lv_iadd hx hb dX8_breaks_36 ?_
        obtain ⟨x2, hx2, hf⟩ := ob_e hf
        refine zr_aldJ X hP hnJ zk_307 hx2 dX8_breaks_37 ?_
        refine lv_iload_n hx hb dX8_breaks_38 rfl (lv_at hl 3 rfl) ?_
        refine lv_iadd hx hb dX8_breaks_39 ?_
        refine lv_aload_n hx hb dX8_breaks_40 rfl (lv_at hl 2 rfl) ?_
        refine gf_X8_7 X hnJ hP zk_306 dX8_breaks_41 ?_
        refine lv_bipush (v := (112 : Int32)) hx hb dX8_breaks_44 (by decide) ?_
        refine lv_iload hx hb dX8_breaks_46 (lv_at hl 0 rfl) ?_
        refine lv_iadd hx hb dX8_breaks_48 ?_
        obtain ⟨x3, hx3, hf⟩ := ob_e hf
        refine zr_aldJ X hP hnJ zk_307 hx3 dX8_breaks_49 ?_
        refine lv_icmp_le (tgt := 60) hx hb dX8_breaks_50 (by decide) (fun hc => ?_) (fun hc => ?_)
        · have hf := if_t hc hf
          refine lv_iconst (v := (0 : Int32)) hx hb dX8_breaks_60 (by decide) ?_
          cases hf
          exact K1 H locs ls hP hS (lv_sub hl [0, 2, 3, 4] rfl)
        · have hf := if_f hc hf
          refine lv_iconst (v := (1 : Int32)) hx hb dX8_breaks_53 (by decide) ?_
          refine lv_iload hx hb dX8_breaks_54 (lv_at hl 0 rfl) ?_
          refine lv_ishl hx hb dX8_breaks_56 ?_
          refine lv_goto (tgt := 61) hx hb dX8_breaks_57 (by decide) ?_
          cases hf
          exact K1 H locs ls hP hS (lv_sub hl [0, 2, 3, 4] rfl)
set_option maxHeartbeats 4000000 in
set_option maxRecDepth 100000 in
theorem ct_X8_breaks {g : zb_G} {nc : Nat} (hnJ : 318 ≤ nc) (l : Launch) {a1 : Int32} {a2 : Int32} {a3 : Int32} {I J O : Mem} {r9 : Int32} (hf : fX8_breaks a1 a2 a3 J = some r9) : zb_Ct l g nc yX8_breaks cX8_breaks 6 (some .int) 0 0 [.ref (g.2.2 + 306), .int a1, .int a2, .int a3] (zb_ce g I J O) (some (.int r9)) (zb_ce g I J O) := by
  refine zb_ofW (own := RX8) (by decide +kernel) rfl (Nat.le_of_ble_eq_true rfl) ?_
  intro p e s m args below meth c ls X hr hP hl
  have hx := X.1.1
  have hb := X.1.2.1
  have ho := X.1.2.2.2.1
  have hts := X.1.2.2.2.2
  have hZ := X.2.2.2
  have hl : lv_has ls 6 [(0, .ref (g.2.2 + 306)), (1, .int a1), (2, .int a2), (3, .int a3)] := hl
  have hS : va_S (zb_A g) s.heap s.heap [] := va_S.rf
  obtain ⟨H, hH⟩ : ∃ H, H = s.heap := ⟨_, rfl⟩
  obtain ⟨locs, hlocs⟩ : ∃ z : List Loc, z = [] := ⟨_, rfl⟩
  rw [← hH] at hP
  have hS : va_S (zb_A g) s.heap H locs := by rw [hH, hlocs]; exact hS
  show W p l e _ s m args below meth c s.heap [] 0 0 _ _
  rw [← hH, ← hlocs]
  rw [fX8_breaks] at hf
  refine lv_iconst (v := (0 : Int32)) hx hb dX8_breaks_0 (by decide) ?_
  refine lv_istore (lv' := [(4, .int (0 : Int32)), (0, .ref (g.2.2 + 306)), (1, .int a1), (2, .int a2), (3, .int a3)]) hx hb dX8_breaks_1 hl (by decide) rfl (fun ls hl => ?_)
  refine lv_iload_n hx hb dX8_breaks_3 rfl (lv_at hl 3 rfl) ?_
  refine lv_istore (lv' := [(5, .int a2), (4, .int (0 : Int32)), (0, .ref (g.2.2 + 306)), (1, .int a1), (2, .int a2), (3, .int a3)]) hx hb dX8_breaks_4 hl (by decide) rfl (fun ls hl => ?_)
  obtain ⟨x5, hx5, hf⟩ := ob_e hf
  have K2 : ∀ (H : Heap) (locs : List Loc) (ls : Array Slot), va_P g.1 vwCl (zb_ws g nc (zb_ce g I J O)) H → va_S (zb_A g) s.heap H locs → lv_has ls 6 [(4, .int x5)] → W p l e { frames := 0, cells := 0, slots := 0, locals := 0 } s m args below meth c H locs 0 0 (MQ below (zb_Po g nc (zb_ce g I J O) (some (.int r9))) args s 0 0 (zb_A g)) (F0 m 70 ls []) := by
    intro H locs ls hP hS hl
    refine lv_iload hx hb dX8_breaks_70 (lv_at hl 0 rfl) ?_
    cases hf
    exact zr_iret X hr hP hS dX8_breaks_72
  exact lpX8_breaks_L6 hnJ l  X hx5 K2 hP hS (lv_sub hl [0, 1, 2, 3, 5] rfl)
