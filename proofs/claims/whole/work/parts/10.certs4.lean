set_option maxHeartbeats 4000000 in
set_option maxRecDepth 100000 in
theorem ct_X7_save {g : zb_G} {nc : Nat} (hnI : 306 ≤ nc) (l : Launch) {a1 : Int32} {I J O : Mem} {r9 : Int32} {Iq : Mem} (hf : fX7_save a1 I = some (0, r9, Iq)) : zb_Ct l g nc yX7_save cX7_save 2 (some .int) 7 146 [.ref (g.2.2 + 0), .int a1] (zb_ce g I J O) (some (.int r9)) (zb_ce g Iq J O) := by
  refine zb_ofW (own := RX7) (by decide +kernel) rfl (Nat.le_of_ble_eq_true rfl) ?_
  intro p e s m args below meth c ls X hr hP hl
  have hx := X.1.1
  have hb := X.1.2.1
  have ho := X.1.2.2.2.1
  have hts := X.1.2.2.2.2
  have hZ := X.2.2.2
  have hl : lv_has ls 2 [(0, .ref (g.2.2 + 0)), (1, .int a1)] := hl
  have hS : va_S (zb_A g) s.heap s.heap [] := va_S.rf
  obtain ⟨H, hH⟩ : ∃ H, H = s.heap := ⟨_, rfl⟩
  obtain ⟨locs, hlocs⟩ : ∃ z : List Loc, z = [] := ⟨_, rfl⟩
  rw [← hH] at hP
  have hS : va_S (zb_A g) s.heap H locs := by rw [hH, hlocs]; exact hS
  show W p l e _ s m args below meth c s.heap [] 0 0 _ _
  rw [← hH, ← hlocs]
  rw [fX7_save] at hf
  refine lv_aload_n hx hb dX7_save_0 rfl (lv_at hl 0 rfl) ?_
  refine lv_iload_n hx hb dX7_save_1 rfl (lv_at hl 1 rfl) ?_
  obtain ⟨e1, he1, hf⟩ := ob_e hf
  rcases Classical.em (e1 = 0) with he | he
  · have hf := if_t he hf
    rw [he] at he1
    refine zr_cVv (rest := []) (As := [.int a1]) X hP hS (ct_X7_checkSlot (g := g) (nc := nc) (I := I) (J := J) (O := O)  l  he1) cw_X7_408 (zr_recv X hP (Nat.lt_of_lt_of_le (zk_0).1 hnI) (zb_ceIo zk_0 (by decide)) rfl) rfl hl.1 (Nat.le_of_ble_eq_true rfl) ⟨Nat.le_of_ble_eq_true rfl, Nat.le_of_ble_eq_true rfl⟩ ⟨Nat.le_of_ble_eq_true rfl, Nat.le_of_ble_eq_true rfl⟩ dX7_save_2 rfl (fun H locs hP hS => ?_)
    refine lv_aload_n hx hb dX7_save_5 rfl (lv_at hl 0 rfl) ?_
    refine gf_X7_30 X hnI hP zk_0 dX7_save_6 ?_
    refine lv_iload_n hx hb dX7_save_9 rfl (lv_at hl 1 rfl) ?_
    obtain ⟨j2, hj2, hf⟩ := ob_e hf
    refine zr_rld X hP hnI zk_50 hj2 dX7_save_10 ?_
    refine lv_aload_n hx hb dX7_save_11 rfl (lv_at hl 0 rfl) ?_
    refine gf_X7_10 X hnI hP zk_0 dX7_save_12 ?_
    obtain ⟨I3, hI3, hf⟩ := ob_e hf
    refine zr_cVv (rest := []) (As := [.ref (g.2.2 + 1)]) X hP hS (ct_X5_copyFrom (g := g) (nc := nc) (I := I) (J := J) (O := O) hnI l (zb_isBs (rld_e hj2).2.2) zb_isB1 hI3) cw_X7_129 (zr_recv X hP (Nat.lt_of_lt_of_le ((zb_b0 (zb_isBs (rld_e hj2).2.2))).1 hnI) (zb_ceIo (zb_b0 (zb_isBs (rld_e hj2).2.2)) (by decide)) rfl) rfl hl.1 (Nat.le_of_ble_eq_true rfl) ⟨Nat.le_of_ble_eq_true rfl, Nat.le_of_ble_eq_true rfl⟩ ⟨Nat.le_of_ble_eq_true rfl, Nat.le_of_ble_eq_true rfl⟩ dX7_save_15 rfl (fun H locs hP hS => ?_)
    refine lv_aload_n hx hb dX7_save_18 rfl (lv_at hl 0 rfl) ?_
    refine lv_dup hx hb dX7_save_19 rfl ?_
    refine gf_X7_33 X hnI hP zk_0 dX7_save_20 ?_
    refine lv_iconst (v := (1 : Int32)) hx hb dX7_save_23 (by decide) ?_
    refine lv_iload_n hx hb dX7_save_24 rfl (lv_at hl 1 rfl) ?_
    refine lv_ishl hx hb dX7_save_25 ?_
    refine lv_ior hx hb dX7_save_26 ?_
    refine pf_X7_33 X hnI hP hS zk_0 dX7_save_27 (fun H locs hP hS => ?_)
    refine lv_aload_n hx hb dX7_save_30 rfl (lv_at hl 0 rfl) ?_
    refine gf_X7_10 X hnI hP zk_0 dX7_save_31 ?_
    refine gf_X7_144 X hnI hP zk_1 dX7_save_34 ?_
    cases hf
    exact zr_iret X hr hP hS dX7_save_37
  · have hf := if_f he hf
    exact (thr_ne he hf).elim
set_option maxHeartbeats 4000000 in
set_option maxRecDepth 100000 in
theorem ct_X7_restore {g : zb_G} {nc : Nat} (hnI : 306 ≤ nc) (l : Launch) {a1 : Int32} {I J O : Mem} {r9 : Int32} {Iq : Mem} (hf : fX7_restore a1 I = some (0, r9, Iq)) : zb_Ct l g nc yX7_restore cX7_restore 2 (some .int) 7 146 [.ref (g.2.2 + 0), .int a1] (zb_ce g I J O) (some (.int r9)) (zb_ce g Iq J O) := by
  refine zb_ofW (own := RX7) (by decide +kernel) rfl (Nat.le_of_ble_eq_true rfl) ?_
  intro p e s m args below meth c ls X hr hP hl
  have hx := X.1.1
  have hb := X.1.2.1
  have ho := X.1.2.2.2.1
  have hts := X.1.2.2.2.2
  have hZ := X.2.2.2
  have hl : lv_has ls 2 [(0, .ref (g.2.2 + 0)), (1, .int a1)] := hl
  have hS : va_S (zb_A g) s.heap s.heap [] := va_S.rf
  obtain ⟨H, hH⟩ : ∃ H, H = s.heap := ⟨_, rfl⟩
  obtain ⟨locs, hlocs⟩ : ∃ z : List Loc, z = [] := ⟨_, rfl⟩
  rw [← hH] at hP
  have hS : va_S (zb_A g) s.heap H locs := by rw [hH, hlocs]; exact hS
  show W p l e _ s m args below meth c s.heap [] 0 0 _ _
  rw [← hH, ← hlocs]
  rw [fX7_restore] at hf
  refine lv_aload_n hx hb dX7_restore_0 rfl (lv_at hl 0 rfl) ?_
  refine lv_iload_n hx hb dX7_restore_1 rfl (lv_at hl 1 rfl) ?_
  obtain ⟨e1, he1, hf⟩ := ob_e hf
  rcases Classical.em (e1 = 0) with he | he
  · have hf := if_t he hf
    rw [he] at he1
    refine zr_cVv (rest := []) (As := [.int a1]) X hP hS (ct_X7_checkSlot (g := g) (nc := nc) (I := I) (J := J) (O := O)  l  he1) cw_X7_408 (zr_recv X hP (Nat.lt_of_lt_of_le (zk_0).1 hnI) (zb_ceIo zk_0 (by decide)) rfl) rfl hl.1 (Nat.le_of_ble_eq_true rfl) ⟨Nat.le_of_ble_eq_true rfl, Nat.le_of_ble_eq_true rfl⟩ ⟨Nat.le_of_ble_eq_true rfl, Nat.le_of_ble_eq_true rfl⟩ dX7_restore_2 rfl (fun H locs hP hS => ?_)
    refine lv_aload_n hx hb dX7_restore_5 rfl (lv_at hl 0 rfl) ?_
    refine gf_X7_33 X hnI hP zk_0 dX7_restore_6 ?_
    refine lv_iload_n hx hb dX7_restore_9 rfl (lv_at hl 1 rfl) ?_
    obtain ⟨x2, hx2, hf⟩ := ob_e hf
    refine zr_cSi (rest := []) (As := [.int (I 0 6), .int a1]) X hP hS (ct_X7_has (g := g) (nc := nc) (I := I) (J := J) (O := O)  l  hx2) cw_X7_215  rfl hl.1 (Nat.le_of_ble_eq_true rfl) ⟨Nat.le_of_ble_eq_true rfl, Nat.le_of_ble_eq_true rfl⟩ ⟨Nat.le_of_ble_eq_true rfl, Nat.le_of_ble_eq_true rfl⟩ dX7_restore_10 rfl (fun H locs hP hS => ?_)
    refine lv_if_ne (tgt := 27) hx hb dX7_restore_13 (by decide) (fun hc => ?_) (fun hc => ?_)
    · have hf := if_f hc hf
      refine lv_aload_n hx hb dX7_restore_27 rfl (lv_at hl 0 rfl) ?_
      refine gf_X7_10 X hnI hP zk_0 dX7_restore_28 ?_
      refine lv_aload_n hx hb dX7_restore_31 rfl (lv_at hl 0 rfl) ?_
      refine gf_X7_30 X hnI hP zk_0 dX7_restore_32 ?_
      refine lv_iload_n hx hb dX7_restore_35 rfl (lv_at hl 1 rfl) ?_
      obtain ⟨j3, hj3, hf⟩ := ob_e hf
      refine zr_rld X hP hnI zk_50 hj3 dX7_restore_36 ?_
      obtain ⟨I4, hI4, hf⟩ := ob_e hf
      refine zr_cVv (rest := []) (As := [.ref (g.2.2 + (258 + 24 * j3))]) X hP hS (ct_X5_copyFrom (g := g) (nc := nc) (I := I) (J := J) (O := O) hnI l zb_isB1 (zb_isBs (rld_e hj3).2.2) hI4) cw_X7_129 (zr_recv X hP (Nat.lt_of_lt_of_le (zk_1).1 hnI) (zb_ceIo zk_1 (by decide)) rfl) rfl hl.1 (Nat.le_of_ble_eq_true rfl) ⟨Nat.le_of_ble_eq_true rfl, Nat.le_of_ble_eq_true rfl⟩ ⟨Nat.le_of_ble_eq_true rfl, Nat.le_of_ble_eq_true rfl⟩ dX7_restore_37 rfl (fun H locs hP hS => ?_)
      refine lv_aload_n hx hb dX7_restore_40 rfl (lv_at hl 0 rfl) ?_
      refine lv_iconst (v := (0 : Int32)) hx hb dX7_restore_41 (by decide) ?_
      refine pf_X7_23 X hnI hP hS zk_0 dX7_restore_42 (fun H locs hP hS => ?_)
      refine lv_aload_n hx hb dX7_restore_45 rfl (lv_at hl 0 rfl) ?_
      refine gf_X7_10 X hnI hP zk_0 dX7_restore_46 ?_
      refine gf_X7_88 X hnI hP zk_1 dX7_restore_49 ?_
      refine gf_X7_133 X hnI hP zk_2 dX7_restore_52 ?_
      cases hf
      exact zr_iret X hr hP hS dX7_restore_55
    · have hf := if_t hc hf
      exact (thr_ne (by decide) hf).elim
  · have hf := if_f he hf
    exact (thr_ne he hf).elim
set_option maxHeartbeats 4000000 in
set_option maxRecDepth 100000 in
theorem ct_X8_thrown {g : zb_G} {nc : Nat} (hnJ : 318 ≤ nc) (l : Launch) {I J O : Mem} {r9 : Int32} (hf : fX8_thrown J = some r9) : zb_Ct l g nc yX8_thrown cX8_thrown 1 (some .int) 0 0 [.ref (g.2.2 + 306)] (zb_ce g I J O) (some (.int r9)) (zb_ce g I J O) := by
  refine zb_ofW (own := RX8) (by decide +kernel) rfl (Nat.le_of_ble_eq_true rfl) ?_
  intro p e s m args below meth c ls X hr hP hl
  have hx := X.1.1
  have hb := X.1.2.1
  have ho := X.1.2.2.2.1
  have hts := X.1.2.2.2.2
  have hZ := X.2.2.2
  have hl : lv_has ls 1 [(0, .ref (g.2.2 + 306))] := hl
  have hS : va_S (zb_A g) s.heap s.heap [] := va_S.rf
  obtain ⟨H, hH⟩ : ∃ H, H = s.heap := ⟨_, rfl⟩
  obtain ⟨locs, hlocs⟩ : ∃ z : List Loc, z = [] := ⟨_, rfl⟩
  rw [← hH] at hP
  have hS : va_S (zb_A g) s.heap H locs := by rw [hH, hlocs]; exact hS
  show W p l e _ s m args below meth c s.heap [] 0 0 _ _
  rw [← hH, ← hlocs]
  rw [fX8_thrown] at hf
  refine lv_aload_n hx hb dX8_thrown_0 rfl (lv_at hl 0 rfl) ?_
  refine gf_X8_57 X hnJ hP zk_306 dX8_thrown_1 ?_
  cases hf
  exact zr_iret X hr hP hS dX8_thrown_4
set_option maxHeartbeats 4000000 in
set_option maxRecDepth 100000 in
theorem lpX8_empties_L2 {g : zb_G} {nc : Nat} (hnJ : 318 ≤ nc) (l : Launch) {k0 : Nat} (hk0 : zb_JK k0 10 (zb_ln k0)) {I O : Mem} {p : Program} {e : Env} {s : State} {m : MethodId} {args : Array Value} {below : List Frame} {meth : Method} {c : Code} {Q : State → Prop} (X : zb_X g p m c cX8_empties 2 s args RX8 meth) : ∀ {n9 : Nat} {a1 : Int32} {J : Mem} {Jz : Mem} {H : Heap} {locs : List Loc} {ls : Array Slot}, fX8_empties_L2 k0 n9 a1 J = some Jz → (∀ (H : Heap) (locs : List Loc) (ls : Array Slot), va_P g.1 vwCl (zb_ws g nc (zb_ce g I Jz O)) H → va_S (zb_A g) s.heap H locs → lv_has ls 2 [(0, .ref (g.2.2 + k0))] → W p l e { frames := 0, cells := 0, slots := 0, locals := 0 } s m args below meth c H locs 0 0 Q (F0 m 19 ls [])) → va_P g.1 vwCl (zb_ws g nc (zb_ce g I J O)) H → va_S (zb_A g) s.heap H locs → lv_has ls 2 [(1, .int a1), (0, .ref (g.2.2 + k0))] → W p l e { frames := 0, cells := 0, slots := 0, locals := 0 } s m args below meth c H locs 0 0 Q (F0 m 2 ls []) := by
  have hx := X.1.1
  have hb := X.1.2.1
  have ho := X.1.2.2.2.1
  have hts := X.1.2.2.2.2
  have hZ := X.2.2.2
  intro n9
  induction n9 with
  | zero =>
    intro a1 J Jz H locs ls hf
    exact nomatch hf
  | succ n9 ih =>
    intro a1 J Jz H locs ls hf KK hP hS hl
    rw [fX8_empties_L2] at hf
    refine lv_iload_n hx hb dX8_empties_2 rfl (lv_at hl 0 rfl) ?_
    refine lv_sipush (v := (574 : Int32)) hx hb dX8_empties_3 (by decide) ?_
    refine lv_icmp_ge (tgt := 19) hx hb dX8_empties_6 (by decide) (fun hc => ?_) (fun hc => ?_)
    · have hf := if_t hc hf
      cases hf
      exact KK H locs ls hP hS (lv_sub hl [1] rfl)
    · have hf := if_f hc hf
      refine lv_aload_n hx hb dX8_empties_9 rfl (lv_at hl 1 rfl) ?_
      refine lv_iload_n hx hb dX8_empties_10 rfl (lv_at hl 0 rfl) ?_
      refine lv_iconst (v := (0 : Int32)) hx hb dX8_empties_11 (by decide) ?_
      obtain ⟨J1, hJ1, hf⟩ := ob_e hf
      refine zr_astJ X hP hS hnJ hk0 hJ1 dX8_empties_12 (fun H locs hP hS => ?_)
      refine lv_iinc (v := (a1 + (1 : Int32))) (lv' := [(1, .int (a1 + (1 : Int32))), (0, .ref (g.2.2 + k0))]) hx hb dX8_empties_13 hl (k := 0) rfl rfl (by decide) rfl (fun ls hl => ?_)
      refine lv_goto (tgt := 2) hx hb dX8_empties_16 (by decide) ?_
      exact ih hf KK hP hS (lv_sub hl [0, 1] rfl)
set_option maxHeartbeats 4000000 in
set_option maxRecDepth 100000 in
theorem lpX8_empties_L21 {g : zb_G} {nc : Nat} (hnJ : 318 ≤ nc) (l : Launch) {k0 : Nat} (hk0 : zb_JK k0 10 (zb_ln k0)) {I O : Mem} {p : Program} {e : Env} {s : State} {m : MethodId} {args : Array Value} {below : List Frame} {meth : Method} {c : Code} {Q : State → Prop} (X : zb_X g p m c cX8_empties 2 s args RX8 meth) : ∀ {n9 : Nat} {a1 : Int32} {J : Mem} {Jz : Mem} {H : Heap} {locs : List Loc} {ls : Array Slot}, fX8_empties_L21 k0 n9 a1 J = some Jz → (∀ (H : Heap) (locs : List Loc) (ls : Array Slot), va_P g.1 vwCl (zb_ws g nc (zb_ce g I Jz O)) H → va_S (zb_A g) s.heap H locs → lv_has ls 2 [] → W p l e { frames := 0, cells := 0, slots := 0, locals := 0 } s m args below meth c H locs 0 0 Q (F0 m 48 ls [])) → va_P g.1 vwCl (zb_ws g nc (zb_ce g I J O)) H → va_S (zb_A g) s.heap H locs → lv_has ls 2 [(1, .int a1), (0, .ref (g.2.2 + k0))] → W p l e { frames := 0, cells := 0, slots := 0, locals := 0 } s m args below meth c H locs 0 0 Q (F0 m 21 ls []) := by
  have hx := X.1.1
  have hb := X.1.2.1
  have ho := X.1.2.2.2.1
  have hts := X.1.2.2.2.2
  have hZ := X.2.2.2
  intro n9
  induction n9 with
  | zero =>
    intro a1 J Jz H locs ls hf
    exact nomatch hf
  | succ n9 ih =>
    intro a1 J Jz H locs ls hf KK hP hS hl
    rw [fX8_empties_L21] at hf
    refine lv_iload_n hx hb dX8_empties_21 rfl (lv_at hl 0 rfl) ?_
    refine lv_bipush (v := (10 : Int32)) hx hb dX8_empties_22 (by decide) ?_
    refine lv_icmp_ge (tgt := 48) hx hb dX8_empties_24 (by decide) (fun hc => ?_) (fun hc => ?_)
    · have hf := if_t hc hf
      cases hf
      exact KK H locs ls hP hS (lv_sub hl [] rfl)
    · have hf := if_f hc hf
      refine lv_aload_n hx hb dX8_empties_27 rfl (lv_at hl 1 rfl) ?_
      refine lv_bipush (v := (82 : Int32)) hx hb dX8_empties_28 (by decide) ?_
      refine lv_iload_n hx hb dX8_empties_30 rfl (lv_at hl 0 rfl) ?_
      refine lv_iadd hx hb dX8_empties_31 ?_
      refine lv_iconst (v := (-1 : Int32)) hx hb dX8_empties_32 (by decide) ?_
      obtain ⟨J3, hJ3, hf⟩ := ob_e hf
      refine zr_astJ X hP hS hnJ hk0 hJ3 dX8_empties_33 (fun H locs hP hS => ?_)
      refine lv_aload_n hx hb dX8_empties_34 rfl (lv_at hl 1 rfl) ?_
      refine lv_bipush (v := (112 : Int32)) hx hb dX8_empties_35 (by decide) ?_
      refine lv_iload_n hx hb dX8_empties_37 rfl (lv_at hl 0 rfl) ?_
      refine lv_iadd hx hb dX8_empties_38 ?_
      refine lv_bipush (v := (10 : Int32)) hx hb dX8_empties_39 (by decide) ?_
      obtain ⟨J4, hJ4, hf⟩ := ob_e hf
      refine zr_astJ X hP hS hnJ hk0 hJ4 dX8_empties_41 (fun H locs hP hS => ?_)
      refine lv_iinc (v := (a1 + (1 : Int32))) (lv' := [(1, .int (a1 + (1 : Int32))), (0, .ref (g.2.2 + k0))]) hx hb dX8_empties_42 hl (k := 0) rfl rfl (by decide) rfl (fun ls hl => ?_)
      refine lv_goto (tgt := 21) hx hb dX8_empties_45 (by decide) ?_
      exact ih hf KK hP hS (lv_sub hl [0, 1] rfl)
set_option maxHeartbeats 4000000 in
set_option maxRecDepth 100000 in
theorem ct_X8_empties {g : zb_G} {nc : Nat} (hnJ : 318 ≤ nc) (l : Launch) {k0 : Nat} (hk0 : zb_JK k0 10 (zb_ln k0)) {I J O : Mem} {Jq : Mem} (hf : fX8_empties k0 J = some Jq) : zb_Ct l g nc yX8_empties cX8_empties 2 none 0 0 [.ref (g.2.2 + k0)] (zb_ce g I J O) none (zb_ce g I Jq O) := by
  refine zb_ofW (own := RX8) (by decide +kernel) rfl (Nat.le_of_ble_eq_true rfl) ?_
  intro p e s m args below meth c ls X hr hP hl
  have hx := X.1.1
  have hb := X.1.2.1
  have ho := X.1.2.2.2.1
  have hts := X.1.2.2.2.2
  have hZ := X.2.2.2
  have hl : lv_has ls 2 [(0, .ref (g.2.2 + k0))] := hl
  have hS : va_S (zb_A g) s.heap s.heap [] := va_S.rf
  obtain ⟨H, hH⟩ : ∃ H, H = s.heap := ⟨_, rfl⟩
  obtain ⟨locs, hlocs⟩ : ∃ z : List Loc, z = [] := ⟨_, rfl⟩
  rw [← hH] at hP
  have hS : va_S (zb_A g) s.heap H locs := by rw [hH, hlocs]; exact hS
  show W p l e _ s m args below meth c s.heap [] 0 0 _ _
  rw [← hH, ← hlocs]
  rw [fX8_empties] at hf
  refine lv_iconst (v := (0 : Int32)) hx hb dX8_empties_0 (by decide) ?_
  refine lv_istore_n (lv' := [(1, .int (0 : Int32)), (0, .ref (g.2.2 + k0))]) hx hb dX8_empties_1 rfl hl (by decide) rfl (fun ls hl => ?_)
  obtain ⟨J2, hJ2, hf⟩ := ob_e hf
  have K1 : ∀ (H : Heap) (locs : List Loc) (ls : Array Slot), va_P g.1 vwCl (zb_ws g nc (zb_ce g I J2 O)) H → va_S (zb_A g) s.heap H locs → lv_has ls 2 [(0, .ref (g.2.2 + k0))] → W p l e { frames := 0, cells := 0, slots := 0, locals := 0 } s m args below meth c H locs 0 0 (MQ below (zb_Po g nc (zb_ce g I Jq O) none) args s 0 0 (zb_A g)) (F0 m 19 ls []) := by
    intro H locs ls hP hS hl
    refine lv_iconst (v := (0 : Int32)) hx hb dX8_empties_19 (by decide) ?_
    refine lv_istore_n (lv' := [(1, .int (0 : Int32)), (0, .ref (g.2.2 + k0))]) hx hb dX8_empties_20 rfl hl (by decide) rfl (fun ls hl => ?_)
    obtain ⟨J5, hJ5, hf⟩ := ob_e hf
    have K2 : ∀ (H : Heap) (locs : List Loc) (ls : Array Slot), va_P g.1 vwCl (zb_ws g nc (zb_ce g I J5 O)) H → va_S (zb_A g) s.heap H locs → lv_has ls 2 [] → W p l e { frames := 0, cells := 0, slots := 0, locals := 0 } s m args below meth c H locs 0 0 (MQ below (zb_Po g nc (zb_ce g I Jq O) none) args s 0 0 (zb_A g)) (F0 m 48 ls []) := by
      intro H locs ls hP hS hl
      cases hf
      exact zr_vret X hr hP hS rfl dX8_empties_48
    exact lpX8_empties_L21 hnJ l hk0 X hJ5 K2 hP hS (lv_sub hl [0, 1] rfl)
  exact lpX8_empties_L2 hnJ l hk0 X hJ2 K1 hP hS (lv_sub hl [0, 1] rfl)
set_option maxHeartbeats 4000000 in
set_option maxRecDepth 100000 in
theorem ct_X8_lays {g : zb_G} {nc : Nat} (hnJ : 318 ≤ nc) (l : Launch) {k0 : Nat} (hk0 : zb_JK k0 10 (zb_ln k0)) {a1 : Int32} {a2 : Int32} {a3 : Int32} {a4 : Int32} {a5 : Int32} {I J O : Mem} {Jq : Mem} (hf : fX8_lays k0 a1 a2 a3 a4 a5 J = some Jq) : zb_Ct l g nc yX8_lays cX8_lays 6 none 0 0 [.ref (g.2.2 + k0), .int a1, .int a2, .int a3, .int a4, .int a5] (zb_ce g I J O) none (zb_ce g I Jq O) := by
  refine zb_ofW (own := RX8) (by decide +kernel) rfl (Nat.le_of_ble_eq_true rfl) ?_
  intro p e s m args below meth c ls X hr hP hl
  have hx := X.1.1
  have hb := X.1.2.1
  have ho := X.1.2.2.2.1
  have hts := X.1.2.2.2.2
  have hZ := X.2.2.2
  have hl : lv_has ls 6 [(0, .ref (g.2.2 + k0)), (1, .int a1), (2, .int a2), (3, .int a3), (4, .int a4), (5, .int a5)] := hl
  have hS : va_S (zb_A g) s.heap s.heap [] := va_S.rf
  obtain ⟨H, hH⟩ : ∃ H, H = s.heap := ⟨_, rfl⟩
  obtain ⟨locs, hlocs⟩ : ∃ z : List Loc, z = [] := ⟨_, rfl⟩
  rw [← hH] at hP
  have hS : va_S (zb_A g) s.heap H locs := by rw [hH, hlocs]; exact hS
  show W p l e _ s m args below meth c s.heap [] 0 0 _ _
  rw [← hH, ← hlocs]
  rw [fX8_lays] at hf
  refine lv_aload_n hx hb dX8_lays_0 rfl (lv_at hl 0 rfl) ?_
  refine lv_bipush (v := (12 : Int32)) hx hb dX8_lays_1 (by decide) ?_
  refine lv_iload_n hx hb dX8_lays_3 rfl (lv_at hl 1 rfl) ?_
  refine lv_iadd hx hb dX8_lays_4 ?_
  refine lv_iload_n hx hb dX8_lays_5 rfl (lv_at hl 2 rfl) ?_
  obtain ⟨J1, hJ1, hf⟩ := ob_e hf
  refine zr_astJ X hP hS hnJ hk0 hJ1 dX8_lays_6 (fun H locs hP hS => ?_)
  refine lv_aload_n hx hb dX8_lays_7 rfl (lv_at hl 0 rfl) ?_
  refine lv_bipush (v := (22 : Int32)) hx hb dX8_lays_8 (by decide) ?_
  refine lv_iload_n hx hb dX8_lays_10 rfl (lv_at hl 1 rfl) ?_
  refine lv_iadd hx hb dX8_lays_11 ?_
  refine lv_iload_n hx hb dX8_lays_12 rfl (lv_at hl 3 rfl) ?_
  obtain ⟨J2, hJ2, hf⟩ := ob_e hf
  refine zr_astJ X hP hS hnJ hk0 hJ2 dX8_lays_13 (fun H locs hP hS => ?_)
  refine lv_aload_n hx hb dX8_lays_14 rfl (lv_at hl 0 rfl) ?_
  refine lv_bipush (v := (32 : Int32)) hx hb dX8_lays_15 (by decide) ?_
  refine lv_iload_n hx hb dX8_lays_17 rfl (lv_at hl 1 rfl) ?_
  refine lv_iadd hx hb dX8_lays_18 ?_
  refine lv_iload hx hb dX8_lays_19 (lv_at hl 4 rfl) ?_
  obtain ⟨J3, hJ3, hf⟩ := ob_e hf
  refine zr_astJ X hP hS hnJ hk0 hJ3 dX8_lays_21 (fun H locs hP hS => ?_)
  refine lv_aload_n hx hb dX8_lays_22 rfl (lv_at hl 0 rfl) ?_
  refine lv_bipush (v := (42 : Int32)) hx hb dX8_lays_23 (by decide) ?_
  refine lv_iload_n hx hb dX8_lays_25 rfl (lv_at hl 1 rfl) ?_
  refine lv_iadd hx hb dX8_lays_26 ?_
  refine lv_iload hx hb dX8_lays_27 (lv_at hl 5 rfl) ?_
  obtain ⟨J4, hJ4, hf⟩ := ob_e hf
  refine zr_astJ X hP hS hnJ hk0 hJ4 dX8_lays_29 (fun H locs hP hS => ?_)
  cases hf
  exact zr_vret X hr hP hS rfl dX8_lays_30
set_option maxHeartbeats 4000000 in
set_option maxRecDepth 100000 in
theorem ct_X8_within {g : zb_G} {nc : Nat} (l : Launch) {a0 : Int32} {a1 : Int32} {a2 : Int32} {I J O : Mem} {r9 : Int32} (hf : fX8_within a0 a1 a2 = some r9) : zb_Ct l g nc yX8_within cX8_within 3 (some .boolean) 0 0 [.int a0, .int a1, .int a2] (zb_ce g I J O) (some (.int r9)) (zb_ce g I J O) := by
  refine zb_ofW (own := RX8) (by decide +kernel) rfl (Nat.le_of_ble_eq_true rfl) ?_
  intro p e s m args below meth c ls X hr hP hl
  have hx := X.1.1
  have hb := X.1.2.1
  have ho := X.1.2.2.2.1
  have hts := X.1.2.2.2.2
  have hZ := X.2.2.2
  have hl : lv_has ls 3 [(0, .int a0), (1, .int a1), (2, .int a2)] := hl
  have hS : va_S (zb_A g) s.heap s.heap [] := va_S.rf
  obtain ⟨H, hH⟩ : ∃ H, H = s.heap := ⟨_, rfl⟩
  obtain ⟨locs, hlocs⟩ : ∃ z : List Loc, z = [] := ⟨_, rfl⟩
  rw [← hH] at hP
  have hS : va_S (zb_A g) s.heap H locs := by rw [hH, hlocs]; exact hS
  show W p l e _ s m args below meth c s.heap [] 0 0 _ _
  rw [← hH, ← hlocs]
  rw [fX8_within] at hf
  refine lv_iload_n hx hb dX8_within_0 rfl (lv_at hl 0 rfl) ?_
  refine lv_iload_n hx hb dX8_within_1 rfl (lv_at hl 1 rfl) ?_
  obtain ⟨x1, ht, hf⟩ := pl_e hf
  have K1 : ∀ (H : Heap) (locs : List Loc) (ls : Array Slot), va_P g.1 vwCl (zb_ws g nc (zb_ce g I J O)) H → va_S (zb_A g) s.heap H locs → lv_has ls 3 [] → W p l e { frames := 0, cells := 0, slots := 0, locals := 0 } s m args below meth c H locs 0 0 (MQ below (zb_Po g nc (zb_ce g I J O) (some (.int r9))) args s 0 0 (zb_A g)) (F0 m 15 ls [.int x1]) := by
    intro H locs ls hP hS hl
    obtain ⟨v9, hv9, hf⟩ := ob_e hf
    obtain ⟨hn9, he9⟩ := zbo_e hv9
    cases hf
    cases he9
    exact zr_zret X hr hn9 hP hS dX8_within_15
  have hf := ht
  refine lv_icmp_lt (tgt := 14) hx hb dX8_within_2 (by decide) (fun hc => ?_) (fun hc => ?_)
  · have hf := if_t hc hf
    refine lv_iconst (v := (0 : Int32)) hx hb dX8_within_14 (by decide) ?_
    cases hf
    exact K1 H locs ls hP hS (lv_sub hl [] rfl)
  · have hf := if_f hc hf
    refine lv_iload_n hx hb dX8_within_5 rfl (lv_at hl 0 rfl) ?_
    refine lv_iload_n hx hb dX8_within_6 rfl (lv_at hl 2 rfl) ?_
    refine lv_icmp_gt (tgt := 14) hx hb dX8_within_7 (by decide) (fun hc => ?_) (fun hc => ?_)
    · have hf := if_t hc hf
      refine lv_iconst (v := (0 : Int32)) hx hb dX8_within_14 (by decide) ?_
      cases hf
      exact K1 H locs ls hP hS (lv_sub hl [] rfl)
    · have hf := if_f hc hf
      refine lv_iconst (v := (1 : Int32)) hx hb dX8_within_10 (by decide) ?_
      refine lv_goto (tgt := 15) hx hb dX8_within_11 (by decide) ?_
      cases hf
      exact K1 H locs ls hP hS (lv_sub hl [] rfl)
set_option maxHeartbeats 4000000 in
set_option maxRecDepth 100000 in
theorem ct_X8_has {g : zb_G} {nc : Nat} (l : Launch) {a0 : Int32} {a1 : Int32} {I J O : Mem} {r9 : Int32} (hf : fX8_has a0 a1 = some r9) : zb_Ct l g nc yX8_has cX8_has 2 (some .boolean) 0 0 [.int a0, .int a1] (zb_ce g I J O) (some (.int r9)) (zb_ce g I J O) := by
  refine zb_ofW (own := RX8) (by decide +kernel) rfl (Nat.le_of_ble_eq_true rfl) ?_
  intro p e s m args below meth c ls X hr hP hl
  have hx := X.1.1
  have hb := X.1.2.1
  have ho := X.1.2.2.2.1
  have hts := X.1.2.2.2.2
  have hZ := X.2.2.2
  have hl : lv_has ls 2 [(0, .int a0), (1, .int a1)] := hl
  have hS : va_S (zb_A g) s.heap s.heap [] := va_S.rf
  obtain ⟨H, hH⟩ : ∃ H, H = s.heap := ⟨_, rfl⟩
  obtain ⟨locs, hlocs⟩ : ∃ z : List Loc, z = [] := ⟨_, rfl⟩
  rw [← hH] at hP
  have hS : va_S (zb_A g) s.heap H locs := by rw [hH, hlocs]; exact hS
  show W p l e _ s m args below meth c s.heap [] 0 0 _ _
  rw [← hH, ← hlocs]
  rw [fX8_has] at hf
  refine lv_iload_n hx hb dX8_has_0 rfl (lv_at hl 0 rfl) ?_
  refine lv_iload_n hx hb dX8_has_1 rfl (lv_at hl 1 rfl) ?_
  refine lv_ishr hx hb dX8_has_2 ?_
  refine lv_iconst (v := (1 : Int32)) hx hb dX8_has_3 (by decide) ?_
  refine lv_iand hx hb dX8_has_4 ?_
  refine lv_iconst (v := (1 : Int32)) hx hb dX8_has_5 (by decide) ?_
  obtain ⟨x1, ht, hf⟩ := pl_e hf
  have K1 : ∀ (H : Heap) (locs : List Loc) (ls : Array Slot), va_P g.1 vwCl (zb_ws g nc (zb_ce g I J O)) H → va_S (zb_A g) s.heap H locs → lv_has ls 2 [] → W p l e { frames := 0, cells := 0, slots := 0, locals := 0 } s m args below meth c H locs 0 0 (MQ below (zb_Po g nc (zb_ce g I J O) (some (.int r9))) args s 0 0 (zb_A g)) (F0 m 14 ls [.int x1]) := by
    intro H locs ls hP hS hl
    obtain ⟨v9, hv9, hf⟩ := ob_e hf
    obtain ⟨hn9, he9⟩ := zbo_e hv9
    cases hf
    cases he9
    exact zr_zret X hr hn9 hP hS dX8_has_14
  have hf := ht
  refine lv_icmp_ne (tgt := 13) hx hb dX8_has_6 (by decide) (fun hc => ?_) (fun hc => ?_)
  · have hf := if_f hc hf
    refine lv_iconst (v := (0 : Int32)) hx hb dX8_has_13 (by decide) ?_
    cases hf
    exact K1 H locs ls hP hS (lv_sub hl [] rfl)
  · have hf := if_t hc hf
    refine lv_iconst (v := (1 : Int32)) hx hb dX8_has_9 (by decide) ?_
    refine lv_goto (tgt := 14) hx hb dX8_has_10 (by decide) ?_
    cases hf
    exact K1 H locs ls hP hS (lv_sub hl [] rfl)
set_option maxHeartbeats 4000000 in
set_option maxRecDepth 100000 in
theorem lpX8_bits_L4 {g : zb_G} {nc : Nat} (l : Launch) {a0 : Int32} {I J O : Mem} {p : Program} {e : Env} {s : State} {m : MethodId} {args : Array Value} {below : List Frame} {meth : Method} {c : Code} {Q : State → Prop} (X : zb_X g p m c cX8_bits 3 s args RX8 meth) : ∀ {n9 : Nat} {a2 : Int32} {a1 : Int32} {z1 : Int32} {H : Heap} {locs : List Loc} {ls : Array Slot}, fX8_bits_L4 a0 n9 a2 a1 = some z1 → (∀ (H : Heap) (locs : List Loc) (ls : Array Slot), va_P g.1 vwCl (zb_ws g nc (zb_ce g I J O)) H → va_S (zb_A g) s.heap H locs → lv_has ls 3 [(1, .int z1)] → W p l e { frames := 0, cells := 0, slots := 0, locals := 0 } s m args below meth c H locs 0 0 Q (F0 m 24 ls [])) → va_P g.1 vwCl (zb_ws g nc (zb_ce g I J O)) H → va_S (zb_A g) s.heap H locs → lv_has ls 3 [(2, .int a2), (1, .int a1), (0, .int a0)] → W p l e { frames := 0, cells := 0, slots := 0, locals := 0 } s m args below meth c H locs 0 0 Q (F0 m 4 ls []) := by
  have hx := X.1.1
  have hb := X.1.2.1
  have ho := X.1.2.2.2.1
  have hts := X.1.2.2.2.2
  have hZ := X.2.2.2
  intro n9
  induction n9 with
  | zero =>
    intro a2 a1 z1 H locs ls hf
    exact nomatch hf
  | succ n9 ih =>
    intro a2 a1 z1 H locs ls hf KK hP hS hl
    rw [fX8_bits_L4] at hf
    refine lv_iload_n hx hb dX8_bits_4 rfl (lv_at hl 0 rfl) ?_
    refine lv_bipush (v := (10 : Int32)) hx hb dX8_bits_5 (by decide) ?_
    refine lv_icmp_ge (tgt := 24) hx hb dX8_bits_7 (by decide) (fun hc => ?_) (fun hc => ?_)
    · have hf := if_t hc hf
      cases hf
      exact KK H locs ls hP hS (lv_sub hl [1] rfl)
    · have hf := if_f hc hf
      refine lv_iload_n hx hb dX8_bits_10 rfl (lv_at hl 1 rfl) ?_
      refine lv_iload_n hx hb dX8_bits_11 rfl (lv_at hl 2 rfl) ?_
      refine lv_iload_n hx hb dX8_bits_12 rfl (lv_at hl 0 rfl) ?_
      refine lv_ishr hx hb dX8_bits_13 ?_
      refine lv_iconst (v := (1 : Int32)) hx hb dX8_bits_14 (by decide) ?_
      refine lv_iand hx hb dX8_bits_15 ?_
      refine lv_iadd hx hb dX8_bits_16 ?_
      refine lv_istore_n (lv' := [(1, .int (a1 + ((a0 >>> (a2 &&& 31)) &&& (1 : Int32)))), (2, .int a2), (0, .int a0)]) hx hb dX8_bits_17 rfl hl (by decide) rfl (fun ls hl => ?_)
      refine lv_iinc (v := (a2 + (1 : Int32))) (lv' := [(2, .int (a2 + (1 : Int32))), (1, .int (a1 + ((a0 >>> (a2 &&& 31)) &&& (1 : Int32)))), (0, .int a0)]) hx hb dX8_bits_18 hl (k := 1) rfl rfl (by decide) rfl (fun ls hl => ?_)
      refine lv_goto (tgt := 4) hx hb dX8_bits_21 (by decide) ?_
      exact ih hf KK hP hS (lv_sub hl [0, 1, 2] rfl)
set_option maxHeartbeats 4000000 in
set_option maxRecDepth 100000 in
theorem ct_X8_bits {g : zb_G} {nc : Nat} (l : Launch) {a0 : Int32} {I J O : Mem} {r9 : Int32} (hf : fX8_bits a0 = some r9) : zb_Ct l g nc yX8_bits cX8_bits 3 (some .int) 0 0 [.int a0] (zb_ce g I J O) (some (.int r9)) (zb_ce g I J O) := by
  refine zb_ofW (own := RX8) (by decide +kernel) rfl (Nat.le_of_ble_eq_true rfl) ?_
  intro p e s m args below meth c ls X hr hP hl
  have hx := X.1.1
  have hb := X.1.2.1
  have ho := X.1.2.2.2.1
  have hts := X.1.2.2.2.2
  have hZ := X.2.2.2
  have hl : lv_has ls 3 [(0, .int a0)] := hl
  have hS : va_S (zb_A g) s.heap s.heap [] := va_S.rf
  obtain ⟨H, hH⟩ : ∃ H, H = s.heap := ⟨_, rfl⟩
  obtain ⟨locs, hlocs⟩ : ∃ z : List Loc, z = [] := ⟨_, rfl⟩
  rw [← hH] at hP
  have hS : va_S (zb_A g) s.heap H locs := by rw [hH, hlocs]; exact hS
  show W p l e _ s m args below meth c s.heap [] 0 0 _ _
  rw [← hH, ← hlocs]
  rw [fX8_bits] at hf
  refine lv_iconst (v := (0 : Int32)) hx hb dX8_bits_0 (by decide) ?_
  refine lv_istore_n (lv' := [(1, .int (0 : Int32)), (0, .int a0)]) hx hb dX8_bits_1 rfl hl (by decide) rfl (fun ls hl => ?_)
  refine lv_iconst (v := (0 : Int32)) hx hb dX8_bits_2 (by decide) ?_
  refine lv_istore_n (lv' := [(2, .int (0 : Int32)), (1, .int (0 : Int32)), (0, .int a0)]) hx hb dX8_bits_3 rfl hl (by decide) rfl (fun ls hl => ?_)
  obtain ⟨x1, hx1, hf⟩ := ob_e hf
  have K1 : ∀ (H : Heap) (locs : List Loc) (ls : Array Slot), va_P g.1 vwCl (zb_ws g nc (zb_ce g I J O)) H → va_S (zb_A g) s.heap H locs → lv_has ls 3 [(1, .int x1)] → W p l e { frames := 0, cells := 0, slots := 0, locals := 0 } s m args below meth c H locs 0 0 (MQ below (zb_Po g nc (zb_ce g I J O) (some (.int r9))) args s 0 0 (zb_A g)) (F0 m 24 ls []) := by
    intro H locs ls hP hS hl
    refine lv_iload_n hx hb dX8_bits_24 rfl (lv_at hl 0 rfl) ?_
    cases hf
    exact zr_iret X hr hP hS dX8_bits_25
  exact lpX8_bits_L4  l  X hx1 K1 hP hS (lv_sub hl [0, 1, 2] rfl)
set_option maxHeartbeats 4000000 in
set_option maxRecDepth 100000 in
theorem ct_X8_off {g : zb_G} {nc : Nat} (l : Launch) {a0 : Int32} {a1 : Int32} {I J O : Mem} {r9 : Int32} (hf : fX8_off a0 a1 = some r9) : zb_Ct l g nc yX8_off cX8_off 2 (some .int) 0 0 [.int a0, .int a1] (zb_ce g I J O) (some (.int r9)) (zb_ce g I J O) := by
  refine zb_ofW (own := RX8) (by decide +kernel) rfl (Nat.le_of_ble_eq_true rfl) ?_
  intro p e s m args below meth c ls X hr hP hl
  have hx := X.1.1
  have hb := X.1.2.1
  have ho := X.1.2.2.2.1
  have hts := X.1.2.2.2.2
  have hZ := X.2.2.2
  have hl : lv_has ls 2 [(0, .int a0), (1, .int a1)] := hl
  have hS : va_S (zb_A g) s.heap s.heap [] := va_S.rf
  obtain ⟨H, hH⟩ : ∃ H, H = s.heap := ⟨_, rfl⟩
  obtain ⟨locs, hlocs⟩ : ∃ z : List Loc, z = [] := ⟨_, rfl⟩
  rw [← hH] at hP
  have hS : va_S (zb_A g) s.heap H locs := by rw [hH, hlocs]; exact hS
  show W p l e _ s m args below meth c s.heap [] 0 0 _ _
  rw [← hH, ← hlocs]
  rw [fX8_off] at hf
  refine lv_iload_n hx hb dX8_off_0 rfl (lv_at hl 0 rfl) ?_
  refine lv_iload_n hx hb dX8_off_1 rfl (lv_at hl 1 rfl) ?_
  obtain ⟨x1, ht, hf⟩ := pl_e hf
  have K1 : ∀ (H : Heap) (locs : List Loc) (ls : Array Slot), va_P g.1 vwCl (zb_ws g nc (zb_ce g I J O)) H → va_S (zb_A g) s.heap H locs → lv_has ls 2 [] → W p l e { frames := 0, cells := 0, slots := 0, locals := 0 } s m args below meth c H locs 0 0 (MQ below (zb_Po g nc (zb_ce g I J O) (some (.int r9))) args s 0 0 (zb_A g)) (F0 m 14 ls [.int x1]) := by
    intro H locs ls hP hS hl
    cases hf
    exact zr_iret X hr hP hS dX8_off_14
  have hf := ht
  refine lv_icmp_ge (tgt := 11) hx hb dX8_off_2 (by decide) (fun hc => ?_) (fun hc => ?_)
  · have hf := if_t hc hf
    refine lv_iload_n hx hb dX8_off_11 rfl (lv_at hl 0 rfl) ?_
    refine lv_iload_n hx hb dX8_off_12 rfl (lv_at hl 1 rfl) ?_
    refine lv_isub hx hb dX8_off_13 ?_
    cases hf
    exact K1 H locs ls hP hS (lv_sub hl [] rfl)
  · have hf := if_f hc hf
    refine lv_iload_n hx hb dX8_off_5 rfl (lv_at hl 1 rfl) ?_
    refine lv_iload_n hx hb dX8_off_6 rfl (lv_at hl 0 rfl) ?_
    refine lv_isub hx hb dX8_off_7 ?_
    refine lv_goto (tgt := 14) hx hb dX8_off_8 (by decide) ?_
    cases hf
    exact K1 H locs ls hP hS (lv_sub hl [] rfl)
set_option maxHeartbeats 4000000 in
set_option maxRecDepth 100000 in
theorem ct_X8_throwsIf {g : zb_G} {nc : Nat} (hnJ : 318 ≤ nc) (l : Launch) {a1 : Int32} {a2 : Int32} {I J O : Mem} {r9 : Int32} {Jq : Mem} (hf : fX8_throwsIf a1 a2 J = some (r9, Jq)) : zb_Ct l g nc yX8_throwsIf cX8_throwsIf 3 (some .boolean) 0 0 [.ref (g.2.2 + 306), .int a1, .int a2] (zb_ce g I J O) (some (.int r9)) (zb_ce g I Jq O) := by
  refine zb_ofW (own := RX8) (by decide +kernel) rfl (Nat.le_of_ble_eq_true rfl) ?_
  intro p e s m args below meth c ls X hr hP hl
  have hx := X.1.1
  have hb := X.1.2.1
  have ho := X.1.2.2.2.1
  have hts := X.1.2.2.2.2
  have hZ := X.2.2.2
  have hl : lv_has ls 3 [(0, .ref (g.2.2 + 306)), (1, .int a1), (2, .int a2)] := hl
  have hS : va_S (zb_A g) s.heap s.heap [] := va_S.rf
  obtain ⟨H, hH⟩ : ∃ H, H = s.heap := ⟨_, rfl⟩
  obtain ⟨locs, hlocs⟩ : ∃ z : List Loc, z = [] := ⟨_, rfl⟩
  rw [← hH] at hP
  have hS : va_S (zb_A g) s.heap H locs := by rw [hH, hlocs]; exact hS
  show W p l e _ s m args below meth c s.heap [] 0 0 _ _
  rw [← hH, ← hlocs]
  rw [fX8_throwsIf] at hf
  refine lv_aload_n hx hb dX8_throwsIf_0 rfl (lv_at hl 0 rfl) ?_
  refine gf_X8_57 X hnJ hP zk_306 dX8_throwsIf_1 ?_
  obtain ⟨J1, ht, hf⟩ := pl_e hf
  have K1 : ∀ (H : Heap) (locs : List Loc) (ls : Array Slot), va_P g.1 vwCl (zb_ws g nc (zb_ce g I J1 O)) H → va_S (zb_A g) s.heap H locs → lv_has ls 3 [(0, .ref (g.2.2 + 306))] → W p l e { frames := 0, cells := 0, slots := 0, locals := 0 } s m args below meth c H locs 0 0 (MQ below (zb_Po g nc (zb_ce g I Jq O) (some (.int r9))) args s 0 0 (zb_A g)) (F0 m 16 ls []) := by
    intro H locs ls hP hS hl
    refine lv_aload_n hx hb dX8_throwsIf_16 rfl (lv_at hl 0 rfl) ?_
    refine gf_X8_57 X hnJ hP zk_306 dX8_throwsIf_17 ?_
    obtain ⟨x2, ht, hf⟩ := pl_e hf
    have K2 : ∀ (H : Heap) (locs : List Loc) (ls : Array Slot), va_P g.1 vwCl (zb_ws g nc (zb_ce g I J1 O)) H → va_S (zb_A g) s.heap H locs → lv_has ls 3 [] → W p l e { frames := 0, cells := 0, slots := 0, locals := 0 } s m args below meth c H locs 0 0 (MQ below (zb_Po g nc (zb_ce g I Jq O) (some (.int r9))) args s 0 0 (zb_A g)) (F0 m 28 ls [.int x2]) := by
      intro H locs ls hP hS hl
      obtain ⟨v9, hv9, hf⟩ := ob_e hf
      obtain ⟨hn9, he9⟩ := zbo_e hv9
      cases hf
      cases he9
      exact zr_zret X hr hn9 hP hS dX8_throwsIf_28
    have hf := ht
    refine lv_if_le (tgt := 27) hx hb dX8_throwsIf_20 (by decide) (fun hc => ?_) (fun hc => ?_)
    · have hf := if_t hc hf
      refine lv_iconst (v := (0 : Int32)) hx hb dX8_throwsIf_27 (by decide) ?_
      cases hf
      exact K2 H locs ls hP hS (lv_sub hl [] rfl)
    · have hf := if_f hc hf
      refine lv_iconst (v := (1 : Int32)) hx hb dX8_throwsIf_23 (by decide) ?_
      refine lv_goto (tgt := 28) hx hb dX8_throwsIf_24 (by decide) ?_
      cases hf
      exact K2 H locs ls hP hS (lv_sub hl [] rfl)
  have hf := ht
  refine lv_if_ne (tgt := 16) hx hb dX8_throwsIf_4 (by decide) (fun hc => ?_) (fun hc => ?_)
  · have hf := if_f hc hf
    cases hf
    exact K1 H locs ls hP hS (lv_sub hl [0] rfl)
  · have hf := if_t hc hf
    refine lv_iload_n hx hb dX8_throwsIf_7 rfl (lv_at hl 1 rfl) ?_
    refine lv_if_eq (tgt := 16) hx hb dX8_throwsIf_8 (by decide) (fun hc => ?_) (fun hc => ?_)
    · have hf := if_t hc hf
      cases hf
      exact K1 H locs ls hP hS (lv_sub hl [0] rfl)
    · have hf := if_f hc hf
      refine lv_aload_n hx hb dX8_throwsIf_11 rfl (lv_at hl 0 rfl) ?_
      refine lv_iload_n hx hb dX8_throwsIf_12 rfl (lv_at hl 2 rfl) ?_
      refine pf_X8_57 X hnJ hP hS zk_306 dX8_throwsIf_13 (fun H locs hP hS => ?_)
      cases hf
      exact K1 H locs ls hP hS (lv_sub hl [0] rfl)
set_option maxHeartbeats 4000000 in
set_option maxRecDepth 100000 in
theorem ct_X8_noBuoy {g : zb_G} {nc : Nat} (hnJ : 318 ≤ nc) (l : Launch) {a1 : Int32} {I J O : Mem} {r9 : Int32} {Jq : Mem} (hf : fX8_noBuoy a1 J = some (r9, Jq)) : zb_Ct l g nc yX8_noBuoy cX8_noBuoy 2 (some .boolean) 1 22 [.ref (g.2.2 + 306), .int a1] (zb_ce g I J O) (some (.int r9)) (zb_ce g I Jq O) := by
  refine zb_ofW (own := RX8) (by decide +kernel) rfl (Nat.le_of_ble_eq_true rfl) ?_
  intro p e s m args below meth c ls X hr hP hl
  have hx := X.1.1
  have hb := X.1.2.1
  have ho := X.1.2.2.2.1
  have hts := X.1.2.2.2.2
  have hZ := X.2.2.2
  have hl : lv_has ls 2 [(0, .ref (g.2.2 + 306)), (1, .int a1)] := hl
  have hS : va_S (zb_A g) s.heap s.heap [] := va_S.rf
  obtain ⟨H, hH⟩ : ∃ H, H = s.heap := ⟨_, rfl⟩
  obtain ⟨locs, hlocs⟩ : ∃ z : List Loc, z = [] := ⟨_, rfl⟩
  rw [← hH] at hP
  have hS : va_S (zb_A g) s.heap H locs := by rw [hH, hlocs]; exact hS
  show W p l e _ s m args below meth c s.heap [] 0 0 _ _
  rw [← hH, ← hlocs]
  rw [fX8_noBuoy] at hf
  refine lv_aload_n hx hb dX8_noBuoy_0 rfl (lv_at hl 0 rfl) ?_
  refine lv_iload_n hx hb dX8_noBuoy_1 rfl (lv_at hl 1 rfl) ?_
  refine lv_iconst (v := (0 : Int32)) hx hb dX8_noBuoy_2 (by decide) ?_
  refine lv_aload_n hx hb dX8_noBuoy_3 rfl (lv_at hl 0 rfl) ?_
  refine gf_X8_7 X hnJ hP zk_306 dX8_noBuoy_4 ?_
  refine lv_iconst (v := (0 : Int32)) hx hb dX8_noBuoy_7 (by decide) ?_
  obtain ⟨x1, hx1, hf⟩ := ob_e hf
  refine zr_aldJ X hP hnJ zk_307 hx1 dX8_noBuoy_8 ?_
  refine lv_iconst (v := (1 : Int32)) hx hb dX8_noBuoy_9 (by decide) ?_
  refine lv_isub hx hb dX8_noBuoy_10 ?_
  obtain ⟨x2, hx2, hf⟩ := ob_e hf
  refine zr_cSi (rest := [.ref (g.2.2 + 306)]) (As := [.int a1, .int (0 : Int32), .int (x1 - (1 : Int32))]) X hP hS (ct_X8_within (g := g) (nc := nc) (I := I) (J := J) (O := O)  l  hx2) cw_X8_60  rfl hl.1 (Nat.le_of_ble_eq_true rfl) ⟨Nat.le_of_ble_eq_true rfl, Nat.le_of_ble_eq_true rfl⟩ ⟨Nat.le_of_ble_eq_true rfl, Nat.le_of_ble_eq_true rfl⟩ dX8_noBuoy_11 rfl (fun H locs hP hS => ?_)
  obtain ⟨x3, ht, hf⟩ := pl_e hf
  have K1 : ∀ (H : Heap) (locs : List Loc) (ls : Array Slot), va_P g.1 vwCl (zb_ws g nc (zb_ce g I J O)) H → va_S (zb_A g) s.heap H locs → lv_has ls 2 [] → W p l e { frames := 1, cells := 0, slots := 0, locals := 22 } s m args below meth c H locs 0 0 (MQ below (zb_Po g nc (zb_ce g I Jq O) (some (.int r9))) args s 0 0 (zb_A g)) (F0 m 22 ls [.int x3, .ref (g.2.2 + 306)]) := by
    intro H locs ls hP hS hl
    refine lv_iconst (v := (1 : Int32)) hx hb dX8_noBuoy_22 (by decide) ?_
    obtain ⟨x4, J5, hx4_J5, hf⟩ := ob2_e hf
    refine zr_cVi (rest := []) (As := [.int x3, .int (1 : Int32)]) X hP hS (ct_X8_throwsIf (g := g) (nc := nc) (I := I) (J := J) (O := O) hnJ l  hx4_J5) cw_X8_64 (zr_recv X hP (Nat.lt_of_lt_of_le (zk_306).2.1 hnJ) (zb_ceJo zk_306 (by decide)) rfl) rfl hl.1 (Nat.le_of_ble_eq_true rfl) ⟨Nat.le_of_ble_eq_true rfl, Nat.le_of_ble_eq_true rfl⟩ ⟨Nat.le_of_ble_eq_true rfl, Nat.le_of_ble_eq_true rfl⟩ dX8_noBuoy_23 rfl (fun H locs hP hS => ?_)
    obtain ⟨v9, hv9, hf⟩ := ob_e hf
    obtain ⟨hn9, he9⟩ := zbo_e hv9
    cases hf
    cases he9
    exact zr_zret X hr hn9 hP hS dX8_noBuoy_26
  have hf := ht
  refine lv_if_ne (tgt := 21) hx hb dX8_noBuoy_14 (by decide) (fun hc => ?_) (fun hc => ?_)
  · have hf := if_f hc hf
    refine lv_iconst (v := (0 : Int32)) hx hb dX8_noBuoy_21 (by decide) ?_
    cases hf
    exact K1 H locs ls hP hS (lv_sub hl [] rfl)
  · have hf := if_t hc hf
    refine lv_iconst (v := (1 : Int32)) hx hb dX8_noBuoy_17 (by decide) ?_
    refine lv_goto (tgt := 22) hx hb dX8_noBuoy_18 (by decide) ?_
    cases hf
    exact K1 H locs ls hP hS (lv_sub hl [] rfl)
set_option maxHeartbeats 4000000 in
set_option maxRecDepth 100000 in
theorem ct_X8_noRope {g : zb_G} {nc : Nat} (hnJ : 318 ≤ nc) (l : Launch) {a1 : Int32} {I J O : Mem} {r9 : Int32} {Jq : Mem} (hf : fX8_noRope a1 J = some (r9, Jq)) : zb_Ct l g nc yX8_noRope cX8_noRope 2 (some .boolean) 1 22 [.ref (g.2.2 + 306), .int a1] (zb_ce g I J O) (some (.int r9)) (zb_ce g I Jq O) := by
  refine zb_ofW (own := RX8) (by decide +kernel) rfl (Nat.le_of_ble_eq_true rfl) ?_
  intro p e s m args below meth c ls X hr hP hl
  have hx := X.1.1
  have hb := X.1.2.1
  have ho := X.1.2.2.2.1
  have hts := X.1.2.2.2.2
  have hZ := X.2.2.2
  have hl : lv_has ls 2 [(0, .ref (g.2.2 + 306)), (1, .int a1)] := hl
  have hS : va_S (zb_A g) s.heap s.heap [] := va_S.rf
  obtain ⟨H, hH⟩ : ∃ H, H = s.heap := ⟨_, rfl⟩
  obtain ⟨locs, hlocs⟩ : ∃ z : List Loc, z = [] := ⟨_, rfl⟩
  rw [← hH] at hP
  have hS : va_S (zb_A g) s.heap H locs := by rw [hH, hlocs]; exact hS
  show W p l e _ s m args below meth c s.heap [] 0 0 _ _
  rw [← hH, ← hlocs]
  rw [fX8_noRope] at hf
  refine lv_aload_n hx hb dX8_noRope_0 rfl (lv_at hl 0 rfl) ?_
  refine lv_iload_n hx hb dX8_noRope_1 rfl (lv_at hl 1 rfl) ?_
  refine lv_iconst (v := (0 : Int32)) hx hb dX8_noRope_2 (by decide) ?_
  refine lv_aload_n hx hb dX8_noRope_3 rfl (lv_at hl 0 rfl) ?_
  refine gf_X8_7 X hnJ hP zk_306 dX8_noRope_4 ?_
  refine lv_iconst (v := (0 : Int32)) hx hb dX8_noRope_7 (by decide) ?_
  obtain ⟨x1, hx1, hf⟩ := ob_e hf
  refine zr_aldJ X hP hnJ zk_307 hx1 dX8_noRope_8 ?_
  refine lv_iconst (v := (2 : Int32)) hx hb dX8_noRope_9 (by decide) ?_
  refine lv_isub hx hb dX8_noRope_10 ?_
  obtain ⟨x2, hx2, hf⟩ := ob_e hf
  refine zr_cSi (rest := [.ref (g.2.2 + 306)]) (As := [.int a1, .int (0 : Int32), .int (x1 - (2 : Int32))]) X hP hS (ct_X8_within (g := g) (nc := nc) (I := I) (J := J) (O := O)  l  hx2) cw_X8_60  rfl hl.1 (Nat.le_of_ble_eq_true rfl) ⟨Nat.le_of_ble_eq_true rfl, Nat.le_of_ble_eq_true rfl⟩ ⟨Nat.le_of_ble_eq_true rfl, Nat.le_of_ble_eq_true rfl⟩ dX8_noRope_11 rfl (fun H locs hP hS => ?_)
  obtain ⟨x3, ht, hf⟩ := pl_e hf
  have K1 : ∀ (H : Heap) (locs : List Loc) (ls : Array Slot), va_P g.1 vwCl (zb_ws g nc (zb_ce g I J O)) H → va_S (zb_A g) s.heap H locs → lv_has ls 2 [] → W p l e { frames := 1, cells := 0, slots := 0, locals := 22 } s m args below meth c H locs 0 0 (MQ below (zb_Po g nc (zb_ce g I Jq O) (some (.int r9))) args s 0 0 (zb_A g)) (F0 m 22 ls [.int x3, .ref (g.2.2 + 306)]) := by
    intro H locs ls hP hS hl
    refine lv_iconst (v := (1 : Int32)) hx hb dX8_noRope_22 (by decide) ?_
    obtain ⟨x4, J5, hx4_J5, hf⟩ := ob2_e hf
    refine zr_cVi (rest := []) (As := [.int x3, .int (1 : Int32)]) X hP hS (ct_X8_throwsIf (g := g) (nc := nc) (I := I) (J := J) (O := O) hnJ l  hx4_J5) cw_X8_64 (zr_recv X hP (Nat.lt_of_lt_of_le (zk_306).2.1 hnJ) (zb_ceJo zk_306 (by decide)) rfl) rfl hl.1 (Nat.le_of_ble_eq_true rfl) ⟨Nat.le_of_ble_eq_true rfl, Nat.le_of_ble_eq_true rfl⟩ ⟨Nat.le_of_ble_eq_true rfl, Nat.le_of_ble_eq_true rfl⟩ dX8_noRope_23 rfl (fun H locs hP hS => ?_)
    obtain ⟨v9, hv9, hf⟩ := ob_e hf
    obtain ⟨hn9, he9⟩ := zbo_e hv9
    cases hf
    cases he9
    exact zr_zret X hr hn9 hP hS dX8_noRope_26
  have hf := ht
  refine lv_if_ne (tgt := 21) hx hb dX8_noRope_14 (by decide) (fun hc => ?_) (fun hc => ?_)
  · have hf := if_f hc hf
    refine lv_iconst (v := (0 : Int32)) hx hb dX8_noRope_21 (by decide) ?_
    cases hf
    exact K1 H locs ls hP hS (lv_sub hl [] rfl)
  · have hf := if_t hc hf
    refine lv_iconst (v := (1 : Int32)) hx hb dX8_noRope_17 (by decide) ?_
    refine lv_goto (tgt := 22) hx hb dX8_noRope_18 (by decide) ?_
    cases hf
    exact K1 H locs ls hP hS (lv_sub hl [] rfl)
set_option maxHeartbeats 4000000 in
set_option maxRecDepth 100000 in
theorem lpX8_bytesIn_L5 {g : zb_G} {nc : Nat} (l : Launch) {a0 : Int32} {I J O : Mem} {p : Program} {e : Env} {s : State} {m : MethodId} {args : Array Value} {below : List Frame} {meth : Method} {c : Code} {Q : State → Prop} (X : zb_X g p m c cX8_bytesIn 3 s args RX8 meth) : ∀ {n9 : Nat} {a2 : Int32} {a1 : Int32} {z1 : Int32} {H : Heap} {locs : List Loc} {ls : Array Slot}, fX8_bytesIn_L5 a0 n9 a2 a1 = some z1 → (∀ (H : Heap) (locs : List Loc) (ls : Array Slot), va_P g.1 vwCl (zb_ws g nc (zb_ce g I J O)) H → va_S (zb_A g) s.heap H locs → lv_has ls 3 [(1, .int z1)] → W p l e { frames := 0, cells := 0, slots := 0, locals := 0 } s m args below meth c H locs 0 0 Q (F0 m 33 ls [])) → va_P g.1 vwCl (zb_ws g nc (zb_ce g I J O)) H → va_S (zb_A g) s.heap H locs → lv_has ls 3 [(2, .int a2), (1, .int a1), (0, .int a0)] → W p l e { frames := 0, cells := 0, slots := 0, locals := 0 } s m args below meth c H locs 0 0 Q (F0 m 5 ls []) := by
  have hx := X.1.1
  have hb := X.1.2.1
  have ho := X.1.2.2.2.1
  have hts := X.1.2.2.2.2
  have hZ := X.2.2.2
  intro n9
  induction n9 with
  | zero =>
    intro a2 a1 z1 H locs ls hf
    exact nomatch hf
  | succ n9 ih =>
    intro a2 a1 z1 H locs ls hf KK hP hS hl
    rw [fX8_bytesIn_L5] at hf
    refine lv_iload_n hx hb dX8_bytesIn_5 rfl (lv_at hl 0 rfl) ?_
    refine lv_if_lt (tgt := 33) hx hb dX8_bytesIn_6 (by decide) (fun hc => ?_) (fun hc => ?_)
    · have hf := if_t hc hf
      cases hf
      exact KK H locs ls hP hS (lv_sub hl [1] rfl)
    · have hf := if_f hc hf
      refine lv_iload_n hx hb dX8_bytesIn_9 rfl (lv_at hl 1 rfl) ?_
      refine lv_iload_n hx hb dX8_bytesIn_10 rfl (lv_at hl 2 rfl) ?_
      refine lv_iload_n hx hb dX8_bytesIn_11 rfl (lv_at hl 0 rfl) ?_
      refine lv_ishr hx hb dX8_bytesIn_12 ?_
      refine lv_sipush (v := (255 : Int32)) hx hb dX8_bytesIn_13 (by decide) ?_
      refine lv_iand hx hb dX8_bytesIn_16 ?_
      obtain ⟨x1, ht, hf⟩ := pl_e hf
      have K1 : ∀ (H : Heap) (locs : List Loc) (ls : Array Slot), va_P g.1 vwCl (zb_ws g nc (zb_ce g I J O)) H → va_S (zb_A g) s.heap H locs → lv_has ls 3 [(2, .int a2), (0, .int a0)] → W p l e { frames := 0, cells := 0, slots := 0, locals := 0 } s m args below meth c H locs 0 0 Q (F0 m 25 ls [.int x1, .int a1]) := by
        intro H locs ls hP hS hl
        refine lv_iadd hx hb dX8_bytesIn_25 ?_
        refine lv_istore_n (lv' := [(1, .int (a1 + x1)), (2, .int a2), (0, .int a0)]) hx hb dX8_bytesIn_26 rfl hl (by decide) rfl (fun ls hl => ?_)
        refine lv_iinc (v := (a2 + (-8 : Int32))) (lv' := [(2, .int (a2 + (-8 : Int32))), (1, .int (a1 + x1)), (0, .int a0)]) hx hb dX8_bytesIn_27 hl (k := 1) rfl rfl (by decide) rfl (fun ls hl => ?_)
        refine lv_goto (tgt := 5) hx hb dX8_bytesIn_30 (by decide) ?_
        exact ih hf KK hP hS (lv_sub hl [0, 1, 2] rfl)
      have hf := ht
      refine lv_if_eq (tgt := 24) hx hb dX8_bytesIn_17 (by decide) (fun hc => ?_) (fun hc => ?_)
      · have hf := if_t hc hf
        refine lv_iconst (v := (0 : Int32)) hx hb dX8_bytesIn_24 (by decide) ?_
        cases hf
        exact K1 H locs ls hP hS (lv_sub hl [0, 2] rfl)
      · have hf := if_f hc hf
        refine lv_iconst (v := (1 : Int32)) hx hb dX8_bytesIn_20 (by decide) ?_
        refine lv_goto (tgt := 25) hx hb dX8_bytesIn_21 (by decide) ?_
        cases hf
        exact K1 H locs ls hP hS (lv_sub hl [0, 2] rfl)
set_option maxHeartbeats 4000000 in
set_option maxRecDepth 100000 in
theorem ct_X8_bytesIn {g : zb_G} {nc : Nat} (l : Launch) {a0 : Int32} {I J O : Mem} {r9 : Int32} (hf : fX8_bytesIn a0 = some r9) : zb_Ct l g nc yX8_bytesIn cX8_bytesIn 3 (some .int) 0 0 [.int a0] (zb_ce g I J O) (some (.int r9)) (zb_ce g I J O) := by
  refine zb_ofW (own := RX8) (by decide +kernel) rfl (Nat.le_of_ble_eq_true rfl) ?_
  intro p e s m args below meth c ls X hr hP hl
  have hx := X.1.1
  have hb := X.1.2.1
  have ho := X.1.2.2.2.1
  have hts := X.1.2.2.2.2
  have hZ := X.2.2.2
  have hl : lv_has ls 3 [(0, .int a0)] := hl
  have hS : va_S (zb_A g) s.heap s.heap [] := va_S.rf
  obtain ⟨H, hH⟩ : ∃ H, H = s.heap := ⟨_, rfl⟩
  obtain ⟨locs, hlocs⟩ : ∃ z : List Loc, z = [] := ⟨_, rfl⟩
  rw [← hH] at hP
  have hS : va_S (zb_A g) s.heap H locs := by rw [hH, hlocs]; exact hS
  show W p l e _ s m args below meth c s.heap [] 0 0 _ _
  rw [← hH, ← hlocs]
  rw [fX8_bytesIn] at hf
  refine lv_iconst (v := (0 : Int32)) hx hb dX8_bytesIn_0 (by decide) ?_
  refine lv_istore_n (lv' := [(1, .int (0 : Int32)), (0, .int a0)]) hx hb dX8_bytesIn_1 rfl hl (by decide) rfl (fun ls hl => ?_)
  refine lv_bipush (v := (24 : Int32)) hx hb dX8_bytesIn_2 (by decide) ?_
  refine lv_istore_n (lv' := [(2, .int (24 : Int32)), (1, .int (0 : Int32)), (0, .int a0)]) hx hb dX8_bytesIn_4 rfl hl (by decide) rfl (fun ls hl => ?_)
  obtain ⟨x2, hx2, hf⟩ := ob_e hf
  have K2 : ∀ (H : Heap) (locs : List Loc) (ls : Array Slot), va_P g.1 vwCl (zb_ws g nc (zb_ce g I J O)) H → va_S (zb_A g) s.heap H locs → lv_has ls 3 [(1, .int x2)] → W p l e { frames := 0, cells := 0, slots := 0, locals := 0 } s m args below meth c H locs 0 0 (MQ below (zb_Po g nc (zb_ce g I J O) (some (.int r9))) args s 0 0 (zb_A g)) (F0 m 33 ls []) := by
    intro H locs ls hP hS hl
    refine lv_iload_n hx hb dX8_bytesIn_33 rfl (lv_at hl 0 rfl) ?_
    cases hf
    exact zr_iret X hr hP hS dX8_bytesIn_34
  exact lpX8_bytesIn_L5  l  X hx2 K2 hP hS (lv_sub hl [0, 1, 2] rfl)
set_option maxHeartbeats 4000000 in
set_option maxRecDepth 100000 in
theorem lpX8_puts_L3 {g : zb_G} {nc : Nat} (hnJ : 318 ≤ nc) (l : Launch) {a1 : Int32} {I O : Mem} {p : Program} {e : Env} {s : State} {m : MethodId} {args : Array Value} {below : List Frame} {meth : Method} {c : Code} {Q : State → Prop} (X : zb_X g p m c cX8_puts 3 s args RX8 meth) : ∀ {n9 : Nat} {a2 : Int32} {J : Mem} {Jz : Mem} {H : Heap} {locs : List Loc} {ls : Array Slot}, fX8_puts_L3 a1 n9 a2 J = some Jz → (∀ (H : Heap) (locs : List Loc) (ls : Array Slot), va_P g.1 vwCl (zb_ws g nc (zb_ce g I Jz O)) H → va_S (zb_A g) s.heap H locs → lv_has ls 3 [] → W p l e { frames := 0, cells := 0, slots := 0, locals := 0 } s m args below meth c H locs 0 0 Q (F0 m 46 ls [])) → va_P g.1 vwCl (zb_ws g nc (zb_ce g I J O)) H → va_S (zb_A g) s.heap H locs → lv_has ls 3 [(2, .int a2), (0, .ref (g.2.2 + 306)), (1, .int a1)] → W p l e { frames := 0, cells := 0, slots := 0, locals := 0 } s m args below meth c H locs 0 0 Q (F0 m 3 ls []) := by
  have hx := X.1.1
  have hb := X.1.2.1
  have ho := X.1.2.2.2.1
  have hts := X.1.2.2.2.2
  have hZ := X.2.2.2
  intro n9
  induction n9 with
  | zero =>
    intro a2 J Jz H locs ls hf
    exact nomatch hf
  | succ n9 ih =>
    intro a2 J Jz H locs ls hf KK hP hS hl
    rw [fX8_puts_L3] at hf
    refine lv_iload_n hx hb dX8_puts_3 rfl (lv_at hl 0 rfl) ?_
    refine lv_if_lt (tgt := 46) hx hb dX8_puts_4 (by decide) (fun hc => ?_) (fun hc => ?_)
    · have hf := if_t hc hf
      cases hf
      exact KK H locs ls hP hS (lv_sub hl [] rfl)
    · have hf := if_f hc hf
      refine lv_iload_n hx hb dX8_puts_7 rfl (lv_at hl 2 rfl) ?_
      refine lv_iload_n hx hb dX8_puts_8 rfl (lv_at hl 0 rfl) ?_
      refine lv_ishr hx hb dX8_puts_9 ?_
      refine lv_sipush (v := (255 : Int32)) hx hb dX8_puts_10 (by decide) ?_
      refine lv_iand hx hb dX8_puts_13 ?_
      obtain ⟨J2, ht, hf⟩ := ob_e hf
      have K1 : ∀ (H : Heap) (locs : List Loc) (ls : Array Slot), va_P g.1 vwCl (zb_ws g nc (zb_ce g I J2 O)) H → va_S (zb_A g) s.heap H locs → lv_has ls 3 [(2, .int a2), (0, .ref (g.2.2 + 306)), (1, .int a1)] → W p l e { frames := 0, cells := 0, slots := 0, locals := 0 } s m args below meth c H locs 0 0 Q (F0 m 40 ls []) := by
        intro H locs ls hP hS hl
        refine lv_iinc (v := (a2 + (-8 : Int32))) (lv' := [(2, .int (a2 + (-8 : Int32))), (0, .ref (g.2.2 + 306)), (1, .int a1)]) hx hb dX8_puts_40 hl (k := 0) rfl rfl (by decide) rfl (fun ls hl => ?_)
        refine lv_goto (tgt := 3) hx hb dX8_puts_43 (by decide) ?_
        exact ih hf KK hP hS (lv_sub hl [0, 1, 2] rfl)
      have hf := ht
      refine lv_if_eq (tgt := 40) hx hb dX8_puts_14 (by decide) (fun hc => ?_) (fun hc => ?_)
      · have hf := if_t hc hf
        cases hf
        exact K1 H locs ls hP hS (lv_sub hl [0, 1, 2] rfl)
      · have hf := if_f hc hf
        refine lv_aload_n hx hb dX8_puts_17 rfl (lv_at hl 1 rfl) ?_
        refine gf_X8_32 X hnJ hP zk_306 dX8_puts_18 ?_
        refine lv_aload_n hx hb dX8_puts_21 rfl (lv_at hl 1 rfl) ?_
        refine gf_X8_68 X hnJ hP zk_306 dX8_puts_22 ?_
        refine lv_iload_n hx hb dX8_puts_25 rfl (lv_at hl 2 rfl) ?_
        refine lv_iload_n hx hb dX8_puts_26 rfl (lv_at hl 0 rfl) ?_
        refine lv_ishr hx hb dX8_puts_27 ?_
        refine lv_i2b (v := (a1 >>> (a2 &&& 31)).toInt8.toInt32) hx hb dX8_puts_28 rfl ?_
        obtain ⟨J1, hJ1, hf⟩ := ob_e hf
        refine zr_bastJ X hP hS hnJ zk_314 hJ1 dX8_puts_29 (fun H locs hP hS => ?_)
        refine lv_aload_n hx hb dX8_puts_30 rfl (lv_at hl 1 rfl) ?_
        refine lv_dup hx hb dX8_puts_31 rfl ?_
        refine gf_X8_68 X hnJ hP zk_306 dX8_puts_32 ?_
        refine lv_iconst (v := (1 : Int32)) hx hb dX8_puts_35 (by decide) ?_
        refine lv_iadd hx hb dX8_puts_36 ?_
        refine pf_X8_68 X hnJ hP hS zk_306 dX8_puts_37 (fun H locs hP hS => ?_)
        cases hf
        exact K1 H locs ls hP hS (lv_sub hl [0, 1, 2] rfl)
set_option maxHeartbeats 4000000 in
set_option maxRecDepth 100000 in
theorem ct_X8_puts {g : zb_G} {nc : Nat} (hnJ : 318 ≤ nc) (l : Launch) {a1 : Int32} {I J O : Mem} {Jq : Mem} (hf : fX8_puts a1 J = some Jq) : zb_Ct l g nc yX8_puts cX8_puts 3 none 0 0 [.ref (g.2.2 + 306), .int a1] (zb_ce g I J O) none (zb_ce g I Jq O) := by
  refine zb_ofW (own := RX8) (by decide +kernel) rfl (Nat.le_of_ble_eq_true rfl) ?_
  intro p e s m args below meth c ls X hr hP hl
  have hx := X.1.1
  have hb := X.1.2.1
  have ho := X.1.2.2.2.1
  have hts := X.1.2.2.2.2
  have hZ := X.2.2.2
  have hl : lv_has ls 3 [(0, .ref (g.2.2 + 306)), (1, .int a1)] := hl
  have hS : va_S (zb_A g) s.heap s.heap [] := va_S.rf
  obtain ⟨H, hH⟩ : ∃ H, H = s.heap := ⟨_, rfl⟩
  obtain ⟨locs, hlocs⟩ : ∃ z : List Loc, z = [] := ⟨_, rfl⟩
  rw [← hH] at hP
  have hS : va_S (zb_A g) s.heap H locs := by rw [hH, hlocs]; exact hS
  show W p l e _ s m args below meth c s.heap [] 0 0 _ _
  rw [← hH, ← hlocs]
  rw [fX8_puts] at hf
  refine lv_bipush (v := (24 : Int32)) hx hb dX8_puts_0 (by decide) ?_
  refine lv_istore_n (lv' := [(2, .int (24 : Int32)), (0, .ref (g.2.2 + 306)), (1, .int a1)]) hx hb dX8_puts_2 rfl hl (by decide) rfl (fun ls hl => ?_)
  obtain ⟨J3, hJ3, hf⟩ := ob_e hf
  have K2 : ∀ (H : Heap) (locs : List Loc) (ls : Array Slot), va_P g.1 vwCl (zb_ws g nc (zb_ce g I J3 O)) H → va_S (zb_A g) s.heap H locs → lv_has ls 3 [] → W p l e { frames := 0, cells := 0, slots := 0, locals := 0 } s m args below meth c H locs 0 0 (MQ below (zb_Po g nc (zb_ce g I Jq O) none) args s 0 0 (zb_A g)) (F0 m 46 ls []) := by
    intro H locs ls hP hS hl
    cases hf
    exact zr_vret X hr hP hS rfl dX8_puts_46
  exact lpX8_puts_L3 hnJ l  X hJ3 K2 hP hS (lv_sub hl [0, 1, 2] rfl)
set_option maxHeartbeats 4000000 in
set_option maxRecDepth 100000 in
theorem ct_X8_append {g : zb_G} {nc : Nat} (hnJ : 318 ≤ nc) (l : Launch) {a1 : Int32} {a2 : Int32} {a3 : Int32} {a4 : Int32} {a5 : Int32} {I J O : Mem} {r9 : Int32} {Jq : Mem} (hf : fX8_append a1 a2 a3 a4 a5 J = some (r9, Jq)) : zb_Ct l g nc yX8_append cX8_append 6 (some .int) 1 22 [.ref (g.2.2 + 306), .int a1, .int a2, .int a3, .int a4, .int a5] (zb_ce g I J O) (some (.int r9)) (zb_ce g I Jq O) := by
  refine zb_ofW (own := RX8) (by decide +kernel) rfl (Nat.le_of_ble_eq_true rfl) ?_
  intro p e s m args below meth c ls X hr hP hl
  have hx := X.1.1
  have hb := X.1.2.1
  have ho := X.1.2.2.2.1
  have hts := X.1.2.2.2.2
  have hZ := X.2.2.2
  have hl : lv_has ls 6 [(0, .ref (g.2.2 + 306)), (1, .int a1), (2, .int a2), (3, .int a3), (4, .int a4), (5, .int a5)] := hl
  have hS : va_S (zb_A g) s.heap s.heap [] := va_S.rf
  obtain ⟨H, hH⟩ : ∃ H, H = s.heap := ⟨_, rfl⟩
  obtain ⟨locs, hlocs⟩ : ∃ z : List Loc, z = [] := ⟨_, rfl⟩
  rw [← hH] at hP
  have hS : va_S (zb_A g) s.heap H locs := by rw [hH, hlocs]; exact hS
  show W p l e _ s m args below meth c s.heap [] 0 0 _ _
  rw [← hH, ← hlocs]
  rw [fX8_append] at hf
  refine lv_aload_n hx hb dX8_append_0 rfl (lv_at hl 0 rfl) ?_
  refine lv_iconst (v := (0 : Int32)) hx hb dX8_append_1 (by decide) ?_
  refine pf_X8_57 X hnJ hP hS zk_306 dX8_append_2 (fun H locs hP hS => ?_)
  refine lv_aload_n hx hb dX8_append_5 rfl (lv_at hl 0 rfl) ?_
  refine lv_aload_n hx hb dX8_append_6 rfl (lv_at hl 0 rfl) ?_
  refine gf_X8_68 X hnJ hP zk_306 dX8_append_7 ?_
  refine lv_iload_n hx hb dX8_append_10 rfl (lv_at hl 1 rfl) ?_
  obtain ⟨x1, hx1, hf⟩ := ob_e hf
  refine zr_cSi (rest := [.int ((wr J 306 0 (0 : Int32)) 306 10), .ref (g.2.2 + 306)]) (As := [.int a1]) X hP hS (ct_X8_bytesIn (g := g) (nc := nc) (I := I) (J := (wr J 306 0 (0 : Int32))) (O := O)  l  hx1) cw_X8_71  rfl hl.1 (Nat.le_of_ble_eq_true rfl) ⟨Nat.le_of_ble_eq_true rfl, Nat.le_of_ble_eq_true rfl⟩ ⟨Nat.le_of_ble_eq_true rfl, Nat.le_of_ble_eq_true rfl⟩ dX8_append_11 rfl (fun H locs hP hS => ?_)
  refine lv_iadd hx hb dX8_append_14 ?_
  refine lv_iload_n hx hb dX8_append_15 rfl (lv_at hl 2 rfl) ?_
  obtain ⟨x2, hx2, hf⟩ := ob_e hf
  refine zr_cSi (rest := [.int (((wr J 306 0 (0 : Int32)) 306 10) + x1), .ref (g.2.2 + 306)]) (As := [.int a2]) X hP hS (ct_X8_bytesIn (g := g) (nc := nc) (I := I) (J := (wr J 306 0 (0 : Int32))) (O := O)  l  hx2) cw_X8_71  rfl hl.1 (Nat.le_of_ble_eq_true rfl) ⟨Nat.le_of_ble_eq_true rfl, Nat.le_of_ble_eq_true rfl⟩ ⟨Nat.le_of_ble_eq_true rfl, Nat.le_of_ble_eq_true rfl⟩ dX8_append_16 rfl (fun H locs hP hS => ?_)
  refine lv_iadd hx hb dX8_append_19 ?_
  refine lv_iload_n hx hb dX8_append_20 rfl (lv_at hl 3 rfl) ?_
  obtain ⟨x3, hx3, hf⟩ := ob_e hf
  refine zr_cSi (rest := [.int ((((wr J 306 0 (0 : Int32)) 306 10) + x1) + x2), .ref (g.2.2 + 306)]) (As := [.int a3]) X hP hS (ct_X8_bytesIn (g := g) (nc := nc) (I := I) (J := (wr J 306 0 (0 : Int32))) (O := O)  l  hx3) cw_X8_71  rfl hl.1 (Nat.le_of_ble_eq_true rfl) ⟨Nat.le_of_ble_eq_true rfl, Nat.le_of_ble_eq_true rfl⟩ ⟨Nat.le_of_ble_eq_true rfl, Nat.le_of_ble_eq_true rfl⟩ dX8_append_21 rfl (fun H locs hP hS => ?_)
  refine lv_iadd hx hb dX8_append_24 ?_
  refine lv_iload hx hb dX8_append_25 (lv_at hl 4 rfl) ?_
  obtain ⟨x4, hx4, hf⟩ := ob_e hf
  refine zr_cSi (rest := [.int (((((wr J 306 0 (0 : Int32)) 306 10) + x1) + x2) + x3), .ref (g.2.2 + 306)]) (As := [.int a4]) X hP hS (ct_X8_bytesIn (g := g) (nc := nc) (I := I) (J := (wr J 306 0 (0 : Int32))) (O := O)  l  hx4) cw_X8_71  rfl hl.1 (Nat.le_of_ble_eq_true rfl) ⟨Nat.le_of_ble_eq_true rfl, Nat.le_of_ble_eq_true rfl⟩ ⟨Nat.le_of_ble_eq_true rfl, Nat.le_of_ble_eq_true rfl⟩ dX8_append_27 rfl (fun H locs hP hS => ?_)
  refine lv_iadd hx hb dX8_append_30 ?_
  refine lv_iload hx hb dX8_append_31 (lv_at hl 5 rfl) ?_
  obtain ⟨x5, hx5, hf⟩ := ob_e hf
  refine zr_cSi (rest := [.int ((((((wr J 306 0 (0 : Int32)) 306 10) + x1) + x2) + x3) + x4), .ref (g.2.2 + 306)]) (As := [.int a5]) X hP hS (ct_X8_bytesIn (g := g) (nc := nc) (I := I) (J := (wr J 306 0 (0 : Int32))) (O := O)  l  hx5) cw_X8_71  rfl hl.1 (Nat.le_of_ble_eq_true rfl) ⟨Nat.le_of_ble_eq_true rfl, Nat.le_of_ble_eq_true rfl⟩ ⟨Nat.le_of_ble_eq_true rfl, Nat.le_of_ble_eq_true rfl⟩ dX8_append_33 rfl (fun H locs hP hS => ?_)
  refine lv_iadd hx hb dX8_append_36 ?_
  refine lv_sipush (v := (500 : Int32)) hx hb dX8_append_37 (by decide) ?_
  obtain ⟨x6, ht, hf⟩ := pl_e hf
  have K1 : ∀ (H : Heap) (locs : List Loc) (ls : Array Slot), va_P g.1 vwCl (zb_ws g nc (zb_ce g I (wr J 306 0 (0 : Int32)) O)) H → va_S (zb_A g) s.heap H locs → lv_has ls 6 [(0, .ref (g.2.2 + 306)), (1, .int a1), (2, .int a2), (3, .int a3), (4, .int a4), (5, .int a5)] → W p l e { frames := 1, cells := 0, slots := 0, locals := 22 } s m args below meth c H locs 0 0 (MQ below (zb_Po g nc (zb_ce g I Jq O) (some (.int r9))) args s 0 0 (zb_A g)) (F0 m 48 ls [.int x6, .ref (g.2.2 + 306)]) := by
    intro H locs ls hP hS hl
    refine lv_iconst (v := (1 : Int32)) hx hb dX8_append_48 (by decide) ?_
    obtain ⟨x7, J8, hx7_J8, hf⟩ := ob2_e hf
    refine zr_cVi (rest := []) (As := [.int x6, .int (1 : Int32)]) X hP hS (ct_X8_throwsIf (g := g) (nc := nc) (I := I) (J := (wr J 306 0 (0 : Int32))) (O := O) hnJ l  hx7_J8) cw_X8_64 (zr_recv X hP (Nat.lt_of_lt_of_le (zk_306).2.1 hnJ) (zb_ceJo zk_306 (by decide)) rfl) rfl hl.1 (Nat.le_of_ble_eq_true rfl) ⟨Nat.le_of_ble_eq_true rfl, Nat.le_of_ble_eq_true rfl⟩ ⟨Nat.le_of_ble_eq_true rfl, Nat.le_of_ble_eq_true rfl⟩ dX8_append_49 rfl (fun H locs hP hS => ?_)
    refine lv_if_eq (tgt := 57) hx hb dX8_append_52 (by decide) (fun hc => ?_) (fun hc => ?_)
    · have hf := if_t hc hf
      refine lv_aload_n hx hb dX8_append_57 rfl (lv_at hl 0 rfl) ?_
      refine lv_iload_n hx hb dX8_append_58 rfl (lv_at hl 1 rfl) ?_
      obtain ⟨J9, hJ9, hf⟩ := ob_e hf
      refine zr_cVv (rest := []) (As := [.int a1]) X hP hS (ct_X8_puts (g := g) (nc := nc) (I := I) (J := J8) (O := O) hnJ l  hJ9) cw_X8_75 (zr_recv X hP (Nat.lt_of_lt_of_le (zk_306).2.1 hnJ) (zb_ceJo zk_306 (by decide)) rfl) rfl hl.1 (Nat.le_of_ble_eq_true rfl) ⟨Nat.le_of_ble_eq_true rfl, Nat.le_of_ble_eq_true rfl⟩ ⟨Nat.le_of_ble_eq_true rfl, Nat.le_of_ble_eq_true rfl⟩ dX8_append_59 rfl (fun H locs hP hS => ?_)
      refine lv_aload_n hx hb dX8_append_62 rfl (lv_at hl 0 rfl) ?_
      refine lv_iload_n hx hb dX8_append_63 rfl (lv_at hl 2 rfl) ?_
      obtain ⟨J10, hJ10, hf⟩ := ob_e hf
      refine zr_cVv (rest := []) (As := [.int a2]) X hP hS (ct_X8_puts (g := g) (nc := nc) (I := I) (J := J9) (O := O) hnJ l  hJ10) cw_X8_75 (zr_recv X hP (Nat.lt_of_lt_of_le (zk_306).2.1 hnJ) (zb_ceJo zk_306 (by decide)) rfl) rfl hl.1 (Nat.le_of_ble_eq_true rfl) ⟨Nat.le_of_ble_eq_true rfl, Nat.le_of_ble_eq_true rfl⟩ ⟨Nat.le_of_ble_eq_true rfl, Nat.le_of_ble_eq_true rfl⟩ dX8_append_64 rfl (fun H locs hP hS => ?_)
      refine lv_aload_n hx hb dX8_append_67 rfl (lv_at hl 0 rfl) ?_
      refine lv_iload_n hx hb dX8_append_68 rfl (lv_at hl 3 rfl) ?_
      obtain ⟨J11, hJ11, hf⟩ := ob_e hf
      refine zr_cVv (rest := []) (As := [.int a3]) X hP hS (ct_X8_puts (g := g) (nc := nc) (I := I) (J := J10) (O := O) hnJ l  hJ11) cw_X8_75 (zr_recv X hP (Nat.lt_of_lt_of_le (zk_306).2.1 hnJ) (zb_ceJo zk_306 (by decide)) rfl) rfl hl.1 (Nat.le_of_ble_eq_true rfl) ⟨Nat.le_of_ble_eq_true rfl, Nat.le_of_ble_eq_true rfl⟩ ⟨Nat.le_of_ble_eq_true rfl, Nat.le_of_ble_eq_true rfl⟩ dX8_append_69 rfl (fun H locs hP hS => ?_)
      refine lv_aload_n hx hb dX8_append_72 rfl (lv_at hl 0 rfl) ?_
      refine lv_iload hx hb dX8_append_73 (lv_at hl 4 rfl) ?_
      obtain ⟨J12, hJ12, hf⟩ := ob_e hf
      refine zr_cVv (rest := []) (As := [.int a4]) X hP hS (ct_X8_puts (g := g) (nc := nc) (I := I) (J := J11) (O := O) hnJ l  hJ12) cw_X8_75 (zr_recv X hP (Nat.lt_of_lt_of_le (zk_306).2.1 hnJ) (zb_ceJo zk_306 (by decide)) rfl) rfl hl.1 (Nat.le_of_ble_eq_true rfl) ⟨Nat.le_of_ble_eq_true rfl, Nat.le_of_ble_eq_true rfl⟩ ⟨Nat.le_of_ble_eq_true rfl, Nat.le_of_ble_eq_true rfl⟩ dX8_append_75 rfl (fun H locs hP hS => ?_)
      refine lv_aload_n hx hb dX8_append_78 rfl (lv_at hl 0 rfl) ?_
      refine lv_iload hx hb dX8_append_79 (lv_at hl 5 rfl) ?_
      obtain ⟨J13, hJ13, hf⟩ := ob_e hf
      refine zr_cVv (rest := []) (As := [.int a5]) X hP hS (ct_X8_puts (g := g) (nc := nc) (I := I) (J := J12) (O := O) hnJ l  hJ13) cw_X8_75 (zr_recv X hP (Nat.lt_of_lt_of_le (zk_306).2.1 hnJ) (zb_ceJo zk_306 (by decide)) rfl) rfl hl.1 (Nat.le_of_ble_eq_true rfl) ⟨Nat.le_of_ble_eq_true rfl, Nat.le_of_ble_eq_true rfl⟩ ⟨Nat.le_of_ble_eq_true rfl, Nat.le_of_ble_eq_true rfl⟩ dX8_append_81 rfl (fun H locs hP hS => ?_)
      refine lv_aload_n hx hb dX8_append_84 rfl (lv_at hl 0 rfl) ?_
      refine gf_X8_68 X hnJ hP zk_306 dX8_append_85 ?_
      cases hf
      exact zr_iret X hr hP hS dX8_append_88
    · have hf := if_f hc hf
      refine lv_iconst (v := (0 : Int32)) hx hb dX8_append_55 (by decide) ?_
      cases hf
      exact zr_iret X hr hP hS dX8_append_56
  have hf := ht
  refine lv_icmp_le (tgt := 47) hx hb dX8_append_40 (by decide) (fun hc => ?_) (fun hc => ?_)
  · have hf := if_t hc hf
    refine lv_iconst (v := (0 : Int32)) hx hb dX8_append_47 (by decide) ?_
    cases hf
    exact K1 H locs ls hP hS (lv_sub hl [0, 1, 2, 3, 4, 5] rfl)
  · have hf := if_f hc hf
    refine lv_iconst (v := (1 : Int32)) hx hb dX8_append_43 (by decide) ?_
    refine lv_goto (tgt := 48) hx hb dX8_append_44 (by decide) ?_
    cases hf
    exact K1 H locs ls hP hS (lv_sub hl [0, 1, 2, 3, 4, 5] rfl)
set_option maxHeartbeats 4000000 in
set_option maxRecDepth 100000 in
theorem ct_X8_byteAt {g : zb_G} {nc : Nat} (hnJ : 318 ≤ nc) (l : Launch) {a1 : Int32} {I J O : Mem} {r9 : Int32} (hf : fX8_byteAt a1 J = some r9) : zb_Ct l g nc yX8_byteAt cX8_byteAt 2 (some .int) 0 0 [.ref (g.2.2 + 306), .int a1] (zb_ce g I J O) (some (.int r9)) (zb_ce g I J O) := by
  refine zb_ofW (own := RX8) (by decide +kernel) rfl (Nat.le_of_ble_eq_true rfl) ?_
  intro p e s m args below meth c ls X hr hP hl
  have hx := X.1.1
  have hb := X.1.2.1
  have ho := X.1.2.2.2.1
  have hts := X.1.2.2.2.2
  have hZ := X.2.2.2
  have hl : lv_has ls 2 [(0, .ref (g.2.2 + 306)), (1, .int a1)] := hl
  have hS : va_S (zb_A g) s.heap s.heap [] := va_S.rf
  obtain ⟨H, hH⟩ : ∃ H, H = s.heap := ⟨_, rfl⟩
  obtain ⟨locs, hlocs⟩ : ∃ z : List Loc, z = [] := ⟨_, rfl⟩
  rw [← hH] at hP
  have hS : va_S (zb_A g) s.heap H locs := by rw [hH, hlocs]; exact hS
  show W p l e _ s m args below meth c s.heap [] 0 0 _ _
  rw [← hH, ← hlocs]
  rw [fX8_byteAt] at hf
  refine lv_iload_n hx hb dX8_byteAt_0 rfl (lv_at hl 1 rfl) ?_
  refine lv_aload_n hx hb dX8_byteAt_1 rfl (lv_at hl 0 rfl) ?_
  refine gf_X8_68 X hnJ hP zk_306 dX8_byteAt_2 ?_
  obtain ⟨x2, ht, hf⟩ := ob_e hf
  have K1 : ∀ (H : Heap) (locs : List Loc) (ls : Array Slot), va_P g.1 vwCl (zb_ws g nc (zb_ce g I J O)) H → va_S (zb_A g) s.heap H locs → lv_has ls 2 [] → W p l e { frames := 0, cells := 0, slots := 0, locals := 0 } s m args below meth c H locs 0 0 (MQ below (zb_Po g nc (zb_ce g I J O) (some (.int r9))) args s 0 0 (zb_A g)) (F0 m 22 ls [.int x2]) := by
    intro H locs ls hP hS hl
    cases hf
    exact zr_iret X hr hP hS dX8_byteAt_22
  have hf := ht
  refine lv_icmp_ge (tgt := 21) hx hb dX8_byteAt_5 (by decide) (fun hc => ?_) (fun hc => ?_)
  · have hf := if_t hc hf
    refine lv_iconst (v := (-1 : Int32)) hx hb dX8_byteAt_21 (by decide) ?_
    cases hf
    exact K1 H locs ls hP hS (lv_sub hl [] rfl)
  · have hf := if_f hc hf
    refine lv_aload_n hx hb dX8_byteAt_8 rfl (lv_at hl 0 rfl) ?_
    refine gf_X8_32 X hnJ hP zk_306 dX8_byteAt_9 ?_
    refine lv_iload_n hx hb dX8_byteAt_12 rfl (lv_at hl 1 rfl) ?_
    obtain ⟨x1, hx1, hf⟩ := ob_e hf
    refine zr_baldJ X hP hnJ zk_314 hx1 dX8_byteAt_13 ?_
    refine lv_sipush (v := (255 : Int32)) hx hb dX8_byteAt_14 (by decide) ?_
    refine lv_iand hx hb dX8_byteAt_17 ?_
    refine lv_goto (tgt := 22) hx hb dX8_byteAt_18 (by decide) ?_
    cases hf
    exact K1 H locs ls hP hS (lv_sub hl [] rfl)
set_option maxHeartbeats 4000000 in
set_option maxRecDepth 100000 in
theorem ct_X8_isLetter {g : zb_G} {nc : Nat} (l : Launch) {a0 : Int32} {I J O : Mem} {r9 : Int32} (hf : fX8_isLetter a0 = some r9) : zb_Ct l g nc yX8_isLetter cX8_isLetter 1 (some .boolean) 1 22 [.int a0] (zb_ce g I J O) (some (.int r9)) (zb_ce g I J O) := by
  refine zb_ofW (own := RX8) (by decide +kernel) rfl (Nat.le_of_ble_eq_true rfl) ?_
  intro p e s m args below meth c ls X hr hP hl
  have hx := X.1.1
  have hb := X.1.2.1
  have ho := X.1.2.2.2.1
  have hts := X.1.2.2.2.2
  have hZ := X.2.2.2
  have hl : lv_has ls 1 [(0, .int a0)] := hl
  have hS : va_S (zb_A g) s.heap s.heap [] := va_S.rf
  obtain ⟨H, hH⟩ : ∃ H, H = s.heap := ⟨_, rfl⟩
  obtain ⟨locs, hlocs⟩ : ∃ z : List Loc, z = [] := ⟨_, rfl⟩
  rw [← hH] at hP
  have hS : va_S (zb_A g) s.heap H locs := by rw [hH, hlocs]; exact hS
  show W p l e _ s m args below meth c s.heap [] 0 0 _ _
  rw [← hH, ← hlocs]
  rw [fX8_isLetter] at hf
  refine lv_iload_n hx hb dX8_isLetter_0 rfl (lv_at hl 0 rfl) ?_
  refine lv_bipush (v := (97 : Int32)) hx hb dX8_isLetter_1 (by decide) ?_
  refine lv_bipush (v := (122 : Int32)) hx hb dX8_isLetter_3 (by decide) ?_
  obtain ⟨x1, hx1, hf⟩ := ob_e hf
  refine zr_cSi (rest := []) (As := [.int a0, .int (97 : Int32), .int (122 : Int32)]) X hP hS (ct_X8_within (g := g) (nc := nc) (I := I) (J := J) (O := O)  l  hx1) cw_X8_60  rfl hl.1 (Nat.le_of_ble_eq_true rfl) ⟨Nat.le_of_ble_eq_true rfl, Nat.le_of_ble_eq_true rfl⟩ ⟨Nat.le_of_ble_eq_true rfl, Nat.le_of_ble_eq_true rfl⟩ dX8_isLetter_5 rfl (fun H locs hP hS => ?_)
  obtain ⟨v9, hv9, hf⟩ := ob_e hf
  obtain ⟨hn9, he9⟩ := zbo_e hv9
  cases hf
  cases he9
  exact zr_zret X hr hn9 hP hS dX8_isLetter_8
set_option maxHeartbeats 4000000 in
set_option maxRecDepth 100000 in
theorem ct_X8_isDigit {g : zb_G} {nc : Nat} (l : Launch) {a0 : Int32} {I J O : Mem} {r9 : Int32} (hf : fX8_isDigit a0 = some r9) : zb_Ct l g nc yX8_isDigit cX8_isDigit 1 (some .boolean) 1 22 [.int a0] (zb_ce g I J O) (some (.int r9)) (zb_ce g I J O) := by
  refine zb_ofW (own := RX8) (by decide +kernel) rfl (Nat.le_of_ble_eq_true rfl) ?_
  intro p e s m args below meth c ls X hr hP hl
  have hx := X.1.1
  have hb := X.1.2.1
  have ho := X.1.2.2.2.1
  have hts := X.1.2.2.2.2
  have hZ := X.2.2.2
  have hl : lv_has ls 1 [(0, .int a0)] := hl
  have hS : va_S (zb_A g) s.heap s.heap [] := va_S.rf
  obtain ⟨H, hH⟩ : ∃ H, H = s.heap := ⟨_, rfl⟩
  obtain ⟨locs, hlocs⟩ : ∃ z : List Loc, z = [] := ⟨_, rfl⟩
  rw [← hH] at hP
  have hS : va_S (zb_A g) s.heap H locs := by rw [hH, hlocs]; exact hS
  show W p l e _ s m args below meth c s.heap [] 0 0 _ _
  rw [← hH, ← hlocs]
  rw [fX8_isDigit] at hf
  refine lv_iload_n hx hb dX8_isDigit_0 rfl (lv_at hl 0 rfl) ?_
  refine lv_bipush (v := (48 : Int32)) hx hb dX8_isDigit_1 (by decide) ?_
  refine lv_bipush (v := (57 : Int32)) hx hb dX8_isDigit_3 (by decide) ?_
  obtain ⟨x1, hx1, hf⟩ := ob_e hf
  refine zr_cSi (rest := []) (As := [.int a0, .int (48 : Int32), .int (57 : Int32)]) X hP hS (ct_X8_within (g := g) (nc := nc) (I := I) (J := J) (O := O)  l  hx1) cw_X8_60  rfl hl.1 (Nat.le_of_ble_eq_true rfl) ⟨Nat.le_of_ble_eq_true rfl, Nat.le_of_ble_eq_true rfl⟩ ⟨Nat.le_of_ble_eq_true rfl, Nat.le_of_ble_eq_true rfl⟩ dX8_isDigit_5 rfl (fun H locs hP hS => ?_)
  obtain ⟨v9, hv9, hf⟩ := ob_e hf
  obtain ⟨hn9, he9⟩ := zbo_e hv9
  cases hf
  cases he9
  exact zr_zret X hr hn9 hP hS dX8_isDigit_8
set_option maxHeartbeats 4000000 in
set_option maxRecDepth 100000 in
theorem lpX8_advance_L0 {g : zb_G} {nc : Nat} (hnJ : 318 ≤ nc) (l : Launch) {I O : Mem} {p : Program} {e : Env} {s : State} {m : MethodId} {args : Array Value} {below : List Frame} {meth : Method} {c : Code} {Q : State → Prop} (X : zb_X g p m c cX8_advance 2 s args RX8 meth) : ∀ {n9 : Nat} {J : Mem} {Jz : Mem} {H : Heap} {locs : List Loc} {ls : Array Slot}, fX8_advance_L0 n9 J = some Jz → (∀ (H : Heap) (locs : List Loc) (ls : Array Slot), va_P g.1 vwCl (zb_ws g nc (zb_ce g I Jz O)) H → va_S (zb_A g) s.heap H locs → lv_has ls 2 [(0, .ref (g.2.2 + 306))] → W p l e { frames := 2, cells := 0, slots := 0, locals := 42 } s m args below meth c H locs 0 0 Q (F0 m 39 ls [])) → va_P g.1 vwCl (zb_ws g nc (zb_ce g I J O)) H → va_S (zb_A g) s.heap H locs → lv_has ls 2 [(0, .ref (g.2.2 + 306))] → W p l e { frames := 2, cells := 0, slots := 0, locals := 42 } s m args below meth c H locs 0 0 Q (F0 m 0 ls []) := by
  have hx := X.1.1
  have hb := X.1.2.1
  have ho := X.1.2.2.2.1
  have hts := X.1.2.2.2.2
  have hZ := X.2.2.2
  intro n9
  induction n9 with
  | zero =>
    intro J Jz H locs ls hf
    exact nomatch hf
  | succ n9 ih =>
    intro J Jz H locs ls hf KK hP hS hl
    rw [fX8_advance_L0] at hf
    refine lv_aload_n hx hb dX8_advance_0 rfl (lv_at hl 0 rfl) ?_
    refine lv_aload_n hx hb dX8_advance_1 rfl (lv_at hl 0 rfl) ?_
    refine gf_X8_79 X hnJ hP zk_306 dX8_advance_2 ?_
    obtain ⟨x1, hx1, hf⟩ := ob_e hf
    refine zr_cVi (rest := []) (As := [.int (J 306 12)]) X hP hS (ct_X8_byteAt (g := g) (nc := nc) (I := I) (J := J) (O := O) hnJ l  hx1) cw_X8_82 (zr_recv X hP (Nat.lt_of_lt_of_le (zk_306).2.1 hnJ) (zb_ceJo zk_306 (by decide)) rfl) rfl hl.1 (Nat.le_of_ble_eq_true rfl) ⟨Nat.le_of_ble_eq_true rfl, Nat.le_of_ble_eq_true rfl⟩ ⟨Nat.le_of_ble_eq_true rfl, Nat.le_of_ble_eq_true rfl⟩ dX8_advance_5 rfl (fun H locs hP hS => ?_)
    refine lv_bipush (v := (32 : Int32)) hx hb dX8_advance_8 (by decide) ?_
    refine lv_icmp_eq (tgt := 26) hx hb dX8_advance_10 (by decide) (fun hc => ?_) (fun hc => ?_)
    · have hf := if_t hc hf
      refine lv_aload_n hx hb dX8_advance_26 rfl (lv_at hl 0 rfl) ?_
      refine lv_dup hx hb dX8_advance_27 rfl ?_
      refine gf_X8_79 X hnJ hP zk_306 dX8_advance_28 ?_
      refine lv_iconst (v := (1 : Int32)) hx hb dX8_advance_31 (by decide) ?_
      refine lv_iadd hx hb dX8_advance_32 ?_
      refine pf_X8_79 X hnJ hP hS zk_306 dX8_advance_33 (fun H locs hP hS => ?_)
      refine lv_goto (tgt := 0) hx hb dX8_advance_36 (by decide) ?_
      exact ih hf KK hP hS (lv_sub hl [0] rfl)
    · have hf := if_f hc hf
      refine lv_aload_n hx hb dX8_advance_13 rfl (lv_at hl 0 rfl) ?_
      refine lv_aload_n hx hb dX8_advance_14 rfl (lv_at hl 0 rfl) ?_
      refine gf_X8_79 X hnJ hP zk_306 dX8_advance_15 ?_
      obtain ⟨x2, hx2, hf⟩ := ob_e hf
      refine zr_cVi (rest := []) (As := [.int (J 306 12)]) X hP hS (ct_X8_byteAt (g := g) (nc := nc) (I := I) (J := J) (O := O) hnJ l  hx2) cw_X8_82 (zr_recv X hP (Nat.lt_of_lt_of_le (zk_306).2.1 hnJ) (zb_ceJo zk_306 (by decide)) rfl) rfl hl.1 (Nat.le_of_ble_eq_true rfl) ⟨Nat.le_of_ble_eq_true rfl, Nat.le_of_ble_eq_true rfl⟩ ⟨Nat.le_of_ble_eq_true rfl, Nat.le_of_ble_eq_true rfl⟩ dX8_advance_18 rfl (fun H locs hP hS => ?_)
      refine lv_bipush (v := (10 : Int32)) hx hb dX8_advance_21 (by decide) ?_
      refine lv_icmp_ne (tgt := 39) hx hb dX8_advance_23 (by decide) (fun hc => ?_) (fun hc => ?_)
      · have hf := if_f hc hf
        cases hf
        exact KK H locs ls hP hS (lv_sub hl [0] rfl)
      · have hf := if_t hc hf
        refine lv_aload_n hx hb dX8_advance_26 rfl (lv_at hl 0 rfl) ?_
        refine lv_dup hx hb dX8_advance_27 rfl ?_
        refine gf_X8_79 X hnJ hP zk_306 dX8_advance_28 ?_
        refine lv_iconst (v := (1 : Int32)) hx hb dX8_advance_31 (by decide) ?_
        refine lv_iadd hx hb dX8_advance_32 ?_
        refine pf_X8_79 X hnJ hP hS zk_306 dX8_advance_33 (fun H locs hP hS => ?_)
        refine lv_goto (tgt := 0) hx hb dX8_advance_36 (by decide) ?_
        exact ih hf KK hP hS (lv_sub hl [0] rfl)
set_option maxHeartbeats 4000000 in
set_option maxRecDepth 100000 in
theorem lpX8_advance_L125 {g : zb_G} {nc : Nat} (hnJ : 318 ≤ nc) (l : Launch) {I O : Mem} {p : Program} {e : Env} {s : State} {m : MethodId} {args : Array Value} {below : List Frame} {meth : Method} {c : Code} {Q : State → Prop} (X : zb_X g p m c cX8_advance 2 s args RX8 meth) : ∀ {n9 : Nat} {J : Mem} {Jz : Mem} {H : Heap} {locs : List Loc} {ls : Array Slot}, fX8_advance_L125 n9 J = some Jz → (∀ (H : Heap) (locs : List Loc) (ls : Array Slot), va_P g.1 vwCl (zb_ws g nc (zb_ce g I Jz O)) H → va_S (zb_A g) s.heap H locs → lv_has ls 2 [] → W p l e { frames := 2, cells := 0, slots := 0, locals := 42 } s m args below meth c H locs 0 0 Q (F0 m 226 ls [])) → va_P g.1 vwCl (zb_ws g nc (zb_ce g I J O)) H → va_S (zb_A g) s.heap H locs → lv_has ls 2 [(0, .ref (g.2.2 + 306))] → W p l e { frames := 2, cells := 0, slots := 0, locals := 42 } s m args below meth c H locs 0 0 Q (F0 m 125 ls []) := by
  have hx := X.1.1
  have hb := X.1.2.1
  have ho := X.1.2.2.2.1
  have hts := X.1.2.2.2.2
  have hZ := X.2.2.2
  intro n9
  induction n9 with
  | zero =>
    intro J Jz H locs ls hf
    exact nomatch hf
  | succ n9 ih =>
    intro J Jz H locs ls hf KK hP hS hl
    rw [fX8_advance_L125] at hf
    refine lv_aload_n hx hb dX8_advance_125 rfl (lv_at hl 0 rfl) ?_
    refine lv_aload_n hx hb dX8_advance_126 rfl (lv_at hl 0 rfl) ?_
    refine gf_X8_79 X hnJ hP zk_306 dX8_advance_127 ?_
    obtain ⟨x8, hx8, hf⟩ := ob_e hf
    refine zr_cVi (rest := []) (As := [.int (J 306 12)]) X hP hS (ct_X8_byteAt (g := g) (nc := nc) (I := I) (J := J) (O := O) hnJ l  hx8) cw_X8_82 (zr_recv X hP (Nat.lt_of_lt_of_le (zk_306).2.1 hnJ) (zb_ceJo zk_306 (by decide)) rfl) rfl hl.1 (Nat.le_of_ble_eq_true rfl) ⟨Nat.le_of_ble_eq_true rfl, Nat.le_of_ble_eq_true rfl⟩ ⟨Nat.le_of_ble_eq_true rfl, Nat.le_of_ble_eq_true rfl⟩ dX8_advance_130 rfl (fun H locs hP hS => ?_)
    obtain ⟨x9, hx9, hf⟩ := ob_e hf
    refine zr_cSi (rest := []) (As := [.int x8]) X hP hS (ct_X8_isDigit (g := g) (nc := nc) (I := I) (J := J) (O := O)  l  hx9) cw_X8_98  rfl hl.1 (Nat.le_of_ble_eq_true rfl) ⟨Nat.le_of_ble_eq_true rfl, Nat.le_of_ble_eq_true rfl⟩ ⟨Nat.le_of_ble_eq_true rfl, Nat.le_of_ble_eq_true rfl⟩ dX8_advance_133 rfl (fun H locs hP hS => ?_)
    refine lv_if_eq (tgt := 226) hx hb dX8_advance_136 (by decide) (fun hc => ?_) (fun hc => ?_)
    · have hf := if_t hc hf
      cases hf
      exact KK H locs ls hP hS (lv_sub hl [] rfl)
    · have hf := if_f hc hf
      refine lv_aload_n hx hb dX8_advance_139 rfl (lv_at hl 0 rfl) ?_
      refine lv_aload_n hx hb dX8_advance_140 rfl (lv_at hl 0 rfl) ?_
      refine gf_X8_88 X hnJ hP zk_306 dX8_advance_141 ?_
      refine lv_ldc (v := (999999 : Int32)) hx hb ho (hts _ wk_X8_101) dX8_advance_144 ?_
      obtain ⟨x11, ht, hf⟩ := ob_e hf
      have K1 : ∀ (H : Heap) (locs : List Loc) (ls : Array Slot), va_P g.1 vwCl (zb_ws g nc (zb_ce g I J O)) H → va_S (zb_A g) s.heap H locs → lv_has ls 2 [(0, .ref (g.2.2 + 306))] → W p l e { frames := 2, cells := 0, slots := 0, locals := 42 } s m args below meth c H locs 0 0 Q (F0 m 175 ls [.int x11, .ref (g.2.2 + 306)]) := by
        intro H locs ls hP hS hl
        refine pf_X8_88 X hnJ hP hS zk_306 dX8_advance_175 (fun H locs hP hS => ?_)
        refine lv_aload_n hx hb dX8_advance_178 rfl (lv_at hl 0 rfl) ?_
        refine lv_dup hx hb dX8_advance_179 rfl ?_
        refine gf_X8_79 X hnJ hP zk_306 dX8_advance_180 ?_
        refine lv_iconst (v := (1 : Int32)) hx hb dX8_advance_183 (by decide) ?_
        refine lv_iadd hx hb dX8_advance_184 ?_
        refine pf_X8_79 X hnJ hP hS zk_306 dX8_advance_185 (fun H locs hP hS => ?_)
        refine lv_goto (tgt := 125) hx hb dX8_advance_188 (by decide) ?_
        exact ih hf KK hP hS (lv_sub hl [0] rfl)
      have hf := ht
      refine lv_icmp_le (tgt := 156) hx hb dX8_advance_146 (by decide) (fun hc => ?_) (fun hc => ?_)
      · have hf := if_t hc hf
        refine lv_bipush (v := (10 : Int32)) hx hb dX8_advance_156 (by decide) ?_
        refine lv_aload_n hx hb dX8_advance_158 rfl (lv_at hl 0 rfl) ?_
        refine gf_X8_88 X hnJ hP zk_306 dX8_advance_159 ?_
        refine lv_imul hx hb dX8_advance_162 ?_
        refine lv_aload_n hx hb dX8_advance_163 rfl (lv_at hl 0 rfl) ?_
        refine lv_aload_n hx hb dX8_advance_164 rfl (lv_at hl 0 rfl) ?_
        refine gf_X8_79 X hnJ hP zk_306 dX8_advance_165 ?_
        obtain ⟨x10, hx10, hf⟩ := ob_e hf
        refine zr_cVi (rest := [.int ((10 : Int32) * (J 306 14)), .ref (g.2.2 + 306)]) (As := [.int (J 306 12)]) X hP hS (ct_X8_byteAt (g := g) (nc := nc) (I := I) (J := J) (O := O) hnJ l  hx10) cw_X8_82 (zr_recv X hP (Nat.lt_of_lt_of_le (zk_306).2.1 hnJ) (zb_ceJo zk_306 (by decide)) rfl) rfl hl.1 (Nat.le_of_ble_eq_true rfl) ⟨Nat.le_of_ble_eq_true rfl, Nat.le_of_ble_eq_true rfl⟩ ⟨Nat.le_of_ble_eq_true rfl, Nat.le_of_ble_eq_true rfl⟩ dX8_advance_168 rfl (fun H locs hP hS => ?_)
        refine lv_iadd hx hb dX8_advance_171 ?_
        refine lv_bipush (v := (48 : Int32)) hx hb dX8_advance_172 (by decide) ?_
        refine lv_isub hx hb dX8_advance_174 ?_
        cases hf
        exact K1 H locs ls hP hS (lv_sub hl [0] rfl)
      · have hf := if_f hc hf
        refine lv_aload_n hx hb dX8_advance_149 rfl (lv_at hl 0 rfl) ?_
        refine gf_X8_88 X hnJ hP zk_306 dX8_advance_150 ?_
        refine lv_goto (tgt := 175) hx hb dX8_advance_153 (by decide) ?_
        cases hf
        exact K1 H locs ls hP hS (lv_sub hl [0] rfl)
set_option maxHeartbeats 4000000 in
set_option maxRecDepth 100000 in
theorem lpX8_advance_L86 {g : zb_G} {nc : Nat} (hnJ : 318 ≤ nc) (l : Launch) {I O : Mem} {p : Program} {e : Env} {s : State} {m : MethodId} {args : Array Value} {below : List Frame} {meth : Method} {c : Code} {Q : State → Prop} (X : zb_X g p m c cX8_advance 2 s args RX8 meth) : ∀ {n9 : Nat} {J : Mem} {Jz : Mem} {H : Heap} {locs : List Loc} {ls : Array Slot}, fX8_advance_L86 n9 J = some Jz → (∀ (H : Heap) (locs : List Loc) (ls : Array Slot), va_P g.1 vwCl (zb_ws g nc (zb_ce g I Jz O)) H → va_S (zb_A g) s.heap H locs → lv_has ls 2 [] → W p l e { frames := 2, cells := 0, slots := 0, locals := 42 } s m args below meth c H locs 0 0 Q (F0 m 226 ls [])) → va_P g.1 vwCl (zb_ws g nc (zb_ce g I J O)) H → va_S (zb_A g) s.heap H locs → lv_has ls 2 [(0, .ref (g.2.2 + 306))] → W p l e { frames := 2, cells := 0, slots := 0, locals := 42 } s m args below meth c H locs 0 0 Q (F0 m 86 ls []) := by
  have hx := X.1.1
  have hb := X.1.2.1
  have ho := X.1.2.2.2.1
  have hts := X.1.2.2.2.2
  have hZ := X.2.2.2
  intro n9
  induction n9 with
  | zero =>
    intro J Jz H locs ls hf
    exact nomatch hf
  | succ n9 ih =>
    intro J Jz H locs ls hf KK hP hS hl
    rw [fX8_advance_L86] at hf
    refine lv_aload_n hx hb dX8_advance_86 rfl (lv_at hl 0 rfl) ?_
    refine lv_aload_n hx hb dX8_advance_87 rfl (lv_at hl 0 rfl) ?_
    refine gf_X8_79 X hnJ hP zk_306 dX8_advance_88 ?_
    obtain ⟨x13, hx13, hf⟩ := ob_e hf
    refine zr_cVi (rest := []) (As := [.int (J 306 12)]) X hP hS (ct_X8_byteAt (g := g) (nc := nc) (I := I) (J := J) (O := O) hnJ l  hx13) cw_X8_82 (zr_recv X hP (Nat.lt_of_lt_of_le (zk_306).2.1 hnJ) (zb_ceJo zk_306 (by decide)) rfl) rfl hl.1 (Nat.le_of_ble_eq_true rfl) ⟨Nat.le_of_ble_eq_true rfl, Nat.le_of_ble_eq_true rfl⟩ ⟨Nat.le_of_ble_eq_true rfl, Nat.le_of_ble_eq_true rfl⟩ dX8_advance_91 rfl (fun H locs hP hS => ?_)
    obtain ⟨x14, hx14, hf⟩ := ob_e hf
    refine zr_cSi (rest := []) (As := [.int x13]) X hP hS (ct_X8_isLetter (g := g) (nc := nc) (I := I) (J := J) (O := O)  l  hx14) cw_X8_94  rfl hl.1 (Nat.le_of_ble_eq_true rfl) ⟨Nat.le_of_ble_eq_true rfl, Nat.le_of_ble_eq_true rfl⟩ ⟨Nat.le_of_ble_eq_true rfl, Nat.le_of_ble_eq_true rfl⟩ dX8_advance_94 rfl (fun H locs hP hS => ?_)
    refine lv_if_eq (tgt := 226) hx hb dX8_advance_97 (by decide) (fun hc => ?_) (fun hc => ?_)
    · have hf := if_t hc hf
      cases hf
      exact KK H locs ls hP hS (lv_sub hl [] rfl)
    · have hf := if_f hc hf
      refine lv_aload_n hx hb dX8_advance_100 rfl (lv_at hl 0 rfl) ?_
      refine lv_dup hx hb dX8_advance_101 rfl ?_
      refine gf_X8_79 X hnJ hP zk_306 dX8_advance_102 ?_
      refine lv_iconst (v := (1 : Int32)) hx hb dX8_advance_105 (by decide) ?_
      refine lv_iadd hx hb dX8_advance_106 ?_
      refine pf_X8_79 X hnJ hP hS zk_306 dX8_advance_107 (fun H locs hP hS => ?_)
      refine lv_goto (tgt := 86) hx hb dX8_advance_110 (by decide) ?_
      exact ih hf KK hP hS (lv_sub hl [0] rfl)
set_option maxHeartbeats 4000000 in
set_option maxRecDepth 100000 in
theorem ct_X8_advance {g : zb_G} {nc : Nat} (hnJ : 318 ≤ nc) (l : Launch) {I J O : Mem} {Jq : Mem} (hf : fX8_advance J = some Jq) : zb_Ct l g nc yX8_advance cX8_advance 2 none 2 42 [.ref (g.2.2 + 306)] (zb_ce g I J O) none (zb_ce g I Jq O) := by
  refine zb_ofW (own := RX8) (by decide +kernel) rfl (Nat.le_of_ble_eq_true rfl) ?_
  intro p e s m args below meth c ls X hr hP hl
  have hx := X.1.1
  have hb := X.1.2.1
  have ho := X.1.2.2.2.1
  have hts := X.1.2.2.2.2
  have hZ := X.2.2.2
  have hl : lv_has ls 2 [(0, .ref (g.2.2 + 306))] := hl
  have hS : va_S (zb_A g) s.heap s.heap [] := va_S.rf
  obtain ⟨H, hH⟩ : ∃ H, H = s.heap := ⟨_, rfl⟩
  obtain ⟨locs, hlocs⟩ : ∃ z : List Loc, z = [] := ⟨_, rfl⟩
  rw [← hH] at hP
  have hS : va_S (zb_A g) s.heap H locs := by rw [hH, hlocs]; exact hS
  show W p l e _ s m args below meth c s.heap [] 0 0 _ _
  rw [← hH, ← hlocs]
  rw [fX8_advance] at hf
  obtain ⟨J3, hJ3, hf⟩ := ob_e hf
  have K2 : ∀ (H : Heap) (locs : List Loc) (ls : Array Slot), va_P g.1 vwCl (zb_ws g nc (zb_ce g I J3 O)) H → va_S (zb_A g) s.heap H locs → lv_has ls 2 [(0, .ref (g.2.2 + 306))] → W p l e { frames := 2, cells := 0, slots := 0, locals := 42 } s m args below meth c H locs 0 0 (MQ below (zb_Po g nc (zb_ce g I Jq O) none) args s 0 0 (zb_A g)) (F0 m 39 ls []) := by
    intro H locs ls hP hS hl
    refine lv_aload_n hx hb dX8_advance_39 rfl (lv_at hl 0 rfl) ?_
    refine lv_aload_n hx hb dX8_advance_40 rfl (lv_at hl 0 rfl) ?_
    refine gf_X8_79 X hnJ hP zk_306 dX8_advance_41 ?_
    refine pf_X8_85 X hnJ hP hS zk_306 dX8_advance_44 (fun H locs hP hS => ?_)
    refine lv_aload_n hx hb dX8_advance_47 rfl (lv_at hl 0 rfl) ?_
    refine lv_iconst (v := (0 : Int32)) hx hb dX8_advance_48 (by decide) ?_
    refine pf_X8_88 X hnJ hP hS zk_306 dX8_advance_49 (fun H locs hP hS => ?_)
    refine lv_aload_n hx hb dX8_advance_52 rfl (lv_at hl 0 rfl) ?_
    refine lv_aload_n hx hb dX8_advance_53 rfl (lv_at hl 0 rfl) ?_
    refine gf_X8_79 X hnJ hP zk_306 dX8_advance_54 ?_
    obtain ⟨x4, hx4, hf⟩ := ob_e hf
    refine zr_cVi (rest := []) (As := [.int ((wr (wr J3 306 11 (J3 306 12)) 306 14 (0 : Int32)) 306 12)]) X hP hS (ct_X8_byteAt (g := g) (nc := nc) (I := I) (J := (wr (wr J3 306 11 (J3 306 12)) 306 14 (0 : Int32))) (O := O) hnJ l  hx4) cw_X8_82 (zr_recv X hP (Nat.lt_of_lt_of_le (zk_306).2.1 hnJ) (zb_ceJo zk_306 (by decide)) rfl) rfl hl.1 (Nat.le_of_ble_eq_true rfl) ⟨Nat.le_of_ble_eq_true rfl, Nat.le_of_ble_eq_true rfl⟩ ⟨Nat.le_of_ble_eq_true rfl, Nat.le_of_ble_eq_true rfl⟩ dX8_advance_57 rfl (fun H locs hP hS => ?_)
    refine lv_istore_n (lv' := [(1, .int x4), (0, .ref (g.2.2 + 306))]) hx hb dX8_advance_60 rfl hl (by decide) rfl (fun ls hl => ?_)
    refine lv_iload_n hx hb dX8_advance_61 rfl (lv_at hl 0 rfl) ?_
    refine lv_iconst (v := (-1 : Int32)) hx hb dX8_advance_62 (by decide) ?_
    obtain ⟨J16, ht, hf⟩ := ob_e hf
    have K3 : ∀ (H : Heap) (locs : List Loc) (ls : Array Slot), va_P g.1 vwCl (zb_ws g nc (zb_ce g I J16 O)) H → va_S (zb_A g) s.heap H locs → lv_has ls 2 [] → W p l e { frames := 2, cells := 0, slots := 0, locals := 42 } s m args below meth c H locs 0 0 (MQ below (zb_Po g nc (zb_ce g I Jq O) none) args s 0 0 (zb_A g)) (F0 m 226 ls []) := by
      intro H locs ls hP hS hl
      cases hf
      exact zr_vret X hr hP hS rfl dX8_advance_226
    have hf := ht
    refine lv_icmp_ne (tgt := 74) hx hb dX8_advance_63 (by decide) (fun hc => ?_) (fun hc => ?_)
    · have hf := if_f hc hf
      refine lv_iload_n hx hb dX8_advance_74 rfl (lv_at hl 0 rfl) ?_
      obtain ⟨x5, hx5, hf⟩ := ob_e hf
      refine zr_cSi (rest := []) (As := [.int x4]) X hP hS (ct_X8_isLetter (g := g) (nc := nc) (I := I) (J := (wr (wr J3 306 11 (J3 306 12)) 306 14 (0 : Int32))) (O := O)  l  hx5) cw_X8_94  rfl hl.1 (Nat.le_of_ble_eq_true rfl) ⟨Nat.le_of_ble_eq_true rfl, Nat.le_of_ble_eq_true rfl⟩ ⟨Nat.le_of_ble_eq_true rfl, Nat.le_of_ble_eq_true rfl⟩ dX8_advance_75 rfl (fun H locs hP hS => ?_)
      refine lv_if_eq (tgt := 113) hx hb dX8_advance_78 (by decide) (fun hc => ?_) (fun hc => ?_)
      · have hf := if_t hc hf
        refine lv_iload_n hx hb dX8_advance_113 rfl (lv_at hl 0 rfl) ?_
        obtain ⟨x6, hx6, hf⟩ := ob_e hf
        refine zr_cSi (rest := []) (As := [.int x4]) X hP hS (ct_X8_isDigit (g := g) (nc := nc) (I := I) (J := (wr (wr J3 306 11 (J3 306 12)) 306 14 (0 : Int32))) (O := O)  l  hx6) cw_X8_98  rfl hl.1 (Nat.le_of_ble_eq_true rfl) ⟨Nat.le_of_ble_eq_true rfl, Nat.le_of_ble_eq_true rfl⟩ ⟨Nat.le_of_ble_eq_true rfl, Nat.le_of_ble_eq_true rfl⟩ dX8_advance_114 rfl (fun H locs hP hS => ?_)
        refine lv_if_eq (tgt := 191) hx hb dX8_advance_117 (by decide) (fun hc => ?_) (fun hc => ?_)
        · have hf := if_t hc hf
          refine lv_aload_n hx hb dX8_advance_191 rfl (lv_at hl 1 rfl) ?_
          refine lv_dup hx hb dX8_advance_192 rfl ?_
          refine gf_X8_79 X hnJ hP zk_306 dX8_advance_193 ?_
          refine lv_iconst (v := (1 : Int32)) hx hb dX8_advance_196 (by decide) ?_
          refine lv_iadd hx hb dX8_advance_197 ?_
          refine pf_X8_79 X hnJ hP hS zk_306 dX8_advance_198 (fun H locs hP hS => ?_)
          refine lv_aload_n hx hb dX8_advance_201 rfl (lv_at hl 1 rfl) ?_
          refine lv_iload_n hx hb dX8_advance_202 rfl (lv_at hl 0 rfl) ?_
          refine lv_bipush (v := (59 : Int32)) hx hb dX8_advance_203 (by decide) ?_
          obtain ⟨x7, ht, hf⟩ := pl_e hf
          have K4 : ∀ (H : Heap) (locs : List Loc) (ls : Array Slot), va_P g.1 vwCl (zb_ws g nc (zb_ce g I (wr (wr (wr J3 306 11 (J3 306 12)) 306 14 (0 : Int32)) 306 12 (((wr (wr J3 306 11 (J3 306 12)) 306 14 (0 : Int32)) 306 12) + (1 : Int32))) O)) H → va_S (zb_A g) s.heap H locs → lv_has ls 2 [] → W p l e { frames := 2, cells := 0, slots := 0, locals := 42 } s m args below meth c H locs 0 0 (MQ below (zb_Po g nc (zb_ce g I Jq O) none) args s 0 0 (zb_A g)) (F0 m 223 ls [.int x7, .ref (g.2.2 + 306)]) := by
            intro H locs ls hP hS hl
            refine pf_X8_91 X hnJ hP hS zk_306 dX8_advance_223 (fun H locs hP hS => ?_)
            cases hf
            exact K3 H locs ls hP hS (lv_sub hl [] rfl)
          have hf := ht
          refine lv_icmp_ne (tgt := 212) hx hb dX8_advance_205 (by decide) (fun hc => ?_) (fun hc => ?_)
          · have hf := if_f hc hf
            refine lv_iload_n hx hb dX8_advance_212 rfl (lv_at hl 0 rfl) ?_
            refine lv_bipush (v := (45 : Int32)) hx hb dX8_advance_213 (by decide) ?_
            refine lv_icmp_ne (tgt := 222) hx hb dX8_advance_215 (by decide) (fun hc => ?_) (fun hc => ?_)
            · have hf := if_f hc hf
              refine lv_iconst (v := (5 : Int32)) hx hb dX8_advance_222 (by decide) ?_
              cases hf
              exact K4 H locs ls hP hS (lv_sub hl [] rfl)
            · have hf := if_t hc hf
              refine lv_iconst (v := (3 : Int32)) hx hb dX8_advance_218 (by decide) ?_
              refine lv_goto (tgt := 223) hx hb dX8_advance_219 (by decide) ?_
              cases hf
              exact K4 H locs ls hP hS (lv_sub hl [] rfl)
          · have hf := if_t hc hf
            refine lv_iconst (v := (4 : Int32)) hx hb dX8_advance_208 (by decide) ?_
            refine lv_goto (tgt := 223) hx hb dX8_advance_209 (by decide) ?_
            cases hf
            exact K4 H locs ls hP hS (lv_sub hl [] rfl)
        · have hf := if_f hc hf
          refine lv_aload_n hx hb dX8_advance_120 rfl (lv_at hl 1 rfl) ?_
          refine lv_iconst (v := (2 : Int32)) hx hb dX8_advance_121 (by decide) ?_
          refine pf_X8_91 X hnJ hP hS zk_306 dX8_advance_122 (fun H locs hP hS => ?_)
          obtain ⟨J12, hJ12, hf⟩ := ob_e hf
          have K5 : ∀ (H : Heap) (locs : List Loc) (ls : Array Slot), va_P g.1 vwCl (zb_ws g nc (zb_ce g I J12 O)) H → va_S (zb_A g) s.heap H locs → lv_has ls 2 [] → W p l e { frames := 2, cells := 0, slots := 0, locals := 42 } s m args below meth c H locs 0 0 (MQ below (zb_Po g nc (zb_ce g I Jq O) none) args s 0 0 (zb_A g)) (F0 m 226 ls []) := by
            intro H locs ls hP hS hl
            cases hf
            exact K3 H locs ls hP hS (lv_sub hl [] rfl)
          exact lpX8_advance_L125 hnJ l  X hJ12 K5 hP hS (lv_sub hl [1] rfl)
      · have hf := if_f hc hf
        refine lv_aload_n hx hb dX8_advance_81 rfl (lv_at hl 1 rfl) ?_
        refine lv_iconst (v := (1 : Int32)) hx hb dX8_advance_82 (by decide) ?_
        refine pf_X8_91 X hnJ hP hS zk_306 dX8_advance_83 (fun H locs hP hS => ?_)
        obtain ⟨J15, hJ15, hf⟩ := ob_e hf
        have K6 : ∀ (H : Heap) (locs : List Loc) (ls : Array Slot), va_P g.1 vwCl (zb_ws g nc (zb_ce g I J15 O)) H → va_S (zb_A g) s.heap H locs → lv_has ls 2 [] → W p l e { frames := 2, cells := 0, slots := 0, locals := 42 } s m args below meth c H locs 0 0 (MQ below (zb_Po g nc (zb_ce g I Jq O) none) args s 0 0 (zb_A g)) (F0 m 226 ls []) := by
          intro H locs ls hP hS hl
          cases hf
          exact K3 H locs ls hP hS (lv_sub hl [] rfl)
        exact lpX8_advance_L86 hnJ l  X hJ15 K6 hP hS (lv_sub hl [1] rfl)
    · have hf := if_t hc hf
      refine lv_aload_n hx hb dX8_advance_66 rfl (lv_at hl 1 rfl) ?_
      refine lv_iconst (v := (0 : Int32)) hx hb dX8_advance_67 (by decide) ?_
      refine pf_X8_91 X hnJ hP hS zk_306 dX8_advance_68 (fun H locs hP hS => ?_)
      refine lv_goto (tgt := 226) hx hb dX8_advance_71 (by decide) ?_
      cases hf
      exact K3 H locs ls hP hS (lv_sub hl [] rfl)
  exact lpX8_advance_L0 hnJ l  X hJ3 K2 hP hS (lv_sub hl [0] rfl)
set_option maxHeartbeats 4000000 in
set_option maxRecDepth 100000 in
theorem lpX8_isWord_L32 {g : zb_G} {nc : Nat} (hnJ : 318 ≤ nc) (l : Launch) {w : Nat} (hw : w < 9) {I O : Mem} {p : Program} {e : Env} {s : State} {m : MethodId} {args : Array Value} {below : List Frame} {meth : Method} {c : Code} {Q : State → Prop} (X : zb_X g p m c cX8_isWord 4 s args RX8 meth) : ∀ {n9 : Nat} {a3 : Int32} {a2 : Int32} {J : Mem} {z2 : Int32} {H : Heap} {locs : List Loc} {ls : Array Slot}, fX8_isWord_L32 w n9 a3 a2 J = some z2 → (∀ (H : Heap) (locs : List Loc) (ls : Array Slot), va_P g.1 vwCl (zb_ws g nc (zb_ce g I J O)) H → va_S (zb_A g) s.heap H locs → lv_has ls 4 [(2, .int z2)] → W p l e { frames := 5, cells := 0, slots := 0, locals := 125 } s m args below meth c H locs 0 0 Q (F0 m 75 ls [])) → va_P g.1 vwCl (zb_ws g nc (zb_ce g I J O)) H → va_S (zb_A g) s.heap H locs → lv_has ls 4 [(3, .int a3), (2, .int a2), (0, .ref (g.2.2 + 306)), (1, .ref (zb_aK g w))] → W p l e { frames := 5, cells := 0, slots := 0, locals := 125 } s m args below meth c H locs 0 0 Q (F0 m 32 ls []) := by
  have hx := X.1.1
  have hb := X.1.2.1
  have ho := X.1.2.2.2.1
  have hts := X.1.2.2.2.2
  have hZ := X.2.2.2
  intro n9
  induction n9 with
  | zero =>
    intro a3 a2 J z2 H locs ls hf
    exact nomatch hf
  | succ n9 ih =>
    intro a3 a2 J z2 H locs ls hf KK hP hS hl
    rw [fX8_isWord_L32] at hf
    refine lv_iload_n hx hb dX8_isWord_32 rfl (lv_at hl 0 rfl) ?_
    refine lv_aload_n hx hb dX8_isWord_33 rfl (lv_at hl 3 rfl) ?_
    refine zr_slenK_X8 (rest := [.int a3]) X hP hS hw hl.1 (Nat.le_of_ble_eq_true rfl) ⟨Nat.le_of_ble_eq_true rfl, Nat.le_of_ble_eq_true rfl⟩ ⟨Nat.le_of_ble_eq_true rfl, Nat.le_of_ble_eq_true rfl⟩ dX8_isWord_34 (fun H locs hP hS => ?_)
    refine lv_icmp_ge (tgt := 75) hx hb dX8_isWord_37 (by decide) (fun hc => ?_) (fun hc => ?_)
    · have hf := if_t hc hf
      cases hf
      exact KK H locs ls hP hS (lv_sub hl [1] rfl)
    · have hf := if_f hc hf
      refine lv_iload_n hx hb dX8_isWord_40 rfl (lv_at hl 1 rfl) ?_
      refine lv_if_eq (tgt := 75) hx hb dX8_isWord_41 (by decide) (fun hc => ?_) (fun hc => ?_)
      · have hf := if_t hc hf
        cases hf
        exact KK H locs ls hP hS (lv_sub hl [1] rfl)
      · have hf := if_f hc hf
        refine lv_aload_n hx hb dX8_isWord_44 rfl (lv_at hl 2 rfl) ?_
        refine gf_X8_32 X hnJ hP zk_306 dX8_isWord_45 ?_
        refine lv_aload_n hx hb dX8_isWord_48 rfl (lv_at hl 2 rfl) ?_
        refine gf_X8_85 X hnJ hP zk_306 dX8_isWord_49 ?_
        refine lv_iload_n hx hb dX8_isWord_52 rfl (lv_at hl 0 rfl) ?_
        refine lv_iadd hx hb dX8_isWord_53 ?_
        obtain ⟨x2, hx2, hf⟩ := ob_e hf
        refine zr_baldJ X hP hnJ zk_314 hx2 dX8_isWord_54 ?_
        refine lv_aload_n hx hb dX8_isWord_55 rfl (lv_at hl 3 rfl) ?_
        refine lv_iload_n hx hb dX8_isWord_56 rfl (lv_at hl 0 rfl) ?_
        obtain ⟨x3, hx3, hf⟩ := ob_e hf
        refine zr_charK_X8 (rest := [.int x2]) X hP hS hw hx3 hl.1 (Nat.le_of_ble_eq_true rfl) ⟨Nat.le_of_ble_eq_true rfl, Nat.le_of_ble_eq_true rfl⟩ ⟨Nat.le_of_ble_eq_true rfl, Nat.le_of_ble_eq_true rfl⟩ dX8_isWord_57 (fun H locs hP hS => ?_)
        obtain ⟨x4, ht, hf⟩ := pl_e hf
        have K1 : ∀ (H : Heap) (locs : List Loc) (ls : Array Slot), va_P g.1 vwCl (zb_ws g nc (zb_ce g I J O)) H → va_S (zb_A g) s.heap H locs → lv_has ls 4 [(3, .int a3), (0, .ref (g.2.2 + 306)), (1, .ref (zb_aK g w))] → W p l e { frames := 5, cells := 0, slots := 0, locals := 125 } s m args below meth c H locs 0 0 Q (F0 m 68 ls [.int x4]) := by
          intro H locs ls hP hS hl
          refine lv_istore_n (lv' := [(2, .int x4), (3, .int a3), (0, .ref (g.2.2 + 306)), (1, .ref (zb_aK g w))]) hx hb dX8_isWord_68 rfl hl (by decide) rfl (fun ls hl => ?_)
          refine lv_iinc (v := (a3 + (1 : Int32))) (lv' := [(3, .int (a3 + (1 : Int32))), (2, .int x4), (0, .ref (g.2.2 + 306)), (1, .ref (zb_aK g w))]) hx hb dX8_isWord_69 hl (k := 1) rfl rfl (by decide) rfl (fun ls hl => ?_)
          refine lv_goto (tgt := 32) hx hb dX8_isWord_72 (by decide) ?_
          exact ih hf KK hP hS (lv_sub hl [0, 1, 2, 3] rfl)
        have hf := ht
        refine lv_icmp_ne (tgt := 67) hx hb dX8_isWord_60 (by decide) (fun hc => ?_) (fun hc => ?_)
        · have hf := if_f hc hf
          refine lv_iconst (v := (0 : Int32)) hx hb dX8_isWord_67 (by decide) ?_
          cases hf
          exact K1 H locs ls hP hS (lv_sub hl [0, 2, 3] rfl)
        · have hf := if_t hc hf
          refine lv_iconst (v := (1 : Int32)) hx hb dX8_isWord_63 (by decide) ?_
          refine lv_goto (tgt := 68) hx hb dX8_isWord_64 (by decide) ?_
          cases hf
          exact K1 H locs ls hP hS (lv_sub hl [0, 2, 3] rfl)
set_option maxHeartbeats 4000000 in
set_option maxRecDepth 100000 in
theorem ct_X8_isWord {g : zb_G} {nc : Nat} (hnJ : 318 ≤ nc) (l : Launch) {w : Nat} (hw : w < 9) {I J O : Mem} {r9 : Int32} (hf : fX8_isWord w J = some r9) : zb_Ct l g nc yX8_isWord cX8_isWord 4 (some .boolean) 5 125 [.ref (g.2.2 + 306), .ref (zb_aK g w)] (zb_ce g I J O) (some (.int r9)) (zb_ce g I J O) := by
  refine zb_ofW (own := RX8) (by decide +kernel) rfl (Nat.le_of_ble_eq_true rfl) ?_
  intro p e s m args below meth c ls X hr hP hl
  have hx := X.1.1
  have hb := X.1.2.1
  have ho := X.1.2.2.2.1
  have hts := X.1.2.2.2.2
  have hZ := X.2.2.2
  have hl : lv_has ls 4 [(0, .ref (g.2.2 + 306)), (1, .ref (zb_aK g w))] := hl
  have hS : va_S (zb_A g) s.heap s.heap [] := va_S.rf
  obtain ⟨H, hH⟩ : ∃ H, H = s.heap := ⟨_, rfl⟩
  obtain ⟨locs, hlocs⟩ : ∃ z : List Loc, z = [] := ⟨_, rfl⟩
  rw [← hH] at hP
  have hS : va_S (zb_A g) s.heap H locs := by rw [hH, hlocs]; exact hS
  show W p l e _ s m args below meth c s.heap [] 0 0 _ _
  rw [← hH, ← hlocs]
  rw [fX8_isWord] at hf
  refine lv_aload_n hx hb dX8_isWord_0 rfl (lv_at hl 0 rfl) ?_
  refine gf_X8_91 X hnJ hP zk_306 dX8_isWord_1 ?_
  refine lv_iconst (v := (1 : Int32)) hx hb dX8_isWord_4 (by decide) ?_
  obtain ⟨x1, ht, hf⟩ := pl_e hf
  have K2 : ∀ (H : Heap) (locs : List Loc) (ls : Array Slot), va_P g.1 vwCl (zb_ws g nc (zb_ce g I J O)) H → va_S (zb_A g) s.heap H locs → lv_has ls 4 [(0, .ref (g.2.2 + 306)), (1, .ref (zb_aK g w))] → W p l e { frames := 5, cells := 0, slots := 0, locals := 125 } s m args below meth c H locs 0 0 (MQ below (zb_Po g nc (zb_ce g I J O) (some (.int r9))) args s 0 0 (zb_A g)) (F0 m 29 ls [.int x1]) := by
    intro H locs ls hP hS hl
    refine lv_istore_n (lv' := [(2, .int x1), (0, .ref (g.2.2 + 306)), (1, .ref (zb_aK g w))]) hx hb dX8_isWord_29 rfl hl (by decide) rfl (fun ls hl => ?_)
    refine lv_iconst (v := (0 : Int32)) hx hb dX8_isWord_30 (by decide) ?_
    refine lv_istore_n (lv' := [(3, .int (0 : Int32)), (2, .int x1), (0, .ref (g.2.2 + 306)), (1, .ref (zb_aK g w))]) hx hb dX8_isWord_31 rfl hl (by decide) rfl (fun ls hl => ?_)
    obtain ⟨x5, hx5, hf⟩ := ob_e hf
    have K3 : ∀ (H : Heap) (locs : List Loc) (ls : Array Slot), va_P g.1 vwCl (zb_ws g nc (zb_ce g I J O)) H → va_S (zb_A g) s.heap H locs → lv_has ls 4 [(2, .int x5)] → W p l e { frames := 5, cells := 0, slots := 0, locals := 125 } s m args below meth c H locs 0 0 (MQ below (zb_Po g nc (zb_ce g I J O) (some (.int r9))) args s 0 0 (zb_A g)) (F0 m 75 ls []) := by
      intro H locs ls hP hS hl
      refine lv_iload_n hx hb dX8_isWord_75 rfl (lv_at hl 0 rfl) ?_
      obtain ⟨v9, hv9, hf⟩ := ob_e hf
      obtain ⟨hn9, he9⟩ := zbo_e hv9
      cases hf
      cases he9
      exact zr_zret X hr hn9 hP hS dX8_isWord_76
    exact lpX8_isWord_L32 hnJ l hw X hx5 K3 hP hS (lv_sub hl [0, 1, 2, 3] rfl)
  have hf := ht
  refine lv_icmp_ne (tgt := 28) hx hb dX8_isWord_5 (by decide) (fun hc => ?_) (fun hc => ?_)
  · have hf := if_f hc hf
    refine lv_iconst (v := (0 : Int32)) hx hb dX8_isWord_28 (by decide) ?_
    cases hf
    exact K2 H locs ls hP hS (lv_sub hl [0, 1] rfl)
  · have hf := if_t hc hf
    refine lv_aload_n hx hb dX8_isWord_8 rfl (lv_at hl 0 rfl) ?_
    refine gf_X8_79 X hnJ hP zk_306 dX8_isWord_9 ?_
    refine lv_aload_n hx hb dX8_isWord_12 rfl (lv_at hl 0 rfl) ?_
    refine gf_X8_85 X hnJ hP zk_306 dX8_isWord_13 ?_
    refine lv_isub hx hb dX8_isWord_16 ?_
    refine lv_aload_n hx hb dX8_isWord_17 rfl (lv_at hl 1 rfl) ?_
    refine zr_slenK_X8 (rest := [.int ((J 306 12) - (J 306 11))]) X hP hS hw hl.1 (Nat.le_of_ble_eq_true rfl) ⟨Nat.le_of_ble_eq_true rfl, Nat.le_of_ble_eq_true rfl⟩ ⟨Nat.le_of_ble_eq_true rfl, Nat.le_of_ble_eq_true rfl⟩ dX8_isWord_18 (fun H locs hP hS => ?_)
    refine lv_icmp_ne (tgt := 28) hx hb dX8_isWord_21 (by decide) (fun hc => ?_) (fun hc => ?_)
    · have hf := if_f hc hf
      refine lv_iconst (v := (0 : Int32)) hx hb dX8_isWord_28 (by decide) ?_
      cases hf
      exact K2 H locs ls hP hS (lv_sub hl [0, 1] rfl)
    · have hf := if_t hc hf
      refine lv_iconst (v := (1 : Int32)) hx hb dX8_isWord_24 (by decide) ?_
      refine lv_goto (tgt := 29) hx hb dX8_isWord_25 (by decide) ?_
      cases hf
      exact K2 H locs ls hP hS (lv_sub hl [0, 1] rfl)
set_option maxHeartbeats 4000000 in
set_option maxRecDepth 100000 in
theorem ct_X8_fails {g : zb_G} {nc : Nat} (hnJ : 318 ≤ nc) (l : Launch) {a1 : Int32} {I J O : Mem} {r9 : Int32} {Jq : Mem} (hf : fX8_fails a1 J = some (r9, Jq)) : zb_Ct l g nc yX8_fails cX8_fails 2 (some .boolean) 0 0 [.ref (g.2.2 + 306), .int a1] (zb_ce g I J O) (some (.int r9)) (zb_ce g I Jq O) := by
  refine zb_ofW (own := RX8) (by decide +kernel) rfl (Nat.le_of_ble_eq_true rfl) ?_
  intro p e s m args below meth c ls X hr hP hl
  have hx := X.1.1
  have hb := X.1.2.1
  have ho := X.1.2.2.2.1
  have hts := X.1.2.2.2.2
  have hZ := X.2.2.2
  have hl : lv_has ls 2 [(0, .ref (g.2.2 + 306)), (1, .int a1)] := hl
  have hS : va_S (zb_A g) s.heap s.heap [] := va_S.rf
  obtain ⟨H, hH⟩ : ∃ H, H = s.heap := ⟨_, rfl⟩
  obtain ⟨locs, hlocs⟩ : ∃ z : List Loc, z = [] := ⟨_, rfl⟩
  rw [← hH] at hP
  have hS : va_S (zb_A g) s.heap H locs := by rw [hH, hlocs]; exact hS
  show W p l e _ s m args below meth c s.heap [] 0 0 _ _
  rw [← hH, ← hlocs]
  rw [fX8_fails] at hf
  refine lv_aload_n hx hb dX8_fails_0 rfl (lv_at hl 0 rfl) ?_
  refine gf_X8_111 X hnJ hP zk_306 dX8_fails_1 ?_
  obtain ⟨J1, ht, hf⟩ := pl_e hf
  have K1 : ∀ (H : Heap) (locs : List Loc) (ls : Array Slot), va_P g.1 vwCl (zb_ws g nc (zb_ce g I J1 O)) H → va_S (zb_A g) s.heap H locs → lv_has ls 2 [] → W p l e { frames := 0, cells := 0, slots := 0, locals := 0 } s m args below meth c H locs 0 0 (MQ below (zb_Po g nc (zb_ce g I Jq O) (some (.int r9))) args s 0 0 (zb_A g)) (F0 m 20 ls []) := by
    intro H locs ls hP hS hl
    refine lv_iconst (v := (0 : Int32)) hx hb dX8_fails_20 (by decide) ?_
    obtain ⟨v9, hv9, hf⟩ := ob_e hf
    obtain ⟨hn9, he9⟩ := zbo_e hv9
    cases hf
    cases he9
    exact zr_zret X hr hn9 hP hS dX8_fails_21
  have hf := ht
  refine lv_if_ne (tgt := 20) hx hb dX8_fails_4 (by decide) (fun hc => ?_) (fun hc => ?_)
  · have hf := if_f hc hf
    cases hf
    exact K1 H locs ls hP hS (lv_sub hl [] rfl)
  · have hf := if_t hc hf
    refine lv_aload_n hx hb dX8_fails_7 rfl (lv_at hl 0 rfl) ?_
    refine lv_iload_n hx hb dX8_fails_8 rfl (lv_at hl 1 rfl) ?_
    refine pf_X8_111 X hnJ hP hS zk_306 dX8_fails_9 (fun H locs hP hS => ?_)
    refine lv_aload_n hx hb dX8_fails_12 rfl (lv_at hl 0 rfl) ?_
    refine lv_aload_n hx hb dX8_fails_13 rfl (lv_at hl 0 rfl) ?_
    refine gf_X8_85 X hnJ hP zk_306 dX8_fails_14 ?_
    refine pf_X8_36 X hnJ hP hS zk_306 dX8_fails_17 (fun H locs hP hS => ?_)
    cases hf
    exact K1 H locs ls hP hS (lv_sub hl [] rfl)
set_option maxHeartbeats 4000000 in
set_option maxRecDepth 100000 in
theorem ct_X8_starts {g : zb_G} {nc : Nat} (hnJ : 318 ≤ nc) (l : Launch) {a1 : Int32} {a2 : Int32} {I J O : Mem} {r9 : Int32} {Jq : Mem} (hf : fX8_starts a1 a2 J = some (r9, Jq)) : zb_Ct l g nc yX8_starts cX8_starts 3 (some .boolean) 3 63 [.ref (g.2.2 + 306), .int a1, .int a2] (zb_ce g I J O) (some (.int r9)) (zb_ce g I Jq O) := by
  refine zb_ofW (own := RX8) (by decide +kernel) rfl (Nat.le_of_ble_eq_true rfl) ?_
  intro p e s m args below meth c ls X hr hP hl
  have hx := X.1.1
  have hb := X.1.2.1
  have ho := X.1.2.2.2.1
  have hts := X.1.2.2.2.2
  have hZ := X.2.2.2
  have hl : lv_has ls 3 [(0, .ref (g.2.2 + 306)), (1, .int a1), (2, .int a2)] := hl
  have hS : va_S (zb_A g) s.heap s.heap [] := va_S.rf
  obtain ⟨H, hH⟩ : ∃ H, H = s.heap := ⟨_, rfl⟩
  obtain ⟨locs, hlocs⟩ : ∃ z : List Loc, z = [] := ⟨_, rfl⟩
  rw [← hH] at hP
  have hS : va_S (zb_A g) s.heap H locs := by rw [hH, hlocs]; exact hS
  show W p l e _ s m args below meth c s.heap [] 0 0 _ _
  rw [← hH, ← hlocs]
  rw [fX8_starts] at hf
  refine lv_iload_n hx hb dX8_starts_0 rfl (lv_at hl 2 rfl) ?_
  refine lv_if_ne (tgt := 10) hx hb dX8_starts_1 (by decide) (fun hc => ?_) (fun hc => ?_)
  · have hf := if_f hc hf
    refine lv_aload_n hx hb dX8_starts_10 rfl (lv_at hl 0 rfl) ?_
    obtain ⟨J1, hJ1, hf⟩ := ob_e hf
    refine zr_cVv (rest := []) (As := []) X hP hS (ct_X8_advance (g := g) (nc := nc) (I := I) (J := J) (O := O) hnJ l  hJ1) cw_X8_117 (zr_recv X hP (Nat.lt_of_lt_of_le (zk_306).2.1 hnJ) (zb_ceJo zk_306 (by decide)) rfl) rfl hl.1 (Nat.le_of_ble_eq_true rfl) ⟨Nat.le_of_ble_eq_true rfl, Nat.le_of_ble_eq_true rfl⟩ ⟨Nat.le_of_ble_eq_true rfl, Nat.le_of_ble_eq_true rfl⟩ dX8_starts_11 rfl (fun H locs hP hS => ?_)
    refine lv_iconst (v := (1 : Int32)) hx hb dX8_starts_14 (by decide) ?_
    obtain ⟨v9, hv9, hf⟩ := ob_e hf
    obtain ⟨hn9, he9⟩ := zbo_e hv9
    cases hf
    cases he9
    exact zr_zret X hr hn9 hP hS dX8_starts_15
  · have hf := if_t hc hf
    refine lv_aload_n hx hb dX8_starts_4 rfl (lv_at hl 0 rfl) ?_
    refine lv_iload_n hx hb dX8_starts_5 rfl (lv_at hl 1 rfl) ?_
    obtain ⟨x2, J3, hx2_J3, hf⟩ := ob2_e hf
    refine zr_cVi (rest := []) (As := [.int a1]) X hP hS (ct_X8_fails (g := g) (nc := nc) (I := I) (J := J) (O := O) hnJ l  hx2_J3) cw_X8_114 (zr_recv X hP (Nat.lt_of_lt_of_le (zk_306).2.1 hnJ) (zb_ceJo zk_306 (by decide)) rfl) rfl hl.1 (Nat.le_of_ble_eq_true rfl) ⟨Nat.le_of_ble_eq_true rfl, Nat.le_of_ble_eq_true rfl⟩ ⟨Nat.le_of_ble_eq_true rfl, Nat.le_of_ble_eq_true rfl⟩ dX8_starts_6 rfl (fun H locs hP hS => ?_)
    obtain ⟨v9, hv9, hf⟩ := ob_e hf
    obtain ⟨hn9, he9⟩ := zbo_e hv9
    cases hf
    cases he9
    exact zr_zret X hr hn9 hP hS dX8_starts_9
set_option maxHeartbeats 4000000 in
set_option maxRecDepth 100000 in
theorem ct_X8_stands {g : zb_G} {nc : Nat} (hnJ : 318 ≤ nc) (l : Launch) {a1 : Int32} {a2 : Int32} {I J O : Mem} {r9 : Int32} {Jq : Mem} (hf : fX8_stands a1 a2 J = some (r9, Jq)) : zb_Ct l g nc yX8_stands cX8_stands 3 (some .boolean) 1 22 [.ref (g.2.2 + 306), .int a1, .int a2] (zb_ce g I J O) (some (.int r9)) (zb_ce g I Jq O) := by
  refine zb_ofW (own := RX8) (by decide +kernel) rfl (Nat.le_of_ble_eq_true rfl) ?_
  intro p e s m args below meth c ls X hr hP hl
  have hx := X.1.1
  have hb := X.1.2.1
  have ho := X.1.2.2.2.1
  have hts := X.1.2.2.2.2
  have hZ := X.2.2.2
  have hl : lv_has ls 3 [(0, .ref (g.2.2 + 306)), (1, .int a1), (2, .int a2)] := hl
  have hS : va_S (zb_A g) s.heap s.heap [] := va_S.rf
  obtain ⟨H, hH⟩ : ∃ H, H = s.heap := ⟨_, rfl⟩
  obtain ⟨locs, hlocs⟩ : ∃ z : List Loc, z = [] := ⟨_, rfl⟩
  rw [← hH] at hP
  have hS : va_S (zb_A g) s.heap H locs := by rw [hH, hlocs]; exact hS
  show W p l e _ s m args below meth c s.heap [] 0 0 _ _
  rw [← hH, ← hlocs]
  rw [fX8_stands] at hf
  refine lv_aload_n hx hb dX8_stands_0 rfl (lv_at hl 0 rfl) ?_
  refine gf_X8_91 X hnJ hP zk_306 dX8_stands_1 ?_
  refine lv_iconst (v := (2 : Int32)) hx hb dX8_stands_4 (by decide) ?_
  refine lv_icmp_eq (tgt := 14) hx hb dX8_stands_5 (by decide) (fun hc => ?_) (fun hc => ?_)
  · have hf := if_t hc hf
    refine lv_aload_n hx hb dX8_stands_14 rfl (lv_at hl 0 rfl) ?_
    refine lv_aload_n hx hb dX8_stands_15 rfl (lv_at hl 0 rfl) ?_
    refine gf_X8_88 X hnJ hP zk_306 dX8_stands_16 ?_
    refine pf_X8_120 X hnJ hP hS zk_306 dX8_stands_19 (fun H locs hP hS => ?_)
    refine lv_aload_n hx hb dX8_stands_22 rfl (lv_at hl 0 rfl) ?_
    refine gf_X8_88 X hnJ hP zk_306 dX8_stands_23 ?_
    refine lv_iload_n hx hb dX8_stands_26 rfl (lv_at hl 1 rfl) ?_
    refine lv_iload_n hx hb dX8_stands_27 rfl (lv_at hl 2 rfl) ?_
    obtain ⟨x1, hx1, hf⟩ := ob_e hf
    refine zr_cSi (rest := []) (As := [.int ((wr J 306 17 (J 306 14)) 306 14), .int a1, .int a2]) X hP hS (ct_X8_within (g := g) (nc := nc) (I := I) (J := (wr J 306 17 (J 306 14))) (O := O)  l  hx1) cw_X8_60  rfl hl.1 (Nat.le_of_ble_eq_true rfl) ⟨Nat.le_of_ble_eq_true rfl, Nat.le_of_ble_eq_true rfl⟩ ⟨Nat.le_of_ble_eq_true rfl, Nat.le_of_ble_eq_true rfl⟩ dX8_stands_28 rfl (fun H locs hP hS => ?_)
    obtain ⟨x4, J5, ht, hf⟩ := ob2_e hf
    have K1 : ∀ (H : Heap) (locs : List Loc) (ls : Array Slot), va_P g.1 vwCl (zb_ws g nc (zb_ce g I J5 O)) H → va_S (zb_A g) s.heap H locs → lv_has ls 3 [] → W p l e { frames := 1, cells := 0, slots := 0, locals := 22 } s m args below meth c H locs 0 0 (MQ below (zb_Po g nc (zb_ce g I Jq O) (some (.int r9))) args s 0 0 (zb_A g)) (F0 m 47 ls [.int x4]) := by
      intro H locs ls hP hS hl
      obtain ⟨v9, hv9, hf⟩ := ob_e hf
      obtain ⟨hn9, he9⟩ := zbo_e hv9
      cases hf
      cases he9
      exact zr_zret X hr hn9 hP hS dX8_stands_47
    have hf := ht
    refine lv_if_ne (tgt := 42) hx hb dX8_stands_31 (by decide) (fun hc => ?_) (fun hc => ?_)
    · have hf := if_f hc hf
      refine lv_iconst (v := (1 : Int32)) hx hb dX8_stands_42 (by decide) ?_
      refine lv_goto (tgt := 47) hx hb dX8_stands_43 (by decide) ?_
      cases hf
      exact K1 H locs ls hP hS (lv_sub hl [] rfl)
    · have hf := if_t hc hf
      refine lv_aload_n hx hb dX8_stands_34 rfl (lv_at hl 0 rfl) ?_
      refine lv_iconst (v := (2 : Int32)) hx hb dX8_stands_35 (by decide) ?_
      obtain ⟨x2, J3, hx2_J3, hf⟩ := ob2_e hf
      refine zr_cVi (rest := []) (As := [.int (2 : Int32)]) X hP hS (ct_X8_fails (g := g) (nc := nc) (I := I) (J := (wr J 306 17 (J 306 14))) (O := O) hnJ l  hx2_J3) cw_X8_114 (zr_recv X hP (Nat.lt_of_lt_of_le (zk_306).2.1 hnJ) (zb_ceJo zk_306 (by decide)) rfl) rfl hl.1 (Nat.le_of_ble_eq_true rfl) ⟨Nat.le_of_ble_eq_true rfl, Nat.le_of_ble_eq_true rfl⟩ ⟨Nat.le_of_ble_eq_true rfl, Nat.le_of_ble_eq_true rfl⟩ dX8_stands_36 rfl (fun H locs hP hS => ?_)
      refine lv_if_eq (tgt := 46) hx hb dX8_stands_39 (by decide) (fun hc => ?_) (fun hc => ?_)
      · have hf := if_t hc hf
        refine lv_iconst (v := (0 : Int32)) hx hb dX8_stands_46 (by decide) ?_
        cases hf
        exact K1 H locs ls hP hS (lv_sub hl [] rfl)
      · have hf := if_f hc hf
        refine lv_iconst (v := (1 : Int32)) hx hb dX8_stands_42 (by decide) ?_
        refine lv_goto (tgt := 47) hx hb dX8_stands_43 (by decide) ?_
        cases hf
        exact K1 H locs ls hP hS (lv_sub hl [] rfl)
  · have hf := if_f hc hf
    refine lv_aload_n hx hb dX8_stands_8 rfl (lv_at hl 0 rfl) ?_
    refine lv_iconst (v := (1 : Int32)) hx hb dX8_stands_9 (by decide) ?_
    obtain ⟨x6, J7, hx6_J7, hf⟩ := ob2_e hf
    refine zr_cVi (rest := []) (As := [.int (1 : Int32)]) X hP hS (ct_X8_fails (g := g) (nc := nc) (I := I) (J := J) (O := O) hnJ l  hx6_J7) cw_X8_114 (zr_recv X hP (Nat.lt_of_lt_of_le (zk_306).2.1 hnJ) (zb_ceJo zk_306 (by decide)) rfl) rfl hl.1 (Nat.le_of_ble_eq_true rfl) ⟨Nat.le_of_ble_eq_true rfl, Nat.le_of_ble_eq_true rfl⟩ ⟨Nat.le_of_ble_eq_true rfl, Nat.le_of_ble_eq_true rfl⟩ dX8_stands_10 rfl (fun H locs hP hS => ?_)
    obtain ⟨v9, hv9, hf⟩ := ob_e hf
    obtain ⟨hn9, he9⟩ := zbo_e hv9
    cases hf
    cases he9
    exact zr_zret X hr hn9 hP hS dX8_stands_13
set_option maxHeartbeats 4000000 in
set_option maxRecDepth 100000 in
theorem ct_X8_takes {g : zb_G} {nc : Nat} (hnJ : 318 ≤ nc) (l : Launch) {a1 : Int32} {a2 : Int32} {I J O : Mem} {r9 : Int32} {Jq : Mem} (hf : fX8_takes a1 a2 J = some (r9, Jq)) : zb_Ct l g nc yX8_takes cX8_takes 3 (some .boolean) 4 85 [.ref (g.2.2 + 306), .int a1, .int a2] (zb_ce g I J O) (some (.int r9)) (zb_ce g I Jq O) := by
  refine zb_ofW (own := RX8) (by decide +kernel) rfl (Nat.le_of_ble_eq_true rfl) ?_
  intro p e s m args below meth c ls X hr hP hl
  have hx := X.1.1
  have hb := X.1.2.1
  have ho := X.1.2.2.2.1
  have hts := X.1.2.2.2.2
  have hZ := X.2.2.2
  have hl : lv_has ls 3 [(0, .ref (g.2.2 + 306)), (1, .int a1), (2, .int a2)] := hl
  have hS : va_S (zb_A g) s.heap s.heap [] := va_S.rf
  obtain ⟨H, hH⟩ : ∃ H, H = s.heap := ⟨_, rfl⟩
  obtain ⟨locs, hlocs⟩ : ∃ z : List Loc, z = [] := ⟨_, rfl⟩
  rw [← hH] at hP
  have hS : va_S (zb_A g) s.heap H locs := by rw [hH, hlocs]; exact hS
  show W p l e _ s m args below meth c s.heap [] 0 0 _ _
  rw [← hH, ← hlocs]
  rw [fX8_takes] at hf
  refine lv_aload_n hx hb dX8_takes_0 rfl (lv_at hl 0 rfl) ?_
  refine lv_iload_n hx hb dX8_takes_1 rfl (lv_at hl 1 rfl) ?_
  refine lv_iload_n hx hb dX8_takes_2 rfl (lv_at hl 2 rfl) ?_
  obtain ⟨x1, J2, hx1_J2, hf⟩ := ob2_e hf
  refine zr_cVi (rest := []) (As := [.int a1, .int a2]) X hP hS (ct_X8_stands (g := g) (nc := nc) (I := I) (J := J) (O := O) hnJ l  hx1_J2) cw_X8_123 (zr_recv X hP (Nat.lt_of_lt_of_le (zk_306).2.1 hnJ) (zb_ceJo zk_306 (by decide)) rfl) rfl hl.1 (Nat.le_of_ble_eq_true rfl) ⟨Nat.le_of_ble_eq_true rfl, Nat.le_of_ble_eq_true rfl⟩ ⟨Nat.le_of_ble_eq_true rfl, Nat.le_of_ble_eq_true rfl⟩ dX8_takes_3 rfl (fun H locs hP hS => ?_)
  obtain ⟨x5, J6, ht, hf⟩ := ob2_e hf
  have K1 : ∀ (H : Heap) (locs : List Loc) (ls : Array Slot), va_P g.1 vwCl (zb_ws g nc (zb_ce g I J6 O)) H → va_S (zb_A g) s.heap H locs → lv_has ls 3 [] → W p l e { frames := 4, cells := 0, slots := 0, locals := 85 } s m args below meth c H locs 0 0 (MQ below (zb_Po g nc (zb_ce g I Jq O) (some (.int r9))) args s 0 0 (zb_A g)) (F0 m 23 ls [.int x5]) := by
    intro H locs ls hP hS hl
    obtain ⟨v9, hv9, hf⟩ := ob_e hf
    obtain ⟨hn9, he9⟩ := zbo_e hv9
    cases hf
    cases he9
    exact zr_zret X hr hn9 hP hS dX8_takes_23
  have hf := ht
  refine lv_if_eq (tgt := 22) hx hb dX8_takes_6 (by decide) (fun hc => ?_) (fun hc => ?_)
  · have hf := if_t hc hf
    refine lv_iconst (v := (0 : Int32)) hx hb dX8_takes_22 (by decide) ?_
    cases hf
    exact K1 H locs ls hP hS (lv_sub hl [] rfl)
  · have hf := if_f hc hf
    refine lv_aload_n hx hb dX8_takes_9 rfl (lv_at hl 0 rfl) ?_
    refine lv_iconst (v := (1 : Int32)) hx hb dX8_takes_10 (by decide) ?_
    refine lv_iconst (v := (1 : Int32)) hx hb dX8_takes_11 (by decide) ?_
    obtain ⟨x3, J4, hx3_J4, hf⟩ := ob2_e hf
    refine zr_cVi (rest := []) (As := [.int (1 : Int32), .int (1 : Int32)]) X hP hS (ct_X8_starts (g := g) (nc := nc) (I := I) (J := J2) (O := O) hnJ l  hx3_J4) cw_X8_127 (zr_recv X hP (Nat.lt_of_lt_of_le (zk_306).2.1 hnJ) (zb_ceJo zk_306 (by decide)) rfl) rfl hl.1 (Nat.le_of_ble_eq_true rfl) ⟨Nat.le_of_ble_eq_true rfl, Nat.le_of_ble_eq_true rfl⟩ ⟨Nat.le_of_ble_eq_true rfl, Nat.le_of_ble_eq_true rfl⟩ dX8_takes_12 rfl (fun H locs hP hS => ?_)
    refine lv_if_eq (tgt := 22) hx hb dX8_takes_15 (by decide) (fun hc => ?_) (fun hc => ?_)
    · have hf := if_t hc hf
      refine lv_iconst (v := (0 : Int32)) hx hb dX8_takes_22 (by decide) ?_
      cases hf
      exact K1 H locs ls hP hS (lv_sub hl [] rfl)
    · have hf := if_f hc hf
      refine lv_iconst (v := (1 : Int32)) hx hb dX8_takes_18 (by decide) ?_
      refine lv_goto (tgt := 23) hx hb dX8_takes_19 (by decide) ?_
      cases hf
      exact K1 H locs ls hP hS (lv_sub hl [] rfl)
set_option maxHeartbeats 4000000 in
set_option maxRecDepth 100000 in
theorem ct_X8_takesSigned {g : zb_G} {nc : Nat} (hnJ : 318 ≤ nc) (l : Launch) {a1 : Int32} {I J O : Mem} {r9 : Int32} {Jq : Mem} (hf : fX8_takesSigned a1 J = some (r9, Jq)) : zb_Ct l g nc yX8_takesSigned cX8_takesSigned 3 (some .boolean) 5 107 [.ref (g.2.2 + 306), .int a1] (zb_ce g I J O) (some (.int r9)) (zb_ce g I Jq O) := by
  refine zb_ofW (own := RX8) (by decide +kernel) rfl (Nat.le_of_ble_eq_true rfl) ?_
  intro p e s m args below meth c ls X hr hP hl
  have hx := X.1.1
  have hb := X.1.2.1
  have ho := X.1.2.2.2.1
  have hts := X.1.2.2.2.2
  have hZ := X.2.2.2
  have hl : lv_has ls 3 [(0, .ref (g.2.2 + 306)), (1, .int a1)] := hl
  have hS : va_S (zb_A g) s.heap s.heap [] := va_S.rf
  obtain ⟨H, hH⟩ : ∃ H, H = s.heap := ⟨_, rfl⟩
  obtain ⟨locs, hlocs⟩ : ∃ z : List Loc, z = [] := ⟨_, rfl⟩
  rw [← hH] at hP
  have hS : va_S (zb_A g) s.heap H locs := by rw [hH, hlocs]; exact hS
  show W p l e _ s m args below meth c s.heap [] 0 0 _ _
  rw [← hH, ← hlocs]
  rw [fX8_takesSigned] at hf
  refine lv_aload_n hx hb dX8_takesSigned_0 rfl (lv_at hl 0 rfl) ?_
  refine gf_X8_91 X hnJ hP zk_306 dX8_takesSigned_1 ?_
  refine lv_iconst (v := (3 : Int32)) hx hb dX8_takesSigned_4 (by decide) ?_
  obtain ⟨x1, ht, hf⟩ := pl_e hf
  have K1 : ∀ (H : Heap) (locs : List Loc) (ls : Array Slot), va_P g.1 vwCl (zb_ws g nc (zb_ce g I J O)) H → va_S (zb_A g) s.heap H locs → lv_has ls 3 [(0, .ref (g.2.2 + 306)), (1, .int a1)] → W p l e { frames := 5, cells := 0, slots := 0, locals := 107 } s m args below meth c H locs 0 0 (MQ below (zb_Po g nc (zb_ce g I Jq O) (some (.int r9))) args s 0 0 (zb_A g)) (F0 m 13 ls [.int x1]) := by
    intro H locs ls hP hS hl
    refine lv_istore_n (lv' := [(2, .int x1), (0, .ref (g.2.2 + 306)), (1, .int a1)]) hx hb dX8_takesSigned_13 rfl hl (by decide) rfl (fun ls hl => ?_)
    refine lv_iload_n hx hb dX8_takesSigned_14 rfl (lv_at hl 0 rfl) ?_
    obtain ⟨J3, ht, hf⟩ := ob_e hf
    have K2 : ∀ (H : Heap) (locs : List Loc) (ls : Array Slot), va_P g.1 vwCl (zb_ws g nc (zb_ce g I J3 O)) H → va_S (zb_A g) s.heap H locs → lv_has ls 3 [(2, .int x1), (0, .ref (g.2.2 + 306)), (1, .int a1)] → W p l e { frames := 5, cells := 0, slots := 0, locals := 107 } s m args below meth c H locs 0 0 (MQ below (zb_Po g nc (zb_ce g I Jq O) (some (.int r9))) args s 0 0 (zb_A g)) (F0 m 22 ls []) := by
      intro H locs ls hP hS hl
      refine lv_aload_n hx hb dX8_takesSigned_22 rfl (lv_at hl 1 rfl) ?_
      refine lv_iconst (v := (0 : Int32)) hx hb dX8_takesSigned_23 (by decide) ?_
      refine lv_iload_n hx hb dX8_takesSigned_24 rfl (lv_at hl 2 rfl) ?_
      obtain ⟨x4, J5, hx4_J5, hf⟩ := ob2_e hf
      refine zr_cVi (rest := []) (As := [.int (0 : Int32), .int a1]) X hP hS (ct_X8_takes (g := g) (nc := nc) (I := I) (J := J3) (O := O) hnJ l  hx4_J5) cw_X8_131 (zr_recv X hP (Nat.lt_of_lt_of_le (zk_306).2.1 hnJ) (zb_ceJo zk_306 (by decide)) rfl) rfl hl.1 (Nat.le_of_ble_eq_true rfl) ⟨Nat.le_of_ble_eq_true rfl, Nat.le_of_ble_eq_true rfl⟩ ⟨Nat.le_of_ble_eq_true rfl, Nat.le_of_ble_eq_true rfl⟩ dX8_takesSigned_25 rfl (fun H locs hP hS => ?_)
      refine lv_if_ne (tgt := 33) hx hb dX8_takesSigned_28 (by decide) (fun hc => ?_) (fun hc => ?_)
      · have hf := if_f hc hf
        refine lv_aload_n hx hb dX8_takesSigned_33 rfl (lv_at hl 1 rfl) ?_
        refine lv_iload_n hx hb dX8_takesSigned_34 rfl (lv_at hl 0 rfl) ?_
        obtain ⟨x6, ht, hf⟩ := pl_e hf
        have K3 : ∀ (H : Heap) (locs : List Loc) (ls : Array Slot), va_P g.1 vwCl (zb_ws g nc (zb_ce g I J5 O)) H → va_S (zb_A g) s.heap H locs → lv_has ls 3 [] → W p l e { frames := 5, cells := 0, slots := 0, locals := 107 } s m args below meth c H locs 0 0 (MQ below (zb_Po g nc (zb_ce g I Jq O) (some (.int r9))) args s 0 0 (zb_A g)) (F0 m 50 ls [.int x6, .ref (g.2.2 + 306)]) := by
          intro H locs ls hP hS hl
          refine pf_X8_120 X hnJ hP hS zk_306 dX8_takesSigned_50 (fun H locs hP hS => ?_)
          refine lv_iconst (v := (1 : Int32)) hx hb dX8_takesSigned_53 (by decide) ?_
          obtain ⟨v9, hv9, hf⟩ := ob_e hf
          obtain ⟨hn9, he9⟩ := zbo_e hv9
          cases hf
          cases he9
          exact zr_zret X hr hn9 hP hS dX8_takesSigned_54
        have hf := ht
        refine lv_if_eq (tgt := 46) hx hb dX8_takesSigned_35 (by decide) (fun hc => ?_) (fun hc => ?_)
        · have hf := if_t hc hf
          refine lv_aload_n hx hb dX8_takesSigned_46 rfl (lv_at hl 1 rfl) ?_
          refine gf_X8_120 X hnJ hP zk_306 dX8_takesSigned_47 ?_
          cases hf
          exact K3 H locs ls hP hS (lv_sub hl [] rfl)
        · have hf := if_f hc hf
          refine lv_aload_n hx hb dX8_takesSigned_38 rfl (lv_at hl 1 rfl) ?_
          refine gf_X8_120 X hnJ hP zk_306 dX8_takesSigned_39 ?_
          refine lv_ineg hx hb dX8_takesSigned_42 ?_
          refine lv_goto (tgt := 50) hx hb dX8_takesSigned_43 (by decide) ?_
          cases hf
          exact K3 H locs ls hP hS (lv_sub hl [] rfl)
      · have hf := if_t hc hf
        refine lv_iconst (v := (0 : Int32)) hx hb dX8_takesSigned_31 (by decide) ?_
        obtain ⟨v9, hv9, hf⟩ := ob_e hf
        obtain ⟨hn9, he9⟩ := zbo_e hv9
        cases hf
        cases he9
        exact zr_zret X hr hn9 hP hS dX8_takesSigned_32
    have hf := ht
    refine lv_if_eq (tgt := 22) hx hb dX8_takesSigned_15 (by decide) (fun hc => ?_) (fun hc => ?_)
    · have hf := if_t hc hf
      cases hf
      exact K2 H locs ls hP hS (lv_sub hl [0, 1, 2] rfl)
    · have hf := if_f hc hf
      refine lv_aload_n hx hb dX8_takesSigned_18 rfl (lv_at hl 1 rfl) ?_
      obtain ⟨J2, hJ2, hf⟩ := ob_e hf
      refine zr_cVv (rest := []) (As := []) X hP hS (ct_X8_advance (g := g) (nc := nc) (I := I) (J := J) (O := O) hnJ l  hJ2) cw_X8_117 (zr_recv X hP (Nat.lt_of_lt_of_le (zk_306).2.1 hnJ) (zb_ceJo zk_306 (by decide)) rfl) rfl hl.1 (Nat.le_of_ble_eq_true rfl) ⟨Nat.le_of_ble_eq_true rfl, Nat.le_of_ble_eq_true rfl⟩ ⟨Nat.le_of_ble_eq_true rfl, Nat.le_of_ble_eq_true rfl⟩ dX8_takesSigned_19 rfl (fun H locs hP hS => ?_)
      cases hf
      exact K2 H locs ls hP hS (lv_sub hl [0, 1, 2] rfl)
  have hf := ht
  refine lv_icmp_ne (tgt := 12) hx hb dX8_takesSigned_5 (by decide) (fun hc => ?_) (fun hc => ?_)
  · have hf := if_f hc hf
    refine lv_iconst (v := (0 : Int32)) hx hb dX8_takesSigned_12 (by decide) ?_
    cases hf
    exact K1 H locs ls hP hS (lv_sub hl [0, 1] rfl)
  · have hf := if_t hc hf
    refine lv_iconst (v := (1 : Int32)) hx hb dX8_takesSigned_8 (by decide) ?_
    refine lv_goto (tgt := 13) hx hb dX8_takesSigned_9 (by decide) ?_
    cases hf
    exact K1 H locs ls hP hS (lv_sub hl [0, 1] rfl)
set_option maxHeartbeats 4000000 in
set_option maxRecDepth 100000 in
theorem ct_X8_stop {g : zb_G} {nc : Nat} (hnJ : 318 ≤ nc) (l : Launch) {I J O : Mem} {r9 : Int32} {Jq : Mem} (hf : fX8_stop J = some (r9, Jq)) : zb_Ct l g nc yX8_stop cX8_stop 1 (some .boolean) 4 85 [.ref (g.2.2 + 306)] (zb_ce g I J O) (some (.int r9)) (zb_ce g I Jq O) := by
  refine zb_ofW (own := RX8) (by decide +kernel) rfl (Nat.le_of_ble_eq_true rfl) ?_
  intro p e s m args below meth c ls X hr hP hl
  have hx := X.1.1
  have hb := X.1.2.1
  have ho := X.1.2.2.2.1
  have hts := X.1.2.2.2.2
  have hZ := X.2.2.2
  have hl : lv_has ls 1 [(0, .ref (g.2.2 + 306))] := hl
  have hS : va_S (zb_A g) s.heap s.heap [] := va_S.rf
  obtain ⟨H, hH⟩ : ∃ H, H = s.heap := ⟨_, rfl⟩
  obtain ⟨locs, hlocs⟩ : ∃ z : List Loc, z = [] := ⟨_, rfl⟩
  rw [← hH] at hP
  have hS : va_S (zb_A g) s.heap H locs := by rw [hH, hlocs]; exact hS
  show W p l e _ s m args below meth c s.heap [] 0 0 _ _
  rw [← hH, ← hlocs]
  rw [fX8_stop] at hf
  refine lv_aload_n hx hb dX8_stop_0 rfl (lv_at hl 0 rfl) ?_
  refine lv_iconst (v := (1 : Int32)) hx hb dX8_stop_1 (by decide) ?_
  refine lv_aload_n hx hb dX8_stop_2 rfl (lv_at hl 0 rfl) ?_
  refine gf_X8_91 X hnJ hP zk_306 dX8_stop_3 ?_
  refine lv_iconst (v := (4 : Int32)) hx hb dX8_stop_6 (by decide) ?_
  obtain ⟨x1, ht, hf⟩ := pl_e hf
  have K1 : ∀ (H : Heap) (locs : List Loc) (ls : Array Slot), va_P g.1 vwCl (zb_ws g nc (zb_ce g I J O)) H → va_S (zb_A g) s.heap H locs → lv_has ls 1 [] → W p l e { frames := 4, cells := 0, slots := 0, locals := 85 } s m args below meth c H locs 0 0 (MQ below (zb_Po g nc (zb_ce g I Jq O) (some (.int r9))) args s 0 0 (zb_A g)) (F0 m 15 ls [.int x1, .int (1 : Int32), .ref (g.2.2 + 306)]) := by
    intro H locs ls hP hS hl
    obtain ⟨x2, J3, hx2_J3, hf⟩ := ob2_e hf
    refine zr_cVi (rest := []) (As := [.int (1 : Int32), .int x1]) X hP hS (ct_X8_starts (g := g) (nc := nc) (I := I) (J := J) (O := O) hnJ l  hx2_J3) cw_X8_127 (zr_recv X hP (Nat.lt_of_lt_of_le (zk_306).2.1 hnJ) (zb_ceJo zk_306 (by decide)) rfl) rfl hl.1 (Nat.le_of_ble_eq_true rfl) ⟨Nat.le_of_ble_eq_true rfl, Nat.le_of_ble_eq_true rfl⟩ ⟨Nat.le_of_ble_eq_true rfl, Nat.le_of_ble_eq_true rfl⟩ dX8_stop_15 rfl (fun H locs hP hS => ?_)
    obtain ⟨v9, hv9, hf⟩ := ob_e hf
    obtain ⟨hn9, he9⟩ := zbo_e hv9
    cases hf
    cases he9
    exact zr_zret X hr hn9 hP hS dX8_stop_18
  have hf := ht
  refine lv_icmp_ne (tgt := 14) hx hb dX8_stop_7 (by decide) (fun hc => ?_) (fun hc => ?_)
  · have hf := if_f hc hf
    refine lv_iconst (v := (0 : Int32)) hx hb dX8_stop_14 (by decide) ?_
    cases hf
    exact K1 H locs ls hP hS (lv_sub hl [] rfl)
  · have hf := if_t hc hf
    refine lv_iconst (v := (1 : Int32)) hx hb dX8_stop_10 (by decide) ?_
    refine lv_goto (tgt := 15) hx hb dX8_stop_11 (by decide) ?_
    cases hf
    exact K1 H locs ls hP hS (lv_sub hl [] rfl)
set_option maxHeartbeats 4000000 in
set_option maxRecDepth 100000 in
theorem ct_X8_begins {g : zb_G} {nc : Nat} (hnJ : 318 ≤ nc) (l : Launch) {I J O : Mem} {Jq : Mem} (hf : fX8_begins J = some Jq) : zb_Ct l g nc yX8_begins cX8_begins 1 none 3 63 [.ref (g.2.2 + 306)] (zb_ce g I J O) none (zb_ce g I Jq O) := by
  refine zb_ofW (own := RX8) (by decide +kernel) rfl (Nat.le_of_ble_eq_true rfl) ?_
  intro p e s m args below meth c ls X hr hP hl
  have hx := X.1.1
  have hb := X.1.2.1
  have ho := X.1.2.2.2.1
  have hts := X.1.2.2.2.2
  have hZ := X.2.2.2
  have hl : lv_has ls 1 [(0, .ref (g.2.2 + 306))] := hl
  have hS : va_S (zb_A g) s.heap s.heap [] := va_S.rf
  obtain ⟨H, hH⟩ : ∃ H, H = s.heap := ⟨_, rfl⟩
  obtain ⟨locs, hlocs⟩ : ∃ z : List Loc, z = [] := ⟨_, rfl⟩
  rw [← hH] at hP
  have hS : va_S (zb_A g) s.heap H locs := by rw [hH, hlocs]; exact hS
  show W p l e _ s m args below meth c s.heap [] 0 0 _ _
  rw [← hH, ← hlocs]
  rw [fX8_begins] at hf
  refine lv_aload_n hx hb dX8_begins_0 rfl (lv_at hl 0 rfl) ?_
  refine lv_iconst (v := (0 : Int32)) hx hb dX8_begins_1 (by decide) ?_
  refine pf_X8_79 X hnJ hP hS zk_306 dX8_begins_2 (fun H locs hP hS => ?_)
  refine lv_aload_n hx hb dX8_begins_5 rfl (lv_at hl 0 rfl) ?_
  refine lv_iconst (v := (0 : Int32)) hx hb dX8_begins_6 (by decide) ?_
  refine pf_X8_111 X hnJ hP hS zk_306 dX8_begins_7 (fun H locs hP hS => ?_)
  refine lv_aload_n hx hb dX8_begins_10 rfl (lv_at hl 0 rfl) ?_
  refine lv_iconst (v := (-1 : Int32)) hx hb dX8_begins_11 (by decide) ?_
  refine pf_X8_36 X hnJ hP hS zk_306 dX8_begins_12 (fun H locs hP hS => ?_)
  refine lv_aload_n hx hb dX8_begins_15 rfl (lv_at hl 0 rfl) ?_
  obtain ⟨J1, hJ1, hf⟩ := ob_e hf
  refine zr_cVv (rest := []) (As := []) X hP hS (ct_X8_advance (g := g) (nc := nc) (I := I) (J := (wr (wr (wr J 306 12 (0 : Int32)) 306 15 (0 : Int32)) 306 16 (-1 : Int32))) (O := O) hnJ l  hJ1) cw_X8_117 (zr_recv X hP (Nat.lt_of_lt_of_le (zk_306).2.1 hnJ) (zb_ceJo zk_306 (by decide)) rfl) rfl hl.1 (Nat.le_of_ble_eq_true rfl) ⟨Nat.le_of_ble_eq_true rfl, Nat.le_of_ble_eq_true rfl⟩ ⟨Nat.le_of_ble_eq_true rfl, Nat.le_of_ble_eq_true rfl⟩ dX8_begins_16 rfl (fun H locs hP hS => ?_)
  cases hf
  exact zr_vret X hr hP hS rfl dX8_begins_19
set_option maxHeartbeats 4000000 in
set_option maxRecDepth 100000 in
theorem ct_X8_errorCode {g : zb_G} {nc : Nat} (hnJ : 318 ≤ nc) (l : Launch) {I J O : Mem} {r9 : Int32} {Jq : Mem} (hf : fX8_errorCode J = some (r9, Jq)) : zb_Ct l g nc yX8_errorCode cX8_errorCode 1 (some .int) 0 0 [.ref (g.2.2 + 306)] (zb_ce g I J O) (some (.int r9)) (zb_ce g I Jq O) := by
  refine zb_ofW (own := RX8) (by decide +kernel) rfl (Nat.le_of_ble_eq_true rfl) ?_
  intro p e s m args below meth c ls X hr hP hl
  have hx := X.1.1
  have hb := X.1.2.1
  have ho := X.1.2.2.2.1
  have hts := X.1.2.2.2.2
  have hZ := X.2.2.2
  have hl : lv_has ls 1 [(0, .ref (g.2.2 + 306))] := hl
  have hS : va_S (zb_A g) s.heap s.heap [] := va_S.rf
  obtain ⟨H, hH⟩ : ∃ H, H = s.heap := ⟨_, rfl⟩
  obtain ⟨locs, hlocs⟩ : ∃ z : List Loc, z = [] := ⟨_, rfl⟩
  rw [← hH] at hP
  have hS : va_S (zb_A g) s.heap H locs := by rw [hH, hlocs]; exact hS
  show W p l e _ s m args below meth c s.heap [] 0 0 _ _
  rw [← hH, ← hlocs]
  rw [fX8_errorCode] at hf
  refine lv_aload_n hx hb dX8_errorCode_0 rfl (lv_at hl 0 rfl) ?_
  refine lv_iconst (v := (0 : Int32)) hx hb dX8_errorCode_1 (by decide) ?_
  refine pf_X8_57 X hnJ hP hS zk_306 dX8_errorCode_2 (fun H locs hP hS => ?_)
  refine lv_aload_n hx hb dX8_errorCode_5 rfl (lv_at hl 0 rfl) ?_
  refine gf_X8_111 X hnJ hP zk_306 dX8_errorCode_6 ?_
  cases hf
  exact zr_iret X hr hP hS dX8_errorCode_9
set_option maxHeartbeats 4000000 in
set_option maxRecDepth 100000 in
theorem ct_X8_errorPosition {g : zb_G} {nc : Nat} (hnJ : 318 ≤ nc) (l : Launch) {I J O : Mem} {r9 : Int32} {Jq : Mem} (hf : fX8_errorPosition J = some (r9, Jq)) : zb_Ct l g nc yX8_errorPosition cX8_errorPosition 1 (some .int) 0 0 [.ref (g.2.2 + 306)] (zb_ce g I J O) (some (.int r9)) (zb_ce g I Jq O) := by
  refine zb_ofW (own := RX8) (by decide +kernel) rfl (Nat.le_of_ble_eq_true rfl) ?_
  intro p e s m args below meth c ls X hr hP hl
  have hx := X.1.1
  have hb := X.1.2.1
  have ho := X.1.2.2.2.1
  have hts := X.1.2.2.2.2
  have hZ := X.2.2.2
  have hl : lv_has ls 1 [(0, .ref (g.2.2 + 306))] := hl
  have hS : va_S (zb_A g) s.heap s.heap [] := va_S.rf
  obtain ⟨H, hH⟩ : ∃ H, H = s.heap := ⟨_, rfl⟩
  obtain ⟨locs, hlocs⟩ : ∃ z : List Loc, z = [] := ⟨_, rfl⟩
  rw [← hH] at hP
  have hS : va_S (zb_A g) s.heap H locs := by rw [hH, hlocs]; exact hS
  show W p l e _ s m args below meth c s.heap [] 0 0 _ _
  rw [← hH, ← hlocs]
  rw [fX8_errorPosition] at hf
  refine lv_aload_n hx hb dX8_errorPosition_0 rfl (lv_at hl 0 rfl) ?_
  refine lv_iconst (v := (0 : Int32)) hx hb dX8_errorPosition_1 (by decide) ?_
  refine pf_X8_57 X hnJ hP hS zk_306 dX8_errorPosition_2 (fun H locs hP hS => ?_)
  refine lv_aload_n hx hb dX8_errorPosition_5 rfl (lv_at hl 0 rfl) ?_
  refine gf_X8_36 X hnJ hP zk_306 dX8_errorPosition_6 ?_
  cases hf
  exact zr_iret X hr hP hS dX8_errorPosition_9
set_option maxHeartbeats 4000000 in
set_option maxRecDepth 100000 in
theorem ct_X8_takesInto {g : zb_G} {nc : Nat} (hnJ : 318 ≤ nc) (l : Launch) {a1 : Int32} {a2 : Int32} {a3 : Int32} {I J O : Mem} {r9 : Int32} {Jq : Mem} (hf : fX8_takesInto a1 a2 a3 J = some (r9, Jq)) : zb_Ct l g nc yX8_takesInto cX8_takesInto 4 (some .boolean) 5 107 [.ref (g.2.2 + 306), .int a1, .int a2, .int a3] (zb_ce g I J O) (some (.int r9)) (zb_ce g I Jq O) := by
  refine zb_ofW (own := RX8) (by decide +kernel) rfl (Nat.le_of_ble_eq_true rfl) ?_
  intro p e s m args below meth c ls X hr hP hl
  have hx := X.1.1
  have hb := X.1.2.1
  have ho := X.1.2.2.2.1
  have hts := X.1.2.2.2.2
  have hZ := X.2.2.2
  have hl : lv_has ls 4 [(0, .ref (g.2.2 + 306)), (1, .int a1), (2, .int a2), (3, .int a3)] := hl
  have hS : va_S (zb_A g) s.heap s.heap [] := va_S.rf
  obtain ⟨H, hH⟩ : ∃ H, H = s.heap := ⟨_, rfl⟩
  obtain ⟨locs, hlocs⟩ : ∃ z : List Loc, z = [] := ⟨_, rfl⟩
  rw [← hH] at hP
  have hS : va_S (zb_A g) s.heap H locs := by rw [hH, hlocs]; exact hS
  show W p l e _ s m args below meth c s.heap [] 0 0 _ _
  rw [← hH, ← hlocs]
  rw [fX8_takesInto] at hf
  refine lv_aload_n hx hb dX8_takesInto_0 rfl (lv_at hl 0 rfl) ?_
  refine lv_iload_n hx hb dX8_takesInto_1 rfl (lv_at hl 2 rfl) ?_
  refine lv_iload_n hx hb dX8_takesInto_2 rfl (lv_at hl 3 rfl) ?_
  obtain ⟨x1, J2, hx1_J2, hf⟩ := ob2_e hf
  refine zr_cVi (rest := []) (As := [.int a2, .int a3]) X hP hS (ct_X8_takes (g := g) (nc := nc) (I := I) (J := J) (O := O) hnJ l  hx1_J2) cw_X8_131 (zr_recv X hP (Nat.lt_of_lt_of_le (zk_306).2.1 hnJ) (zb_ceJo zk_306 (by decide)) rfl) rfl hl.1 (Nat.le_of_ble_eq_true rfl) ⟨Nat.le_of_ble_eq_true rfl, Nat.le_of_ble_eq_true rfl⟩ ⟨Nat.le_of_ble_eq_true rfl, Nat.le_of_ble_eq_true rfl⟩ dX8_takesInto_3 rfl (fun H locs hP hS => ?_)
  refine lv_if_ne (tgt := 11) hx hb dX8_takesInto_6 (by decide) (fun hc => ?_) (fun hc => ?_)
  · have hf := if_f hc hf
    refine lv_aload_n hx hb dX8_takesInto_11 rfl (lv_at hl 0 rfl) ?_
    refine gf_X8_16 X hnJ hP zk_306 dX8_takesInto_12 ?_
    refine lv_iload_n hx hb dX8_takesInto_15 rfl (lv_at hl 1 rfl) ?_
    refine lv_aload_n hx hb dX8_takesInto_16 rfl (lv_at hl 0 rfl) ?_
    refine gf_X8_120 X hnJ hP zk_306 dX8_takesInto_17 ?_
    obtain ⟨J3, hJ3, hf⟩ := ob_e hf
    refine zr_astJ X hP hS hnJ zk_309 hJ3 dX8_takesInto_20 (fun H locs hP hS => ?_)
    refine lv_iconst (v := (1 : Int32)) hx hb dX8_takesInto_21 (by decide) ?_
    obtain ⟨v9, hv9, hf⟩ := ob_e hf
    obtain ⟨hn9, he9⟩ := zbo_e hv9
    cases hf
    cases he9
    exact zr_zret X hr hn9 hP hS dX8_takesInto_22
  · have hf := if_t hc hf
    refine lv_iconst (v := (0 : Int32)) hx hb dX8_takesInto_9 (by decide) ?_
    obtain ⟨v9, hv9, hf⟩ := ob_e hf
    obtain ⟨hn9, he9⟩ := zbo_e hv9
    cases hf
    cases he9
    exact zr_zret X hr hn9 hP hS dX8_takesInto_10
set_option maxHeartbeats 4000000 in
set_option maxRecDepth 100000 in
theorem ct_X8_readBuoy {g : zb_G} {nc : Nat} (hnJ : 318 ≤ nc) (l : Launch) {I J O : Mem} {r9 : Int32} {Jq : Mem} (hf : fX8_readBuoy J = some (r9, Jq)) : zb_Ct l g nc yX8_readBuoy cX8_readBuoy 2 (some .boolean) 6 130 [.ref (g.2.2 + 306)] (zb_ce g I J O) (some (.int r9)) (zb_ce g I Jq O) := by
  refine zb_ofW (own := RX8) (by decide +kernel) rfl (Nat.le_of_ble_eq_true rfl) ?_
  intro p e s m args below meth c ls X hr hP hl
  have hx := X.1.1
  have hb := X.1.2.1
  have ho := X.1.2.2.2.1
  have hts := X.1.2.2.2.2
  have hZ := X.2.2.2
  have hl : lv_has ls 2 [(0, .ref (g.2.2 + 306))] := hl
  have hS : va_S (zb_A g) s.heap s.heap [] := va_S.rf
  obtain ⟨H, hH⟩ : ∃ H, H = s.heap := ⟨_, rfl⟩
  obtain ⟨locs, hlocs⟩ : ∃ z : List Loc, z = [] := ⟨_, rfl⟩
  rw [← hH] at hP
  have hS : va_S (zb_A g) s.heap H locs := by rw [hH, hlocs]; exact hS
  show W p l e _ s m args below meth c s.heap [] 0 0 _ _
  rw [← hH, ← hlocs]
  rw [fX8_readBuoy] at hf
  refine lv_aload_n hx hb dX8_readBuoy_0 rfl (lv_at hl 0 rfl) ?_
  refine gf_X8_16 X hnJ hP zk_306 dX8_readBuoy_1 ?_
  refine lv_iconst (v := (0 : Int32)) hx hb dX8_readBuoy_4 (by decide) ?_
  obtain ⟨x1, hx1, hf⟩ := ob_e hf
  refine zr_aldJ X hP hnJ zk_309 hx1 dX8_readBuoy_5 ?_
  refine lv_istore_n (lv' := [(1, .int x1), (0, .ref (g.2.2 + 306))]) hx hb dX8_readBuoy_6 rfl hl (by decide) rfl (fun ls hl => ?_)
  refine lv_aload_n hx hb dX8_readBuoy_7 rfl (lv_at hl 1 rfl) ?_
  refine lv_iconst (v := (4 : Int32)) hx hb dX8_readBuoy_8 (by decide) ?_
  refine lv_iload_n hx hb dX8_readBuoy_9 rfl (lv_at hl 0 rfl) ?_
  refine lv_bipush (v := (10 : Int32)) hx hb dX8_readBuoy_10 (by decide) ?_
  obtain ⟨x2, ht, hf⟩ := pl_e hf
  have K1 : ∀ (H : Heap) (locs : List Loc) (ls : Array Slot), va_P g.1 vwCl (zb_ws g nc (zb_ce g I J O)) H → va_S (zb_A g) s.heap H locs → lv_has ls 2 [(1, .int x1), (0, .ref (g.2.2 + 306))] → W p l e { frames := 6, cells := 0, slots := 0, locals := 130 } s m args below meth c H locs 0 0 (MQ below (zb_Po g nc (zb_ce g I Jq O) (some (.int r9))) args s 0 0 (zb_A g)) (F0 m 20 ls [.int x2, .int (4 : Int32), .ref (g.2.2 + 306)]) := by
    intro H locs ls hP hS hl
    obtain ⟨x3, J4, hx3_J4, hf⟩ := ob2_e hf
    refine zr_cVi (rest := []) (As := [.int (4 : Int32), .int x2]) X hP hS (ct_X8_starts (g := g) (nc := nc) (I := I) (J := J) (O := O) hnJ l  hx3_J4) cw_X8_127 (zr_recv X hP (Nat.lt_of_lt_of_le (zk_306).2.1 hnJ) (zb_ceJo zk_306 (by decide)) rfl) rfl hl.1 (Nat.le_of_ble_eq_true rfl) ⟨Nat.le_of_ble_eq_true rfl, Nat.le_of_ble_eq_true rfl⟩ ⟨Nat.le_of_ble_eq_true rfl, Nat.le_of_ble_eq_true rfl⟩ dX8_readBuoy_20 rfl (fun H locs hP hS => ?_)
    refine lv_if_eq (tgt := 37) hx hb dX8_readBuoy_23 (by decide) (fun hc => ?_) (fun hc => ?_)
    · have hf := if_t hc hf
      refine lv_iconst (v := (0 : Int32)) hx hb dX8_readBuoy_37 (by decide) ?_
      obtain ⟨v9, hv9, hf⟩ := ob_e hf
      obtain ⟨hn9, he9⟩ := zbo_e hv9
      cases hf
      cases he9
      exact zr_zret X hr hn9 hP hS dX8_readBuoy_38
    · have hf := if_f hc hf
      refine lv_aload_n hx hb dX8_readBuoy_26 rfl (lv_at hl 1 rfl) ?_
      refine lv_iconst (v := (0 : Int32)) hx hb dX8_readBuoy_27 (by decide) ?_
      refine lv_sipush (v := (9999 : Int32)) hx hb dX8_readBuoy_28 (by decide) ?_
      obtain ⟨x5, J6, hx5_J6, hf⟩ := ob2_e hf
      refine zr_cVi (rest := []) (As := [.int (0 : Int32), .int (9999 : Int32)]) X hP hS (ct_X8_stands (g := g) (nc := nc) (I := I) (J := J4) (O := O) hnJ l  hx5_J6) cw_X8_123 (zr_recv X hP (Nat.lt_of_lt_of_le (zk_306).2.1 hnJ) (zb_ceJo zk_306 (by decide)) rfl) rfl hl.1 (Nat.le_of_ble_eq_true rfl) ⟨Nat.le_of_ble_eq_true rfl, Nat.le_of_ble_eq_true rfl⟩ ⟨Nat.le_of_ble_eq_true rfl, Nat.le_of_ble_eq_true rfl⟩ dX8_readBuoy_31 rfl (fun H locs hP hS => ?_)
      refine lv_if_ne (tgt := 39) hx hb dX8_readBuoy_34 (by decide) (fun hc => ?_) (fun hc => ?_)
      · have hf := if_f hc hf
        refine lv_iload_n hx hb dX8_readBuoy_39 rfl (lv_at hl 0 rfl) ?_
        refine lv_if_le (tgt := 67) hx hb dX8_readBuoy_40 (by decide) (fun hc => ?_) (fun hc => ?_)
        · have hf := if_t hc hf
          refine lv_aload_n hx hb dX8_readBuoy_67 rfl (lv_at hl 1 rfl) ?_
          refine gf_X8_16 X hnJ hP zk_306 dX8_readBuoy_68 ?_
          refine lv_bipush (v := (12 : Int32)) hx hb dX8_readBuoy_71 (by decide) ?_
          refine lv_iload_n hx hb dX8_readBuoy_73 rfl (lv_at hl 0 rfl) ?_
          refine lv_iadd hx hb dX8_readBuoy_74 ?_
          refine lv_aload_n hx hb dX8_readBuoy_75 rfl (lv_at hl 1 rfl) ?_
          refine gf_X8_120 X hnJ hP zk_306 dX8_readBuoy_76 ?_
          obtain ⟨J7, hJ7, hf⟩ := ob_e hf
          refine zr_astJ X hP hS hnJ zk_309 hJ7 dX8_readBuoy_79 (fun H locs hP hS => ?_)
          refine lv_aload_n hx hb dX8_readBuoy_80 rfl (lv_at hl 1 rfl) ?_
          obtain ⟨J8, hJ8, hf⟩ := ob_e hf
          refine zr_cVv (rest := []) (As := []) X hP hS (ct_X8_advance (g := g) (nc := nc) (I := I) (J := J7) (O := O) hnJ l  hJ8) cw_X8_117 (zr_recv X hP (Nat.lt_of_lt_of_le (zk_306).2.1 hnJ) (zb_ceJo zk_306 (by decide)) rfl) rfl hl.1 (Nat.le_of_ble_eq_true rfl) ⟨Nat.le_of_ble_eq_true rfl, Nat.le_of_ble_eq_true rfl⟩ ⟨Nat.le_of_ble_eq_true rfl, Nat.le_of_ble_eq_true rfl⟩ dX8_readBuoy_81 rfl (fun H locs hP hS => ?_)
          refine lv_aload_n hx hb dX8_readBuoy_84 rfl (lv_at hl 1 rfl) ?_
          refine lv_bipush (v := (22 : Int32)) hx hb dX8_readBuoy_85 (by decide) ?_
          refine lv_iload_n hx hb dX8_readBuoy_87 rfl (lv_at hl 0 rfl) ?_
          refine lv_iadd hx hb dX8_readBuoy_88 ?_
          refine lv_iconst (v := (1 : Int32)) hx hb dX8_readBuoy_89 (by decide) ?_
          refine lv_bipush (v := (9 : Int32)) hx hb dX8_readBuoy_90 (by decide) ?_
          obtain ⟨x9, J10, hx9_J10, hf⟩ := ob2_e hf
          refine zr_cVi (rest := []) (As := [.int ((22 : Int32) + x1), .int (1 : Int32), .int (9 : Int32)]) X hP hS (ct_X8_takesInto (g := g) (nc := nc) (I := I) (J := J8) (O := O) hnJ l  hx9_J10) cw_X8_134 (zr_recv X hP (Nat.lt_of_lt_of_le (zk_306).2.1 hnJ) (zb_ceJo zk_306 (by decide)) rfl) rfl hl.1 (Nat.le_of_ble_eq_true rfl) ⟨Nat.le_of_ble_eq_true rfl, Nat.le_of_ble_eq_true rfl⟩ ⟨Nat.le_of_ble_eq_true rfl, Nat.le_of_ble_eq_true rfl⟩ dX8_readBuoy_92 rfl (fun H locs hP hS => ?_)
          refine lv_if_eq (tgt := 112) hx hb dX8_readBuoy_95 (by decide) (fun hc => ?_) (fun hc => ?_)
          · have hf := if_t hc hf
            refine lv_iconst (v := (0 : Int32)) hx hb dX8_readBuoy_112 (by decide) ?_
            obtain ⟨v9, hv9, hf⟩ := ob_e hf
            obtain ⟨hn9, he9⟩ := zbo_e hv9
            cases hf
            cases he9
            exact zr_zret X hr hn9 hP hS dX8_readBuoy_113
          · have hf := if_f hc hf
            refine lv_aload_n hx hb dX8_readBuoy_98 rfl (lv_at hl 1 rfl) ?_
            refine lv_bipush (v := (32 : Int32)) hx hb dX8_readBuoy_99 (by decide) ?_
            refine lv_iload_n hx hb dX8_readBuoy_101 rfl (lv_at hl 0 rfl) ?_
            refine lv_iadd hx hb dX8_readBuoy_102 ?_
            refine lv_iconst (v := (0 : Int32)) hx hb dX8_readBuoy_103 (by decide) ?_
            refine lv_bipush (v := (99 : Int32)) hx hb dX8_readBuoy_104 (by decide) ?_
            obtain ⟨x11, J12, hx11_J12, hf⟩ := ob2_e hf
            refine zr_cVi (rest := []) (As := [.int ((32 : Int32) + x1), .int (0 : Int32), .int (99 : Int32)]) X hP hS (ct_X8_takesInto (g := g) (nc := nc) (I := I) (J := J10) (O := O) hnJ l  hx11_J12) cw_X8_134 (zr_recv X hP (Nat.lt_of_lt_of_le (zk_306).2.1 hnJ) (zb_ceJo zk_306 (by decide)) rfl) rfl hl.1 (Nat.le_of_ble_eq_true rfl) ⟨Nat.le_of_ble_eq_true rfl, Nat.le_of_ble_eq_true rfl⟩ ⟨Nat.le_of_ble_eq_true rfl, Nat.le_of_ble_eq_true rfl⟩ dX8_readBuoy_106 rfl (fun H locs hP hS => ?_)
            refine lv_if_ne (tgt := 114) hx hb dX8_readBuoy_109 (by decide) (fun hc => ?_) (fun hc => ?_)
            · have hf := if_f hc hf
              refine lv_aload_n hx hb dX8_readBuoy_114 rfl (lv_at hl 1 rfl) ?_
              refine gf_X8_91 X hnJ hP zk_306 dX8_readBuoy_115 ?_
              refine lv_iconst (v := (3 : Int32)) hx hb dX8_readBuoy_118 (by decide) ?_
              refine lv_icmp_eq (tgt := 130) hx hb dX8_readBuoy_119 (by decide) (fun hc => ?_) (fun hc => ?_)
              · have hf := if_t hc hf
                refine lv_aload_n hx hb dX8_readBuoy_130 rfl (lv_at hl 1 rfl) ?_
                refine lv_bipush (v := (99 : Int32)) hx hb dX8_readBuoy_131 (by decide) ?_
                obtain ⟨x13, J14, hx13_J14, hf⟩ := ob2_e hf
                refine zr_cVi (rest := []) (As := [.int (99 : Int32)]) X hP hS (ct_X8_takesSigned (g := g) (nc := nc) (I := I) (J := J12) (O := O) hnJ l  hx13_J14) cw_X8_137 (zr_recv X hP (Nat.lt_of_lt_of_le (zk_306).2.1 hnJ) (zb_ceJo zk_306 (by decide)) rfl) rfl hl.1 (Nat.le_of_ble_eq_true rfl) ⟨Nat.le_of_ble_eq_true rfl, Nat.le_of_ble_eq_true rfl⟩ ⟨Nat.le_of_ble_eq_true rfl, Nat.le_of_ble_eq_true rfl⟩ dX8_readBuoy_133 rfl (fun H locs hP hS => ?_)
                refine lv_if_ne (tgt := 141) hx hb dX8_readBuoy_136 (by decide) (fun hc => ?_) (fun hc => ?_)
                · have hf := if_f hc hf
                  refine lv_aload_n hx hb dX8_readBuoy_141 rfl (lv_at hl 1 rfl) ?_
                  refine gf_X8_16 X hnJ hP zk_306 dX8_readBuoy_142 ?_
                  refine lv_bipush (v := (42 : Int32)) hx hb dX8_readBuoy_145 (by decide) ?_
                  refine lv_iload_n hx hb dX8_readBuoy_147 rfl (lv_at hl 0 rfl) ?_
                  refine lv_iadd hx hb dX8_readBuoy_148 ?_
                  refine lv_aload_n hx hb dX8_readBuoy_149 rfl (lv_at hl 1 rfl) ?_
                  refine gf_X8_120 X hnJ hP zk_306 dX8_readBuoy_150 ?_
                  obtain ⟨J15, hJ15, hf⟩ := ob_e hf
                  refine zr_astJ X hP hS hnJ zk_309 hJ15 dX8_readBuoy_153 (fun H locs hP hS => ?_)
                  refine lv_aload_n hx hb dX8_readBuoy_154 rfl (lv_at hl 1 rfl) ?_
                  refine gf_X8_16 X hnJ hP zk_306 dX8_readBuoy_155 ?_
                  refine lv_iconst (v := (0 : Int32)) hx hb dX8_readBuoy_158 (by decide) ?_
                  refine lv_dup2_11 hx hb dX8_readBuoy_159 rfl rfl ?_
                  obtain ⟨x16, hx16, hf⟩ := ob_e hf
                  refine zr_aldJ X hP hnJ zk_309 hx16 dX8_readBuoy_160 ?_
                  refine lv_iconst (v := (1 : Int32)) hx hb dX8_readBuoy_161 (by decide) ?_
                  refine lv_iadd hx hb dX8_readBuoy_162 ?_
                  obtain ⟨J17, hJ17, hf⟩ := ob_e hf
                  refine zr_astJ X hP hS hnJ zk_309 hJ17 dX8_readBuoy_163 (fun H locs hP hS => ?_)
                  refine lv_iconst (v := (1 : Int32)) hx hb dX8_readBuoy_164 (by decide) ?_
                  obtain ⟨v9, hv9, hf⟩ := ob_e hf
                  obtain ⟨hn9, he9⟩ := zbo_e hv9
                  cases hf
                  cases he9
                  exact zr_zret X hr hn9 hP hS dX8_readBuoy_165
                · have hf := if_t hc hf
                  refine lv_iconst (v := (0 : Int32)) hx hb dX8_readBuoy_139 (by decide) ?_
                  obtain ⟨v9, hv9, hf⟩ := ob_e hf
                  obtain ⟨hn9, he9⟩ := zbo_e hv9
                  cases hf
                  cases he9
                  exact zr_zret X hr hn9 hP hS dX8_readBuoy_140
              · have hf := if_f hc hf
                refine lv_aload_n hx hb dX8_readBuoy_122 rfl (lv_at hl 1 rfl) ?_
                refine gf_X8_91 X hnJ hP zk_306 dX8_readBuoy_123 ?_
                refine lv_iconst (v := (2 : Int32)) hx hb dX8_readBuoy_126 (by decide) ?_
                refine lv_icmp_ne (tgt := 154) hx hb dX8_readBuoy_127 (by decide) (fun hc => ?_) (fun hc => ?_)
                · have hf := if_f hc hf
                  refine lv_aload_n hx hb dX8_readBuoy_154 rfl (lv_at hl 1 rfl) ?_
                  refine gf_X8_16 X hnJ hP zk_306 dX8_readBuoy_155 ?_
                  refine lv_iconst (v := (0 : Int32)) hx hb dX8_readBuoy_158 (by decide) ?_
                  refine lv_dup2_11 hx hb dX8_readBuoy_159 rfl rfl ?_
                  obtain ⟨x18, hx18, hf⟩ := ob_e hf
                  refine zr_aldJ X hP hnJ zk_309 hx18 dX8_readBuoy_160 ?_
                  refine lv_iconst (v := (1 : Int32)) hx hb dX8_readBuoy_161 (by decide) ?_
                  refine lv_iadd hx hb dX8_readBuoy_162 ?_
                  obtain ⟨J19, hJ19, hf⟩ := ob_e hf
                  refine zr_astJ X hP hS hnJ zk_309 hJ19 dX8_readBuoy_163 (fun H locs hP hS => ?_)
                  refine lv_iconst (v := (1 : Int32)) hx hb dX8_readBuoy_164 (by decide) ?_
                  obtain ⟨v9, hv9, hf⟩ := ob_e hf
                  obtain ⟨hn9, he9⟩ := zbo_e hv9
                  cases hf
                  cases he9
                  exact zr_zret X hr hn9 hP hS dX8_readBuoy_165
                · have hf := if_t hc hf
                  refine lv_aload_n hx hb dX8_readBuoy_130 rfl (lv_at hl 1 rfl) ?_
                  refine lv_bipush (v := (99 : Int32)) hx hb dX8_readBuoy_131 (by decide) ?_
                  obtain ⟨x20, J21, hx20_J21, hf⟩ := ob2_e hf
                  refine zr_cVi (rest := []) (As := [.int (99 : Int32)]) X hP hS (ct_X8_takesSigned (g := g) (nc := nc) (I := I) (J := J12) (O := O) hnJ l  hx20_J21) cw_X8_137 (zr_recv X hP (Nat.lt_of_lt_of_le (zk_306).2.1 hnJ) (zb_ceJo zk_306 (by decide)) rfl) rfl hl.1 (Nat.le_of_ble_eq_true rfl) ⟨Nat.le_of_ble_eq_true rfl, Nat.le_of_ble_eq_true rfl⟩ ⟨Nat.le_of_ble_eq_true rfl, Nat.le_of_ble_eq_true rfl⟩ dX8_readBuoy_133 rfl (fun H locs hP hS => ?_)
                  refine lv_if_ne (tgt := 141) hx hb dX8_readBuoy_136 (by decide) (fun hc => ?_) (fun hc => ?_)
                  · have hf := if_f hc hf
                    refine lv_aload_n hx hb dX8_readBuoy_141 rfl (lv_at hl 1 rfl) ?_
                    refine gf_X8_16 X hnJ hP zk_306 dX8_readBuoy_142 ?_
                    refine lv_bipush (v := (42 : Int32)) hx hb dX8_readBuoy_145 (by decide) ?_
                    refine lv_iload_n hx hb dX8_readBuoy_147 rfl (lv_at hl 0 rfl) ?_
                    refine lv_iadd hx hb dX8_readBuoy_148 ?_
                    refine lv_aload_n hx hb dX8_readBuoy_149 rfl (lv_at hl 1 rfl) ?_
                    refine gf_X8_120 X hnJ hP zk_306 dX8_readBuoy_150 ?_
                    obtain ⟨J22, hJ22, hf⟩ := ob_e hf
                    refine zr_astJ X hP hS hnJ zk_309 hJ22 dX8_readBuoy_153 (fun H locs hP hS => ?_)
                    refine lv_aload_n hx hb dX8_readBuoy_154 rfl (lv_at hl 1 rfl) ?_
                    refine gf_X8_16 X hnJ hP zk_306 dX8_readBuoy_155 ?_
                    refine lv_iconst (v := (0 : Int32)) hx hb dX8_readBuoy_158 (by decide) ?_
                    refine lv_dup2_11 hx hb dX8_readBuoy_159 rfl rfl ?_
                    obtain ⟨x23, hx23, hf⟩ := ob_e hf
                    refine zr_aldJ X hP hnJ zk_309 hx23 dX8_readBuoy_160 ?_
                    refine lv_iconst (v := (1 : Int32)) hx hb dX8_readBuoy_161 (by decide) ?_
                    refine lv_iadd hx hb dX8_readBuoy_162 ?_
                    obtain ⟨J24, hJ24, hf⟩ := ob_e hf
                    refine zr_astJ X hP hS hnJ zk_309 hJ24 dX8_readBuoy_163 (fun H locs hP hS => ?_)
                    refine lv_iconst (v := (1 : Int32)) hx hb dX8_readBuoy_164 (by decide) ?_
                    obtain ⟨v9, hv9, hf⟩ := ob_e hf
                    obtain ⟨hn9, he9⟩ := zbo_e hv9
                    cases hf
                    cases he9
                    exact zr_zret X hr hn9 hP hS dX8_readBuoy_165
                  · have hf := if_t hc hf
                    refine lv_iconst (v := (0 : Int32)) hx hb dX8_readBuoy_139 (by decide) ?_
                    obtain ⟨v9, hv9, hf⟩ := ob_e hf
                    obtain ⟨hn9, he9⟩ := zbo_e hv9
                    cases hf
                    cases he9
                    exact zr_zret X hr hn9 hP hS dX8_readBuoy_140
            · have hf := if_t hc hf
              refine lv_iconst (v := (0 : Int32)) hx hb dX8_readBuoy_112 (by decide) ?_
              obtain ⟨v9, hv9, hf⟩ := ob_e hf
              obtain ⟨hn9, he9⟩ := zbo_e hv9
              cases hf
              cases he9
              exact zr_zret X hr hn9 hP hS dX8_readBuoy_113
        · have hf := if_f hc hf
          refine lv_aload_n hx hb dX8_readBuoy_43 rfl (lv_at hl 1 rfl) ?_
          refine gf_X8_120 X hnJ hP zk_306 dX8_readBuoy_44 ?_
          refine lv_aload_n hx hb dX8_readBuoy_47 rfl (lv_at hl 1 rfl) ?_
          refine gf_X8_16 X hnJ hP zk_306 dX8_readBuoy_48 ?_
          refine lv_bipush (v := (12 : Int32)) hx hb dX8_readBuoy_51 (by decide) ?_
          refine lv_iload_n hx hb dX8_readBuoy_53 rfl (lv_at hl 0 rfl) ?_
          refine lv_iadd hx hb dX8_readBuoy_54 ?_
          refine lv_iconst (v := (1 : Int32)) hx hb dX8_readBuoy_55 (by decide) ?_
          refine lv_isub hx hb dX8_readBuoy_56 ?_
          obtain ⟨x25, hx25, hf⟩ := ob_e hf
          refine zr_aldJ X hP hnJ zk_309 hx25 dX8_readBuoy_57 ?_
          refine lv_icmp_gt (tgt := 67) hx hb dX8_readBuoy_58 (by decide) (fun hc => ?_) (fun hc => ?_)
          · have hf := if_t hc hf
            refine lv_aload_n hx hb dX8_readBuoy_67 rfl (lv_at hl 1 rfl) ?_
            refine gf_X8_16 X hnJ hP zk_306 dX8_readBuoy_68 ?_
            refine lv_bipush (v := (12 : Int32)) hx hb dX8_readBuoy_71 (by decide) ?_
            refine lv_iload_n hx hb dX8_readBuoy_73 rfl (lv_at hl 0 rfl) ?_
            refine lv_iadd hx hb dX8_readBuoy_74 ?_
            refine lv_aload_n hx hb dX8_readBuoy_75 rfl (lv_at hl 1 rfl) ?_
            refine gf_X8_120 X hnJ hP zk_306 dX8_readBuoy_76 ?_
            obtain ⟨J26, hJ26, hf⟩ := ob_e hf
            refine zr_astJ X hP hS hnJ zk_309 hJ26 dX8_readBuoy_79 (fun H locs hP hS => ?_)
            refine lv_aload_n hx hb dX8_readBuoy_80 rfl (lv_at hl 1 rfl) ?_
            obtain ⟨J27, hJ27, hf⟩ := ob_e hf
            refine zr_cVv (rest := []) (As := []) X hP hS (ct_X8_advance (g := g) (nc := nc) (I := I) (J := J26) (O := O) hnJ l  hJ27) cw_X8_117 (zr_recv X hP (Nat.lt_of_lt_of_le (zk_306).2.1 hnJ) (zb_ceJo zk_306 (by decide)) rfl) rfl hl.1 (Nat.le_of_ble_eq_true rfl) ⟨Nat.le_of_ble_eq_true rfl, Nat.le_of_ble_eq_true rfl⟩ ⟨Nat.le_of_ble_eq_true rfl, Nat.le_of_ble_eq_true rfl⟩ dX8_readBuoy_81 rfl (fun H locs hP hS => ?_)
            refine lv_aload_n hx hb dX8_readBuoy_84 rfl (lv_at hl 1 rfl) ?_
            refine lv_bipush (v := (22 : Int32)) hx hb dX8_readBuoy_85 (by decide) ?_
            refine lv_iload_n hx hb dX8_readBuoy_87 rfl (lv_at hl 0 rfl) ?_
            refine lv_iadd hx hb dX8_readBuoy_88 ?_
            refine lv_iconst (v := (1 : Int32)) hx hb dX8_readBuoy_89 (by decide) ?_
            refine lv_bipush (v := (9 : Int32)) hx hb dX8_readBuoy_90 (by decide) ?_
            obtain ⟨x28, J29, hx28_J29, hf⟩ := ob2_e hf
            refine zr_cVi (rest := []) (As := [.int ((22 : Int32) + x1), .int (1 : Int32), .int (9 : Int32)]) X hP hS (ct_X8_takesInto (g := g) (nc := nc) (I := I) (J := J27) (O := O) hnJ l  hx28_J29) cw_X8_134 (zr_recv X hP (Nat.lt_of_lt_of_le (zk_306).2.1 hnJ) (zb_ceJo zk_306 (by decide)) rfl) rfl hl.1 (Nat.le_of_ble_eq_true rfl) ⟨Nat.le_of_ble_eq_true rfl, Nat.le_of_ble_eq_true rfl⟩ ⟨Nat.le_of_ble_eq_true rfl, Nat.le_of_ble_eq_true rfl⟩ dX8_readBuoy_92 rfl (fun H locs hP hS => ?_)
            refine lv_if_eq (tgt := 112) hx hb dX8_readBuoy_95 (by decide) (fun hc => ?_) (fun hc => ?_)
            · have hf := if_t hc hf
              refine lv_iconst (v := (0 : Int32)) hx hb dX8_readBuoy_112 (by decide) ?_
              obtain ⟨v9, hv9, hf⟩ := ob_e hf
              obtain ⟨hn9, he9⟩ := zbo_e hv9
              cases hf
              cases he9
              exact zr_zret X hr hn9 hP hS dX8_readBuoy_113
            · have hf := if_f hc hf
              refine lv_aload_n hx hb dX8_readBuoy_98 rfl (lv_at hl 1 rfl) ?_
              refine lv_bipush (v := (32 : Int32)) hx hb dX8_readBuoy_99 (by decide) ?_
              refine lv_iload_n hx hb dX8_readBuoy_101 rfl (lv_at hl 0 rfl) ?_
              refine lv_iadd hx hb dX8_readBuoy_102 ?_
              refine lv_iconst (v := (0 : Int32)) hx hb dX8_readBuoy_103 (by decide) ?_
              refine lv_bipush (v := (99 : Int32)) hx hb dX8_readBuoy_104 (by decide) ?_
              obtain ⟨x30, J31, hx30_J31, hf⟩ := ob2_e hf
              refine zr_cVi (rest := []) (As := [.int ((32 : Int32) + x1), .int (0 : Int32), .int (99 : Int32)]) X hP hS (ct_X8_takesInto (g := g) (nc := nc) (I := I) (J := J29) (O := O) hnJ l  hx30_J31) cw_X8_134 (zr_recv X hP (Nat.lt_of_lt_of_le (zk_306).2.1 hnJ) (zb_ceJo zk_306 (by decide)) rfl) rfl hl.1 (Nat.le_of_ble_eq_true rfl) ⟨Nat.le_of_ble_eq_true rfl, Nat.le_of_ble_eq_true rfl⟩ ⟨Nat.le_of_ble_eq_true rfl, Nat.le_of_ble_eq_true rfl⟩ dX8_readBuoy_106 rfl (fun H locs hP hS => ?_)
              refine lv_if_ne (tgt := 114) hx hb dX8_readBuoy_109 (by decide) (fun hc => ?_) (fun hc => ?_)
              · have hf := if_f hc hf
                refine lv_aload_n hx hb dX8_readBuoy_114 rfl (lv_at hl 1 rfl) ?_
                refine gf_X8_91 X hnJ hP zk_306 dX8_readBuoy_115 ?_
                refine lv_iconst (v := (3 : Int32)) hx hb dX8_readBuoy_118 (by decide) ?_
                refine lv_icmp_eq (tgt := 130) hx hb dX8_readBuoy_119 (by decide) (fun hc => ?_) (fun hc => ?_)
                · have hf := if_t hc hf
                  refine lv_aload_n hx hb dX8_readBuoy_130 rfl (lv_at hl 1 rfl) ?_
                  refine lv_bipush (v := (99 : Int32)) hx hb dX8_readBuoy_131 (by decide) ?_
                  obtain ⟨x32, J33, hx32_J33, hf⟩ := ob2_e hf
                  refine zr_cVi (rest := []) (As := [.int (99 : Int32)]) X hP hS (ct_X8_takesSigned (g := g) (nc := nc) (I := I) (J := J31) (O := O) hnJ l  hx32_J33) cw_X8_137 (zr_recv X hP (Nat.lt_of_lt_of_le (zk_306).2.1 hnJ) (zb_ceJo zk_306 (by decide)) rfl) rfl hl.1 (Nat.le_of_ble_eq_true rfl) ⟨Nat.le_of_ble_eq_true rfl, Nat.le_of_ble_eq_true rfl⟩ ⟨Nat.le_of_ble_eq_true rfl, Nat.le_of_ble_eq_true rfl⟩ dX8_readBuoy_133 rfl (fun H locs hP hS => ?_)
                  refine lv_if_ne (tgt := 141) hx hb dX8_readBuoy_136 (by decide) (fun hc => ?_) (fun hc => ?_)
                  · have hf := if_f hc hf
                    refine lv_aload_n hx hb dX8_readBuoy_141 rfl (lv_at hl 1 rfl) ?_
                    refine gf_X8_16 X hnJ hP zk_306 dX8_readBuoy_142 ?_
                    refine lv_bipush (v := (42 : Int32)) hx hb dX8_readBuoy_145 (by decide) ?_
                    refine lv_iload_n hx hb dX8_readBuoy_147 rfl (lv_at hl 0 rfl) ?_
                    refine lv_iadd hx hb dX8_readBuoy_148 ?_
                    refine lv_aload_n hx hb dX8_readBuoy_149 rfl (lv_at hl 1 rfl) ?_
                    refine gf_X8_120 X hnJ hP zk_306 dX8_readBuoy_150 ?_
                    obtain ⟨J34, hJ34, hf⟩ := ob_e hf
                    refine zr_astJ X hP hS hnJ zk_309 hJ34 dX8_readBuoy_153 (fun H locs hP hS => ?_)
                    refine lv_aload_n hx hb dX8_readBuoy_154 rfl (lv_at hl 1 rfl) ?_
                    refine gf_X8_16 X hnJ hP zk_306 dX8_readBuoy_155 ?_
                    refine lv_iconst (v := (0 : Int32)) hx hb dX8_readBuoy_158 (by decide) ?_
                    refine lv_dup2_11 hx hb dX8_readBuoy_159 rfl rfl ?_
                    obtain ⟨x35, hx35, hf⟩ := ob_e hf
                    refine zr_aldJ X hP hnJ zk_309 hx35 dX8_readBuoy_160 ?_
                    refine lv_iconst (v := (1 : Int32)) hx hb dX8_readBuoy_161 (by decide) ?_
                    refine lv_iadd hx hb dX8_readBuoy_162 ?_
                    obtain ⟨J36, hJ36, hf⟩ := ob_e hf
                    refine zr_astJ X hP hS hnJ zk_309 hJ36 dX8_readBuoy_163 (fun H locs hP hS => ?_)
                    refine lv_iconst (v := (1 : Int32)) hx hb dX8_readBuoy_164 (by decide) ?_
                    obtain ⟨v9, hv9, hf⟩ := ob_e hf
                    obtain ⟨hn9, he9⟩ := zbo_e hv9
                    cases hf
                    cases he9
                    exact zr_zret X hr hn9 hP hS dX8_readBuoy_165
                  · have hf := if_t hc hf
                    refine lv_iconst (v := (0 : Int32)) hx hb dX8_readBuoy_139 (by decide) ?_
                    obtain ⟨v9, hv9, hf⟩ := ob_e hf
                    obtain ⟨hn9, he9⟩ := zbo_e hv9
                    cases hf
                    cases he9
                    exact zr_zret X hr hn9 hP hS dX8_readBuoy_140
                · have hf := if_f hc hf
                  refine lv_aload_n hx hb dX8_readBuoy_122 rfl (lv_at hl 1 rfl) ?_
                  refine gf_X8_91 X hnJ hP zk_306 dX8_readBuoy_123 ?_
                  refine lv_iconst (v := (2 : Int32)) hx hb dX8_readBuoy_126 (by decide) ?_
                  refine lv_icmp_ne (tgt := 154) hx hb dX8_readBuoy_127 (by decide) (fun hc => ?_) (fun hc => ?_)
                  · have hf := if_f hc hf
                    refine lv_aload_n hx hb dX8_readBuoy_154 rfl (lv_at hl 1 rfl) ?_
                    refine gf_X8_16 X hnJ hP zk_306 dX8_readBuoy_155 ?_
                    refine lv_iconst (v := (0 : Int32)) hx hb dX8_readBuoy_158 (by decide) ?_
                    refine lv_dup2_11 hx hb dX8_readBuoy_159 rfl rfl ?_
                    obtain ⟨x37, hx37, hf⟩ := ob_e hf
                    refine zr_aldJ X hP hnJ zk_309 hx37 dX8_readBuoy_160 ?_
                    refine lv_iconst (v := (1 : Int32)) hx hb dX8_readBuoy_161 (by decide) ?_
                    refine lv_iadd hx hb dX8_readBuoy_162 ?_
                    obtain ⟨J38, hJ38, hf⟩ := ob_e hf
                    refine zr_astJ X hP hS hnJ zk_309 hJ38 dX8_readBuoy_163 (fun H locs hP hS => ?_)
                    refine lv_iconst (v := (1 : Int32)) hx hb dX8_readBuoy_164 (by decide) ?_
                    obtain ⟨v9, hv9, hf⟩ := ob_e hf
                    obtain ⟨hn9, he9⟩ := zbo_e hv9
                    cases hf
                    cases he9
                    exact zr_zret X hr hn9 hP hS dX8_readBuoy_165
                  · have hf := if_t hc hf
                    refine lv_aload_n hx hb dX8_readBuoy_130 rfl (lv_at hl 1 rfl) ?_
                    refine lv_bipush (v := (99 : Int32)) hx hb dX8_readBuoy_131 (by decide) ?_
                    obtain ⟨x39, J40, hx39_J40, hf⟩ := ob2_e hf
                    refine zr_cVi (rest := []) (As := [.int (99 : Int32)]) X hP hS (ct_X8_takesSigned (g := g) (nc := nc) (I := I) (J := J31) (O := O) hnJ l  hx39_J40) cw_X8_137 (zr_recv X hP (Nat.lt_of_lt_of_le (zk_306).2.1 hnJ) (zb_ceJo zk_306 (by decide)) rfl) rfl hl.1 (Nat.le_of_ble_eq_true rfl) ⟨Nat.le_of_ble_eq_true rfl, Nat.le_of_ble_eq_true rfl⟩ ⟨Nat.le_of_ble_eq_true rfl, Nat.le_of_ble_eq_true rfl⟩ dX8_readBuoy_133 rfl (fun H locs hP hS => ?_)
                    refine lv_if_ne (tgt := 141) hx hb dX8_readBuoy_136 (by decide) (fun hc => ?_) (fun hc => ?_)
                    · have hf := if_f hc hf
                      refine lv_aload_n hx hb dX8_readBuoy_141 rfl (lv_at hl 1 rfl) ?_
                      refine gf_X8_16 X hnJ hP zk_306 dX8_readBuoy_142 ?_
                      refine lv_bipush (v := (42 : Int32)) hx hb dX8_readBuoy_145 (by decide) ?_
                      refine lv_iload_n hx hb dX8_readBuoy_147 rfl (lv_at hl 0 rfl) ?_
                      refine lv_iadd hx hb dX8_readBuoy_148 ?_
                      refine lv_aload_n hx hb dX8_readBuoy_149 rfl (lv_at hl 1 rfl) ?_
                      refine gf_X8_120 X hnJ hP zk_306 dX8_readBuoy_150 ?_
                      obtain ⟨J41, hJ41, hf⟩ := ob_e hf
                      refine zr_astJ X hP hS hnJ zk_309 hJ41 dX8_readBuoy_153 (fun H locs hP hS => ?_)
                      refine lv_aload_n hx hb dX8_readBuoy_154 rfl (lv_at hl 1 rfl) ?_
                      refine gf_X8_16 X hnJ hP zk_306 dX8_readBuoy_155 ?_
                      refine lv_iconst (v := (0 : Int32)) hx hb dX8_readBuoy_158 (by decide) ?_
                      refine lv_dup2_11 hx hb dX8_readBuoy_159 rfl rfl ?_
                      obtain ⟨x42, hx42, hf⟩ := ob_e hf
                      refine zr_aldJ X hP hnJ zk_309 hx42 dX8_readBuoy_160 ?_
                      refine lv_iconst (v := (1 : Int32)) hx hb dX8_readBuoy_161 (by decide) ?_
                      refine lv_iadd hx hb dX8_readBuoy_162 ?_
                      obtain ⟨J43, hJ43, hf⟩ := ob_e hf
                      refine zr_astJ X hP hS hnJ zk_309 hJ43 dX8_readBuoy_163 (fun H locs hP hS => ?_)
                      refine lv_iconst (v := (1 : Int32)) hx hb dX8_readBuoy_164 (by decide) ?_
                      obtain ⟨v9, hv9, hf⟩ := ob_e hf
                      obtain ⟨hn9, he9⟩ := zbo_e hv9
                      cases hf
                      cases he9
                      exact zr_zret X hr hn9 hP hS dX8_readBuoy_165
                    · have hf := if_t hc hf
                      refine lv_iconst (v := (0 : Int32)) hx hb dX8_readBuoy_139 (by decide) ?_
                      obtain ⟨v9, hv9, hf⟩ := ob_e hf
                      obtain ⟨hn9, he9⟩ := zbo_e hv9
                      cases hf
                      cases he9
                      exact zr_zret X hr hn9 hP hS dX8_readBuoy_140
              · have hf := if_t hc hf
                refine lv_iconst (v := (0 : Int32)) hx hb dX8_readBuoy_112 (by decide) ?_
                obtain ⟨v9, hv9, hf⟩ := ob_e hf
                obtain ⟨hn9, he9⟩ := zbo_e hv9
                cases hf
                cases he9
                exact zr_zret X hr hn9 hP hS dX8_readBuoy_113
          · have hf := if_f hc hf
            refine lv_aload_n hx hb dX8_readBuoy_61 rfl (lv_at hl 1 rfl) ?_
            refine lv_iconst (v := (3 : Int32)) hx hb dX8_readBuoy_62 (by decide) ?_
            obtain ⟨x44, J45, hx44_J45, hf⟩ := ob2_e hf
            refine zr_cVi (rest := []) (As := [.int (3 : Int32)]) X hP hS (ct_X8_fails (g := g) (nc := nc) (I := I) (J := J6) (O := O) hnJ l  hx44_J45) cw_X8_114 (zr_recv X hP (Nat.lt_of_lt_of_le (zk_306).2.1 hnJ) (zb_ceJo zk_306 (by decide)) rfl) rfl hl.1 (Nat.le_of_ble_eq_true rfl) ⟨Nat.le_of_ble_eq_true rfl, Nat.le_of_ble_eq_true rfl⟩ ⟨Nat.le_of_ble_eq_true rfl, Nat.le_of_ble_eq_true rfl⟩ dX8_readBuoy_63 rfl (fun H locs hP hS => ?_)
            obtain ⟨v9, hv9, hf⟩ := ob_e hf
            obtain ⟨hn9, he9⟩ := zbo_e hv9
            cases hf
            cases he9
            exact zr_zret X hr hn9 hP hS dX8_readBuoy_66
      · have hf := if_t hc hf
        refine lv_iconst (v := (0 : Int32)) hx hb dX8_readBuoy_37 (by decide) ?_
        obtain ⟨v9, hv9, hf⟩ := ob_e hf
        obtain ⟨hn9, he9⟩ := zbo_e hv9
        cases hf
        cases he9
        exact zr_zret X hr hn9 hP hS dX8_readBuoy_38
  have hf := ht
  refine lv_icmp_ge (tgt := 19) hx hb dX8_readBuoy_12 (by decide) (fun hc => ?_) (fun hc => ?_)
  · have hf := if_t hc hf
    refine lv_iconst (v := (0 : Int32)) hx hb dX8_readBuoy_19 (by decide) ?_
    cases hf
    exact K1 H locs ls hP hS (lv_sub hl [0, 1] rfl)
  · have hf := if_f hc hf
    refine lv_iconst (v := (1 : Int32)) hx hb dX8_readBuoy_15 (by decide) ?_
    refine lv_goto (tgt := 20) hx hb dX8_readBuoy_16 (by decide) ?_
    cases hf
    exact K1 H locs ls hP hS (lv_sub hl [0, 1] rfl)
set_option maxHeartbeats 4000000 in
set_option maxRecDepth 100000 in
theorem ct_X8_readRope {g : zb_G} {nc : Nat} (hnJ : 318 ≤ nc) (l : Launch) {I J O : Mem} {r9 : Int32} {Jq : Mem} (hf : fX8_readRope J = some (r9, Jq)) : zb_Ct l g nc yX8_readRope cX8_readRope 2 (some .boolean) 6 130 [.ref (g.2.2 + 306)] (zb_ce g I J O) (some (.int r9)) (zb_ce g I Jq O) := by
  refine zb_ofW (own := RX8) (by decide +kernel) rfl (Nat.le_of_ble_eq_true rfl) ?_
  intro p e s m args below meth c ls X hr hP hl
  have hx := X.1.1
  have hb := X.1.2.1
  have ho := X.1.2.2.2.1
  have hts := X.1.2.2.2.2
  have hZ := X.2.2.2
  have hl : lv_has ls 2 [(0, .ref (g.2.2 + 306))] := hl
  have hS : va_S (zb_A g) s.heap s.heap [] := va_S.rf
  obtain ⟨H, hH⟩ : ∃ H, H = s.heap := ⟨_, rfl⟩
  obtain ⟨locs, hlocs⟩ : ∃ z : List Loc, z = [] := ⟨_, rfl⟩
  rw [← hH] at hP
  have hS : va_S (zb_A g) s.heap H locs := by rw [hH, hlocs]; exact hS
  show W p l e _ s m args below meth c s.heap [] 0 0 _ _
  rw [← hH, ← hlocs]
  rw [fX8_readRope] at hf
  refine lv_aload_n hx hb dX8_readRope_0 rfl (lv_at hl 0 rfl) ?_
  refine lv_iconst (v := (0 : Int32)) hx hb dX8_readRope_1 (by decide) ?_
  refine lv_aload_n hx hb dX8_readRope_2 rfl (lv_at hl 0 rfl) ?_
  refine gf_X8_16 X hnJ hP zk_306 dX8_readRope_3 ?_
  refine lv_iconst (v := (0 : Int32)) hx hb dX8_readRope_6 (by decide) ?_
  obtain ⟨x1, hx1, hf⟩ := ob_e hf
  refine zr_aldJ X hP hnJ zk_309 hx1 dX8_readRope_7 ?_
  refine lv_iconst (v := (2 : Int32)) hx hb dX8_readRope_8 (by decide) ?_
  refine lv_isub hx hb dX8_readRope_9 ?_
  obtain ⟨x2, J3, hx2_J3, hf⟩ := ob2_e hf
  refine zr_cVi (rest := []) (As := [.int (0 : Int32), .int (x1 - (2 : Int32))]) X hP hS (ct_X8_takes (g := g) (nc := nc) (I := I) (J := J) (O := O) hnJ l  hx2_J3) cw_X8_131 (zr_recv X hP (Nat.lt_of_lt_of_le (zk_306).2.1 hnJ) (zb_ceJo zk_306 (by decide)) rfl) rfl hl.1 (Nat.le_of_ble_eq_true rfl) ⟨Nat.le_of_ble_eq_true rfl, Nat.le_of_ble_eq_true rfl⟩ ⟨Nat.le_of_ble_eq_true rfl, Nat.le_of_ble_eq_true rfl⟩ dX8_readRope_10 rfl (fun H locs hP hS => ?_)
  refine lv_if_ne (tgt := 18) hx hb dX8_readRope_13 (by decide) (fun hc => ?_) (fun hc => ?_)
  · have hf := if_f hc hf
    refine lv_aload_n hx hb dX8_readRope_18 rfl (lv_at hl 0 rfl) ?_
    refine gf_X8_120 X hnJ hP zk_306 dX8_readRope_19 ?_
    refine lv_istore_n (lv' := [(1, .int (J3 306 17)), (0, .ref (g.2.2 + 306))]) hx hb dX8_readRope_22 rfl hl (by decide) rfl (fun ls hl => ?_)
    refine lv_aload_n hx hb dX8_readRope_23 rfl (lv_at hl 1 rfl) ?_
    refine lv_bipush (v := (112 : Int32)) hx hb dX8_readRope_24 (by decide) ?_
    refine lv_iload_n hx hb dX8_readRope_26 rfl (lv_at hl 0 rfl) ?_
    refine lv_iadd hx hb dX8_readRope_27 ?_
    refine lv_iconst (v := (1 : Int32)) hx hb dX8_readRope_28 (by decide) ?_
    refine lv_bipush (v := (99 : Int32)) hx hb dX8_readRope_29 (by decide) ?_
    obtain ⟨x4, J5, hx4_J5, hf⟩ := ob2_e hf
    refine zr_cVi (rest := []) (As := [.int ((112 : Int32) + (J3 306 17)), .int (1 : Int32), .int (99 : Int32)]) X hP hS (ct_X8_takesInto (g := g) (nc := nc) (I := I) (J := J3) (O := O) hnJ l  hx4_J5) cw_X8_134 (zr_recv X hP (Nat.lt_of_lt_of_le (zk_306).2.1 hnJ) (zb_ceJo zk_306 (by decide)) rfl) rfl hl.1 (Nat.le_of_ble_eq_true rfl) ⟨Nat.le_of_ble_eq_true rfl, Nat.le_of_ble_eq_true rfl⟩ ⟨Nat.le_of_ble_eq_true rfl, Nat.le_of_ble_eq_true rfl⟩ dX8_readRope_31 rfl (fun H locs hP hS => ?_)
    obtain ⟨v9, hv9, hf⟩ := ob_e hf
    obtain ⟨hn9, he9⟩ := zbo_e hv9
    cases hf
    cases he9
    exact zr_zret X hr hn9 hP hS dX8_readRope_34
  · have hf := if_t hc hf
    refine lv_iconst (v := (0 : Int32)) hx hb dX8_readRope_16 (by decide) ?_
    obtain ⟨v9, hv9, hf⟩ := ob_e hf
    obtain ⟨hn9, he9⟩ := zbo_e hv9
    cases hf
    cases he9
    exact zr_zret X hr hn9 hP hS dX8_readRope_17
set_option maxHeartbeats 4000000 in
set_option maxRecDepth 100000 in
theorem ct_X8_readStatement {g : zb_G} {nc : Nat} (hnJ : 318 ≤ nc) (l : Launch) {I J O : Mem} {r9 : Int32} {Jq : Mem} (hf : fX8_readStatement J = some (r9, Jq)) : zb_Ct l g nc yX8_readStatement cX8_readStatement 1 (some .boolean) 7 151 [.ref (g.2.2 + 306)] (zb_ce g I J O) (some (.int r9)) (zb_ce g I Jq O) := by
  refine zb_ofW (own := RX8) (by decide +kernel) rfl (Nat.le_of_ble_eq_true rfl) ?_
  intro p e s m args below meth c ls X hr hP hl
  have hx := X.1.1
  have hb := X.1.2.1
  have ho := X.1.2.2.2.1
  have hts := X.1.2.2.2.2
  have hZ := X.2.2.2
  have hl : lv_has ls 1 [(0, .ref (g.2.2 + 306))] := hl
  have hS : va_S (zb_A g) s.heap s.heap [] := va_S.rf
  obtain ⟨H, hH⟩ : ∃ H, H = s.heap := ⟨_, rfl⟩
  obtain ⟨locs, hlocs⟩ : ∃ z : List Loc, z = [] := ⟨_, rfl⟩
  rw [← hH] at hP
  have hS : va_S (zb_A g) s.heap H locs := by rw [hH, hlocs]; exact hS
  show W p l e _ s m args below meth c s.heap [] 0 0 _ _
  rw [← hH, ← hlocs]
  rw [fX8_readStatement] at hf
  refine lv_aload_n hx hb dX8_readStatement_0 rfl (lv_at hl 0 rfl) ?_
  refine zr_str X (hZ.2.2.2.1 1 (by decide)).2 dX8_readStatement_1 ?_
  obtain ⟨x1, hx1, hf⟩ := ob_e hf
  refine zr_cVi (rest := []) (As := [.ref (zb_aK g 1)]) X hP hS (ct_X8_isWord (g := g) (nc := nc) (I := I) (J := J) (O := O) hnJ l (by decide) hx1) cw_X8_142 (zr_recv X hP (Nat.lt_of_lt_of_le (zk_306).2.1 hnJ) (zb_ceJo zk_306 (by decide)) rfl) rfl hl.1 (Nat.le_of_ble_eq_true rfl) ⟨Nat.le_of_ble_eq_true rfl, Nat.le_of_ble_eq_true rfl⟩ ⟨Nat.le_of_ble_eq_true rfl, Nat.le_of_ble_eq_true rfl⟩ dX8_readStatement_3 rfl (fun H locs hP hS => ?_)
  refine lv_if_eq (tgt := 14) hx hb dX8_readStatement_6 (by decide) (fun hc => ?_) (fun hc => ?_)
  · have hf := if_t hc hf
    refine lv_aload_n hx hb dX8_readStatement_14 rfl (lv_at hl 0 rfl) ?_
    refine zr_str X (hZ.2.2.2.1 2 (by decide)).2 dX8_readStatement_15 ?_
    obtain ⟨x2, hx2, hf⟩ := ob_e hf
    refine zr_cVi (rest := []) (As := [.ref (zb_aK g 2)]) X hP hS (ct_X8_isWord (g := g) (nc := nc) (I := I) (J := J) (O := O) hnJ l (by decide) hx2) cw_X8_142 (zr_recv X hP (Nat.lt_of_lt_of_le (zk_306).2.1 hnJ) (zb_ceJo zk_306 (by decide)) rfl) rfl hl.1 (Nat.le_of_ble_eq_true rfl) ⟨Nat.le_of_ble_eq_true rfl, Nat.le_of_ble_eq_true rfl⟩ ⟨Nat.le_of_ble_eq_true rfl, Nat.le_of_ble_eq_true rfl⟩ dX8_readStatement_17 rfl (fun H locs hP hS => ?_)
    refine lv_if_eq (tgt := 32) hx hb dX8_readStatement_20 (by decide) (fun hc => ?_) (fun hc => ?_)
    · have hf := if_t hc hf
      refine lv_aload_n hx hb dX8_readStatement_32 rfl (lv_at hl 0 rfl) ?_
      refine zr_str X (hZ.2.2.2.1 3 (by decide)).2 dX8_readStatement_33 ?_
      obtain ⟨x3, hx3, hf⟩ := ob_e hf
      refine zr_cVi (rest := []) (As := [.ref (zb_aK g 3)]) X hP hS (ct_X8_isWord (g := g) (nc := nc) (I := I) (J := J) (O := O) hnJ l (by decide) hx3) cw_X8_142 (zr_recv X hP (Nat.lt_of_lt_of_le (zk_306).2.1 hnJ) (zb_ceJo zk_306 (by decide)) rfl) rfl hl.1 (Nat.le_of_ble_eq_true rfl) ⟨Nat.le_of_ble_eq_true rfl, Nat.le_of_ble_eq_true rfl⟩ ⟨Nat.le_of_ble_eq_true rfl, Nat.le_of_ble_eq_true rfl⟩ dX8_readStatement_35 rfl (fun H locs hP hS => ?_)
      refine lv_if_ne (tgt := 47) hx hb dX8_readStatement_38 (by decide) (fun hc => ?_) (fun hc => ?_)
      · have hf := if_f hc hf
        refine lv_aload_n hx hb dX8_readStatement_47 rfl (lv_at hl 0 rfl) ?_
        obtain ⟨J4, hJ4, hf⟩ := ob_e hf
        refine zr_cVv (rest := []) (As := []) X hP hS (ct_X8_advance (g := g) (nc := nc) (I := I) (J := J) (O := O) hnJ l  hJ4) cw_X8_117 (zr_recv X hP (Nat.lt_of_lt_of_le (zk_306).2.1 hnJ) (zb_ceJo zk_306 (by decide)) rfl) rfl hl.1 (Nat.le_of_ble_eq_true rfl) ⟨Nat.le_of_ble_eq_true rfl, Nat.le_of_ble_eq_true rfl⟩ ⟨Nat.le_of_ble_eq_true rfl, Nat.le_of_ble_eq_true rfl⟩ dX8_readStatement_48 rfl (fun H locs hP hS => ?_)
        refine lv_aload_n hx hb dX8_readStatement_51 rfl (lv_at hl 0 rfl) ?_
        refine lv_iconst (v := (4 : Int32)) hx hb dX8_readStatement_52 (by decide) ?_
        refine lv_iconst (v := (0 : Int32)) hx hb dX8_readStatement_53 (by decide) ?_
        refine lv_ldc (v := (99999 : Int32)) hx hb ho (hts _ wk_X8_157) dX8_readStatement_54 ?_
        obtain ⟨x5, J6, hx5_J6, hf⟩ := ob2_e hf
        refine zr_cVi (rest := []) (As := [.int (4 : Int32), .int (0 : Int32), .int (99999 : Int32)]) X hP hS (ct_X8_takesInto (g := g) (nc := nc) (I := I) (J := J4) (O := O) hnJ l  hx5_J6) cw_X8_134 (zr_recv X hP (Nat.lt_of_lt_of_le (zk_306).2.1 hnJ) (zb_ceJo zk_306 (by decide)) rfl) rfl hl.1 (Nat.le_of_ble_eq_true rfl) ⟨Nat.le_of_ble_eq_true rfl, Nat.le_of_ble_eq_true rfl⟩ ⟨Nat.le_of_ble_eq_true rfl, Nat.le_of_ble_eq_true rfl⟩ dX8_readStatement_56 rfl (fun H locs hP hS => ?_)
        obtain ⟨v9, hv9, hf⟩ := ob_e hf
        obtain ⟨hn9, he9⟩ := zbo_e hv9
        cases hf
        cases he9
        exact zr_zret X hr hn9 hP hS dX8_readStatement_59
      · have hf := if_t hc hf
        refine lv_aload_n hx hb dX8_readStatement_41 rfl (lv_at hl 0 rfl) ?_
        refine lv_iconst (v := (1 : Int32)) hx hb dX8_readStatement_42 (by decide) ?_
        obtain ⟨x7, J8, hx7_J8, hf⟩ := ob2_e hf
        refine zr_cVi (rest := []) (As := [.int (1 : Int32)]) X hP hS (ct_X8_fails (g := g) (nc := nc) (I := I) (J := J) (O := O) hnJ l  hx7_J8) cw_X8_114 (zr_recv X hP (Nat.lt_of_lt_of_le (zk_306).2.1 hnJ) (zb_ceJo zk_306 (by decide)) rfl) rfl hl.1 (Nat.le_of_ble_eq_true rfl) ⟨Nat.le_of_ble_eq_true rfl, Nat.le_of_ble_eq_true rfl⟩ ⟨Nat.le_of_ble_eq_true rfl, Nat.le_of_ble_eq_true rfl⟩ dX8_readStatement_43 rfl (fun H locs hP hS => ?_)
        obtain ⟨v9, hv9, hf⟩ := ob_e hf
        obtain ⟨hn9, he9⟩ := zbo_e hv9
        cases hf
        cases he9
        exact zr_zret X hr hn9 hP hS dX8_readStatement_46
    · have hf := if_f hc hf
      refine lv_aload_n hx hb dX8_readStatement_23 rfl (lv_at hl 0 rfl) ?_
      obtain ⟨J9, hJ9, hf⟩ := ob_e hf
      refine zr_cVv (rest := []) (As := []) X hP hS (ct_X8_advance (g := g) (nc := nc) (I := I) (J := J) (O := O) hnJ l  hJ9) cw_X8_117 (zr_recv X hP (Nat.lt_of_lt_of_le (zk_306).2.1 hnJ) (zb_ceJo zk_306 (by decide)) rfl) rfl hl.1 (Nat.le_of_ble_eq_true rfl) ⟨Nat.le_of_ble_eq_true rfl, Nat.le_of_ble_eq_true rfl⟩ ⟨Nat.le_of_ble_eq_true rfl, Nat.le_of_ble_eq_true rfl⟩ dX8_readStatement_24 rfl (fun H locs hP hS => ?_)
      refine lv_aload_n hx hb dX8_readStatement_27 rfl (lv_at hl 0 rfl) ?_
      obtain ⟨x10, J11, hx10_J11, hf⟩ := ob2_e hf
      refine zr_cVi (rest := []) (As := []) X hP hS (ct_X8_readRope (g := g) (nc := nc) (I := I) (J := J9) (O := O) hnJ l  hx10_J11) cw_X8_152 (zr_recv X hP (Nat.lt_of_lt_of_le (zk_306).2.1 hnJ) (zb_ceJo zk_306 (by decide)) rfl) rfl hl.1 (Nat.le_of_ble_eq_true rfl) ⟨Nat.le_of_ble_eq_true rfl, Nat.le_of_ble_eq_true rfl⟩ ⟨Nat.le_of_ble_eq_true rfl, Nat.le_of_ble_eq_true rfl⟩ dX8_readStatement_28 rfl (fun H locs hP hS => ?_)
      obtain ⟨v9, hv9, hf⟩ := ob_e hf
      obtain ⟨hn9, he9⟩ := zbo_e hv9
      cases hf
      cases he9
      exact zr_zret X hr hn9 hP hS dX8_readStatement_31
  · have hf := if_f hc hf
    refine lv_aload_n hx hb dX8_readStatement_9 rfl (lv_at hl 0 rfl) ?_
    obtain ⟨x12, J13, hx12_J13, hf⟩ := ob2_e hf
    refine zr_cVi (rest := []) (As := []) X hP hS (ct_X8_readBuoy (g := g) (nc := nc) (I := I) (J := J) (O := O) hnJ l  hx12_J13) cw_X8_146 (zr_recv X hP (Nat.lt_of_lt_of_le (zk_306).2.1 hnJ) (zb_ceJo zk_306 (by decide)) rfl) rfl hl.1 (Nat.le_of_ble_eq_true rfl) ⟨Nat.le_of_ble_eq_true rfl, Nat.le_of_ble_eq_true rfl⟩ ⟨Nat.le_of_ble_eq_true rfl, Nat.le_of_ble_eq_true rfl⟩ dX8_readStatement_10 rfl (fun H locs hP hS => ?_)
    obtain ⟨v9, hv9, hf⟩ := ob_e hf
    obtain ⟨hn9, he9⟩ := zbo_e hv9
    cases hf
    cases he9
    exact zr_zret X hr hn9 hP hS dX8_readStatement_13
set_option maxHeartbeats 4000000 in
set_option maxRecDepth 100000 in
theorem lpX8_copies_L3 {g : zb_G} {nc : Nat} (hnJ : 318 ≤ nc) (l : Launch) {k0 : Nat} {k2 : Nat} (hk0 : zb_JK k0 10 (zb_ln k0)) (hk2 : zb_JK k2 10 (zb_ln k2)) {a1 : Int32} {a3 : Int32} {I O : Mem} {p : Program} {e : Env} {s : State} {m : MethodId} {args : Array Value} {below : List Frame} {meth : Method} {c : Code} {Q : State → Prop} (X : zb_X g p m c cX8_copies 5 s args RX8 meth) : ∀ {n9 : Nat} {a4 : Int32} {J : Mem} {Jz : Mem} {H : Heap} {locs : List Loc} {ls : Array Slot}, fX8_copies_L3 k0 k2 a1 a3 n9 a4 J = some Jz → (∀ (H : Heap) (locs : List Loc) (ls : Array Slot), va_P g.1 vwCl (zb_ws g nc (zb_ce g I Jz O)) H → va_S (zb_A g) s.heap H locs → lv_has ls 5 [] → W p l e { frames := 0, cells := 0, slots := 0, locals := 0 } s m args below meth c H locs 0 0 Q (F0 m 29 ls [])) → va_P g.1 vwCl (zb_ws g nc (zb_ce g I J O)) H → va_S (zb_A g) s.heap H locs → lv_has ls 5 [(4, .int a4), (0, .ref (g.2.2 + k0)), (1, .int a1), (2, .ref (g.2.2 + k2)), (3, .int a3)] → W p l e { frames := 0, cells := 0, slots := 0, locals := 0 } s m args below meth c H locs 0 0 Q (F0 m 3 ls []) := by
  have hx := X.1.1
  have hb := X.1.2.1
  have ho := X.1.2.2.2.1
  have hts := X.1.2.2.2.2
  have hZ := X.2.2.2
  intro n9
  induction n9 with
  | zero =>
    intro a4 J Jz H locs ls hf
    exact nomatch hf
  | succ n9 ih =>
    intro a4 J Jz H locs ls hf KK hP hS hl
    rw [fX8_copies_L3] at hf
    refine lv_iload hx hb dX8_copies_3 (lv_at hl 0 rfl) ?_
    refine lv_sipush (v := (574 : Int32)) hx hb dX8_copies_5 (by decide) ?_
    refine lv_icmp_ge (tgt := 29) hx hb dX8_copies_8 (by decide) (fun hc => ?_) (fun hc => ?_)
    · have hf := if_t hc hf
      cases hf
      exact KK H locs ls hP hS (lv_sub hl [] rfl)
    · have hf := if_f hc hf
      refine lv_aload_n hx hb dX8_copies_11 rfl (lv_at hl 3 rfl) ?_
      refine lv_iload_n hx hb dX8_copies_12 rfl (lv_at hl 4 rfl) ?_
      refine lv_iload hx hb dX8_copies_13 (lv_at hl 0 rfl) ?_
      refine lv_iadd hx hb dX8_copies_15 ?_
      refine lv_aload_n hx hb dX8_copies_16 rfl (lv_at hl 1 rfl) ?_
      refine lv_iload_n hx hb dX8_copies_17 rfl (lv_at hl 2 rfl) ?_
      refine lv_iload hx hb dX8_copies_18 (lv_at hl 0 rfl) ?_
      refine lv_iadd hx hb dX8_copies_20 ?_
      obtain ⟨x1, hx1, hf⟩ := ob_e hf
      refine zr_aldJ X hP hnJ hk0 hx1 dX8_copies_21 ?_
      obtain ⟨J2, hJ2, hf⟩ := ob_e hf
      refine zr_astJ X hP hS hnJ hk2 hJ2 dX8_copies_22 (fun H locs hP hS => ?_)
      refine lv_iinc (v := (a4 + (1 : Int32))) (lv' := [(4, .int (a4 + (1 : Int32))), (0, .ref (g.2.2 + k0)), (1, .int a1), (2, .ref (g.2.2 + k2)), (3, .int a3)]) hx hb dX8_copies_23 hl (k := 0) rfl rfl (by decide) rfl (fun ls hl => ?_)
      refine lv_goto (tgt := 3) hx hb dX8_copies_26 (by decide) ?_
      exact ih hf KK hP hS (lv_sub hl [0, 1, 2, 3, 4] rfl)
set_option maxHeartbeats 4000000 in
set_option maxRecDepth 100000 in
theorem ct_X8_copies {g : zb_G} {nc : Nat} (hnJ : 318 ≤ nc) (l : Launch) {k0 : Nat} {k2 : Nat} (hk0 : zb_JK k0 10 (zb_ln k0)) (hk2 : zb_JK k2 10 (zb_ln k2)) {a1 : Int32} {a3 : Int32} {I J O : Mem} {Jq : Mem} (hf : fX8_copies k0 k2 a1 a3 J = some Jq) : zb_Ct l g nc yX8_copies cX8_copies 5 none 0 0 [.ref (g.2.2 + k0), .int a1, .ref (g.2.2 + k2), .int a3] (zb_ce g I J O) none (zb_ce g I Jq O) := by
  refine zb_ofW (own := RX8) (by decide +kernel) rfl (Nat.le_of_ble_eq_true rfl) ?_
  intro p e s m args below meth c ls X hr hP hl
  have hx := X.1.1
  have hb := X.1.2.1
  have ho := X.1.2.2.2.1
  have hts := X.1.2.2.2.2
  have hZ := X.2.2.2
  have hl : lv_has ls 5 [(0, .ref (g.2.2 + k0)), (1, .int a1), (2, .ref (g.2.2 + k2)), (3, .int a3)] := hl
  have hS : va_S (zb_A g) s.heap s.heap [] := va_S.rf
  obtain ⟨H, hH⟩ : ∃ H, H = s.heap := ⟨_, rfl⟩
  obtain ⟨locs, hlocs⟩ : ∃ z : List Loc, z = [] := ⟨_, rfl⟩
  rw [← hH] at hP
  have hS : va_S (zb_A g) s.heap H locs := by rw [hH, hlocs]; exact hS
  show W p l e _ s m args below meth c s.heap [] 0 0 _ _
  rw [← hH, ← hlocs]
  rw [fX8_copies] at hf
  refine lv_iconst (v := (0 : Int32)) hx hb dX8_copies_0 (by decide) ?_
  refine lv_istore (lv' := [(4, .int (0 : Int32)), (0, .ref (g.2.2 + k0)), (1, .int a1), (2, .ref (g.2.2 + k2)), (3, .int a3)]) hx hb dX8_copies_1 hl (by decide) rfl (fun ls hl => ?_)
  obtain ⟨J3, hJ3, hf⟩ := ob_e hf
  have K1 : ∀ (H : Heap) (locs : List Loc) (ls : Array Slot), va_P g.1 vwCl (zb_ws g nc (zb_ce g I J3 O)) H → va_S (zb_A g) s.heap H locs → lv_has ls 5 [] → W p l e { frames := 0, cells := 0, slots := 0, locals := 0 } s m args below meth c H locs 0 0 (MQ below (zb_Po g nc (zb_ce g I Jq O) none) args s 0 0 (zb_A g)) (F0 m 29 ls []) := by
    intro H locs ls hP hS hl
    cases hf
    exact zr_vret X hr hP hS rfl dX8_copies_29
  exact lpX8_copies_L3 hnJ l hk0 hk2 X hJ3 K1 hP hS (lv_sub hl [0, 1, 2, 3, 4] rfl)
set_option maxHeartbeats 4000000 in
set_option maxRecDepth 100000 in
theorem lpX8_load_L77 {g : zb_G} {nc : Nat} (hnJ : 318 ≤ nc) (l : Launch) {I O : Mem} {p : Program} {e : Env} {s : State} {m : MethodId} {args : Array Value} {below : List Frame} {meth : Method} {c : Code} {Q : State → Prop} (X : zb_X g p m c cX8_load 2 s args RX8 meth) : ∀ {n9 : Nat} {a1 : Int32} {J : Mem} {z1 : Int32} {Jz : Mem} {H : Heap} {locs : List Loc} {ls : Array Slot}, fX8_load_L77 n9 a1 J = some (z1, Jz) → (∀ (H : Heap) (locs : List Loc) (ls : Array Slot), va_P g.1 vwCl (zb_ws g nc (zb_ce g I Jz O)) H → va_S (zb_A g) s.heap H locs → lv_has ls 2 [(1, .int z1), (0, .ref (g.2.2 + 306))] → W p l e { frames := 8, cells := 0, slots := 0, locals := 171 } s m args below meth c H locs 0 0 Q (F0 m 111 ls [])) → va_P g.1 vwCl (zb_ws g nc (zb_ce g I J O)) H → va_S (zb_A g) s.heap H locs → lv_has ls 2 [(1, .int a1), (0, .ref (g.2.2 + 306))] → W p l e { frames := 8, cells := 0, slots := 0, locals := 171 } s m args below meth c H locs 0 0 Q (F0 m 77 ls []) := by
  have hx := X.1.1
  have hb := X.1.2.1
  have ho := X.1.2.2.2.1
  have hts := X.1.2.2.2.2
  have hZ := X.2.2.2
  intro n9
  induction n9 with
  | zero =>
    intro a1 J z1 Jz H locs ls hf
    exact nomatch hf
  | succ n9 ih =>
    intro a1 J z1 Jz H locs ls hf KK hP hS hl
    rw [fX8_load_L77] at hf
    refine lv_iload_n hx hb dX8_load_77 rfl (lv_at hl 0 rfl) ?_
    refine lv_if_eq (tgt := 111) hx hb dX8_load_78 (by decide) (fun hc => ?_) (fun hc => ?_)
    · have hf := if_t hc hf
      cases hf
      exact KK H locs ls hP hS (lv_sub hl [0, 1] rfl)
    · have hf := if_f hc hf
      refine lv_aload_n hx hb dX8_load_81 rfl (lv_at hl 1 rfl) ?_
      refine gf_X8_91 X hnJ hP zk_306 dX8_load_82 ?_
      refine lv_if_eq (tgt := 111) hx hb dX8_load_85 (by decide) (fun hc => ?_) (fun hc => ?_)
      · have hf := if_t hc hf
        cases hf
        exact KK H locs ls hP hS (lv_sub hl [0, 1] rfl)
      · have hf := if_f hc hf
        refine lv_aload_n hx hb dX8_load_88 rfl (lv_at hl 1 rfl) ?_
        obtain ⟨x16, J17, hx16_J17, hf⟩ := ob2_e hf
        refine zr_cVi (rest := []) (As := []) X hP hS (ct_X8_readStatement (g := g) (nc := nc) (I := I) (J := J) (O := O) hnJ l  hx16_J17) cw_X8_166 (zr_recv X hP (Nat.lt_of_lt_of_le (zk_306).2.1 hnJ) (zb_ceJo zk_306 (by decide)) rfl) rfl hl.1 (Nat.le_of_ble_eq_true rfl) ⟨Nat.le_of_ble_eq_true rfl, Nat.le_of_ble_eq_true rfl⟩ ⟨Nat.le_of_ble_eq_true rfl, Nat.le_of_ble_eq_true rfl⟩ dX8_load_89 rfl (fun H locs hP hS => ?_)
        obtain ⟨x20, J21, ht, hf⟩ := ob2_e hf
        have K1 : ∀ (H : Heap) (locs : List Loc) (ls : Array Slot), va_P g.1 vwCl (zb_ws g nc (zb_ce g I J21 O)) H → va_S (zb_A g) s.heap H locs → lv_has ls 2 [(0, .ref (g.2.2 + 306))] → W p l e { frames := 8, cells := 0, slots := 0, locals := 171 } s m args below meth c H locs 0 0 Q (F0 m 107 ls [.int x20]) := by
          intro H locs ls hP hS hl
          refine lv_istore_n (lv' := [(1, .int x20), (0, .ref (g.2.2 + 306))]) hx hb dX8_load_107 rfl hl (by decide) rfl (fun ls hl => ?_)
          refine lv_goto (tgt := 77) hx hb dX8_load_108 (by decide) ?_
          exact ih hf KK hP hS (lv_sub hl [0, 1] rfl)
        have hf := ht
        refine lv_if_eq (tgt := 106) hx hb dX8_load_92 (by decide) (fun hc => ?_) (fun hc => ?_)
        · have hf := if_t hc hf
          refine lv_iconst (v := (0 : Int32)) hx hb dX8_load_106 (by decide) ?_
          cases hf
          exact K1 H locs ls hP hS (lv_sub hl [1] rfl)
        · have hf := if_f hc hf
          refine lv_aload_n hx hb dX8_load_95 rfl (lv_at hl 1 rfl) ?_
          obtain ⟨x18, J19, hx18_J19, hf⟩ := ob2_e hf
          refine zr_cVi (rest := []) (As := []) X hP hS (ct_X8_stop (g := g) (nc := nc) (I := I) (J := J17) (O := O) hnJ l  hx18_J19) cw_X8_163 (zr_recv X hP (Nat.lt_of_lt_of_le (zk_306).2.1 hnJ) (zb_ceJo zk_306 (by decide)) rfl) rfl hl.1 (Nat.le_of_ble_eq_true rfl) ⟨Nat.le_of_ble_eq_true rfl, Nat.le_of_ble_eq_true rfl⟩ ⟨Nat.le_of_ble_eq_true rfl, Nat.le_of_ble_eq_true rfl⟩ dX8_load_96 rfl (fun H locs hP hS => ?_)
          refine lv_if_eq (tgt := 106) hx hb dX8_load_99 (by decide) (fun hc => ?_) (fun hc => ?_)
          · have hf := if_t hc hf
            refine lv_iconst (v := (0 : Int32)) hx hb dX8_load_106 (by decide) ?_
            cases hf
            exact K1 H locs ls hP hS (lv_sub hl [1] rfl)
          · have hf := if_f hc hf
            refine lv_iconst (v := (1 : Int32)) hx hb dX8_load_102 (by decide) ?_
            refine lv_goto (tgt := 107) hx hb dX8_load_103 (by decide) ?_
            cases hf
            exact K1 H locs ls hP hS (lv_sub hl [1] rfl)
set_option maxHeartbeats 4000000 in
set_option maxRecDepth 100000 in
theorem ct_X8_load {g : zb_G} {nc : Nat} (hnJ : 318 ≤ nc) (l : Launch) {I J O : Mem} {r9 : Int32} {Jq : Mem} (hf : fX8_load J = some (r9, Jq)) : zb_Ct l g nc yX8_load cX8_load 2 (some .int) 8 171 [.ref (g.2.2 + 306)] (zb_ce g I J O) (some (.int r9)) (zb_ce g I Jq O) := by
  refine zb_ofW (own := RX8) (by decide +kernel) rfl (Nat.le_of_ble_eq_true rfl) ?_
  intro p e s m args below meth c ls X hr hP hl
  have hx := X.1.1
  have hb := X.1.2.1
  have ho := X.1.2.2.2.1
  have hts := X.1.2.2.2.2
  have hZ := X.2.2.2
  have hl : lv_has ls 2 [(0, .ref (g.2.2 + 306))] := hl
  have hS : va_S (zb_A g) s.heap s.heap [] := va_S.rf
  obtain ⟨H, hH⟩ : ∃ H, H = s.heap := ⟨_, rfl⟩
  obtain ⟨locs, hlocs⟩ : ∃ z : List Loc, z = [] := ⟨_, rfl⟩
  rw [← hH] at hP
  have hS : va_S (zb_A g) s.heap H locs := by rw [hH, hlocs]; exact hS
  show W p l e _ s m args below meth c s.heap [] 0 0 _ _
  rw [← hH, ← hlocs]
  rw [fX8_load] at hf
  refine lv_aload_n hx hb dX8_load_0 rfl (lv_at hl 0 rfl) ?_
  refine lv_iconst (v := (0 : Int32)) hx hb dX8_load_1 (by decide) ?_
  refine pf_X8_57 X hnJ hP hS zk_306 dX8_load_2 (fun H locs hP hS => ?_)
  refine lv_aload_n hx hb dX8_load_5 rfl (lv_at hl 0 rfl) ?_
  obtain ⟨J1, hJ1, hf⟩ := ob_e hf
  refine zr_cVv (rest := []) (As := []) X hP hS (ct_X8_begins (g := g) (nc := nc) (I := I) (J := (wr J 306 0 (0 : Int32))) (O := O) hnJ l  hJ1) cw_X8_158 (zr_recv X hP (Nat.lt_of_lt_of_le (zk_306).2.1 hnJ) (zb_ceJo zk_306 (by decide)) rfl) rfl hl.1 (Nat.le_of_ble_eq_true rfl) ⟨Nat.le_of_ble_eq_true rfl, Nat.le_of_ble_eq_true rfl⟩ ⟨Nat.le_of_ble_eq_true rfl, Nat.le_of_ble_eq_true rfl⟩ dX8_load_6 rfl (fun H locs hP hS => ?_)
  refine lv_aload_n hx hb dX8_load_9 rfl (lv_at hl 0 rfl) ?_
  refine gf_X8_16 X hnJ hP zk_306 dX8_load_10 ?_
  obtain ⟨J2, hJ2, hf⟩ := ob_e hf
  refine zr_cSv (rest := []) (As := [.ref (g.2.2 + 309)]) X hP hS (ct_X8_empties (g := g) (nc := nc) (I := I) (J := J1) (O := O) hnJ l zk_309 hJ2) cw_X8_49  rfl hl.1 (Nat.le_of_ble_eq_true rfl) ⟨Nat.le_of_ble_eq_true rfl, Nat.le_of_ble_eq_true rfl⟩ ⟨Nat.le_of_ble_eq_true rfl, Nat.le_of_ble_eq_true rfl⟩ dX8_load_13 rfl (fun H locs hP hS => ?_)
  refine lv_aload_n hx hb dX8_load_16 rfl (lv_at hl 0 rfl) ?_
  refine lv_iconst (v := (1 : Int32)) hx hb dX8_load_17 (by decide) ?_
  refine lv_aload_n hx hb dX8_load_18 rfl (lv_at hl 0 rfl) ?_
  refine zr_str X (hZ.2.2.2.1 0 (by decide)).2 dX8_load_19 ?_
  obtain ⟨x3, hx3, hf⟩ := ob_e hf
  refine zr_cVi (rest := [.int (1 : Int32), .ref (g.2.2 + 306)]) (As := [.ref (zb_aK g 0)]) X hP hS (ct_X8_isWord (g := g) (nc := nc) (I := I) (J := J2) (O := O) hnJ l (by decide) hx3) cw_X8_142 (zr_recv X hP (Nat.lt_of_lt_of_le (zk_306).2.1 hnJ) (zb_ceJo zk_306 (by decide)) rfl) rfl hl.1 (Nat.le_of_ble_eq_true rfl) ⟨Nat.le_of_ble_eq_true rfl, Nat.le_of_ble_eq_true rfl⟩ ⟨Nat.le_of_ble_eq_true rfl, Nat.le_of_ble_eq_true rfl⟩ dX8_load_21 rfl (fun H locs hP hS => ?_)
  obtain ⟨x4, J5, hx4_J5, hf⟩ := ob2_e hf
  refine zr_cVi (rest := []) (As := [.int (1 : Int32), .int x3]) X hP hS (ct_X8_starts (g := g) (nc := nc) (I := I) (J := J2) (O := O) hnJ l  hx4_J5) cw_X8_127 (zr_recv X hP (Nat.lt_of_lt_of_le (zk_306).2.1 hnJ) (zb_ceJo zk_306 (by decide)) rfl) rfl hl.1 (Nat.le_of_ble_eq_true rfl) ⟨Nat.le_of_ble_eq_true rfl, Nat.le_of_ble_eq_true rfl⟩ ⟨Nat.le_of_ble_eq_true rfl, Nat.le_of_ble_eq_true rfl⟩ dX8_load_24 rfl (fun H locs hP hS => ?_)
  obtain ⟨x14, J15, ht, hf⟩ := ob2_e hf
  have K2 : ∀ (H : Heap) (locs : List Loc) (ls : Array Slot), va_P g.1 vwCl (zb_ws g nc (zb_ce g I J15 O)) H → va_S (zb_A g) s.heap H locs → lv_has ls 2 [(0, .ref (g.2.2 + 306))] → W p l e { frames := 8, cells := 0, slots := 0, locals := 171 } s m args below meth c H locs 0 0 (MQ below (zb_Po g nc (zb_ce g I Jq O) (some (.int r9))) args s 0 0 (zb_A g)) (F0 m 76 ls [.int x14]) := by
    intro H locs ls hP hS hl
    refine lv_istore_n (lv' := [(1, .int x14), (0, .ref (g.2.2 + 306))]) hx hb dX8_load_76 rfl hl (by decide) rfl (fun ls hl => ?_)
    obtain ⟨x22, J23, hx22_J23, hf⟩ := ob2_e hf
    have K3 : ∀ (H : Heap) (locs : List Loc) (ls : Array Slot), va_P g.1 vwCl (zb_ws g nc (zb_ce g I J23 O)) H → va_S (zb_A g) s.heap H locs → lv_has ls 2 [(1, .int x22), (0, .ref (g.2.2 + 306))] → W p l e { frames := 8, cells := 0, slots := 0, locals := 171 } s m args below meth c H locs 0 0 (MQ below (zb_Po g nc (zb_ce g I Jq O) (some (.int r9))) args s 0 0 (zb_A g)) (F0 m 111 ls []) := by
      intro H locs ls hP hS hl
      refine lv_iload_n hx hb dX8_load_111 rfl (lv_at hl 0 rfl) ?_
      obtain ⟨x27, J28, ht, hf⟩ := ob2_e hf
      have K4 : ∀ (H : Heap) (locs : List Loc) (ls : Array Slot), va_P g.1 vwCl (zb_ws g nc (zb_ce g I J28 O)) H → va_S (zb_A g) s.heap H locs → lv_has ls 2 [(0, .ref (g.2.2 + 306))] → W p l e { frames := 8, cells := 0, slots := 0, locals := 171 } s m args below meth c H locs 0 0 (MQ below (zb_Po g nc (zb_ce g I Jq O) (some (.int r9))) args s 0 0 (zb_A g)) (F0 m 138 ls [.int x27]) := by
        intro H locs ls hP hS hl
        refine lv_istore_n (lv' := [(1, .int x27), (0, .ref (g.2.2 + 306))]) hx hb dX8_load_138 rfl hl (by decide) rfl (fun ls hl => ?_)
        refine lv_aload_n hx hb dX8_load_139 rfl (lv_at hl 1 rfl) ?_
        refine lv_iconst (v := (0 : Int32)) hx hb dX8_load_140 (by decide) ?_
        refine pf_X8_68 X hnJ hP hS zk_306 dX8_load_141 (fun H locs hP hS => ?_)
        refine lv_iload_n hx hb dX8_load_144 rfl (lv_at hl 0 rfl) ?_
        refine lv_if_ne (tgt := 150) hx hb dX8_load_145 (by decide) (fun hc => ?_) (fun hc => ?_)
        · have hf := if_f hc hf
          refine lv_aload_n hx hb dX8_load_150 rfl (lv_at hl 1 rfl) ?_
          refine gf_X8_16 X hnJ hP zk_306 dX8_load_151 ?_
          refine lv_bipush (v := (9 : Int32)) hx hb dX8_load_154 (by decide) ?_
          refine lv_aload_n hx hb dX8_load_156 rfl (lv_at hl 1 rfl) ?_
          refine gf_X8_16 X hnJ hP zk_306 dX8_load_157 ?_
          refine lv_iconst (v := (4 : Int32)) hx hb dX8_load_160 (by decide) ?_
          obtain ⟨x29, hx29, hf⟩ := ob_e hf
          refine zr_aldJ X hP hnJ zk_309 hx29 dX8_load_161 ?_
          obtain ⟨J30, hJ30, hf⟩ := ob_e hf
          refine zr_astJ X hP hS hnJ zk_309 hJ30 dX8_load_162 (fun H locs hP hS => ?_)
          refine lv_aload_n hx hb dX8_load_163 rfl (lv_at hl 1 rfl) ?_
          refine gf_X8_16 X hnJ hP zk_306 dX8_load_164 ?_
          refine lv_iconst (v := (0 : Int32)) hx hb dX8_load_167 (by decide) ?_
          refine lv_aload_n hx hb dX8_load_168 rfl (lv_at hl 1 rfl) ?_
          refine gf_X8_7 X hnJ hP zk_306 dX8_load_169 ?_
          refine lv_iconst (v := (0 : Int32)) hx hb dX8_load_172 (by decide) ?_
          obtain ⟨J31, hJ31, hf⟩ := ob_e hf
          refine zr_cSv (rest := []) (As := [.ref (g.2.2 + 309), .int (0 : Int32), .ref (g.2.2 + 307), .int (0 : Int32)]) X hP hS (ct_X8_copies (g := g) (nc := nc) (I := I) (J := J30) (O := O) hnJ l zk_309 zk_307 hJ31) cw_X8_169  rfl hl.1 (Nat.le_of_ble_eq_true rfl) ⟨Nat.le_of_ble_eq_true rfl, Nat.le_of_ble_eq_true rfl⟩ ⟨Nat.le_of_ble_eq_true rfl, Nat.le_of_ble_eq_true rfl⟩ dX8_load_173 rfl (fun H locs hP hS => ?_)
          refine lv_aload_n hx hb dX8_load_176 rfl (lv_at hl 1 rfl) ?_
          refine lv_iconst (v := (0 : Int32)) hx hb dX8_load_177 (by decide) ?_
          refine pf_X8_173 X hnJ hP hS zk_306 dX8_load_178 (fun H locs hP hS => ?_)
          refine lv_aload_n hx hb dX8_load_181 rfl (lv_at hl 1 rfl) ?_
          refine gf_X8_7 X hnJ hP zk_306 dX8_load_182 ?_
          refine lv_iconst (v := (0 : Int32)) hx hb dX8_load_185 (by decide) ?_
          obtain ⟨x32, hx32, hf⟩ := ob_e hf
          refine zr_aldJ X hP hnJ zk_307 hx32 dX8_load_186 ?_
          cases hf
          exact zr_iret X hr hP hS dX8_load_187
        · have hf := if_t hc hf
          refine lv_iconst (v := (-1 : Int32)) hx hb dX8_load_148 (by decide) ?_
          cases hf
          exact zr_iret X hr hP hS dX8_load_149
      have hf := ht
      refine lv_if_eq (tgt := 137) hx hb dX8_load_112 (by decide) (fun hc => ?_) (fun hc => ?_)
      · have hf := if_t hc hf
        refine lv_iconst (v := (0 : Int32)) hx hb dX8_load_137 (by decide) ?_
        cases hf
        exact K4 H locs ls hP hS (lv_sub hl [1] rfl)
      · have hf := if_f hc hf
        refine lv_aload_n hx hb dX8_load_115 rfl (lv_at hl 1 rfl) ?_
        refine gf_X8_16 X hnJ hP zk_306 dX8_load_116 ?_
        refine lv_iconst (v := (0 : Int32)) hx hb dX8_load_119 (by decide) ?_
        obtain ⟨x24, hx24, hf⟩ := ob_e hf
        refine zr_aldJ X hP hnJ zk_309 hx24 dX8_load_120 ?_
        refine lv_iconst (v := (1 : Int32)) hx hb dX8_load_121 (by decide) ?_
        refine lv_icmp_gt (tgt := 133) hx hb dX8_load_122 (by decide) (fun hc => ?_) (fun hc => ?_)
        · have hf := if_t hc hf
          refine lv_iconst (v := (1 : Int32)) hx hb dX8_load_133 (by decide) ?_
          refine lv_goto (tgt := 138) hx hb dX8_load_134 (by decide) ?_
          cases hf
          exact K4 H locs ls hP hS (lv_sub hl [1] rfl)
        · have hf := if_f hc hf
          refine lv_aload_n hx hb dX8_load_125 rfl (lv_at hl 1 rfl) ?_
          refine lv_iconst (v := (5 : Int32)) hx hb dX8_load_126 (by decide) ?_
          obtain ⟨x25, J26, hx25_J26, hf⟩ := ob2_e hf
          refine zr_cVi (rest := []) (As := [.int (5 : Int32)]) X hP hS (ct_X8_fails (g := g) (nc := nc) (I := I) (J := J23) (O := O) hnJ l  hx25_J26) cw_X8_114 (zr_recv X hP (Nat.lt_of_lt_of_le (zk_306).2.1 hnJ) (zb_ceJo zk_306 (by decide)) rfl) rfl hl.1 (Nat.le_of_ble_eq_true rfl) ⟨Nat.le_of_ble_eq_true rfl, Nat.le_of_ble_eq_true rfl⟩ ⟨Nat.le_of_ble_eq_true rfl, Nat.le_of_ble_eq_true rfl⟩ dX8_load_127 rfl (fun H locs hP hS => ?_)
          refine lv_if_eq (tgt := 137) hx hb dX8_load_130 (by decide) (fun hc => ?_) (fun hc => ?_)
          · have hf := if_t hc hf
            refine lv_iconst (v := (0 : Int32)) hx hb dX8_load_137 (by decide) ?_
            cases hf
            exact K4 H locs ls hP hS (lv_sub hl [1] rfl)
          · have hf := if_f hc hf
            refine lv_iconst (v := (1 : Int32)) hx hb dX8_load_133 (by decide) ?_
            refine lv_goto (tgt := 138) hx hb dX8_load_134 (by decide) ?_
            cases hf
            exact K4 H locs ls hP hS (lv_sub hl [1] rfl)
    exact lpX8_load_L77 hnJ l  X hx22_J23 K3 hP hS (lv_sub hl [0, 1] rfl)
  have hf := ht
  refine lv_if_eq (tgt := 75) hx hb dX8_load_27 (by decide) (fun hc => ?_) (fun hc => ?_)
  · have hf := if_t hc hf
    refine lv_iconst (v := (0 : Int32)) hx hb dX8_load_75 (by decide) ?_
    cases hf
    exact K2 H locs ls hP hS (lv_sub hl [0] rfl)
  · have hf := if_f hc hf
    refine lv_aload_n hx hb dX8_load_30 rfl (lv_at hl 0 rfl) ?_
    refine lv_iconst (v := (1 : Int32)) hx hb dX8_load_31 (by decide) ?_
    refine lv_iconst (v := (0 : Int32)) hx hb dX8_load_32 (by decide) ?_
    refine lv_sipush (v := (999 : Int32)) hx hb dX8_load_33 (by decide) ?_
    obtain ⟨x6, J7, hx6_J7, hf⟩ := ob2_e hf
    refine zr_cVi (rest := []) (As := [.int (1 : Int32), .int (0 : Int32), .int (999 : Int32)]) X hP hS (ct_X8_takesInto (g := g) (nc := nc) (I := I) (J := J5) (O := O) hnJ l  hx6_J7) cw_X8_134 (zr_recv X hP (Nat.lt_of_lt_of_le (zk_306).2.1 hnJ) (zb_ceJo zk_306 (by decide)) rfl) rfl hl.1 (Nat.le_of_ble_eq_true rfl) ⟨Nat.le_of_ble_eq_true rfl, Nat.le_of_ble_eq_true rfl⟩ ⟨Nat.le_of_ble_eq_true rfl, Nat.le_of_ble_eq_true rfl⟩ dX8_load_36 rfl (fun H locs hP hS => ?_)
    refine lv_if_eq (tgt := 75) hx hb dX8_load_39 (by decide) (fun hc => ?_) (fun hc => ?_)
    · have hf := if_t hc hf
      refine lv_iconst (v := (0 : Int32)) hx hb dX8_load_75 (by decide) ?_
      cases hf
      exact K2 H locs ls hP hS (lv_sub hl [0] rfl)
    · have hf := if_f hc hf
      refine lv_aload_n hx hb dX8_load_42 rfl (lv_at hl 0 rfl) ?_
      refine lv_iconst (v := (2 : Int32)) hx hb dX8_load_43 (by decide) ?_
      refine lv_iconst (v := (1 : Int32)) hx hb dX8_load_44 (by decide) ?_
      refine lv_bipush (v := (9 : Int32)) hx hb dX8_load_45 (by decide) ?_
      obtain ⟨x8, J9, hx8_J9, hf⟩ := ob2_e hf
      refine zr_cVi (rest := []) (As := [.int (2 : Int32), .int (1 : Int32), .int (9 : Int32)]) X hP hS (ct_X8_takesInto (g := g) (nc := nc) (I := I) (J := J7) (O := O) hnJ l  hx8_J9) cw_X8_134 (zr_recv X hP (Nat.lt_of_lt_of_le (zk_306).2.1 hnJ) (zb_ceJo zk_306 (by decide)) rfl) rfl hl.1 (Nat.le_of_ble_eq_true rfl) ⟨Nat.le_of_ble_eq_true rfl, Nat.le_of_ble_eq_true rfl⟩ ⟨Nat.le_of_ble_eq_true rfl, Nat.le_of_ble_eq_true rfl⟩ dX8_load_47 rfl (fun H locs hP hS => ?_)
      refine lv_if_eq (tgt := 75) hx hb dX8_load_50 (by decide) (fun hc => ?_) (fun hc => ?_)
      · have hf := if_t hc hf
        refine lv_iconst (v := (0 : Int32)) hx hb dX8_load_75 (by decide) ?_
        cases hf
        exact K2 H locs ls hP hS (lv_sub hl [0] rfl)
      · have hf := if_f hc hf
        refine lv_aload_n hx hb dX8_load_53 rfl (lv_at hl 0 rfl) ?_
        refine lv_iconst (v := (3 : Int32)) hx hb dX8_load_54 (by decide) ?_
        refine lv_iconst (v := (1 : Int32)) hx hb dX8_load_55 (by decide) ?_
        refine lv_bipush (v := (9 : Int32)) hx hb dX8_load_56 (by decide) ?_
        obtain ⟨x10, J11, hx10_J11, hf⟩ := ob2_e hf
        refine zr_cVi (rest := []) (As := [.int (3 : Int32), .int (1 : Int32), .int (9 : Int32)]) X hP hS (ct_X8_takesInto (g := g) (nc := nc) (I := I) (J := J9) (O := O) hnJ l  hx10_J11) cw_X8_134 (zr_recv X hP (Nat.lt_of_lt_of_le (zk_306).2.1 hnJ) (zb_ceJo zk_306 (by decide)) rfl) rfl hl.1 (Nat.le_of_ble_eq_true rfl) ⟨Nat.le_of_ble_eq_true rfl, Nat.le_of_ble_eq_true rfl⟩ ⟨Nat.le_of_ble_eq_true rfl, Nat.le_of_ble_eq_true rfl⟩ dX8_load_58 rfl (fun H locs hP hS => ?_)
        refine lv_if_eq (tgt := 75) hx hb dX8_load_61 (by decide) (fun hc => ?_) (fun hc => ?_)
        · have hf := if_t hc hf
          refine lv_iconst (v := (0 : Int32)) hx hb dX8_load_75 (by decide) ?_
          cases hf
          exact K2 H locs ls hP hS (lv_sub hl [0] rfl)
        · have hf := if_f hc hf
          refine lv_aload_n hx hb dX8_load_64 rfl (lv_at hl 0 rfl) ?_
          obtain ⟨x12, J13, hx12_J13, hf⟩ := ob2_e hf
          refine zr_cVi (rest := []) (As := []) X hP hS (ct_X8_stop (g := g) (nc := nc) (I := I) (J := J11) (O := O) hnJ l  hx12_J13) cw_X8_163 (zr_recv X hP (Nat.lt_of_lt_of_le (zk_306).2.1 hnJ) (zb_ceJo zk_306 (by decide)) rfl) rfl hl.1 (Nat.le_of_ble_eq_true rfl) ⟨Nat.le_of_ble_eq_true rfl, Nat.le_of_ble_eq_true rfl⟩ ⟨Nat.le_of_ble_eq_true rfl, Nat.le_of_ble_eq_true rfl⟩ dX8_load_65 rfl (fun H locs hP hS => ?_)
          refine lv_if_eq (tgt := 75) hx hb dX8_load_68 (by decide) (fun hc => ?_) (fun hc => ?_)
          · have hf := if_t hc hf
            refine lv_iconst (v := (0 : Int32)) hx hb dX8_load_75 (by decide) ?_
            cases hf
            exact K2 H locs ls hP hS (lv_sub hl [0] rfl)
          · have hf := if_f hc hf
            refine lv_iconst (v := (1 : Int32)) hx hb dX8_load_71 (by decide) ?_
            refine lv_goto (tgt := 76) hx hb dX8_load_72 (by decide) ?_
            cases hf
            exact K2 H locs ls hP hS (lv_sub hl [0] rfl)
set_option maxHeartbeats 4000000 in
set_option maxRecDepth 100000 in
theorem lpX8_votes_L4 {g : zb_G} {nc : Nat} (hnJ : 318 ≤ nc) (l : Launch) {a1 : Int32} {I O : Mem} {p : Program} {e : Env} {s : State} {m : MethodId} {args : Array Value} {below : List Frame} {meth : Method} {c : Code} {Q : State → Prop} (X : zb_X g p m c cX8_votes 4 s args RX8 meth) : ∀ {n9 : Nat} {a3 : Int32} {a2 : Int32} {J : Mem} {z2 : Int32} {H : Heap} {locs : List Loc} {ls : Array Slot}, fX8_votes_L4 a1 n9 a3 a2 J = some z2 → (∀ (H : Heap) (locs : List Loc) (ls : Array Slot), va_P g.1 vwCl (zb_ws g nc (zb_ce g I J O)) H → va_S (zb_A g) s.heap H locs → lv_has ls 4 [(2, .int z2)] → W p l e { frames := 1, cells := 0, slots := 0, locals := 21 } s m args below meth c H locs 0 0 Q (F0 m 44 ls [])) → va_P g.1 vwCl (zb_ws g nc (zb_ce g I J O)) H → va_S (zb_A g) s.heap H locs → lv_has ls 4 [(3, .int a3), (2, .int a2), (0, .ref (g.2.2 + 306)), (1, .int a1)] → W p l e { frames := 1, cells := 0, slots := 0, locals := 21 } s m args below meth c H locs 0 0 Q (F0 m 4 ls []) := by
  have hx := X.1.1
  have hb := X.1.2.1
  have ho := X.1.2.2.2.1
  have hts := X.1.2.2.2.2
  have hZ := X.2.2.2
  intro n9
  induction n9 with
  | zero =>
    intro a3 a2 J z2 H locs ls hf
    exact nomatch hf
  | succ n9 ih =>
    intro a3 a2 J z2 H locs ls hf KK hP hS hl
    rw [fX8_votes_L4] at hf
    refine lv_iload_n hx hb dX8_votes_4 rfl (lv_at hl 0 rfl) ?_
    refine lv_aload_n hx hb dX8_votes_5 rfl (lv_at hl 2 rfl) ?_
    refine gf_X8_7 X hnJ hP zk_306 dX8_votes_6 ?_
    refine lv_iconst (v := (0 : Int32)) hx hb dX8_votes_9 (by decide) ?_
    obtain ⟨x1, hx1, hf⟩ := ob_e hf
    refine zr_aldJ X hP hnJ zk_307 hx1 dX8_votes_10 ?_
    refine lv_icmp_ge (tgt := 44) hx hb dX8_votes_11 (by decide) (fun hc => ?_) (fun hc => ?_)
    · have hf := if_t hc hf
      cases hf
      exact KK H locs ls hP hS (lv_sub hl [1] rfl)
    · have hf := if_f hc hf
      refine lv_iload_n hx hb dX8_votes_14 rfl (lv_at hl 1 rfl) ?_
      refine lv_iload_n hx hb dX8_votes_15 rfl (lv_at hl 3 rfl) ?_
      refine lv_iload_n hx hb dX8_votes_16 rfl (lv_at hl 0 rfl) ?_
      obtain ⟨x2, hx2, hf⟩ := ob_e hf
      refine zr_cSi (rest := [.int a2]) (As := [.int a1, .int a3]) X hP hS (ct_X8_has (g := g) (nc := nc) (I := I) (J := J) (O := O)  l  hx2) cw_X8_176  rfl hl.1 (Nat.le_of_ble_eq_true rfl) ⟨Nat.le_of_ble_eq_true rfl, Nat.le_of_ble_eq_true rfl⟩ ⟨Nat.le_of_ble_eq_true rfl, Nat.le_of_ble_eq_true rfl⟩ dX8_votes_17 rfl (fun H locs hP hS => ?_)
      obtain ⟨x4, ht, hf⟩ := ob_e hf
      have K1 : ∀ (H : Heap) (locs : List Loc) (ls : Array Slot), va_P g.1 vwCl (zb_ws g nc (zb_ce g I J O)) H → va_S (zb_A g) s.heap H locs → lv_has ls 4 [(3, .int a3), (0, .ref (g.2.2 + 306)), (1, .int a1)] → W p l e { frames := 1, cells := 0, slots := 0, locals := 21 } s m args below meth c H locs 0 0 Q (F0 m 36 ls [.int x4, .int a2]) := by
        intro H locs ls hP hS hl
        refine lv_iadd hx hb dX8_votes_36 ?_
        refine lv_istore_n (lv' := [(2, .int (a2 + x4)), (3, .int a3), (0, .ref (g.2.2 + 306)), (1, .int a1)]) hx hb dX8_votes_37 rfl hl (by decide) rfl (fun ls hl => ?_)
        refine lv_iinc (v := (a3 + (1 : Int32))) (lv' := [(3, .int (a3 + (1 : Int32))), (2, .int (a2 + x4)), (0, .ref (g.2.2 + 306)), (1, .int a1)]) hx hb dX8_votes_38 hl (k := 1) rfl rfl (by decide) rfl (fun ls hl => ?_)
        refine lv_goto (tgt := 4) hx hb dX8_votes_41 (by decide) ?_
        exact ih hf KK hP hS (lv_sub hl [0, 1, 2, 3] rfl)
      have hf := ht
      refine lv_if_eq (tgt := 35) hx hb dX8_votes_20 (by decide) (fun hc => ?_) (fun hc => ?_)
      · have hf := if_t hc hf
        refine lv_iconst (v := (0 : Int32)) hx hb dX8_votes_35 (by decide) ?_
        cases hf
        exact K1 H locs ls hP hS (lv_sub hl [0, 2, 3] rfl)
      · have hf := if_f hc hf
        refine lv_aload_n hx hb dX8_votes_23 rfl (lv_at hl 2 rfl) ?_
        refine gf_X8_7 X hnJ hP zk_306 dX8_votes_24 ?_
        refine lv_bipush (v := (22 : Int32)) hx hb dX8_votes_27 (by decide) ?_
        refine lv_iload_n hx hb dX8_votes_29 rfl (lv_at hl 0 rfl) ?_
        refine lv_iadd hx hb dX8_votes_30 ?_
        obtain ⟨x3, hx3, hf⟩ := ob_e hf
        refine zr_aldJ X hP hnJ zk_307 hx3 dX8_votes_31 ?_
        refine lv_goto (tgt := 36) hx hb dX8_votes_32 (by decide) ?_
        cases hf
        exact K1 H locs ls hP hS (lv_sub hl [0, 2, 3] rfl)
set_option maxHeartbeats 4000000 in
set_option maxRecDepth 100000 in
theorem ct_X8_votes {g : zb_G} {nc : Nat} (hnJ : 318 ≤ nc) (l : Launch) {a1 : Int32} {I J O : Mem} {r9 : Int32} (hf : fX8_votes a1 J = some r9) : zb_Ct l g nc yX8_votes cX8_votes 4 (some .int) 1 21 [.ref (g.2.2 + 306), .int a1] (zb_ce g I J O) (some (.int r9)) (zb_ce g I J O) := by
  refine zb_ofW (own := RX8) (by decide +kernel) rfl (Nat.le_of_ble_eq_true rfl) ?_
  intro p e s m args below meth c ls X hr hP hl
  have hx := X.1.1
  have hb := X.1.2.1
  have ho := X.1.2.2.2.1
  have hts := X.1.2.2.2.2
  have hZ := X.2.2.2
  have hl : lv_has ls 4 [(0, .ref (g.2.2 + 306)), (1, .int a1)] := hl
  have hS : va_S (zb_A g) s.heap s.heap [] := va_S.rf
  obtain ⟨H, hH⟩ : ∃ H, H = s.heap := ⟨_, rfl⟩
  obtain ⟨locs, hlocs⟩ : ∃ z : List Loc, z = [] := ⟨_, rfl⟩
  rw [← hH] at hP
  have hS : va_S (zb_A g) s.heap H locs := by rw [hH, hlocs]; exact hS
  show W p l e _ s m args below meth c s.heap [] 0 0 _ _
  rw [← hH, ← hlocs]
  rw [fX8_votes] at hf
  refine lv_iconst (v := (0 : Int32)) hx hb dX8_votes_0 (by decide) ?_
  refine lv_istore_n (lv' := [(2, .int (0 : Int32)), (0, .ref (g.2.2 + 306)), (1, .int a1)]) hx hb dX8_votes_1 rfl hl (by decide) rfl (fun ls hl => ?_)
  refine lv_iconst (v := (0 : Int32)) hx hb dX8_votes_2 (by decide) ?_
  refine lv_istore_n (lv' := [(3, .int (0 : Int32)), (2, .int (0 : Int32)), (0, .ref (g.2.2 + 306)), (1, .int a1)]) hx hb dX8_votes_3 rfl hl (by decide) rfl (fun ls hl => ?_)
  obtain ⟨x5, hx5, hf⟩ := ob_e hf
  have K2 : ∀ (H : Heap) (locs : List Loc) (ls : Array Slot), va_P g.1 vwCl (zb_ws g nc (zb_ce g I J O)) H → va_S (zb_A g) s.heap H locs → lv_has ls 4 [(2, .int x5)] → W p l e { frames := 1, cells := 0, slots := 0, locals := 21 } s m args below meth c H locs 0 0 (MQ below (zb_Po g nc (zb_ce g I J O) (some (.int r9))) args s 0 0 (zb_A g)) (F0 m 44 ls []) := by
    intro H locs ls hP hS hl
    refine lv_iload_n hx hb dX8_votes_44 rfl (lv_at hl 0 rfl) ?_
    cases hf
    exact zr_iret X hr hP hS dX8_votes_45
  exact lpX8_votes_L4 hnJ l  X hx5 K2 hP hS (lv_sub hl [0, 1, 2, 3] rfl)
set_option maxHeartbeats 4000000 in
set_option maxRecDepth 100000 in
theorem lpX8_votesUpTo_L5 {g : zb_G} {nc : Nat} (hnJ : 318 ≤ nc) (l : Launch) {a1 : Int32} {a2 : Int32} {I O : Mem} {p : Program} {e : Env} {s : State} {m : MethodId} {args : Array Value} {below : List Frame} {meth : Method} {c : Code} {Q : State → Prop} (X : zb_X g p m c cX8_votesUpTo 5 s args RX8 meth) : ∀ {n9 : Nat} {a4 : Int32} {a3 : Int32} {J : Mem} {z3 : Int32} {H : Heap} {locs : List Loc} {ls : Array Slot}, fX8_votesUpTo_L5 a1 a2 n9 a4 a3 J = some z3 → (∀ (H : Heap) (locs : List Loc) (ls : Array Slot), va_P g.1 vwCl (zb_ws g nc (zb_ce g I J O)) H → va_S (zb_A g) s.heap H locs → lv_has ls 5 [(3, .int z3)] → W p l e { frames := 1, cells := 0, slots := 0, locals := 21 } s m args below meth c H locs 0 0 Q (F0 m 59 ls [])) → va_P g.1 vwCl (zb_ws g nc (zb_ce g I J O)) H → va_S (zb_A g) s.heap H locs → lv_has ls 5 [(4, .int a4), (3, .int a3), (0, .ref (g.2.2 + 306)), (1, .int a1), (2, .int a2)] → W p l e { frames := 1, cells := 0, slots := 0, locals := 21 } s m args below meth c H locs 0 0 Q (F0 m 5 ls []) := by
  have hx := X.1.1
  have hb := X.1.2.1
  have ho := X.1.2.2.2.1
  have hts := X.1.2.2.2.2
  have hZ := X.2.2.2
  intro n9
  induction n9 with
  | zero =>
    intro a4 a3 J z3 H locs ls hf
    exact nomatch hf
  | succ n9 ih =>
    intro a4 a3 J z3 H locs ls hf KK hP hS hl
    rw [fX8_votesUpTo_L5] at hf
    refine lv_iload hx hb dX8_votesUpTo_5 (lv_at hl 0 rfl) ?_
    refine lv_aload_n hx hb dX8_votesUpTo_7 rfl (lv_at hl 2 rfl) ?_
    refine gf_X8_7 X hnJ hP zk_306 dX8_votesUpTo_8 ?_
    refine lv_iconst (v := (0 : Int32)) hx hb dX8_votesUpTo_11 (by decide) ?_
    obtain ⟨x1, hx1, hf⟩ := ob_e hf
    refine zr_aldJ X hP hnJ zk_307 hx1 dX8_votesUpTo_12 ?_
    refine lv_icmp_ge (tgt := 59) hx hb dX8_votesUpTo_13 (by decide) (fun hc => ?_) (fun hc => ?_)
    · have hf := if_t hc hf
      cases hf
      exact KK H locs ls hP hS (lv_sub hl [1] rfl)
    · have hf := if_f hc hf
      refine lv_iload_n hx hb dX8_votesUpTo_16 rfl (lv_at hl 1 rfl) ?_
      refine lv_iload_n hx hb dX8_votesUpTo_17 rfl (lv_at hl 3 rfl) ?_
      refine lv_iload hx hb dX8_votesUpTo_18 (lv_at hl 0 rfl) ?_
      obtain ⟨x2, hx2, hf⟩ := ob_e hf
      refine zr_cSi (rest := [.int a3]) (As := [.int a1, .int a4]) X hP hS (ct_X8_has (g := g) (nc := nc) (I := I) (J := J) (O := O)  l  hx2) cw_X8_176  rfl hl.1 (Nat.le_of_ble_eq_true rfl) ⟨Nat.le_of_ble_eq_true rfl, Nat.le_of_ble_eq_true rfl⟩ ⟨Nat.le_of_ble_eq_true rfl, Nat.le_of_ble_eq_true rfl⟩ dX8_votesUpTo_20 rfl (fun H locs hP hS => ?_)
      obtain ⟨x5, ht, hf⟩ := ob_e hf
      have K1 : ∀ (H : Heap) (locs : List Loc) (ls : Array Slot), va_P g.1 vwCl (zb_ws g nc (zb_ce g I J O)) H → va_S (zb_A g) s.heap H locs → lv_has ls 5 [(4, .int a4), (0, .ref (g.2.2 + 306)), (1, .int a1), (2, .int a2)] → W p l e { frames := 1, cells := 0, slots := 0, locals := 21 } s m args below meth c H locs 0 0 Q (F0 m 51 ls [.int x5, .int a3]) := by
        intro H locs ls hP hS hl
        refine lv_iadd hx hb dX8_votesUpTo_51 ?_
        refine lv_istore_n (lv' := [(3, .int (a3 + x5)), (4, .int a4), (0, .ref (g.2.2 + 306)), (1, .int a1), (2, .int a2)]) hx hb dX8_votesUpTo_52 rfl hl (by decide) rfl (fun ls hl => ?_)
        refine lv_iinc (v := (a4 + (1 : Int32))) (lv' := [(4, .int (a4 + (1 : Int32))), (3, .int (a3 + x5)), (0, .ref (g.2.2 + 306)), (1, .int a1), (2, .int a2)]) hx hb dX8_votesUpTo_53 hl (k := 1) rfl rfl (by decide) rfl (fun ls hl => ?_)
        refine lv_goto (tgt := 5) hx hb dX8_votesUpTo_56 (by decide) ?_
        exact ih hf KK hP hS (lv_sub hl [0, 1, 2, 3, 4] rfl)
      have hf := ht
      refine lv_if_eq (tgt := 50) hx hb dX8_votesUpTo_23 (by decide) (fun hc => ?_) (fun hc => ?_)
      · have hf := if_t hc hf
        refine lv_iconst (v := (0 : Int32)) hx hb dX8_votesUpTo_50 (by decide) ?_
        cases hf
        exact K1 H locs ls hP hS (lv_sub hl [0, 2, 3, 4] rfl)
      · have hf := if_f hc hf
        refine lv_aload_n hx hb dX8_votesUpTo_26 rfl (lv_at hl 2 rfl) ?_
        refine gf_X8_40 X hnJ hP zk_306 dX8_votesUpTo_27 ?_
        refine lv_iload hx hb dX8_votesUpTo_30 (lv_at hl 0 rfl) ?_
        obtain ⟨x3, hx3, hf⟩ := ob_e hf
        refine zr_aldJ X hP hnJ zk_315 hx3 dX8_votesUpTo_32 ?_
        refine lv_iload_n hx hb dX8_votesUpTo_33 rfl (lv_at hl 4 rfl) ?_
        refine lv_icmp_gt (tgt := 50) hx hb dX8_votesUpTo_34 (by decide) (fun hc => ?_) (fun hc => ?_)
        · have hf := if_t hc hf
          refine lv_iconst (v := (0 : Int32)) hx hb dX8_votesUpTo_50 (by decide) ?_
          cases hf
          exact K1 H locs ls hP hS (lv_sub hl [0, 2, 3, 4] rfl)
        · have hf := if_f hc hf
          refine lv_aload_n hx hb dX8_votesUpTo_37 rfl (lv_at hl 2 rfl) ?_
          refine gf_X8_7 X hnJ hP zk_306 dX8_votesUpTo_38 ?_
          refine lv_bipush (v := (22 : Int32)) hx hb dX8_votesUpTo_41 (by decide) ?_
          refine lv_iload hx hb dX8_votesUpTo_43 (lv_at hl 0 rfl) ?_
          refine lv_iadd hx hb dX8_votesUpTo_45 ?_
          obtain ⟨x4, hx4, hf⟩ := ob_e hf
          refine zr_aldJ X hP hnJ zk_307 hx4 dX8_votesUpTo_46 ?_
          refine lv_goto (tgt := 51) hx hb dX8_votesUpTo_47 (by decide) ?_
          cases hf
          exact K1 H locs ls hP hS (lv_sub hl [0, 2, 3, 4] rfl)
set_option maxHeartbeats 4000000 in
set_option maxRecDepth 100000 in
theorem ct_X8_votesUpTo {g : zb_G} {nc : Nat} (hnJ : 318 ≤ nc) (l : Launch) {a1 : Int32} {a2 : Int32} {I J O : Mem} {r9 : Int32} (hf : fX8_votesUpTo a1 a2 J = some r9) : zb_Ct l g nc yX8_votesUpTo cX8_votesUpTo 5 (some .int) 1 21 [.ref (g.2.2 + 306), .int a1, .int a2] (zb_ce g I J O) (some (.int r9)) (zb_ce g I J O) := by
  refine zb_ofW (own := RX8) (by decide +kernel) rfl (Nat.le_of_ble_eq_true rfl) ?_
  intro p e s m args below meth c ls X hr hP hl
  have hx := X.1.1
  have hb := X.1.2.1
  have ho := X.1.2.2.2.1
  have hts := X.1.2.2.2.2
  have hZ := X.2.2.2
  have hl : lv_has ls 5 [(0, .ref (g.2.2 + 306)), (1, .int a1), (2, .int a2)] := hl
  have hS : va_S (zb_A g) s.heap s.heap [] := va_S.rf
  obtain ⟨H, hH⟩ : ∃ H, H = s.heap := ⟨_, rfl⟩
  obtain ⟨locs, hlocs⟩ : ∃ z : List Loc, z = [] := ⟨_, rfl⟩
  rw [← hH] at hP
  have hS : va_S (zb_A g) s.heap H locs := by rw [hH, hlocs]; exact hS
  show W p l e _ s m args below meth c s.heap [] 0 0 _ _
  rw [← hH, ← hlocs]
  rw [fX8_votesUpTo] at hf
  refine lv_iconst (v := (0 : Int32)) hx hb dX8_votesUpTo_0 (by decide) ?_
  refine lv_istore_n (lv' := [(3, .int (0 : Int32)), (0, .ref (g.2.2 + 306)), (1, .int a1), (2, .int a2)]) hx hb dX8_votesUpTo_1 rfl hl (by decide) rfl (fun ls hl => ?_)
  refine lv_iconst (v := (0 : Int32)) hx hb dX8_votesUpTo_2 (by decide) ?_
  refine lv_istore (lv' := [(4, .int (0 : Int32)), (3, .int (0 : Int32)), (0, .ref (g.2.2 + 306)), (1, .int a1), (2, .int a2)]) hx hb dX8_votesUpTo_3 hl (by decide) rfl (fun ls hl => ?_)
  obtain ⟨x6, hx6, hf⟩ := ob_e hf
  have K2 : ∀ (H : Heap) (locs : List Loc) (ls : Array Slot), va_P g.1 vwCl (zb_ws g nc (zb_ce g I J O)) H → va_S (zb_A g) s.heap H locs → lv_has ls 5 [(3, .int x6)] → W p l e { frames := 1, cells := 0, slots := 0, locals := 21 } s m args below meth c H locs 0 0 (MQ below (zb_Po g nc (zb_ce g I J O) (some (.int r9))) args s 0 0 (zb_A g)) (F0 m 59 ls []) := by
    intro H locs ls hP hS hl
    refine lv_iload_n hx hb dX8_votesUpTo_59 rfl (lv_at hl 0 rfl) ?_
    cases hf
    exact zr_iret X hr hP hS dX8_votesUpTo_60
  exact lpX8_votesUpTo_L5 hnJ l  X hx6 K2 hP hS (lv_sub hl [0, 1, 2, 3, 4] rfl)
set_option maxHeartbeats 4000000 in
set_option maxRecDepth 100000 in
theorem ct_X8_floor {g : zb_G} {nc : Nat} (l : Launch) {a0 : Int32} {a1 : Int32} {I J O : Mem} {r9 : Int32} (hf : fX8_floor a0 a1 = some r9) : zb_Ct l g nc yX8_floor cX8_floor 3 (some .int) 0 0 [.int a0, .int a1] (zb_ce g I J O) (some (.int r9)) (zb_ce g I J O) := by
  refine zb_ofW (own := RX8) (by decide +kernel) rfl (Nat.le_of_ble_eq_true rfl) ?_
  intro p e s m args below meth c ls X hr hP hl
  have hx := X.1.1
  have hb := X.1.2.1
  have ho := X.1.2.2.2.1
  have hts := X.1.2.2.2.2
  have hZ := X.2.2.2
  have hl : lv_has ls 3 [(0, .int a0), (1, .int a1)] := hl
  have hS : va_S (zb_A g) s.heap s.heap [] := va_S.rf
  obtain ⟨H, hH⟩ : ∃ H, H = s.heap := ⟨_, rfl⟩
  obtain ⟨locs, hlocs⟩ : ∃ z : List Loc, z = [] := ⟨_, rfl⟩
  rw [← hH] at hP
  have hS : va_S (zb_A g) s.heap H locs := by rw [hH, hlocs]; exact hS
  show W p l e _ s m args below meth c s.heap [] 0 0 _ _
  rw [← hH, ← hlocs]
  rw [fX8_floor] at hf
  refine lv_iload_n hx hb dX8_floor_0 rfl (lv_at hl 0 rfl) ?_
  refine lv_iload_n hx hb dX8_floor_1 rfl (lv_at hl 1 rfl) ?_
  obtain ⟨x1, hx1, hf⟩ := ob_e hf
  refine zr_idiv X hx1 dX8_floor_2 ?_
  refine lv_istore_n (lv' := [(2, .int x1), (0, .int a0), (1, .int a1)]) hx hb dX8_floor_3 rfl hl (by decide) rfl (fun ls hl => ?_)
  refine lv_iload_n hx hb dX8_floor_4 rfl (lv_at hl 1 rfl) ?_
  refine lv_iload_n hx hb dX8_floor_5 rfl (lv_at hl 2 rfl) ?_
  obtain ⟨x2, hx2, hf⟩ := ob_e hf
  refine zr_irem X hx2 dX8_floor_6 ?_
  obtain ⟨x3, ht, hf⟩ := pl_e hf
  have K1 : ∀ (H : Heap) (locs : List Loc) (ls : Array Slot), va_P g.1 vwCl (zb_ws g nc (zb_ce g I J O)) H → va_S (zb_A g) s.heap H locs → lv_has ls 3 [] → W p l e { frames := 0, cells := 0, slots := 0, locals := 0 } s m args below meth c H locs 0 0 (MQ below (zb_Po g nc (zb_ce g I J O) (some (.int r9))) args s 0 0 (zb_A g)) (F0 m 17 ls [.int x3]) := by
    intro H locs ls hP hS hl
    cases hf
    exact zr_iret X hr hP hS dX8_floor_17
  have hf := ht
  refine lv_if_ge (tgt := 16) hx hb dX8_floor_7 (by decide) (fun hc => ?_) (fun hc => ?_)
  · have hf := if_t hc hf
    refine lv_iload_n hx hb dX8_floor_16 rfl (lv_at hl 0 rfl) ?_
    cases hf
    exact K1 H locs ls hP hS (lv_sub hl [] rfl)
  · have hf := if_f hc hf
    refine lv_iload_n hx hb dX8_floor_10 rfl (lv_at hl 0 rfl) ?_
    refine lv_iconst (v := (1 : Int32)) hx hb dX8_floor_11 (by decide) ?_
    refine lv_isub hx hb dX8_floor_12 ?_
    refine lv_goto (tgt := 17) hx hb dX8_floor_13 (by decide) ?_
    cases hf
    exact K1 H locs ls hP hS (lv_sub hl [] rfl)
set_option maxHeartbeats 4000000 in
set_option maxRecDepth 100000 in
theorem lpX8_tells_L32 {g : zb_G} {nc : Nat} (hnJ : 318 ≤ nc) (l : Launch) {a2 : Int32} {a1 : Int32} {I O : Mem} {p : Program} {e : Env} {s : State} {m : MethodId} {args : Array Value} {below : List Frame} {meth : Method} {c : Code} {Q : State → Prop} (X : zb_X g p m c cX8_tells 6 s args RX8 meth) : ∀ {n9 : Nat} {a4 : Int32} {a3 : Int32} {J : Mem} {z3 : Int32} {H : Heap} {locs : List Loc} {ls : Array Slot}, fX8_tells_L32 a2 a1 n9 a4 a3 J = some z3 → (∀ (H : Heap) (locs : List Loc) (ls : Array Slot), va_P g.1 vwCl (zb_ws g nc (zb_ce g I J O)) H → va_S (zb_A g) s.heap H locs → lv_has ls 6 [(3, .int z3), (2, .int a2), (0, .ref (g.2.2 + 306)), (1, .int a1)] → W p l e { frames := 2, cells := 0, slots := 0, locals := 45 } s m args below meth c H locs 0 0 Q (F0 m 95 ls [])) → va_P g.1 vwCl (zb_ws g nc (zb_ce g I J O)) H → va_S (zb_A g) s.heap H locs → lv_has ls 6 [(4, .int a4), (3, .int a3), (2, .int a2), (0, .ref (g.2.2 + 306)), (1, .int a1)] → W p l e { frames := 2, cells := 0, slots := 0, locals := 45 } s m args below meth c H locs 0 0 Q (F0 m 32 ls []) := by
  have hx := X.1.1
  have hb := X.1.2.1
  have ho := X.1.2.2.2.1
  have hts := X.1.2.2.2.2
  have hZ := X.2.2.2
  intro n9
  induction n9 with
  | zero =>
    intro a4 a3 J z3 H locs ls hf
    exact nomatch hf
  | succ n9 ih =>
    intro a4 a3 J z3 H locs ls hf KK hP hS hl
    rw [fX8_tells_L32] at hf
    refine lv_iload hx hb dX8_tells_32 (lv_at hl 0 rfl) ?_
    refine lv_aload_n hx hb dX8_tells_34 rfl (lv_at hl 3 rfl) ?_
    refine gf_X8_7 X hnJ hP zk_306 dX8_tells_35 ?_
    refine lv_iconst (v := (0 : Int32)) hx hb dX8_tells_38 (by decide) ?_
    obtain ⟨x3, hx3, hf⟩ := ob_e hf
    refine zr_aldJ X hP hnJ zk_307 hx3 dX8_tells_39 ?_
    refine lv_icmp_ge (tgt := 95) hx hb dX8_tells_40 (by decide) (fun hc => ?_) (fun hc => ?_)
    · have hf := if_t hc hf
      cases hf
      exact KK H locs ls hP hS (lv_sub hl [1, 2, 3, 4] rfl)
    · have hf := if_f hc hf
      refine lv_iload_n hx hb dX8_tells_43 rfl (lv_at hl 4 rfl) ?_
      refine lv_iload hx hb dX8_tells_44 (lv_at hl 0 rfl) ?_
      obtain ⟨x4, hx4, hf⟩ := ob_e hf
      refine zr_cSi (rest := []) (As := [.int a1, .int a4]) X hP hS (ct_X8_has (g := g) (nc := nc) (I := I) (J := J) (O := O)  l  hx4) cw_X8_176  rfl hl.1 (Nat.le_of_ble_eq_true rfl) ⟨Nat.le_of_ble_eq_true rfl, Nat.le_of_ble_eq_true rfl⟩ ⟨Nat.le_of_ble_eq_true rfl, Nat.le_of_ble_eq_true rfl⟩ dX8_tells_46 rfl (fun H locs hP hS => ?_)
      obtain ⟨x9, ht, hf⟩ := ob_e hf
      have K1 : ∀ (H : Heap) (locs : List Loc) (ls : Array Slot), va_P g.1 vwCl (zb_ws g nc (zb_ce g I J O)) H → va_S (zb_A g) s.heap H locs → lv_has ls 6 [(4, .int a4), (3, .int x9), (2, .int a2), (0, .ref (g.2.2 + 306)), (1, .int a1)] → W p l e { frames := 2, cells := 0, slots := 0, locals := 45 } s m args below meth c H locs 0 0 Q (F0 m 89 ls []) := by
        intro H locs ls hP hS hl
        refine lv_iinc (v := (a4 + (1 : Int32))) (lv' := [(4, .int (a4 + (1 : Int32))), (3, .int x9), (2, .int a2), (0, .ref (g.2.2 + 306)), (1, .int a1)]) hx hb dX8_tells_89 hl (k := 0) rfl rfl (by decide) rfl (fun ls hl => ?_)
        refine lv_goto (tgt := 32) hx hb dX8_tells_92 (by decide) ?_
        exact ih hf KK hP hS (lv_sub hl [0, 1, 2, 3, 4] rfl)
      have hf := ht
      refine lv_if_eq (tgt := 89) hx hb dX8_tells_49 (by decide) (fun hc => ?_) (fun hc => ?_)
      · have hf := if_t hc hf
        cases hf
        exact K1 H locs ls hP hS (lv_sub hl [0, 1, 2, 3, 4] rfl)
      · have hf := if_f hc hf
        refine lv_aload_n hx hb dX8_tells_52 rfl (lv_at hl 3 rfl) ?_
        refine gf_X8_40 X hnJ hP zk_306 dX8_tells_53 ?_
        refine lv_iload hx hb dX8_tells_56 (lv_at hl 0 rfl) ?_
        obtain ⟨x5, hx5, hf⟩ := ob_e hf
        refine zr_aldJ X hP hnJ zk_315 hx5 dX8_tells_58 ?_
        refine lv_iload_n hx hb dX8_tells_59 rfl (lv_at hl 1 rfl) ?_
        refine lv_icmp_ge (tgt := 89) hx hb dX8_tells_60 (by decide) (fun hc => ?_) (fun hc => ?_)
        · have hf := if_t hc hf
          cases hf
          exact K1 H locs ls hP hS (lv_sub hl [0, 1, 2, 3, 4] rfl)
        · have hf := if_f hc hf
          refine lv_iconst (v := (2 : Int32)) hx hb dX8_tells_63 (by decide) ?_
          refine lv_aload_n hx hb dX8_tells_64 rfl (lv_at hl 3 rfl) ?_
          refine lv_iload_n hx hb dX8_tells_65 rfl (lv_at hl 4 rfl) ?_
          refine lv_aload_n hx hb dX8_tells_66 rfl (lv_at hl 3 rfl) ?_
          refine gf_X8_40 X hnJ hP zk_306 dX8_tells_67 ?_
          refine lv_iload hx hb dX8_tells_70 (lv_at hl 0 rfl) ?_
          obtain ⟨x6, hx6, hf⟩ := ob_e hf
          refine zr_aldJ X hP hnJ zk_315 hx6 dX8_tells_72 ?_
          obtain ⟨x7, hx7, hf⟩ := ob_e hf
          refine zr_cVi (rest := [.int (2 : Int32)]) (As := [.int a1, .int x6]) X hP hS (ct_X8_votesUpTo (g := g) (nc := nc) (I := I) (J := J) (O := O) hnJ l  hx7) cw_X8_193 (zr_recv X hP (Nat.lt_of_lt_of_le (zk_306).2.1 hnJ) (zb_ceJo zk_306 (by decide)) rfl) rfl hl.1 (Nat.le_of_ble_eq_true rfl) ⟨Nat.le_of_ble_eq_true rfl, Nat.le_of_ble_eq_true rfl⟩ ⟨Nat.le_of_ble_eq_true rfl, Nat.le_of_ble_eq_true rfl⟩ dX8_tells_73 rfl (fun H locs hP hS => ?_)
          refine lv_imul hx hb dX8_tells_76 ?_
          refine lv_iload_n hx hb dX8_tells_77 rfl (lv_at hl 2 rfl) ?_
          refine lv_icmp_lt (tgt := 89) hx hb dX8_tells_78 (by decide) (fun hc => ?_) (fun hc => ?_)
          · have hf := if_t hc hf
            cases hf
            exact K1 H locs ls hP hS (lv_sub hl [0, 1, 2, 3, 4] rfl)
          · have hf := if_f hc hf
            refine lv_aload_n hx hb dX8_tells_81 rfl (lv_at hl 3 rfl) ?_
            refine gf_X8_40 X hnJ hP zk_306 dX8_tells_82 ?_
            refine lv_iload hx hb dX8_tells_85 (lv_at hl 0 rfl) ?_
            obtain ⟨x8, hx8, hf⟩ := ob_e hf
            refine zr_aldJ X hP hnJ zk_315 hx8 dX8_tells_87 ?_
            refine lv_istore_n (lv' := [(3, .int x8), (4, .int a4), (2, .int a2), (0, .ref (g.2.2 + 306)), (1, .int a1)]) hx hb dX8_tells_88 rfl hl (by decide) rfl (fun ls hl => ?_)
            cases hf
            exact K1 H locs ls hP hS (lv_sub hl [1, 0, 2, 3, 4] rfl)
set_option maxHeartbeats 4000000 in
set_option maxRecDepth 100000 in
theorem lpX8_tells_L101 {g : zb_G} {nc : Nat} (hnJ : 318 ≤ nc) (l : Launch) {a3 : Int32} {a2 : Int32} {a1 : Int32} {I O : Mem} {p : Program} {e : Env} {s : State} {m : MethodId} {args : Array Value} {below : List Frame} {meth : Method} {c : Code} {Q : State → Prop} (X : zb_X g p m c cX8_tells 6 s args RX8 meth) : ∀ {n9 : Nat} {a5 : Int32} {a4 : Int32} {J : Mem} {z4 : Int32} {Jz : Mem} {H : Heap} {locs : List Loc} {ls : Array Slot}, fX8_tells_L101 a3 a2 a1 n9 a5 a4 J = some (z4, Jz) → (∀ (H : Heap) (locs : List Loc) (ls : Array Slot), va_P g.1 vwCl (zb_ws g nc (zb_ce g I Jz O)) H → va_S (zb_A g) s.heap H locs → lv_has ls 6 [(4, .int z4), (2, .int a2), (0, .ref (g.2.2 + 306))] → W p l e { frames := 2, cells := 0, slots := 0, locals := 45 } s m args below meth c H locs 0 0 Q (F0 m 183 ls [])) → va_P g.1 vwCl (zb_ws g nc (zb_ce g I J O)) H → va_S (zb_A g) s.heap H locs → lv_has ls 6 [(5, .int a5), (4, .int a4), (3, .int a3), (2, .int a2), (0, .ref (g.2.2 + 306)), (1, .int a1)] → W p l e { frames := 2, cells := 0, slots := 0, locals := 45 } s m args below meth c H locs 0 0 Q (F0 m 101 ls []) := by
  have hx := X.1.1
  have hb := X.1.2.1
  have ho := X.1.2.2.2.1
  have hts := X.1.2.2.2.2
  have hZ := X.2.2.2
  intro n9
  induction n9 with
  | zero =>
    intro a5 a4 J z4 Jz H locs ls hf
    exact nomatch hf
  | succ n9 ih =>
    intro a5 a4 J z4 Jz H locs ls hf KK hP hS hl
    rw [fX8_tells_L101] at hf
    refine lv_iload hx hb dX8_tells_101 (lv_at hl 0 rfl) ?_
    refine lv_aload_n hx hb dX8_tells_103 rfl (lv_at hl 4 rfl) ?_
    refine gf_X8_7 X hnJ hP zk_306 dX8_tells_104 ?_
    refine lv_iconst (v := (0 : Int32)) hx hb dX8_tells_107 (by decide) ?_
    obtain ⟨x11, hx11, hf⟩ := ob_e hf
    refine zr_aldJ X hP hnJ zk_307 hx11 dX8_tells_108 ?_
    refine lv_icmp_ge (tgt := 183) hx hb dX8_tells_109 (by decide) (fun hc => ?_) (fun hc => ?_)
    · have hf := if_t hc hf
      cases hf
      exact KK H locs ls hP hS (lv_sub hl [1, 3, 4] rfl)
    · have hf := if_f hc hf
      refine lv_iload_n hx hb dX8_tells_112 rfl (lv_at hl 5 rfl) ?_
      refine lv_iload hx hb dX8_tells_113 (lv_at hl 0 rfl) ?_
      obtain ⟨x12, hx12, hf⟩ := ob_e hf
      refine zr_cSi (rest := []) (As := [.int a1, .int a5]) X hP hS (ct_X8_has (g := g) (nc := nc) (I := I) (J := J) (O := O)  l  hx12) cw_X8_176  rfl hl.1 (Nat.le_of_ble_eq_true rfl) ⟨Nat.le_of_ble_eq_true rfl, Nat.le_of_ble_eq_true rfl⟩ ⟨Nat.le_of_ble_eq_true rfl, Nat.le_of_ble_eq_true rfl⟩ dX8_tells_115 rfl (fun H locs hP hS => ?_)
      obtain ⟨x18, J19, ht, hf⟩ := ob2_e hf
      have K2 : ∀ (H : Heap) (locs : List Loc) (ls : Array Slot), va_P g.1 vwCl (zb_ws g nc (zb_ce g I J19 O)) H → va_S (zb_A g) s.heap H locs → lv_has ls 6 [(5, .int a5), (4, .int x18), (3, .int a3), (2, .int a2), (0, .ref (g.2.2 + 306)), (1, .int a1)] → W p l e { frames := 2, cells := 0, slots := 0, locals := 45 } s m args below meth c H locs 0 0 Q (F0 m 177 ls []) := by
        intro H locs ls hP hS hl
        refine lv_iinc (v := (a5 + (1 : Int32))) (lv' := [(5, .int (a5 + (1 : Int32))), (4, .int x18), (3, .int a3), (2, .int a2), (0, .ref (g.2.2 + 306)), (1, .int a1)]) hx hb dX8_tells_177 hl (k := 0) rfl rfl (by decide) rfl (fun ls hl => ?_)
        refine lv_goto (tgt := 101) hx hb dX8_tells_180 (by decide) ?_
        exact ih hf KK hP hS (lv_sub hl [0, 1, 2, 3, 4, 5] rfl)
      have hf := ht
      refine lv_if_eq (tgt := 177) hx hb dX8_tells_118 (by decide) (fun hc => ?_) (fun hc => ?_)
      · have hf := if_t hc hf
        cases hf
        exact K2 H locs ls hP hS (lv_sub hl [0, 1, 2, 3, 4, 5] rfl)
      · have hf := if_f hc hf
        refine lv_aload_n hx hb dX8_tells_121 rfl (lv_at hl 4 rfl) ?_
        refine gf_X8_40 X hnJ hP zk_306 dX8_tells_122 ?_
        refine lv_iload hx hb dX8_tells_125 (lv_at hl 0 rfl) ?_
        obtain ⟨x13, hx13, hf⟩ := ob_e hf
        refine zr_aldJ X hP hnJ zk_315 hx13 dX8_tells_127 ?_
        refine lv_iload_n hx hb dX8_tells_128 rfl (lv_at hl 2 rfl) ?_
        obtain ⟨x14, hx14, hf⟩ := ob_e hf
        refine zr_cSi (rest := []) (As := [.int x13, .int a3]) X hP hS (ct_X8_off (g := g) (nc := nc) (I := I) (J := J) (O := O)  l  hx14) cw_X8_197  rfl hl.1 (Nat.le_of_ble_eq_true rfl) ⟨Nat.le_of_ble_eq_true rfl, Nat.le_of_ble_eq_true rfl⟩ ⟨Nat.le_of_ble_eq_true rfl, Nat.le_of_ble_eq_true rfl⟩ dX8_tells_129 rfl (fun H locs hP hS => ?_)
        refine lv_aload_n hx hb dX8_tells_132 rfl (lv_at hl 4 rfl) ?_
        refine gf_X8_7 X hnJ hP zk_306 dX8_tells_133 ?_
        refine lv_iconst (v := (1 : Int32)) hx hb dX8_tells_136 (by decide) ?_
        obtain ⟨x15, hx15, hf⟩ := ob_e hf
        refine zr_aldJ X hP hnJ zk_307 hx15 dX8_tells_137 ?_
        refine lv_icmp_gt (tgt := 177) hx hb dX8_tells_138 (by decide) (fun hc => ?_) (fun hc => ?_)
        · have hf := if_t hc hf
          cases hf
          exact K2 H locs ls hP hS (lv_sub hl [0, 1, 2, 3, 4, 5] rfl)
        · have hf := if_f hc hf
          refine lv_aload_n hx hb dX8_tells_141 rfl (lv_at hl 4 rfl) ?_
          refine lv_dup hx hb dX8_tells_142 rfl ?_
          refine gf_X8_182 X hnJ hP zk_306 dX8_tells_143 ?_
          refine lv_iconst (v := (1 : Int32)) hx hb dX8_tells_146 (by decide) ?_
          refine lv_iload hx hb dX8_tells_147 (lv_at hl 0 rfl) ?_
          refine lv_ishl hx hb dX8_tells_149 ?_
          refine lv_ior hx hb dX8_tells_150 ?_
          refine pf_X8_182 X hnJ hP hS zk_306 dX8_tells_151 (fun H locs hP hS => ?_)
          refine lv_iload hx hb dX8_tells_154 (lv_at hl 1 rfl) ?_
          refine lv_aload_n hx hb dX8_tells_156 rfl (lv_at hl 4 rfl) ?_
          refine gf_X8_7 X hnJ hP zk_306 dX8_tells_157 ?_
          refine lv_bipush (v := (22 : Int32)) hx hb dX8_tells_160 (by decide) ?_
          refine lv_iload hx hb dX8_tells_162 (lv_at hl 0 rfl) ?_
          refine lv_iadd hx hb dX8_tells_164 ?_
          obtain ⟨x16, hx16, hf⟩ := ob_e hf
          refine zr_aldJ X hP hnJ zk_307 hx16 dX8_tells_165 ?_
          refine lv_aload_n hx hb dX8_tells_166 rfl (lv_at hl 4 rfl) ?_
          refine gf_X8_40 X hnJ hP zk_306 dX8_tells_167 ?_
          refine lv_iload hx hb dX8_tells_170 (lv_at hl 0 rfl) ?_
          obtain ⟨x17, hx17, hf⟩ := ob_e hf
          refine zr_aldJ X hP hnJ zk_315 hx17 dX8_tells_172 ?_
          refine lv_imul hx hb dX8_tells_173 ?_
          refine lv_iadd hx hb dX8_tells_174 ?_
          refine lv_istore (lv' := [(4, .int (a4 + (x16 * x17))), (5, .int a5), (3, .int a3), (2, .int a2), (0, .ref (g.2.2 + 306)), (1, .int a1)]) hx hb dX8_tells_175 hl (by decide) rfl (fun ls hl => ?_)
          cases hf
          exact K2 H locs ls hP hS (lv_sub hl [1, 0, 2, 3, 4, 5] rfl)
set_option maxHeartbeats 4000000 in
set_option maxRecDepth 100000 in
theorem ct_X8_tells {g : zb_G} {nc : Nat} (hnJ : 318 ≤ nc) (l : Launch) {a1 : Int32} {I J O : Mem} {Jq : Mem} (hf : fX8_tells a1 J = some Jq) : zb_Ct l g nc yX8_tells cX8_tells 6 none 2 45 [.ref (g.2.2 + 306), .int a1] (zb_ce g I J O) none (zb_ce g I Jq O) := by
  refine zb_ofW (own := RX8) (by decide +kernel) rfl (Nat.le_of_ble_eq_true rfl) ?_
  intro p e s m args below meth c ls X hr hP hl
  have hx := X.1.1
  have hb := X.1.2.1
  have ho := X.1.2.2.2.1
  have hts := X.1.2.2.2.2
  have hZ := X.2.2.2
  have hl : lv_has ls 6 [(0, .ref (g.2.2 + 306)), (1, .int a1)] := hl
  have hS : va_S (zb_A g) s.heap s.heap [] := va_S.rf
  obtain ⟨H, hH⟩ : ∃ H, H = s.heap := ⟨_, rfl⟩
  obtain ⟨locs, hlocs⟩ : ∃ z : List Loc, z = [] := ⟨_, rfl⟩
  rw [← hH] at hP
  have hS : va_S (zb_A g) s.heap H locs := by rw [hH, hlocs]; exact hS
  show W p l e _ s m args below meth c s.heap [] 0 0 _ _
  rw [← hH, ← hlocs]
  rw [fX8_tells] at hf
  refine lv_aload_n hx hb dX8_tells_0 rfl (lv_at hl 0 rfl) ?_
  refine lv_iload_n hx hb dX8_tells_1 rfl (lv_at hl 1 rfl) ?_
  obtain ⟨x1, hx1, hf⟩ := ob_e hf
  refine zr_cVi (rest := []) (As := [.int a1]) X hP hS (ct_X8_votes (g := g) (nc := nc) (I := I) (J := J) (O := O) hnJ l  hx1) cw_X8_179 (zr_recv X hP (Nat.lt_of_lt_of_le (zk_306).2.1 hnJ) (zb_ceJo zk_306 (by decide)) rfl) rfl hl.1 (Nat.le_of_ble_eq_true rfl) ⟨Nat.le_of_ble_eq_true rfl, Nat.le_of_ble_eq_true rfl⟩ ⟨Nat.le_of_ble_eq_true rfl, Nat.le_of_ble_eq_true rfl⟩ dX8_tells_2 rfl (fun H locs hP hS => ?_)
  refine lv_istore_n (lv' := [(2, .int x1), (0, .ref (g.2.2 + 306)), (1, .int a1)]) hx hb dX8_tells_5 rfl hl (by decide) rfl (fun ls hl => ?_)
  refine lv_aload_n hx hb dX8_tells_6 rfl (lv_at hl 1 rfl) ?_
  refine lv_iconst (v := (0 : Int32)) hx hb dX8_tells_7 (by decide) ?_
  refine pf_X8_182 X hnJ hP hS zk_306 dX8_tells_8 (fun H locs hP hS => ?_)
  refine lv_aload_n hx hb dX8_tells_11 rfl (lv_at hl 1 rfl) ?_
  refine lv_iconst (v := (0 : Int32)) hx hb dX8_tells_12 (by decide) ?_
  obtain ⟨J2, hJ2, hf⟩ := ob_e hf
  refine pf_X8_185 X hnJ hP hS zk_306 hJ2 dX8_tells_13 (fun H locs hP hS => ?_)
  refine lv_aload_n hx hb dX8_tells_16 rfl (lv_at hl 1 rfl) ?_
  refine lv_iconst (v := (0 : Int32)) hx hb dX8_tells_17 (by decide) ?_
  refine pf_X8_189 X hnJ hP hS zk_306 dX8_tells_18 (fun H locs hP hS => ?_)
  refine lv_iload_n hx hb dX8_tells_21 rfl (lv_at hl 2 rfl) ?_
  refine lv_if_ne (tgt := 26) hx hb dX8_tells_22 (by decide) (fun hc => ?_) (fun hc => ?_)
  · have hf := if_f hc hf
    refine lv_ldc (v := (100000 : Int32)) hx hb ho (hts _ wk_X8_192) dX8_tells_26 ?_
    refine lv_istore_n (lv' := [(3, .int (100000 : Int32)), (2, .int x1), (0, .ref (g.2.2 + 306)), (1, .int a1)]) hx hb dX8_tells_28 rfl hl (by decide) rfl (fun ls hl => ?_)
    refine lv_iconst (v := (0 : Int32)) hx hb dX8_tells_29 (by decide) ?_
    refine lv_istore (lv' := [(4, .int (0 : Int32)), (3, .int (100000 : Int32)), (2, .int x1), (0, .ref (g.2.2 + 306)), (1, .int a1)]) hx hb dX8_tells_30 hl (by decide) rfl (fun ls hl => ?_)
    obtain ⟨x10, hx10, hf⟩ := ob_e hf
    have K3 : ∀ (H : Heap) (locs : List Loc) (ls : Array Slot), va_P g.1 vwCl (zb_ws g nc (zb_ce g I (wr J2 306 21 (0 : Int32)) O)) H → va_S (zb_A g) s.heap H locs → lv_has ls 6 [(3, .int x10), (2, .int x1), (0, .ref (g.2.2 + 306)), (1, .int a1)] → W p l e { frames := 2, cells := 0, slots := 0, locals := 45 } s m args below meth c H locs 0 0 (MQ below (zb_Po g nc (zb_ce g I Jq O) none) args s 0 0 (zb_A g)) (F0 m 95 ls []) := by
      intro H locs ls hP hS hl
      refine lv_iconst (v := (0 : Int32)) hx hb dX8_tells_95 (by decide) ?_
      refine lv_istore (lv' := [(4, .int (0 : Int32)), (3, .int x10), (2, .int x1), (0, .ref (g.2.2 + 306)), (1, .int a1)]) hx hb dX8_tells_96 hl (by decide) rfl (fun ls hl => ?_)
      refine lv_iconst (v := (0 : Int32)) hx hb dX8_tells_98 (by decide) ?_
      refine lv_istore (lv' := [(5, .int (0 : Int32)), (4, .int (0 : Int32)), (3, .int x10), (2, .int x1), (0, .ref (g.2.2 + 306)), (1, .int a1)]) hx hb dX8_tells_99 hl (by decide) rfl (fun ls hl => ?_)
      obtain ⟨x20, J21, hx20_J21, hf⟩ := ob2_e hf
      have K4 : ∀ (H : Heap) (locs : List Loc) (ls : Array Slot), va_P g.1 vwCl (zb_ws g nc (zb_ce g I J21 O)) H → va_S (zb_A g) s.heap H locs → lv_has ls 6 [(4, .int x20), (2, .int x1), (0, .ref (g.2.2 + 306))] → W p l e { frames := 2, cells := 0, slots := 0, locals := 45 } s m args below meth c H locs 0 0 (MQ below (zb_Po g nc (zb_ce g I Jq O) none) args s 0 0 (zb_A g)) (F0 m 183 ls []) := by
        intro H locs ls hP hS hl
        refine lv_aload_n hx hb dX8_tells_183 rfl (lv_at hl 2 rfl) ?_
        refine lv_aload_n hx hb dX8_tells_184 rfl (lv_at hl 2 rfl) ?_
        refine gf_X8_182 X hnJ hP zk_306 dX8_tells_185 ?_
        obtain ⟨x22, hx22, hf⟩ := ob_e hf
        refine zr_cVi (rest := []) (As := [.int (J21 306 19)]) X hP hS (ct_X8_votes (g := g) (nc := nc) (I := I) (J := J21) (O := O) hnJ l  hx22) cw_X8_179 (zr_recv X hP (Nat.lt_of_lt_of_le (zk_306).2.1 hnJ) (zb_ceJo zk_306 (by decide)) rfl) rfl hl.1 (Nat.le_of_ble_eq_true rfl) ⟨Nat.le_of_ble_eq_true rfl, Nat.le_of_ble_eq_true rfl⟩ ⟨Nat.le_of_ble_eq_true rfl, Nat.le_of_ble_eq_true rfl⟩ dX8_tells_188 rfl (fun H locs hP hS => ?_)
        refine lv_istore (lv' := [(5, .int x22), (4, .int x20), (2, .int x1), (0, .ref (g.2.2 + 306))]) hx hb dX8_tells_191 hl (by decide) rfl (fun ls hl => ?_)
        refine lv_aload_n hx hb dX8_tells_193 rfl (lv_at hl 3 rfl) ?_
        refine lv_iconst (v := (2 : Int32)) hx hb dX8_tells_194 (by decide) ?_
        refine lv_iload hx hb dX8_tells_195 (lv_at hl 0 rfl) ?_
        refine lv_imul hx hb dX8_tells_197 ?_
        refine lv_iload_n hx hb dX8_tells_198 rfl (lv_at hl 2 rfl) ?_
        obtain ⟨x23, ht, hf⟩ := pl_e hf
        have K5 : ∀ (H : Heap) (locs : List Loc) (ls : Array Slot), va_P g.1 vwCl (zb_ws g nc (zb_ce g I J21 O)) H → va_S (zb_A g) s.heap H locs → lv_has ls 6 [(5, .int x22), (4, .int x20), (0, .ref (g.2.2 + 306))] → W p l e { frames := 2, cells := 0, slots := 0, locals := 45 } s m args below meth c H locs 0 0 (MQ below (zb_Po g nc (zb_ce g I Jq O) none) args s 0 0 (zb_A g)) (F0 m 207 ls [.int x23, .ref (g.2.2 + 306)]) := by
          intro H locs ls hP hS hl
          obtain ⟨J24, hJ24, hf⟩ := ob_e hf
          refine pf_X8_185 X hnJ hP hS zk_306 hJ24 dX8_tells_207 (fun H locs hP hS => ?_)
          refine lv_aload_n hx hb dX8_tells_210 rfl (lv_at hl 2 rfl) ?_
          refine lv_aload_n hx hb dX8_tells_211 rfl (lv_at hl 2 rfl) ?_
          refine gf_X8_185 X hnJ hP zk_306 dX8_tells_212 ?_
          obtain ⟨x26, ht, hf⟩ := ob_e hf
          have K6 : ∀ (H : Heap) (locs : List Loc) (ls : Array Slot), va_P g.1 vwCl (zb_ws g nc (zb_ce g I J24 O)) H → va_S (zb_A g) s.heap H locs → lv_has ls 6 [] → W p l e { frames := 2, cells := 0, slots := 0, locals := 45 } s m args below meth c H locs 0 0 (MQ below (zb_Po g nc (zb_ce g I Jq O) none) args s 0 0 (zb_A g)) (F0 m 229 ls [.int x26, .ref (g.2.2 + 306)]) := by
            intro H locs ls hP hS hl
            refine pf_X8_189 X hnJ hP hS zk_306 dX8_tells_229 (fun H locs hP hS => ?_)
            cases hf
            exact zr_vret X hr hP hS rfl dX8_tells_232
          have hf := ht
          refine lv_if_eq (tgt := 228) hx hb dX8_tells_215 (by decide) (fun hc => ?_) (fun hc => ?_)
          · have hf := if_t hc hf
            refine lv_iconst (v := (0 : Int32)) hx hb dX8_tells_228 (by decide) ?_
            cases hf
            exact K6 H locs ls hP hS (lv_sub hl [] rfl)
          · have hf := if_f hc hf
            refine lv_iload hx hb dX8_tells_218 (lv_at hl 1 rfl) ?_
            refine lv_iload hx hb dX8_tells_220 (lv_at hl 0 rfl) ?_
            obtain ⟨x25, hx25, hf⟩ := ob_e hf
            refine zr_cSi (rest := [.ref (g.2.2 + 306)]) (As := [.int x20, .int x22]) X hP hS (ct_X8_floor (g := g) (nc := nc) (I := I) (J := J24) (O := O)  l  hx25) cw_X8_200  rfl hl.1 (Nat.le_of_ble_eq_true rfl) ⟨Nat.le_of_ble_eq_true rfl, Nat.le_of_ble_eq_true rfl⟩ ⟨Nat.le_of_ble_eq_true rfl, Nat.le_of_ble_eq_true rfl⟩ dX8_tells_222 rfl (fun H locs hP hS => ?_)
            refine lv_goto (tgt := 229) hx hb dX8_tells_225 (by decide) ?_
            cases hf
            exact K6 H locs ls hP hS (lv_sub hl [] rfl)
        have hf := ht
        refine lv_icmp_le (tgt := 206) hx hb dX8_tells_199 (by decide) (fun hc => ?_) (fun hc => ?_)
        · have hf := if_t hc hf
          refine lv_iconst (v := (0 : Int32)) hx hb dX8_tells_206 (by decide) ?_
          cases hf
          exact K5 H locs ls hP hS (lv_sub hl [0, 1, 3] rfl)
        · have hf := if_f hc hf
          refine lv_iconst (v := (1 : Int32)) hx hb dX8_tells_202 (by decide) ?_
          refine lv_goto (tgt := 207) hx hb dX8_tells_203 (by decide) ?_
          cases hf
          exact K5 H locs ls hP hS (lv_sub hl [0, 1, 3] rfl)
      exact lpX8_tells_L101 hnJ l  X hx20_J21 K4 hP hS (lv_sub hl [0, 1, 2, 3, 4, 5] rfl)
    exact lpX8_tells_L32 hnJ l  X hx10 K3 hP hS (lv_sub hl [0, 1, 2, 3, 4] rfl)
  · have hf := if_t hc hf
    cases hf
    exact zr_vret X hr hP hS rfl dX8_tells_25
set_option maxHeartbeats 4000000 in
set_option maxRecDepth 100000 in
theorem ct_X8_hourPlace {g : zb_G} {nc : Nat} (l : Launch) {a1 : Int32} {I J O : Mem} {r9 : Int32} (hf : fX8_hourPlace a1 = some r9) : zb_Ct l g nc yX8_hourPlace cX8_hourPlace 2 (some .int) 0 0 [.ref (g.2.2 + 306), .int a1] (zb_ce g I J O) (some (.int r9)) (zb_ce g I J O) := by
  refine zb_ofW (own := RX8) (by decide +kernel) rfl (Nat.le_of_ble_eq_true rfl) ?_
  intro p e s m args below meth c ls X hr hP hl
  have hx := X.1.1
  have hb := X.1.2.1
  have ho := X.1.2.2.2.1
  have hts := X.1.2.2.2.2
  have hZ := X.2.2.2
  have hl : lv_has ls 2 [(0, .ref (g.2.2 + 306)), (1, .int a1)] := hl
  have hS : va_S (zb_A g) s.heap s.heap [] := va_S.rf
  obtain ⟨H, hH⟩ : ∃ H, H = s.heap := ⟨_, rfl⟩
  obtain ⟨locs, hlocs⟩ : ∃ z : List Loc, z = [] := ⟨_, rfl⟩
  rw [← hH] at hP
  have hS : va_S (zb_A g) s.heap H locs := by rw [hH, hlocs]; exact hS
  show W p l e _ s m args below meth c s.heap [] 0 0 _ _
  rw [← hH, ← hlocs]
  rw [fX8_hourPlace] at hf
  refine lv_sipush (v := (142 : Int32)) hx hb dX8_hourPlace_0 (by decide) ?_
  refine lv_bipush (v := (18 : Int32)) hx hb dX8_hourPlace_3 (by decide) ?_
  refine lv_iload_n hx hb dX8_hourPlace_5 rfl (lv_at hl 1 rfl) ?_
  refine lv_imul hx hb dX8_hourPlace_6 ?_
  refine lv_iadd hx hb dX8_hourPlace_7 ?_
  cases hf
  exact zr_iret X hr hP hS dX8_hourPlace_8
set_option maxHeartbeats 4000000 in
set_option maxRecDepth 100000 in
theorem ct_X8_firstHour {g : zb_G} {nc : Nat} (hnJ : 318 ≤ nc) (l : Launch) {I J O : Mem} {r9 : Int32} (hf : fX8_firstHour J = some r9) : zb_Ct l g nc yX8_firstHour cX8_firstHour 1 (some .int) 0 0 [.ref (g.2.2 + 306)] (zb_ce g I J O) (some (.int r9)) (zb_ce g I J O) := by
  refine zb_ofW (own := RX8) (by decide +kernel) rfl (Nat.le_of_ble_eq_true rfl) ?_
  intro p e s m args below meth c ls X hr hP hl
  have hx := X.1.1
  have hb := X.1.2.1
  have ho := X.1.2.2.2.1
  have hts := X.1.2.2.2.2
  have hZ := X.2.2.2
  have hl : lv_has ls 1 [(0, .ref (g.2.2 + 306))] := hl
  have hS : va_S (zb_A g) s.heap s.heap [] := va_S.rf
  obtain ⟨H, hH⟩ : ∃ H, H = s.heap := ⟨_, rfl⟩
  obtain ⟨locs, hlocs⟩ : ∃ z : List Loc, z = [] := ⟨_, rfl⟩
  rw [← hH] at hP
  have hS : va_S (zb_A g) s.heap H locs := by rw [hH, hlocs]; exact hS
  show W p l e _ s m args below meth c s.heap [] 0 0 _ _
  rw [← hH, ← hlocs]
  rw [fX8_firstHour] at hf
  refine lv_aload_n hx hb dX8_firstHour_0 rfl (lv_at hl 0 rfl) ?_
  refine gf_X8_7 X hnJ hP zk_306 dX8_firstHour_1 ?_
  refine lv_iconst (v := (5 : Int32)) hx hb dX8_firstHour_4 (by decide) ?_
  obtain ⟨x1, hx1, hf⟩ := ob_e hf
  refine zr_aldJ X hP hnJ zk_307 hx1 dX8_firstHour_5 ?_
  refine lv_aload_n hx hb dX8_firstHour_6 rfl (lv_at hl 0 rfl) ?_
  refine gf_X8_7 X hnJ hP zk_306 dX8_firstHour_7 ?_
  refine lv_bipush (v := (6 : Int32)) hx hb dX8_firstHour_10 (by decide) ?_
  obtain ⟨x2, hx2, hf⟩ := ob_e hf
  refine zr_aldJ X hP hnJ zk_307 hx2 dX8_firstHour_12 ?_
  refine lv_isub hx hb dX8_firstHour_13 ?_
  cases hf
  exact zr_iret X hr hP hS dX8_firstHour_14
set_option maxHeartbeats 4000000 in
set_option maxRecDepth 100000 in
theorem ct_X8_of {g : zb_G} {nc : Nat} (hnJ : 318 ≤ nc) (l : Launch) {a1 : Int32} {a2 : Int32} {I J O : Mem} {r9 : Int32} (hf : fX8_of a1 a2 J = some r9) : zb_Ct l g nc yX8_of cX8_of 3 (some .int) 1 21 [.ref (g.2.2 + 306), .int a1, .int a2] (zb_ce g I J O) (some (.int r9)) (zb_ce g I J O) := by
  refine zb_ofW (own := RX8) (by decide +kernel) rfl (Nat.le_of_ble_eq_true rfl) ?_
  intro p e s m args below meth c ls X hr hP hl
  have hx := X.1.1
  have hb := X.1.2.1
  have ho := X.1.2.2.2.1
  have hts := X.1.2.2.2.2
  have hZ := X.2.2.2
  have hl : lv_has ls 3 [(0, .ref (g.2.2 + 306)), (1, .int a1), (2, .int a2)] := hl
  have hS : va_S (zb_A g) s.heap s.heap [] := va_S.rf
  obtain ⟨H, hH⟩ : ∃ H, H = s.heap := ⟨_, rfl⟩
  obtain ⟨locs, hlocs⟩ : ∃ z : List Loc, z = [] := ⟨_, rfl⟩
  rw [← hH] at hP
  have hS : va_S (zb_A g) s.heap H locs := by rw [hH, hlocs]; exact hS
  show W p l e _ s m args below meth c s.heap [] 0 0 _ _
  rw [← hH, ← hlocs]
  rw [fX8_of] at hf
  refine lv_aload_n hx hb dX8_of_0 rfl (lv_at hl 0 rfl) ?_
  refine gf_X8_7 X hnJ hP zk_306 dX8_of_1 ?_
  refine lv_aload_n hx hb dX8_of_4 rfl (lv_at hl 0 rfl) ?_
  refine lv_iload_n hx hb dX8_of_5 rfl (lv_at hl 1 rfl) ?_
  refine lv_aload_n hx hb dX8_of_6 rfl (lv_at hl 0 rfl) ?_
  obtain ⟨x1, hx1, hf⟩ := ob_e hf
  refine zr_cVi (rest := [.int a1, .ref (g.2.2 + 306), .ref (g.2.2 + 307)]) (As := []) X hP hS (ct_X8_firstHour (g := g) (nc := nc) (I := I) (J := J) (O := O) hnJ l  hx1) cw_X8_203 (zr_recv X hP (Nat.lt_of_lt_of_le (zk_306).2.1 hnJ) (zb_ceJo zk_306 (by decide)) rfl) rfl hl.1 (Nat.le_of_ble_eq_true rfl) ⟨Nat.le_of_ble_eq_true rfl, Nat.le_of_ble_eq_true rfl⟩ ⟨Nat.le_of_ble_eq_true rfl, Nat.le_of_ble_eq_true rfl⟩ dX8_of_7 rfl (fun H locs hP hS => ?_)
  refine lv_isub hx hb dX8_of_10 ?_
  obtain ⟨x2, hx2, hf⟩ := ob_e hf
  refine zr_cVi (rest := [.ref (g.2.2 + 307)]) (As := [.int (a1 - x1)]) X hP hS (ct_X8_hourPlace (g := g) (nc := nc) (I := I) (J := J) (O := O)  l  hx2) cw_X8_206 (zr_recv X hP (Nat.lt_of_lt_of_le (zk_306).2.1 hnJ) (zb_ceJo zk_306 (by decide)) rfl) rfl hl.1 (Nat.le_of_ble_eq_true rfl) ⟨Nat.le_of_ble_eq_true rfl, Nat.le_of_ble_eq_true rfl⟩ ⟨Nat.le_of_ble_eq_true rfl, Nat.le_of_ble_eq_true rfl⟩ dX8_of_11 rfl (fun H locs hP hS => ?_)
  refine lv_iload_n hx hb dX8_of_14 rfl (lv_at hl 2 rfl) ?_
  refine lv_iadd hx hb dX8_of_15 ?_
  obtain ⟨x3, hx3, hf⟩ := ob_e hf
  refine zr_aldJ X hP hnJ zk_307 hx3 dX8_of_16 ?_
  cases hf
  exact zr_iret X hr hP hS dX8_of_17
set_option maxHeartbeats 4000000 in
set_option maxRecDepth 100000 in
theorem lpX8_laysValues_L2 {g : zb_G} {nc : Nat} (hnJ : 318 ≤ nc) (l : Launch) {a1 : Int32} {I O : Mem} {p : Program} {e : Env} {s : State} {m : MethodId} {args : Array Value} {below : List Frame} {meth : Method} {c : Code} {Q : State → Prop} (X : zb_X g p m c cX8_laysValues 3 s args RX8 meth) : ∀ {n9 : Nat} {a2 : Int32} {J : Mem} {Jz : Mem} {H : Heap} {locs : List Loc} {ls : Array Slot}, fX8_laysValues_L2 a1 n9 a2 J = some Jz → (∀ (H : Heap) (locs : List Loc) (ls : Array Slot), va_P g.1 vwCl (zb_ws g nc (zb_ce g I Jz O)) H → va_S (zb_A g) s.heap H locs → lv_has ls 3 [] → W p l e { frames := 2, cells := 0, slots := 0, locals := 43 } s m args below meth c H locs 0 0 Q (F0 m 29 ls [])) → va_P g.1 vwCl (zb_ws g nc (zb_ce g I J O)) H → va_S (zb_A g) s.heap H locs → lv_has ls 3 [(2, .int a2), (0, .ref (g.2.2 + 306)), (1, .int a1)] → W p l e { frames := 2, cells := 0, slots := 0, locals := 43 } s m args below meth c H locs 0 0 Q (F0 m 2 ls []) := by
  have hx := X.1.1
  have hb := X.1.2.1
  have ho := X.1.2.2.2.1
  have hts := X.1.2.2.2.2
  have hZ := X.2.2.2
  intro n9
  induction n9 with
  | zero =>
    intro a2 J Jz H locs ls hf
    exact nomatch hf
  | succ n9 ih =>
    intro a2 J Jz H locs ls hf KK hP hS hl
    rw [fX8_laysValues_L2] at hf
    refine lv_iload_n hx hb dX8_laysValues_2 rfl (lv_at hl 0 rfl) ?_
    refine lv_bipush (v := (10 : Int32)) hx hb dX8_laysValues_3 (by decide) ?_
    refine lv_icmp_ge (tgt := 29) hx hb dX8_laysValues_5 (by decide) (fun hc => ?_) (fun hc => ?_)
    · have hf := if_t hc hf
      cases hf
      exact KK H locs ls hP hS (lv_sub hl [] rfl)
    · have hf := if_f hc hf
      refine lv_aload_n hx hb dX8_laysValues_8 rfl (lv_at hl 1 rfl) ?_
      refine gf_X8_40 X hnJ hP zk_306 dX8_laysValues_9 ?_
      refine lv_iload_n hx hb dX8_laysValues_12 rfl (lv_at hl 0 rfl) ?_
      refine lv_aload_n hx hb dX8_laysValues_13 rfl (lv_at hl 1 rfl) ?_
      refine lv_iload_n hx hb dX8_laysValues_14 rfl (lv_at hl 2 rfl) ?_
      refine lv_bipush (v := (8 : Int32)) hx hb dX8_laysValues_15 (by decide) ?_
      refine lv_iload_n hx hb dX8_laysValues_17 rfl (lv_at hl 0 rfl) ?_
      refine lv_iadd hx hb dX8_laysValues_18 ?_
      obtain ⟨x1, hx1, hf⟩ := ob_e hf
      refine zr_cVi (rest := [.int a2, .ref (g.2.2 + 315)]) (As := [.int a1, .int ((8 : Int32) + a2)]) X hP hS (ct_X8_of (g := g) (nc := nc) (I := I) (J := J) (O := O) hnJ l  hx1) cw_X8_209 (zr_recv X hP (Nat.lt_of_lt_of_le (zk_306).2.1 hnJ) (zb_ceJo zk_306 (by decide)) rfl) rfl hl.1 (Nat.le_of_ble_eq_true rfl) ⟨Nat.le_of_ble_eq_true rfl, Nat.le_of_ble_eq_true rfl⟩ ⟨Nat.le_of_ble_eq_true rfl, Nat.le_of_ble_eq_true rfl⟩ dX8_laysValues_19 rfl (fun H locs hP hS => ?_)
      obtain ⟨J2, hJ2, hf⟩ := ob_e hf
      refine zr_astJ X hP hS hnJ zk_315 hJ2 dX8_laysValues_22 (fun H locs hP hS => ?_)
      refine lv_iinc (v := (a2 + (1 : Int32))) (lv' := [(2, .int (a2 + (1 : Int32))), (0, .ref (g.2.2 + 306)), (1, .int a1)]) hx hb dX8_laysValues_23 hl (k := 0) rfl rfl (by decide) rfl (fun ls hl => ?_)
      refine lv_goto (tgt := 2) hx hb dX8_laysValues_26 (by decide) ?_
      exact ih hf KK hP hS (lv_sub hl [0, 1, 2] rfl)
set_option maxHeartbeats 4000000 in
set_option maxRecDepth 100000 in
theorem ct_X8_laysValues {g : zb_G} {nc : Nat} (hnJ : 318 ≤ nc) (l : Launch) {a1 : Int32} {I J O : Mem} {Jq : Mem} (hf : fX8_laysValues a1 J = some Jq) : zb_Ct l g nc yX8_laysValues cX8_laysValues 3 none 2 43 [.ref (g.2.2 + 306), .int a1] (zb_ce g I J O) none (zb_ce g I Jq O) := by
  refine zb_ofW (own := RX8) (by decide +kernel) rfl (Nat.le_of_ble_eq_true rfl) ?_
  intro p e s m args below meth c ls X hr hP hl
  have hx := X.1.1
  have hb := X.1.2.1
  have ho := X.1.2.2.2.1
  have hts := X.1.2.2.2.2
  have hZ := X.2.2.2
  have hl : lv_has ls 3 [(0, .ref (g.2.2 + 306)), (1, .int a1)] := hl
  have hS : va_S (zb_A g) s.heap s.heap [] := va_S.rf
  obtain ⟨H, hH⟩ : ∃ H, H = s.heap := ⟨_, rfl⟩
  obtain ⟨locs, hlocs⟩ : ∃ z : List Loc, z = [] := ⟨_, rfl⟩
  rw [← hH] at hP
  have hS : va_S (zb_A g) s.heap H locs := by rw [hH, hlocs]; exact hS
  show W p l e _ s m args below meth c s.heap [] 0 0 _ _
  rw [← hH, ← hlocs]
  rw [fX8_laysValues] at hf
  refine lv_iconst (v := (0 : Int32)) hx hb dX8_laysValues_0 (by decide) ?_
  refine lv_istore_n (lv' := [(2, .int (0 : Int32)), (0, .ref (g.2.2 + 306)), (1, .int a1)]) hx hb dX8_laysValues_1 rfl hl (by decide) rfl (fun ls hl => ?_)
  obtain ⟨J3, hJ3, hf⟩ := ob_e hf
  have K1 : ∀ (H : Heap) (locs : List Loc) (ls : Array Slot), va_P g.1 vwCl (zb_ws g nc (zb_ce g I J3 O)) H → va_S (zb_A g) s.heap H locs → lv_has ls 3 [] → W p l e { frames := 2, cells := 0, slots := 0, locals := 43 } s m args below meth c H locs 0 0 (MQ below (zb_Po g nc (zb_ce g I Jq O) none) args s 0 0 (zb_A g)) (F0 m 29 ls []) := by
    intro H locs ls hP hS hl
    cases hf
    exact zr_vret X hr hP hS rfl dX8_laysValues_29
  exact lpX8_laysValues_L2 hnJ l  X hJ3 K1 hP hS (lv_sub hl [0, 1, 2] rfl)
set_option maxHeartbeats 4000000 in
set_option maxRecDepth 100000 in
theorem ct_X8_sets {g : zb_G} {nc : Nat} (hnJ : 318 ≤ nc) (l : Launch) {a1 : Int32} {a2 : Int32} {a3 : Int32} {I J O : Mem} {Jq : Mem} (hf : fX8_sets a1 a2 a3 J = some Jq) : zb_Ct l g nc yX8_sets cX8_sets 4 none 1 21 [.ref (g.2.2 + 306), .int a1, .int a2, .int a3] (zb_ce g I J O) none (zb_ce g I Jq O) := by
  refine zb_ofW (own := RX8) (by decide +kernel) rfl (Nat.le_of_ble_eq_true rfl) ?_
  intro p e s m args below meth c ls X hr hP hl
  have hx := X.1.1
  have hb := X.1.2.1
  have ho := X.1.2.2.2.1
  have hts := X.1.2.2.2.2
  have hZ := X.2.2.2
  have hl : lv_has ls 4 [(0, .ref (g.2.2 + 306)), (1, .int a1), (2, .int a2), (3, .int a3)] := hl
  have hS : va_S (zb_A g) s.heap s.heap [] := va_S.rf
  obtain ⟨H, hH⟩ : ∃ H, H = s.heap := ⟨_, rfl⟩
  obtain ⟨locs, hlocs⟩ : ∃ z : List Loc, z = [] := ⟨_, rfl⟩
  rw [← hH] at hP
  have hS : va_S (zb_A g) s.heap H locs := by rw [hH, hlocs]; exact hS
  show W p l e _ s m args below meth c s.heap [] 0 0 _ _
  rw [← hH, ← hlocs]
  rw [fX8_sets] at hf
  refine lv_aload_n hx hb dX8_sets_0 rfl (lv_at hl 0 rfl) ?_
  refine gf_X8_7 X hnJ hP zk_306 dX8_sets_1 ?_
  refine lv_aload_n hx hb dX8_sets_4 rfl (lv_at hl 0 rfl) ?_
  refine lv_iload_n hx hb dX8_sets_5 rfl (lv_at hl 1 rfl) ?_
  refine lv_aload_n hx hb dX8_sets_6 rfl (lv_at hl 0 rfl) ?_
  obtain ⟨x1, hx1, hf⟩ := ob_e hf
  refine zr_cVi (rest := [.int a1, .ref (g.2.2 + 306), .ref (g.2.2 + 307)]) (As := []) X hP hS (ct_X8_firstHour (g := g) (nc := nc) (I := I) (J := J) (O := O) hnJ l  hx1) cw_X8_203 (zr_recv X hP (Nat.lt_of_lt_of_le (zk_306).2.1 hnJ) (zb_ceJo zk_306 (by decide)) rfl) rfl hl.1 (Nat.le_of_ble_eq_true rfl) ⟨Nat.le_of_ble_eq_true rfl, Nat.le_of_ble_eq_true rfl⟩ ⟨Nat.le_of_ble_eq_true rfl, Nat.le_of_ble_eq_true rfl⟩ dX8_sets_7 rfl (fun H locs hP hS => ?_)
  refine lv_isub hx hb dX8_sets_10 ?_
  obtain ⟨x2, hx2, hf⟩ := ob_e hf
  refine zr_cVi (rest := [.ref (g.2.2 + 307)]) (As := [.int (a1 - x1)]) X hP hS (ct_X8_hourPlace (g := g) (nc := nc) (I := I) (J := J) (O := O)  l  hx2) cw_X8_206 (zr_recv X hP (Nat.lt_of_lt_of_le (zk_306).2.1 hnJ) (zb_ceJo zk_306 (by decide)) rfl) rfl hl.1 (Nat.le_of_ble_eq_true rfl) ⟨Nat.le_of_ble_eq_true rfl, Nat.le_of_ble_eq_true rfl⟩ ⟨Nat.le_of_ble_eq_true rfl, Nat.le_of_ble_eq_true rfl⟩ dX8_sets_11 rfl (fun H locs hP hS => ?_)
  refine lv_iload_n hx hb dX8_sets_14 rfl (lv_at hl 2 rfl) ?_
  refine lv_iadd hx hb dX8_sets_15 ?_
  refine lv_iload_n hx hb dX8_sets_16 rfl (lv_at hl 3 rfl) ?_
  obtain ⟨J3, hJ3, hf⟩ := ob_e hf
  refine zr_astJ X hP hS hnJ zk_307 hJ3 dX8_sets_17 (fun H locs hP hS => ?_)
  cases hf
  exact zr_vret X hr hP hS rfl dX8_sets_18
set_option maxHeartbeats 4000000 in
set_option maxRecDepth 100000 in
theorem ct_X8_keepsLevel {g : zb_G} {nc : Nat} (hnJ : 318 ≤ nc) (l : Launch) {a1 : Int32} {I J O : Mem} {Jq : Mem} (hf : fX8_keepsLevel a1 J = some Jq) : zb_Ct l g nc yX8_keepsLevel cX8_keepsLevel 2 none 2 44 [.ref (g.2.2 + 306), .int a1] (zb_ce g I J O) none (zb_ce g I Jq O) := by
  refine zb_ofW (own := RX8) (by decide +kernel) rfl (Nat.le_of_ble_eq_true rfl) ?_
  intro p e s m args below meth c ls X hr hP hl
  have hx := X.1.1
  have hb := X.1.2.1
  have ho := X.1.2.2.2.1
  have hts := X.1.2.2.2.2
  have hZ := X.2.2.2
  have hl : lv_has ls 2 [(0, .ref (g.2.2 + 306)), (1, .int a1)] := hl
  have hS : va_S (zb_A g) s.heap s.heap [] := va_S.rf
  obtain ⟨H, hH⟩ : ∃ H, H = s.heap := ⟨_, rfl⟩
  obtain ⟨locs, hlocs⟩ : ∃ z : List Loc, z = [] := ⟨_, rfl⟩
  rw [← hH] at hP
  have hS : va_S (zb_A g) s.heap H locs := by rw [hH, hlocs]; exact hS
  show W p l e _ s m args below meth c s.heap [] 0 0 _ _
  rw [← hH, ← hlocs]
  rw [fX8_keepsLevel] at hf
  refine lv_aload_n hx hb dX8_keepsLevel_0 rfl (lv_at hl 0 rfl) ?_
  refine lv_iload_n hx hb dX8_keepsLevel_1 rfl (lv_at hl 1 rfl) ?_
  refine lv_iconst (v := (1 : Int32)) hx hb dX8_keepsLevel_2 (by decide) ?_
  refine lv_aload_n hx hb dX8_keepsLevel_3 rfl (lv_at hl 0 rfl) ?_
  refine gf_X8_182 X hnJ hP zk_306 dX8_keepsLevel_4 ?_
  obtain ⟨J1, hJ1, hf⟩ := ob_e hf
  refine zr_cVv (rest := []) (As := [.int a1, .int (1 : Int32), .int (J 306 19)]) X hP hS (ct_X8_sets (g := g) (nc := nc) (I := I) (J := J) (O := O) hnJ l  hJ1) cw_X8_212 (zr_recv X hP (Nat.lt_of_lt_of_le (zk_306).2.1 hnJ) (zb_ceJo zk_306 (by decide)) rfl) rfl hl.1 (Nat.le_of_ble_eq_true rfl) ⟨Nat.le_of_ble_eq_true rfl, Nat.le_of_ble_eq_true rfl⟩ ⟨Nat.le_of_ble_eq_true rfl, Nat.le_of_ble_eq_true rfl⟩ dX8_keepsLevel_7 rfl (fun H locs hP hS => ?_)
  refine lv_aload_n hx hb dX8_keepsLevel_10 rfl (lv_at hl 0 rfl) ?_
  refine lv_iload_n hx hb dX8_keepsLevel_11 rfl (lv_at hl 1 rfl) ?_
  refine lv_iconst (v := (2 : Int32)) hx hb dX8_keepsLevel_12 (by decide) ?_
  refine lv_aload_n hx hb dX8_keepsLevel_13 rfl (lv_at hl 0 rfl) ?_
  refine gf_X8_185 X hnJ hP zk_306 dX8_keepsLevel_14 ?_
  obtain ⟨x2, ht, hf⟩ := pl_e hf
  have K1 : ∀ (H : Heap) (locs : List Loc) (ls : Array Slot), va_P g.1 vwCl (zb_ws g nc (zb_ce g I J1 O)) H → va_S (zb_A g) s.heap H locs → lv_has ls 2 [(0, .ref (g.2.2 + 306)), (1, .int a1)] → W p l e { frames := 2, cells := 0, slots := 0, locals := 44 } s m args below meth c H locs 0 0 (MQ below (zb_Po g nc (zb_ce g I Jq O) none) args s 0 0 (zb_A g)) (F0 m 25 ls [.int x2, .int (2 : Int32), .int a1, .ref (g.2.2 + 306)]) := by
    intro H locs ls hP hS hl
    obtain ⟨J3, hJ3, hf⟩ := ob_e hf
    refine zr_cVv (rest := []) (As := [.int a1, .int (2 : Int32), .int x2]) X hP hS (ct_X8_sets (g := g) (nc := nc) (I := I) (J := J1) (O := O) hnJ l  hJ3) cw_X8_212 (zr_recv X hP (Nat.lt_of_lt_of_le (zk_306).2.1 hnJ) (zb_ceJo zk_306 (by decide)) rfl) rfl hl.1 (Nat.le_of_ble_eq_true rfl) ⟨Nat.le_of_ble_eq_true rfl, Nat.le_of_ble_eq_true rfl⟩ ⟨Nat.le_of_ble_eq_true rfl, Nat.le_of_ble_eq_true rfl⟩ dX8_keepsLevel_25 rfl (fun H locs hP hS => ?_)
    refine lv_aload_n hx hb dX8_keepsLevel_28 rfl (lv_at hl 0 rfl) ?_
    refine lv_iload_n hx hb dX8_keepsLevel_29 rfl (lv_at hl 1 rfl) ?_
    refine lv_iconst (v := (5 : Int32)) hx hb dX8_keepsLevel_30 (by decide) ?_
    refine lv_aload_n hx hb dX8_keepsLevel_31 rfl (lv_at hl 0 rfl) ?_
    refine gf_X8_189 X hnJ hP zk_306 dX8_keepsLevel_32 ?_
    obtain ⟨J4, hJ4, hf⟩ := ob_e hf
    refine zr_cVv (rest := []) (As := [.int a1, .int (5 : Int32), .int (J3 306 21)]) X hP hS (ct_X8_sets (g := g) (nc := nc) (I := I) (J := J3) (O := O) hnJ l  hJ4) cw_X8_212 (zr_recv X hP (Nat.lt_of_lt_of_le (zk_306).2.1 hnJ) (zb_ceJo zk_306 (by decide)) rfl) rfl hl.1 (Nat.le_of_ble_eq_true rfl) ⟨Nat.le_of_ble_eq_true rfl, Nat.le_of_ble_eq_true rfl⟩ ⟨Nat.le_of_ble_eq_true rfl, Nat.le_of_ble_eq_true rfl⟩ dX8_keepsLevel_35 rfl (fun H locs hP hS => ?_)
    cases hf
    exact zr_vret X hr hP hS rfl dX8_keepsLevel_38
  have hf := ht
  refine lv_if_eq (tgt := 24) hx hb dX8_keepsLevel_17 (by decide) (fun hc => ?_) (fun hc => ?_)
  · have hf := if_t hc hf
    refine lv_iconst (v := (0 : Int32)) hx hb dX8_keepsLevel_24 (by decide) ?_
    cases hf
    exact K1 H locs ls hP hS (lv_sub hl [0, 1] rfl)
  · have hf := if_f hc hf
    refine lv_iconst (v := (1 : Int32)) hx hb dX8_keepsLevel_20 (by decide) ?_
    refine lv_goto (tgt := 25) hx hb dX8_keepsLevel_21 (by decide) ?_
    cases hf
    exact K1 H locs ls hP hS (lv_sub hl [0, 1] rfl)
set_option maxHeartbeats 4000000 in
set_option maxRecDepth 100000 in
theorem lpX8_reporters_L4 {g : zb_G} {nc : Nat} (hnJ : 318 ≤ nc) (l : Launch) {a1 : Int32} {I O : Mem} {p : Program} {e : Env} {s : State} {m : MethodId} {args : Array Value} {below : List Frame} {meth : Method} {c : Code} {Q : State → Prop} (X : zb_X g p m c cX8_reporters 4 s args RX8 meth) : ∀ {n9 : Nat} {a3 : Int32} {a2 : Int32} {J : Mem} {z2 : Int32} {Jz : Mem} {H : Heap} {locs : List Loc} {ls : Array Slot}, fX8_reporters_L4 a1 n9 a3 a2 J = some (z2, Jz) → (∀ (H : Heap) (locs : List Loc) (ls : Array Slot), va_P g.1 vwCl (zb_ws g nc (zb_ce g I Jz O)) H → va_S (zb_A g) s.heap H locs → lv_has ls 4 [(2, .int z2)] → W p l e { frames := 0, cells := 0, slots := 0, locals := 0 } s m args below meth c H locs 0 0 Q (F0 m 103 ls [])) → va_P g.1 vwCl (zb_ws g nc (zb_ce g I J O)) H → va_S (zb_A g) s.heap H locs → lv_has ls 4 [(3, .int a3), (2, .int a2), (0, .ref (g.2.2 + 306)), (1, .int a1)] → W p l e { frames := 0, cells := 0, slots := 0, locals := 0 } s m args below meth c H locs 0 0 Q (F0 m 4 ls []) := by
  have hx := X.1.1
  have hb := X.1.2.1
  have ho := X.1.2.2.2.1
  have hts := X.1.2.2.2.2
  have hZ := X.2.2.2
  intro n9
  induction n9 with
  | zero =>
    intro a3 a2 J z2 Jz H locs ls hf
    exact nomatch hf
  | succ n9 ih =>
    intro a3 a2 J z2 Jz H locs ls hf KK hP hS hl
    rw [fX8_reporters_L4] at hf
    refine lv_iload_n hx hb dX8_reporters_4 rfl (lv_at hl 0 rfl) ?_
    refine lv_aload_n hx hb dX8_reporters_5 rfl (lv_at hl 2 rfl) ?_
    refine gf_X8_7 X hnJ hP zk_306 dX8_reporters_6 ?_
    refine lv_iconst (v := (0 : Int32)) hx hb dX8_reporters_9 (by decide) ?_
    obtain ⟨x1, hx1, hf⟩ := ob_e hf
    refine zr_aldJ X hP hnJ zk_307 hx1 dX8_reporters_10 ?_
    refine lv_icmp_ge (tgt := 103) hx hb dX8_reporters_11 (by decide) (fun hc => ?_) (fun hc => ?_)
    · have hf := if_t hc hf
      cases hf
      exact KK H locs ls hP hS (lv_sub hl [1] rfl)
    · have hf := if_f hc hf
      refine lv_aload_n hx hb dX8_reporters_14 rfl (lv_at hl 2 rfl) ?_
      refine gf_X8_40 X hnJ hP zk_306 dX8_reporters_15 ?_
      refine lv_iload_n hx hb dX8_reporters_18 rfl (lv_at hl 0 rfl) ?_
      refine lv_aload_n hx hb dX8_reporters_19 rfl (lv_at hl 2 rfl) ?_
      refine gf_X8_7 X hnJ hP zk_306 dX8_reporters_20 ?_
      refine lv_bipush (v := (92 : Int32)) hx hb dX8_reporters_23 (by decide) ?_
      refine lv_iload_n hx hb dX8_reporters_25 rfl (lv_at hl 0 rfl) ?_
      refine lv_iadd hx hb dX8_reporters_26 ?_
      obtain ⟨x2, hx2, hf⟩ := ob_e hf
      refine zr_aldJ X hP hnJ zk_307 hx2 dX8_reporters_27 ?_
      refine lv_iconst (v := (1 : Int32)) hx hb dX8_reporters_28 (by decide) ?_
      obtain ⟨x5, ht, hf⟩ := ob_e hf
      have K1 : ∀ (H : Heap) (locs : List Loc) (ls : Array Slot), va_P g.1 vwCl (zb_ws g nc (zb_ce g I J O)) H → va_S (zb_A g) s.heap H locs → lv_has ls 4 [(3, .int a3), (2, .int a2), (0, .ref (g.2.2 + 306)), (1, .int a1)] → W p l e { frames := 0, cells := 0, slots := 0, locals := 0 } s m args below meth c H locs 0 0 Q (F0 m 55 ls [.int x5, .int a3, .ref (g.2.2 + 315)]) := by
        intro H locs ls hP hS hl
        obtain ⟨J6, hJ6, hf⟩ := ob_e hf
        refine zr_astJ X hP hS hnJ zk_315 hJ6 dX8_reporters_55 (fun H locs hP hS => ?_)
        refine lv_iload_n hx hb dX8_reporters_56 rfl (lv_at hl 1 rfl) ?_
        refine lv_aload_n hx hb dX8_reporters_57 rfl (lv_at hl 2 rfl) ?_
        refine gf_X8_7 X hnJ hP zk_306 dX8_reporters_58 ?_
        refine lv_bipush (v := (92 : Int32)) hx hb dX8_reporters_61 (by decide) ?_
        refine lv_iload_n hx hb dX8_reporters_63 rfl (lv_at hl 0 rfl) ?_
        refine lv_iadd hx hb dX8_reporters_64 ?_
        obtain ⟨x7, hx7, hf⟩ := ob_e hf
        refine zr_aldJ X hP hnJ zk_307 hx7 dX8_reporters_65 ?_
        refine lv_iconst (v := (1 : Int32)) hx hb dX8_reporters_66 (by decide) ?_
        obtain ⟨x9, ht, hf⟩ := ob_e hf
        have K2 : ∀ (H : Heap) (locs : List Loc) (ls : Array Slot), va_P g.1 vwCl (zb_ws g nc (zb_ce g I J6 O)) H → va_S (zb_A g) s.heap H locs → lv_has ls 4 [(3, .int a3), (0, .ref (g.2.2 + 306)), (1, .int a1)] → W p l e { frames := 0, cells := 0, slots := 0, locals := 0 } s m args below meth c H locs 0 0 Q (F0 m 95 ls [.int x9, .int a2]) := by
          intro H locs ls hP hS hl
          refine lv_ior hx hb dX8_reporters_95 ?_
          refine lv_istore_n (lv' := [(2, .int (a2 ||| x9)), (3, .int a3), (0, .ref (g.2.2 + 306)), (1, .int a1)]) hx hb dX8_reporters_96 rfl hl (by decide) rfl (fun ls hl => ?_)
          refine lv_iinc (v := (a3 + (1 : Int32))) (lv' := [(3, .int (a3 + (1 : Int32))), (2, .int (a2 ||| x9)), (0, .ref (g.2.2 + 306)), (1, .int a1)]) hx hb dX8_reporters_97 hl (k := 1) rfl rfl (by decide) rfl (fun ls hl => ?_)
          refine lv_goto (tgt := 4) hx hb dX8_reporters_100 (by decide) ?_
          exact ih hf KK hP hS (lv_sub hl [0, 1, 2, 3] rfl)
        have hf := ht
        refine lv_icmp_ne (tgt := 94) hx hb dX8_reporters_67 (by decide) (fun hc => ?_) (fun hc => ?_)
        · have hf := if_f hc hf
          refine lv_iconst (v := (0 : Int32)) hx hb dX8_reporters_94 (by decide) ?_
          cases hf
          exact K2 H locs ls hP hS (lv_sub hl [0, 2, 3] rfl)
        · have hf := if_t hc hf
          refine lv_iload_n hx hb dX8_reporters_70 rfl (lv_at hl 3 rfl) ?_
          refine lv_iconst (v := (-1 : Int32)) hx hb dX8_reporters_71 (by decide) ?_
          refine lv_icmp_eq (tgt := 88) hx hb dX8_reporters_72 (by decide) (fun hc => ?_) (fun hc => ?_)
          · have hf := if_t hc hf
            refine lv_iconst (v := (1 : Int32)) hx hb dX8_reporters_88 (by decide) ?_
            refine lv_iload_n hx hb dX8_reporters_89 rfl (lv_at hl 0 rfl) ?_
            refine lv_ishl hx hb dX8_reporters_90 ?_
            refine lv_goto (tgt := 95) hx hb dX8_reporters_91 (by decide) ?_
            cases hf
            exact K2 H locs ls hP hS (lv_sub hl [0, 2, 3] rfl)
          · have hf := if_f hc hf
            refine lv_aload_n hx hb dX8_reporters_75 rfl (lv_at hl 2 rfl) ?_
            refine gf_X8_7 X hnJ hP zk_306 dX8_reporters_76 ?_
            refine lv_bipush (v := (52 : Int32)) hx hb dX8_reporters_79 (by decide) ?_
            refine lv_iload_n hx hb dX8_reporters_81 rfl (lv_at hl 0 rfl) ?_
            refine lv_iadd hx hb dX8_reporters_82 ?_
            obtain ⟨x8, hx8, hf⟩ := ob_e hf
            refine zr_aldJ X hP hnJ zk_307 hx8 dX8_reporters_83 ?_
            refine lv_iload_n hx hb dX8_reporters_84 rfl (lv_at hl 3 rfl) ?_
            refine lv_icmp_ne (tgt := 94) hx hb dX8_reporters_85 (by decide) (fun hc => ?_) (fun hc => ?_)
            · have hf := if_f hc hf
              refine lv_iconst (v := (0 : Int32)) hx hb dX8_reporters_94 (by decide) ?_
              cases hf
              exact K2 H locs ls hP hS (lv_sub hl [0, 2, 3] rfl)
            · have hf := if_t hc hf
              refine lv_iconst (v := (1 : Int32)) hx hb dX8_reporters_88 (by decide) ?_
              refine lv_iload_n hx hb dX8_reporters_89 rfl (lv_at hl 0 rfl) ?_
              refine lv_ishl hx hb dX8_reporters_90 ?_
              refine lv_goto (tgt := 95) hx hb dX8_reporters_91 (by decide) ?_
              cases hf
              exact K2 H locs ls hP hS (lv_sub hl [0, 2, 3] rfl)
      have hf := ht
      refine lv_icmp_ne (tgt := 54) hx hb dX8_reporters_29 (by decide) (fun hc => ?_) (fun hc => ?_)
      · have hf := if_f hc hf
        refine lv_iconst (v := (0 : Int32)) hx hb dX8_reporters_54 (by decide) ?_
        cases hf
        exact K1 H locs ls hP hS (lv_sub hl [0, 1, 2, 3] rfl)
      · have hf := if_t hc hf
        refine lv_aload_n hx hb dX8_reporters_32 rfl (lv_at hl 2 rfl) ?_
        refine gf_X8_7 X hnJ hP zk_306 dX8_reporters_33 ?_
        refine lv_bipush (v := (102 : Int32)) hx hb dX8_reporters_36 (by decide) ?_
        refine lv_iload_n hx hb dX8_reporters_38 rfl (lv_at hl 0 rfl) ?_
        refine lv_iadd hx hb dX8_reporters_39 ?_
        obtain ⟨x3, hx3, hf⟩ := ob_e hf
        refine zr_aldJ X hP hnJ zk_307 hx3 dX8_reporters_40 ?_
        refine lv_aload_n hx hb dX8_reporters_41 rfl (lv_at hl 2 rfl) ?_
        refine gf_X8_7 X hnJ hP zk_306 dX8_reporters_42 ?_
        refine lv_bipush (v := (42 : Int32)) hx hb dX8_reporters_45 (by decide) ?_
        refine lv_iload_n hx hb dX8_reporters_47 rfl (lv_at hl 0 rfl) ?_
        refine lv_iadd hx hb dX8_reporters_48 ?_
        obtain ⟨x4, hx4, hf⟩ := ob_e hf
        refine zr_aldJ X hP hnJ zk_307 hx4 dX8_reporters_49 ?_
        refine lv_isub hx hb dX8_reporters_50 ?_
        refine lv_goto (tgt := 55) hx hb dX8_reporters_51 (by decide) ?_
        cases hf
        exact K1 H locs ls hP hS (lv_sub hl [0, 1, 2, 3] rfl)
set_option maxHeartbeats 4000000 in
set_option maxRecDepth 100000 in
theorem ct_X8_reporters {g : zb_G} {nc : Nat} (hnJ : 318 ≤ nc) (l : Launch) {a1 : Int32} {I J O : Mem} {r9 : Int32} {Jq : Mem} (hf : fX8_reporters a1 J = some (r9, Jq)) : zb_Ct l g nc yX8_reporters cX8_reporters 4 (some .int) 0 0 [.ref (g.2.2 + 306), .int a1] (zb_ce g I J O) (some (.int r9)) (zb_ce g I Jq O) := by
  refine zb_ofW (own := RX8) (by decide +kernel) rfl (Nat.le_of_ble_eq_true rfl) ?_
  intro p e s m args below meth c ls X hr hP hl
  have hx := X.1.1
  have hb := X.1.2.1
  have ho := X.1.2.2.2.1
  have hts := X.1.2.2.2.2
  have hZ := X.2.2.2
  have hl : lv_has ls 4 [(0, .ref (g.2.2 + 306)), (1, .int a1)] := hl
  have hS : va_S (zb_A g) s.heap s.heap [] := va_S.rf
  obtain ⟨H, hH⟩ : ∃ H, H = s.heap := ⟨_, rfl⟩
  obtain ⟨locs, hlocs⟩ : ∃ z : List Loc, z = [] := ⟨_, rfl⟩
  rw [← hH] at hP
  have hS : va_S (zb_A g) s.heap H locs := by rw [hH, hlocs]; exact hS
  show W p l e _ s m args below meth c s.heap [] 0 0 _ _
  rw [← hH, ← hlocs]
  rw [fX8_reporters] at hf
  refine lv_iconst (v := (0 : Int32)) hx hb dX8_reporters_0 (by decide) ?_
  refine lv_istore_n (lv' := [(2, .int (0 : Int32)), (0, .ref (g.2.2 + 306)), (1, .int a1)]) hx hb dX8_reporters_1 rfl hl (by decide) rfl (fun ls hl => ?_)
  refine lv_iconst (v := (0 : Int32)) hx hb dX8_reporters_2 (by decide) ?_
  refine lv_istore_n (lv' := [(3, .int (0 : Int32)), (2, .int (0 : Int32)), (0, .ref (g.2.2 + 306)), (1, .int a1)]) hx hb dX8_reporters_3 rfl hl (by decide) rfl (fun ls hl => ?_)
  obtain ⟨x10, J11, hx10_J11, hf⟩ := ob2_e hf
  have K3 : ∀ (H : Heap) (locs : List Loc) (ls : Array Slot), va_P g.1 vwCl (zb_ws g nc (zb_ce g I J11 O)) H → va_S (zb_A g) s.heap H locs → lv_has ls 4 [(2, .int x10)] → W p l e { frames := 0, cells := 0, slots := 0, locals := 0 } s m args below meth c H locs 0 0 (MQ below (zb_Po g nc (zb_ce g I Jq O) (some (.int r9))) args s 0 0 (zb_A g)) (F0 m 103 ls []) := by
    intro H locs ls hP hS hl
    refine lv_iload_n hx hb dX8_reporters_103 rfl (lv_at hl 0 rfl) ?_
    cases hf
    exact zr_iret X hr hP hS dX8_reporters_104
  exact lpX8_reporters_L4 hnJ l  X hx10_J11 K3 hP hS (lv_sub hl [0, 1, 2, 3] rfl)
set_option maxHeartbeats 4000000 in
set_option maxRecDepth 100000 in
theorem lpX8_newHour_L16 {g : zb_G} {nc : Nat} (hnJ : 318 ≤ nc) (l : Launch) {I O : Mem} {p : Program} {e : Env} {s : State} {m : MethodId} {args : Array Value} {below : List Frame} {meth : Method} {c : Code} {Q : State → Prop} (X : zb_X g p m c cX8_newHour 3 s args RX8 meth) : ∀ {n9 : Nat} {a1 : Int32} {J : Mem} {Jz : Mem} {H : Heap} {locs : List Loc} {ls : Array Slot}, fX8_newHour_L16 n9 a1 J = some Jz → (∀ (H : Heap) (locs : List Loc) (ls : Array Slot), va_P g.1 vwCl (zb_ws g nc (zb_ce g I Jz O)) H → va_S (zb_A g) s.heap H locs → lv_has ls 3 [(0, .ref (g.2.2 + 306))] → W p l e { frames := 1, cells := 0, slots := 0, locals := 21 } s m args below meth c H locs 0 0 Q (F0 m 47 ls [])) → va_P g.1 vwCl (zb_ws g nc (zb_ce g I J O)) H → va_S (zb_A g) s.heap H locs → lv_has ls 3 [(1, .int a1), (0, .ref (g.2.2 + 306))] → W p l e { frames := 1, cells := 0, slots := 0, locals := 21 } s m args below meth c H locs 0 0 Q (F0 m 16 ls []) := by
  have hx := X.1.1
  have hb := X.1.2.1
  have ho := X.1.2.2.2.1
  have hts := X.1.2.2.2.2
  have hZ := X.2.2.2
  intro n9
  induction n9 with
  | zero =>
    intro a1 J Jz H locs ls hf
    exact nomatch hf
  | succ n9 ih =>
    intro a1 J Jz H locs ls hf KK hP hS hl
    rw [fX8_newHour_L16] at hf
    refine lv_iload_n hx hb dX8_newHour_16 rfl (lv_at hl 0 rfl) ?_
    refine lv_bipush (v := (18 : Int32)) hx hb dX8_newHour_17 (by decide) ?_
    refine lv_iadd hx hb dX8_newHour_19 ?_
    refine lv_sipush (v := (574 : Int32)) hx hb dX8_newHour_20 (by decide) ?_
    refine lv_icmp_ge (tgt := 47) hx hb dX8_newHour_23 (by decide) (fun hc => ?_) (fun hc => ?_)
    · have hf := if_t hc hf
      cases hf
      exact KK H locs ls hP hS (lv_sub hl [1] rfl)
    · have hf := if_f hc hf
      refine lv_aload_n hx hb dX8_newHour_26 rfl (lv_at hl 1 rfl) ?_
      refine gf_X8_7 X hnJ hP zk_306 dX8_newHour_27 ?_
      refine lv_iload_n hx hb dX8_newHour_30 rfl (lv_at hl 0 rfl) ?_
      refine lv_aload_n hx hb dX8_newHour_31 rfl (lv_at hl 1 rfl) ?_
      refine gf_X8_7 X hnJ hP zk_306 dX8_newHour_32 ?_
      refine lv_iload_n hx hb dX8_newHour_35 rfl (lv_at hl 0 rfl) ?_
      refine lv_bipush (v := (18 : Int32)) hx hb dX8_newHour_36 (by decide) ?_
      refine lv_iadd hx hb dX8_newHour_38 ?_
      obtain ⟨x2, hx2, hf⟩ := ob_e hf
      refine zr_aldJ X hP hnJ zk_307 hx2 dX8_newHour_39 ?_
      obtain ⟨J3, hJ3, hf⟩ := ob_e hf
      refine zr_astJ X hP hS hnJ zk_307 hJ3 dX8_newHour_40 (fun H locs hP hS => ?_)
      refine lv_iinc (v := (a1 + (1 : Int32))) (lv' := [(1, .int (a1 + (1 : Int32))), (0, .ref (g.2.2 + 306))]) hx hb dX8_newHour_41 hl (k := 0) rfl rfl (by decide) rfl (fun ls hl => ?_)
      refine lv_goto (tgt := 16) hx hb dX8_newHour_44 (by decide) ?_
      exact ih hf KK hP hS (lv_sub hl [0, 1] rfl)
set_option maxHeartbeats 4000000 in
set_option maxRecDepth 100000 in
theorem lpX8_newHour_L72 {g : zb_G} {nc : Nat} (hnJ : 318 ≤ nc) (l : Launch) {a1 : Int32} {I O : Mem} {p : Program} {e : Env} {s : State} {m : MethodId} {args : Array Value} {below : List Frame} {meth : Method} {c : Code} {Q : State → Prop} (X : zb_X g p m c cX8_newHour 3 s args RX8 meth) : ∀ {n9 : Nat} {a2 : Int32} {J : Mem} {Jz : Mem} {H : Heap} {locs : List Loc} {ls : Array Slot}, fX8_newHour_L72 a1 n9 a2 J = some Jz → (∀ (H : Heap) (locs : List Loc) (ls : Array Slot), va_P g.1 vwCl (zb_ws g nc (zb_ce g I Jz O)) H → va_S (zb_A g) s.heap H locs → lv_has ls 3 [(1, .int a1), (0, .ref (g.2.2 + 306))] → W p l e { frames := 1, cells := 0, slots := 0, locals := 21 } s m args below meth c H locs 0 0 Q (F0 m 93 ls [])) → va_P g.1 vwCl (zb_ws g nc (zb_ce g I J O)) H → va_S (zb_A g) s.heap H locs → lv_has ls 3 [(2, .int a2), (1, .int a1), (0, .ref (g.2.2 + 306))] → W p l e { frames := 1, cells := 0, slots := 0, locals := 21 } s m args below meth c H locs 0 0 Q (F0 m 72 ls []) := by
  have hx := X.1.1
  have hb := X.1.2.1
  have ho := X.1.2.2.2.1
  have hts := X.1.2.2.2.2
  have hZ := X.2.2.2
  intro n9
  induction n9 with
  | zero =>
    intro a2 J Jz H locs ls hf
    exact nomatch hf
  | succ n9 ih =>
    intro a2 J Jz H locs ls hf KK hP hS hl
    rw [fX8_newHour_L72] at hf
    refine lv_iload_n hx hb dX8_newHour_72 rfl (lv_at hl 0 rfl) ?_
    refine lv_bipush (v := (18 : Int32)) hx hb dX8_newHour_73 (by decide) ?_
    refine lv_icmp_ge (tgt := 93) hx hb dX8_newHour_75 (by decide) (fun hc => ?_) (fun hc => ?_)
    · have hf := if_t hc hf
      cases hf
      exact KK H locs ls hP hS (lv_sub hl [1, 2] rfl)
    · have hf := if_f hc hf
      refine lv_aload_n hx hb dX8_newHour_78 rfl (lv_at hl 2 rfl) ?_
      refine gf_X8_7 X hnJ hP zk_306 dX8_newHour_79 ?_
      refine lv_iload_n hx hb dX8_newHour_82 rfl (lv_at hl 1 rfl) ?_
      refine lv_iload_n hx hb dX8_newHour_83 rfl (lv_at hl 0 rfl) ?_
      refine lv_iadd hx hb dX8_newHour_84 ?_
      refine lv_iconst (v := (0 : Int32)) hx hb dX8_newHour_85 (by decide) ?_
      obtain ⟨J10, hJ10, hf⟩ := ob_e hf
      refine zr_astJ X hP hS hnJ zk_307 hJ10 dX8_newHour_86 (fun H locs hP hS => ?_)
      refine lv_iinc (v := (a2 + (1 : Int32))) (lv' := [(2, .int (a2 + (1 : Int32))), (1, .int a1), (0, .ref (g.2.2 + 306))]) hx hb dX8_newHour_87 hl (k := 0) rfl rfl (by decide) rfl (fun ls hl => ?_)
      refine lv_goto (tgt := 72) hx hb dX8_newHour_90 (by decide) ?_
      exact ih hf KK hP hS (lv_sub hl [0, 1, 2] rfl)
set_option maxHeartbeats 4000000 in
set_option maxRecDepth 100000 in
theorem ct_X8_newHour {g : zb_G} {nc : Nat} (hnJ : 318 ≤ nc) (l : Launch) {I J O : Mem} {r9 : Int32} {Jq : Mem} (hf : fX8_newHour J = some (r9, Jq)) : zb_Ct l g nc yX8_newHour cX8_newHour 3 (some .int) 1 21 [.ref (g.2.2 + 306)] (zb_ce g I J O) (some (.int r9)) (zb_ce g I Jq O) := by
  refine zb_ofW (own := RX8) (by decide +kernel) rfl (Nat.le_of_ble_eq_true rfl) ?_
  intro p e s m args below meth c ls X hr hP hl
  have hx := X.1.1
  have hb := X.1.2.1
  have ho := X.1.2.2.2.1
  have hts := X.1.2.2.2.2
  have hZ := X.2.2.2
  have hl : lv_has ls 3 [(0, .ref (g.2.2 + 306))] := hl
  have hS : va_S (zb_A g) s.heap s.heap [] := va_S.rf
  obtain ⟨H, hH⟩ : ∃ H, H = s.heap := ⟨_, rfl⟩
  obtain ⟨locs, hlocs⟩ : ∃ z : List Loc, z = [] := ⟨_, rfl⟩
  rw [← hH] at hP
  have hS : va_S (zb_A g) s.heap H locs := by rw [hH, hlocs]; exact hS
  show W p l e _ s m args below meth c s.heap [] 0 0 _ _
  rw [← hH, ← hlocs]
  rw [fX8_newHour] at hf
  refine lv_aload_n hx hb dX8_newHour_0 rfl (lv_at hl 0 rfl) ?_
  refine gf_X8_7 X hnJ hP zk_306 dX8_newHour_1 ?_
  refine lv_bipush (v := (6 : Int32)) hx hb dX8_newHour_4 (by decide) ?_
  obtain ⟨x1, hx1, hf⟩ := ob_e hf
  refine zr_aldJ X hP hnJ zk_307 hx1 dX8_newHour_6 ?_
  refine lv_bipush (v := (24 : Int32)) hx hb dX8_newHour_7 (by decide) ?_
  obtain ⟨J7, ht, hf⟩ := ob_e hf
  have K1 : ∀ (H : Heap) (locs : List Loc) (ls : Array Slot), va_P g.1 vwCl (zb_ws g nc (zb_ce g I J7 O)) H → va_S (zb_A g) s.heap H locs → lv_has ls 3 [(0, .ref (g.2.2 + 306))] → W p l e { frames := 1, cells := 0, slots := 0, locals := 21 } s m args below meth c H locs 0 0 (MQ below (zb_Po g nc (zb_ce g I Jq O) (some (.int r9))) args s 0 0 (zb_A g)) (F0 m 58 ls []) := by
    intro H locs ls hP hS hl
    refine lv_aload_n hx hb dX8_newHour_58 rfl (lv_at hl 0 rfl) ?_
    refine lv_aload_n hx hb dX8_newHour_59 rfl (lv_at hl 0 rfl) ?_
    refine gf_X8_7 X hnJ hP zk_306 dX8_newHour_60 ?_
    refine lv_bipush (v := (6 : Int32)) hx hb dX8_newHour_63 (by decide) ?_
    obtain ⟨x8, hx8, hf⟩ := ob_e hf
    refine zr_aldJ X hP hnJ zk_307 hx8 dX8_newHour_65 ?_
    obtain ⟨x9, hx9, hf⟩ := ob_e hf
    refine zr_cVi (rest := []) (As := [.int x8]) X hP hS (ct_X8_hourPlace (g := g) (nc := nc) (I := I) (J := J7) (O := O)  l  hx9) cw_X8_206 (zr_recv X hP (Nat.lt_of_lt_of_le (zk_306).2.1 hnJ) (zb_ceJo zk_306 (by decide)) rfl) rfl hl.1 (Nat.le_of_ble_eq_true rfl) ⟨Nat.le_of_ble_eq_true rfl, Nat.le_of_ble_eq_true rfl⟩ ⟨Nat.le_of_ble_eq_true rfl, Nat.le_of_ble_eq_true rfl⟩ dX8_newHour_66 rfl (fun H locs hP hS => ?_)
    refine lv_istore_n (lv' := [(1, .int x9), (0, .ref (g.2.2 + 306))]) hx hb dX8_newHour_69 rfl hl (by decide) rfl (fun ls hl => ?_)
    refine lv_iconst (v := (0 : Int32)) hx hb dX8_newHour_70 (by decide) ?_
    refine lv_istore_n (lv' := [(2, .int (0 : Int32)), (1, .int x9), (0, .ref (g.2.2 + 306))]) hx hb dX8_newHour_71 rfl hl (by decide) rfl (fun ls hl => ?_)
    obtain ⟨J11, hJ11, hf⟩ := ob_e hf
    have K2 : ∀ (H : Heap) (locs : List Loc) (ls : Array Slot), va_P g.1 vwCl (zb_ws g nc (zb_ce g I J11 O)) H → va_S (zb_A g) s.heap H locs → lv_has ls 3 [(1, .int x9), (0, .ref (g.2.2 + 306))] → W p l e { frames := 1, cells := 0, slots := 0, locals := 21 } s m args below meth c H locs 0 0 (MQ below (zb_Po g nc (zb_ce g I Jq O) (some (.int r9))) args s 0 0 (zb_A g)) (F0 m 93 ls []) := by
      intro H locs ls hP hS hl
      refine lv_aload_n hx hb dX8_newHour_93 rfl (lv_at hl 1 rfl) ?_
      refine gf_X8_7 X hnJ hP zk_306 dX8_newHour_94 ?_
      refine lv_bipush (v := (6 : Int32)) hx hb dX8_newHour_97 (by decide) ?_
      refine lv_dup2_11 hx hb dX8_newHour_99 rfl rfl ?_
      obtain ⟨x12, hx12, hf⟩ := ob_e hf
      refine zr_aldJ X hP hnJ zk_307 hx12 dX8_newHour_100 ?_
      refine lv_iconst (v := (1 : Int32)) hx hb dX8_newHour_101 (by decide) ?_
      refine lv_iadd hx hb dX8_newHour_102 ?_
      obtain ⟨J13, hJ13, hf⟩ := ob_e hf
      refine zr_astJ X hP hS hnJ zk_307 hJ13 dX8_newHour_103 (fun H locs hP hS => ?_)
      refine lv_iload_n hx hb dX8_newHour_104 rfl (lv_at hl 0 rfl) ?_
      cases hf
      exact zr_iret X hr hP hS dX8_newHour_105
    exact lpX8_newHour_L72 hnJ l  X hJ11 K2 hP hS (lv_sub hl [0, 1, 2] rfl)
  have hf := ht
  refine lv_icmp_ne (tgt := 58) hx hb dX8_newHour_9 (by decide) (fun hc => ?_) (fun hc => ?_)
  · have hf := if_f hc hf
    cases hf
    exact K1 H locs ls hP hS (lv_sub hl [0] rfl)
  · have hf := if_t hc hf
    refine lv_sipush (v := (142 : Int32)) hx hb dX8_newHour_12 (by decide) ?_
    refine lv_istore_n (lv' := [(1, .int (142 : Int32)), (0, .ref (g.2.2 + 306))]) hx hb dX8_newHour_15 rfl hl (by decide) rfl (fun ls hl => ?_)
    obtain ⟨J4, hJ4, hf⟩ := ob_e hf
    have K3 : ∀ (H : Heap) (locs : List Loc) (ls : Array Slot), va_P g.1 vwCl (zb_ws g nc (zb_ce g I J4 O)) H → va_S (zb_A g) s.heap H locs → lv_has ls 3 [(0, .ref (g.2.2 + 306))] → W p l e { frames := 1, cells := 0, slots := 0, locals := 21 } s m args below meth c H locs 0 0 (MQ below (zb_Po g nc (zb_ce g I Jq O) (some (.int r9))) args s 0 0 (zb_A g)) (F0 m 47 ls []) := by
      intro H locs ls hP hS hl
      refine lv_aload_n hx hb dX8_newHour_47 rfl (lv_at hl 0 rfl) ?_
      refine gf_X8_7 X hnJ hP zk_306 dX8_newHour_48 ?_
      refine lv_bipush (v := (6 : Int32)) hx hb dX8_newHour_51 (by decide) ?_
      refine lv_dup2_11 hx hb dX8_newHour_53 rfl rfl ?_
      obtain ⟨x5, hx5, hf⟩ := ob_e hf
      refine zr_aldJ X hP hnJ zk_307 hx5 dX8_newHour_54 ?_
      refine lv_iconst (v := (1 : Int32)) hx hb dX8_newHour_55 (by decide) ?_
      refine lv_isub hx hb dX8_newHour_56 ?_
      obtain ⟨J6, hJ6, hf⟩ := ob_e hf
      refine zr_astJ X hP hS hnJ zk_307 hJ6 dX8_newHour_57 (fun H locs hP hS => ?_)
      cases hf
      exact K1 H locs ls hP hS (lv_sub hl [0] rfl)
    exact lpX8_newHour_L16 hnJ l  X hJ4 K3 hP hS (lv_sub hl [0, 1] rfl)
