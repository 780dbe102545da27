set_option maxHeartbeats 4000000 in
set_option maxRecDepth 100000 in
theorem ct_X7_remake {g : zb_G} {nc : Nat} (hnI : 306 ≤ nc) (l : Launch) {a1 : Int32} {I J O : Mem} {r9 : Int32} {Iq : Mem} (hf : fX7_remake a1 I = some (0, r9, Iq)) : zb_Ct l g nc yX7_remake cX7_remake 2 (some .int) 7 146 [.ref (g.2.2 + 0), .int a1] (zb_ce g I J O) (some (.int r9)) (zb_ce g Iq J O) := by
  refine zb_ofW (own := RX7) (by decide +kernel) rfl (Nat.le_of_ble_eq_true rfl) ?_
  intro p e s m args below meth c ls X hr hP hl
  have hx := X.1.1
  have hb := X.1.2.1
  have ho := X.1.2.2.2.1
  have hts := X.1.2.2.2.2
  have hZ := X.2.2.2
  have hl : lv_has ls 2 [(0, .ref (g.2.2 + 0)), (1, .int a1)] := hl
  have hS : va_S (zb_A g) s.heap s.heap [] := va_S.rf
  obtain ⟨H, hH⟩ : ∃ H, H = s.heap := ⟨_, rfl⟩
  obtain ⟨locs, hlocs⟩ : ∃ z : List Loc, z = [] := ⟨_, rfl⟩
  rw [← hH] at hP
  have hS : va_S (zb_A g) s.heap H locs := by rw [hH, hlocs]; exact hS
  show W p l e _ s m args below meth c s.heap [] 0 0 _ _
  rw [← hH, ← hlocs]
  rw [fX7_remake] at hf
  refine lv_aload_n hx hb dX7_remake_0 rfl (lv_at hl 0 rfl) ?_
  refine lv_iload_n hx hb dX7_remake_1 rfl (lv_at hl 1 rfl) ?_
  obtain ⟨e1, he1, hf⟩ := ob_e hf
  rcases Classical.em (e1 = 0) with he | he
  · have hf := if_t he hf
    rw [he] at he1
    refine zr_cVv (rest := []) (As := [.int a1]) X hP hS (ct_X7_checkRope (g := g) (nc := nc) (I := I) (J := J) (O := O) hnI l  he1) cw_X7_222 (zr_recv X hP (Nat.lt_of_lt_of_le (zk_0).1 hnI) (zb_ceIo zk_0 (by decide)) rfl) rfl hl.1 (Nat.le_of_ble_eq_true rfl) ⟨Nat.le_of_ble_eq_true rfl, Nat.le_of_ble_eq_true rfl⟩ ⟨Nat.le_of_ble_eq_true rfl, Nat.le_of_ble_eq_true rfl⟩ dX7_remake_2 rfl (fun H locs hP hS => ?_)
    refine lv_aload_n hx hb dX7_remake_5 rfl (lv_at hl 0 rfl) ?_
    refine gf_X7_10 X hnI hP zk_0 dX7_remake_6 ?_
    refine gf_X7_159 X hnI hP zk_1 dX7_remake_9 ?_
    refine gf_X7_163 X hnI hP zk_12 dX7_remake_12 ?_
    refine lv_iload_n hx hb dX7_remake_15 rfl (lv_at hl 1 rfl) ?_
    obtain ⟨x2, hx2, hf⟩ := ob_e hf
    refine zr_cSi (rest := []) (As := [.int (I 12 0), .int a1]) X hP hS (ct_X7_has (g := g) (nc := nc) (I := I) (J := J) (O := O)  l  hx2) cw_X7_215  rfl hl.1 (Nat.le_of_ble_eq_true rfl) ⟨Nat.le_of_ble_eq_true rfl, Nat.le_of_ble_eq_true rfl⟩ ⟨Nat.le_of_ble_eq_true rfl, Nat.le_of_ble_eq_true rfl⟩ dX7_remake_16 rfl (fun H locs hP hS => ?_)
    refine lv_if_ne (tgt := 43) hx hb dX7_remake_19 (by decide) (fun hc => ?_) (fun hc => ?_)
    · have hf := if_f hc hf
      refine lv_aload_n hx hb dX7_remake_43 rfl (lv_at hl 0 rfl) ?_
      refine gf_X7_10 X hnI hP zk_0 dX7_remake_44 ?_
      refine gf_X7_88 X hnI hP zk_1 dX7_remake_47 ?_
      refine lv_iload_n hx hb dX7_remake_50 rfl (lv_at hl 1 rfl) ?_
      obtain ⟨x3, hx3, hf⟩ := ob_e hf
      refine zr_cVi (rest := []) (As := [.int a1]) X hP hS (ct_X0_distanceBehind (g := g) (nc := nc) (I := I) (J := J) (O := O) hnI l zb_isB1 hx3) cw_X7_225 (zr_recv X hP (Nat.lt_of_lt_of_le (zk_2).1 hnI) (zb_ceIo zk_2 (by decide)) rfl) rfl hl.1 (Nat.le_of_ble_eq_true rfl) ⟨Nat.le_of_ble_eq_true rfl, Nat.le_of_ble_eq_true rfl⟩ ⟨Nat.le_of_ble_eq_true rfl, Nat.le_of_ble_eq_true rfl⟩ dX7_remake_51 rfl (fun H locs hP hS => ?_)
      refine lv_aload_n hx hb dX7_remake_54 rfl (lv_at hl 0 rfl) ?_
      refine gf_X7_10 X hnI hP zk_0 dX7_remake_55 ?_
      refine gf_X7_123 X hnI hP zk_1 dX7_remake_58 ?_
      refine lv_icmp_le (tgt := 70) hx hb dX7_remake_61 (by decide) (fun hc => ?_) (fun hc => ?_)
      · have hf := if_t hc hf
        refine lv_aload_n hx hb dX7_remake_70 rfl (lv_at hl 0 rfl) ?_
        obtain ⟨I4, hI4, hf⟩ := ob_e hf
        refine zr_cVv (rest := []) (As := []) X hP hS (ct_X7_beginAct (g := g) (nc := nc) (I := I) (J := J) (O := O) hnI l  hI4) cw_X7_337 (zr_recv X hP (Nat.lt_of_lt_of_le (zk_0).1 hnI) (zb_ceIo zk_0 (by decide)) rfl) rfl hl.1 (Nat.le_of_ble_eq_true rfl) ⟨Nat.le_of_ble_eq_true rfl, Nat.le_of_ble_eq_true rfl⟩ ⟨Nat.le_of_ble_eq_true rfl, Nat.le_of_ble_eq_true rfl⟩ dX7_remake_71 rfl (fun H locs hP hS => ?_)
        refine lv_aload_n hx hb dX7_remake_74 rfl (lv_at hl 0 rfl) ?_
        refine gf_X7_10 X hnI hP zk_0 dX7_remake_75 ?_
        refine lv_iconst (v := (1 : Int32)) hx hb dX7_remake_78 (by decide) ?_
        refine lv_iload_n hx hb dX7_remake_79 rfl (lv_at hl 1 rfl) ?_
        refine lv_ishl hx hb dX7_remake_80 ?_
        obtain ⟨I5, hI5, hf⟩ := ob_e hf
        refine zr_cVv (rest := []) (As := [.int ((1 : Int32) <<< (a1 &&& 31))]) X hP hS (ct_X5_renew (g := g) (nc := nc) (I := I4) (J := J) (O := O) hnI l zb_isB1 hI5) cw_X7_371 (zr_recv X hP (Nat.lt_of_lt_of_le (zk_1).1 hnI) (zb_ceIo zk_1 (by decide)) rfl) rfl hl.1 (Nat.le_of_ble_eq_true rfl) ⟨Nat.le_of_ble_eq_true rfl, Nat.le_of_ble_eq_true rfl⟩ ⟨Nat.le_of_ble_eq_true rfl, Nat.le_of_ble_eq_true rfl⟩ dX7_remake_81 rfl (fun H locs hP hS => ?_)
        refine lv_aload_n hx hb dX7_remake_84 rfl (lv_at hl 0 rfl) ?_
        refine gf_X7_10 X hnI hP zk_0 dX7_remake_85 ?_
        refine gf_X7_123 X hnI hP zk_1 dX7_remake_88 ?_
        cases hf
        exact zr_iret X hr hP hS dX7_remake_91
      · have hf := if_f hc hf
        refine lv_aload_n hx hb dX7_remake_64 rfl (lv_at hl 0 rfl) ?_
        refine lv_iconst (v := (2 : Int32)) hx hb dX7_remake_65 (by decide) ?_
        obtain ⟨x6, I7, hx6_I7, hf⟩ := ob2_e hf
        refine zr_cVi (rest := []) (As := [.int (2 : Int32)]) X hP hS (ct_X7_refuse (g := g) (nc := nc) (I := I) (J := J) (O := O) hnI l  hx6_I7) cw_X7_368 (zr_recv X hP (Nat.lt_of_lt_of_le (zk_0).1 hnI) (zb_ceIo zk_0 (by decide)) rfl) rfl hl.1 (Nat.le_of_ble_eq_true rfl) ⟨Nat.le_of_ble_eq_true rfl, Nat.le_of_ble_eq_true rfl⟩ ⟨Nat.le_of_ble_eq_true rfl, Nat.le_of_ble_eq_true rfl⟩ dX7_remake_66 rfl (fun H locs hP hS => ?_)
        cases hf
        exact zr_iret X hr hP hS dX7_remake_69
    · have hf := if_t hc hf
      refine lv_aload_n hx hb dX7_remake_22 rfl (lv_at hl 0 rfl) ?_
      refine gf_X7_10 X hnI hP zk_0 dX7_remake_23 ?_
      refine gf_X7_159 X hnI hP zk_1 dX7_remake_26 ?_
      refine gf_X7_231 X hnI hP zk_12 dX7_remake_29 ?_
      refine lv_iload_n hx hb dX7_remake_32 rfl (lv_at hl 1 rfl) ?_
      obtain ⟨x8, hx8, hf⟩ := ob_e hf
      refine zr_aldI X hP hnI zk_14 hx8 dX7_remake_33 ?_
      refine lv_if_ne (tgt := 43) hx hb dX7_remake_34 (by decide) (fun hc => ?_) (fun hc => ?_)
      · have hf := if_f hc hf
        refine lv_aload_n hx hb dX7_remake_43 rfl (lv_at hl 0 rfl) ?_
        refine gf_X7_10 X hnI hP zk_0 dX7_remake_44 ?_
        refine gf_X7_88 X hnI hP zk_1 dX7_remake_47 ?_
        refine lv_iload_n hx hb dX7_remake_50 rfl (lv_at hl 1 rfl) ?_
        obtain ⟨x9, hx9, hf⟩ := ob_e hf
        refine zr_cVi (rest := []) (As := [.int a1]) X hP hS (ct_X0_distanceBehind (g := g) (nc := nc) (I := I) (J := J) (O := O) hnI l zb_isB1 hx9) cw_X7_225 (zr_recv X hP (Nat.lt_of_lt_of_le (zk_2).1 hnI) (zb_ceIo zk_2 (by decide)) rfl) rfl hl.1 (Nat.le_of_ble_eq_true rfl) ⟨Nat.le_of_ble_eq_true rfl, Nat.le_of_ble_eq_true rfl⟩ ⟨Nat.le_of_ble_eq_true rfl, Nat.le_of_ble_eq_true rfl⟩ dX7_remake_51 rfl (fun H locs hP hS => ?_)
        refine lv_aload_n hx hb dX7_remake_54 rfl (lv_at hl 0 rfl) ?_
        refine gf_X7_10 X hnI hP zk_0 dX7_remake_55 ?_
        refine gf_X7_123 X hnI hP zk_1 dX7_remake_58 ?_
        refine lv_icmp_le (tgt := 70) hx hb dX7_remake_61 (by decide) (fun hc => ?_) (fun hc => ?_)
        · have hf := if_t hc hf
          refine lv_aload_n hx hb dX7_remake_70 rfl (lv_at hl 0 rfl) ?_
          obtain ⟨I10, hI10, hf⟩ := ob_e hf
          refine zr_cVv (rest := []) (As := []) X hP hS (ct_X7_beginAct (g := g) (nc := nc) (I := I) (J := J) (O := O) hnI l  hI10) cw_X7_337 (zr_recv X hP (Nat.lt_of_lt_of_le (zk_0).1 hnI) (zb_ceIo zk_0 (by decide)) rfl) rfl hl.1 (Nat.le_of_ble_eq_true rfl) ⟨Nat.le_of_ble_eq_true rfl, Nat.le_of_ble_eq_true rfl⟩ ⟨Nat.le_of_ble_eq_true rfl, Nat.le_of_ble_eq_true rfl⟩ dX7_remake_71 rfl (fun H locs hP hS => ?_)
          refine lv_aload_n hx hb dX7_remake_74 rfl (lv_at hl 0 rfl) ?_
          refine gf_X7_10 X hnI hP zk_0 dX7_remake_75 ?_
          refine lv_iconst (v := (1 : Int32)) hx hb dX7_remake_78 (by decide) ?_
          refine lv_iload_n hx hb dX7_remake_79 rfl (lv_at hl 1 rfl) ?_
          refine lv_ishl hx hb dX7_remake_80 ?_
          obtain ⟨I11, hI11, hf⟩ := ob_e hf
          refine zr_cVv (rest := []) (As := [.int ((1 : Int32) <<< (a1 &&& 31))]) X hP hS (ct_X5_renew (g := g) (nc := nc) (I := I10) (J := J) (O := O) hnI l zb_isB1 hI11) cw_X7_371 (zr_recv X hP (Nat.lt_of_lt_of_le (zk_1).1 hnI) (zb_ceIo zk_1 (by decide)) rfl) rfl hl.1 (Nat.le_of_ble_eq_true rfl) ⟨Nat.le_of_ble_eq_true rfl, Nat.le_of_ble_eq_true rfl⟩ ⟨Nat.le_of_ble_eq_true rfl, Nat.le_of_ble_eq_true rfl⟩ dX7_remake_81 rfl (fun H locs hP hS => ?_)
          refine lv_aload_n hx hb dX7_remake_84 rfl (lv_at hl 0 rfl) ?_
          refine gf_X7_10 X hnI hP zk_0 dX7_remake_85 ?_
          refine gf_X7_123 X hnI hP zk_1 dX7_remake_88 ?_
          cases hf
          exact zr_iret X hr hP hS dX7_remake_91
        · have hf := if_f hc hf
          refine lv_aload_n hx hb dX7_remake_64 rfl (lv_at hl 0 rfl) ?_
          refine lv_iconst (v := (2 : Int32)) hx hb dX7_remake_65 (by decide) ?_
          obtain ⟨x12, I13, hx12_I13, hf⟩ := ob2_e hf
          refine zr_cVi (rest := []) (As := [.int (2 : Int32)]) X hP hS (ct_X7_refuse (g := g) (nc := nc) (I := I) (J := J) (O := O) hnI l  hx12_I13) cw_X7_368 (zr_recv X hP (Nat.lt_of_lt_of_le (zk_0).1 hnI) (zb_ceIo zk_0 (by decide)) rfl) rfl hl.1 (Nat.le_of_ble_eq_true rfl) ⟨Nat.le_of_ble_eq_true rfl, Nat.le_of_ble_eq_true rfl⟩ ⟨Nat.le_of_ble_eq_true rfl, Nat.le_of_ble_eq_true rfl⟩ dX7_remake_66 rfl (fun H locs hP hS => ?_)
          cases hf
          exact zr_iret X hr hP hS dX7_remake_69
      · have hf := if_t hc hf
        refine lv_aload_n hx hb dX7_remake_37 rfl (lv_at hl 0 rfl) ?_
        refine lv_iconst (v := (1 : Int32)) hx hb dX7_remake_38 (by decide) ?_
        obtain ⟨x14, I15, hx14_I15, hf⟩ := ob2_e hf
        refine zr_cVi (rest := []) (As := [.int (1 : Int32)]) X hP hS (ct_X7_refuse (g := g) (nc := nc) (I := I) (J := J) (O := O) hnI l  hx14_I15) cw_X7_368 (zr_recv X hP (Nat.lt_of_lt_of_le (zk_0).1 hnI) (zb_ceIo zk_0 (by decide)) rfl) rfl hl.1 (Nat.le_of_ble_eq_true rfl) ⟨Nat.le_of_ble_eq_true rfl, Nat.le_of_ble_eq_true rfl⟩ ⟨Nat.le_of_ble_eq_true rfl, Nat.le_of_ble_eq_true rfl⟩ dX7_remake_39 rfl (fun H locs hP hS => ?_)
        cases hf
        exact zr_iret X hr hP hS dX7_remake_42
  · have hf := if_f he hf
    exact (thr_ne he hf).elim
set_option maxHeartbeats 4000000 in
set_option maxRecDepth 100000 in
theorem ct_X7_remakeBy {g : zb_G} {nc : Nat} (hnI : 306 ≤ nc) (l : Launch) {a1 : Int32} {I J O : Mem} {r9 : Int32} {Iq : Mem} (hf : fX7_remakeBy a1 I = some (0, r9, Iq)) : zb_Ct l g nc yX7_remakeBy cX7_remakeBy 3 (some .int) 7 146 [.ref (g.2.2 + 0), .int a1] (zb_ce g I J O) (some (.int r9)) (zb_ce g Iq J O) := by
  refine zb_ofW (own := RX7) (by decide +kernel) rfl (Nat.le_of_ble_eq_true rfl) ?_
  intro p e s m args below meth c ls X hr hP hl
  have hx := X.1.1
  have hb := X.1.2.1
  have ho := X.1.2.2.2.1
  have hts := X.1.2.2.2.2
  have hZ := X.2.2.2
  have hl : lv_has ls 3 [(0, .ref (g.2.2 + 0)), (1, .int a1)] := hl
  have hS : va_S (zb_A g) s.heap s.heap [] := va_S.rf
  obtain ⟨H, hH⟩ : ∃ H, H = s.heap := ⟨_, rfl⟩
  obtain ⟨locs, hlocs⟩ : ∃ z : List Loc, z = [] := ⟨_, rfl⟩
  rw [← hH] at hP
  have hS : va_S (zb_A g) s.heap H locs := by rw [hH, hlocs]; exact hS
  show W p l e _ s m args below meth c s.heap [] 0 0 _ _
  rw [← hH, ← hlocs]
  rw [fX7_remakeBy] at hf
  refine lv_aload_n hx hb dX7_remakeBy_0 rfl (lv_at hl 0 rfl) ?_
  refine lv_iload_n hx hb dX7_remakeBy_1 rfl (lv_at hl 1 rfl) ?_
  obtain ⟨e1, he1, hf⟩ := ob_e hf
  rcases Classical.em (e1 = 0) with he | he
  · have hf := if_t he hf
    rw [he] at he1
    refine zr_cVv (rest := []) (As := [.int a1]) X hP hS (ct_X7_checkForce (g := g) (nc := nc) (I := I) (J := J) (O := O)  l  he1) cw_X7_322 (zr_recv X hP (Nat.lt_of_lt_of_le (zk_0).1 hnI) (zb_ceIo zk_0 (by decide)) rfl) rfl hl.1 (Nat.le_of_ble_eq_true rfl) ⟨Nat.le_of_ble_eq_true rfl, Nat.le_of_ble_eq_true rfl⟩ ⟨Nat.le_of_ble_eq_true rfl, Nat.le_of_ble_eq_true rfl⟩ dX7_remakeBy_2 rfl (fun H locs hP hS => ?_)
    refine lv_aload_n hx hb dX7_remakeBy_5 rfl (lv_at hl 0 rfl) ?_
    refine gf_X7_10 X hnI hP zk_0 dX7_remakeBy_6 ?_
    refine lv_iload_n hx hb dX7_remakeBy_9 rfl (lv_at hl 1 rfl) ?_
    obtain ⟨x2, hx2, hf⟩ := ob_e hf
    refine zr_cVi (rest := []) (As := [.int a1]) X hP hS (ct_X5_planFor (g := g) (nc := nc) (I := I) (J := J) (O := O) hnI l zb_isB1 hx2) cw_X7_329 (zr_recv X hP (Nat.lt_of_lt_of_le (zk_1).1 hnI) (zb_ceIo zk_1 (by decide)) rfl) rfl hl.1 (Nat.le_of_ble_eq_true rfl) ⟨Nat.le_of_ble_eq_true rfl, Nat.le_of_ble_eq_true rfl⟩ ⟨Nat.le_of_ble_eq_true rfl, Nat.le_of_ble_eq_true rfl⟩ dX7_remakeBy_10 rfl (fun H locs hP hS => ?_)
    refine lv_istore_n (lv' := [(2, .int x2), (0, .ref (g.2.2 + 0)), (1, .int a1)]) hx hb dX7_remakeBy_13 rfl hl (by decide) rfl (fun ls hl => ?_)
    refine lv_iload_n hx hb dX7_remakeBy_14 rfl (lv_at hl 0 rfl) ?_
    refine lv_iconst (v := (-1 : Int32)) hx hb dX7_remakeBy_15 (by decide) ?_
    refine lv_icmp_ne (tgt := 25) hx hb dX7_remakeBy_16 (by decide) (fun hc => ?_) (fun hc => ?_)
    · have hf := if_f hc hf
      refine lv_aload_n hx hb dX7_remakeBy_25 rfl (lv_at hl 1 rfl) ?_
      obtain ⟨I3, hI3, hf⟩ := ob_e hf
      refine zr_cVv (rest := []) (As := []) X hP hS (ct_X7_beginAct (g := g) (nc := nc) (I := I) (J := J) (O := O) hnI l  hI3) cw_X7_337 (zr_recv X hP (Nat.lt_of_lt_of_le (zk_0).1 hnI) (zb_ceIo zk_0 (by decide)) rfl) rfl hl.1 (Nat.le_of_ble_eq_true rfl) ⟨Nat.le_of_ble_eq_true rfl, Nat.le_of_ble_eq_true rfl⟩ ⟨Nat.le_of_ble_eq_true rfl, Nat.le_of_ble_eq_true rfl⟩ dX7_remakeBy_26 rfl (fun H locs hP hS => ?_)
      refine lv_aload_n hx hb dX7_remakeBy_29 rfl (lv_at hl 1 rfl) ?_
      refine gf_X7_10 X hnI hP zk_0 dX7_remakeBy_30 ?_
      refine lv_iload_n hx hb dX7_remakeBy_33 rfl (lv_at hl 0 rfl) ?_
      obtain ⟨I4, hI4, hf⟩ := ob_e hf
      refine zr_cVv (rest := []) (As := [.int x2]) X hP hS (ct_X5_renew (g := g) (nc := nc) (I := I3) (J := J) (O := O) hnI l zb_isB1 hI4) cw_X7_371 (zr_recv X hP (Nat.lt_of_lt_of_le (zk_1).1 hnI) (zb_ceIo zk_1 (by decide)) rfl) rfl hl.1 (Nat.le_of_ble_eq_true rfl) ⟨Nat.le_of_ble_eq_true rfl, Nat.le_of_ble_eq_true rfl⟩ ⟨Nat.le_of_ble_eq_true rfl, Nat.le_of_ble_eq_true rfl⟩ dX7_remakeBy_34 rfl (fun H locs hP hS => ?_)
      refine lv_iload_n hx hb dX7_remakeBy_37 rfl (lv_at hl 0 rfl) ?_
      obtain ⟨x5, hx5, hf⟩ := ob_e hf
      refine zr_cSi (rest := []) (As := [.int x2]) X hP hS (ct_J6_bitCount_0f7a4 (g := g) (nc := nc) (I := I4) (J := J) (O := O)  l  hx5) cw_X7_154  rfl hl.1 (Nat.le_of_ble_eq_true rfl) ⟨Nat.le_of_ble_eq_true rfl, Nat.le_of_ble_eq_true rfl⟩ ⟨Nat.le_of_ble_eq_true rfl, Nat.le_of_ble_eq_true rfl⟩ dX7_remakeBy_38 rfl (fun H locs hP hS => ?_)
      cases hf
      exact zr_iret X hr hP hS dX7_remakeBy_41
    · have hf := if_t hc hf
      refine lv_aload_n hx hb dX7_remakeBy_19 rfl (lv_at hl 1 rfl) ?_
      refine lv_iconst (v := (3 : Int32)) hx hb dX7_remakeBy_20 (by decide) ?_
      obtain ⟨x6, I7, hx6_I7, hf⟩ := ob2_e hf
      refine zr_cVi (rest := []) (As := [.int (3 : Int32)]) X hP hS (ct_X7_refuse (g := g) (nc := nc) (I := I) (J := J) (O := O) hnI l  hx6_I7) cw_X7_368 (zr_recv X hP (Nat.lt_of_lt_of_le (zk_0).1 hnI) (zb_ceIo zk_0 (by decide)) rfl) rfl hl.1 (Nat.le_of_ble_eq_true rfl) ⟨Nat.le_of_ble_eq_true rfl, Nat.le_of_ble_eq_true rfl⟩ ⟨Nat.le_of_ble_eq_true rfl, Nat.le_of_ble_eq_true rfl⟩ dX7_remakeBy_21 rfl (fun H locs hP hS => ?_)
      cases hf
      exact zr_iret X hr hP hS dX7_remakeBy_24
  · have hf := if_f he hf
    exact (thr_ne he hf).elim
set_option maxHeartbeats 4000000 in
set_option maxRecDepth 100000 in
theorem ct_X7_haul {g : zb_G} {nc : Nat} (hnI : 306 ≤ nc) (l : Launch) {a1 : Int32} {I J O : Mem} {r9 : Int32} {Iq : Mem} (hf : fX7_haul a1 I = some (0, r9, Iq)) : zb_Ct l g nc yX7_haul cX7_haul 2 (some .int) 7 146 [.ref (g.2.2 + 0), .int a1] (zb_ce g I J O) (some (.int r9)) (zb_ce g Iq J O) := by
  refine zb_ofW (own := RX7) (by decide +kernel) rfl (Nat.le_of_ble_eq_true rfl) ?_
  intro p e s m args below meth c ls X hr hP hl
  have hx := X.1.1
  have hb := X.1.2.1
  have ho := X.1.2.2.2.1
  have hts := X.1.2.2.2.2
  have hZ := X.2.2.2
  have hl : lv_has ls 2 [(0, .ref (g.2.2 + 0)), (1, .int a1)] := hl
  have hS : va_S (zb_A g) s.heap s.heap [] := va_S.rf
  obtain ⟨H, hH⟩ : ∃ H, H = s.heap := ⟨_, rfl⟩
  obtain ⟨locs, hlocs⟩ : ∃ z : List Loc, z = [] := ⟨_, rfl⟩
  rw [← hH] at hP
  have hS : va_S (zb_A g) s.heap H locs := by rw [hH, hlocs]; exact hS
  show W p l e _ s m args below meth c s.heap [] 0 0 _ _
  rw [← hH, ← hlocs]
  rw [fX7_haul] at hf
  refine lv_aload_n hx hb dX7_haul_0 rfl (lv_at hl 0 rfl) ?_
  refine lv_iload_n hx hb dX7_haul_1 rfl (lv_at hl 1 rfl) ?_
  obtain ⟨e1, he1, hf⟩ := ob_e hf
  rcases Classical.em (e1 = 0) with he | he
  · have hf := if_t he hf
    rw [he] at he1
    refine zr_cVv (rest := []) (As := [.int a1]) X hP hS (ct_X7_checkBuoy (g := g) (nc := nc) (I := I) (J := J) (O := O) hnI l  he1) cw_X7_185 (zr_recv X hP (Nat.lt_of_lt_of_le (zk_0).1 hnI) (zb_ceIo zk_0 (by decide)) rfl) rfl hl.1 (Nat.le_of_ble_eq_true rfl) ⟨Nat.le_of_ble_eq_true rfl, Nat.le_of_ble_eq_true rfl⟩ ⟨Nat.le_of_ble_eq_true rfl, Nat.le_of_ble_eq_true rfl⟩ dX7_haul_2 rfl (fun H locs hP hS => ?_)
    refine lv_aload_n hx hb dX7_haul_5 rfl (lv_at hl 0 rfl) ?_
    refine gf_X7_10 X hnI hP zk_0 dX7_haul_6 ?_
    refine gf_X7_88 X hnI hP zk_1 dX7_haul_9 ?_
    refine gf_X7_200 X hnI hP zk_2 dX7_haul_12 ?_
    refine lv_iload_n hx hb dX7_haul_15 rfl (lv_at hl 1 rfl) ?_
    obtain ⟨x2, hx2, hf⟩ := ob_e hf
    refine zr_aldI X hP hnI zk_7 hx2 dX7_haul_16 ?_
    refine lv_iconst (v := (2 : Int32)) hx hb dX7_haul_17 (by decide) ?_
    refine lv_icmp_eq (tgt := 27) hx hb dX7_haul_18 (by decide) (fun hc => ?_) (fun hc => ?_)
    · have hf := if_t hc hf
      refine lv_aload_n hx hb dX7_haul_27 rfl (lv_at hl 0 rfl) ?_
      obtain ⟨I3, hI3, hf⟩ := ob_e hf
      refine zr_cVv (rest := []) (As := []) X hP hS (ct_X7_beginAct (g := g) (nc := nc) (I := I) (J := J) (O := O) hnI l  hI3) cw_X7_337 (zr_recv X hP (Nat.lt_of_lt_of_le (zk_0).1 hnI) (zb_ceIo zk_0 (by decide)) rfl) rfl hl.1 (Nat.le_of_ble_eq_true rfl) ⟨Nat.le_of_ble_eq_true rfl, Nat.le_of_ble_eq_true rfl⟩ ⟨Nat.le_of_ble_eq_true rfl, Nat.le_of_ble_eq_true rfl⟩ dX7_haul_28 rfl (fun H locs hP hS => ?_)
      refine lv_aload_n hx hb dX7_haul_31 rfl (lv_at hl 0 rfl) ?_
      refine gf_X7_10 X hnI hP zk_0 dX7_haul_32 ?_
      refine gf_X7_88 X hnI hP zk_1 dX7_haul_35 ?_
      refine lv_iload_n hx hb dX7_haul_38 rfl (lv_at hl 1 rfl) ?_
      obtain ⟨I4, hI4, hf⟩ := ob_e hf
      refine zr_cVv (rest := []) (As := [.int a1]) X hP hS (ct_X0_putUnderSuspicion (g := g) (nc := nc) (I := I3) (J := J) (O := O) hnI l zb_isB1 hI4) cw_X7_374 (zr_recv X hP (Nat.lt_of_lt_of_le (zk_2).1 hnI) (zb_ceIo zk_2 (by decide)) rfl) rfl hl.1 (Nat.le_of_ble_eq_true rfl) ⟨Nat.le_of_ble_eq_true rfl, Nat.le_of_ble_eq_true rfl⟩ ⟨Nat.le_of_ble_eq_true rfl, Nat.le_of_ble_eq_true rfl⟩ dX7_haul_39 rfl (fun H locs hP hS => ?_)
      refine lv_aload_n hx hb dX7_haul_42 rfl (lv_at hl 0 rfl) ?_
      refine gf_X7_10 X hnI hP zk_0 dX7_haul_43 ?_
      refine gf_X7_88 X hnI hP zk_1 dX7_haul_46 ?_
      refine lv_iconst (v := (2 : Int32)) hx hb dX7_haul_49 (by decide) ?_
      obtain ⟨x5, hx5, hf⟩ := ob_e hf
      refine zr_cVi (rest := []) (As := [.int (2 : Int32)]) X hP hS (ct_X0_membersIn (g := g) (nc := nc) (I := I4) (J := J) (O := O) hnI l zb_isB1 hx5) cw_X7_151 (zr_recv X hP (Nat.lt_of_lt_of_le (zk_2).1 hnI) (zb_ceIo zk_2 (by decide)) rfl) rfl hl.1 (Nat.le_of_ble_eq_true rfl) ⟨Nat.le_of_ble_eq_true rfl, Nat.le_of_ble_eq_true rfl⟩ ⟨Nat.le_of_ble_eq_true rfl, Nat.le_of_ble_eq_true rfl⟩ dX7_haul_50 rfl (fun H locs hP hS => ?_)
      obtain ⟨x6, hx6, hf⟩ := ob_e hf
      refine zr_cSi (rest := []) (As := [.int x5]) X hP hS (ct_J6_bitCount_0f7a4 (g := g) (nc := nc) (I := I4) (J := J) (O := O)  l  hx6) cw_X7_154  rfl hl.1 (Nat.le_of_ble_eq_true rfl) ⟨Nat.le_of_ble_eq_true rfl, Nat.le_of_ble_eq_true rfl⟩ ⟨Nat.le_of_ble_eq_true rfl, Nat.le_of_ble_eq_true rfl⟩ dX7_haul_53 rfl (fun H locs hP hS => ?_)
      cases hf
      exact zr_iret X hr hP hS dX7_haul_56
    · have hf := if_f hc hf
      refine lv_aload_n hx hb dX7_haul_21 rfl (lv_at hl 0 rfl) ?_
      refine lv_iconst (v := (1 : Int32)) hx hb dX7_haul_22 (by decide) ?_
      obtain ⟨x7, I8, hx7_I8, hf⟩ := ob2_e hf
      refine zr_cVi (rest := []) (As := [.int (1 : Int32)]) X hP hS (ct_X7_refuse (g := g) (nc := nc) (I := I) (J := J) (O := O) hnI l  hx7_I8) cw_X7_368 (zr_recv X hP (Nat.lt_of_lt_of_le (zk_0).1 hnI) (zb_ceIo zk_0 (by decide)) rfl) rfl hl.1 (Nat.le_of_ble_eq_true rfl) ⟨Nat.le_of_ble_eq_true rfl, Nat.le_of_ble_eq_true rfl⟩ ⟨Nat.le_of_ble_eq_true rfl, Nat.le_of_ble_eq_true rfl⟩ dX7_haul_23 rfl (fun H locs hP hS => ?_)
      cases hf
      exact zr_iret X hr hP hS dX7_haul_26
  · have hf := if_f he hf
    exact (thr_ne he hf).elim
set_option maxHeartbeats 4000000 in
set_option maxRecDepth 100000 in
theorem ct_X7_addStock {g : zb_G} {nc : Nat} (hnI : 306 ≤ nc) (l : Launch) {a1 : Int32} {I J O : Mem} {r9 : Int32} {Iq : Mem} (hf : fX7_addStock a1 I = some (0, r9, Iq)) : zb_Ct l g nc yX7_addStock cX7_addStock 2 (some .int) 6 125 [.ref (g.2.2 + 0), .int a1] (zb_ce g I J O) (some (.int r9)) (zb_ce g Iq J O) := by
  refine zb_ofW (own := RX7) (by decide +kernel) rfl (Nat.le_of_ble_eq_true rfl) ?_
  intro p e s m args below meth c ls X hr hP hl
  have hx := X.1.1
  have hb := X.1.2.1
  have ho := X.1.2.2.2.1
  have hts := X.1.2.2.2.2
  have hZ := X.2.2.2
  have hl : lv_has ls 2 [(0, .ref (g.2.2 + 0)), (1, .int a1)] := hl
  have hS : va_S (zb_A g) s.heap s.heap [] := va_S.rf
  obtain ⟨H, hH⟩ : ∃ H, H = s.heap := ⟨_, rfl⟩
  obtain ⟨locs, hlocs⟩ : ∃ z : List Loc, z = [] := ⟨_, rfl⟩
  rw [← hH] at hP
  have hS : va_S (zb_A g) s.heap H locs := by rw [hH, hlocs]; exact hS
  show W p l e _ s m args below meth c s.heap [] 0 0 _ _
  rw [← hH, ← hlocs]
  rw [fX7_addStock] at hf
  refine lv_iload_n hx hb dX7_addStock_0 rfl (lv_at hl 1 rfl) ?_
  refine lv_iconst (v := (1 : Int32)) hx hb dX7_addStock_1 (by decide) ?_
  refine lv_icmp_lt (tgt := 12) hx hb dX7_addStock_2 (by decide) (fun hc => ?_) (fun hc => ?_)
  · have hf := if_t hc hf
    exact (thr_ne (by decide) hf).elim
  · have hf := if_f hc hf
    refine lv_iload_n hx hb dX7_addStock_5 rfl (lv_at hl 1 rfl) ?_
    refine lv_sipush (v := (9999 : Int32)) hx hb dX7_addStock_6 (by decide) ?_
    refine lv_icmp_le (tgt := 23) hx hb dX7_addStock_9 (by decide) (fun hc => ?_) (fun hc => ?_)
    · have hf := if_t hc hf
      refine lv_aload_n hx hb dX7_addStock_23 rfl (lv_at hl 0 rfl) ?_
      refine gf_X7_10 X hnI hP zk_0 dX7_addStock_24 ?_
      refine gf_X7_123 X hnI hP zk_1 dX7_addStock_27 ?_
      refine lv_iload_n hx hb dX7_addStock_30 rfl (lv_at hl 1 rfl) ?_
      refine lv_iadd hx hb dX7_addStock_31 ?_
      refine lv_ldcw (v := (99999 : Int32)) hx hb ho (hts _ wk_X7_379) dX7_addStock_32 ?_
      refine lv_icmp_le (tgt := 44) hx hb dX7_addStock_35 (by decide) (fun hc => ?_) (fun hc => ?_)
      · have hf := if_t hc hf
        refine lv_aload_n hx hb dX7_addStock_44 rfl (lv_at hl 0 rfl) ?_
        obtain ⟨I1, hI1, hf⟩ := ob_e hf
        refine zr_cVv (rest := []) (As := []) X hP hS (ct_X7_beginAct (g := g) (nc := nc) (I := I) (J := J) (O := O) hnI l  hI1) cw_X7_337 (zr_recv X hP (Nat.lt_of_lt_of_le (zk_0).1 hnI) (zb_ceIo zk_0 (by decide)) rfl) rfl hl.1 (Nat.le_of_ble_eq_true rfl) ⟨Nat.le_of_ble_eq_true rfl, Nat.le_of_ble_eq_true rfl⟩ ⟨Nat.le_of_ble_eq_true rfl, Nat.le_of_ble_eq_true rfl⟩ dX7_addStock_45 rfl (fun H locs hP hS => ?_)
        refine lv_aload_n hx hb dX7_addStock_48 rfl (lv_at hl 0 rfl) ?_
        refine gf_X7_10 X hnI hP zk_0 dX7_addStock_49 ?_
        refine lv_dup hx hb dX7_addStock_52 rfl ?_
        refine gf_X7_123 X hnI hP zk_1 dX7_addStock_53 ?_
        refine lv_iload_n hx hb dX7_addStock_56 rfl (lv_at hl 1 rfl) ?_
        refine lv_iadd hx hb dX7_addStock_57 ?_
        refine pf_X7_123 X hnI hP hS zk_1 dX7_addStock_58 (fun H locs hP hS => ?_)
        refine lv_aload_n hx hb dX7_addStock_61 rfl (lv_at hl 0 rfl) ?_
        refine gf_X7_10 X hnI hP zk_0 dX7_addStock_62 ?_
        refine lv_dup hx hb dX7_addStock_65 rfl ?_
        refine gf_X7_126 X hnI hP zk_1 dX7_addStock_66 ?_
        refine lv_iload_n hx hb dX7_addStock_69 rfl (lv_at hl 1 rfl) ?_
        refine lv_iadd hx hb dX7_addStock_70 ?_
        refine pf_X7_126 X hnI hP hS zk_1 dX7_addStock_71 (fun H locs hP hS => ?_)
        refine lv_aload_n hx hb dX7_addStock_74 rfl (lv_at hl 0 rfl) ?_
        refine gf_X7_10 X hnI hP zk_0 dX7_addStock_75 ?_
        refine gf_X7_123 X hnI hP zk_1 dX7_addStock_78 ?_
        cases hf
        exact zr_iret X hr hP hS dX7_addStock_81
      · have hf := if_f hc hf
        refine lv_aload_n hx hb dX7_addStock_38 rfl (lv_at hl 0 rfl) ?_
        refine lv_iconst (v := (4 : Int32)) hx hb dX7_addStock_39 (by decide) ?_
        obtain ⟨x2, I3, hx2_I3, hf⟩ := ob2_e hf
        refine zr_cVi (rest := []) (As := [.int (4 : Int32)]) X hP hS (ct_X7_refuse (g := g) (nc := nc) (I := I) (J := J) (O := O) hnI l  hx2_I3) cw_X7_368 (zr_recv X hP (Nat.lt_of_lt_of_le (zk_0).1 hnI) (zb_ceIo zk_0 (by decide)) rfl) rfl hl.1 (Nat.le_of_ble_eq_true rfl) ⟨Nat.le_of_ble_eq_true rfl, Nat.le_of_ble_eq_true rfl⟩ ⟨Nat.le_of_ble_eq_true rfl, Nat.le_of_ble_eq_true rfl⟩ dX7_addStock_40 rfl (fun H locs hP hS => ?_)
        cases hf
        exact zr_iret X hr hP hS dX7_addStock_43
    · have hf := if_f hc hf
      exact (thr_ne (by decide) hf).elim
set_option maxHeartbeats 4000000 in
set_option maxRecDepth 100000 in
theorem lpX7_runCommand_L58 {g : zb_G} {nc : Nat} (hnI : 306 ≤ nc) (l : Launch) {a1 : Int32} {J O : Mem} {p : Program} {e : Env} {s : State} {m : MethodId} {args : Array Value} {below : List Frame} {meth : Method} {c : Code} {Q : State → Prop} (X : zb_X g p m c cX7_runCommand 4 s args RX7 meth) : ∀ {n9 : Nat} {a3 : Int32} {I : Mem} {Iz : Mem} {H : Heap} {locs : List Loc} {ls : Array Slot}, fX7_runCommand_L58 a1 n9 a3 I = some Iz → (∀ (H : Heap) (locs : List Loc) (ls : Array Slot), va_P g.1 vwCl (zb_ws g nc (zb_ce g Iz J O)) H → va_S (zb_A g) s.heap H locs → lv_has ls 4 [(0, .ref (g.2.2 + 0))] → W p l e { frames := 9, cells := 0, slots := 0, locals := 192 } s m args below meth c H locs 0 0 Q (F0 m 101 ls [])) → va_P g.1 vwCl (zb_ws g nc (zb_ce g I J O)) H → va_S (zb_A g) s.heap H locs → lv_has ls 4 [(3, .int a3), (0, .ref (g.2.2 + 0)), (1, .int a1)] → W p l e { frames := 9, cells := 0, slots := 0, locals := 192 } s m args below meth c H locs 0 0 Q (F0 m 58 ls []) := by
  have hx := X.1.1
  have hb := X.1.2.1
  have ho := X.1.2.2.2.1
  have hts := X.1.2.2.2.2
  have hZ := X.2.2.2
  intro n9
  induction n9 with
  | zero =>
    intro a3 I Iz H locs ls hf
    exact nomatch hf
  | succ n9 ih =>
    intro a3 I Iz H locs ls hf KK hP hS hl
    rw [fX7_runCommand_L58] at hf
    refine lv_iload_n hx hb dX7_runCommand_58 rfl (lv_at hl 0 rfl) ?_
    refine lv_aload_n hx hb dX7_runCommand_59 rfl (lv_at hl 1 rfl) ?_
    refine gf_X7_60 X hnI hP zk_0 dX7_runCommand_60 ?_
    refine lv_iload_n hx hb dX7_runCommand_63 rfl (lv_at hl 2 rfl) ?_
    obtain ⟨x7, hx7, hf⟩ := ob_e hf
    refine zr_cVi (rest := [.int a3]) (As := [.int a1]) X hP hS (ct_X4_arguments (g := g) (nc := nc) (I := I) (J := J) (O := O) hnI l  hx7) cw_X7_499 (zr_recv X hP (Nat.lt_of_lt_of_le (zk_61).1 hnI) (zb_ceIo zk_61 (by decide)) rfl) rfl hl.1 (Nat.le_of_ble_eq_true rfl) ⟨Nat.le_of_ble_eq_true rfl, Nat.le_of_ble_eq_true rfl⟩ ⟨Nat.le_of_ble_eq_true rfl, Nat.le_of_ble_eq_true rfl⟩ dX7_runCommand_64 rfl (fun H locs hP hS => ?_)
    refine lv_icmp_ge (tgt := 101) hx hb dX7_runCommand_67 (by decide) (fun hc => ?_) (fun hc => ?_)
    · have hf := if_t hc hf
      cases hf
      exact KK H locs ls hP hS (lv_sub hl [1] rfl)
    · have hf := if_f hc hf
      refine lv_aload_n hx hb dX7_runCommand_70 rfl (lv_at hl 1 rfl) ?_
      refine lv_aload_n hx hb dX7_runCommand_71 rfl (lv_at hl 1 rfl) ?_
      refine gf_X7_60 X hnI hP zk_0 dX7_runCommand_72 ?_
      refine lv_iload_n hx hb dX7_runCommand_75 rfl (lv_at hl 2 rfl) ?_
      refine lv_iload_n hx hb dX7_runCommand_76 rfl (lv_at hl 0 rfl) ?_
      obtain ⟨x8, hx8, hf⟩ := ob_e hf
      refine zr_cVi (rest := [.ref (g.2.2 + 0)]) (As := [.int a1, .int a3]) X hP hS (ct_X4_argument (g := g) (nc := nc) (I := I) (J := J) (O := O) hnI l  hx8) cw_X7_493 (zr_recv X hP (Nat.lt_of_lt_of_le (zk_61).1 hnI) (zb_ceIo zk_61 (by decide)) rfl) rfl hl.1 (Nat.le_of_ble_eq_true rfl) ⟨Nat.le_of_ble_eq_true rfl, Nat.le_of_ble_eq_true rfl⟩ ⟨Nat.le_of_ble_eq_true rfl, Nat.le_of_ble_eq_true rfl⟩ dX7_runCommand_77 rfl (fun H locs hP hS => ?_)
      refine lv_aload_n hx hb dX7_runCommand_80 rfl (lv_at hl 1 rfl) ?_
      refine gf_X7_60 X hnI hP zk_0 dX7_runCommand_81 ?_
      refine lv_iload_n hx hb dX7_runCommand_84 rfl (lv_at hl 2 rfl) ?_
      refine lv_iload_n hx hb dX7_runCommand_85 rfl (lv_at hl 0 rfl) ?_
      refine lv_iconst (v := (1 : Int32)) hx hb dX7_runCommand_86 (by decide) ?_
      refine lv_iadd hx hb dX7_runCommand_87 ?_
      obtain ⟨x9, hx9, hf⟩ := ob_e hf
      refine zr_cVi (rest := [.int x8, .ref (g.2.2 + 0)]) (As := [.int a1, .int (a3 + (1 : Int32))]) X hP hS (ct_X4_argument (g := g) (nc := nc) (I := I) (J := J) (O := O) hnI l  hx9) cw_X7_493 (zr_recv X hP (Nat.lt_of_lt_of_le (zk_61).1 hnI) (zb_ceIo zk_61 (by decide)) rfl) rfl hl.1 (Nat.le_of_ble_eq_true rfl) ⟨Nat.le_of_ble_eq_true rfl, Nat.le_of_ble_eq_true rfl⟩ ⟨Nat.le_of_ble_eq_true rfl, Nat.le_of_ble_eq_true rfl⟩ dX7_runCommand_88 rfl (fun H locs hP hS => ?_)
      obtain ⟨e10, x11, I12, he10_x11_I12, hf⟩ := ob3_e hf
      rcases Classical.em (e10 = 0) with he | he
      · have hf := if_t he hf
        rw [he] at he10_x11_I12
        refine zr_cVi (rest := []) (As := [.int x8, .int x9]) X hP hS (ct_X7_report (g := g) (nc := nc) (I := I) (J := J) (O := O) hnI l  he10_x11_I12) cw_X7_502 (zr_recv X hP (Nat.lt_of_lt_of_le (zk_0).1 hnI) (zb_ceIo zk_0 (by decide)) rfl) rfl hl.1 (Nat.le_of_ble_eq_true rfl) ⟨Nat.le_of_ble_eq_true rfl, Nat.le_of_ble_eq_true rfl⟩ ⟨Nat.le_of_ble_eq_true rfl, Nat.le_of_ble_eq_true rfl⟩ dX7_runCommand_91 rfl (fun H locs hP hS => ?_)
        refine lv_pop hx hb dX7_runCommand_94 rfl ?_
        refine lv_iinc (v := (a3 + (2 : Int32))) (lv' := [(3, .int (a3 + (2 : Int32))), (0, .ref (g.2.2 + 0)), (1, .int a1)]) hx hb dX7_runCommand_95 hl (k := 0) rfl rfl (by decide) rfl (fun ls hl => ?_)
        refine lv_goto (tgt := 58) hx hb dX7_runCommand_98 (by decide) ?_
        exact ih hf KK hP hS (lv_sub hl [0, 1, 2] rfl)
      · have hf := if_f he hf
        exact nomatch hf
set_option maxHeartbeats 4000000 in
set_option maxRecDepth 100000 in
theorem ct_X7_runCommand {g : zb_G} {nc : Nat} (hnI : 306 ≤ nc) (l : Launch) {a1 : Int32} {I J O : Mem} {r9 : Int32} {Iq : Mem} (hf : fX7_runCommand a1 I = some (0, r9, Iq)) : zb_Ct l g nc yX7_runCommand cX7_runCommand 4 (some .boolean) 9 192 [.ref (g.2.2 + 0), .int a1] (zb_ce g I J O) (some (.int r9)) (zb_ce g Iq J O) := by
  refine zb_ofW (own := RX7) (by decide +kernel) rfl (Nat.le_of_ble_eq_true rfl) ?_
  intro p e s m args below meth c ls X hr hP hl
  have hx := X.1.1
  have hb := X.1.2.1
  have ho := X.1.2.2.2.1
  have hts := X.1.2.2.2.2
  have hZ := X.2.2.2
  have hl : lv_has ls 4 [(0, .ref (g.2.2 + 0)), (1, .int a1)] := hl
  have hS : va_S (zb_A g) s.heap s.heap [] := va_S.rf
  obtain ⟨H, hH⟩ : ∃ H, H = s.heap := ⟨_, rfl⟩
  obtain ⟨locs, hlocs⟩ : ∃ z : List Loc, z = [] := ⟨_, rfl⟩
  rw [← hH] at hP
  have hS : va_S (zb_A g) s.heap H locs := by rw [hH, hlocs]; exact hS
  show W p l e _ s m args below meth c s.heap [] 0 0 _ _
  rw [← hH, ← hlocs]
  rw [fX7_runCommand] at hf
  refine lv_aload_n hx hb dX7_runCommand_0 rfl (lv_at hl 0 rfl) ?_
  refine gf_X7_60 X hnI hP zk_0 dX7_runCommand_1 ?_
  refine lv_iload_n hx hb dX7_runCommand_4 rfl (lv_at hl 1 rfl) ?_
  refine lv_iconst (v := (0 : Int32)) hx hb dX7_runCommand_5 (by decide) ?_
  obtain ⟨x1, hx1, hf⟩ := ob_e hf
  refine zr_cVi (rest := []) (As := [.int a1, .int (0 : Int32)]) X hP hS (ct_X4_argument (g := g) (nc := nc) (I := I) (J := J) (O := O) hnI l  hx1) cw_X7_493 (zr_recv X hP (Nat.lt_of_lt_of_le (zk_61).1 hnI) (zb_ceIo zk_61 (by decide)) rfl) rfl hl.1 (Nat.le_of_ble_eq_true rfl) ⟨Nat.le_of_ble_eq_true rfl, Nat.le_of_ble_eq_true rfl⟩ ⟨Nat.le_of_ble_eq_true rfl, Nat.le_of_ble_eq_true rfl⟩ dX7_runCommand_6 rfl (fun H locs hP hS => ?_)
  refine lv_istore_n (lv' := [(2, .int x1), (0, .ref (g.2.2 + 0)), (1, .int a1)]) hx hb dX7_runCommand_9 rfl hl (by decide) rfl (fun ls hl => ?_)
  refine lv_aload_n hx hb dX7_runCommand_10 rfl (lv_at hl 1 rfl) ?_
  refine gf_X7_60 X hnI hP zk_0 dX7_runCommand_11 ?_
  refine lv_iload_n hx hb dX7_runCommand_14 rfl (lv_at hl 2 rfl) ?_
  obtain ⟨x2, hx2, hf⟩ := ob_e hf
  refine zr_cVi (rest := []) (As := [.int a1]) X hP hS (ct_X4_kindOf (g := g) (nc := nc) (I := I) (J := J) (O := O) hnI l  hx2) cw_X7_496 (zr_recv X hP (Nat.lt_of_lt_of_le (zk_61).1 hnI) (zb_ceIo zk_61 (by decide)) rfl) rfl hl.1 (Nat.le_of_ble_eq_true rfl) ⟨Nat.le_of_ble_eq_true rfl, Nat.le_of_ble_eq_true rfl⟩ ⟨Nat.le_of_ble_eq_true rfl, Nat.le_of_ble_eq_true rfl⟩ dX7_runCommand_15 rfl (fun H locs hP hS => ?_)
  rcases Classical.em (x2 = (10 : Int32)) with q10 | q10
  · have hf := if_t q10 hf
    refine lv_tableIn (off := 170) (tgt := 188) hx hb dX7_runCommand_18 (by rw [q10]; decide) (by rw [q10]; decide) (by rw [q10]; rfl) (by decide) ?_
    refine lv_aload_n hx hb dX7_runCommand_188 rfl (lv_at hl 1 rfl) ?_
    refine lv_iload_n hx hb dX7_runCommand_189 rfl (lv_at hl 0 rfl) ?_
    obtain ⟨e3, x4, I5, he3_x4_I5, hf⟩ := ob3_e hf
    rcases Classical.em (e3 = 0) with he | he
    · have hf := if_t he hf
      rw [he] at he3_x4_I5
      refine zr_cVi (rest := []) (As := [.int x1]) X hP hS (ct_X7_addStock (g := g) (nc := nc) (I := I) (J := J) (O := O) hnI l  he3_x4_I5) cw_X7_520 (zr_recv X hP (Nat.lt_of_lt_of_le (zk_0).1 hnI) (zb_ceIo zk_0 (by decide)) rfl) rfl hl.1 (Nat.le_of_ble_eq_true rfl) ⟨Nat.le_of_ble_eq_true rfl, Nat.le_of_ble_eq_true rfl⟩ ⟨Nat.le_of_ble_eq_true rfl, Nat.le_of_ble_eq_true rfl⟩ dX7_runCommand_190 rfl (fun H locs hP hS => ?_)
      obtain ⟨x6, ht, hf⟩ := pl_e hf
      have K1 : ∀ (H : Heap) (locs : List Loc) (ls : Array Slot), va_P g.1 vwCl (zb_ws g nc (zb_ce g I5 J O)) H → va_S (zb_A g) s.heap H locs → lv_has ls 4 [] → W p l e { frames := 9, cells := 0, slots := 0, locals := 192 } s m args below meth c H locs 0 0 (MQ below (zb_Po g nc (zb_ce g Iq J O) (some (.int r9))) args s 0 0 (zb_A g)) (F0 m 201 ls [.int x6]) := by
        intro H locs ls hP hS hl
        obtain ⟨v9, hv9, hf⟩ := ob_e hf
        obtain ⟨hn9, he9⟩ := zbo_e hv9
        cases hf
        cases he9
        exact zr_zret X hr hn9 hP hS dX7_runCommand_201
      have hf := ht
      refine lv_if_lt (tgt := 200) hx hb dX7_runCommand_193 (by decide) (fun hc => ?_) (fun hc => ?_)
      · have hf := if_t hc hf
        refine lv_iconst (v := (0 : Int32)) hx hb dX7_runCommand_200 (by decide) ?_
        cases hf
        exact K1 H locs ls hP hS (lv_sub hl [] rfl)
      · have hf := if_f hc hf
        refine lv_iconst (v := (1 : Int32)) hx hb dX7_runCommand_196 (by decide) ?_
        refine lv_goto (tgt := 201) hx hb dX7_runCommand_197 (by decide) ?_
        cases hf
        exact K1 H locs ls hP hS (lv_sub hl [] rfl)
    · have hf := if_f he hf
      exact (thr_ne he hf).elim
  have hf := if_f q10 hf
  rcases Classical.em (x2 = (11 : Int32)) with q11 | q11
  · have hf := if_t q11 hf
    refine lv_tableIn (off := 38) (tgt := 56) hx hb dX7_runCommand_18 (by rw [q11]; decide) (by rw [q11]; decide) (by rw [q11]; rfl) (by decide) ?_
    refine lv_iconst (v := (0 : Int32)) hx hb dX7_runCommand_56 (by decide) ?_
    refine lv_istore_n (lv' := [(3, .int (0 : Int32)), (2, .int x1), (0, .ref (g.2.2 + 0)), (1, .int a1)]) hx hb dX7_runCommand_57 rfl hl (by decide) rfl (fun ls hl => ?_)
    obtain ⟨I13, hI13, hf⟩ := ob_e hf
    have K2 : ∀ (H : Heap) (locs : List Loc) (ls : Array Slot), va_P g.1 vwCl (zb_ws g nc (zb_ce g I13 J O)) H → va_S (zb_A g) s.heap H locs → lv_has ls 4 [(0, .ref (g.2.2 + 0))] → W p l e { frames := 9, cells := 0, slots := 0, locals := 192 } s m args below meth c H locs 0 0 (MQ below (zb_Po g nc (zb_ce g Iq J O) (some (.int r9))) args s 0 0 (zb_A g)) (F0 m 101 ls []) := by
      intro H locs ls hP hS hl
      refine lv_aload_n hx hb dX7_runCommand_101 rfl (lv_at hl 0 rfl) ?_
      obtain ⟨x14, I15, hx14_I15, hf⟩ := ob2_e hf
      refine zr_cVi (rest := []) (As := []) X hP hS (ct_X7_endHour (g := g) (nc := nc) (I := I13) (J := J) (O := O) hnI l  hx14_I15) cw_X7_505 (zr_recv X hP (Nat.lt_of_lt_of_le (zk_0).1 hnI) (zb_ceIo zk_0 (by decide)) rfl) rfl hl.1 (Nat.le_of_ble_eq_true rfl) ⟨Nat.le_of_ble_eq_true rfl, Nat.le_of_ble_eq_true rfl⟩ ⟨Nat.le_of_ble_eq_true rfl, Nat.le_of_ble_eq_true rfl⟩ dX7_runCommand_102 rfl (fun H locs hP hS => ?_)
      obtain ⟨x16, ht, hf⟩ := pl_e hf
      have K3 : ∀ (H : Heap) (locs : List Loc) (ls : Array Slot), va_P g.1 vwCl (zb_ws g nc (zb_ce g I15 J O)) H → va_S (zb_A g) s.heap H locs → lv_has ls 4 [] → W p l e { frames := 9, cells := 0, slots := 0, locals := 192 } s m args below meth c H locs 0 0 (MQ below (zb_Po g nc (zb_ce g Iq J O) (some (.int r9))) args s 0 0 (zb_A g)) (F0 m 113 ls [.int x16]) := by
        intro H locs ls hP hS hl
        obtain ⟨v9, hv9, hf⟩ := ob_e hf
        obtain ⟨hn9, he9⟩ := zbo_e hv9
        cases hf
        cases he9
        exact zr_zret X hr hn9 hP hS dX7_runCommand_113
      have hf := ht
      refine lv_if_lt (tgt := 112) hx hb dX7_runCommand_105 (by decide) (fun hc => ?_) (fun hc => ?_)
      · have hf := if_t hc hf
        refine lv_iconst (v := (0 : Int32)) hx hb dX7_runCommand_112 (by decide) ?_
        cases hf
        exact K3 H locs ls hP hS (lv_sub hl [] rfl)
      · have hf := if_f hc hf
        refine lv_iconst (v := (1 : Int32)) hx hb dX7_runCommand_108 (by decide) ?_
        refine lv_goto (tgt := 113) hx hb dX7_runCommand_109 (by decide) ?_
        cases hf
        exact K3 H locs ls hP hS (lv_sub hl [] rfl)
    exact lpX7_runCommand_L58 hnI l  X hI13 K2 hP hS (lv_sub hl [0, 2, 3] rfl)
  have hf := if_f q11 hf
  rcases Classical.em (x2 = (12 : Int32)) with q12 | q12
  · have hf := if_t q12 hf
    refine lv_tableIn (off := 96) (tgt := 114) hx hb dX7_runCommand_18 (by rw [q12]; decide) (by rw [q12]; decide) (by rw [q12]; rfl) (by decide) ?_
    refine lv_aload_n hx hb dX7_runCommand_114 rfl (lv_at hl 1 rfl) ?_
    refine lv_iload_n hx hb dX7_runCommand_115 rfl (lv_at hl 0 rfl) ?_
    refine lv_aload_n hx hb dX7_runCommand_116 rfl (lv_at hl 1 rfl) ?_
    refine gf_X7_60 X hnI hP zk_0 dX7_runCommand_117 ?_
    refine lv_iload_n hx hb dX7_runCommand_120 rfl (lv_at hl 2 rfl) ?_
    refine lv_iconst (v := (1 : Int32)) hx hb dX7_runCommand_121 (by decide) ?_
    obtain ⟨x17, hx17, hf⟩ := ob_e hf
    refine zr_cVi (rest := [.int x1, .ref (g.2.2 + 0)]) (As := [.int a1, .int (1 : Int32)]) X hP hS (ct_X4_argument (g := g) (nc := nc) (I := I) (J := J) (O := O) hnI l  hx17) cw_X7_493 (zr_recv X hP (Nat.lt_of_lt_of_le (zk_61).1 hnI) (zb_ceIo zk_61 (by decide)) rfl) rfl hl.1 (Nat.le_of_ble_eq_true rfl) ⟨Nat.le_of_ble_eq_true rfl, Nat.le_of_ble_eq_true rfl⟩ ⟨Nat.le_of_ble_eq_true rfl, Nat.le_of_ble_eq_true rfl⟩ dX7_runCommand_122 rfl (fun H locs hP hS => ?_)
    refine lv_aload_n hx hb dX7_runCommand_125 rfl (lv_at hl 1 rfl) ?_
    refine gf_X7_60 X hnI hP zk_0 dX7_runCommand_126 ?_
    refine lv_iload_n hx hb dX7_runCommand_129 rfl (lv_at hl 2 rfl) ?_
    refine lv_iconst (v := (2 : Int32)) hx hb dX7_runCommand_130 (by decide) ?_
    obtain ⟨x18, hx18, hf⟩ := ob_e hf
    refine zr_cVi (rest := [.int x17, .int x1, .ref (g.2.2 + 0)]) (As := [.int a1, .int (2 : Int32)]) X hP hS (ct_X4_argument (g := g) (nc := nc) (I := I) (J := J) (O := O) hnI l  hx18) cw_X7_493 (zr_recv X hP (Nat.lt_of_lt_of_le (zk_61).1 hnI) (zb_ceIo zk_61 (by decide)) rfl) rfl hl.1 (Nat.le_of_ble_eq_true rfl) ⟨Nat.le_of_ble_eq_true rfl, Nat.le_of_ble_eq_true rfl⟩ ⟨Nat.le_of_ble_eq_true rfl, Nat.le_of_ble_eq_true rfl⟩ dX7_runCommand_131 rfl (fun H locs hP hS => ?_)
    obtain ⟨e19, x20, I21, he19_x20_I21, hf⟩ := ob3_e hf
    rcases Classical.em (e19 = 0) with he | he
    · have hf := if_t he hf
      rw [he] at he19_x20_I21
      refine zr_cVi (rest := []) (As := [.int x1, .int x17, .int x18]) X hP hS (ct_X7_storm (g := g) (nc := nc) (I := I) (J := J) (O := O) hnI l  he19_x20_I21) cw_X7_508 (zr_recv X hP (Nat.lt_of_lt_of_le (zk_0).1 hnI) (zb_ceIo zk_0 (by decide)) rfl) rfl hl.1 (Nat.le_of_ble_eq_true rfl) ⟨Nat.le_of_ble_eq_true rfl, Nat.le_of_ble_eq_true rfl⟩ ⟨Nat.le_of_ble_eq_true rfl, Nat.le_of_ble_eq_true rfl⟩ dX7_runCommand_134 rfl (fun H locs hP hS => ?_)
      obtain ⟨x22, ht, hf⟩ := pl_e hf
      have K4 : ∀ (H : Heap) (locs : List Loc) (ls : Array Slot), va_P g.1 vwCl (zb_ws g nc (zb_ce g I21 J O)) H → va_S (zb_A g) s.heap H locs → lv_has ls 4 [] → W p l e { frames := 9, cells := 0, slots := 0, locals := 192 } s m args below meth c H locs 0 0 (MQ below (zb_Po g nc (zb_ce g Iq J O) (some (.int r9))) args s 0 0 (zb_A g)) (F0 m 145 ls [.int x22]) := by
        intro H locs ls hP hS hl
        obtain ⟨v9, hv9, hf⟩ := ob_e hf
        obtain ⟨hn9, he9⟩ := zbo_e hv9
        cases hf
        cases he9
        exact zr_zret X hr hn9 hP hS dX7_runCommand_145
      have hf := ht
      refine lv_if_lt (tgt := 144) hx hb dX7_runCommand_137 (by decide) (fun hc => ?_) (fun hc => ?_)
      · have hf := if_t hc hf
        refine lv_iconst (v := (0 : Int32)) hx hb dX7_runCommand_144 (by decide) ?_
        cases hf
        exact K4 H locs ls hP hS (lv_sub hl [] rfl)
      · have hf := if_f hc hf
        refine lv_iconst (v := (1 : Int32)) hx hb dX7_runCommand_140 (by decide) ?_
        refine lv_goto (tgt := 145) hx hb dX7_runCommand_141 (by decide) ?_
        cases hf
        exact K4 H locs ls hP hS (lv_sub hl [] rfl)
    · have hf := if_f he hf
      exact (thr_ne he hf).elim
  have hf := if_f q12 hf
  rcases Classical.em (x2 = (13 : Int32)) with q13 | q13
  · have hf := if_t q13 hf
    refine lv_tableIn (off := 128) (tgt := 146) hx hb dX7_runCommand_18 (by rw [q13]; decide) (by rw [q13]; decide) (by rw [q13]; rfl) (by decide) ?_
    refine lv_aload_n hx hb dX7_runCommand_146 rfl (lv_at hl 1 rfl) ?_
    refine lv_iload_n hx hb dX7_runCommand_147 rfl (lv_at hl 0 rfl) ?_
    obtain ⟨e23, x24, I25, he23_x24_I25, hf⟩ := ob3_e hf
    rcases Classical.em (e23 = 0) with he | he
    · have hf := if_t he hf
      rw [he] at he23_x24_I25
      refine zr_cVi (rest := []) (As := [.int x1]) X hP hS (ct_X7_remake (g := g) (nc := nc) (I := I) (J := J) (O := O) hnI l  he23_x24_I25) cw_X7_511 (zr_recv X hP (Nat.lt_of_lt_of_le (zk_0).1 hnI) (zb_ceIo zk_0 (by decide)) rfl) rfl hl.1 (Nat.le_of_ble_eq_true rfl) ⟨Nat.le_of_ble_eq_true rfl, Nat.le_of_ble_eq_true rfl⟩ ⟨Nat.le_of_ble_eq_true rfl, Nat.le_of_ble_eq_true rfl⟩ dX7_runCommand_148 rfl (fun H locs hP hS => ?_)
      obtain ⟨x26, ht, hf⟩ := pl_e hf
      have K5 : ∀ (H : Heap) (locs : List Loc) (ls : Array Slot), va_P g.1 vwCl (zb_ws g nc (zb_ce g I25 J O)) H → va_S (zb_A g) s.heap H locs → lv_has ls 4 [] → W p l e { frames := 9, cells := 0, slots := 0, locals := 192 } s m args below meth c H locs 0 0 (MQ below (zb_Po g nc (zb_ce g Iq J O) (some (.int r9))) args s 0 0 (zb_A g)) (F0 m 159 ls [.int x26]) := by
        intro H locs ls hP hS hl
        obtain ⟨v9, hv9, hf⟩ := ob_e hf
        obtain ⟨hn9, he9⟩ := zbo_e hv9
        cases hf
        cases he9
        exact zr_zret X hr hn9 hP hS dX7_runCommand_159
      have hf := ht
      refine lv_if_lt (tgt := 158) hx hb dX7_runCommand_151 (by decide) (fun hc => ?_) (fun hc => ?_)
      · have hf := if_t hc hf
        refine lv_iconst (v := (0 : Int32)) hx hb dX7_runCommand_158 (by decide) ?_
        cases hf
        exact K5 H locs ls hP hS (lv_sub hl [] rfl)
      · have hf := if_f hc hf
        refine lv_iconst (v := (1 : Int32)) hx hb dX7_runCommand_154 (by decide) ?_
        refine lv_goto (tgt := 159) hx hb dX7_runCommand_155 (by decide) ?_
        cases hf
        exact K5 H locs ls hP hS (lv_sub hl [] rfl)
    · have hf := if_f he hf
      exact (thr_ne he hf).elim
  have hf := if_f q13 hf
  rcases Classical.em (x2 = (14 : Int32)) with q14 | q14
  · have hf := if_t q14 hf
    refine lv_tableIn (off := 142) (tgt := 160) hx hb dX7_runCommand_18 (by rw [q14]; decide) (by rw [q14]; decide) (by rw [q14]; rfl) (by decide) ?_
    refine lv_aload_n hx hb dX7_runCommand_160 rfl (lv_at hl 1 rfl) ?_
    refine lv_iload_n hx hb dX7_runCommand_161 rfl (lv_at hl 0 rfl) ?_
    obtain ⟨e27, x28, I29, he27_x28_I29, hf⟩ := ob3_e hf
    rcases Classical.em (e27 = 0) with he | he
    · have hf := if_t he hf
      rw [he] at he27_x28_I29
      refine zr_cVi (rest := []) (As := [.int x1]) X hP hS (ct_X7_remakeBy (g := g) (nc := nc) (I := I) (J := J) (O := O) hnI l  he27_x28_I29) cw_X7_514 (zr_recv X hP (Nat.lt_of_lt_of_le (zk_0).1 hnI) (zb_ceIo zk_0 (by decide)) rfl) rfl hl.1 (Nat.le_of_ble_eq_true rfl) ⟨Nat.le_of_ble_eq_true rfl, Nat.le_of_ble_eq_true rfl⟩ ⟨Nat.le_of_ble_eq_true rfl, Nat.le_of_ble_eq_true rfl⟩ dX7_runCommand_162 rfl (fun H locs hP hS => ?_)
      obtain ⟨x30, ht, hf⟩ := pl_e hf
      have K6 : ∀ (H : Heap) (locs : List Loc) (ls : Array Slot), va_P g.1 vwCl (zb_ws g nc (zb_ce g I29 J O)) H → va_S (zb_A g) s.heap H locs → lv_has ls 4 [] → W p l e { frames := 9, cells := 0, slots := 0, locals := 192 } s m args below meth c H locs 0 0 (MQ below (zb_Po g nc (zb_ce g Iq J O) (some (.int r9))) args s 0 0 (zb_A g)) (F0 m 173 ls [.int x30]) := by
        intro H locs ls hP hS hl
        obtain ⟨v9, hv9, hf⟩ := ob_e hf
        obtain ⟨hn9, he9⟩ := zbo_e hv9
        cases hf
        cases he9
        exact zr_zret X hr hn9 hP hS dX7_runCommand_173
      have hf := ht
      refine lv_if_lt (tgt := 172) hx hb dX7_runCommand_165 (by decide) (fun hc => ?_) (fun hc => ?_)
      · have hf := if_t hc hf
        refine lv_iconst (v := (0 : Int32)) hx hb dX7_runCommand_172 (by decide) ?_
        cases hf
        exact K6 H locs ls hP hS (lv_sub hl [] rfl)
      · have hf := if_f hc hf
        refine lv_iconst (v := (1 : Int32)) hx hb dX7_runCommand_168 (by decide) ?_
        refine lv_goto (tgt := 173) hx hb dX7_runCommand_169 (by decide) ?_
        cases hf
        exact K6 H locs ls hP hS (lv_sub hl [] rfl)
    · have hf := if_f he hf
      exact (thr_ne he hf).elim
  have hf := if_f q14 hf
  rcases Classical.em (x2 = (15 : Int32)) with q15 | q15
  · have hf := if_t q15 hf
    refine lv_tableIn (off := 156) (tgt := 174) hx hb dX7_runCommand_18 (by rw [q15]; decide) (by rw [q15]; decide) (by rw [q15]; rfl) (by decide) ?_
    refine lv_aload_n hx hb dX7_runCommand_174 rfl (lv_at hl 1 rfl) ?_
    refine lv_iload_n hx hb dX7_runCommand_175 rfl (lv_at hl 0 rfl) ?_
    obtain ⟨e31, x32, I33, he31_x32_I33, hf⟩ := ob3_e hf
    rcases Classical.em (e31 = 0) with he | he
    · have hf := if_t he hf
      rw [he] at he31_x32_I33
      refine zr_cVi (rest := []) (As := [.int x1]) X hP hS (ct_X7_haul (g := g) (nc := nc) (I := I) (J := J) (O := O) hnI l  he31_x32_I33) cw_X7_517 (zr_recv X hP (Nat.lt_of_lt_of_le (zk_0).1 hnI) (zb_ceIo zk_0 (by decide)) rfl) rfl hl.1 (Nat.le_of_ble_eq_true rfl) ⟨Nat.le_of_ble_eq_true rfl, Nat.le_of_ble_eq_true rfl⟩ ⟨Nat.le_of_ble_eq_true rfl, Nat.le_of_ble_eq_true rfl⟩ dX7_runCommand_176 rfl (fun H locs hP hS => ?_)
      obtain ⟨x34, ht, hf⟩ := pl_e hf
      have K7 : ∀ (H : Heap) (locs : List Loc) (ls : Array Slot), va_P g.1 vwCl (zb_ws g nc (zb_ce g I33 J O)) H → va_S (zb_A g) s.heap H locs → lv_has ls 4 [] → W p l e { frames := 9, cells := 0, slots := 0, locals := 192 } s m args below meth c H locs 0 0 (MQ below (zb_Po g nc (zb_ce g Iq J O) (some (.int r9))) args s 0 0 (zb_A g)) (F0 m 187 ls [.int x34]) := by
        intro H locs ls hP hS hl
        obtain ⟨v9, hv9, hf⟩ := ob_e hf
        obtain ⟨hn9, he9⟩ := zbo_e hv9
        cases hf
        cases he9
        exact zr_zret X hr hn9 hP hS dX7_runCommand_187
      have hf := ht
      refine lv_if_lt (tgt := 186) hx hb dX7_runCommand_179 (by decide) (fun hc => ?_) (fun hc => ?_)
      · have hf := if_t hc hf
        refine lv_iconst (v := (0 : Int32)) hx hb dX7_runCommand_186 (by decide) ?_
        cases hf
        exact K7 H locs ls hP hS (lv_sub hl [] rfl)
      · have hf := if_f hc hf
        refine lv_iconst (v := (1 : Int32)) hx hb dX7_runCommand_182 (by decide) ?_
        refine lv_goto (tgt := 187) hx hb dX7_runCommand_183 (by decide) ?_
        cases hf
        exact K7 H locs ls hP hS (lv_sub hl [] rfl)
    · have hf := if_f he hf
      exact (thr_ne he hf).elim
  have hf := if_f q15 hf
  refine lv_tableOut (tgt := 202) hx hb dX7_runCommand_18 (by have z10 := zr_ne (k := 10) (by decide) q10; have z11 := zr_ne (k := 11) (by decide) q11; have z12 := zr_ne (k := 12) (by decide) q12; have z13 := zr_ne (k := 13) (by decide) q13; have z14 := zr_ne (k := 14) (by decide) q14; have z15 := zr_ne (k := 15) (by decide) q15; omega) (by decide) ?_
  refine lv_iconst (v := (0 : Int32)) hx hb dX7_runCommand_202 (by decide) ?_
  obtain ⟨v9, hv9, hf⟩ := ob_e hf
  obtain ⟨hn9, he9⟩ := zbo_e hv9
  cases hf
  cases he9
  exact zr_zret X hr hn9 hP hS dX7_runCommand_203
set_option maxHeartbeats 4000000 in
set_option maxRecDepth 100000 in
theorem lpX7_play_L15 {g : zb_G} {nc : Nat} (hnI : 306 ≤ nc) (l : Launch) {J O : Mem} {p : Program} {e : Env} {s : State} {m : MethodId} {args : Array Value} {below : List Frame} {meth : Method} {c : Code} {Q : State → Prop} (X : zb_X g p m c cX7_play 2 s args RX7 meth) : ∀ {n9 : Nat} {a1 : Int32} {I : Mem} {z1 : Int32} {Iz : Mem} {H : Heap} {locs : List Loc} {ls : Array Slot}, fX7_play_L15 n9 a1 I = some (z1, Iz) → (∀ (H : Heap) (locs : List Loc) (ls : Array Slot), va_P g.1 vwCl (zb_ws g nc (zb_ce g Iz J O)) H → va_S (zb_A g) s.heap H locs → lv_has ls 2 [(1, .int z1)] → W p l e { frames := 10, cells := 0, slots := 0, locals := 217 } s m args below meth c H locs 0 0 Q (F0 m 40 ls [])) → va_P g.1 vwCl (zb_ws g nc (zb_ce g I J O)) H → va_S (zb_A g) s.heap H locs → lv_has ls 2 [(1, .int a1), (0, .ref (g.2.2 + 0))] → W p l e { frames := 10, cells := 0, slots := 0, locals := 217 } s m args below meth c H locs 0 0 Q (F0 m 15 ls []) := by
  have hx := X.1.1
  have hb := X.1.2.1
  have ho := X.1.2.2.2.1
  have hts := X.1.2.2.2.2
  have hZ := X.2.2.2
  intro n9
  induction n9 with
  | zero =>
    intro a1 I z1 Iz H locs ls hf
    exact nomatch hf
  | succ n9 ih =>
    intro a1 I z1 Iz H locs ls hf KK hP hS hl
    rw [fX7_play_L15] at hf
    refine lv_iload_n hx hb dX7_play_15 rfl (lv_at hl 0 rfl) ?_
    refine lv_aload_n hx hb dX7_play_16 rfl (lv_at hl 1 rfl) ?_
    refine gf_X7_60 X hnI hP zk_0 dX7_play_17 ?_
    refine gf_X7_139 X hnI hP zk_61 dX7_play_20 ?_
    refine lv_icmp_ge (tgt := 40) hx hb dX7_play_23 (by decide) (fun hc => ?_) (fun hc => ?_)
    · have hf := if_t hc hf
      cases hf
      exact KK H locs ls hP hS (lv_sub hl [0] rfl)
    · have hf := if_f hc hf
      refine lv_aload_n hx hb dX7_play_26 rfl (lv_at hl 1 rfl) ?_
      refine lv_iload_n hx hb dX7_play_27 rfl (lv_at hl 0 rfl) ?_
      obtain ⟨e4, x5, I6, he4_x5_I6, hf⟩ := ob3_e hf
      rcases Classical.em (e4 = 0) with he | he
      · have hf := if_t he hf
        rw [he] at he4_x5_I6
        refine zr_cVi (rest := []) (As := [.int a1]) X hP hS (ct_X7_runCommand (g := g) (nc := nc) (I := I) (J := J) (O := O) hnI l  he4_x5_I6) cw_X7_140 (zr_recv X hP (Nat.lt_of_lt_of_le (zk_0).1 hnI) (zb_ceIo zk_0 (by decide)) rfl) rfl hl.1 (Nat.le_of_ble_eq_true rfl) ⟨Nat.le_of_ble_eq_true rfl, Nat.le_of_ble_eq_true rfl⟩ ⟨Nat.le_of_ble_eq_true rfl, Nat.le_of_ble_eq_true rfl⟩ dX7_play_28 rfl (fun H locs hP hS => ?_)
        refine lv_if_eq (tgt := 40) hx hb dX7_play_31 (by decide) (fun hc => ?_) (fun hc => ?_)
        · have hf := if_t hc hf
          cases hf
          exact KK H locs ls hP hS (lv_sub hl [0] rfl)
        · have hf := if_f hc hf
          refine lv_iinc (v := (a1 + (1 : Int32))) (lv' := [(1, .int (a1 + (1 : Int32))), (0, .ref (g.2.2 + 0))]) hx hb dX7_play_34 hl (k := 0) rfl rfl (by decide) rfl (fun ls hl => ?_)
          refine lv_goto (tgt := 15) hx hb dX7_play_37 (by decide) ?_
          exact ih hf KK hP hS (lv_sub hl [0, 1] rfl)
      · have hf := if_f he hf
        exact nomatch hf
set_option maxHeartbeats 4000000 in
set_option maxRecDepth 100000 in
theorem ct_X7_play {g : zb_G} {nc : Nat} (hnI : 306 ≤ nc) (l : Launch) {I J O : Mem} {r9 : Int32} {Iq : Mem} (hf : fX7_play I = some (0, r9, Iq)) : zb_Ct l g nc yX7_play cX7_play 2 (some .int) 10 217 [.ref (g.2.2 + 0)] (zb_ce g I J O) (some (.int r9)) (zb_ce g Iq J O) := by
  refine zb_ofW (own := RX7) (by decide +kernel) rfl (Nat.le_of_ble_eq_true rfl) ?_
  intro p e s m args below meth c ls X hr hP hl
  have hx := X.1.1
  have hb := X.1.2.1
  have ho := X.1.2.2.2.1
  have hts := X.1.2.2.2.2
  have hZ := X.2.2.2
  have hl : lv_has ls 2 [(0, .ref (g.2.2 + 0))] := hl
  have hS : va_S (zb_A g) s.heap s.heap [] := va_S.rf
  obtain ⟨H, hH⟩ : ∃ H, H = s.heap := ⟨_, rfl⟩
  obtain ⟨locs, hlocs⟩ : ∃ z : List Loc, z = [] := ⟨_, rfl⟩
  rw [← hH] at hP
  have hS : va_S (zb_A g) s.heap H locs := by rw [hH, hlocs]; exact hS
  show W p l e _ s m args below meth c s.heap [] 0 0 _ _
  rw [← hH, ← hlocs]
  rw [fX7_play] at hf
  refine lv_aload_n hx hb dX7_play_0 rfl (lv_at hl 0 rfl) ?_
  obtain ⟨I1, hI1, hf⟩ := ob_e hf
  refine zr_cVv (rest := []) (As := []) X hP hS (ct_X7_readScript (g := g) (nc := nc) (I := I) (J := J) (O := O) hnI l  hI1) cw_X7_136 (zr_recv X hP (Nat.lt_of_lt_of_le (zk_0).1 hnI) (zb_ceIo zk_0 (by decide)) rfl) rfl hl.1 (Nat.le_of_ble_eq_true rfl) ⟨Nat.le_of_ble_eq_true rfl, Nat.le_of_ble_eq_true rfl⟩ ⟨Nat.le_of_ble_eq_true rfl, Nat.le_of_ble_eq_true rfl⟩ dX7_play_1 rfl (fun H locs hP hS => ?_)
  refine lv_aload_n hx hb dX7_play_4 rfl (lv_at hl 0 rfl) ?_
  obtain ⟨x2, I3, hx2_I3, hf⟩ := ob2_e hf
  refine zr_cVi (rest := []) (As := []) X hP hS (ct_X7_closeText (g := g) (nc := nc) (I := I1) (J := J) (O := O) hnI l  hx2_I3) cw_X7_119 (zr_recv X hP (Nat.lt_of_lt_of_le (zk_0).1 hnI) (zb_ceIo zk_0 (by decide)) rfl) rfl hl.1 (Nat.le_of_ble_eq_true rfl) ⟨Nat.le_of_ble_eq_true rfl, Nat.le_of_ble_eq_true rfl⟩ ⟨Nat.le_of_ble_eq_true rfl, Nat.le_of_ble_eq_true rfl⟩ dX7_play_5 rfl (fun H locs hP hS => ?_)
  refine lv_if_ne (tgt := 13) hx hb dX7_play_8 (by decide) (fun hc => ?_) (fun hc => ?_)
  · have hf := if_f hc hf
    refine lv_iconst (v := (0 : Int32)) hx hb dX7_play_13 (by decide) ?_
    refine lv_istore_n (lv' := [(1, .int (0 : Int32)), (0, .ref (g.2.2 + 0))]) hx hb dX7_play_14 rfl hl (by decide) rfl (fun ls hl => ?_)
    obtain ⟨x7, I8, hx7_I8, hf⟩ := ob2_e hf
    have K1 : ∀ (H : Heap) (locs : List Loc) (ls : Array Slot), va_P g.1 vwCl (zb_ws g nc (zb_ce g I8 J O)) H → va_S (zb_A g) s.heap H locs → lv_has ls 2 [(1, .int x7)] → W p l e { frames := 10, cells := 0, slots := 0, locals := 217 } s m args below meth c H locs 0 0 (MQ below (zb_Po g nc (zb_ce g Iq J O) (some (.int r9))) args s 0 0 (zb_A g)) (F0 m 40 ls []) := by
      intro H locs ls hP hS hl
      refine lv_iload_n hx hb dX7_play_40 rfl (lv_at hl 0 rfl) ?_
      cases hf
      exact zr_iret X hr hP hS dX7_play_41
    exact lpX7_play_L15 hnI l  X hx7_I8 K1 hP hS (lv_sub hl [0, 1] rfl)
  · have hf := if_t hc hf
    refine lv_iconst (v := (-1 : Int32)) hx hb dX7_play_11 (by decide) ?_
    cases hf
    exact zr_iret X hr hP hS dX7_play_12
set_option maxHeartbeats 4000000 in
set_option maxRecDepth 100000 in
theorem ct_X7_errorCode {g : zb_G} {nc : Nat} (hnI : 306 ≤ nc) (l : Launch) {I J O : Mem} {r9 : Int32} (hf : fX7_errorCode I = some r9) : zb_Ct l g nc yX7_errorCode cX7_errorCode 1 (some .int) 0 0 [.ref (g.2.2 + 0)] (zb_ce g I J O) (some (.int r9)) (zb_ce g I J O) := by
  refine zb_ofW (own := RX7) (by decide +kernel) rfl (Nat.le_of_ble_eq_true rfl) ?_
  intro p e s m args below meth c ls X hr hP hl
  have hx := X.1.1
  have hb := X.1.2.1
  have ho := X.1.2.2.2.1
  have hts := X.1.2.2.2.2
  have hZ := X.2.2.2
  have hl : lv_has ls 1 [(0, .ref (g.2.2 + 0))] := hl
  have hS : va_S (zb_A g) s.heap s.heap [] := va_S.rf
  obtain ⟨H, hH⟩ : ∃ H, H = s.heap := ⟨_, rfl⟩
  obtain ⟨locs, hlocs⟩ : ∃ z : List Loc, z = [] := ⟨_, rfl⟩
  rw [← hH] at hP
  have hS : va_S (zb_A g) s.heap H locs := by rw [hH, hlocs]; exact hS
  show W p l e _ s m args below meth c s.heap [] 0 0 _ _
  rw [← hH, ← hlocs]
  rw [fX7_errorCode] at hf
  refine lv_aload_n hx hb dX7_errorCode_0 rfl (lv_at hl 0 rfl) ?_
  refine gf_X7_64 X hnI hP zk_0 dX7_errorCode_1 ?_
  cases hf
  exact zr_iret X hr hP hS dX7_errorCode_4
set_option maxHeartbeats 4000000 in
set_option maxRecDepth 100000 in
theorem ct_X7_errorPosition {g : zb_G} {nc : Nat} (hnI : 306 ≤ nc) (l : Launch) {I J O : Mem} {r9 : Int32} (hf : fX7_errorPosition I = some r9) : zb_Ct l g nc yX7_errorPosition cX7_errorPosition 1 (some .int) 0 0 [.ref (g.2.2 + 0)] (zb_ce g I J O) (some (.int r9)) (zb_ce g I J O) := by
  refine zb_ofW (own := RX7) (by decide +kernel) rfl (Nat.le_of_ble_eq_true rfl) ?_
  intro p e s m args below meth c ls X hr hP hl
  have hx := X.1.1
  have hb := X.1.2.1
  have ho := X.1.2.2.2.1
  have hts := X.1.2.2.2.2
  have hZ := X.2.2.2
  have hl : lv_has ls 1 [(0, .ref (g.2.2 + 0))] := hl
  have hS : va_S (zb_A g) s.heap s.heap [] := va_S.rf
  obtain ⟨H, hH⟩ : ∃ H, H = s.heap := ⟨_, rfl⟩
  obtain ⟨locs, hlocs⟩ : ∃ z : List Loc, z = [] := ⟨_, rfl⟩
  rw [← hH] at hP
  have hS : va_S (zb_A g) s.heap H locs := by rw [hH, hlocs]; exact hS
  show W p l e _ s m args below meth c s.heap [] 0 0 _ _
  rw [← hH, ← hlocs]
  rw [fX7_errorPosition] at hf
  refine lv_aload_n hx hb dX7_errorPosition_0 rfl (lv_at hl 0 rfl) ?_
  refine gf_X7_67 X hnI hP zk_0 dX7_errorPosition_1 ?_
  cases hf
  exact zr_iret X hr hP hS dX7_errorPosition_4
set_option maxHeartbeats 4000000 in
set_option maxRecDepth 100000 in
theorem lpX7_hoursWithLevel_L10 {g : zb_G} {nc : Nat} (hnI : 306 ≤ nc) (l : Launch) {J O : Mem} {p : Program} {e : Env} {s : State} {m : MethodId} {args : Array Value} {below : List Frame} {meth : Method} {c : Code} {Q : State → Prop} (X : zb_X g p m c cX7_hoursWithLevel 3 s args RX7 meth) : ∀ {n9 : Nat} {a2 : Int32} {a1 : Int32} {I : Mem} {z1 : Int32} {H : Heap} {locs : List Loc} {ls : Array Slot}, fX7_hoursWithLevel_L10 n9 a2 a1 I = some z1 → (∀ (H : Heap) (locs : List Loc) (ls : Array Slot), va_P g.1 vwCl (zb_ws g nc (zb_ce g I J O)) H → va_S (zb_A g) s.heap H locs → lv_has ls 3 [(1, .int z1)] → W p l e { frames := 2, cells := 0, slots := 0, locals := 43 } s m args below meth c H locs 0 0 Q (F0 m 49 ls [])) → va_P g.1 vwCl (zb_ws g nc (zb_ce g I J O)) H → va_S (zb_A g) s.heap H locs → lv_has ls 3 [(2, .int a2), (1, .int a1), (0, .ref (g.2.2 + 0))] → W p l e { frames := 2, cells := 0, slots := 0, locals := 43 } s m args below meth c H locs 0 0 Q (F0 m 10 ls []) := by
  have hx := X.1.1
  have hb := X.1.2.1
  have ho := X.1.2.2.2.1
  have hts := X.1.2.2.2.2
  have hZ := X.2.2.2
  intro n9
  induction n9 with
  | zero =>
    intro a2 a1 I z1 H locs ls hf
    exact nomatch hf
  | succ n9 ih =>
    intro a2 a1 I z1 H locs ls hf KK hP hS hl
    rw [fX7_hoursWithLevel_L10] at hf
    refine lv_iload_n hx hb dX7_hoursWithLevel_10 rfl (lv_at hl 0 rfl) ?_
    refine lv_aload_n hx hb dX7_hoursWithLevel_11 rfl (lv_at hl 2 rfl) ?_
    refine gf_X7_10 X hnI hP zk_0 dX7_hoursWithLevel_12 ?_
    refine gf_X7_144 X hnI hP zk_1 dX7_hoursWithLevel_15 ?_
    refine lv_icmp_ge (tgt := 49) hx hb dX7_hoursWithLevel_18 (by decide) (fun hc => ?_) (fun hc => ?_)
    · have hf := if_t hc hf
      cases hf
      exact KK H locs ls hP hS (lv_sub hl [1] rfl)
    · have hf := if_f hc hf
      refine lv_iload_n hx hb dX7_hoursWithLevel_21 rfl (lv_at hl 1 rfl) ?_
      refine lv_aload_n hx hb dX7_hoursWithLevel_22 rfl (lv_at hl 2 rfl) ?_
      refine gf_X7_10 X hnI hP zk_0 dX7_hoursWithLevel_23 ?_
      refine gf_X7_237 X hnI hP zk_1 dX7_hoursWithLevel_26 ?_
      refine gf_X7_249 X hnI hP zk_15 dX7_hoursWithLevel_29 ?_
      refine lv_aload_n hx hb dX7_hoursWithLevel_32 rfl (lv_at hl 2 rfl) ?_
      refine gf_X7_10 X hnI hP zk_0 dX7_hoursWithLevel_33 ?_
      refine lv_iload_n hx hb dX7_hoursWithLevel_36 rfl (lv_at hl 0 rfl) ?_
      obtain ⟨x2, hx2, hf⟩ := ob_e hf
      refine zr_cVi (rest := [.ref (g.2.2 + 18), .int a1]) (As := [.int a2]) X hP hS (ct_X5_rowOf (g := g) (nc := nc) (I := I) (J := J) (O := O)  l zb_isB1 hx2) cw_X7_281 (zr_recv X hP (Nat.lt_of_lt_of_le (zk_1).1 hnI) (zb_ceIo zk_1 (by decide)) rfl) rfl hl.1 (Nat.le_of_ble_eq_true rfl) ⟨Nat.le_of_ble_eq_true rfl, Nat.le_of_ble_eq_true rfl⟩ ⟨Nat.le_of_ble_eq_true rfl, Nat.le_of_ble_eq_true rfl⟩ dX7_hoursWithLevel_37 rfl (fun H locs hP hS => ?_)
      obtain ⟨x3, hx3, hf⟩ := ob_e hf
      refine zr_aldI X hP hnI zk_18 hx3 dX7_hoursWithLevel_40 ?_
      refine lv_iadd hx hb dX7_hoursWithLevel_41 ?_
      refine lv_istore_n (lv' := [(1, .int (a1 + x3)), (2, .int a2), (0, .ref (g.2.2 + 0))]) hx hb dX7_hoursWithLevel_42 rfl hl (by decide) rfl (fun ls hl => ?_)
      refine lv_iinc (v := (a2 + (1 : Int32))) (lv' := [(2, .int (a2 + (1 : Int32))), (1, .int (a1 + x3)), (0, .ref (g.2.2 + 0))]) hx hb dX7_hoursWithLevel_43 hl (k := 1) rfl rfl (by decide) rfl (fun ls hl => ?_)
      refine lv_goto (tgt := 10) hx hb dX7_hoursWithLevel_46 (by decide) ?_
      exact ih hf KK hP hS (lv_sub hl [0, 1, 2] rfl)
set_option maxHeartbeats 4000000 in
set_option maxRecDepth 100000 in
theorem ct_X7_hoursWithLevel {g : zb_G} {nc : Nat} (hnI : 306 ≤ nc) (l : Launch) {I J O : Mem} {r9 : Int32} (hf : fX7_hoursWithLevel I = some r9) : zb_Ct l g nc yX7_hoursWithLevel cX7_hoursWithLevel 3 (some .int) 2 43 [.ref (g.2.2 + 0)] (zb_ce g I J O) (some (.int r9)) (zb_ce g I J O) := by
  refine zb_ofW (own := RX7) (by decide +kernel) rfl (Nat.le_of_ble_eq_true rfl) ?_
  intro p e s m args below meth c ls X hr hP hl
  have hx := X.1.1
  have hb := X.1.2.1
  have ho := X.1.2.2.2.1
  have hts := X.1.2.2.2.2
  have hZ := X.2.2.2
  have hl : lv_has ls 3 [(0, .ref (g.2.2 + 0))] := hl
  have hS : va_S (zb_A g) s.heap s.heap [] := va_S.rf
  obtain ⟨H, hH⟩ : ∃ H, H = s.heap := ⟨_, rfl⟩
  obtain ⟨locs, hlocs⟩ : ∃ z : List Loc, z = [] := ⟨_, rfl⟩
  rw [← hH] at hP
  have hS : va_S (zb_A g) s.heap H locs := by rw [hH, hlocs]; exact hS
  show W p l e _ s m args below meth c s.heap [] 0 0 _ _
  rw [← hH, ← hlocs]
  rw [fX7_hoursWithLevel] at hf
  refine lv_iconst (v := (0 : Int32)) hx hb dX7_hoursWithLevel_0 (by decide) ?_
  refine lv_istore_n (lv' := [(1, .int (0 : Int32)), (0, .ref (g.2.2 + 0))]) hx hb dX7_hoursWithLevel_1 rfl hl (by decide) rfl (fun ls hl => ?_)
  refine lv_aload_n hx hb dX7_hoursWithLevel_2 rfl (lv_at hl 1 rfl) ?_
  refine gf_X7_10 X hnI hP zk_0 dX7_hoursWithLevel_3 ?_
  obtain ⟨x1, hx1, hf⟩ := ob_e hf
  refine zr_cVi (rest := []) (As := []) X hP hS (ct_X5_firstKept (g := g) (nc := nc) (I := I) (J := J) (O := O) hnI l zb_isB1 hx1) cw_X7_147 (zr_recv X hP (Nat.lt_of_lt_of_le (zk_1).1 hnI) (zb_ceIo zk_1 (by decide)) rfl) rfl hl.1 (Nat.le_of_ble_eq_true rfl) ⟨Nat.le_of_ble_eq_true rfl, Nat.le_of_ble_eq_true rfl⟩ ⟨Nat.le_of_ble_eq_true rfl, Nat.le_of_ble_eq_true rfl⟩ dX7_hoursWithLevel_6 rfl (fun H locs hP hS => ?_)
  refine lv_istore_n (lv' := [(2, .int x1), (1, .int (0 : Int32)), (0, .ref (g.2.2 + 0))]) hx hb dX7_hoursWithLevel_9 rfl hl (by decide) rfl (fun ls hl => ?_)
  obtain ⟨x4, hx4, hf⟩ := ob_e hf
  have K1 : ∀ (H : Heap) (locs : List Loc) (ls : Array Slot), va_P g.1 vwCl (zb_ws g nc (zb_ce g I J O)) H → va_S (zb_A g) s.heap H locs → lv_has ls 3 [(1, .int x4)] → W p l e { frames := 2, cells := 0, slots := 0, locals := 43 } s m args below meth c H locs 0 0 (MQ below (zb_Po g nc (zb_ce g I J O) (some (.int r9))) args s 0 0 (zb_A g)) (F0 m 49 ls []) := by
    intro H locs ls hP hS hl
    refine lv_iload_n hx hb dX7_hoursWithLevel_49 rfl (lv_at hl 0 rfl) ?_
    cases hf
    exact zr_iret X hr hP hS dX7_hoursWithLevel_50
  exact lpX7_hoursWithLevel_L10 hnI l  X hx4 K1 hP hS (lv_sub hl [0, 1, 2] rfl)
set_option maxHeartbeats 4000000 in
set_option maxRecDepth 100000 in
theorem ct_X7_size {g : zb_G} {nc : Nat} (hnI : 306 ≤ nc) (l : Launch) {a1 : Int32} {I J O : Mem} {r9 : Int32} (hf : fX7_size a1 I = some (0, r9)) : zb_Ct l g nc yX7_size cX7_size 2 (some .int) 6 125 [.ref (g.2.2 + 0), .int a1] (zb_ce g I J O) (some (.int r9)) (zb_ce g I J O) := by
  refine zb_ofW (own := RX7) (by decide +kernel) rfl (Nat.le_of_ble_eq_true rfl) ?_
  intro p e s m args below meth c ls X hr hP hl
  have hx := X.1.1
  have hb := X.1.2.1
  have ho := X.1.2.2.2.1
  have hts := X.1.2.2.2.2
  have hZ := X.2.2.2
  have hl : lv_has ls 2 [(0, .ref (g.2.2 + 0)), (1, .int a1)] := hl
  have hS : va_S (zb_A g) s.heap s.heap [] := va_S.rf
  obtain ⟨H, hH⟩ : ∃ H, H = s.heap := ⟨_, rfl⟩
  obtain ⟨locs, hlocs⟩ : ∃ z : List Loc, z = [] := ⟨_, rfl⟩
  rw [← hH] at hP
  have hS : va_S (zb_A g) s.heap H locs := by rw [hH, hlocs]; exact hS
  show W p l e _ s m args below meth c s.heap [] 0 0 _ _
  rw [← hH, ← hlocs]
  rw [fX7_size] at hf
  refine lv_iload_n hx hb dX7_size_0 rfl (lv_at hl 1 rfl) ?_
  rcases Classical.em (a1 = (0 : Int32)) with q0 | q0
  · have hf := if_t q0 hf
    refine lv_tableIn (off := 83) (tgt := 84) hx hb dX7_size_1 (by rw [q0]; decide) (by rw [q0]; decide) (by rw [q0]; rfl) (by decide) ?_
    refine lv_aload_n hx hb dX7_size_84 rfl (lv_at hl 0 rfl) ?_
    refine gf_X7_10 X hnI hP zk_0 dX7_size_85 ?_
    refine gf_X7_88 X hnI hP zk_1 dX7_size_88 ?_
    refine gf_X7_133 X hnI hP zk_2 dX7_size_91 ?_
    cases hf
    exact zr_iret X hr hP hS dX7_size_94
  have hf := if_f q0 hf
  rcases Classical.em (a1 = (1 : Int32)) with q1 | q1
  · have hf := if_t q1 hf
    refine lv_tableIn (off := 94) (tgt := 95) hx hb dX7_size_1 (by rw [q1]; decide) (by rw [q1]; decide) (by rw [q1]; rfl) (by decide) ?_
    refine lv_aload_n hx hb dX7_size_95 rfl (lv_at hl 0 rfl) ?_
    refine gf_X7_10 X hnI hP zk_0 dX7_size_96 ?_
    refine gf_X7_144 X hnI hP zk_1 dX7_size_99 ?_
    cases hf
    exact zr_iret X hr hP hS dX7_size_102
  have hf := if_f q1 hf
  rcases Classical.em (a1 = (2 : Int32)) with q2 | q2
  · have hf := if_t q2 hf
    refine lv_tableIn (off := 102) (tgt := 103) hx hb dX7_size_1 (by rw [q2]; decide) (by rw [q2]; decide) (by rw [q2]; rfl) (by decide) ?_
    refine lv_aload_n hx hb dX7_size_103 rfl (lv_at hl 0 rfl) ?_
    refine gf_X7_10 X hnI hP zk_0 dX7_size_104 ?_
    refine gf_X7_144 X hnI hP zk_1 dX7_size_107 ?_
    refine lv_aload_n hx hb dX7_size_110 rfl (lv_at hl 0 rfl) ?_
    refine gf_X7_10 X hnI hP zk_0 dX7_size_111 ?_
    obtain ⟨x1, hx1, hf⟩ := ob_e hf
    refine zr_cVi (rest := [.int (I 1 7)]) (As := []) X hP hS (ct_X5_firstKept (g := g) (nc := nc) (I := I) (J := J) (O := O) hnI l zb_isB1 hx1) cw_X7_147 (zr_recv X hP (Nat.lt_of_lt_of_le (zk_1).1 hnI) (zb_ceIo zk_1 (by decide)) rfl) rfl hl.1 (Nat.le_of_ble_eq_true rfl) ⟨Nat.le_of_ble_eq_true rfl, Nat.le_of_ble_eq_true rfl⟩ ⟨Nat.le_of_ble_eq_true rfl, Nat.le_of_ble_eq_true rfl⟩ dX7_size_114 rfl (fun H locs hP hS => ?_)
    refine lv_isub hx hb dX7_size_117 ?_
    cases hf
    exact zr_iret X hr hP hS dX7_size_118
  have hf := if_f q2 hf
  rcases Classical.em (a1 = (3 : Int32)) with q3 | q3
  · have hf := if_t q3 hf
    refine lv_tableIn (off := 118) (tgt := 119) hx hb dX7_size_1 (by rw [q3]; decide) (by rw [q3]; decide) (by rw [q3]; rfl) (by decide) ?_
    refine lv_aload_n hx hb dX7_size_119 rfl (lv_at hl 0 rfl) ?_
    refine gf_X7_10 X hnI hP zk_0 dX7_size_120 ?_
    refine gf_X7_88 X hnI hP zk_1 dX7_size_123 ?_
    refine lv_iconst (v := (0 : Int32)) hx hb dX7_size_126 (by decide) ?_
    obtain ⟨x2, hx2, hf⟩ := ob_e hf
    refine zr_cVi (rest := []) (As := [.int (0 : Int32)]) X hP hS (ct_X0_membersIn (g := g) (nc := nc) (I := I) (J := J) (O := O) hnI l zb_isB1 hx2) cw_X7_151 (zr_recv X hP (Nat.lt_of_lt_of_le (zk_2).1 hnI) (zb_ceIo zk_2 (by decide)) rfl) rfl hl.1 (Nat.le_of_ble_eq_true rfl) ⟨Nat.le_of_ble_eq_true rfl, Nat.le_of_ble_eq_true rfl⟩ ⟨Nat.le_of_ble_eq_true rfl, Nat.le_of_ble_eq_true rfl⟩ dX7_size_127 rfl (fun H locs hP hS => ?_)
    obtain ⟨x3, hx3, hf⟩ := ob_e hf
    refine zr_cSi (rest := []) (As := [.int x2]) X hP hS (ct_J6_bitCount_0f7a4 (g := g) (nc := nc) (I := I) (J := J) (O := O)  l  hx3) cw_X7_154  rfl hl.1 (Nat.le_of_ble_eq_true rfl) ⟨Nat.le_of_ble_eq_true rfl, Nat.le_of_ble_eq_true rfl⟩ ⟨Nat.le_of_ble_eq_true rfl, Nat.le_of_ble_eq_true rfl⟩ dX7_size_130 rfl (fun H locs hP hS => ?_)
    cases hf
    exact zr_iret X hr hP hS dX7_size_133
  have hf := if_f q3 hf
  rcases Classical.em (a1 = (4 : Int32)) with q4 | q4
  · have hf := if_t q4 hf
    refine lv_tableIn (off := 133) (tgt := 134) hx hb dX7_size_1 (by rw [q4]; decide) (by rw [q4]; decide) (by rw [q4]; rfl) (by decide) ?_
    refine lv_aload_n hx hb dX7_size_134 rfl (lv_at hl 0 rfl) ?_
    refine gf_X7_10 X hnI hP zk_0 dX7_size_135 ?_
    refine gf_X7_88 X hnI hP zk_1 dX7_size_138 ?_
    refine lv_iconst (v := (1 : Int32)) hx hb dX7_size_141 (by decide) ?_
    obtain ⟨x4, hx4, hf⟩ := ob_e hf
    refine zr_cVi (rest := []) (As := [.int (1 : Int32)]) X hP hS (ct_X0_membersIn (g := g) (nc := nc) (I := I) (J := J) (O := O) hnI l zb_isB1 hx4) cw_X7_151 (zr_recv X hP (Nat.lt_of_lt_of_le (zk_2).1 hnI) (zb_ceIo zk_2 (by decide)) rfl) rfl hl.1 (Nat.le_of_ble_eq_true rfl) ⟨Nat.le_of_ble_eq_true rfl, Nat.le_of_ble_eq_true rfl⟩ ⟨Nat.le_of_ble_eq_true rfl, Nat.le_of_ble_eq_true rfl⟩ dX7_size_142 rfl (fun H locs hP hS => ?_)
    obtain ⟨x5, hx5, hf⟩ := ob_e hf
    refine zr_cSi (rest := []) (As := [.int x4]) X hP hS (ct_J6_bitCount_0f7a4 (g := g) (nc := nc) (I := I) (J := J) (O := O)  l  hx5) cw_X7_154  rfl hl.1 (Nat.le_of_ble_eq_true rfl) ⟨Nat.le_of_ble_eq_true rfl, Nat.le_of_ble_eq_true rfl⟩ ⟨Nat.le_of_ble_eq_true rfl, Nat.le_of_ble_eq_true rfl⟩ dX7_size_145 rfl (fun H locs hP hS => ?_)
    cases hf
    exact zr_iret X hr hP hS dX7_size_148
  have hf := if_f q4 hf
  rcases Classical.em (a1 = (5 : Int32)) with q5 | q5
  · have hf := if_t q5 hf
    refine lv_tableIn (off := 148) (tgt := 149) hx hb dX7_size_1 (by rw [q5]; decide) (by rw [q5]; decide) (by rw [q5]; rfl) (by decide) ?_
    refine lv_aload_n hx hb dX7_size_149 rfl (lv_at hl 0 rfl) ?_
    refine gf_X7_10 X hnI hP zk_0 dX7_size_150 ?_
    refine gf_X7_88 X hnI hP zk_1 dX7_size_153 ?_
    refine lv_iconst (v := (2 : Int32)) hx hb dX7_size_156 (by decide) ?_
    obtain ⟨x6, hx6, hf⟩ := ob_e hf
    refine zr_cVi (rest := []) (As := [.int (2 : Int32)]) X hP hS (ct_X0_membersIn (g := g) (nc := nc) (I := I) (J := J) (O := O) hnI l zb_isB1 hx6) cw_X7_151 (zr_recv X hP (Nat.lt_of_lt_of_le (zk_2).1 hnI) (zb_ceIo zk_2 (by decide)) rfl) rfl hl.1 (Nat.le_of_ble_eq_true rfl) ⟨Nat.le_of_ble_eq_true rfl, Nat.le_of_ble_eq_true rfl⟩ ⟨Nat.le_of_ble_eq_true rfl, Nat.le_of_ble_eq_true rfl⟩ dX7_size_157 rfl (fun H locs hP hS => ?_)
    obtain ⟨x7, hx7, hf⟩ := ob_e hf
    refine zr_cSi (rest := []) (As := [.int x6]) X hP hS (ct_J6_bitCount_0f7a4 (g := g) (nc := nc) (I := I) (J := J) (O := O)  l  hx7) cw_X7_154  rfl hl.1 (Nat.le_of_ble_eq_true rfl) ⟨Nat.le_of_ble_eq_true rfl, Nat.le_of_ble_eq_true rfl⟩ ⟨Nat.le_of_ble_eq_true rfl, Nat.le_of_ble_eq_true rfl⟩ dX7_size_160 rfl (fun H locs hP hS => ?_)
    cases hf
    exact zr_iret X hr hP hS dX7_size_163
  have hf := if_f q5 hf
  rcases Classical.em (a1 = (6 : Int32)) with q6 | q6
  · have hf := if_t q6 hf
    refine lv_tableIn (off := 163) (tgt := 164) hx hb dX7_size_1 (by rw [q6]; decide) (by rw [q6]; decide) (by rw [q6]; rfl) (by decide) ?_
    refine lv_aload_n hx hb dX7_size_164 rfl (lv_at hl 0 rfl) ?_
    refine gf_X7_10 X hnI hP zk_0 dX7_size_165 ?_
    refine gf_X7_159 X hnI hP zk_1 dX7_size_168 ?_
    refine gf_X7_163 X hnI hP zk_12 dX7_size_171 ?_
    obtain ⟨x8, hx8, hf⟩ := ob_e hf
    refine zr_cSi (rest := []) (As := [.int (I 12 0)]) X hP hS (ct_J6_bitCount_0f7a4 (g := g) (nc := nc) (I := I) (J := J) (O := O)  l  hx8) cw_X7_154  rfl hl.1 (Nat.le_of_ble_eq_true rfl) ⟨Nat.le_of_ble_eq_true rfl, Nat.le_of_ble_eq_true rfl⟩ ⟨Nat.le_of_ble_eq_true rfl, Nat.le_of_ble_eq_true rfl⟩ dX7_size_174 rfl (fun H locs hP hS => ?_)
    cases hf
    exact zr_iret X hr hP hS dX7_size_177
  have hf := if_f q6 hf
  rcases Classical.em (a1 = (7 : Int32)) with q7 | q7
  · have hf := if_t q7 hf
    refine lv_tableIn (off := 177) (tgt := 178) hx hb dX7_size_1 (by rw [q7]; decide) (by rw [q7]; decide) (by rw [q7]; rfl) (by decide) ?_
    refine lv_aload_n hx hb dX7_size_178 rfl (lv_at hl 0 rfl) ?_
    refine gf_X7_10 X hnI hP zk_0 dX7_size_179 ?_
    refine gf_X7_123 X hnI hP zk_1 dX7_size_182 ?_
    cases hf
    exact zr_iret X hr hP hS dX7_size_185
  have hf := if_f q7 hf
  rcases Classical.em (a1 = (8 : Int32)) with q8 | q8
  · have hf := if_t q8 hf
    refine lv_tableIn (off := 185) (tgt := 186) hx hb dX7_size_1 (by rw [q8]; decide) (by rw [q8]; decide) (by rw [q8]; rfl) (by decide) ?_
    refine lv_aload_n hx hb dX7_size_186 rfl (lv_at hl 0 rfl) ?_
    refine gf_X7_10 X hnI hP zk_0 dX7_size_187 ?_
    refine gf_X7_79 X hnI hP zk_1 dX7_size_190 ?_
    cases hf
    exact zr_iret X hr hP hS dX7_size_193
  have hf := if_f q8 hf
  rcases Classical.em (a1 = (9 : Int32)) with q9 | q9
  · have hf := if_t q9 hf
    refine lv_tableIn (off := 193) (tgt := 194) hx hb dX7_size_1 (by rw [q9]; decide) (by rw [q9]; decide) (by rw [q9]; rfl) (by decide) ?_
    refine lv_aload_n hx hb dX7_size_194 rfl (lv_at hl 0 rfl) ?_
    refine gf_X7_10 X hnI hP zk_0 dX7_size_195 ?_
    refine gf_X7_82 X hnI hP zk_1 dX7_size_198 ?_
    cases hf
    exact zr_iret X hr hP hS dX7_size_201
  have hf := if_f q9 hf
  rcases Classical.em (a1 = (10 : Int32)) with q10 | q10
  · have hf := if_t q10 hf
    refine lv_tableIn (off := 201) (tgt := 202) hx hb dX7_size_1 (by rw [q10]; decide) (by rw [q10]; decide) (by rw [q10]; rfl) (by decide) ?_
    refine lv_aload_n hx hb dX7_size_202 rfl (lv_at hl 0 rfl) ?_
    refine gf_X7_10 X hnI hP zk_0 dX7_size_203 ?_
    refine gf_X7_85 X hnI hP zk_1 dX7_size_206 ?_
    cases hf
    exact zr_iret X hr hP hS dX7_size_209
  have hf := if_f q10 hf
  rcases Classical.em (a1 = (11 : Int32)) with q11 | q11
  · have hf := if_t q11 hf
    refine lv_tableIn (off := 209) (tgt := 210) hx hb dX7_size_1 (by rw [q11]; decide) (by rw [q11]; decide) (by rw [q11]; rfl) (by decide) ?_
    refine lv_aload_n hx hb dX7_size_210 rfl (lv_at hl 0 rfl) ?_
    refine gf_X7_10 X hnI hP zk_0 dX7_size_211 ?_
    refine gf_X7_168 X hnI hP zk_1 dX7_size_214 ?_
    cases hf
    exact zr_iret X hr hP hS dX7_size_217
  have hf := if_f q11 hf
  rcases Classical.em (a1 = (12 : Int32)) with q12 | q12
  · have hf := if_t q12 hf
    refine lv_tableIn (off := 217) (tgt := 218) hx hb dX7_size_1 (by rw [q12]; decide) (by rw [q12]; decide) (by rw [q12]; rfl) (by decide) ?_
    refine lv_aload_n hx hb dX7_size_218 rfl (lv_at hl 0 rfl) ?_
    refine gf_X7_23 X hnI hP zk_0 dX7_size_219 ?_
    cases hf
    exact zr_iret X hr hP hS dX7_size_222
  have hf := if_f q12 hf
  rcases Classical.em (a1 = (13 : Int32)) with q13 | q13
  · have hf := if_t q13 hf
    refine lv_tableIn (off := 222) (tgt := 223) hx hb dX7_size_1 (by rw [q13]; decide) (by rw [q13]; decide) (by rw [q13]; rfl) (by decide) ?_
    refine lv_aload_n hx hb dX7_size_223 rfl (lv_at hl 0 rfl) ?_
    obtain ⟨x9, hx9, hf⟩ := ob_e hf
    refine zr_cVi (rest := []) (As := []) X hP hS (ct_X7_hoursWithLevel (g := g) (nc := nc) (I := I) (J := J) (O := O) hnI l  hx9) cw_X7_171 (zr_recv X hP (Nat.lt_of_lt_of_le (zk_0).1 hnI) (zb_ceIo zk_0 (by decide)) rfl) rfl hl.1 (Nat.le_of_ble_eq_true rfl) ⟨Nat.le_of_ble_eq_true rfl, Nat.le_of_ble_eq_true rfl⟩ ⟨Nat.le_of_ble_eq_true rfl, Nat.le_of_ble_eq_true rfl⟩ dX7_size_224 rfl (fun H locs hP hS => ?_)
    cases hf
    exact zr_iret X hr hP hS dX7_size_227
  have hf := if_f q13 hf
  rcases Classical.em (a1 = (14 : Int32)) with q14 | q14
  · have hf := if_t q14 hf
    refine lv_tableIn (off := 227) (tgt := 228) hx hb dX7_size_1 (by rw [q14]; decide) (by rw [q14]; decide) (by rw [q14]; rfl) (by decide) ?_
    refine lv_aload_n hx hb dX7_size_228 rfl (lv_at hl 0 rfl) ?_
    refine gf_X7_10 X hnI hP zk_0 dX7_size_229 ?_
    refine gf_X7_174 X hnI hP zk_1 dX7_size_232 ?_
    cases hf
    exact zr_iret X hr hP hS dX7_size_235
  have hf := if_f q14 hf
  rcases Classical.em (a1 = (15 : Int32)) with q15 | q15
  · have hf := if_t q15 hf
    refine lv_tableIn (off := 235) (tgt := 236) hx hb dX7_size_1 (by rw [q15]; decide) (by rw [q15]; decide) (by rw [q15]; rfl) (by decide) ?_
    refine lv_aload_n hx hb dX7_size_236 rfl (lv_at hl 0 rfl) ?_
    refine gf_X7_10 X hnI hP zk_0 dX7_size_237 ?_
    refine gf_X7_126 X hnI hP zk_1 dX7_size_240 ?_
    cases hf
    exact zr_iret X hr hP hS dX7_size_243
  have hf := if_f q15 hf
  rcases Classical.em (a1 = (16 : Int32)) with q16 | q16
  · have hf := if_t q16 hf
    refine lv_tableIn (off := 243) (tgt := 244) hx hb dX7_size_1 (by rw [q16]; decide) (by rw [q16]; decide) (by rw [q16]; rfl) (by decide) ?_
    refine lv_aload_n hx hb dX7_size_244 rfl (lv_at hl 0 rfl) ?_
    refine gf_X7_10 X hnI hP zk_0 dX7_size_245 ?_
    refine gf_X7_177 X hnI hP zk_1 dX7_size_248 ?_
    cases hf
    exact zr_iret X hr hP hS dX7_size_251
  have hf := if_f q16 hf
  refine lv_tableOut (tgt := 252) hx hb dX7_size_1 (by have z0 := zr_ne (k := 0) (by decide) q0; have z1 := zr_ne (k := 1) (by decide) q1; have z2 := zr_ne (k := 2) (by decide) q2; have z3 := zr_ne (k := 3) (by decide) q3; have z4 := zr_ne (k := 4) (by decide) q4; have z5 := zr_ne (k := 5) (by decide) q5; have z6 := zr_ne (k := 6) (by decide) q6; have z7 := zr_ne (k := 7) (by decide) q7; have z8 := zr_ne (k := 8) (by decide) q8; have z9 := zr_ne (k := 9) (by decide) q9; have z10 := zr_ne (k := 10) (by decide) q10; have z11 := zr_ne (k := 11) (by decide) q11; have z12 := zr_ne (k := 12) (by decide) q12; have z13 := zr_ne (k := 13) (by decide) q13; have z14 := zr_ne (k := 14) (by decide) q14; have z15 := zr_ne (k := 15) (by decide) q15; have z16 := zr_ne (k := 16) (by decide) q16; omega) (by decide) ?_
  exact (thr_ne (by decide) hf).elim
set_option maxHeartbeats 4000000 in
set_option maxRecDepth 100000 in
theorem ct_X7_buoy {g : zb_G} {nc : Nat} (hnI : 306 ≤ nc) (l : Launch) {a1 : Int32} {a2 : Int32} {I J O : Mem} {r9 : Int32} (hf : fX7_buoy a1 a2 I = some (0, r9)) : zb_Ct l g nc yX7_buoy cX7_buoy 4 (some .int) 7 146 [.ref (g.2.2 + 0), .int a1, .int a2] (zb_ce g I J O) (some (.int r9)) (zb_ce g I J O) := by
  refine zb_ofW (own := RX7) (by decide +kernel) rfl (Nat.le_of_ble_eq_true rfl) ?_
  intro p e s m args below meth c ls X hr hP hl
  have hx := X.1.1
  have hb := X.1.2.1
  have ho := X.1.2.2.2.1
  have hts := X.1.2.2.2.2
  have hZ := X.2.2.2
  have hl : lv_has ls 4 [(0, .ref (g.2.2 + 0)), (1, .int a1), (2, .int a2)] := hl
  have hS : va_S (zb_A g) s.heap s.heap [] := va_S.rf
  obtain ⟨H, hH⟩ : ∃ H, H = s.heap := ⟨_, rfl⟩
  obtain ⟨locs, hlocs⟩ : ∃ z : List Loc, z = [] := ⟨_, rfl⟩
  rw [← hH] at hP
  have hS : va_S (zb_A g) s.heap H locs := by rw [hH, hlocs]; exact hS
  show W p l e _ s m args below meth c s.heap [] 0 0 _ _
  rw [← hH, ← hlocs]
  rw [fX7_buoy] at hf
  refine lv_aload_n hx hb dX7_buoy_0 rfl (lv_at hl 0 rfl) ?_
  refine lv_iload_n hx hb dX7_buoy_1 rfl (lv_at hl 1 rfl) ?_
  obtain ⟨e1, he1, hf⟩ := ob_e hf
  rcases Classical.em (e1 = 0) with he | he
  · have hf := if_t he hf
    rw [he] at he1
    refine zr_cVv (rest := []) (As := [.int a1]) X hP hS (ct_X7_checkBuoy (g := g) (nc := nc) (I := I) (J := J) (O := O) hnI l  he1) cw_X7_185 (zr_recv X hP (Nat.lt_of_lt_of_le (zk_0).1 hnI) (zb_ceIo zk_0 (by decide)) rfl) rfl hl.1 (Nat.le_of_ble_eq_true rfl) ⟨Nat.le_of_ble_eq_true rfl, Nat.le_of_ble_eq_true rfl⟩ ⟨Nat.le_of_ble_eq_true rfl, Nat.le_of_ble_eq_true rfl⟩ dX7_buoy_2 rfl (fun H locs hP hS => ?_)
    refine lv_aload_n hx hb dX7_buoy_5 rfl (lv_at hl 0 rfl) ?_
    refine gf_X7_10 X hnI hP zk_0 dX7_buoy_6 ?_
    refine gf_X7_88 X hnI hP zk_1 dX7_buoy_9 ?_
    refine lv_astore_n (lv' := [(3, .ref (g.2.2 + 2)), (0, .ref (g.2.2 + 0)), (1, .int a1), (2, .int a2)]) hx hb dX7_buoy_12 rfl hl (by decide) rfl (fun ls hl => ?_)
    refine lv_iload_n hx hb dX7_buoy_13 rfl (lv_at hl 3 rfl) ?_
    rcases Classical.em (a2 = (0 : Int32)) with q0 | q0
    · have hf := if_t q0 hf
      refine lv_tableIn (off := 54) (tgt := 68) hx hb dX7_buoy_14 (by rw [q0]; decide) (by rw [q0]; decide) (by rw [q0]; rfl) (by decide) ?_
      refine lv_aload_n hx hb dX7_buoy_68 rfl (lv_at hl 0 rfl) ?_
      refine gf_X7_188 X hnI hP zk_2 dX7_buoy_69 ?_
      refine lv_iload_n hx hb dX7_buoy_72 rfl (lv_at hl 2 rfl) ?_
      obtain ⟨x2, hx2, hf⟩ := ob_e hf
      refine zr_aldI X hP hnI zk_3 hx2 dX7_buoy_73 ?_
      cases hf
      exact zr_iret X hr hP hS dX7_buoy_74
    have hf := if_f q0 hf
    rcases Classical.em (a2 = (1 : Int32)) with q1 | q1
    · have hf := if_t q1 hf
      refine lv_tableIn (off := 61) (tgt := 75) hx hb dX7_buoy_14 (by rw [q1]; decide) (by rw [q1]; decide) (by rw [q1]; rfl) (by decide) ?_
      refine lv_aload_n hx hb dX7_buoy_75 rfl (lv_at hl 0 rfl) ?_
      refine gf_X7_191 X hnI hP zk_2 dX7_buoy_76 ?_
      refine lv_iload_n hx hb dX7_buoy_79 rfl (lv_at hl 2 rfl) ?_
      obtain ⟨x3, hx3, hf⟩ := ob_e hf
      refine zr_aldI X hP hnI zk_4 hx3 dX7_buoy_80 ?_
      cases hf
      exact zr_iret X hr hP hS dX7_buoy_81
    have hf := if_f q1 hf
    rcases Classical.em (a2 = (2 : Int32)) with q2 | q2
    · have hf := if_t q2 hf
      refine lv_tableIn (off := 68) (tgt := 82) hx hb dX7_buoy_14 (by rw [q2]; decide) (by rw [q2]; decide) (by rw [q2]; rfl) (by decide) ?_
      refine lv_aload_n hx hb dX7_buoy_82 rfl (lv_at hl 0 rfl) ?_
      refine gf_X7_194 X hnI hP zk_2 dX7_buoy_83 ?_
      refine lv_iload_n hx hb dX7_buoy_86 rfl (lv_at hl 2 rfl) ?_
      obtain ⟨x4, hx4, hf⟩ := ob_e hf
      refine zr_aldI X hP hnI zk_5 hx4 dX7_buoy_87 ?_
      cases hf
      exact zr_iret X hr hP hS dX7_buoy_88
    have hf := if_f q2 hf
    rcases Classical.em (a2 = (3 : Int32)) with q3 | q3
    · have hf := if_t q3 hf
      refine lv_tableIn (off := 75) (tgt := 89) hx hb dX7_buoy_14 (by rw [q3]; decide) (by rw [q3]; decide) (by rw [q3]; rfl) (by decide) ?_
      refine lv_aload_n hx hb dX7_buoy_89 rfl (lv_at hl 0 rfl) ?_
      refine gf_X7_197 X hnI hP zk_2 dX7_buoy_90 ?_
      refine lv_iload_n hx hb dX7_buoy_93 rfl (lv_at hl 2 rfl) ?_
      obtain ⟨x5, hx5, hf⟩ := ob_e hf
      refine zr_aldI X hP hnI zk_6 hx5 dX7_buoy_94 ?_
      cases hf
      exact zr_iret X hr hP hS dX7_buoy_95
    have hf := if_f q3 hf
    rcases Classical.em (a2 = (4 : Int32)) with q4 | q4
    · have hf := if_t q4 hf
      refine lv_tableIn (off := 82) (tgt := 96) hx hb dX7_buoy_14 (by rw [q4]; decide) (by rw [q4]; decide) (by rw [q4]; rfl) (by decide) ?_
      refine lv_aload_n hx hb dX7_buoy_96 rfl (lv_at hl 0 rfl) ?_
      refine gf_X7_200 X hnI hP zk_2 dX7_buoy_97 ?_
      refine lv_iload_n hx hb dX7_buoy_100 rfl (lv_at hl 2 rfl) ?_
      obtain ⟨x6, hx6, hf⟩ := ob_e hf
      refine zr_aldI X hP hnI zk_7 hx6 dX7_buoy_101 ?_
      cases hf
      exact zr_iret X hr hP hS dX7_buoy_102
    have hf := if_f q4 hf
    rcases Classical.em (a2 = (5 : Int32)) with q5 | q5
    · have hf := if_t q5 hf
      refine lv_tableIn (off := 89) (tgt := 103) hx hb dX7_buoy_14 (by rw [q5]; decide) (by rw [q5]; decide) (by rw [q5]; rfl) (by decide) ?_
      refine lv_aload_n hx hb dX7_buoy_103 rfl (lv_at hl 0 rfl) ?_
      refine gf_X7_203 X hnI hP zk_2 dX7_buoy_104 ?_
      refine lv_iload_n hx hb dX7_buoy_107 rfl (lv_at hl 2 rfl) ?_
      obtain ⟨x7, hx7, hf⟩ := ob_e hf
      refine zr_aldI X hP hnI zk_8 hx7 dX7_buoy_108 ?_
      cases hf
      exact zr_iret X hr hP hS dX7_buoy_109
    have hf := if_f q5 hf
    rcases Classical.em (a2 = (6 : Int32)) with q6 | q6
    · have hf := if_t q6 hf
      refine lv_tableIn (off := 96) (tgt := 110) hx hb dX7_buoy_14 (by rw [q6]; decide) (by rw [q6]; decide) (by rw [q6]; rfl) (by decide) ?_
      refine lv_aload_n hx hb dX7_buoy_110 rfl (lv_at hl 0 rfl) ?_
      refine gf_X7_206 X hnI hP zk_2 dX7_buoy_111 ?_
      refine lv_iload_n hx hb dX7_buoy_114 rfl (lv_at hl 2 rfl) ?_
      obtain ⟨x8, hx8, hf⟩ := ob_e hf
      refine zr_aldI X hP hnI zk_9 hx8 dX7_buoy_115 ?_
      cases hf
      exact zr_iret X hr hP hS dX7_buoy_116
    have hf := if_f q6 hf
    rcases Classical.em (a2 = (7 : Int32)) with q7 | q7
    · have hf := if_t q7 hf
      refine lv_tableIn (off := 103) (tgt := 117) hx hb dX7_buoy_14 (by rw [q7]; decide) (by rw [q7]; decide) (by rw [q7]; rfl) (by decide) ?_
      refine lv_aload_n hx hb dX7_buoy_117 rfl (lv_at hl 0 rfl) ?_
      refine gf_X7_209 X hnI hP zk_2 dX7_buoy_118 ?_
      refine lv_iload_n hx hb dX7_buoy_121 rfl (lv_at hl 2 rfl) ?_
      obtain ⟨x9, hx9, hf⟩ := ob_e hf
      refine zr_aldI X hP hnI zk_10 hx9 dX7_buoy_122 ?_
      cases hf
      exact zr_iret X hr hP hS dX7_buoy_123
    have hf := if_f q7 hf
    rcases Classical.em (a2 = (8 : Int32)) with q8 | q8
    · have hf := if_t q8 hf
      refine lv_tableIn (off := 110) (tgt := 124) hx hb dX7_buoy_14 (by rw [q8]; decide) (by rw [q8]; decide) (by rw [q8]; rfl) (by decide) ?_
      refine lv_aload_n hx hb dX7_buoy_124 rfl (lv_at hl 0 rfl) ?_
      refine gf_X7_212 X hnI hP zk_2 dX7_buoy_125 ?_
      refine lv_iload_n hx hb dX7_buoy_128 rfl (lv_at hl 2 rfl) ?_
      obtain ⟨x10, hx10, hf⟩ := ob_e hf
      refine zr_cSi (rest := []) (As := [.int (I 2 1), .int a1]) X hP hS (ct_X7_has (g := g) (nc := nc) (I := I) (J := J) (O := O)  l  hx10) cw_X7_215  rfl hl.1 (Nat.le_of_ble_eq_true rfl) ⟨Nat.le_of_ble_eq_true rfl, Nat.le_of_ble_eq_true rfl⟩ ⟨Nat.le_of_ble_eq_true rfl, Nat.le_of_ble_eq_true rfl⟩ dX7_buoy_129 rfl (fun H locs hP hS => ?_)
      obtain ⟨x11, ht, hf⟩ := pl_e hf
      have K1 : ∀ (H : Heap) (locs : List Loc) (ls : Array Slot), va_P g.1 vwCl (zb_ws g nc (zb_ce g I J O)) H → va_S (zb_A g) s.heap H locs → lv_has ls 4 [] → W p l e { frames := 7, cells := 0, slots := 0, locals := 146 } s m args below meth c H locs 0 0 (MQ below (zb_Po g nc (zb_ce g I J O) (some (.int r9))) args s 0 0 (zb_A g)) (F0 m 140 ls [.int x11]) := by
        intro H locs ls hP hS hl
        cases hf
        exact zr_iret X hr hP hS dX7_buoy_140
      have hf := ht
      refine lv_if_eq (tgt := 139) hx hb dX7_buoy_132 (by decide) (fun hc => ?_) (fun hc => ?_)
      · have hf := if_t hc hf
        refine lv_iconst (v := (0 : Int32)) hx hb dX7_buoy_139 (by decide) ?_
        cases hf
        exact K1 H locs ls hP hS (lv_sub hl [] rfl)
      · have hf := if_f hc hf
        refine lv_iconst (v := (1 : Int32)) hx hb dX7_buoy_135 (by decide) ?_
        refine lv_goto (tgt := 140) hx hb dX7_buoy_136 (by decide) ?_
        cases hf
        exact K1 H locs ls hP hS (lv_sub hl [] rfl)
    have hf := if_f q8 hf
    rcases Classical.em (a2 = (9 : Int32)) with q9 | q9
    · have hf := if_t q9 hf
      refine lv_tableIn (off := 127) (tgt := 141) hx hb dX7_buoy_14 (by rw [q9]; decide) (by rw [q9]; decide) (by rw [q9]; rfl) (by decide) ?_
      refine lv_aload_n hx hb dX7_buoy_141 rfl (lv_at hl 0 rfl) ?_
      refine gf_X7_219 X hnI hP zk_2 dX7_buoy_142 ?_
      refine lv_iload_n hx hb dX7_buoy_145 rfl (lv_at hl 2 rfl) ?_
      obtain ⟨x12, hx12, hf⟩ := ob_e hf
      refine zr_aldI X hP hnI zk_11 hx12 dX7_buoy_146 ?_
      cases hf
      exact zr_iret X hr hP hS dX7_buoy_147
    have hf := if_f q9 hf
    refine lv_tableOut (tgt := 148) hx hb dX7_buoy_14 (by have z0 := zr_ne (k := 0) (by decide) q0; have z1 := zr_ne (k := 1) (by decide) q1; have z2 := zr_ne (k := 2) (by decide) q2; have z3 := zr_ne (k := 3) (by decide) q3; have z4 := zr_ne (k := 4) (by decide) q4; have z5 := zr_ne (k := 5) (by decide) q5; have z6 := zr_ne (k := 6) (by decide) q6; have z7 := zr_ne (k := 7) (by decide) q7; have z8 := zr_ne (k := 8) (by decide) q8; have z9 := zr_ne (k := 9) (by decide) q9; omega) (by decide) ?_
    exact (thr_ne (by decide) hf).elim
  · have hf := if_f he hf
    exact (thr_ne he hf).elim
set_option maxHeartbeats 4000000 in
set_option maxRecDepth 100000 in
theorem ct_X7_rope {g : zb_G} {nc : Nat} (hnI : 306 ≤ nc) (l : Launch) {a1 : Int32} {a2 : Int32} {I J O : Mem} {r9 : Int32} (hf : fX7_rope a1 a2 I = some (0, r9)) : zb_Ct l g nc yX7_rope cX7_rope 3 (some .int) 7 146 [.ref (g.2.2 + 0), .int a1, .int a2] (zb_ce g I J O) (some (.int r9)) (zb_ce g I J O) := by
  refine zb_ofW (own := RX7) (by decide +kernel) rfl (Nat.le_of_ble_eq_true rfl) ?_
  intro p e s m args below meth c ls X hr hP hl
  have hx := X.1.1
  have hb := X.1.2.1
  have ho := X.1.2.2.2.1
  have hts := X.1.2.2.2.2
  have hZ := X.2.2.2
  have hl : lv_has ls 3 [(0, .ref (g.2.2 + 0)), (1, .int a1), (2, .int a2)] := hl
  have hS : va_S (zb_A g) s.heap s.heap [] := va_S.rf
  obtain ⟨H, hH⟩ : ∃ H, H = s.heap := ⟨_, rfl⟩
  obtain ⟨locs, hlocs⟩ : ∃ z : List Loc, z = [] := ⟨_, rfl⟩
  rw [← hH] at hP
  have hS : va_S (zb_A g) s.heap H locs := by rw [hH, hlocs]; exact hS
  show W p l e _ s m args below meth c s.heap [] 0 0 _ _
  rw [← hH, ← hlocs]
  rw [fX7_rope] at hf
  refine lv_aload_n hx hb dX7_rope_0 rfl (lv_at hl 0 rfl) ?_
  refine lv_iload_n hx hb dX7_rope_1 rfl (lv_at hl 1 rfl) ?_
  obtain ⟨e1, he1, hf⟩ := ob_e hf
  rcases Classical.em (e1 = 0) with he | he
  · have hf := if_t he hf
    rw [he] at he1
    refine zr_cVv (rest := []) (As := [.int a1]) X hP hS (ct_X7_checkRope (g := g) (nc := nc) (I := I) (J := J) (O := O) hnI l  he1) cw_X7_222 (zr_recv X hP (Nat.lt_of_lt_of_le (zk_0).1 hnI) (zb_ceIo zk_0 (by decide)) rfl) rfl hl.1 (Nat.le_of_ble_eq_true rfl) ⟨Nat.le_of_ble_eq_true rfl, Nat.le_of_ble_eq_true rfl⟩ ⟨Nat.le_of_ble_eq_true rfl, Nat.le_of_ble_eq_true rfl⟩ dX7_rope_2 rfl (fun H locs hP hS => ?_)
    refine lv_iload_n hx hb dX7_rope_5 rfl (lv_at hl 2 rfl) ?_
    rcases Classical.em (a2 = (0 : Int32)) with q0 | q0
    · have hf := if_t q0 hf
      refine lv_tableIn (off := 30) (tgt := 36) hx hb dX7_rope_6 (by rw [q0]; decide) (by rw [q0]; decide) (by rw [q0]; rfl) (by decide) ?_
      refine lv_aload_n hx hb dX7_rope_36 rfl (lv_at hl 0 rfl) ?_
      refine gf_X7_10 X hnI hP zk_0 dX7_rope_37 ?_
      refine gf_X7_88 X hnI hP zk_1 dX7_rope_40 ?_
      refine lv_iload_n hx hb dX7_rope_43 rfl (lv_at hl 1 rfl) ?_
      obtain ⟨x2, hx2, hf⟩ := ob_e hf
      refine zr_cVi (rest := []) (As := [.int a1]) X hP hS (ct_X0_distanceBehind (g := g) (nc := nc) (I := I) (J := J) (O := O) hnI l zb_isB1 hx2) cw_X7_225 (zr_recv X hP (Nat.lt_of_lt_of_le (zk_2).1 hnI) (zb_ceIo zk_2 (by decide)) rfl) rfl hl.1 (Nat.le_of_ble_eq_true rfl) ⟨Nat.le_of_ble_eq_true rfl, Nat.le_of_ble_eq_true rfl⟩ ⟨Nat.le_of_ble_eq_true rfl, Nat.le_of_ble_eq_true rfl⟩ dX7_rope_44 rfl (fun H locs hP hS => ?_)
      cases hf
      exact zr_iret X hr hP hS dX7_rope_47
    have hf := if_f q0 hf
    rcases Classical.em (a2 = (1 : Int32)) with q1 | q1
    · have hf := if_t q1 hf
      refine lv_tableIn (off := 42) (tgt := 48) hx hb dX7_rope_6 (by rw [q1]; decide) (by rw [q1]; decide) (by rw [q1]; rfl) (by decide) ?_
      refine lv_aload_n hx hb dX7_rope_48 rfl (lv_at hl 0 rfl) ?_
      refine gf_X7_10 X hnI hP zk_0 dX7_rope_49 ?_
      refine gf_X7_159 X hnI hP zk_1 dX7_rope_52 ?_
      refine gf_X7_228 X hnI hP zk_12 dX7_rope_55 ?_
      refine lv_iload_n hx hb dX7_rope_58 rfl (lv_at hl 1 rfl) ?_
      obtain ⟨x3, hx3, hf⟩ := ob_e hf
      refine zr_aldI X hP hnI zk_13 hx3 dX7_rope_59 ?_
      cases hf
      exact zr_iret X hr hP hS dX7_rope_60
    have hf := if_f q1 hf
    rcases Classical.em (a2 = (2 : Int32)) with q2 | q2
    · have hf := if_t q2 hf
      refine lv_tableIn (off := 55) (tgt := 61) hx hb dX7_rope_6 (by rw [q2]; decide) (by rw [q2]; decide) (by rw [q2]; rfl) (by decide) ?_
      refine lv_aload_n hx hb dX7_rope_61 rfl (lv_at hl 0 rfl) ?_
      refine gf_X7_10 X hnI hP zk_0 dX7_rope_62 ?_
      refine gf_X7_159 X hnI hP zk_1 dX7_rope_65 ?_
      refine gf_X7_231 X hnI hP zk_12 dX7_rope_68 ?_
      refine lv_iload_n hx hb dX7_rope_71 rfl (lv_at hl 1 rfl) ?_
      obtain ⟨x4, hx4, hf⟩ := ob_e hf
      refine zr_aldI X hP hnI zk_14 hx4 dX7_rope_72 ?_
      cases hf
      exact zr_iret X hr hP hS dX7_rope_73
    have hf := if_f q2 hf
    rcases Classical.em (a2 = (3 : Int32)) with q3 | q3
    · have hf := if_t q3 hf
      refine lv_tableIn (off := 68) (tgt := 74) hx hb dX7_rope_6 (by rw [q3]; decide) (by rw [q3]; decide) (by rw [q3]; rfl) (by decide) ?_
      refine lv_aload_n hx hb dX7_rope_74 rfl (lv_at hl 0 rfl) ?_
      refine gf_X7_10 X hnI hP zk_0 dX7_rope_75 ?_
      refine gf_X7_159 X hnI hP zk_1 dX7_rope_78 ?_
      refine gf_X7_163 X hnI hP zk_12 dX7_rope_81 ?_
      refine lv_iload_n hx hb dX7_rope_84 rfl (lv_at hl 1 rfl) ?_
      obtain ⟨x5, hx5, hf⟩ := ob_e hf
      refine zr_cSi (rest := []) (As := [.int (I 12 0), .int a1]) X hP hS (ct_X7_has (g := g) (nc := nc) (I := I) (J := J) (O := O)  l  hx5) cw_X7_215  rfl hl.1 (Nat.le_of_ble_eq_true rfl) ⟨Nat.le_of_ble_eq_true rfl, Nat.le_of_ble_eq_true rfl⟩ ⟨Nat.le_of_ble_eq_true rfl, Nat.le_of_ble_eq_true rfl⟩ dX7_rope_85 rfl (fun H locs hP hS => ?_)
      obtain ⟨x6, ht, hf⟩ := pl_e hf
      have K1 : ∀ (H : Heap) (locs : List Loc) (ls : Array Slot), va_P g.1 vwCl (zb_ws g nc (zb_ce g I J O)) H → va_S (zb_A g) s.heap H locs → lv_has ls 3 [] → W p l e { frames := 7, cells := 0, slots := 0, locals := 146 } s m args below meth c H locs 0 0 (MQ below (zb_Po g nc (zb_ce g I J O) (some (.int r9))) args s 0 0 (zb_A g)) (F0 m 96 ls [.int x6]) := by
        intro H locs ls hP hS hl
        cases hf
        exact zr_iret X hr hP hS dX7_rope_96
      have hf := ht
      refine lv_if_eq (tgt := 95) hx hb dX7_rope_88 (by decide) (fun hc => ?_) (fun hc => ?_)
      · have hf := if_t hc hf
        refine lv_iconst (v := (0 : Int32)) hx hb dX7_rope_95 (by decide) ?_
        cases hf
        exact K1 H locs ls hP hS (lv_sub hl [] rfl)
      · have hf := if_f hc hf
        refine lv_iconst (v := (1 : Int32)) hx hb dX7_rope_91 (by decide) ?_
        refine lv_goto (tgt := 96) hx hb dX7_rope_92 (by decide) ?_
        cases hf
        exact K1 H locs ls hP hS (lv_sub hl [] rfl)
    have hf := if_f q3 hf
    refine lv_tableOut (tgt := 97) hx hb dX7_rope_6 (by have z0 := zr_ne (k := 0) (by decide) q0; have z1 := zr_ne (k := 1) (by decide) q1; have z2 := zr_ne (k := 2) (by decide) q2; have z3 := zr_ne (k := 3) (by decide) q3; omega) (by decide) ?_
    exact (thr_ne (by decide) hf).elim
  · have hf := if_f he hf
    exact (thr_ne he hf).elim
set_option maxHeartbeats 4000000 in
set_option maxRecDepth 100000 in
theorem ct_X7_account {g : zb_G} {nc : Nat} (hnI : 306 ≤ nc) (l : Launch) {a1 : Int32} {I J O : Mem} {r9 : Int32} (hf : fX7_account a1 I = some (0, r9)) : zb_Ct l g nc yX7_account cX7_account 2 (some .int) 6 125 [.ref (g.2.2 + 0), .int a1] (zb_ce g I J O) (some (.int r9)) (zb_ce g I J O) := by
  refine zb_ofW (own := RX7) (by decide +kernel) rfl (Nat.le_of_ble_eq_true rfl) ?_
  intro p e s m args below meth c ls X hr hP hl
  have hx := X.1.1
  have hb := X.1.2.1
  have ho := X.1.2.2.2.1
  have hts := X.1.2.2.2.2
  have hZ := X.2.2.2
  have hl : lv_has ls 2 [(0, .ref (g.2.2 + 0)), (1, .int a1)] := hl
  have hS : va_S (zb_A g) s.heap s.heap [] := va_S.rf
  obtain ⟨H, hH⟩ : ∃ H, H = s.heap := ⟨_, rfl⟩
  obtain ⟨locs, hlocs⟩ : ∃ z : List Loc, z = [] := ⟨_, rfl⟩
  rw [← hH] at hP
  have hS : va_S (zb_A g) s.heap H locs := by rw [hH, hlocs]; exact hS
  show W p l e _ s m args below meth c s.heap [] 0 0 _ _
  rw [← hH, ← hlocs]
  rw [fX7_account] at hf
  refine lv_iload_n hx hb dX7_account_0 rfl (lv_at hl 1 rfl) ?_
  refine lv_if_lt (tgt := 13) hx hb dX7_account_1 (by decide) (fun hc => ?_) (fun hc => ?_)
  · have hf := if_t hc hf
    exact (thr_ne (by decide) hf).elim
  · have hf := if_f hc hf
    refine lv_iload_n hx hb dX7_account_4 rfl (lv_at hl 1 rfl) ?_
    refine lv_aload_n hx hb dX7_account_5 rfl (lv_at hl 0 rfl) ?_
    refine gf_X7_36 X hnI hP zk_0 dX7_account_6 ?_
    refine zr_alenI X hP hnI zk_51 dX7_account_9 ?_
    refine lv_icmp_lt (tgt := 23) hx hb dX7_account_10 (by decide) (fun hc => ?_) (fun hc => ?_)
    · have hf := if_t hc hf
      refine lv_aload_n hx hb dX7_account_23 rfl (lv_at hl 0 rfl) ?_
      refine gf_X7_36 X hnI hP zk_0 dX7_account_24 ?_
      refine lv_iload_n hx hb dX7_account_27 rfl (lv_at hl 1 rfl) ?_
      obtain ⟨x1, hx1, hf⟩ := ob_e hf
      refine zr_aldI X hP hnI zk_51 hx1 dX7_account_28 ?_
      cases hf
      exact zr_iret X hr hP hS dX7_account_29
    · have hf := if_f hc hf
      exact (thr_ne (by decide) hf).elim
set_option maxHeartbeats 4000000 in
set_option maxRecDepth 100000 in
theorem ct_X7_rowOfKept {g : zb_G} {nc : Nat} (hnI : 306 ≤ nc) (l : Launch) {a1 : Int32} {I J O : Mem} {r9 : Int32} (hf : fX7_rowOfKept a1 I = some (0, r9)) : zb_Ct l g nc yX7_rowOfKept cX7_rowOfKept 2 (some .int) 6 125 [.ref (g.2.2 + 0), .int a1] (zb_ce g I J O) (some (.int r9)) (zb_ce g I J O) := by
  refine zb_ofW (own := RX7) (by decide +kernel) rfl (Nat.le_of_ble_eq_true rfl) ?_
  intro p e s m args below meth c ls X hr hP hl
  have hx := X.1.1
  have hb := X.1.2.1
  have ho := X.1.2.2.2.1
  have hts := X.1.2.2.2.2
  have hZ := X.2.2.2
  have hl : lv_has ls 2 [(0, .ref (g.2.2 + 0)), (1, .int a1)] := hl
  have hS : va_S (zb_A g) s.heap s.heap [] := va_S.rf
  obtain ⟨H, hH⟩ : ∃ H, H = s.heap := ⟨_, rfl⟩
  obtain ⟨locs, hlocs⟩ : ∃ z : List Loc, z = [] := ⟨_, rfl⟩
  rw [← hH] at hP
  have hS : va_S (zb_A g) s.heap H locs := by rw [hH, hlocs]; exact hS
  show W p l e _ s m args below meth c s.heap [] 0 0 _ _
  rw [← hH, ← hlocs]
  rw [fX7_rowOfKept] at hf
  refine lv_iload_n hx hb dX7_rowOfKept_0 rfl (lv_at hl 1 rfl) ?_
  refine lv_aload_n hx hb dX7_rowOfKept_1 rfl (lv_at hl 0 rfl) ?_
  refine gf_X7_10 X hnI hP zk_0 dX7_rowOfKept_2 ?_
  obtain ⟨x1, hx1, hf⟩ := ob_e hf
  refine zr_cVi (rest := [.int a1]) (As := []) X hP hS (ct_X5_firstKept (g := g) (nc := nc) (I := I) (J := J) (O := O) hnI l zb_isB1 hx1) cw_X7_147 (zr_recv X hP (Nat.lt_of_lt_of_le (zk_1).1 hnI) (zb_ceIo zk_1 (by decide)) rfl) rfl hl.1 (Nat.le_of_ble_eq_true rfl) ⟨Nat.le_of_ble_eq_true rfl, Nat.le_of_ble_eq_true rfl⟩ ⟨Nat.le_of_ble_eq_true rfl, Nat.le_of_ble_eq_true rfl⟩ dX7_rowOfKept_5 rfl (fun H locs hP hS => ?_)
  refine lv_icmp_lt (tgt := 22) hx hb dX7_rowOfKept_8 (by decide) (fun hc => ?_) (fun hc => ?_)
  · have hf := if_t hc hf
    exact (thr_ne (by decide) hf).elim
  · have hf := if_f hc hf
    refine lv_iload_n hx hb dX7_rowOfKept_11 rfl (lv_at hl 1 rfl) ?_
    refine lv_aload_n hx hb dX7_rowOfKept_12 rfl (lv_at hl 0 rfl) ?_
    refine gf_X7_10 X hnI hP zk_0 dX7_rowOfKept_13 ?_
    refine gf_X7_144 X hnI hP zk_1 dX7_rowOfKept_16 ?_
    refine lv_icmp_lt (tgt := 33) hx hb dX7_rowOfKept_19 (by decide) (fun hc => ?_) (fun hc => ?_)
    · have hf := if_t hc hf
      refine lv_aload_n hx hb dX7_rowOfKept_33 rfl (lv_at hl 0 rfl) ?_
      refine gf_X7_10 X hnI hP zk_0 dX7_rowOfKept_34 ?_
      refine lv_iload_n hx hb dX7_rowOfKept_37 rfl (lv_at hl 1 rfl) ?_
      obtain ⟨x2, hx2, hf⟩ := ob_e hf
      refine zr_cVi (rest := []) (As := [.int a1]) X hP hS (ct_X5_rowOf (g := g) (nc := nc) (I := I) (J := J) (O := O)  l zb_isB1 hx2) cw_X7_281 (zr_recv X hP (Nat.lt_of_lt_of_le (zk_1).1 hnI) (zb_ceIo zk_1 (by decide)) rfl) rfl hl.1 (Nat.le_of_ble_eq_true rfl) ⟨Nat.le_of_ble_eq_true rfl, Nat.le_of_ble_eq_true rfl⟩ ⟨Nat.le_of_ble_eq_true rfl, Nat.le_of_ble_eq_true rfl⟩ dX7_rowOfKept_38 rfl (fun H locs hP hS => ?_)
      cases hf
      exact zr_iret X hr hP hS dX7_rowOfKept_41
    · have hf := if_f hc hf
      exact (thr_ne (by decide) hf).elim
set_option maxHeartbeats 4000000 in
set_option maxRecDepth 100000 in
theorem ct_X7_hour {g : zb_G} {nc : Nat} (hnI : 306 ≤ nc) (l : Launch) {a1 : Int32} {a2 : Int32} {I J O : Mem} {r9 : Int32} (hf : fX7_hour a1 a2 I = some (0, r9)) : zb_Ct l g nc yX7_hour cX7_hour 5 (some .int) 7 146 [.ref (g.2.2 + 0), .int a1, .int a2] (zb_ce g I J O) (some (.int r9)) (zb_ce g I J O) := by
  refine zb_ofW (own := RX7) (by decide +kernel) rfl (Nat.le_of_ble_eq_true rfl) ?_
  intro p e s m args below meth c ls X hr hP hl
  have hx := X.1.1
  have hb := X.1.2.1
  have ho := X.1.2.2.2.1
  have hts := X.1.2.2.2.2
  have hZ := X.2.2.2
  have hl : lv_has ls 5 [(0, .ref (g.2.2 + 0)), (1, .int a1), (2, .int a2)] := hl
  have hS : va_S (zb_A g) s.heap s.heap [] := va_S.rf
  obtain ⟨H, hH⟩ : ∃ H, H = s.heap := ⟨_, rfl⟩
  obtain ⟨locs, hlocs⟩ : ∃ z : List Loc, z = [] := ⟨_, rfl⟩
  rw [← hH] at hP
  have hS : va_S (zb_A g) s.heap H locs := by rw [hH, hlocs]; exact hS
  show W p l e _ s m args below meth c s.heap [] 0 0 _ _
  rw [← hH, ← hlocs]
  rw [fX7_hour] at hf
  refine lv_aload_n hx hb dX7_hour_0 rfl (lv_at hl 0 rfl) ?_
  refine lv_iload_n hx hb dX7_hour_1 rfl (lv_at hl 1 rfl) ?_
  obtain ⟨e1, x2, he1_x2, hf⟩ := ob2_e hf
  rcases Classical.em (e1 = 0) with he | he
  · have hf := if_t he hf
    rw [he] at he1_x2
    refine zr_cVi (rest := []) (As := [.int a1]) X hP hS (ct_X7_rowOfKept (g := g) (nc := nc) (I := I) (J := J) (O := O) hnI l  he1_x2) cw_X7_234 (zr_recv X hP (Nat.lt_of_lt_of_le (zk_0).1 hnI) (zb_ceIo zk_0 (by decide)) rfl) rfl hl.1 (Nat.le_of_ble_eq_true rfl) ⟨Nat.le_of_ble_eq_true rfl, Nat.le_of_ble_eq_true rfl⟩ ⟨Nat.le_of_ble_eq_true rfl, Nat.le_of_ble_eq_true rfl⟩ dX7_hour_2 rfl (fun H locs hP hS => ?_)
    refine lv_istore_n (lv' := [(3, .int x2), (0, .ref (g.2.2 + 0)), (1, .int a1), (2, .int a2)]) hx hb dX7_hour_5 rfl hl (by decide) rfl (fun ls hl => ?_)
    refine lv_aload_n hx hb dX7_hour_6 rfl (lv_at hl 1 rfl) ?_
    refine gf_X7_10 X hnI hP zk_0 dX7_hour_7 ?_
    refine gf_X7_237 X hnI hP zk_1 dX7_hour_10 ?_
    refine lv_astore (lv' := [(4, .ref (g.2.2 + 15)), (3, .int x2), (0, .ref (g.2.2 + 0)), (1, .int a1), (2, .int a2)]) hx hb dX7_hour_13 hl (by decide) rfl (fun ls hl => ?_)
    refine lv_iload_n hx hb dX7_hour_15 rfl (lv_at hl 4 rfl) ?_
    rcases Classical.em (a2 = (0 : Int32)) with q0 | q0
    · have hf := if_t q0 hf
      refine lv_tableIn (off := 36) (tgt := 52) hx hb dX7_hour_16 (by rw [q0]; decide) (by rw [q0]; decide) (by rw [q0]; rfl) (by decide) ?_
      refine lv_aload hx hb dX7_hour_52 (lv_at hl 0 rfl) ?_
      refine gf_X7_241 X hnI hP zk_15 dX7_hour_54 ?_
      refine lv_iload_n hx hb dX7_hour_57 rfl (lv_at hl 1 rfl) ?_
      obtain ⟨x3, hx3, hf⟩ := ob_e hf
      refine zr_aldI X hP hnI zk_16 hx3 dX7_hour_58 ?_
      cases hf
      exact zr_iret X hr hP hS dX7_hour_59
    have hf := if_f q0 hf
    rcases Classical.em (a2 = (1 : Int32)) with q1 | q1
    · have hf := if_t q1 hf
      refine lv_tableIn (off := 44) (tgt := 60) hx hb dX7_hour_16 (by rw [q1]; decide) (by rw [q1]; decide) (by rw [q1]; rfl) (by decide) ?_
      refine lv_aload hx hb dX7_hour_60 (lv_at hl 0 rfl) ?_
      refine gf_X7_246 X hnI hP zk_15 dX7_hour_62 ?_
      refine lv_iload_n hx hb dX7_hour_65 rfl (lv_at hl 1 rfl) ?_
      obtain ⟨x4, hx4, hf⟩ := ob_e hf
      refine zr_aldI X hP hnI zk_17 hx4 dX7_hour_66 ?_
      cases hf
      exact zr_iret X hr hP hS dX7_hour_67
    have hf := if_f q1 hf
    rcases Classical.em (a2 = (2 : Int32)) with q2 | q2
    · have hf := if_t q2 hf
      refine lv_tableIn (off := 52) (tgt := 68) hx hb dX7_hour_16 (by rw [q2]; decide) (by rw [q2]; decide) (by rw [q2]; rfl) (by decide) ?_
      refine lv_aload hx hb dX7_hour_68 (lv_at hl 0 rfl) ?_
      refine gf_X7_249 X hnI hP zk_15 dX7_hour_70 ?_
      refine lv_iload_n hx hb dX7_hour_73 rfl (lv_at hl 1 rfl) ?_
      obtain ⟨x5, hx5, hf⟩ := ob_e hf
      refine zr_aldI X hP hnI zk_18 hx5 dX7_hour_74 ?_
      cases hf
      exact zr_iret X hr hP hS dX7_hour_75
    have hf := if_f q2 hf
    rcases Classical.em (a2 = (3 : Int32)) with q3 | q3
    · have hf := if_t q3 hf
      refine lv_tableIn (off := 60) (tgt := 76) hx hb dX7_hour_16 (by rw [q3]; decide) (by rw [q3]; decide) (by rw [q3]; rfl) (by decide) ?_
      refine lv_aload hx hb dX7_hour_76 (lv_at hl 0 rfl) ?_
      refine gf_X7_252 X hnI hP zk_15 dX7_hour_78 ?_
      refine lv_iload_n hx hb dX7_hour_81 rfl (lv_at hl 1 rfl) ?_
      obtain ⟨x6, hx6, hf⟩ := ob_e hf
      refine zr_aldI X hP hnI zk_20 hx6 dX7_hour_82 ?_
      obtain ⟨x7, hx7, hf⟩ := ob_e hf
      refine zr_cSi (rest := []) (As := [.int x6]) X hP hS (ct_J6_bitCount_0f7a4 (g := g) (nc := nc) (I := I) (J := J) (O := O)  l  hx7) cw_X7_154  rfl hl.1 (Nat.le_of_ble_eq_true rfl) ⟨Nat.le_of_ble_eq_true rfl, Nat.le_of_ble_eq_true rfl⟩ ⟨Nat.le_of_ble_eq_true rfl, Nat.le_of_ble_eq_true rfl⟩ dX7_hour_83 rfl (fun H locs hP hS => ?_)
      cases hf
      exact zr_iret X hr hP hS dX7_hour_86
    have hf := if_f q3 hf
    rcases Classical.em (a2 = (4 : Int32)) with q4 | q4
    · have hf := if_t q4 hf
      refine lv_tableIn (off := 71) (tgt := 87) hx hb dX7_hour_16 (by rw [q4]; decide) (by rw [q4]; decide) (by rw [q4]; rfl) (by decide) ?_
      refine lv_aload hx hb dX7_hour_87 (lv_at hl 0 rfl) ?_
      refine gf_X7_254 X hnI hP zk_15 dX7_hour_89 ?_
      refine lv_iload_n hx hb dX7_hour_92 rfl (lv_at hl 1 rfl) ?_
      obtain ⟨x8, hx8, hf⟩ := ob_e hf
      refine zr_aldI X hP hnI zk_23 hx8 dX7_hour_93 ?_
      cases hf
      exact zr_iret X hr hP hS dX7_hour_94
    have hf := if_f q4 hf
    refine lv_tableOut (tgt := 95) hx hb dX7_hour_16 (by have z0 := zr_ne (k := 0) (by decide) q0; have z1 := zr_ne (k := 1) (by decide) q1; have z2 := zr_ne (k := 2) (by decide) q2; have z3 := zr_ne (k := 3) (by decide) q3; have z4 := zr_ne (k := 4) (by decide) q4; omega) (by decide) ?_
    exact (thr_ne (by decide) hf).elim
  · have hf := if_f he hf
    exact (thr_ne he hf).elim
set_option maxHeartbeats 4000000 in
set_option maxRecDepth 100000 in
theorem ct_X7_level {g : zb_G} {nc : Nat} (hnI : 306 ≤ nc) (l : Launch) {a1 : Int32} {I J O : Mem} {r9 : Int32} (hf : fX7_level a1 I = some (0, r9)) : zb_Ct l g nc yX7_level cX7_level 3 (some .int) 7 146 [.ref (g.2.2 + 0), .int a1] (zb_ce g I J O) (some (.int r9)) (zb_ce g I J O) := by
  refine zb_ofW (own := RX7) (by decide +kernel) rfl (Nat.le_of_ble_eq_true rfl) ?_
  intro p e s m args below meth c ls X hr hP hl
  have hx := X.1.1
  have hb := X.1.2.1
  have ho := X.1.2.2.2.1
  have hts := X.1.2.2.2.2
  have hZ := X.2.2.2
  have hl : lv_has ls 3 [(0, .ref (g.2.2 + 0)), (1, .int a1)] := hl
  have hS : va_S (zb_A g) s.heap s.heap [] := va_S.rf
  obtain ⟨H, hH⟩ : ∃ H, H = s.heap := ⟨_, rfl⟩
  obtain ⟨locs, hlocs⟩ : ∃ z : List Loc, z = [] := ⟨_, rfl⟩
  rw [← hH] at hP
  have hS : va_S (zb_A g) s.heap H locs := by rw [hH, hlocs]; exact hS
  show W p l e _ s m args below meth c s.heap [] 0 0 _ _
  rw [← hH, ← hlocs]
  rw [fX7_level] at hf
  refine lv_aload_n hx hb dX7_level_0 rfl (lv_at hl 0 rfl) ?_
  refine lv_iload_n hx hb dX7_level_1 rfl (lv_at hl 1 rfl) ?_
  obtain ⟨e1, x2, he1_x2, hf⟩ := ob2_e hf
  rcases Classical.em (e1 = 0) with he | he
  · have hf := if_t he hf
    rw [he] at he1_x2
    refine zr_cVi (rest := []) (As := [.int a1]) X hP hS (ct_X7_rowOfKept (g := g) (nc := nc) (I := I) (J := J) (O := O) hnI l  he1_x2) cw_X7_234 (zr_recv X hP (Nat.lt_of_lt_of_le (zk_0).1 hnI) (zb_ceIo zk_0 (by decide)) rfl) rfl hl.1 (Nat.le_of_ble_eq_true rfl) ⟨Nat.le_of_ble_eq_true rfl, Nat.le_of_ble_eq_true rfl⟩ ⟨Nat.le_of_ble_eq_true rfl, Nat.le_of_ble_eq_true rfl⟩ dX7_level_2 rfl (fun H locs hP hS => ?_)
    refine lv_istore_n (lv' := [(2, .int x2), (0, .ref (g.2.2 + 0)), (1, .int a1)]) hx hb dX7_level_5 rfl hl (by decide) rfl (fun ls hl => ?_)
    refine lv_aload_n hx hb dX7_level_6 rfl (lv_at hl 1 rfl) ?_
    refine gf_X7_10 X hnI hP zk_0 dX7_level_7 ?_
    refine gf_X7_237 X hnI hP zk_1 dX7_level_10 ?_
    refine gf_X7_249 X hnI hP zk_15 dX7_level_13 ?_
    refine lv_iload_n hx hb dX7_level_16 rfl (lv_at hl 0 rfl) ?_
    obtain ⟨x3, hx3, hf⟩ := ob_e hf
    refine zr_aldI X hP hnI zk_18 hx3 dX7_level_17 ?_
    refine lv_if_ne (tgt := 32) hx hb dX7_level_18 (by decide) (fun hc => ?_) (fun hc => ?_)
    · have hf := if_f hc hf
      refine lv_aload_n hx hb dX7_level_32 rfl (lv_at hl 1 rfl) ?_
      refine gf_X7_10 X hnI hP zk_0 dX7_level_33 ?_
      refine gf_X7_237 X hnI hP zk_1 dX7_level_36 ?_
      refine gf_X7_262 X hnI hP zk_15 dX7_level_39 ?_
      refine lv_iload_n hx hb dX7_level_42 rfl (lv_at hl 0 rfl) ?_
      obtain ⟨x4, hx4, hf⟩ := ob_e hf
      refine zr_aldI X hP hnI zk_19 hx4 dX7_level_43 ?_
      cases hf
      exact zr_iret X hr hP hS dX7_level_44
    · have hf := if_t hc hf
      exact (thr_ne (by decide) hf).elim
  · have hf := if_f he hf
    exact (thr_ne he hf).elim
set_option maxHeartbeats 4000000 in
set_option maxRecDepth 100000 in
theorem ct_X7_value {g : zb_G} {nc : Nat} (hnI : 306 ≤ nc) (l : Launch) {a1 : Int32} {a2 : Int32} {I J O : Mem} {r9 : Int32} (hf : fX7_value a1 a2 I = some (0, r9)) : zb_Ct l g nc yX7_value cX7_value 4 (some .int) 7 146 [.ref (g.2.2 + 0), .int a1, .int a2] (zb_ce g I J O) (some (.int r9)) (zb_ce g I J O) := by
  refine zb_ofW (own := RX7) (by decide +kernel) rfl (Nat.le_of_ble_eq_true rfl) ?_
  intro p e s m args below meth c ls X hr hP hl
  have hx := X.1.1
  have hb := X.1.2.1
  have ho := X.1.2.2.2.1
  have hts := X.1.2.2.2.2
  have hZ := X.2.2.2
  have hl : lv_has ls 4 [(0, .ref (g.2.2 + 0)), (1, .int a1), (2, .int a2)] := hl
  have hS : va_S (zb_A g) s.heap s.heap [] := va_S.rf
  obtain ⟨H, hH⟩ : ∃ H, H = s.heap := ⟨_, rfl⟩
  obtain ⟨locs, hlocs⟩ : ∃ z : List Loc, z = [] := ⟨_, rfl⟩
  rw [← hH] at hP
  have hS : va_S (zb_A g) s.heap H locs := by rw [hH, hlocs]; exact hS
  show W p l e _ s m args below meth c s.heap [] 0 0 _ _
  rw [← hH, ← hlocs]
  rw [fX7_value] at hf
  refine lv_aload_n hx hb dX7_value_0 rfl (lv_at hl 0 rfl) ?_
  refine lv_iload_n hx hb dX7_value_1 rfl (lv_at hl 1 rfl) ?_
  obtain ⟨e1, x2, he1_x2, hf⟩ := ob2_e hf
  rcases Classical.em (e1 = 0) with he | he
  · have hf := if_t he hf
    rw [he] at he1_x2
    refine zr_cVi (rest := []) (As := [.int a1]) X hP hS (ct_X7_rowOfKept (g := g) (nc := nc) (I := I) (J := J) (O := O) hnI l  he1_x2) cw_X7_234 (zr_recv X hP (Nat.lt_of_lt_of_le (zk_0).1 hnI) (zb_ceIo zk_0 (by decide)) rfl) rfl hl.1 (Nat.le_of_ble_eq_true rfl) ⟨Nat.le_of_ble_eq_true rfl, Nat.le_of_ble_eq_true rfl⟩ ⟨Nat.le_of_ble_eq_true rfl, Nat.le_of_ble_eq_true rfl⟩ dX7_value_2 rfl (fun H locs hP hS => ?_)
    refine lv_istore_n (lv' := [(3, .int x2), (0, .ref (g.2.2 + 0)), (1, .int a1), (2, .int a2)]) hx hb dX7_value_5 rfl hl (by decide) rfl (fun ls hl => ?_)
    refine lv_aload_n hx hb dX7_value_6 rfl (lv_at hl 1 rfl) ?_
    refine lv_iload_n hx hb dX7_value_7 rfl (lv_at hl 3 rfl) ?_
    obtain ⟨e3, he3, hf⟩ := ob_e hf
    rcases Classical.em (e3 = 0) with he | he
    · have hf := if_t he hf
      rw [he] at he3
      refine zr_cVv (rest := []) (As := [.int a2]) X hP hS (ct_X7_checkBuoy (g := g) (nc := nc) (I := I) (J := J) (O := O) hnI l  he3) cw_X7_185 (zr_recv X hP (Nat.lt_of_lt_of_le (zk_0).1 hnI) (zb_ceIo zk_0 (by decide)) rfl) rfl hl.1 (Nat.le_of_ble_eq_true rfl) ⟨Nat.le_of_ble_eq_true rfl, Nat.le_of_ble_eq_true rfl⟩ ⟨Nat.le_of_ble_eq_true rfl, Nat.le_of_ble_eq_true rfl⟩ dX7_value_8 rfl (fun H locs hP hS => ?_)
      refine lv_aload_n hx hb dX7_value_11 rfl (lv_at hl 1 rfl) ?_
      refine gf_X7_10 X hnI hP zk_0 dX7_value_12 ?_
      refine gf_X7_237 X hnI hP zk_1 dX7_value_15 ?_
      refine gf_X7_252 X hnI hP zk_15 dX7_value_18 ?_
      refine lv_iload_n hx hb dX7_value_21 rfl (lv_at hl 0 rfl) ?_
      obtain ⟨x4, hx4, hf⟩ := ob_e hf
      refine zr_aldI X hP hnI zk_20 hx4 dX7_value_22 ?_
      refine lv_iload_n hx hb dX7_value_23 rfl (lv_at hl 3 rfl) ?_
      obtain ⟨x5, hx5, hf⟩ := ob_e hf
      refine zr_cSi (rest := []) (As := [.int x4, .int a2]) X hP hS (ct_X7_has (g := g) (nc := nc) (I := I) (J := J) (O := O)  l  hx5) cw_X7_215  rfl hl.1 (Nat.le_of_ble_eq_true rfl) ⟨Nat.le_of_ble_eq_true rfl, Nat.le_of_ble_eq_true rfl⟩ ⟨Nat.le_of_ble_eq_true rfl, Nat.le_of_ble_eq_true rfl⟩ dX7_value_24 rfl (fun H locs hP hS => ?_)
      refine lv_if_ne (tgt := 41) hx hb dX7_value_27 (by decide) (fun hc => ?_) (fun hc => ?_)
      · have hf := if_f hc hf
        refine lv_aload_n hx hb dX7_value_41 rfl (lv_at hl 1 rfl) ?_
        refine gf_X7_10 X hnI hP zk_0 dX7_value_42 ?_
        refine gf_X7_237 X hnI hP zk_1 dX7_value_45 ?_
        refine gf_X7_267 X hnI hP zk_15 dX7_value_48 ?_
        refine lv_iload_n hx hb dX7_value_51 rfl (lv_at hl 0 rfl) ?_
        refine lv_bipush (v := (10 : Int32)) hx hb dX7_value_52 (by decide) ?_
        refine lv_imul hx hb dX7_value_54 ?_
        refine lv_iload_n hx hb dX7_value_55 rfl (lv_at hl 3 rfl) ?_
        refine lv_iadd hx hb dX7_value_56 ?_
        obtain ⟨x6, hx6, hf⟩ := ob_e hf
        refine zr_aldI X hP hnI zk_24 hx6 dX7_value_57 ?_
        cases hf
        exact zr_iret X hr hP hS dX7_value_58
      · have hf := if_t hc hf
        exact (thr_ne (by decide) hf).elim
    · have hf := if_f he hf
      exact (thr_ne he hf).elim
  · have hf := if_f he hf
    exact (thr_ne he hf).elim
set_option maxHeartbeats 4000000 in
set_option maxRecDepth 100000 in
theorem ct_X7_why {g : zb_G} {nc : Nat} (hnI : 306 ≤ nc) (l : Launch) {a1 : Int32} {a2 : Int32} {I J O : Mem} {r9 : Int32} (hf : fX7_why a1 a2 I = some (0, r9)) : zb_Ct l g nc yX7_why cX7_why 5 (some .int) 7 146 [.ref (g.2.2 + 0), .int a1, .int a2] (zb_ce g I J O) (some (.int r9)) (zb_ce g I J O) := by
  refine zb_ofW (own := RX7) (by decide +kernel) rfl (Nat.le_of_ble_eq_true rfl) ?_
  intro p e s m args below meth c ls X hr hP hl
  have hx := X.1.1
  have hb := X.1.2.1
  have ho := X.1.2.2.2.1
  have hts := X.1.2.2.2.2
  have hZ := X.2.2.2
  have hl : lv_has ls 5 [(0, .ref (g.2.2 + 0)), (1, .int a1), (2, .int a2)] := hl
  have hS : va_S (zb_A g) s.heap s.heap [] := va_S.rf
  obtain ⟨H, hH⟩ : ∃ H, H = s.heap := ⟨_, rfl⟩
  obtain ⟨locs, hlocs⟩ : ∃ z : List Loc, z = [] := ⟨_, rfl⟩
  rw [← hH] at hP
  have hS : va_S (zb_A g) s.heap H locs := by rw [hH, hlocs]; exact hS
  show W p l e _ s m args below meth c s.heap [] 0 0 _ _
  rw [← hH, ← hlocs]
  rw [fX7_why] at hf
  refine lv_aload_n hx hb dX7_why_0 rfl (lv_at hl 0 rfl) ?_
  refine lv_iload_n hx hb dX7_why_1 rfl (lv_at hl 1 rfl) ?_
  obtain ⟨e1, x2, he1_x2, hf⟩ := ob2_e hf
  rcases Classical.em (e1 = 0) with he | he
  · have hf := if_t he hf
    rw [he] at he1_x2
    refine zr_cVi (rest := []) (As := [.int a1]) X hP hS (ct_X7_rowOfKept (g := g) (nc := nc) (I := I) (J := J) (O := O) hnI l  he1_x2) cw_X7_234 (zr_recv X hP (Nat.lt_of_lt_of_le (zk_0).1 hnI) (zb_ceIo zk_0 (by decide)) rfl) rfl hl.1 (Nat.le_of_ble_eq_true rfl) ⟨Nat.le_of_ble_eq_true rfl, Nat.le_of_ble_eq_true rfl⟩ ⟨Nat.le_of_ble_eq_true rfl, Nat.le_of_ble_eq_true rfl⟩ dX7_why_2 rfl (fun H locs hP hS => ?_)
    refine lv_istore_n (lv' := [(3, .int x2), (0, .ref (g.2.2 + 0)), (1, .int a1), (2, .int a2)]) hx hb dX7_why_5 rfl hl (by decide) rfl (fun ls hl => ?_)
    refine lv_aload_n hx hb dX7_why_6 rfl (lv_at hl 1 rfl) ?_
    refine lv_iload_n hx hb dX7_why_7 rfl (lv_at hl 3 rfl) ?_
    obtain ⟨e3, he3, hf⟩ := ob_e hf
    rcases Classical.em (e3 = 0) with he | he
    · have hf := if_t he hf
      rw [he] at he3
      refine zr_cVv (rest := []) (As := [.int a2]) X hP hS (ct_X7_checkBuoy (g := g) (nc := nc) (I := I) (J := J) (O := O) hnI l  he3) cw_X7_185 (zr_recv X hP (Nat.lt_of_lt_of_le (zk_0).1 hnI) (zb_ceIo zk_0 (by decide)) rfl) rfl hl.1 (Nat.le_of_ble_eq_true rfl) ⟨Nat.le_of_ble_eq_true rfl, Nat.le_of_ble_eq_true rfl⟩ ⟨Nat.le_of_ble_eq_true rfl, Nat.le_of_ble_eq_true rfl⟩ dX7_why_8 rfl (fun H locs hP hS => ?_)
      refine lv_aload_n hx hb dX7_why_11 rfl (lv_at hl 1 rfl) ?_
      refine gf_X7_10 X hnI hP zk_0 dX7_why_12 ?_
      refine gf_X7_237 X hnI hP zk_1 dX7_why_15 ?_
      refine lv_astore (lv' := [(4, .ref (g.2.2 + 15)), (3, .int x2), (0, .ref (g.2.2 + 0)), (1, .int a1), (2, .int a2)]) hx hb dX7_why_18 hl (by decide) rfl (fun ls hl => ?_)
      refine lv_aload hx hb dX7_why_20 (lv_at hl 0 rfl) ?_
      refine gf_X7_252 X hnI hP zk_15 dX7_why_22 ?_
      refine lv_iload_n hx hb dX7_why_25 rfl (lv_at hl 1 rfl) ?_
      obtain ⟨x4, hx4, hf⟩ := ob_e hf
      refine zr_aldI X hP hnI zk_20 hx4 dX7_why_26 ?_
      refine lv_iload_n hx hb dX7_why_27 rfl (lv_at hl 4 rfl) ?_
      obtain ⟨x5, hx5, hf⟩ := ob_e hf
      refine zr_cSi (rest := []) (As := [.int x4, .int a2]) X hP hS (ct_X7_has (g := g) (nc := nc) (I := I) (J := J) (O := O)  l  hx5) cw_X7_215  rfl hl.1 (Nat.le_of_ble_eq_true rfl) ⟨Nat.le_of_ble_eq_true rfl, Nat.le_of_ble_eq_true rfl⟩ ⟨Nat.le_of_ble_eq_true rfl, Nat.le_of_ble_eq_true rfl⟩ dX7_why_28 rfl (fun H locs hP hS => ?_)
      refine lv_if_ne (tgt := 36) hx hb dX7_why_31 (by decide) (fun hc => ?_) (fun hc => ?_)
      · have hf := if_f hc hf
        refine lv_aload hx hb dX7_why_36 (lv_at hl 0 rfl) ?_
        refine gf_X7_270 X hnI hP zk_15 dX7_why_38 ?_
        refine lv_iload_n hx hb dX7_why_41 rfl (lv_at hl 1 rfl) ?_
        obtain ⟨x6, hx6, hf⟩ := ob_e hf
        refine zr_aldI X hP hnI zk_21 hx6 dX7_why_42 ?_
        refine lv_iload_n hx hb dX7_why_43 rfl (lv_at hl 4 rfl) ?_
        obtain ⟨x7, hx7, hf⟩ := ob_e hf
        refine zr_cSi (rest := []) (As := [.int x6, .int a2]) X hP hS (ct_X7_has (g := g) (nc := nc) (I := I) (J := J) (O := O)  l  hx7) cw_X7_215  rfl hl.1 (Nat.le_of_ble_eq_true rfl) ⟨Nat.le_of_ble_eq_true rfl, Nat.le_of_ble_eq_true rfl⟩ ⟨Nat.le_of_ble_eq_true rfl, Nat.le_of_ble_eq_true rfl⟩ dX7_why_44 rfl (fun H locs hP hS => ?_)
        refine lv_if_eq (tgt := 52) hx hb dX7_why_47 (by decide) (fun hc => ?_) (fun hc => ?_)
        · have hf := if_t hc hf
          refine lv_aload hx hb dX7_why_52 (lv_at hl 0 rfl) ?_
          refine gf_X7_273 X hnI hP zk_15 dX7_why_54 ?_
          refine lv_iload_n hx hb dX7_why_57 rfl (lv_at hl 1 rfl) ?_
          obtain ⟨x8, hx8, hf⟩ := ob_e hf
          refine zr_aldI X hP hnI zk_22 hx8 dX7_why_58 ?_
          refine lv_iload_n hx hb dX7_why_59 rfl (lv_at hl 4 rfl) ?_
          obtain ⟨x9, hx9, hf⟩ := ob_e hf
          refine zr_cSi (rest := []) (As := [.int x8, .int a2]) X hP hS (ct_X7_has (g := g) (nc := nc) (I := I) (J := J) (O := O)  l  hx9) cw_X7_215  rfl hl.1 (Nat.le_of_ble_eq_true rfl) ⟨Nat.le_of_ble_eq_true rfl, Nat.le_of_ble_eq_true rfl⟩ ⟨Nat.le_of_ble_eq_true rfl, Nat.le_of_ble_eq_true rfl⟩ dX7_why_60 rfl (fun H locs hP hS => ?_)
          refine lv_if_eq (tgt := 68) hx hb dX7_why_63 (by decide) (fun hc => ?_) (fun hc => ?_)
          · have hf := if_t hc hf
            refine lv_aload hx hb dX7_why_68 (lv_at hl 0 rfl) ?_
            refine gf_X7_254 X hnI hP zk_15 dX7_why_70 ?_
            refine lv_iload_n hx hb dX7_why_73 rfl (lv_at hl 1 rfl) ?_
            obtain ⟨x10, hx10, hf⟩ := ob_e hf
            refine zr_aldI X hP hnI zk_23 hx10 dX7_why_74 ?_
            refine lv_iload_n hx hb dX7_why_75 rfl (lv_at hl 4 rfl) ?_
            obtain ⟨x11, hx11, hf⟩ := ob_e hf
            refine zr_cSi (rest := []) (As := [.int x10, .int a2]) X hP hS (ct_X7_has (g := g) (nc := nc) (I := I) (J := J) (O := O)  l  hx11) cw_X7_215  rfl hl.1 (Nat.le_of_ble_eq_true rfl) ⟨Nat.le_of_ble_eq_true rfl, Nat.le_of_ble_eq_true rfl⟩ ⟨Nat.le_of_ble_eq_true rfl, Nat.le_of_ble_eq_true rfl⟩ dX7_why_76 rfl (fun H locs hP hS => ?_)
            refine lv_if_eq (tgt := 84) hx hb dX7_why_79 (by decide) (fun hc => ?_) (fun hc => ?_)
            · have hf := if_t hc hf
              refine lv_aload hx hb dX7_why_84 (lv_at hl 0 rfl) ?_
              refine gf_X7_249 X hnI hP zk_15 dX7_why_86 ?_
              refine lv_iload_n hx hb dX7_why_89 rfl (lv_at hl 1 rfl) ?_
              obtain ⟨x12, hx12, hf⟩ := ob_e hf
              refine zr_aldI X hP hnI zk_18 hx12 dX7_why_90 ?_
              refine lv_if_ne (tgt := 97) hx hb dX7_why_91 (by decide) (fun hc => ?_) (fun hc => ?_)
              · have hf := if_f hc hf
                refine lv_aload hx hb dX7_why_97 (lv_at hl 0 rfl) ?_
                refine gf_X7_246 X hnI hP zk_15 dX7_why_99 ?_
                refine lv_iload_n hx hb dX7_why_102 rfl (lv_at hl 1 rfl) ?_
                obtain ⟨x13, hx13, hf⟩ := ob_e hf
                refine zr_aldI X hP hnI zk_17 hx13 dX7_why_103 ?_
                refine lv_iload_n hx hb dX7_why_104 rfl (lv_at hl 4 rfl) ?_
                obtain ⟨x14, hx14, hf⟩ := ob_e hf
                refine zr_cSi (rest := []) (As := [.int x13, .int a2]) X hP hS (ct_X7_has (g := g) (nc := nc) (I := I) (J := J) (O := O)  l  hx14) cw_X7_215  rfl hl.1 (Nat.le_of_ble_eq_true rfl) ⟨Nat.le_of_ble_eq_true rfl, Nat.le_of_ble_eq_true rfl⟩ ⟨Nat.le_of_ble_eq_true rfl, Nat.le_of_ble_eq_true rfl⟩ dX7_why_105 rfl (fun H locs hP hS => ?_)
                obtain ⟨x15, ht, hf⟩ := pl_e hf
                have K1 : ∀ (H : Heap) (locs : List Loc) (ls : Array Slot), va_P g.1 vwCl (zb_ws g nc (zb_ce g I J O)) H → va_S (zb_A g) s.heap H locs → lv_has ls 5 [] → W p l e { frames := 7, cells := 0, slots := 0, locals := 146 } s m args below meth c H locs 0 0 (MQ below (zb_Po g nc (zb_ce g I J O) (some (.int r9))) args s 0 0 (zb_A g)) (F0 m 116 ls [.int x15]) := by
                  intro H locs ls hP hS hl
                  cases hf
                  exact zr_iret X hr hP hS dX7_why_116
                have hf := ht
                refine lv_if_eq (tgt := 115) hx hb dX7_why_108 (by decide) (fun hc => ?_) (fun hc => ?_)
                · have hf := if_t hc hf
                  refine lv_iconst (v := (4 : Int32)) hx hb dX7_why_115 (by decide) ?_
                  cases hf
                  exact K1 H locs ls hP hS (lv_sub hl [] rfl)
                · have hf := if_f hc hf
                  refine lv_iconst (v := (0 : Int32)) hx hb dX7_why_111 (by decide) ?_
                  refine lv_goto (tgt := 116) hx hb dX7_why_112 (by decide) ?_
                  cases hf
                  exact K1 H locs ls hP hS (lv_sub hl [] rfl)
              · have hf := if_t hc hf
                refine lv_bipush (v := (6 : Int32)) hx hb dX7_why_94 (by decide) ?_
                cases hf
                exact zr_iret X hr hP hS dX7_why_96
            · have hf := if_f hc hf
              refine lv_iconst (v := (5 : Int32)) hx hb dX7_why_82 (by decide) ?_
              cases hf
              exact zr_iret X hr hP hS dX7_why_83
          · have hf := if_f hc hf
            refine lv_iconst (v := (3 : Int32)) hx hb dX7_why_66 (by decide) ?_
            cases hf
            exact zr_iret X hr hP hS dX7_why_67
        · have hf := if_f hc hf
          refine lv_iconst (v := (2 : Int32)) hx hb dX7_why_50 (by decide) ?_
          cases hf
          exact zr_iret X hr hP hS dX7_why_51
      · have hf := if_t hc hf
        refine lv_iconst (v := (1 : Int32)) hx hb dX7_why_34 (by decide) ?_
        cases hf
        exact zr_iret X hr hP hS dX7_why_35
    · have hf := if_f he hf
      exact (thr_ne he hf).elim
  · have hf := if_f he hf
    exact (thr_ne he hf).elim
set_option maxHeartbeats 4000000 in
set_option maxRecDepth 100000 in
theorem lpX7_rowWithLevelAhead_L4 {g : zb_G} {nc : Nat} (hnI : 306 ≤ nc) (l : Launch) {J O : Mem} {p : Program} {e : Env} {s : State} {m : MethodId} {args : Array Value} {below : List Frame} {meth : Method} {c : Code} {Q : State → Prop} (X : zb_X g p m c cX7_rowWithLevelAhead 4 s args RX7 meth) : ∀ {n9 : Nat} {a2 : Int32} {I : Mem} {tq : Nat} {v9 : Int32} {H : Heap} {locs : List Loc} {ls : Array Slot}, fX7_rowWithLevelAhead_L4 n9 a2 I = some (tq, v9) → (tq = 0 → ∀ (H : Heap) (locs : List Loc) (ls : Array Slot), va_P g.1 vwCl (zb_ws g nc (zb_ce g I J O)) H → va_S (zb_A g) s.heap H locs → lv_has ls 4 [] → W p l e { frames := 2, cells := 0, slots := 0, locals := 43 } s m args below meth c H locs 0 0 Q (F0 m 48 ls [])) → (tq = 1 → ∀ (H : Heap) (locs : List Loc) (ls : Array Slot) (pc : Nat), decode cX7_rowWithLevelAhead pc = .ok (.ireturn, 1) → va_P g.1 vwCl (zb_ws g nc (zb_ce g I J O)) H → va_S (zb_A g) s.heap H locs → W p l e { frames := 2, cells := 0, slots := 0, locals := 43 } s m args below meth c H locs 0 0 Q (F0 m pc ls [.int v9])) → va_P g.1 vwCl (zb_ws g nc (zb_ce g I J O)) H → va_S (zb_A g) s.heap H locs → lv_has ls 4 [(2, .int a2), (0, .ref (g.2.2 + 0))] → W p l e { frames := 2, cells := 0, slots := 0, locals := 43 } s m args below meth c H locs 0 0 Q (F0 m 4 ls []) := by
  have hx := X.1.1
  have hb := X.1.2.1
  have ho := X.1.2.2.2.1
  have hts := X.1.2.2.2.2
  have hZ := X.2.2.2
  intro n9
  induction n9 with
  | zero =>
    intro a2 I tq v9 H locs ls hf
    exact nomatch hf
  | succ n9 ih =>
    intro a2 I tq v9 H locs ls hf KK K1 hP hS hl
    rw [fX7_rowWithLevelAhead_L4] at hf
    refine lv_iload_n hx hb dX7_rowWithLevelAhead_4 rfl (lv_at hl 0 rfl) ?_
    refine lv_aload_n hx hb dX7_rowWithLevelAhead_5 rfl (lv_at hl 1 rfl) ?_
    refine gf_X7_10 X hnI hP zk_0 dX7_rowWithLevelAhead_6 ?_
    obtain ⟨x1, hx1, hf⟩ := ob_e hf
    refine zr_cVi (rest := [.int a2]) (As := []) X hP hS (ct_X5_firstKept (g := g) (nc := nc) (I := I) (J := J) (O := O) hnI l zb_isB1 hx1) cw_X7_147 (zr_recv X hP (Nat.lt_of_lt_of_le (zk_1).1 hnI) (zb_ceIo zk_1 (by decide)) rfl) rfl hl.1 (Nat.le_of_ble_eq_true rfl) ⟨Nat.le_of_ble_eq_true rfl, Nat.le_of_ble_eq_true rfl⟩ ⟨Nat.le_of_ble_eq_true rfl, Nat.le_of_ble_eq_true rfl⟩ dX7_rowWithLevelAhead_9 rfl (fun H locs hP hS => ?_)
    refine lv_icmp_lt (tgt := 48) hx hb dX7_rowWithLevelAhead_12 (by decide) (fun hc => ?_) (fun hc => ?_)
    · have hf := if_t hc hf
      cases hf
      exact KK rfl H locs ls hP hS (lv_sub hl [] rfl)
    · have hf := if_f hc hf
      refine lv_aload_n hx hb dX7_rowWithLevelAhead_15 rfl (lv_at hl 1 rfl) ?_
      refine gf_X7_10 X hnI hP zk_0 dX7_rowWithLevelAhead_16 ?_
      refine lv_iload_n hx hb dX7_rowWithLevelAhead_19 rfl (lv_at hl 0 rfl) ?_
      obtain ⟨x2, hx2, hf⟩ := ob_e hf
      refine zr_cVi (rest := []) (As := [.int a2]) X hP hS (ct_X5_rowOf (g := g) (nc := nc) (I := I) (J := J) (O := O)  l zb_isB1 hx2) cw_X7_281 (zr_recv X hP (Nat.lt_of_lt_of_le (zk_1).1 hnI) (zb_ceIo zk_1 (by decide)) rfl) rfl hl.1 (Nat.le_of_ble_eq_true rfl) ⟨Nat.le_of_ble_eq_true rfl, Nat.le_of_ble_eq_true rfl⟩ ⟨Nat.le_of_ble_eq_true rfl, Nat.le_of_ble_eq_true rfl⟩ dX7_rowWithLevelAhead_20 rfl (fun H locs hP hS => ?_)
      refine lv_istore_n (lv' := [(3, .int x2), (2, .int a2), (0, .ref (g.2.2 + 0))]) hx hb dX7_rowWithLevelAhead_23 rfl hl (by decide) rfl (fun ls hl => ?_)
      refine lv_aload_n hx hb dX7_rowWithLevelAhead_24 rfl (lv_at hl 2 rfl) ?_
      refine gf_X7_10 X hnI hP zk_0 dX7_rowWithLevelAhead_25 ?_
      refine gf_X7_237 X hnI hP zk_1 dX7_rowWithLevelAhead_28 ?_
      refine gf_X7_249 X hnI hP zk_15 dX7_rowWithLevelAhead_31 ?_
      refine lv_iload_n hx hb dX7_rowWithLevelAhead_34 rfl (lv_at hl 0 rfl) ?_
      obtain ⟨x3, hx3, hf⟩ := ob_e hf
      refine zr_aldI X hP hnI zk_18 hx3 dX7_rowWithLevelAhead_35 ?_
      refine lv_iconst (v := (1 : Int32)) hx hb dX7_rowWithLevelAhead_36 (by decide) ?_
      refine lv_icmp_ne (tgt := 42) hx hb dX7_rowWithLevelAhead_37 (by decide) (fun hc => ?_) (fun hc => ?_)
      · have hf := if_f hc hf
        refine lv_iinc (v := (a2 + (-1 : Int32))) (lv' := [(2, .int (a2 + (-1 : Int32))), (3, .int x2), (0, .ref (g.2.2 + 0))]) hx hb dX7_rowWithLevelAhead_42 hl (k := 1) rfl rfl (by decide) rfl (fun ls hl => ?_)
        refine lv_goto (tgt := 4) hx hb dX7_rowWithLevelAhead_45 (by decide) ?_
        exact ih hf KK K1 hP hS (lv_sub hl [0, 2] rfl)
      · have hf := if_t hc hf
        refine lv_iload_n hx hb dX7_rowWithLevelAhead_40 rfl (lv_at hl 0 rfl) ?_
        cases hf
        exact K1 rfl H locs ls 41 dX7_rowWithLevelAhead_41 hP hS
set_option maxHeartbeats 4000000 in
set_option maxRecDepth 100000 in
theorem ct_X7_rowWithLevelAhead {g : zb_G} {nc : Nat} (hnI : 306 ≤ nc) (l : Launch) {a1 : Int32} {I J O : Mem} {r9 : Int32} (hf : fX7_rowWithLevelAhead a1 I = some r9) : zb_Ct l g nc yX7_rowWithLevelAhead cX7_rowWithLevelAhead 4 (some .int) 2 43 [.ref (g.2.2 + 0), .int a1] (zb_ce g I J O) (some (.int r9)) (zb_ce g I J O) := by
  refine zb_ofW (own := RX7) (by decide +kernel) rfl (Nat.le_of_ble_eq_true rfl) ?_
  intro p e s m args below meth c ls X hr hP hl
  have hx := X.1.1
  have hb := X.1.2.1
  have ho := X.1.2.2.2.1
  have hts := X.1.2.2.2.2
  have hZ := X.2.2.2
  have hl : lv_has ls 4 [(0, .ref (g.2.2 + 0)), (1, .int a1)] := hl
  have hS : va_S (zb_A g) s.heap s.heap [] := va_S.rf
  obtain ⟨H, hH⟩ : ∃ H, H = s.heap := ⟨_, rfl⟩
  obtain ⟨locs, hlocs⟩ : ∃ z : List Loc, z = [] := ⟨_, rfl⟩
  rw [← hH] at hP
  have hS : va_S (zb_A g) s.heap H locs := by rw [hH, hlocs]; exact hS
  show W p l e _ s m args below meth c s.heap [] 0 0 _ _
  rw [← hH, ← hlocs]
  rw [fX7_rowWithLevelAhead] at hf
  refine lv_iload_n hx hb dX7_rowWithLevelAhead_0 rfl (lv_at hl 1 rfl) ?_
  refine lv_iconst (v := (1 : Int32)) hx hb dX7_rowWithLevelAhead_1 (by decide) ?_
  refine lv_isub hx hb dX7_rowWithLevelAhead_2 ?_
  refine lv_istore_n (lv' := [(2, .int (a1 - (1 : Int32))), (0, .ref (g.2.2 + 0)), (1, .int a1)]) hx hb dX7_rowWithLevelAhead_3 rfl hl (by decide) rfl (fun ls hl => ?_)
  obtain ⟨t4, x5, ht4_x5, hf⟩ := ob2_e hf
  have K1 : t4 = 0 → ∀ (H : Heap) (locs : List Loc) (ls : Array Slot), va_P g.1 vwCl (zb_ws g nc (zb_ce g I J O)) H → va_S (zb_A g) s.heap H locs → lv_has ls 4 [] → W p l e { frames := 2, cells := 0, slots := 0, locals := 43 } s m args below meth c H locs 0 0 (MQ below (zb_Po g nc (zb_ce g I J O) (some (.int r9))) args s 0 0 (zb_A g)) (F0 m 48 ls []) := by
    intro he H locs ls hP hS hl
    have hf := if_f (by rw [he]; decide) hf
    refine lv_iconst (v := (-1 : Int32)) hx hb dX7_rowWithLevelAhead_48 (by decide) ?_
    cases hf
    exact zr_iret X hr hP hS dX7_rowWithLevelAhead_49
  have K2 : t4 = 1 → ∀ (H : Heap) (locs : List Loc) (ls : Array Slot) (pc : Nat), decode cX7_rowWithLevelAhead pc = .ok (.ireturn, 1) → va_P g.1 vwCl (zb_ws g nc (zb_ce g I J O)) H → va_S (zb_A g) s.heap H locs → W p l e { frames := 2, cells := 0, slots := 0, locals := 43 } s m args below meth c H locs 0 0 (MQ below (zb_Po g nc (zb_ce g I J O) (some (.int r9))) args s 0 0 (zb_A g)) (F0 m pc ls [.int x5]) := by
    intro he H locs ls pc hd hP hS
    have hf := if_t he hf
    cases hf
    exact zr_iret X hr hP hS hd
  exact lpX7_rowWithLevelAhead_L4 hnI l  X ht4_x5 K1 K2 hP hS (lv_sub hl [0, 1] rfl)
set_option maxHeartbeats 4000000 in
set_option maxRecDepth 100000 in
theorem ct_X7_tide {g : zb_G} {nc : Nat} (hnI : 306 ≤ nc) (l : Launch) {a1 : Int32} {I J O : Mem} {r9 : Int32} (hf : fX7_tide a1 I = some (0, r9)) : zb_Ct l g nc yX7_tide cX7_tide 6 (some .int) 7 146 [.ref (g.2.2 + 0), .int a1] (zb_ce g I J O) (some (.int r9)) (zb_ce g I J O) := by
  refine zb_ofW (own := RX7) (by decide +kernel) rfl (Nat.le_of_ble_eq_true rfl) ?_
  intro p e s m args below meth c ls X hr hP hl
  have hx := X.1.1
  have hb := X.1.2.1
  have ho := X.1.2.2.2.1
  have hts := X.1.2.2.2.2
  have hZ := X.2.2.2
  have hl : lv_has ls 6 [(0, .ref (g.2.2 + 0)), (1, .int a1)] := hl
  have hS : va_S (zb_A g) s.heap s.heap [] := va_S.rf
  obtain ⟨H, hH⟩ : ∃ H, H = s.heap := ⟨_, rfl⟩
  obtain ⟨locs, hlocs⟩ : ∃ z : List Loc, z = [] := ⟨_, rfl⟩
  rw [← hH] at hP
  have hS : va_S (zb_A g) s.heap H locs := by rw [hH, hlocs]; exact hS
  show W p l e _ s m args below meth c s.heap [] 0 0 _ _
  rw [← hH, ← hlocs]
  rw [fX7_tide] at hf
  refine lv_aload_n hx hb dX7_tide_0 rfl (lv_at hl 0 rfl) ?_
  refine lv_iload_n hx hb dX7_tide_1 rfl (lv_at hl 1 rfl) ?_
  obtain ⟨e1, x2, he1_x2, hf⟩ := ob2_e hf
  rcases Classical.em (e1 = 0) with he | he
  · have hf := if_t he hf
    rw [he] at he1_x2
    refine zr_cVi (rest := []) (As := [.int a1]) X hP hS (ct_X7_rowOfKept (g := g) (nc := nc) (I := I) (J := J) (O := O) hnI l  he1_x2) cw_X7_234 (zr_recv X hP (Nat.lt_of_lt_of_le (zk_0).1 hnI) (zb_ceIo zk_0 (by decide)) rfl) rfl hl.1 (Nat.le_of_ble_eq_true rfl) ⟨Nat.le_of_ble_eq_true rfl, Nat.le_of_ble_eq_true rfl⟩ ⟨Nat.le_of_ble_eq_true rfl, Nat.le_of_ble_eq_true rfl⟩ dX7_tide_2 rfl (fun H locs hP hS => ?_)
    refine lv_istore_n (lv' := [(2, .int x2), (0, .ref (g.2.2 + 0)), (1, .int a1)]) hx hb dX7_tide_5 rfl hl (by decide) rfl (fun ls hl => ?_)
    refine lv_aload_n hx hb dX7_tide_6 rfl (lv_at hl 1 rfl) ?_
    refine lv_iload_n hx hb dX7_tide_7 rfl (lv_at hl 2 rfl) ?_
    obtain ⟨x3, hx3, hf⟩ := ob_e hf
    refine zr_cVi (rest := []) (As := [.int a1]) X hP hS (ct_X7_rowWithLevelAhead (g := g) (nc := nc) (I := I) (J := J) (O := O) hnI l  hx3) cw_X7_276 (zr_recv X hP (Nat.lt_of_lt_of_le (zk_0).1 hnI) (zb_ceIo zk_0 (by decide)) rfl) rfl hl.1 (Nat.le_of_ble_eq_true rfl) ⟨Nat.le_of_ble_eq_true rfl, Nat.le_of_ble_eq_true rfl⟩ ⟨Nat.le_of_ble_eq_true rfl, Nat.le_of_ble_eq_true rfl⟩ dX7_tide_8 rfl (fun H locs hP hS => ?_)
    refine lv_istore_n (lv' := [(3, .int x3), (2, .int x2), (0, .ref (g.2.2 + 0)), (1, .int a1)]) hx hb dX7_tide_11 rfl hl (by decide) rfl (fun ls hl => ?_)
    refine lv_aload_n hx hb dX7_tide_12 rfl (lv_at hl 2 rfl) ?_
    refine gf_X7_10 X hnI hP zk_0 dX7_tide_13 ?_
    refine gf_X7_237 X hnI hP zk_1 dX7_tide_16 ?_
    refine gf_X7_249 X hnI hP zk_15 dX7_tide_19 ?_
    refine lv_iload_n hx hb dX7_tide_22 rfl (lv_at hl 1 rfl) ?_
    obtain ⟨x4, hx4, hf⟩ := ob_e hf
    refine zr_aldI X hP hnI zk_18 hx4 dX7_tide_23 ?_
    refine lv_if_eq (tgt := 32) hx hb dX7_tide_24 (by decide) (fun hc => ?_) (fun hc => ?_)
    · have hf := if_t hc hf
      exact (thr_ne (by decide) hf).elim
    · have hf := if_f hc hf
      refine lv_iload_n hx hb dX7_tide_27 rfl (lv_at hl 0 rfl) ?_
      refine lv_iconst (v := (-1 : Int32)) hx hb dX7_tide_28 (by decide) ?_
      refine lv_icmp_ne (tgt := 43) hx hb dX7_tide_29 (by decide) (fun hc => ?_) (fun hc => ?_)
      · have hf := if_f hc hf
        refine lv_aload_n hx hb dX7_tide_43 rfl (lv_at hl 2 rfl) ?_
        refine gf_X7_10 X hnI hP zk_0 dX7_tide_44 ?_
        refine gf_X7_237 X hnI hP zk_1 dX7_tide_47 ?_
        refine gf_X7_262 X hnI hP zk_15 dX7_tide_50 ?_
        refine lv_iload_n hx hb dX7_tide_53 rfl (lv_at hl 1 rfl) ?_
        obtain ⟨x5, hx5, hf⟩ := ob_e hf
        refine zr_aldI X hP hnI zk_19 hx5 dX7_tide_54 ?_
        refine lv_istore (lv' := [(4, .int x5), (3, .int x3), (2, .int x2), (0, .ref (g.2.2 + 0)), (1, .int a1)]) hx hb dX7_tide_55 hl (by decide) rfl (fun ls hl => ?_)
        refine lv_aload_n hx hb dX7_tide_57 rfl (lv_at hl 3 rfl) ?_
        refine gf_X7_10 X hnI hP zk_0 dX7_tide_58 ?_
        refine gf_X7_237 X hnI hP zk_1 dX7_tide_61 ?_
        refine gf_X7_262 X hnI hP zk_15 dX7_tide_64 ?_
        refine lv_iload_n hx hb dX7_tide_67 rfl (lv_at hl 1 rfl) ?_
        obtain ⟨x6, hx6, hf⟩ := ob_e hf
        refine zr_aldI X hP hnI zk_19 hx6 dX7_tide_68 ?_
        refine lv_istore (lv' := [(5, .int x6), (4, .int x5), (3, .int x3), (2, .int x2), (0, .ref (g.2.2 + 0)), (1, .int a1)]) hx hb dX7_tide_69 hl (by decide) rfl (fun ls hl => ?_)
        refine lv_iload hx hb dX7_tide_71 (lv_at hl 1 rfl) ?_
        refine lv_iload hx hb dX7_tide_73 (lv_at hl 0 rfl) ?_
        obtain ⟨x7, ht, hf⟩ := pl_e hf
        have K1 : ∀ (H : Heap) (locs : List Loc) (ls : Array Slot), va_P g.1 vwCl (zb_ws g nc (zb_ce g I J O)) H → va_S (zb_A g) s.heap H locs → lv_has ls 6 [] → W p l e { frames := 7, cells := 0, slots := 0, locals := 146 } s m args below meth c H locs 0 0 (MQ below (zb_Po g nc (zb_ce g I J O) (some (.int r9))) args s 0 0 (zb_A g)) (F0 m 94 ls [.int x7]) := by
          intro H locs ls hP hS hl
          cases hf
          exact zr_iret X hr hP hS dX7_tide_94
        have hf := ht
        refine lv_icmp_le (tgt := 82) hx hb dX7_tide_75 (by decide) (fun hc => ?_) (fun hc => ?_)
        · have hf := if_t hc hf
          refine lv_iload hx hb dX7_tide_82 (lv_at hl 1 rfl) ?_
          refine lv_iload hx hb dX7_tide_84 (lv_at hl 0 rfl) ?_
          refine lv_icmp_ge (tgt := 93) hx hb dX7_tide_86 (by decide) (fun hc => ?_) (fun hc => ?_)
          · have hf := if_t hc hf
            refine lv_iconst (v := (0 : Int32)) hx hb dX7_tide_93 (by decide) ?_
            cases hf
            exact K1 H locs ls hP hS (lv_sub hl [] rfl)
          · have hf := if_f hc hf
            refine lv_iconst (v := (-1 : Int32)) hx hb dX7_tide_89 (by decide) ?_
            refine lv_goto (tgt := 94) hx hb dX7_tide_90 (by decide) ?_
            cases hf
            exact K1 H locs ls hP hS (lv_sub hl [] rfl)
        · have hf := if_f hc hf
          refine lv_iconst (v := (1 : Int32)) hx hb dX7_tide_78 (by decide) ?_
          refine lv_goto (tgt := 94) hx hb dX7_tide_79 (by decide) ?_
          cases hf
          exact K1 H locs ls hP hS (lv_sub hl [] rfl)
      · have hf := if_t hc hf
        exact (thr_ne (by decide) hf).elim
  · have hf := if_f he hf
    exact (thr_ne he hf).elim
set_option maxHeartbeats 4000000 in
set_option maxRecDepth 100000 in
theorem lpX7_extreme_L13 {g : zb_G} {nc : Nat} (hnI : 306 ≤ nc) (l : Launch) {a1 : Int32} {J O : Mem} {p : Program} {e : Env} {s : State} {m : MethodId} {args : Array Value} {below : List Frame} {meth : Method} {c : Code} {Q : State → Prop} (X : zb_X g p m c cX7_extreme 7 s args RX7 meth) : ∀ {n9 : Nat} {a4 : Int32} {a3 : Int32} {a2 : Int32} {I : Mem} {z2 : Int32} {H : Heap} {locs : List Loc} {ls : Array Slot}, fX7_extreme_L13 a1 n9 a4 a3 a2 I = some z2 → (∀ (H : Heap) (locs : List Loc) (ls : Array Slot), va_P g.1 vwCl (zb_ws g nc (zb_ce g I J O)) H → va_S (zb_A g) s.heap H locs → lv_has ls 7 [(2, .int z2)] → W p l e { frames := 2, cells := 0, slots := 0, locals := 43 } s m args below meth c H locs 0 0 Q (F0 m 104 ls [])) → va_P g.1 vwCl (zb_ws g nc (zb_ce g I J O)) H → va_S (zb_A g) s.heap H locs → lv_has ls 7 [(4, .int a4), (3, .int a3), (2, .int a2), (0, .ref (g.2.2 + 0)), (1, .int a1)] → W p l e { frames := 2, cells := 0, slots := 0, locals := 43 } s m args below meth c H locs 0 0 Q (F0 m 13 ls []) := by
  have hx := X.1.1
  have hb := X.1.2.1
  have ho := X.1.2.2.2.1
  have hts := X.1.2.2.2.2
  have hZ := X.2.2.2
  intro n9
  induction n9 with
  | zero =>
    intro a4 a3 a2 I z2 H locs ls hf
    exact nomatch hf
  | succ n9 ih =>
    intro a4 a3 a2 I z2 H locs ls hf KK hP hS hl
    rw [fX7_extreme_L13] at hf
    refine lv_iload hx hb dX7_extreme_13 (lv_at hl 0 rfl) ?_
    refine lv_aload_n hx hb dX7_extreme_15 rfl (lv_at hl 3 rfl) ?_
    refine gf_X7_10 X hnI hP zk_0 dX7_extreme_16 ?_
    refine gf_X7_144 X hnI hP zk_1 dX7_extreme_19 ?_
    refine lv_icmp_ge (tgt := 104) hx hb dX7_extreme_22 (by decide) (fun hc => ?_) (fun hc => ?_)
    · have hf := if_t hc hf
      cases hf
      exact KK H locs ls hP hS (lv_sub hl [2] rfl)
    · have hf := if_f hc hf
      refine lv_aload_n hx hb dX7_extreme_25 rfl (lv_at hl 3 rfl) ?_
      refine gf_X7_10 X hnI hP zk_0 dX7_extreme_26 ?_
      refine lv_iload hx hb dX7_extreme_29 (lv_at hl 0 rfl) ?_
      obtain ⟨x2, hx2, hf⟩ := ob_e hf
      refine zr_cVi (rest := []) (As := [.int a4]) X hP hS (ct_X5_rowOf (g := g) (nc := nc) (I := I) (J := J) (O := O)  l zb_isB1 hx2) cw_X7_281 (zr_recv X hP (Nat.lt_of_lt_of_le (zk_1).1 hnI) (zb_ceIo zk_1 (by decide)) rfl) rfl hl.1 (Nat.le_of_ble_eq_true rfl) ⟨Nat.le_of_ble_eq_true rfl, Nat.le_of_ble_eq_true rfl⟩ ⟨Nat.le_of_ble_eq_true rfl, Nat.le_of_ble_eq_true rfl⟩ dX7_extreme_31 rfl (fun H locs hP hS => ?_)
      refine lv_istore (lv' := [(5, .int x2), (4, .int a4), (3, .int a3), (2, .int a2), (0, .ref (g.2.2 + 0)), (1, .int a1)]) hx hb dX7_extreme_34 hl (by decide) rfl (fun ls hl => ?_)
      refine lv_aload_n hx hb dX7_extreme_36 rfl (lv_at hl 4 rfl) ?_
      refine gf_X7_10 X hnI hP zk_0 dX7_extreme_37 ?_
      refine gf_X7_237 X hnI hP zk_1 dX7_extreme_40 ?_
      refine gf_X7_249 X hnI hP zk_15 dX7_extreme_43 ?_
      refine lv_iload hx hb dX7_extreme_46 (lv_at hl 0 rfl) ?_
      obtain ⟨x3, hx3, hf⟩ := ob_e hf
      refine zr_aldI X hP hnI zk_18 hx3 dX7_extreme_48 ?_
      refine lv_iconst (v := (1 : Int32)) hx hb dX7_extreme_49 (by decide) ?_
      obtain ⟨x5, x6, ht, hf⟩ := ob2_e hf
      have K1 : ∀ (H : Heap) (locs : List Loc) (ls : Array Slot), va_P g.1 vwCl (zb_ws g nc (zb_ce g I J O)) H → va_S (zb_A g) s.heap H locs → lv_has ls 7 [(4, .int a4), (3, .int x5), (2, .int x6), (0, .ref (g.2.2 + 0)), (1, .int a1)] → W p l e { frames := 2, cells := 0, slots := 0, locals := 43 } s m args below meth c H locs 0 0 Q (F0 m 98 ls []) := by
        intro H locs ls hP hS hl
        refine lv_iinc (v := (a4 + (1 : Int32))) (lv' := [(4, .int (a4 + (1 : Int32))), (3, .int x5), (2, .int x6), (0, .ref (g.2.2 + 0)), (1, .int a1)]) hx hb dX7_extreme_98 hl (k := 0) rfl rfl (by decide) rfl (fun ls hl => ?_)
        refine lv_goto (tgt := 13) hx hb dX7_extreme_101 (by decide) ?_
        exact ih hf KK hP hS (lv_sub hl [0, 1, 2, 3, 4] rfl)
      have hf := ht
      refine lv_icmp_ne (tgt := 98) hx hb dX7_extreme_50 (by decide) (fun hc => ?_) (fun hc => ?_)
      · have hf := if_f hc hf
        cases hf
        exact K1 H locs ls hP hS (lv_sub hl [1, 2, 3, 4, 5] rfl)
      · have hf := if_t hc hf
        refine lv_aload_n hx hb dX7_extreme_53 rfl (lv_at hl 4 rfl) ?_
        refine gf_X7_10 X hnI hP zk_0 dX7_extreme_54 ?_
        refine gf_X7_237 X hnI hP zk_1 dX7_extreme_57 ?_
        refine gf_X7_262 X hnI hP zk_15 dX7_extreme_60 ?_
        refine lv_iload hx hb dX7_extreme_63 (lv_at hl 0 rfl) ?_
        obtain ⟨x4, hx4, hf⟩ := ob_e hf
        refine zr_aldI X hP hnI zk_19 hx4 dX7_extreme_65 ?_
        refine lv_istore (lv' := [(6, .int x4), (5, .int x2), (4, .int a4), (3, .int a3), (2, .int a2), (0, .ref (g.2.2 + 0)), (1, .int a1)]) hx hb dX7_extreme_66 hl (by decide) rfl (fun ls hl => ?_)
        refine lv_iload_n hx hb dX7_extreme_68 rfl (lv_at hl 4 rfl) ?_
        refine lv_iconst (v := (-1 : Int32)) hx hb dX7_extreme_69 (by decide) ?_
        refine lv_icmp_eq (tgt := 92) hx hb dX7_extreme_70 (by decide) (fun hc => ?_) (fun hc => ?_)
        · have hf := if_t hc hf
          refine lv_iload hx hb dX7_extreme_92 (lv_at hl 2 rfl) ?_
          refine lv_istore_n (lv' := [(2, .int a4), (6, .int x4), (5, .int x2), (4, .int a4), (3, .int a3), (0, .ref (g.2.2 + 0)), (1, .int a1)]) hx hb dX7_extreme_94 rfl hl (by decide) rfl (fun ls hl => ?_)
          refine lv_iload hx hb dX7_extreme_95 (lv_at hl 1 rfl) ?_
          refine lv_istore_n (lv' := [(3, .int x4), (2, .int a4), (6, .int x4), (5, .int x2), (4, .int a4), (0, .ref (g.2.2 + 0)), (1, .int a1)]) hx hb dX7_extreme_97 rfl hl (by decide) rfl (fun ls hl => ?_)
          cases hf
          exact K1 H locs ls hP hS (lv_sub hl [4, 0, 1, 5, 6] rfl)
        · have hf := if_f hc hf
          refine lv_iload_n hx hb dX7_extreme_73 rfl (lv_at hl 6 rfl) ?_
          refine lv_if_eq (tgt := 86) hx hb dX7_extreme_74 (by decide) (fun hc => ?_) (fun hc => ?_)
          · have hf := if_t hc hf
            refine lv_iload hx hb dX7_extreme_86 (lv_at hl 0 rfl) ?_
            refine lv_iload_n hx hb dX7_extreme_88 rfl (lv_at hl 3 rfl) ?_
            refine lv_icmp_le (tgt := 98) hx hb dX7_extreme_89 (by decide) (fun hc => ?_) (fun hc => ?_)
            · have hf := if_t hc hf
              cases hf
              exact K1 H locs ls hP hS (lv_sub hl [2, 3, 4, 5, 6] rfl)
            · have hf := if_f hc hf
              refine lv_iload hx hb dX7_extreme_92 (lv_at hl 2 rfl) ?_
              refine lv_istore_n (lv' := [(2, .int a4), (6, .int x4), (5, .int x2), (4, .int a4), (3, .int a3), (0, .ref (g.2.2 + 0)), (1, .int a1)]) hx hb dX7_extreme_94 rfl hl (by decide) rfl (fun ls hl => ?_)
              refine lv_iload hx hb dX7_extreme_95 (lv_at hl 1 rfl) ?_
              refine lv_istore_n (lv' := [(3, .int x4), (2, .int a4), (6, .int x4), (5, .int x2), (4, .int a4), (0, .ref (g.2.2 + 0)), (1, .int a1)]) hx hb dX7_extreme_97 rfl hl (by decide) rfl (fun ls hl => ?_)
              cases hf
              exact K1 H locs ls hP hS (lv_sub hl [4, 0, 1, 5, 6] rfl)
          · have hf := if_f hc hf
            refine lv_iload hx hb dX7_extreme_77 (lv_at hl 0 rfl) ?_
            refine lv_iload_n hx hb dX7_extreme_79 rfl (lv_at hl 3 rfl) ?_
            refine lv_icmp_ge (tgt := 98) hx hb dX7_extreme_80 (by decide) (fun hc => ?_) (fun hc => ?_)
            · have hf := if_t hc hf
              cases hf
              exact K1 H locs ls hP hS (lv_sub hl [2, 3, 4, 5, 6] rfl)
            · have hf := if_f hc hf
              refine lv_goto (tgt := 92) hx hb dX7_extreme_83 (by decide) ?_
              refine lv_iload hx hb dX7_extreme_92 (lv_at hl 2 rfl) ?_
              refine lv_istore_n (lv' := [(2, .int a4), (6, .int x4), (5, .int x2), (4, .int a4), (3, .int a3), (0, .ref (g.2.2 + 0)), (1, .int a1)]) hx hb dX7_extreme_94 rfl hl (by decide) rfl (fun ls hl => ?_)
              refine lv_iload hx hb dX7_extreme_95 (lv_at hl 1 rfl) ?_
              refine lv_istore_n (lv' := [(3, .int x4), (2, .int a4), (6, .int x4), (5, .int x2), (4, .int a4), (0, .ref (g.2.2 + 0)), (1, .int a1)]) hx hb dX7_extreme_97 rfl hl (by decide) rfl (fun ls hl => ?_)
              cases hf
              exact K1 H locs ls hP hS (lv_sub hl [4, 0, 1, 5, 6] rfl)
set_option maxHeartbeats 4000000 in
set_option maxRecDepth 100000 in
theorem ct_X7_extreme {g : zb_G} {nc : Nat} (hnI : 306 ≤ nc) (l : Launch) {a1 : Int32} {I J O : Mem} {r9 : Int32} (hf : fX7_extreme a1 I = some r9) : zb_Ct l g nc yX7_extreme cX7_extreme 7 (some .int) 2 43 [.ref (g.2.2 + 0), .int a1] (zb_ce g I J O) (some (.int r9)) (zb_ce g I J O) := by
  refine zb_ofW (own := RX7) (by decide +kernel) rfl (Nat.le_of_ble_eq_true rfl) ?_
  intro p e s m args below meth c ls X hr hP hl
  have hx := X.1.1
  have hb := X.1.2.1
  have ho := X.1.2.2.2.1
  have hts := X.1.2.2.2.2
  have hZ := X.2.2.2
  have hl : lv_has ls 7 [(0, .ref (g.2.2 + 0)), (1, .int a1)] := hl
  have hS : va_S (zb_A g) s.heap s.heap [] := va_S.rf
  obtain ⟨H, hH⟩ : ∃ H, H = s.heap := ⟨_, rfl⟩
  obtain ⟨locs, hlocs⟩ : ∃ z : List Loc, z = [] := ⟨_, rfl⟩
  rw [← hH] at hP
  have hS : va_S (zb_A g) s.heap H locs := by rw [hH, hlocs]; exact hS
  show W p l e _ s m args below meth c s.heap [] 0 0 _ _
  rw [← hH, ← hlocs]
  rw [fX7_extreme] at hf
  refine lv_iconst (v := (-1 : Int32)) hx hb dX7_extreme_0 (by decide) ?_
  refine lv_istore_n (lv' := [(2, .int (-1 : Int32)), (0, .ref (g.2.2 + 0)), (1, .int a1)]) hx hb dX7_extreme_1 rfl hl (by decide) rfl (fun ls hl => ?_)
  refine lv_iconst (v := (0 : Int32)) hx hb dX7_extreme_2 (by decide) ?_
  refine lv_istore_n (lv' := [(3, .int (0 : Int32)), (2, .int (-1 : Int32)), (0, .ref (g.2.2 + 0)), (1, .int a1)]) hx hb dX7_extreme_3 rfl hl (by decide) rfl (fun ls hl => ?_)
  refine lv_aload_n hx hb dX7_extreme_4 rfl (lv_at hl 2 rfl) ?_
  refine gf_X7_10 X hnI hP zk_0 dX7_extreme_5 ?_
  obtain ⟨x1, hx1, hf⟩ := ob_e hf
  refine zr_cVi (rest := []) (As := []) X hP hS (ct_X5_firstKept (g := g) (nc := nc) (I := I) (J := J) (O := O) hnI l zb_isB1 hx1) cw_X7_147 (zr_recv X hP (Nat.lt_of_lt_of_le (zk_1).1 hnI) (zb_ceIo zk_1 (by decide)) rfl) rfl hl.1 (Nat.le_of_ble_eq_true rfl) ⟨Nat.le_of_ble_eq_true rfl, Nat.le_of_ble_eq_true rfl⟩ ⟨Nat.le_of_ble_eq_true rfl, Nat.le_of_ble_eq_true rfl⟩ dX7_extreme_8 rfl (fun H locs hP hS => ?_)
  refine lv_istore (lv' := [(4, .int x1), (3, .int (0 : Int32)), (2, .int (-1 : Int32)), (0, .ref (g.2.2 + 0)), (1, .int a1)]) hx hb dX7_extreme_11 hl (by decide) rfl (fun ls hl => ?_)
  obtain ⟨x7, hx7, hf⟩ := ob_e hf
  have K2 : ∀ (H : Heap) (locs : List Loc) (ls : Array Slot), va_P g.1 vwCl (zb_ws g nc (zb_ce g I J O)) H → va_S (zb_A g) s.heap H locs → lv_has ls 7 [(2, .int x7)] → W p l e { frames := 2, cells := 0, slots := 0, locals := 43 } s m args below meth c H locs 0 0 (MQ below (zb_Po g nc (zb_ce g I J O) (some (.int r9))) args s 0 0 (zb_A g)) (F0 m 104 ls []) := by
    intro H locs ls hP hS hl
    refine lv_iload_n hx hb dX7_extreme_104 rfl (lv_at hl 0 rfl) ?_
    cases hf
    exact zr_iret X hr hP hS dX7_extreme_105
  exact lpX7_extreme_L13 hnI l  X hx7 K2 hP hS (lv_sub hl [0, 1, 2, 3, 4] rfl)
set_option maxHeartbeats 4000000 in
set_option maxRecDepth 100000 in
theorem lpX7_meanLevel_L21 {g : zb_G} {nc : Nat} (hnI : 306 ≤ nc) (l : Launch) {a1 : Int32} {J O : Mem} {p : Program} {e : Env} {s : State} {m : MethodId} {args : Array Value} {below : List Frame} {meth : Method} {c : Code} {Q : State → Prop} (X : zb_X g p m c cX7_meanLevel 5 s args RX7 meth) : ∀ {n9 : Nat} {a3 : Int32} {a2 : Int32} {I : Mem} {z2 : Int32} {H : Heap} {locs : List Loc} {ls : Array Slot}, fX7_meanLevel_L21 a1 n9 a3 a2 I = some z2 → (∀ (H : Heap) (locs : List Loc) (ls : Array Slot), va_P g.1 vwCl (zb_ws g nc (zb_ce g I J O)) H → va_S (zb_A g) s.heap H locs → lv_has ls 5 [(2, .int z2), (1, .int a1)] → W p l e { frames := 3, cells := 0, slots := 0, locals := 65 } s m args below meth c H locs 0 0 Q (F0 m 81 ls [])) → va_P g.1 vwCl (zb_ws g nc (zb_ce g I J O)) H → va_S (zb_A g) s.heap H locs → lv_has ls 5 [(3, .int a3), (2, .int a2), (1, .int a1), (0, .ref (g.2.2 + 0))] → W p l e { frames := 3, cells := 0, slots := 0, locals := 65 } s m args below meth c H locs 0 0 Q (F0 m 21 ls []) := by
  have hx := X.1.1
  have hb := X.1.2.1
  have ho := X.1.2.2.2.1
  have hts := X.1.2.2.2.2
  have hZ := X.2.2.2
  intro n9
  induction n9 with
  | zero =>
    intro a3 a2 I z2 H locs ls hf
    exact nomatch hf
  | succ n9 ih =>
    intro a3 a2 I z2 H locs ls hf KK hP hS hl
    rw [fX7_meanLevel_L21] at hf
    refine lv_iload_n hx hb dX7_meanLevel_21 rfl (lv_at hl 0 rfl) ?_
    refine lv_aload_n hx hb dX7_meanLevel_22 rfl (lv_at hl 3 rfl) ?_
    refine gf_X7_10 X hnI hP zk_0 dX7_meanLevel_23 ?_
    refine gf_X7_144 X hnI hP zk_1 dX7_meanLevel_26 ?_
    refine lv_icmp_ge (tgt := 81) hx hb dX7_meanLevel_29 (by decide) (fun hc => ?_) (fun hc => ?_)
    · have hf := if_t hc hf
      cases hf
      exact KK H locs ls hP hS (lv_sub hl [1, 2] rfl)
    · have hf := if_f hc hf
      refine lv_aload_n hx hb dX7_meanLevel_32 rfl (lv_at hl 3 rfl) ?_
      refine gf_X7_10 X hnI hP zk_0 dX7_meanLevel_33 ?_
      refine lv_iload_n hx hb dX7_meanLevel_36 rfl (lv_at hl 0 rfl) ?_
      obtain ⟨x3, hx3, hf⟩ := ob_e hf
      refine zr_cVi (rest := []) (As := [.int a3]) X hP hS (ct_X5_rowOf (g := g) (nc := nc) (I := I) (J := J) (O := O)  l zb_isB1 hx3) cw_X7_281 (zr_recv X hP (Nat.lt_of_lt_of_le (zk_1).1 hnI) (zb_ceIo zk_1 (by decide)) rfl) rfl hl.1 (Nat.le_of_ble_eq_true rfl) ⟨Nat.le_of_ble_eq_true rfl, Nat.le_of_ble_eq_true rfl⟩ ⟨Nat.le_of_ble_eq_true rfl, Nat.le_of_ble_eq_true rfl⟩ dX7_meanLevel_37 rfl (fun H locs hP hS => ?_)
      refine lv_istore (lv' := [(4, .int x3), (3, .int a3), (2, .int a2), (1, .int a1), (0, .ref (g.2.2 + 0))]) hx hb dX7_meanLevel_40 hl (by decide) rfl (fun ls hl => ?_)
      refine lv_aload_n hx hb dX7_meanLevel_42 rfl (lv_at hl 4 rfl) ?_
      refine gf_X7_10 X hnI hP zk_0 dX7_meanLevel_43 ?_
      refine gf_X7_237 X hnI hP zk_1 dX7_meanLevel_46 ?_
      refine gf_X7_249 X hnI hP zk_15 dX7_meanLevel_49 ?_
      refine lv_iload hx hb dX7_meanLevel_52 (lv_at hl 0 rfl) ?_
      obtain ⟨x4, hx4, hf⟩ := ob_e hf
      refine zr_aldI X hP hnI zk_18 hx4 dX7_meanLevel_54 ?_
      refine lv_iconst (v := (1 : Int32)) hx hb dX7_meanLevel_55 (by decide) ?_
      obtain ⟨x6, ht, hf⟩ := ob_e hf
      have K1 : ∀ (H : Heap) (locs : List Loc) (ls : Array Slot), va_P g.1 vwCl (zb_ws g nc (zb_ce g I J O)) H → va_S (zb_A g) s.heap H locs → lv_has ls 5 [(3, .int a3), (2, .int x6), (1, .int a1), (0, .ref (g.2.2 + 0))] → W p l e { frames := 3, cells := 0, slots := 0, locals := 65 } s m args below meth c H locs 0 0 Q (F0 m 75 ls []) := by
        intro H locs ls hP hS hl
        refine lv_iinc (v := (a3 + (1 : Int32))) (lv' := [(3, .int (a3 + (1 : Int32))), (2, .int x6), (1, .int a1), (0, .ref (g.2.2 + 0))]) hx hb dX7_meanLevel_75 hl (k := 0) rfl rfl (by decide) rfl (fun ls hl => ?_)
        refine lv_goto (tgt := 21) hx hb dX7_meanLevel_78 (by decide) ?_
        exact ih hf KK hP hS (lv_sub hl [0, 1, 2, 3] rfl)
      have hf := ht
      refine lv_icmp_ne (tgt := 75) hx hb dX7_meanLevel_56 (by decide) (fun hc => ?_) (fun hc => ?_)
      · have hf := if_f hc hf
        cases hf
        exact K1 H locs ls hP hS (lv_sub hl [1, 2, 3, 4] rfl)
      · have hf := if_t hc hf
        refine lv_iload_n hx hb dX7_meanLevel_59 rfl (lv_at hl 2 rfl) ?_
        refine lv_aload_n hx hb dX7_meanLevel_60 rfl (lv_at hl 4 rfl) ?_
        refine gf_X7_10 X hnI hP zk_0 dX7_meanLevel_61 ?_
        refine gf_X7_237 X hnI hP zk_1 dX7_meanLevel_64 ?_
        refine gf_X7_262 X hnI hP zk_15 dX7_meanLevel_67 ?_
        refine lv_iload hx hb dX7_meanLevel_70 (lv_at hl 0 rfl) ?_
        obtain ⟨x5, hx5, hf⟩ := ob_e hf
        refine zr_aldI X hP hnI zk_19 hx5 dX7_meanLevel_72 ?_
        refine lv_iadd hx hb dX7_meanLevel_73 ?_
        refine lv_istore_n (lv' := [(2, .int (a2 + x5)), (4, .int x3), (3, .int a3), (1, .int a1), (0, .ref (g.2.2 + 0))]) hx hb dX7_meanLevel_74 rfl hl (by decide) rfl (fun ls hl => ?_)
        cases hf
        exact K1 H locs ls hP hS (lv_sub hl [2, 0, 3, 4] rfl)
set_option maxHeartbeats 4000000 in
set_option maxRecDepth 100000 in
theorem ct_X7_meanLevel {g : zb_G} {nc : Nat} (hnI : 306 ≤ nc) (l : Launch) {I J O : Mem} {r9 : UInt64} (hf : fX7_meanLevel I = some r9) : zb_Ct l g nc yX7_meanLevel cX7_meanLevel 5 (some .double) 3 65 [.ref (g.2.2 + 0)] (zb_ce g I J O) (some (.double r9)) (zb_ce g I J O) := by
  refine zb_ofW (own := RX7) (by decide +kernel) rfl (Nat.le_of_ble_eq_true rfl) ?_
  intro p e s m args below meth c ls X hr hP hl
  have hx := X.1.1
  have hb := X.1.2.1
  have ho := X.1.2.2.2.1
  have hts := X.1.2.2.2.2
  have hZ := X.2.2.2
  have hl : lv_has ls 5 [(0, .ref (g.2.2 + 0))] := hl
  have hS : va_S (zb_A g) s.heap s.heap [] := va_S.rf
  obtain ⟨H, hH⟩ : ∃ H, H = s.heap := ⟨_, rfl⟩
  obtain ⟨locs, hlocs⟩ : ∃ z : List Loc, z = [] := ⟨_, rfl⟩
  rw [← hH] at hP
  have hS : va_S (zb_A g) s.heap H locs := by rw [hH, hlocs]; exact hS
  show W p l e _ s m args below meth c s.heap [] 0 0 _ _
  rw [← hH, ← hlocs]
  rw [fX7_meanLevel] at hf
  refine lv_aload_n hx hb dX7_meanLevel_0 rfl (lv_at hl 0 rfl) ?_
  obtain ⟨x1, hx1, hf⟩ := ob_e hf
  refine zr_cVi (rest := []) (As := []) X hP hS (ct_X7_hoursWithLevel (g := g) (nc := nc) (I := I) (J := J) (O := O) hnI l  hx1) cw_X7_171 (zr_recv X hP (Nat.lt_of_lt_of_le (zk_0).1 hnI) (zb_ceIo zk_0 (by decide)) rfl) rfl hl.1 (Nat.le_of_ble_eq_true rfl) ⟨Nat.le_of_ble_eq_true rfl, Nat.le_of_ble_eq_true rfl⟩ ⟨Nat.le_of_ble_eq_true rfl, Nat.le_of_ble_eq_true rfl⟩ dX7_meanLevel_1 rfl (fun H locs hP hS => ?_)
  refine lv_istore_n (lv' := [(1, .int x1), (0, .ref (g.2.2 + 0))]) hx hb dX7_meanLevel_4 rfl hl (by decide) rfl (fun ls hl => ?_)
  refine lv_iload_n hx hb dX7_meanLevel_5 rfl (lv_at hl 0 rfl) ?_
  refine lv_if_ne (tgt := 11) hx hb dX7_meanLevel_6 (by decide) (fun hc => ?_) (fun hc => ?_)
  · have hf := if_f hc hf
    refine lv_iconst (v := (0 : Int32)) hx hb dX7_meanLevel_11 (by decide) ?_
    refine lv_istore_n (lv' := [(2, .int (0 : Int32)), (1, .int x1), (0, .ref (g.2.2 + 0))]) hx hb dX7_meanLevel_12 rfl hl (by decide) rfl (fun ls hl => ?_)
    refine lv_aload_n hx hb dX7_meanLevel_13 rfl (lv_at hl 2 rfl) ?_
    refine gf_X7_10 X hnI hP zk_0 dX7_meanLevel_14 ?_
    obtain ⟨x2, hx2, hf⟩ := ob_e hf
    refine zr_cVi (rest := []) (As := []) X hP hS (ct_X5_firstKept (g := g) (nc := nc) (I := I) (J := J) (O := O) hnI l zb_isB1 hx2) cw_X7_147 (zr_recv X hP (Nat.lt_of_lt_of_le (zk_1).1 hnI) (zb_ceIo zk_1 (by decide)) rfl) rfl hl.1 (Nat.le_of_ble_eq_true rfl) ⟨Nat.le_of_ble_eq_true rfl, Nat.le_of_ble_eq_true rfl⟩ ⟨Nat.le_of_ble_eq_true rfl, Nat.le_of_ble_eq_true rfl⟩ dX7_meanLevel_17 rfl (fun H locs hP hS => ?_)
    refine lv_istore_n (lv' := [(3, .int x2), (2, .int (0 : Int32)), (1, .int x1), (0, .ref (g.2.2 + 0))]) hx hb dX7_meanLevel_20 rfl hl (by decide) rfl (fun ls hl => ?_)
    obtain ⟨x7, hx7, hf⟩ := ob_e hf
    have K2 : ∀ (H : Heap) (locs : List Loc) (ls : Array Slot), va_P g.1 vwCl (zb_ws g nc (zb_ce g I J O)) H → va_S (zb_A g) s.heap H locs → lv_has ls 5 [(2, .int x7), (1, .int x1)] → W p l e { frames := 3, cells := 0, slots := 0, locals := 65 } s m args below meth c H locs 0 0 (MQ below (zb_Po g nc (zb_ce g I J O) (some (.double r9))) args s 0 0 (zb_A g)) (F0 m 81 ls []) := by
      intro H locs ls hP hS hl
      refine lv_iload_n hx hb dX7_meanLevel_81 rfl (lv_at hl 0 rfl) ?_
      refine lv_i2d hx hb dX7_meanLevel_82 ?_
      refine lv_iload_n hx hb dX7_meanLevel_83 rfl (lv_at hl 1 rfl) ?_
      refine lv_i2d hx hb dX7_meanLevel_84 ?_
      obtain ⟨x8, hx8, hf⟩ := ob_e hf
      refine zr_ddiv X hx8 dX7_meanLevel_85 ?_
      cases hf
      exact zr_dret X hr hP hS dX7_meanLevel_86
    exact lpX7_meanLevel_L21 hnI l  X hx7 K2 hP hS (lv_sub hl [0, 1, 2, 3] rfl)
  · have hf := if_t hc hf
    refine lv_dconst0 hx hb dX7_meanLevel_9 ?_
    cases hf
    exact zr_dret X hr hP hS dX7_meanLevel_10
set_option maxHeartbeats 4000000 in
set_option maxRecDepth 100000 in
theorem ct_X7_agreement {g : zb_G} {nc : Nat} (hnI : 306 ≤ nc) (l : Launch) {a1 : Int32} {I J O : Mem} {r9 : UInt32} (hf : fX7_agreement a1 I = some (0, r9)) : zb_Ct l g nc yX7_agreement cX7_agreement 4 (some .float) 7 146 [.ref (g.2.2 + 0), .int a1] (zb_ce g I J O) (some (.float r9)) (zb_ce g I J O) := by
  refine zb_ofW (own := RX7) (by decide +kernel) rfl (Nat.le_of_ble_eq_true rfl) ?_
  intro p e s m args below meth c ls X hr hP hl
  have hx := X.1.1
  have hb := X.1.2.1
  have ho := X.1.2.2.2.1
  have hts := X.1.2.2.2.2
  have hZ := X.2.2.2
  have hl : lv_has ls 4 [(0, .ref (g.2.2 + 0)), (1, .int a1)] := hl
  have hS : va_S (zb_A g) s.heap s.heap [] := va_S.rf
  obtain ⟨H, hH⟩ : ∃ H, H = s.heap := ⟨_, rfl⟩
  obtain ⟨locs, hlocs⟩ : ∃ z : List Loc, z = [] := ⟨_, rfl⟩
  rw [← hH] at hP
  have hS : va_S (zb_A g) s.heap H locs := by rw [hH, hlocs]; exact hS
  show W p l e _ s m args below meth c s.heap [] 0 0 _ _
  rw [← hH, ← hlocs]
  rw [fX7_agreement] at hf
  refine lv_aload_n hx hb dX7_agreement_0 rfl (lv_at hl 0 rfl) ?_
  refine lv_iload_n hx hb dX7_agreement_1 rfl (lv_at hl 1 rfl) ?_
  obtain ⟨e1, x2, he1_x2, hf⟩ := ob2_e hf
  rcases Classical.em (e1 = 0) with he | he
  · have hf := if_t he hf
    rw [he] at he1_x2
    refine zr_cVi (rest := []) (As := [.int a1]) X hP hS (ct_X7_rowOfKept (g := g) (nc := nc) (I := I) (J := J) (O := O) hnI l  he1_x2) cw_X7_234 (zr_recv X hP (Nat.lt_of_lt_of_le (zk_0).1 hnI) (zb_ceIo zk_0 (by decide)) rfl) rfl hl.1 (Nat.le_of_ble_eq_true rfl) ⟨Nat.le_of_ble_eq_true rfl, Nat.le_of_ble_eq_true rfl⟩ ⟨Nat.le_of_ble_eq_true rfl, Nat.le_of_ble_eq_true rfl⟩ dX7_agreement_2 rfl (fun H locs hP hS => ?_)
    refine lv_istore_n (lv' := [(2, .int x2), (0, .ref (g.2.2 + 0)), (1, .int a1)]) hx hb dX7_agreement_5 rfl hl (by decide) rfl (fun ls hl => ?_)
    refine lv_aload_n hx hb dX7_agreement_6 rfl (lv_at hl 1 rfl) ?_
    refine gf_X7_10 X hnI hP zk_0 dX7_agreement_7 ?_
    refine gf_X7_88 X hnI hP zk_1 dX7_agreement_10 ?_
    refine lv_aload_n hx hb dX7_agreement_13 rfl (lv_at hl 1 rfl) ?_
    refine gf_X7_10 X hnI hP zk_0 dX7_agreement_14 ?_
    refine gf_X7_237 X hnI hP zk_1 dX7_agreement_17 ?_
    refine gf_X7_241 X hnI hP zk_15 dX7_agreement_20 ?_
    refine lv_iload_n hx hb dX7_agreement_23 rfl (lv_at hl 0 rfl) ?_
    obtain ⟨x3, hx3, hf⟩ := ob_e hf
    refine zr_aldI X hP hnI zk_16 hx3 dX7_agreement_24 ?_
    obtain ⟨x4, hx4, hf⟩ := ob_e hf
    refine zr_cVi (rest := []) (As := [.int x3]) X hP hS (ct_X0_votesOf (g := g) (nc := nc) (I := I) (J := J) (O := O) hnI l zb_isB1 hx4) cw_X7_284 (zr_recv X hP (Nat.lt_of_lt_of_le (zk_2).1 hnI) (zb_ceIo zk_2 (by decide)) rfl) rfl hl.1 (Nat.le_of_ble_eq_true rfl) ⟨Nat.le_of_ble_eq_true rfl, Nat.le_of_ble_eq_true rfl⟩ ⟨Nat.le_of_ble_eq_true rfl, Nat.le_of_ble_eq_true rfl⟩ dX7_agreement_25 rfl (fun H locs hP hS => ?_)
    refine lv_istore_n (lv' := [(3, .int x4), (2, .int x2), (0, .ref (g.2.2 + 0)), (1, .int a1)]) hx hb dX7_agreement_28 rfl hl (by decide) rfl (fun ls hl => ?_)
    refine lv_iload_n hx hb dX7_agreement_29 rfl (lv_at hl 0 rfl) ?_
    refine lv_if_ne (tgt := 35) hx hb dX7_agreement_30 (by decide) (fun hc => ?_) (fun hc => ?_)
    · have hf := if_f hc hf
      refine lv_aload_n hx hb dX7_agreement_35 rfl (lv_at hl 2 rfl) ?_
      refine gf_X7_10 X hnI hP zk_0 dX7_agreement_36 ?_
      refine gf_X7_88 X hnI hP zk_1 dX7_agreement_39 ?_
      refine lv_aload_n hx hb dX7_agreement_42 rfl (lv_at hl 2 rfl) ?_
      refine gf_X7_10 X hnI hP zk_0 dX7_agreement_43 ?_
      refine gf_X7_237 X hnI hP zk_1 dX7_agreement_46 ?_
      refine gf_X7_246 X hnI hP zk_15 dX7_agreement_49 ?_
      refine lv_iload_n hx hb dX7_agreement_52 rfl (lv_at hl 1 rfl) ?_
      obtain ⟨x5, hx5, hf⟩ := ob_e hf
      refine zr_aldI X hP hnI zk_17 hx5 dX7_agreement_53 ?_
      obtain ⟨x6, hx6, hf⟩ := ob_e hf
      refine zr_cVi (rest := []) (As := [.int x5]) X hP hS (ct_X0_votesOf (g := g) (nc := nc) (I := I) (J := J) (O := O) hnI l zb_isB1 hx6) cw_X7_284 (zr_recv X hP (Nat.lt_of_lt_of_le (zk_2).1 hnI) (zb_ceIo zk_2 (by decide)) rfl) rfl hl.1 (Nat.le_of_ble_eq_true rfl) ⟨Nat.le_of_ble_eq_true rfl, Nat.le_of_ble_eq_true rfl⟩ ⟨Nat.le_of_ble_eq_true rfl, Nat.le_of_ble_eq_true rfl⟩ dX7_agreement_54 rfl (fun H locs hP hS => ?_)
      refine lv_i2f hx hb dX7_agreement_57 ?_
      refine lv_iload_n hx hb dX7_agreement_58 rfl (lv_at hl 0 rfl) ?_
      refine lv_i2f hx hb dX7_agreement_59 ?_
      obtain ⟨x7, hx7, hf⟩ := ob_e hf
      refine zr_fdiv X hx7 dX7_agreement_60 ?_
      cases hf
      exact zr_fret X hr hP hS dX7_agreement_61
    · have hf := if_t hc hf
      refine lv_fconst0 hx hb dX7_agreement_33 ?_
      cases hf
      exact zr_fret X hr hP hS dX7_agreement_34
  · have hf := if_f he hf
    exact (thr_ne he hf).elim
set_option maxHeartbeats 4000000 in
set_option maxRecDepth 100000 in
theorem ct_X7_levelNow {g : zb_G} {nc : Nat} (hnI : 306 ≤ nc) (l : Launch) {I J O : Mem} {r9 : Int32} {Iq : Mem} (hf : fX7_levelNow I = some (0, r9, Iq)) : zb_Ct l g nc yX7_levelNow cX7_levelNow 2 (some .int) 6 125 [.ref (g.2.2 + 0)] (zb_ce g I J O) (some (.int r9)) (zb_ce g Iq J O) := by
  refine zb_ofW (own := RX7) (by decide +kernel) rfl (Nat.le_of_ble_eq_true rfl) ?_
  intro p e s m args below meth c ls X hr hP hl
  have hx := X.1.1
  have hb := X.1.2.1
  have ho := X.1.2.2.2.1
  have hts := X.1.2.2.2.2
  have hZ := X.2.2.2
  have hl : lv_has ls 2 [(0, .ref (g.2.2 + 0))] := hl
  have hS : va_S (zb_A g) s.heap s.heap [] := va_S.rf
  obtain ⟨H, hH⟩ : ∃ H, H = s.heap := ⟨_, rfl⟩
  obtain ⟨locs, hlocs⟩ : ∃ z : List Loc, z = [] := ⟨_, rfl⟩
  rw [← hH] at hP
  have hS : va_S (zb_A g) s.heap H locs := by rw [hH, hlocs]; exact hS
  show W p l e _ s m args below meth c s.heap [] 0 0 _ _
  rw [← hH, ← hlocs]
  rw [fX7_levelNow] at hf
  refine lv_aload_n hx hb dX7_levelNow_0 rfl (lv_at hl 0 rfl) ?_
  refine gf_X7_10 X hnI hP zk_0 dX7_levelNow_1 ?_
  refine gf_X7_88 X hnI hP zk_1 dX7_levelNow_4 ?_
  refine lv_astore_n (lv' := [(1, .ref (g.2.2 + 2)), (0, .ref (g.2.2 + 0))]) hx hb dX7_levelNow_7 rfl hl (by decide) rfl (fun ls hl => ?_)
  refine lv_aload_n hx hb dX7_levelNow_8 rfl (lv_at hl 0 rfl) ?_
  refine lv_aload_n hx hb dX7_levelNow_9 rfl (lv_at hl 1 rfl) ?_
  refine gf_X7_47 X hnI hP zk_0 dX7_levelNow_10 ?_
  refine lv_iconst (v := (0 : Int32)) hx hb dX7_levelNow_13 (by decide) ?_
  obtain ⟨I1, hI1, hf⟩ := ob_e hf
  refine zr_cVv (rest := []) (As := [.ref (g.2.2 + 55), .int (0 : Int32)]) X hP hS (ct_X0_tellValues (g := g) (nc := nc) (I := I) (J := J) (O := O) hnI l zb_isB1 zk_55 hI1) cw_X7_287 (zr_recv X hP (Nat.lt_of_lt_of_le (zk_2).1 hnI) (zb_ceIo zk_2 (by decide)) rfl) rfl hl.1 (Nat.le_of_ble_eq_true rfl) ⟨Nat.le_of_ble_eq_true rfl, Nat.le_of_ble_eq_true rfl⟩ ⟨Nat.le_of_ble_eq_true rfl, Nat.le_of_ble_eq_true rfl⟩ dX7_levelNow_14 rfl (fun H locs hP hS => ?_)
  refine lv_aload_n hx hb dX7_levelNow_17 rfl (lv_at hl 1 rfl) ?_
  refine gf_X7_43 X hnI hP zk_0 dX7_levelNow_18 ?_
  refine lv_aload_n hx hb dX7_levelNow_21 rfl (lv_at hl 0 rfl) ?_
  refine gf_X7_212 X hnI hP zk_2 dX7_levelNow_22 ?_
  refine lv_aload_n hx hb dX7_levelNow_25 rfl (lv_at hl 0 rfl) ?_
  refine lv_iconst (v := (0 : Int32)) hx hb dX7_levelNow_26 (by decide) ?_
  obtain ⟨x2, hx2, hf⟩ := ob_e hf
  refine zr_cVi (rest := [.int (I1 2 1), .ref (g.2.2 + 52)]) (As := [.int (0 : Int32)]) X hP hS (ct_X0_membersIn (g := g) (nc := nc) (I := I1) (J := J) (O := O) hnI l zb_isB1 hx2) cw_X7_151 (zr_recv X hP (Nat.lt_of_lt_of_le (zk_2).1 hnI) (zb_ceIo zk_2 (by decide)) rfl) rfl hl.1 (Nat.le_of_ble_eq_true rfl) ⟨Nat.le_of_ble_eq_true rfl, Nat.le_of_ble_eq_true rfl⟩ ⟨Nat.le_of_ble_eq_true rfl, Nat.le_of_ble_eq_true rfl⟩ dX7_levelNow_27 rfl (fun H locs hP hS => ?_)
  refine lv_iand hx hb dX7_levelNow_30 ?_
  refine lv_aload_n hx hb dX7_levelNow_31 rfl (lv_at hl 0 rfl) ?_
  refine gf_X7_191 X hnI hP zk_2 dX7_levelNow_32 ?_
  refine lv_aload_n hx hb dX7_levelNow_35 rfl (lv_at hl 1 rfl) ?_
  refine gf_X7_47 X hnI hP zk_0 dX7_levelNow_36 ?_
  refine lv_iconst (v := (0 : Int32)) hx hb dX7_levelNow_39 (by decide) ?_
  refine lv_aload_n hx hb dX7_levelNow_40 rfl (lv_at hl 1 rfl) ?_
  refine gf_X7_10 X hnI hP zk_0 dX7_levelNow_41 ?_
  refine gf_X7_79 X hnI hP zk_1 dX7_levelNow_44 ?_
  obtain ⟨I3, hI3, hf⟩ := ob_e hf
  refine zr_cVv (rest := []) (As := [.int ((I1 2 1) &&& x2), .ref (g.2.2 + 4), .ref (g.2.2 + 55), .int (0 : Int32), .int (I1 1 3)]) X hP hS (ct_X6_count (g := g) (nc := nc) (I := I1) (J := J) (O := O) hnI l zk_4 zk_55 hI3) cw_X7_291 (zr_recv X hP (Nat.lt_of_lt_of_le (zk_52).1 hnI) (zb_ceIo zk_52 (by decide)) rfl) rfl hl.1 (Nat.le_of_ble_eq_true rfl) ⟨Nat.le_of_ble_eq_true rfl, Nat.le_of_ble_eq_true rfl⟩ ⟨Nat.le_of_ble_eq_true rfl, Nat.le_of_ble_eq_true rfl⟩ dX7_levelNow_47 rfl (fun H locs hP hS => ?_)
  refine lv_aload_n hx hb dX7_levelNow_50 rfl (lv_at hl 1 rfl) ?_
  refine gf_X7_43 X hnI hP zk_0 dX7_levelNow_51 ?_
  refine gf_X7_294 X hnI hP zk_52 dX7_levelNow_54 ?_
  refine lv_if_ne (tgt := 71) hx hb dX7_levelNow_57 (by decide) (fun hc => ?_) (fun hc => ?_)
  · have hf := if_f hc hf
    refine lv_aload_n hx hb dX7_levelNow_71 rfl (lv_at hl 1 rfl) ?_
    refine gf_X7_43 X hnI hP zk_0 dX7_levelNow_72 ?_
    refine gf_X7_299 X hnI hP zk_52 dX7_levelNow_75 ?_
    cases hf
    exact zr_iret X hr hP hS dX7_levelNow_78
  · have hf := if_t hc hf
    exact (thr_ne (by decide) hf).elim
set_option maxHeartbeats 4000000 in
set_option maxRecDepth 100000 in
theorem ct_X7_levelWithout {g : zb_G} {nc : Nat} (hnI : 306 ≤ nc) (l : Launch) {a1 : Int32} {a2 : Int32} {I J O : Mem} {r9 : Int32} {Iq : Mem} (hf : fX7_levelWithout a1 a2 I = some (0, r9, Iq)) : zb_Ct l g nc yX7_levelWithout cX7_levelWithout 4 (some .int) 7 146 [.ref (g.2.2 + 0), .int a1, .int a2] (zb_ce g I J O) (some (.int r9)) (zb_ce g Iq J O) := by
  refine zb_ofW (own := RX7) (by decide +kernel) rfl (Nat.le_of_ble_eq_true rfl) ?_
  intro p e s m args below meth c ls X hr hP hl
  have hx := X.1.1
  have hb := X.1.2.1
  have ho := X.1.2.2.2.1
  have hts := X.1.2.2.2.2
  have hZ := X.2.2.2
  have hl : lv_has ls 4 [(0, .ref (g.2.2 + 0)), (1, .int a1), (2, .int a2)] := hl
  have hS : va_S (zb_A g) s.heap s.heap [] := va_S.rf
  obtain ⟨H, hH⟩ : ∃ H, H = s.heap := ⟨_, rfl⟩
  obtain ⟨locs, hlocs⟩ : ∃ z : List Loc, z = [] := ⟨_, rfl⟩
  rw [← hH] at hP
  have hS : va_S (zb_A g) s.heap H locs := by rw [hH, hlocs]; exact hS
  show W p l e _ s m args below meth c s.heap [] 0 0 _ _
  rw [← hH, ← hlocs]
  rw [fX7_levelWithout] at hf
  refine lv_aload_n hx hb dX7_levelWithout_0 rfl (lv_at hl 0 rfl) ?_
  refine lv_iload_n hx hb dX7_levelWithout_1 rfl (lv_at hl 1 rfl) ?_
  obtain ⟨e1, x2, he1_x2, hf⟩ := ob2_e hf
  rcases Classical.em (e1 = 0) with he | he
  · have hf := if_t he hf
    rw [he] at he1_x2
    refine zr_cVi (rest := []) (As := [.int a1]) X hP hS (ct_X7_rowOfKept (g := g) (nc := nc) (I := I) (J := J) (O := O) hnI l  he1_x2) cw_X7_234 (zr_recv X hP (Nat.lt_of_lt_of_le (zk_0).1 hnI) (zb_ceIo zk_0 (by decide)) rfl) rfl hl.1 (Nat.le_of_ble_eq_true rfl) ⟨Nat.le_of_ble_eq_true rfl, Nat.le_of_ble_eq_true rfl⟩ ⟨Nat.le_of_ble_eq_true rfl, Nat.le_of_ble_eq_true rfl⟩ dX7_levelWithout_2 rfl (fun H locs hP hS => ?_)
    refine lv_istore_n (lv' := [(3, .int x2), (0, .ref (g.2.2 + 0)), (1, .int a1), (2, .int a2)]) hx hb dX7_levelWithout_5 rfl hl (by decide) rfl (fun ls hl => ?_)
    refine lv_aload_n hx hb dX7_levelWithout_6 rfl (lv_at hl 1 rfl) ?_
    refine gf_X7_10 X hnI hP zk_0 dX7_levelWithout_7 ?_
    refine lv_iload_n hx hb dX7_levelWithout_10 rfl (lv_at hl 0 rfl) ?_
    refine lv_aload_n hx hb dX7_levelWithout_11 rfl (lv_at hl 1 rfl) ?_
    refine gf_X7_10 X hnI hP zk_0 dX7_levelWithout_12 ?_
    refine gf_X7_237 X hnI hP zk_1 dX7_levelWithout_15 ?_
    refine gf_X7_241 X hnI hP zk_15 dX7_levelWithout_18 ?_
    refine lv_iload_n hx hb dX7_levelWithout_21 rfl (lv_at hl 0 rfl) ?_
    obtain ⟨x3, hx3, hf⟩ := ob_e hf
    refine zr_aldI X hP hnI zk_16 hx3 dX7_levelWithout_22 ?_
    refine lv_iload_n hx hb dX7_levelWithout_23 rfl (lv_at hl 3 rfl) ?_
    refine lv_iconst (v := (-1 : Int32)) hx hb dX7_levelWithout_24 (by decide) ?_
    refine lv_ixor hx hb dX7_levelWithout_25 ?_
    refine lv_iand hx hb dX7_levelWithout_26 ?_
    refine lv_aload_n hx hb dX7_levelWithout_27 rfl (lv_at hl 1 rfl) ?_
    refine gf_X7_43 X hnI hP zk_0 dX7_levelWithout_28 ?_
    obtain ⟨I4, hI4, hf⟩ := ob_e hf
    refine zr_cVv (rest := []) (As := [.int x2, .int (x3 &&& (a2 ^^^ (-1 : Int32))), .ref (g.2.2 + 52)]) X hP hS (ct_X5_countRow (g := g) (nc := nc) (I := I) (J := J) (O := O) hnI l zb_isB1 hI4) cw_X7_302 (zr_recv X hP (Nat.lt_of_lt_of_le (zk_1).1 hnI) (zb_ceIo zk_1 (by decide)) rfl) rfl hl.1 (Nat.le_of_ble_eq_true rfl) ⟨Nat.le_of_ble_eq_true rfl, Nat.le_of_ble_eq_true rfl⟩ ⟨Nat.le_of_ble_eq_true rfl, Nat.le_of_ble_eq_true rfl⟩ dX7_levelWithout_31 rfl (fun H locs hP hS => ?_)
    refine lv_aload_n hx hb dX7_levelWithout_34 rfl (lv_at hl 1 rfl) ?_
    refine gf_X7_43 X hnI hP zk_0 dX7_levelWithout_35 ?_
    refine gf_X7_294 X hnI hP zk_52 dX7_levelWithout_38 ?_
    refine lv_if_ne (tgt := 55) hx hb dX7_levelWithout_41 (by decide) (fun hc => ?_) (fun hc => ?_)
    · have hf := if_f hc hf
      refine lv_aload_n hx hb dX7_levelWithout_55 rfl (lv_at hl 1 rfl) ?_
      refine gf_X7_43 X hnI hP zk_0 dX7_levelWithout_56 ?_
      refine gf_X7_299 X hnI hP zk_52 dX7_levelWithout_59 ?_
      cases hf
      exact zr_iret X hr hP hS dX7_levelWithout_62
    · have hf := if_t hc hf
      exact (thr_ne (by decide) hf).elim
  · have hf := if_f he hf
    exact (thr_ne he hf).elim
set_option maxHeartbeats 4000000 in
set_option maxRecDepth 100000 in
theorem lpX7_needed_L25 {g : zb_G} {nc : Nat} (hnI : 306 ≤ nc) (l : Launch) {a3 : Int32} {a2 : Int32} {J O : Mem} {p : Program} {e : Env} {s : State} {m : MethodId} {args : Array Value} {below : List Frame} {meth : Method} {c : Code} {Q : State → Prop} (X : zb_X g p m c cX7_needed 6 s args RX7 meth) : ∀ {n9 : Nat} {a5 : Int32} {a4 : Int32} {I : Mem} {z4 : Int32} {Iz : Mem} {H : Heap} {locs : List Loc} {ls : Array Slot}, fX7_needed_L25 a3 a2 n9 a5 a4 I = some (z4, Iz) → (∀ (H : Heap) (locs : List Loc) (ls : Array Slot), va_P g.1 vwCl (zb_ws g nc (zb_ce g Iz J O)) H → va_S (zb_A g) s.heap H locs → lv_has ls 6 [(4, .int z4)] → W p l e { frames := 7, cells := 0, slots := 0, locals := 146 } s m args below meth c H locs 0 0 Q (F0 m 94 ls [])) → va_P g.1 vwCl (zb_ws g nc (zb_ce g I J O)) H → va_S (zb_A g) s.heap H locs → lv_has ls 6 [(5, .int a5), (4, .int a4), (3, .int a3), (2, .int a2), (0, .ref (g.2.2 + 0))] → W p l e { frames := 7, cells := 0, slots := 0, locals := 146 } s m args below meth c H locs 0 0 Q (F0 m 25 ls []) := by
  have hx := X.1.1
  have hb := X.1.2.1
  have ho := X.1.2.2.2.1
  have hts := X.1.2.2.2.2
  have hZ := X.2.2.2
  intro n9
  induction n9 with
  | zero =>
    intro a5 a4 I z4 Iz H locs ls hf
    exact nomatch hf
  | succ n9 ih =>
    intro a5 a4 I z4 Iz H locs ls hf KK hP hS hl
    rw [fX7_needed_L25] at hf
    refine lv_iload hx hb dX7_needed_25 (lv_at hl 0 rfl) ?_
    refine lv_aload_n hx hb dX7_needed_27 rfl (lv_at hl 4 rfl) ?_
    refine gf_X7_10 X hnI hP zk_0 dX7_needed_28 ?_
    refine gf_X7_88 X hnI hP zk_1 dX7_needed_31 ?_
    refine gf_X7_133 X hnI hP zk_2 dX7_needed_34 ?_
    refine lv_icmp_ge (tgt := 94) hx hb dX7_needed_37 (by decide) (fun hc => ?_) (fun hc => ?_)
    · have hf := if_t hc hf
      cases hf
      exact KK H locs ls hP hS (lv_sub hl [1] rfl)
    · have hf := if_f hc hf
      refine lv_iload_n hx hb dX7_needed_40 rfl (lv_at hl 2 rfl) ?_
      refine lv_iload hx hb dX7_needed_41 (lv_at hl 0 rfl) ?_
      obtain ⟨x4, hx4, hf⟩ := ob_e hf
      refine zr_cSi (rest := []) (As := [.int a3, .int a5]) X hP hS (ct_X7_has (g := g) (nc := nc) (I := I) (J := J) (O := O)  l  hx4) cw_X7_215  rfl hl.1 (Nat.le_of_ble_eq_true rfl) ⟨Nat.le_of_ble_eq_true rfl, Nat.le_of_ble_eq_true rfl⟩ ⟨Nat.le_of_ble_eq_true rfl, Nat.le_of_ble_eq_true rfl⟩ dX7_needed_43 rfl (fun H locs hP hS => ?_)
      obtain ⟨x6, I7, ht, hf⟩ := ob2_e hf
      have K1 : ∀ (H : Heap) (locs : List Loc) (ls : Array Slot), va_P g.1 vwCl (zb_ws g nc (zb_ce g I7 J O)) H → va_S (zb_A g) s.heap H locs → lv_has ls 6 [(5, .int a5), (4, .int x6), (3, .int a3), (2, .int a2), (0, .ref (g.2.2 + 0))] → W p l e { frames := 7, cells := 0, slots := 0, locals := 146 } s m args below meth c H locs 0 0 Q (F0 m 88 ls []) := by
        intro H locs ls hP hS hl
        refine lv_iinc (v := (a5 + (1 : Int32))) (lv' := [(5, .int (a5 + (1 : Int32))), (4, .int x6), (3, .int a3), (2, .int a2), (0, .ref (g.2.2 + 0))]) hx hb dX7_needed_88 hl (k := 0) rfl rfl (by decide) rfl (fun ls hl => ?_)
        refine lv_goto (tgt := 25) hx hb dX7_needed_91 (by decide) ?_
        exact ih hf KK hP hS (lv_sub hl [0, 1, 2, 3, 4] rfl)
      have hf := ht
      refine lv_if_eq (tgt := 88) hx hb dX7_needed_46 (by decide) (fun hc => ?_) (fun hc => ?_)
      · have hf := if_t hc hf
        cases hf
        exact K1 H locs ls hP hS (lv_sub hl [0, 1, 2, 3, 4] rfl)
      · have hf := if_f hc hf
        refine lv_aload_n hx hb dX7_needed_49 rfl (lv_at hl 4 rfl) ?_
        refine gf_X7_10 X hnI hP zk_0 dX7_needed_50 ?_
        refine lv_iload_n hx hb dX7_needed_53 rfl (lv_at hl 3 rfl) ?_
        refine lv_iload_n hx hb dX7_needed_54 rfl (lv_at hl 2 rfl) ?_
        refine lv_iconst (v := (1 : Int32)) hx hb dX7_needed_55 (by decide) ?_
        refine lv_iload hx hb dX7_needed_56 (lv_at hl 0 rfl) ?_
        refine lv_ishl hx hb dX7_needed_58 ?_
        refine lv_iconst (v := (-1 : Int32)) hx hb dX7_needed_59 (by decide) ?_
        refine lv_ixor hx hb dX7_needed_60 ?_
        refine lv_iand hx hb dX7_needed_61 ?_
        refine lv_aload_n hx hb dX7_needed_62 rfl (lv_at hl 4 rfl) ?_
        refine gf_X7_43 X hnI hP zk_0 dX7_needed_63 ?_
        obtain ⟨I5, hI5, hf⟩ := ob_e hf
        refine zr_cVv (rest := []) (As := [.int a2, .int (a3 &&& (((1 : Int32) <<< (a5 &&& 31)) ^^^ (-1 : Int32))), .ref (g.2.2 + 52)]) X hP hS (ct_X5_countRow (g := g) (nc := nc) (I := I) (J := J) (O := O) hnI l zb_isB1 hI5) cw_X7_302 (zr_recv X hP (Nat.lt_of_lt_of_le (zk_1).1 hnI) (zb_ceIo zk_1 (by decide)) rfl) rfl hl.1 (Nat.le_of_ble_eq_true rfl) ⟨Nat.le_of_ble_eq_true rfl, Nat.le_of_ble_eq_true rfl⟩ ⟨Nat.le_of_ble_eq_true rfl, Nat.le_of_ble_eq_true rfl⟩ dX7_needed_66 rfl (fun H locs hP hS => ?_)
        refine lv_aload_n hx hb dX7_needed_69 rfl (lv_at hl 4 rfl) ?_
        refine gf_X7_43 X hnI hP zk_0 dX7_needed_70 ?_
        refine gf_X7_294 X hnI hP zk_52 dX7_needed_73 ?_
        refine lv_if_ne (tgt := 88) hx hb dX7_needed_76 (by decide) (fun hc => ?_) (fun hc => ?_)
        · have hf := if_f hc hf
          cases hf
          exact K1 H locs ls hP hS (lv_sub hl [0, 1, 2, 3, 4] rfl)
        · have hf := if_t hc hf
          refine lv_iload hx hb dX7_needed_79 (lv_at hl 1 rfl) ?_
          refine lv_iconst (v := (1 : Int32)) hx hb dX7_needed_81 (by decide) ?_
          refine lv_iload hx hb dX7_needed_82 (lv_at hl 0 rfl) ?_
          refine lv_ishl hx hb dX7_needed_84 ?_
          refine lv_ior hx hb dX7_needed_85 ?_
          refine lv_istore (lv' := [(4, .int (a4 ||| ((1 : Int32) <<< (a5 &&& 31)))), (5, .int a5), (3, .int a3), (2, .int a2), (0, .ref (g.2.2 + 0))]) hx hb dX7_needed_86 hl (by decide) rfl (fun ls hl => ?_)
          cases hf
          exact K1 H locs ls hP hS (lv_sub hl [1, 0, 2, 3, 4] rfl)
set_option maxHeartbeats 4000000 in
set_option maxRecDepth 100000 in
theorem ct_X7_needed {g : zb_G} {nc : Nat} (hnI : 306 ≤ nc) (l : Launch) {a1 : Int32} {I J O : Mem} {r9 : Int32} {Iq : Mem} (hf : fX7_needed a1 I = some (0, r9, Iq)) : zb_Ct l g nc yX7_needed cX7_needed 6 (some .int) 7 146 [.ref (g.2.2 + 0), .int a1] (zb_ce g I J O) (some (.int r9)) (zb_ce g Iq J O) := by
  refine zb_ofW (own := RX7) (by decide +kernel) rfl (Nat.le_of_ble_eq_true rfl) ?_
  intro p e s m args below meth c ls X hr hP hl
  have hx := X.1.1
  have hb := X.1.2.1
  have ho := X.1.2.2.2.1
  have hts := X.1.2.2.2.2
  have hZ := X.2.2.2
  have hl : lv_has ls 6 [(0, .ref (g.2.2 + 0)), (1, .int a1)] := hl
  have hS : va_S (zb_A g) s.heap s.heap [] := va_S.rf
  obtain ⟨H, hH⟩ : ∃ H, H = s.heap := ⟨_, rfl⟩
  obtain ⟨locs, hlocs⟩ : ∃ z : List Loc, z = [] := ⟨_, rfl⟩
  rw [← hH] at hP
  have hS : va_S (zb_A g) s.heap H locs := by rw [hH, hlocs]; exact hS
  show W p l e _ s m args below meth c s.heap [] 0 0 _ _
  rw [← hH, ← hlocs]
  rw [fX7_needed] at hf
  refine lv_aload_n hx hb dX7_needed_0 rfl (lv_at hl 0 rfl) ?_
  refine lv_iload_n hx hb dX7_needed_1 rfl (lv_at hl 1 rfl) ?_
  obtain ⟨e1, x2, he1_x2, hf⟩ := ob2_e hf
  rcases Classical.em (e1 = 0) with he | he
  · have hf := if_t he hf
    rw [he] at he1_x2
    refine zr_cVi (rest := []) (As := [.int a1]) X hP hS (ct_X7_rowOfKept (g := g) (nc := nc) (I := I) (J := J) (O := O) hnI l  he1_x2) cw_X7_234 (zr_recv X hP (Nat.lt_of_lt_of_le (zk_0).1 hnI) (zb_ceIo zk_0 (by decide)) rfl) rfl hl.1 (Nat.le_of_ble_eq_true rfl) ⟨Nat.le_of_ble_eq_true rfl, Nat.le_of_ble_eq_true rfl⟩ ⟨Nat.le_of_ble_eq_true rfl, Nat.le_of_ble_eq_true rfl⟩ dX7_needed_2 rfl (fun H locs hP hS => ?_)
    refine lv_istore_n (lv' := [(2, .int x2), (0, .ref (g.2.2 + 0)), (1, .int a1)]) hx hb dX7_needed_5 rfl hl (by decide) rfl (fun ls hl => ?_)
    refine lv_aload_n hx hb dX7_needed_6 rfl (lv_at hl 1 rfl) ?_
    refine gf_X7_10 X hnI hP zk_0 dX7_needed_7 ?_
    refine gf_X7_237 X hnI hP zk_1 dX7_needed_10 ?_
    refine gf_X7_241 X hnI hP zk_15 dX7_needed_13 ?_
    refine lv_iload_n hx hb dX7_needed_16 rfl (lv_at hl 0 rfl) ?_
    obtain ⟨x3, hx3, hf⟩ := ob_e hf
    refine zr_aldI X hP hnI zk_16 hx3 dX7_needed_17 ?_
    refine lv_istore_n (lv' := [(3, .int x3), (2, .int x2), (0, .ref (g.2.2 + 0)), (1, .int a1)]) hx hb dX7_needed_18 rfl hl (by decide) rfl (fun ls hl => ?_)
    refine lv_iconst (v := (0 : Int32)) hx hb dX7_needed_19 (by decide) ?_
    refine lv_istore (lv' := [(4, .int (0 : Int32)), (3, .int x3), (2, .int x2), (0, .ref (g.2.2 + 0)), (1, .int a1)]) hx hb dX7_needed_20 hl (by decide) rfl (fun ls hl => ?_)
    refine lv_iconst (v := (0 : Int32)) hx hb dX7_needed_22 (by decide) ?_
    refine lv_istore (lv' := [(5, .int (0 : Int32)), (4, .int (0 : Int32)), (3, .int x3), (2, .int x2), (0, .ref (g.2.2 + 0)), (1, .int a1)]) hx hb dX7_needed_23 hl (by decide) rfl (fun ls hl => ?_)
    obtain ⟨x8, I9, hx8_I9, hf⟩ := ob2_e hf
    have K2 : ∀ (H : Heap) (locs : List Loc) (ls : Array Slot), va_P g.1 vwCl (zb_ws g nc (zb_ce g I9 J O)) H → va_S (zb_A g) s.heap H locs → lv_has ls 6 [(4, .int x8)] → W p l e { frames := 7, cells := 0, slots := 0, locals := 146 } s m args below meth c H locs 0 0 (MQ below (zb_Po g nc (zb_ce g Iq J O) (some (.int r9))) args s 0 0 (zb_A g)) (F0 m 94 ls []) := by
      intro H locs ls hP hS hl
      refine lv_iload hx hb dX7_needed_94 (lv_at hl 0 rfl) ?_
      cases hf
      exact zr_iret X hr hP hS dX7_needed_96
    exact lpX7_needed_L25 hnI l  X hx8_I9 K2 hP hS (lv_sub hl [0, 1, 2, 3, 4] rfl)
  · have hf := if_f he hf
    exact (thr_ne he hf).elim
set_option maxHeartbeats 4000000 in
set_option maxRecDepth 100000 in
theorem ct_X7_segments {g : zb_G} {nc : Nat} (hnI : 306 ≤ nc) (l : Launch) {I J O : Mem} {r9 : Int32} (hf : fX7_segments I = some r9) : zb_Ct l g nc yX7_segments cX7_segments 1 (some .int) 1 20 [.ref (g.2.2 + 0)] (zb_ce g I J O) (some (.int r9)) (zb_ce g I J O) := by
  refine zb_ofW (own := RX7) (by decide +kernel) rfl (Nat.le_of_ble_eq_true rfl) ?_
  intro p e s m args below meth c ls X hr hP hl
  have hx := X.1.1
  have hb := X.1.2.1
  have ho := X.1.2.2.2.1
  have hts := X.1.2.2.2.2
  have hZ := X.2.2.2
  have hl : lv_has ls 1 [(0, .ref (g.2.2 + 0))] := hl
  have hS : va_S (zb_A g) s.heap s.heap [] := va_S.rf
  obtain ⟨H, hH⟩ : ∃ H, H = s.heap := ⟨_, rfl⟩
  obtain ⟨locs, hlocs⟩ : ∃ z : List Loc, z = [] := ⟨_, rfl⟩
  rw [← hH] at hP
  have hS : va_S (zb_A g) s.heap H locs := by rw [hH, hlocs]; exact hS
  show W p l e _ s m args below meth c s.heap [] 0 0 _ _
  rw [← hH, ← hlocs]
  rw [fX7_segments] at hf
  refine lv_aload_n hx hb dX7_segments_0 rfl (lv_at hl 0 rfl) ?_
  refine gf_X7_10 X hnI hP zk_0 dX7_segments_1 ?_
  refine gf_X7_159 X hnI hP zk_1 dX7_segments_4 ?_
  refine gf_X7_163 X hnI hP zk_12 dX7_segments_7 ?_
  obtain ⟨x1, hx1, hf⟩ := ob_e hf
  refine zr_cSi (rest := []) (As := [.int (I 12 0)]) X hP hS (ct_J6_bitCount_0f7a4 (g := g) (nc := nc) (I := I) (J := J) (O := O)  l  hx1) cw_X7_154  rfl hl.1 (Nat.le_of_ble_eq_true rfl) ⟨Nat.le_of_ble_eq_true rfl, Nat.le_of_ble_eq_true rfl⟩ ⟨Nat.le_of_ble_eq_true rfl, Nat.le_of_ble_eq_true rfl⟩ dX7_segments_10 rfl (fun H locs hP hS => ?_)
  refine lv_iconst (v := (1 : Int32)) hx hb dX7_segments_13 (by decide) ?_
  refine lv_iadd hx hb dX7_segments_14 ?_
  cases hf
  exact zr_iret X hr hP hS dX7_segments_15
set_option maxHeartbeats 4000000 in
set_option maxRecDepth 100000 in
theorem lpX7_segmentOf_L9 {g : zb_G} {nc : Nat} (hnI : 306 ≤ nc) (l : Launch) {a1 : Int32} {J O : Mem} {p : Program} {e : Env} {s : State} {m : MethodId} {args : Array Value} {below : List Frame} {meth : Method} {c : Code} {Q : State → Prop} (X : zb_X g p m c cX7_segmentOf 4 s args RX7 meth) : ∀ {n9 : Nat} {a3 : Int32} {a2 : Int32} {I : Mem} {tq : Nat} {v9 : Int32} {z2 : Int32} {H : Heap} {locs : List Loc} {ls : Array Slot}, fX7_segmentOf_L9 a1 n9 a3 a2 I = some (tq, v9, z2) → (tq = 0 → ∀ (H : Heap) (locs : List Loc) (ls : Array Slot), va_P g.1 vwCl (zb_ws g nc (zb_ce g I J O)) H → va_S (zb_A g) s.heap H locs → lv_has ls 4 [(2, .int z2)] → W p l e { frames := 7, cells := 0, slots := 0, locals := 146 } s m args below meth c H locs 0 0 Q (F0 m 68 ls [])) → (tq = 1 → ∀ (H : Heap) (locs : List Loc) (ls : Array Slot) (pc : Nat), decode cX7_segmentOf pc = .ok (.ireturn, 1) → va_P g.1 vwCl (zb_ws g nc (zb_ce g I J O)) H → va_S (zb_A g) s.heap H locs → W p l e { frames := 7, cells := 0, slots := 0, locals := 146 } s m args below meth c H locs 0 0 Q (F0 m pc ls [.int v9])) → va_P g.1 vwCl (zb_ws g nc (zb_ce g I J O)) H → va_S (zb_A g) s.heap H locs → lv_has ls 4 [(3, .int a3), (2, .int a2), (0, .ref (g.2.2 + 0)), (1, .int a1)] → W p l e { frames := 7, cells := 0, slots := 0, locals := 146 } s m args below meth c H locs 0 0 Q (F0 m 9 ls []) := by
  have hx := X.1.1
  have hb := X.1.2.1
  have ho := X.1.2.2.2.1
  have hts := X.1.2.2.2.2
  have hZ := X.2.2.2
  intro n9
  induction n9 with
  | zero =>
    intro a3 a2 I tq v9 z2 H locs ls hf
    exact nomatch hf
  | succ n9 ih =>
    intro a3 a2 I tq v9 z2 H locs ls hf KK K1 hP hS hl
    rw [fX7_segmentOf_L9] at hf
    refine lv_iload_n hx hb dX7_segmentOf_9 rfl (lv_at hl 0 rfl) ?_
    refine lv_aload_n hx hb dX7_segmentOf_10 rfl (lv_at hl 2 rfl) ?_
    refine gf_X7_10 X hnI hP zk_0 dX7_segmentOf_11 ?_
    refine gf_X7_88 X hnI hP zk_1 dX7_segmentOf_14 ?_
    refine gf_X7_133 X hnI hP zk_2 dX7_segmentOf_17 ?_
    refine lv_icmp_ge (tgt := 68) hx hb dX7_segmentOf_20 (by decide) (fun hc => ?_) (fun hc => ?_)
    · have hf := if_t hc hf
      cases hf
      exact KK rfl H locs ls hP hS (lv_sub hl [1] rfl)
    · have hf := if_f hc hf
      refine lv_iload_n hx hb dX7_segmentOf_23 rfl (lv_at hl 1 rfl) ?_
      refine lv_iconst (v := (1 : Int32)) hx hb dX7_segmentOf_24 (by decide) ?_
      refine lv_iload_n hx hb dX7_segmentOf_25 rfl (lv_at hl 0 rfl) ?_
      refine lv_ishl hx hb dX7_segmentOf_26 ?_
      refine lv_ior hx hb dX7_segmentOf_27 ?_
      refine lv_istore_n (lv' := [(2, .int (a2 ||| ((1 : Int32) <<< (a3 &&& 31)))), (3, .int a3), (0, .ref (g.2.2 + 0)), (1, .int a1)]) hx hb dX7_segmentOf_28 rfl hl (by decide) rfl (fun ls hl => ?_)
      refine lv_aload_n hx hb dX7_segmentOf_29 rfl (lv_at hl 2 rfl) ?_
      refine gf_X7_10 X hnI hP zk_0 dX7_segmentOf_30 ?_
      refine lv_iload_n hx hb dX7_segmentOf_33 rfl (lv_at hl 1 rfl) ?_
      refine lv_aload_n hx hb dX7_segmentOf_34 rfl (lv_at hl 2 rfl) ?_
      refine gf_X7_10 X hnI hP zk_0 dX7_segmentOf_35 ?_
      refine gf_X7_159 X hnI hP zk_1 dX7_segmentOf_38 ?_
      refine gf_X7_163 X hnI hP zk_12 dX7_segmentOf_41 ?_
      obtain ⟨x2, hx2, hf⟩ := ob_e hf
      refine zr_cVi (rest := []) (As := [.int a3, .int (I 12 0)]) X hP hS (ct_X5_endsSegment (g := g) (nc := nc) (I := I) (J := J) (O := O) hnI l zb_isB1 hx2) cw_X7_308 (zr_recv X hP (Nat.lt_of_lt_of_le (zk_1).1 hnI) (zb_ceIo zk_1 (by decide)) rfl) rfl hl.1 (Nat.le_of_ble_eq_true rfl) ⟨Nat.le_of_ble_eq_true rfl, Nat.le_of_ble_eq_true rfl⟩ ⟨Nat.le_of_ble_eq_true rfl, Nat.le_of_ble_eq_true rfl⟩ dX7_segmentOf_44 rfl (fun H locs hP hS => ?_)
      refine lv_if_eq (tgt := 62) hx hb dX7_segmentOf_47 (by decide) (fun hc => ?_) (fun hc => ?_)
      · have hf := if_t hc hf
        refine lv_iinc (v := (a3 + (1 : Int32))) (lv' := [(3, .int (a3 + (1 : Int32))), (2, .int (a2 ||| ((1 : Int32) <<< (a3 &&& 31)))), (0, .ref (g.2.2 + 0)), (1, .int a1)]) hx hb dX7_segmentOf_62 hl (k := 1) rfl rfl (by decide) rfl (fun ls hl => ?_)
        refine lv_goto (tgt := 9) hx hb dX7_segmentOf_65 (by decide) ?_
        exact ih hf KK K1 hP hS (lv_sub hl [0, 1, 2, 3] rfl)
      · have hf := if_f hc hf
        refine lv_iload_n hx hb dX7_segmentOf_50 rfl (lv_at hl 0 rfl) ?_
        refine lv_iload_n hx hb dX7_segmentOf_51 rfl (lv_at hl 3 rfl) ?_
        obtain ⟨x3, hx3, hf⟩ := ob_e hf
        refine zr_cSi (rest := []) (As := [.int (a2 ||| ((1 : Int32) <<< (a3 &&& 31))), .int a1]) X hP hS (ct_X7_has (g := g) (nc := nc) (I := I) (J := J) (O := O)  l  hx3) cw_X7_215  rfl hl.1 (Nat.le_of_ble_eq_true rfl) ⟨Nat.le_of_ble_eq_true rfl, Nat.le_of_ble_eq_true rfl⟩ ⟨Nat.le_of_ble_eq_true rfl, Nat.le_of_ble_eq_true rfl⟩ dX7_segmentOf_52 rfl (fun H locs hP hS => ?_)
        refine lv_if_eq (tgt := 60) hx hb dX7_segmentOf_55 (by decide) (fun hc => ?_) (fun hc => ?_)
        · have hf := if_t hc hf
          refine lv_iconst (v := (0 : Int32)) hx hb dX7_segmentOf_60 (by decide) ?_
          refine lv_istore_n (lv' := [(2, .int (0 : Int32)), (3, .int a3), (0, .ref (g.2.2 + 0)), (1, .int a1)]) hx hb dX7_segmentOf_61 rfl hl (by decide) rfl (fun ls hl => ?_)
          refine lv_iinc (v := (a3 + (1 : Int32))) (lv' := [(3, .int (a3 + (1 : Int32))), (2, .int (0 : Int32)), (0, .ref (g.2.2 + 0)), (1, .int a1)]) hx hb dX7_segmentOf_62 hl (k := 1) rfl rfl (by decide) rfl (fun ls hl => ?_)
          refine lv_goto (tgt := 9) hx hb dX7_segmentOf_65 (by decide) ?_
          exact ih hf KK K1 hP hS (lv_sub hl [0, 1, 2, 3] rfl)
        · have hf := if_f hc hf
          refine lv_iload_n hx hb dX7_segmentOf_58 rfl (lv_at hl 0 rfl) ?_
          cases hf
          exact K1 rfl H locs ls 59 dX7_segmentOf_59 hP hS
set_option maxHeartbeats 4000000 in
set_option maxRecDepth 100000 in
theorem ct_X7_segmentOf {g : zb_G} {nc : Nat} (hnI : 306 ≤ nc) (l : Launch) {a1 : Int32} {I J O : Mem} {r9 : Int32} (hf : fX7_segmentOf a1 I = some (0, r9)) : zb_Ct l g nc yX7_segmentOf cX7_segmentOf 4 (some .int) 7 146 [.ref (g.2.2 + 0), .int a1] (zb_ce g I J O) (some (.int r9)) (zb_ce g I J O) := by
  refine zb_ofW (own := RX7) (by decide +kernel) rfl (Nat.le_of_ble_eq_true rfl) ?_
  intro p e s m args below meth c ls X hr hP hl
  have hx := X.1.1
  have hb := X.1.2.1
  have ho := X.1.2.2.2.1
  have hts := X.1.2.2.2.2
  have hZ := X.2.2.2
  have hl : lv_has ls 4 [(0, .ref (g.2.2 + 0)), (1, .int a1)] := hl
  have hS : va_S (zb_A g) s.heap s.heap [] := va_S.rf
  obtain ⟨H, hH⟩ : ∃ H, H = s.heap := ⟨_, rfl⟩
  obtain ⟨locs, hlocs⟩ : ∃ z : List Loc, z = [] := ⟨_, rfl⟩
  rw [← hH] at hP
  have hS : va_S (zb_A g) s.heap H locs := by rw [hH, hlocs]; exact hS
  show W p l e _ s m args below meth c s.heap [] 0 0 _ _
  rw [← hH, ← hlocs]
  rw [fX7_segmentOf] at hf
  refine lv_aload_n hx hb dX7_segmentOf_0 rfl (lv_at hl 0 rfl) ?_
  refine lv_iload_n hx hb dX7_segmentOf_1 rfl (lv_at hl 1 rfl) ?_
  obtain ⟨e1, he1, hf⟩ := ob_e hf
  rcases Classical.em (e1 = 0) with he | he
  · have hf := if_t he hf
    rw [he] at he1
    refine zr_cVv (rest := []) (As := [.int a1]) X hP hS (ct_X7_checkBuoy (g := g) (nc := nc) (I := I) (J := J) (O := O) hnI l  he1) cw_X7_185 (zr_recv X hP (Nat.lt_of_lt_of_le (zk_0).1 hnI) (zb_ceIo zk_0 (by decide)) rfl) rfl hl.1 (Nat.le_of_ble_eq_true rfl) ⟨Nat.le_of_ble_eq_true rfl, Nat.le_of_ble_eq_true rfl⟩ ⟨Nat.le_of_ble_eq_true rfl, Nat.le_of_ble_eq_true rfl⟩ dX7_segmentOf_2 rfl (fun H locs hP hS => ?_)
    refine lv_iconst (v := (0 : Int32)) hx hb dX7_segmentOf_5 (by decide) ?_
    refine lv_istore_n (lv' := [(2, .int (0 : Int32)), (0, .ref (g.2.2 + 0)), (1, .int a1)]) hx hb dX7_segmentOf_6 rfl hl (by decide) rfl (fun ls hl => ?_)
    refine lv_iconst (v := (0 : Int32)) hx hb dX7_segmentOf_7 (by decide) ?_
    refine lv_istore_n (lv' := [(3, .int (0 : Int32)), (2, .int (0 : Int32)), (0, .ref (g.2.2 + 0)), (1, .int a1)]) hx hb dX7_segmentOf_8 rfl hl (by decide) rfl (fun ls hl => ?_)
    obtain ⟨t4, x5, x6, ht4_x5_x6, hf⟩ := ob3_e hf
    have K1 : t4 = 0 → ∀ (H : Heap) (locs : List Loc) (ls : Array Slot), va_P g.1 vwCl (zb_ws g nc (zb_ce g I J O)) H → va_S (zb_A g) s.heap H locs → lv_has ls 4 [(2, .int x6)] → W p l e { frames := 7, cells := 0, slots := 0, locals := 146 } s m args below meth c H locs 0 0 (MQ below (zb_Po g nc (zb_ce g I J O) (some (.int r9))) args s 0 0 (zb_A g)) (F0 m 68 ls []) := by
      intro he H locs ls hP hS hl
      have hf := if_f (by rw [he]; decide) hf
      refine lv_iload_n hx hb dX7_segmentOf_68 rfl (lv_at hl 0 rfl) ?_
      cases hf
      exact zr_iret X hr hP hS dX7_segmentOf_69
    have K2 : t4 = 1 → ∀ (H : Heap) (locs : List Loc) (ls : Array Slot) (pc : Nat), decode cX7_segmentOf pc = .ok (.ireturn, 1) → va_P g.1 vwCl (zb_ws g nc (zb_ce g I J O)) H → va_S (zb_A g) s.heap H locs → W p l e { frames := 7, cells := 0, slots := 0, locals := 146 } s m args below meth c H locs 0 0 (MQ below (zb_Po g nc (zb_ce g I J O) (some (.int r9))) args s 0 0 (zb_A g)) (F0 m pc ls [.int x5]) := by
      intro he H locs ls pc hd hP hS
      have hf := if_t he hf
      cases hf
      exact zr_iret X hr hP hS hd
    exact lpX7_segmentOf_L9 hnI l  X ht4_x5_x6 K1 K2 hP hS (lv_sub hl [0, 1, 2, 3] rfl)
  · have hf := if_f he hf
    exact (thr_ne he hf).elim
set_option maxHeartbeats 4000000 in
set_option maxRecDepth 100000 in
theorem lpX7_weakest_L6 {g : zb_G} {nc : Nat} (hnI : 306 ≤ nc) (l : Launch) {J O : Mem} {p : Program} {e : Env} {s : State} {m : MethodId} {args : Array Value} {below : List Frame} {meth : Method} {c : Code} {Q : State → Prop} (X : zb_X g p m c cX7_weakest 5 s args RX7 meth) : ∀ {n9 : Nat} {a3 : Int32} {a2 : Int32} {a1 : Int32} {I : Mem} {z1 : Int32} {H : Heap} {locs : List Loc} {ls : Array Slot}, fX7_weakest_L6 n9 a3 a2 a1 I = some z1 → (∀ (H : Heap) (locs : List Loc) (ls : Array Slot), va_P g.1 vwCl (zb_ws g nc (zb_ce g I J O)) H → va_S (zb_A g) s.heap H locs → lv_has ls 5 [(1, .int z1)] → W p l e { frames := 1, cells := 0, slots := 0, locals := 21 } s m args below meth c H locs 0 0 Q (F0 m 88 ls [])) → va_P g.1 vwCl (zb_ws g nc (zb_ce g I J O)) H → va_S (zb_A g) s.heap H locs → lv_has ls 5 [(3, .int a3), (2, .int a2), (1, .int a1), (0, .ref (g.2.2 + 0))] → W p l e { frames := 1, cells := 0, slots := 0, locals := 21 } s m args below meth c H locs 0 0 Q (F0 m 6 ls []) := by
  have hx := X.1.1
  have hb := X.1.2.1
  have ho := X.1.2.2.2.1
  have hts := X.1.2.2.2.2
  have hZ := X.2.2.2
  intro n9
  induction n9 with
  | zero =>
    intro a3 a2 a1 I z1 H locs ls hf
    exact nomatch hf
  | succ n9 ih =>
    intro a3 a2 a1 I z1 H locs ls hf KK hP hS hl
    rw [fX7_weakest_L6] at hf
    refine lv_iload_n hx hb dX7_weakest_6 rfl (lv_at hl 0 rfl) ?_
    refine lv_aload_n hx hb dX7_weakest_7 rfl (lv_at hl 3 rfl) ?_
    refine gf_X7_10 X hnI hP zk_0 dX7_weakest_8 ?_
    refine gf_X7_88 X hnI hP zk_1 dX7_weakest_11 ?_
    refine gf_X7_133 X hnI hP zk_2 dX7_weakest_14 ?_
    refine lv_iconst (v := (1 : Int32)) hx hb dX7_weakest_17 (by decide) ?_
    refine lv_isub hx hb dX7_weakest_18 ?_
    refine lv_icmp_ge (tgt := 88) hx hb dX7_weakest_19 (by decide) (fun hc => ?_) (fun hc => ?_)
    · have hf := if_t hc hf
      cases hf
      exact KK H locs ls hP hS (lv_sub hl [2] rfl)
    · have hf := if_f hc hf
      refine lv_aload_n hx hb dX7_weakest_22 rfl (lv_at hl 3 rfl) ?_
      refine gf_X7_10 X hnI hP zk_0 dX7_weakest_23 ?_
      refine gf_X7_159 X hnI hP zk_1 dX7_weakest_26 ?_
      refine gf_X7_228 X hnI hP zk_12 dX7_weakest_29 ?_
      refine lv_iload_n hx hb dX7_weakest_32 rfl (lv_at hl 0 rfl) ?_
      obtain ⟨x1, hx1, hf⟩ := ob_e hf
      refine zr_aldI X hP hnI zk_13 hx1 dX7_weakest_33 ?_
      refine lv_aload_n hx hb dX7_weakest_34 rfl (lv_at hl 3 rfl) ?_
      refine gf_X7_10 X hnI hP zk_0 dX7_weakest_35 ?_
      refine gf_X7_159 X hnI hP zk_1 dX7_weakest_38 ?_
      refine gf_X7_231 X hnI hP zk_12 dX7_weakest_41 ?_
      refine lv_iload_n hx hb dX7_weakest_44 rfl (lv_at hl 0 rfl) ?_
      obtain ⟨x2, hx2, hf⟩ := ob_e hf
      refine zr_aldI X hP hnI zk_14 hx2 dX7_weakest_45 ?_
      refine lv_isub hx hb dX7_weakest_46 ?_
      refine lv_istore (lv' := [(4, .int (x1 - x2)), (3, .int a3), (2, .int a2), (1, .int a1), (0, .ref (g.2.2 + 0))]) hx hb dX7_weakest_47 hl (by decide) rfl (fun ls hl => ?_)
      refine lv_aload_n hx hb dX7_weakest_49 rfl (lv_at hl 4 rfl) ?_
      refine gf_X7_10 X hnI hP zk_0 dX7_weakest_50 ?_
      refine gf_X7_159 X hnI hP zk_1 dX7_weakest_53 ?_
      refine gf_X7_163 X hnI hP zk_12 dX7_weakest_56 ?_
      refine lv_iload_n hx hb dX7_weakest_59 rfl (lv_at hl 1 rfl) ?_
      obtain ⟨x3, hx3, hf⟩ := ob_e hf
      refine zr_cSi (rest := []) (As := [.int (I 12 0), .int a3]) X hP hS (ct_X7_has (g := g) (nc := nc) (I := I) (J := J) (O := O)  l  hx3) cw_X7_215  rfl hl.1 (Nat.le_of_ble_eq_true rfl) ⟨Nat.le_of_ble_eq_true rfl, Nat.le_of_ble_eq_true rfl⟩ ⟨Nat.le_of_ble_eq_true rfl, Nat.le_of_ble_eq_true rfl⟩ dX7_weakest_60 rfl (fun H locs hP hS => ?_)
      obtain ⟨x4, x5, ht, hf⟩ := pl2_e hf
      have K1 : ∀ (H : Heap) (locs : List Loc) (ls : Array Slot), va_P g.1 vwCl (zb_ws g nc (zb_ce g I J O)) H → va_S (zb_A g) s.heap H locs → lv_has ls 5 [(3, .int a3), (2, .int x4), (1, .int x5), (0, .ref (g.2.2 + 0))] → W p l e { frames := 1, cells := 0, slots := 0, locals := 21 } s m args below meth c H locs 0 0 Q (F0 m 82 ls []) := by
        intro H locs ls hP hS hl
        refine lv_iinc (v := (a3 + (1 : Int32))) (lv' := [(3, .int (a3 + (1 : Int32))), (2, .int x4), (1, .int x5), (0, .ref (g.2.2 + 0))]) hx hb dX7_weakest_82 hl (k := 0) rfl rfl (by decide) rfl (fun ls hl => ?_)
        refine lv_goto (tgt := 6) hx hb dX7_weakest_85 (by decide) ?_
        exact ih hf KK hP hS (lv_sub hl [0, 1, 2, 3] rfl)
      have hf := ht
      refine lv_if_ne (tgt := 82) hx hb dX7_weakest_63 (by decide) (fun hc => ?_) (fun hc => ?_)
      · have hf := if_f hc hf
        cases hf
        exact K1 H locs ls hP hS (lv_sub hl [1, 2, 3, 4] rfl)
      · have hf := if_t hc hf
        refine lv_iload_n hx hb dX7_weakest_66 rfl (lv_at hl 3 rfl) ?_
        refine lv_iconst (v := (-1 : Int32)) hx hb dX7_weakest_67 (by decide) ?_
        refine lv_icmp_eq (tgt := 77) hx hb dX7_weakest_68 (by decide) (fun hc => ?_) (fun hc => ?_)
        · have hf := if_t hc hf
          refine lv_iload_n hx hb dX7_weakest_77 rfl (lv_at hl 1 rfl) ?_
          refine lv_istore_n (lv' := [(1, .int a3), (4, .int (x1 - x2)), (3, .int a3), (2, .int a2), (0, .ref (g.2.2 + 0))]) hx hb dX7_weakest_78 rfl hl (by decide) rfl (fun ls hl => ?_)
          refine lv_iload hx hb dX7_weakest_79 (lv_at hl 1 rfl) ?_
          refine lv_istore_n (lv' := [(2, .int (x1 - x2)), (1, .int a3), (4, .int (x1 - x2)), (3, .int a3), (0, .ref (g.2.2 + 0))]) hx hb dX7_weakest_81 rfl hl (by decide) rfl (fun ls hl => ?_)
          cases hf
          exact K1 H locs ls hP hS (lv_sub hl [3, 0, 1, 4] rfl)
        · have hf := if_f hc hf
          refine lv_iload hx hb dX7_weakest_71 (lv_at hl 0 rfl) ?_
          refine lv_iload_n hx hb dX7_weakest_73 rfl (lv_at hl 2 rfl) ?_
          refine lv_icmp_ge (tgt := 82) hx hb dX7_weakest_74 (by decide) (fun hc => ?_) (fun hc => ?_)
          · have hf := if_t hc hf
            cases hf
            exact K1 H locs ls hP hS (lv_sub hl [1, 2, 3, 4] rfl)
          · have hf := if_f hc hf
            refine lv_iload_n hx hb dX7_weakest_77 rfl (lv_at hl 1 rfl) ?_
            refine lv_istore_n (lv' := [(1, .int a3), (4, .int (x1 - x2)), (3, .int a3), (2, .int a2), (0, .ref (g.2.2 + 0))]) hx hb dX7_weakest_78 rfl hl (by decide) rfl (fun ls hl => ?_)
            refine lv_iload hx hb dX7_weakest_79 (lv_at hl 1 rfl) ?_
            refine lv_istore_n (lv' := [(2, .int (x1 - x2)), (1, .int a3), (4, .int (x1 - x2)), (3, .int a3), (0, .ref (g.2.2 + 0))]) hx hb dX7_weakest_81 rfl hl (by decide) rfl (fun ls hl => ?_)
            cases hf
            exact K1 H locs ls hP hS (lv_sub hl [3, 0, 1, 4] rfl)
set_option maxHeartbeats 4000000 in
set_option maxRecDepth 100000 in
theorem ct_X7_weakest {g : zb_G} {nc : Nat} (hnI : 306 ≤ nc) (l : Launch) {I J O : Mem} {r9 : Int32} (hf : fX7_weakest I = some r9) : zb_Ct l g nc yX7_weakest cX7_weakest 5 (some .int) 1 21 [.ref (g.2.2 + 0)] (zb_ce g I J O) (some (.int r9)) (zb_ce g I J O) := by
  refine zb_ofW (own := RX7) (by decide +kernel) rfl (Nat.le_of_ble_eq_true rfl) ?_
  intro p e s m args below meth c ls X hr hP hl
  have hx := X.1.1
  have hb := X.1.2.1
  have ho := X.1.2.2.2.1
  have hts := X.1.2.2.2.2
  have hZ := X.2.2.2
  have hl : lv_has ls 5 [(0, .ref (g.2.2 + 0))] := hl
  have hS : va_S (zb_A g) s.heap s.heap [] := va_S.rf
  obtain ⟨H, hH⟩ : ∃ H, H = s.heap := ⟨_, rfl⟩
  obtain ⟨locs, hlocs⟩ : ∃ z : List Loc, z = [] := ⟨_, rfl⟩
  rw [← hH] at hP
  have hS : va_S (zb_A g) s.heap H locs := by rw [hH, hlocs]; exact hS
  show W p l e _ s m args below meth c s.heap [] 0 0 _ _
  rw [← hH, ← hlocs]
  rw [fX7_weakest] at hf
  refine lv_iconst (v := (-1 : Int32)) hx hb dX7_weakest_0 (by decide) ?_
  refine lv_istore_n (lv' := [(1, .int (-1 : Int32)), (0, .ref (g.2.2 + 0))]) hx hb dX7_weakest_1 rfl hl (by decide) rfl (fun ls hl => ?_)
  refine lv_iconst (v := (0 : Int32)) hx hb dX7_weakest_2 (by decide) ?_
  refine lv_istore_n (lv' := [(2, .int (0 : Int32)), (1, .int (-1 : Int32)), (0, .ref (g.2.2 + 0))]) hx hb dX7_weakest_3 rfl hl (by decide) rfl (fun ls hl => ?_)
  refine lv_iconst (v := (0 : Int32)) hx hb dX7_weakest_4 (by decide) ?_
  refine lv_istore_n (lv' := [(3, .int (0 : Int32)), (2, .int (0 : Int32)), (1, .int (-1 : Int32)), (0, .ref (g.2.2 + 0))]) hx hb dX7_weakest_5 rfl hl (by decide) rfl (fun ls hl => ?_)
  obtain ⟨x6, hx6, hf⟩ := ob_e hf
  have K2 : ∀ (H : Heap) (locs : List Loc) (ls : Array Slot), va_P g.1 vwCl (zb_ws g nc (zb_ce g I J O)) H → va_S (zb_A g) s.heap H locs → lv_has ls 5 [(1, .int x6)] → W p l e { frames := 1, cells := 0, slots := 0, locals := 21 } s m args below meth c H locs 0 0 (MQ below (zb_Po g nc (zb_ce g I J O) (some (.int r9))) args s 0 0 (zb_A g)) (F0 m 88 ls []) := by
    intro H locs ls hP hS hl
    refine lv_iload_n hx hb dX7_weakest_88 rfl (lv_at hl 0 rfl) ?_
    cases hf
    exact zr_iret X hr hP hS dX7_weakest_89
  exact lpX7_weakest_L6 hnI l  X hx6 K2 hP hS (lv_sub hl [0, 1, 2, 3] rfl)
set_option maxHeartbeats 4000000 in
set_option maxRecDepth 100000 in
theorem ct_X7_wouldBreak {g : zb_G} {nc : Nat} (hnI : 306 ≤ nc) (l : Launch) {a1 : Int32} {a2 : Int32} {a3 : Int32} {I J O : Mem} {r9 : Int32} (hf : fX7_wouldBreak a1 a2 a3 I = some (0, r9)) : zb_Ct l g nc yX7_wouldBreak cX7_wouldBreak 4 (some .int) 8 169 [.ref (g.2.2 + 0), .int a1, .int a2, .int a3] (zb_ce g I J O) (some (.int r9)) (zb_ce g I J O) := by
  refine zb_ofW (own := RX7) (by decide +kernel) rfl (Nat.le_of_ble_eq_true rfl) ?_
  intro p e s m args below meth c ls X hr hP hl
  have hx := X.1.1
  have hb := X.1.2.1
  have ho := X.1.2.2.2.1
  have hts := X.1.2.2.2.2
  have hZ := X.2.2.2
  have hl : lv_has ls 4 [(0, .ref (g.2.2 + 0)), (1, .int a1), (2, .int a2), (3, .int a3)] := hl
  have hS : va_S (zb_A g) s.heap s.heap [] := va_S.rf
  obtain ⟨H, hH⟩ : ∃ H, H = s.heap := ⟨_, rfl⟩
  obtain ⟨locs, hlocs⟩ : ∃ z : List Loc, z = [] := ⟨_, rfl⟩
  rw [← hH] at hP
  have hS : va_S (zb_A g) s.heap H locs := by rw [hH, hlocs]; exact hS
  show W p l e _ s m args below meth c s.heap [] 0 0 _ _
  rw [← hH, ← hlocs]
  rw [fX7_wouldBreak] at hf
  refine lv_aload_n hx hb dX7_wouldBreak_0 rfl (lv_at hl 0 rfl) ?_
  refine lv_iload_n hx hb dX7_wouldBreak_1 rfl (lv_at hl 1 rfl) ?_
  refine lv_iload_n hx hb dX7_wouldBreak_2 rfl (lv_at hl 2 rfl) ?_
  refine lv_iload_n hx hb dX7_wouldBreak_3 rfl (lv_at hl 3 rfl) ?_
  obtain ⟨e1, he1, hf⟩ := ob_e hf
  rcases Classical.em (e1 = 0) with he | he
  · have hf := if_t he hf
    rw [he] at he1
    refine zr_cVv (rest := []) (As := [.int a1, .int a2, .int a3]) X hP hS (ct_X7_checkStorm (g := g) (nc := nc) (I := I) (J := J) (O := O) hnI l  he1) cw_X7_311 (zr_recv X hP (Nat.lt_of_lt_of_le (zk_0).1 hnI) (zb_ceIo zk_0 (by decide)) rfl) rfl hl.1 (Nat.le_of_ble_eq_true rfl) ⟨Nat.le_of_ble_eq_true rfl, Nat.le_of_ble_eq_true rfl⟩ ⟨Nat.le_of_ble_eq_true rfl, Nat.le_of_ble_eq_true rfl⟩ dX7_wouldBreak_4 rfl (fun H locs hP hS => ?_)
    refine lv_aload_n hx hb dX7_wouldBreak_7 rfl (lv_at hl 0 rfl) ?_
    refine gf_X7_10 X hnI hP zk_0 dX7_wouldBreak_8 ?_
    refine lv_iload_n hx hb dX7_wouldBreak_11 rfl (lv_at hl 1 rfl) ?_
    refine lv_iload_n hx hb dX7_wouldBreak_12 rfl (lv_at hl 2 rfl) ?_
    refine lv_iload_n hx hb dX7_wouldBreak_13 rfl (lv_at hl 3 rfl) ?_
    obtain ⟨x2, hx2, hf⟩ := ob_e hf
    refine zr_cVi (rest := []) (As := [.int a1, .int a2, .int a3]) X hP hS (ct_X5_breaking (g := g) (nc := nc) (I := I) (J := J) (O := O) hnI l zb_isB1 hx2) cw_X7_315 (zr_recv X hP (Nat.lt_of_lt_of_le (zk_1).1 hnI) (zb_ceIo zk_1 (by decide)) rfl) rfl hl.1 (Nat.le_of_ble_eq_true rfl) ⟨Nat.le_of_ble_eq_true rfl, Nat.le_of_ble_eq_true rfl⟩ ⟨Nat.le_of_ble_eq_true rfl, Nat.le_of_ble_eq_true rfl⟩ dX7_wouldBreak_14 rfl (fun H locs hP hS => ?_)
    cases hf
    exact zr_iret X hr hP hS dX7_wouldBreak_17
  · have hf := if_f he hf
    exact (thr_ne he hf).elim
set_option maxHeartbeats 4000000 in
set_option maxRecDepth 100000 in
theorem ct_X7_wouldDrift {g : zb_G} {nc : Nat} (hnI : 306 ≤ nc) (l : Launch) {a1 : Int32} {a2 : Int32} {a3 : Int32} {I J O : Mem} {r9 : Int32} (hf : fX7_wouldDrift a1 a2 a3 I = some (0, r9)) : zb_Ct l g nc yX7_wouldDrift cX7_wouldDrift 4 (some .int) 8 169 [.ref (g.2.2 + 0), .int a1, .int a2, .int a3] (zb_ce g I J O) (some (.int r9)) (zb_ce g I J O) := by
  refine zb_ofW (own := RX7) (by decide +kernel) rfl (Nat.le_of_ble_eq_true rfl) ?_
  intro p e s m args below meth c ls X hr hP hl
  have hx := X.1.1
  have hb := X.1.2.1
  have ho := X.1.2.2.2.1
  have hts := X.1.2.2.2.2
  have hZ := X.2.2.2
  have hl : lv_has ls 4 [(0, .ref (g.2.2 + 0)), (1, .int a1), (2, .int a2), (3, .int a3)] := hl
  have hS : va_S (zb_A g) s.heap s.heap [] := va_S.rf
  obtain ⟨H, hH⟩ : ∃ H, H = s.heap := ⟨_, rfl⟩
  obtain ⟨locs, hlocs⟩ : ∃ z : List Loc, z = [] := ⟨_, rfl⟩
  rw [← hH] at hP
  have hS : va_S (zb_A g) s.heap H locs := by rw [hH, hlocs]; exact hS
  show W p l e _ s m args below meth c s.heap [] 0 0 _ _
  rw [← hH, ← hlocs]
  rw [fX7_wouldDrift] at hf
  refine lv_aload_n hx hb dX7_wouldDrift_0 rfl (lv_at hl 0 rfl) ?_
  refine lv_iload_n hx hb dX7_wouldDrift_1 rfl (lv_at hl 1 rfl) ?_
  refine lv_iload_n hx hb dX7_wouldDrift_2 rfl (lv_at hl 2 rfl) ?_
  refine lv_iload_n hx hb dX7_wouldDrift_3 rfl (lv_at hl 3 rfl) ?_
  obtain ⟨e1, he1, hf⟩ := ob_e hf
  rcases Classical.em (e1 = 0) with he | he
  · have hf := if_t he hf
    rw [he] at he1
    refine zr_cVv (rest := []) (As := [.int a1, .int a2, .int a3]) X hP hS (ct_X7_checkStorm (g := g) (nc := nc) (I := I) (J := J) (O := O) hnI l  he1) cw_X7_311 (zr_recv X hP (Nat.lt_of_lt_of_le (zk_0).1 hnI) (zb_ceIo zk_0 (by decide)) rfl) rfl hl.1 (Nat.le_of_ble_eq_true rfl) ⟨Nat.le_of_ble_eq_true rfl, Nat.le_of_ble_eq_true rfl⟩ ⟨Nat.le_of_ble_eq_true rfl, Nat.le_of_ble_eq_true rfl⟩ dX7_wouldDrift_4 rfl (fun H locs hP hS => ?_)
    refine lv_aload_n hx hb dX7_wouldDrift_7 rfl (lv_at hl 0 rfl) ?_
    refine gf_X7_10 X hnI hP zk_0 dX7_wouldDrift_8 ?_
    refine lv_iload_n hx hb dX7_wouldDrift_11 rfl (lv_at hl 1 rfl) ?_
    refine lv_iload_n hx hb dX7_wouldDrift_12 rfl (lv_at hl 2 rfl) ?_
    refine lv_iload_n hx hb dX7_wouldDrift_13 rfl (lv_at hl 3 rfl) ?_
    obtain ⟨x2, hx2, hf⟩ := ob_e hf
    refine zr_cVi (rest := []) (As := [.int a1, .int a2, .int a3]) X hP hS (ct_X5_drifting (g := g) (nc := nc) (I := I) (J := J) (O := O) hnI l zb_isB1 hx2) cw_X7_319 (zr_recv X hP (Nat.lt_of_lt_of_le (zk_1).1 hnI) (zb_ceIo zk_1 (by decide)) rfl) rfl hl.1 (Nat.le_of_ble_eq_true rfl) ⟨Nat.le_of_ble_eq_true rfl, Nat.le_of_ble_eq_true rfl⟩ ⟨Nat.le_of_ble_eq_true rfl, Nat.le_of_ble_eq_true rfl⟩ dX7_wouldDrift_14 rfl (fun H locs hP hS => ?_)
    cases hf
    exact zr_iret X hr hP hS dX7_wouldDrift_17
  · have hf := if_f he hf
    exact (thr_ne he hf).elim
set_option maxHeartbeats 4000000 in
set_option maxRecDepth 100000 in
theorem lpX7_leastStorm_L2 {g : zb_G} {nc : Nat} (hnI : 306 ≤ nc) (l : Launch) {J O : Mem} {p : Program} {e : Env} {s : State} {m : MethodId} {args : Array Value} {below : List Frame} {meth : Method} {c : Code} {Q : State → Prop} (X : zb_X g p m c cX7_leastStorm 2 s args RX7 meth) : ∀ {n9 : Nat} {a1 : Int32} {I : Mem} {tq : Nat} {v9 : Int32} {H : Heap} {locs : List Loc} {ls : Array Slot}, fX7_leastStorm_L2 n9 a1 I = some (tq, v9) → (tq = 0 → ∀ (H : Heap) (locs : List Loc) (ls : Array Slot), va_P g.1 vwCl (zb_ws g nc (zb_ce g I J O)) H → va_S (zb_A g) s.heap H locs → lv_has ls 2 [] → W p l e { frames := 3, cells := 0, slots := 0, locals := 76 } s m args below meth c H locs 0 0 Q (F0 m 40 ls [])) → (tq = 1 → ∀ (H : Heap) (locs : List Loc) (ls : Array Slot) (pc : Nat), decode cX7_leastStorm pc = .ok (.ireturn, 1) → va_P g.1 vwCl (zb_ws g nc (zb_ce g I J O)) H → va_S (zb_A g) s.heap H locs → W p l e { frames := 3, cells := 0, slots := 0, locals := 76 } s m args below meth c H locs 0 0 Q (F0 m pc ls [.int v9])) → va_P g.1 vwCl (zb_ws g nc (zb_ce g I J O)) H → va_S (zb_A g) s.heap H locs → lv_has ls 2 [(1, .int a1), (0, .ref (g.2.2 + 0))] → W p l e { frames := 3, cells := 0, slots := 0, locals := 76 } s m args below meth c H locs 0 0 Q (F0 m 2 ls []) := by
  have hx := X.1.1
  have hb := X.1.2.1
  have ho := X.1.2.2.2.1
  have hts := X.1.2.2.2.2
  have hZ := X.2.2.2
  intro n9
  induction n9 with
  | zero =>
    intro a1 I tq v9 H locs ls hf
    exact nomatch hf
  | succ n9 ih =>
    intro a1 I tq v9 H locs ls hf KK K1 hP hS hl
    rw [fX7_leastStorm_L2] at hf
    refine lv_iload_n hx hb dX7_leastStorm_2 rfl (lv_at hl 0 rfl) ?_
    refine lv_bipush (v := (99 : Int32)) hx hb dX7_leastStorm_3 (by decide) ?_
    refine lv_icmp_gt (tgt := 40) hx hb dX7_leastStorm_5 (by decide) (fun hc => ?_) (fun hc => ?_)
    · have hf := if_t hc hf
      cases hf
      exact KK rfl H locs ls hP hS (lv_sub hl [] rfl)
    · have hf := if_f hc hf
      refine lv_aload_n hx hb dX7_leastStorm_8 rfl (lv_at hl 1 rfl) ?_
      refine gf_X7_10 X hnI hP zk_0 dX7_leastStorm_9 ?_
      refine lv_iload_n hx hb dX7_leastStorm_12 rfl (lv_at hl 0 rfl) ?_
      refine lv_iconst (v := (0 : Int32)) hx hb dX7_leastStorm_13 (by decide) ?_
      refine lv_aload_n hx hb dX7_leastStorm_14 rfl (lv_at hl 1 rfl) ?_
      refine gf_X7_10 X hnI hP zk_0 dX7_leastStorm_15 ?_
      refine gf_X7_88 X hnI hP zk_1 dX7_leastStorm_18 ?_
      refine gf_X7_133 X hnI hP zk_2 dX7_leastStorm_21 ?_
      refine lv_iconst (v := (1 : Int32)) hx hb dX7_leastStorm_24 (by decide) ?_
      refine lv_isub hx hb dX7_leastStorm_25 ?_
      obtain ⟨x1, hx1, hf⟩ := ob_e hf
      refine zr_cVi (rest := []) (As := [.int a1, .int (0 : Int32), .int ((I 2 0) - (1 : Int32))]) X hP hS (ct_X5_drifting (g := g) (nc := nc) (I := I) (J := J) (O := O) hnI l zb_isB1 hx1) cw_X7_319 (zr_recv X hP (Nat.lt_of_lt_of_le (zk_1).1 hnI) (zb_ceIo zk_1 (by decide)) rfl) rfl hl.1 (Nat.le_of_ble_eq_true rfl) ⟨Nat.le_of_ble_eq_true rfl, Nat.le_of_ble_eq_true rfl⟩ ⟨Nat.le_of_ble_eq_true rfl, Nat.le_of_ble_eq_true rfl⟩ dX7_leastStorm_26 rfl (fun H locs hP hS => ?_)
      refine lv_if_eq (tgt := 34) hx hb dX7_leastStorm_29 (by decide) (fun hc => ?_) (fun hc => ?_)
      · have hf := if_t hc hf
        refine lv_iinc (v := (a1 + (1 : Int32))) (lv' := [(1, .int (a1 + (1 : Int32))), (0, .ref (g.2.2 + 0))]) hx hb dX7_leastStorm_34 hl (k := 0) rfl rfl (by decide) rfl (fun ls hl => ?_)
        refine lv_goto (tgt := 2) hx hb dX7_leastStorm_37 (by decide) ?_
        exact ih hf KK K1 hP hS (lv_sub hl [0, 1] rfl)
      · have hf := if_f hc hf
        refine lv_iload_n hx hb dX7_leastStorm_32 rfl (lv_at hl 0 rfl) ?_
        cases hf
        exact K1 rfl H locs ls 33 dX7_leastStorm_33 hP hS
set_option maxHeartbeats 4000000 in
set_option maxRecDepth 100000 in
theorem ct_X7_leastStorm {g : zb_G} {nc : Nat} (hnI : 306 ≤ nc) (l : Launch) {I J O : Mem} {r9 : Int32} (hf : fX7_leastStorm I = some r9) : zb_Ct l g nc yX7_leastStorm cX7_leastStorm 2 (some .int) 3 76 [.ref (g.2.2 + 0)] (zb_ce g I J O) (some (.int r9)) (zb_ce g I J O) := by
  refine zb_ofW (own := RX7) (by decide +kernel) rfl (Nat.le_of_ble_eq_true rfl) ?_
  intro p e s m args below meth c ls X hr hP hl
  have hx := X.1.1
  have hb := X.1.2.1
  have ho := X.1.2.2.2.1
  have hts := X.1.2.2.2.2
  have hZ := X.2.2.2
  have hl : lv_has ls 2 [(0, .ref (g.2.2 + 0))] := hl
  have hS : va_S (zb_A g) s.heap s.heap [] := va_S.rf
  obtain ⟨H, hH⟩ : ∃ H, H = s.heap := ⟨_, rfl⟩
  obtain ⟨locs, hlocs⟩ : ∃ z : List Loc, z = [] := ⟨_, rfl⟩
  rw [← hH] at hP
  have hS : va_S (zb_A g) s.heap H locs := by rw [hH, hlocs]; exact hS
  show W p l e _ s m args below meth c s.heap [] 0 0 _ _
  rw [← hH, ← hlocs]
  rw [fX7_leastStorm] at hf
  refine lv_iconst (v := (1 : Int32)) hx hb dX7_leastStorm_0 (by decide) ?_
  refine lv_istore_n (lv' := [(1, .int (1 : Int32)), (0, .ref (g.2.2 + 0))]) hx hb dX7_leastStorm_1 rfl hl (by decide) rfl (fun ls hl => ?_)
  obtain ⟨t2, x3, ht2_x3, hf⟩ := ob2_e hf
  have K1 : t2 = 0 → ∀ (H : Heap) (locs : List Loc) (ls : Array Slot), va_P g.1 vwCl (zb_ws g nc (zb_ce g I J O)) H → va_S (zb_A g) s.heap H locs → lv_has ls 2 [] → W p l e { frames := 3, cells := 0, slots := 0, locals := 76 } s m args below meth c H locs 0 0 (MQ below (zb_Po g nc (zb_ce g I J O) (some (.int r9))) args s 0 0 (zb_A g)) (F0 m 40 ls []) := by
    intro he H locs ls hP hS hl
    have hf := if_f (by rw [he]; decide) hf
    refine lv_iconst (v := (-1 : Int32)) hx hb dX7_leastStorm_40 (by decide) ?_
    cases hf
    exact zr_iret X hr hP hS dX7_leastStorm_41
  have K2 : t2 = 1 → ∀ (H : Heap) (locs : List Loc) (ls : Array Slot) (pc : Nat), decode cX7_leastStorm pc = .ok (.ireturn, 1) → va_P g.1 vwCl (zb_ws g nc (zb_ce g I J O)) H → va_S (zb_A g) s.heap H locs → W p l e { frames := 3, cells := 0, slots := 0, locals := 76 } s m args below meth c H locs 0 0 (MQ below (zb_Po g nc (zb_ce g I J O) (some (.int r9))) args s 0 0 (zb_A g)) (F0 m pc ls [.int x3]) := by
    intro he H locs ls pc hd hP hS
    have hf := if_t he hf
    cases hf
    exact zr_iret X hr hP hS hd
  exact lpX7_leastStorm_L2 hnI l  X ht2_x3 K1 K2 hP hS (lv_sub hl [0, 1] rfl)
set_option maxHeartbeats 4000000 in
set_option maxRecDepth 100000 in
theorem ct_X7_lacks {g : zb_G} {nc : Nat} (hnI : 306 ≤ nc) (l : Launch) {a1 : Int32} {I J O : Mem} {r9 : Int32} (hf : fX7_lacks a1 I = some (0, r9)) : zb_Ct l g nc yX7_lacks cX7_lacks 2 (some .int) 7 146 [.ref (g.2.2 + 0), .int a1] (zb_ce g I J O) (some (.int r9)) (zb_ce g I J O) := by
  refine zb_ofW (own := RX7) (by decide +kernel) rfl (Nat.le_of_ble_eq_true rfl) ?_
  intro p e s m args below meth c ls X hr hP hl
  have hx := X.1.1
  have hb := X.1.2.1
  have ho := X.1.2.2.2.1
  have hts := X.1.2.2.2.2
  have hZ := X.2.2.2
  have hl : lv_has ls 2 [(0, .ref (g.2.2 + 0)), (1, .int a1)] := hl
  have hS : va_S (zb_A g) s.heap s.heap [] := va_S.rf
  obtain ⟨H, hH⟩ : ∃ H, H = s.heap := ⟨_, rfl⟩
  obtain ⟨locs, hlocs⟩ : ∃ z : List Loc, z = [] := ⟨_, rfl⟩
  rw [← hH] at hP
  have hS : va_S (zb_A g) s.heap H locs := by rw [hH, hlocs]; exact hS
  show W p l e _ s m args below meth c s.heap [] 0 0 _ _
  rw [← hH, ← hlocs]
  rw [fX7_lacks] at hf
  refine lv_aload_n hx hb dX7_lacks_0 rfl (lv_at hl 0 rfl) ?_
  refine lv_iload_n hx hb dX7_lacks_1 rfl (lv_at hl 1 rfl) ?_
  obtain ⟨e1, he1, hf⟩ := ob_e hf
  rcases Classical.em (e1 = 0) with he | he
  · have hf := if_t he hf
    rw [he] at he1
    refine zr_cVv (rest := []) (As := [.int a1]) X hP hS (ct_X7_checkForce (g := g) (nc := nc) (I := I) (J := J) (O := O)  l  he1) cw_X7_322 (zr_recv X hP (Nat.lt_of_lt_of_le (zk_0).1 hnI) (zb_ceIo zk_0 (by decide)) rfl) rfl hl.1 (Nat.le_of_ble_eq_true rfl) ⟨Nat.le_of_ble_eq_true rfl, Nat.le_of_ble_eq_true rfl⟩ ⟨Nat.le_of_ble_eq_true rfl, Nat.le_of_ble_eq_true rfl⟩ dX7_lacks_2 rfl (fun H locs hP hS => ?_)
    refine lv_aload_n hx hb dX7_lacks_5 rfl (lv_at hl 0 rfl) ?_
    refine gf_X7_10 X hnI hP zk_0 dX7_lacks_6 ?_
    refine lv_iload_n hx hb dX7_lacks_9 rfl (lv_at hl 1 rfl) ?_
    refine lv_aload_n hx hb dX7_lacks_10 rfl (lv_at hl 0 rfl) ?_
    refine gf_X7_10 X hnI hP zk_0 dX7_lacks_11 ?_
    refine gf_X7_159 X hnI hP zk_1 dX7_lacks_14 ?_
    refine gf_X7_163 X hnI hP zk_12 dX7_lacks_17 ?_
    obtain ⟨x2, hx2, hf⟩ := ob_e hf
    refine zr_cVi (rest := []) (As := [.int a1, .int (I 12 0)]) X hP hS (ct_X5_lacking (g := g) (nc := nc) (I := I) (J := J) (O := O) hnI l zb_isB1 hx2) cw_X7_325 (zr_recv X hP (Nat.lt_of_lt_of_le (zk_1).1 hnI) (zb_ceIo zk_1 (by decide)) rfl) rfl hl.1 (Nat.le_of_ble_eq_true rfl) ⟨Nat.le_of_ble_eq_true rfl, Nat.le_of_ble_eq_true rfl⟩ ⟨Nat.le_of_ble_eq_true rfl, Nat.le_of_ble_eq_true rfl⟩ dX7_lacks_20 rfl (fun H locs hP hS => ?_)
    cases hf
    exact zr_iret X hr hP hS dX7_lacks_23
  · have hf := if_f he hf
    exact (thr_ne he hf).elim
set_option maxHeartbeats 4000000 in
set_option maxRecDepth 100000 in
theorem ct_X7_plan {g : zb_G} {nc : Nat} (hnI : 306 ≤ nc) (l : Launch) {a1 : Int32} {I J O : Mem} {r9 : Int32} (hf : fX7_plan a1 I = some (0, r9)) : zb_Ct l g nc yX7_plan cX7_plan 2 (some .int) 7 146 [.ref (g.2.2 + 0), .int a1] (zb_ce g I J O) (some (.int r9)) (zb_ce g I J O) := by
  refine zb_ofW (own := RX7) (by decide +kernel) rfl (Nat.le_of_ble_eq_true rfl) ?_
  intro p e s m args below meth c ls X hr hP hl
  have hx := X.1.1
  have hb := X.1.2.1
  have ho := X.1.2.2.2.1
  have hts := X.1.2.2.2.2
  have hZ := X.2.2.2
  have hl : lv_has ls 2 [(0, .ref (g.2.2 + 0)), (1, .int a1)] := hl
  have hS : va_S (zb_A g) s.heap s.heap [] := va_S.rf
  obtain ⟨H, hH⟩ : ∃ H, H = s.heap := ⟨_, rfl⟩
  obtain ⟨locs, hlocs⟩ : ∃ z : List Loc, z = [] := ⟨_, rfl⟩
  rw [← hH] at hP
  have hS : va_S (zb_A g) s.heap H locs := by rw [hH, hlocs]; exact hS
  show W p l e _ s m args below meth c s.heap [] 0 0 _ _
  rw [← hH, ← hlocs]
  rw [fX7_plan] at hf
  refine lv_aload_n hx hb dX7_plan_0 rfl (lv_at hl 0 rfl) ?_
  refine lv_iload_n hx hb dX7_plan_1 rfl (lv_at hl 1 rfl) ?_
  obtain ⟨e1, he1, hf⟩ := ob_e hf
  rcases Classical.em (e1 = 0) with he | he
  · have hf := if_t he hf
    rw [he] at he1
    refine zr_cVv (rest := []) (As := [.int a1]) X hP hS (ct_X7_checkForce (g := g) (nc := nc) (I := I) (J := J) (O := O)  l  he1) cw_X7_322 (zr_recv X hP (Nat.lt_of_lt_of_le (zk_0).1 hnI) (zb_ceIo zk_0 (by decide)) rfl) rfl hl.1 (Nat.le_of_ble_eq_true rfl) ⟨Nat.le_of_ble_eq_true rfl, Nat.le_of_ble_eq_true rfl⟩ ⟨Nat.le_of_ble_eq_true rfl, Nat.le_of_ble_eq_true rfl⟩ dX7_plan_2 rfl (fun H locs hP hS => ?_)
    refine lv_aload_n hx hb dX7_plan_5 rfl (lv_at hl 0 rfl) ?_
    refine gf_X7_10 X hnI hP zk_0 dX7_plan_6 ?_
    refine lv_iload_n hx hb dX7_plan_9 rfl (lv_at hl 1 rfl) ?_
    obtain ⟨x2, hx2, hf⟩ := ob_e hf
    refine zr_cVi (rest := []) (As := [.int a1]) X hP hS (ct_X5_planFor (g := g) (nc := nc) (I := I) (J := J) (O := O) hnI l zb_isB1 hx2) cw_X7_329 (zr_recv X hP (Nat.lt_of_lt_of_le (zk_1).1 hnI) (zb_ceIo zk_1 (by decide)) rfl) rfl hl.1 (Nat.le_of_ble_eq_true rfl) ⟨Nat.le_of_ble_eq_true rfl, Nat.le_of_ble_eq_true rfl⟩ ⟨Nat.le_of_ble_eq_true rfl, Nat.le_of_ble_eq_true rfl⟩ dX7_plan_10 rfl (fun H locs hP hS => ?_)
    cases hf
    exact zr_iret X hr hP hS dX7_plan_13
  · have hf := if_f he hf
    exact (thr_ne he hf).elim
set_option maxHeartbeats 4000000 in
set_option maxRecDepth 100000 in
theorem ct_X7_planLength {g : zb_G} {nc : Nat} (hnI : 306 ≤ nc) (l : Launch) {a1 : Int32} {I J O : Mem} {r9 : Int32} (hf : fX7_planLength a1 I = some (0, r9)) : zb_Ct l g nc yX7_planLength cX7_planLength 3 (some .int) 7 146 [.ref (g.2.2 + 0), .int a1] (zb_ce g I J O) (some (.int r9)) (zb_ce g I J O) := by
  refine zb_ofW (own := RX7) (by decide +kernel) rfl (Nat.le_of_ble_eq_true rfl) ?_
  intro p e s m args below meth c ls X hr hP hl
  have hx := X.1.1
  have hb := X.1.2.1
  have ho := X.1.2.2.2.1
  have hts := X.1.2.2.2.2
  have hZ := X.2.2.2
  have hl : lv_has ls 3 [(0, .ref (g.2.2 + 0)), (1, .int a1)] := hl
  have hS : va_S (zb_A g) s.heap s.heap [] := va_S.rf
  obtain ⟨H, hH⟩ : ∃ H, H = s.heap := ⟨_, rfl⟩
  obtain ⟨locs, hlocs⟩ : ∃ z : List Loc, z = [] := ⟨_, rfl⟩
  rw [← hH] at hP
  have hS : va_S (zb_A g) s.heap H locs := by rw [hH, hlocs]; exact hS
  show W p l e _ s m args below meth c s.heap [] 0 0 _ _
  rw [← hH, ← hlocs]
  rw [fX7_planLength] at hf
  refine lv_aload_n hx hb dX7_planLength_0 rfl (lv_at hl 0 rfl) ?_
  refine lv_iload_n hx hb dX7_planLength_1 rfl (lv_at hl 1 rfl) ?_
  obtain ⟨e1, he1, hf⟩ := ob_e hf
  rcases Classical.em (e1 = 0) with he | he
  · have hf := if_t he hf
    rw [he] at he1
    refine zr_cVv (rest := []) (As := [.int a1]) X hP hS (ct_X7_checkForce (g := g) (nc := nc) (I := I) (J := J) (O := O)  l  he1) cw_X7_322 (zr_recv X hP (Nat.lt_of_lt_of_le (zk_0).1 hnI) (zb_ceIo zk_0 (by decide)) rfl) rfl hl.1 (Nat.le_of_ble_eq_true rfl) ⟨Nat.le_of_ble_eq_true rfl, Nat.le_of_ble_eq_true rfl⟩ ⟨Nat.le_of_ble_eq_true rfl, Nat.le_of_ble_eq_true rfl⟩ dX7_planLength_2 rfl (fun H locs hP hS => ?_)
    refine lv_aload_n hx hb dX7_planLength_5 rfl (lv_at hl 0 rfl) ?_
    refine gf_X7_10 X hnI hP zk_0 dX7_planLength_6 ?_
    refine lv_iload_n hx hb dX7_planLength_9 rfl (lv_at hl 1 rfl) ?_
    obtain ⟨x2, hx2, hf⟩ := ob_e hf
    refine zr_cVi (rest := []) (As := [.int a1]) X hP hS (ct_X5_planFor (g := g) (nc := nc) (I := I) (J := J) (O := O) hnI l zb_isB1 hx2) cw_X7_329 (zr_recv X hP (Nat.lt_of_lt_of_le (zk_1).1 hnI) (zb_ceIo zk_1 (by decide)) rfl) rfl hl.1 (Nat.le_of_ble_eq_true rfl) ⟨Nat.le_of_ble_eq_true rfl, Nat.le_of_ble_eq_true rfl⟩ ⟨Nat.le_of_ble_eq_true rfl, Nat.le_of_ble_eq_true rfl⟩ dX7_planLength_10 rfl (fun H locs hP hS => ?_)
    refine lv_istore_n (lv' := [(2, .int x2), (0, .ref (g.2.2 + 0)), (1, .int a1)]) hx hb dX7_planLength_13 rfl hl (by decide) rfl (fun ls hl => ?_)
    refine lv_iload_n hx hb dX7_planLength_14 rfl (lv_at hl 0 rfl) ?_
    refine lv_iconst (v := (-1 : Int32)) hx hb dX7_planLength_15 (by decide) ?_
    obtain ⟨x4, ht, hf⟩ := ob_e hf
    have K1 : ∀ (H : Heap) (locs : List Loc) (ls : Array Slot), va_P g.1 vwCl (zb_ws g nc (zb_ce g I J O)) H → va_S (zb_A g) s.heap H locs → lv_has ls 3 [] → W p l e { frames := 7, cells := 0, slots := 0, locals := 146 } s m args below meth c H locs 0 0 (MQ below (zb_Po g nc (zb_ce g I J O) (some (.int r9))) args s 0 0 (zb_A g)) (F0 m 31 ls [.int x4]) := by
      intro H locs ls hP hS hl
      cases hf
      exact zr_iret X hr hP hS dX7_planLength_31
    have hf := ht
    refine lv_icmp_ne (tgt := 23) hx hb dX7_planLength_16 (by decide) (fun hc => ?_) (fun hc => ?_)
    · have hf := if_f hc hf
      refine lv_aload_n hx hb dX7_planLength_23 rfl (lv_at hl 1 rfl) ?_
      refine gf_X7_10 X hnI hP zk_0 dX7_planLength_24 ?_
      refine lv_iload_n hx hb dX7_planLength_27 rfl (lv_at hl 0 rfl) ?_
      obtain ⟨x3, hx3, hf⟩ := ob_e hf
      refine zr_cVi (rest := []) (As := [.int x2]) X hP hS (ct_X5_lengthOf (g := g) (nc := nc) (I := I) (J := J) (O := O) hnI l zb_isB1 hx3) cw_X7_332 (zr_recv X hP (Nat.lt_of_lt_of_le (zk_1).1 hnI) (zb_ceIo zk_1 (by decide)) rfl) rfl hl.1 (Nat.le_of_ble_eq_true rfl) ⟨Nat.le_of_ble_eq_true rfl, Nat.le_of_ble_eq_true rfl⟩ ⟨Nat.le_of_ble_eq_true rfl, Nat.le_of_ble_eq_true rfl⟩ dX7_planLength_28 rfl (fun H locs hP hS => ?_)
      cases hf
      exact K1 H locs ls hP hS (lv_sub hl [] rfl)
    · have hf := if_t hc hf
      refine lv_iconst (v := (-1 : Int32)) hx hb dX7_planLength_19 (by decide) ?_
      refine lv_goto (tgt := 31) hx hb dX7_planLength_20 (by decide) ?_
      cases hf
      exact K1 H locs ls hP hS (lv_sub hl [] rfl)
  · have hf := if_f he hf
    exact (thr_ne he hf).elim
set_option maxHeartbeats 4000000 in
set_option maxRecDepth 100000 in
theorem ct_X7_setOffset {g : zb_G} {nc : Nat} (hnI : 306 ≤ nc) (l : Launch) {a1 : Int32} {a2 : Int32} {I J O : Mem} {r9 : Int32} {Iq : Mem} (hf : fX7_setOffset a1 a2 I = some (0, r9, Iq)) : zb_Ct l g nc yX7_setOffset cX7_setOffset 4 (some .int) 7 146 [.ref (g.2.2 + 0), .int a1, .int a2] (zb_ce g I J O) (some (.int r9)) (zb_ce g Iq J O) := by
  refine zb_ofW (own := RX7) (by decide +kernel) rfl (Nat.le_of_ble_eq_true rfl) ?_
  intro p e s m args below meth c ls X hr hP hl
  have hx := X.1.1
  have hb := X.1.2.1
  have ho := X.1.2.2.2.1
  have hts := X.1.2.2.2.2
  have hZ := X.2.2.2
  have hl : lv_has ls 4 [(0, .ref (g.2.2 + 0)), (1, .int a1), (2, .int a2)] := hl
  have hS : va_S (zb_A g) s.heap s.heap [] := va_S.rf
  obtain ⟨H, hH⟩ : ∃ H, H = s.heap := ⟨_, rfl⟩
  obtain ⟨locs, hlocs⟩ : ∃ z : List Loc, z = [] := ⟨_, rfl⟩
  rw [← hH] at hP
  have hS : va_S (zb_A g) s.heap H locs := by rw [hH, hlocs]; exact hS
  show W p l e _ s m args below meth c s.heap [] 0 0 _ _
  rw [← hH, ← hlocs]
  rw [fX7_setOffset] at hf
  refine lv_aload_n hx hb dX7_setOffset_0 rfl (lv_at hl 0 rfl) ?_
  refine lv_iload_n hx hb dX7_setOffset_1 rfl (lv_at hl 1 rfl) ?_
  obtain ⟨e1, he1, hf⟩ := ob_e hf
  rcases Classical.em (e1 = 0) with he | he
  · have hf := if_t he hf
    rw [he] at he1
    refine zr_cVv (rest := []) (As := [.int a1]) X hP hS (ct_X7_checkBuoy (g := g) (nc := nc) (I := I) (J := J) (O := O) hnI l  he1) cw_X7_185 (zr_recv X hP (Nat.lt_of_lt_of_le (zk_0).1 hnI) (zb_ceIo zk_0 (by decide)) rfl) rfl hl.1 (Nat.le_of_ble_eq_true rfl) ⟨Nat.le_of_ble_eq_true rfl, Nat.le_of_ble_eq_true rfl⟩ ⟨Nat.le_of_ble_eq_true rfl, Nat.le_of_ble_eq_true rfl⟩ dX7_setOffset_2 rfl (fun H locs hP hS => ?_)
    refine lv_iload_n hx hb dX7_setOffset_5 rfl (lv_at hl 2 rfl) ?_
    refine lv_bipush (v := (-99 : Int32)) hx hb dX7_setOffset_6 (by decide) ?_
    refine lv_icmp_lt (tgt := 17) hx hb dX7_setOffset_8 (by decide) (fun hc => ?_) (fun hc => ?_)
    · have hf := if_t hc hf
      exact (thr_ne (by decide) hf).elim
    · have hf := if_f hc hf
      refine lv_iload_n hx hb dX7_setOffset_11 rfl (lv_at hl 2 rfl) ?_
      refine lv_bipush (v := (99 : Int32)) hx hb dX7_setOffset_12 (by decide) ?_
      refine lv_icmp_le (tgt := 28) hx hb dX7_setOffset_14 (by decide) (fun hc => ?_) (fun hc => ?_)
      · have hf := if_t hc hf
        refine lv_aload_n hx hb dX7_setOffset_28 rfl (lv_at hl 0 rfl) ?_
        obtain ⟨I2, hI2, hf⟩ := ob_e hf
        refine zr_cVv (rest := []) (As := []) X hP hS (ct_X7_beginAct (g := g) (nc := nc) (I := I) (J := J) (O := O) hnI l  hI2) cw_X7_337 (zr_recv X hP (Nat.lt_of_lt_of_le (zk_0).1 hnI) (zb_ceIo zk_0 (by decide)) rfl) rfl hl.1 (Nat.le_of_ble_eq_true rfl) ⟨Nat.le_of_ble_eq_true rfl, Nat.le_of_ble_eq_true rfl⟩ ⟨Nat.le_of_ble_eq_true rfl, Nat.le_of_ble_eq_true rfl⟩ dX7_setOffset_29 rfl (fun H locs hP hS => ?_)
        refine lv_aload_n hx hb dX7_setOffset_32 rfl (lv_at hl 0 rfl) ?_
        refine gf_X7_10 X hnI hP zk_0 dX7_setOffset_33 ?_
        refine gf_X7_88 X hnI hP zk_1 dX7_setOffset_36 ?_
        refine gf_X7_197 X hnI hP zk_2 dX7_setOffset_39 ?_
        refine lv_iload_n hx hb dX7_setOffset_42 rfl (lv_at hl 1 rfl) ?_
        obtain ⟨x3, hx3, hf⟩ := ob_e hf
        refine zr_aldI X hP hnI zk_6 hx3 dX7_setOffset_43 ?_
        refine lv_istore_n (lv' := [(3, .int x3), (0, .ref (g.2.2 + 0)), (1, .int a1), (2, .int a2)]) hx hb dX7_setOffset_44 rfl hl (by decide) rfl (fun ls hl => ?_)
        refine lv_aload_n hx hb dX7_setOffset_45 rfl (lv_at hl 1 rfl) ?_
        refine gf_X7_10 X hnI hP zk_0 dX7_setOffset_46 ?_
        refine gf_X7_88 X hnI hP zk_1 dX7_setOffset_49 ?_
        refine gf_X7_197 X hnI hP zk_2 dX7_setOffset_52 ?_
        refine lv_iload_n hx hb dX7_setOffset_55 rfl (lv_at hl 2 rfl) ?_
        refine lv_iload_n hx hb dX7_setOffset_56 rfl (lv_at hl 3 rfl) ?_
        obtain ⟨I4, hI4, hf⟩ := ob_e hf
        refine zr_astI X hP hS hnI zk_6 hI4 dX7_setOffset_57 (fun H locs hP hS => ?_)
        refine lv_iload_n hx hb dX7_setOffset_58 rfl (lv_at hl 0 rfl) ?_
        refine lv_bipush (v := (99 : Int32)) hx hb dX7_setOffset_59 (by decide) ?_
        refine lv_iadd hx hb dX7_setOffset_61 ?_
        cases hf
        exact zr_iret X hr hP hS dX7_setOffset_62
      · have hf := if_f hc hf
        exact (thr_ne (by decide) hf).elim
  · have hf := if_f he hf
    exact (thr_ne he hf).elim
set_option maxHeartbeats 4000000 in
set_option maxRecDepth 100000 in
theorem ct_X7_setHold {g : zb_G} {nc : Nat} (hnI : 306 ≤ nc) (l : Launch) {a1 : Int32} {a2 : Int32} {I J O : Mem} {r9 : Int32} {Iq : Mem} (hf : fX7_setHold a1 a2 I = some (0, r9, Iq)) : zb_Ct l g nc yX7_setHold cX7_setHold 4 (some .int) 7 146 [.ref (g.2.2 + 0), .int a1, .int a2] (zb_ce g I J O) (some (.int r9)) (zb_ce g Iq J O) := by
  refine zb_ofW (own := RX7) (by decide +kernel) rfl (Nat.le_of_ble_eq_true rfl) ?_
  intro p e s m args below meth c ls X hr hP hl
  have hx := X.1.1
  have hb := X.1.2.1
  have ho := X.1.2.2.2.1
  have hts := X.1.2.2.2.2
  have hZ := X.2.2.2
  have hl : lv_has ls 4 [(0, .ref (g.2.2 + 0)), (1, .int a1), (2, .int a2)] := hl
  have hS : va_S (zb_A g) s.heap s.heap [] := va_S.rf
  obtain ⟨H, hH⟩ : ∃ H, H = s.heap := ⟨_, rfl⟩
  obtain ⟨locs, hlocs⟩ : ∃ z : List Loc, z = [] := ⟨_, rfl⟩
  rw [← hH] at hP
  have hS : va_S (zb_A g) s.heap H locs := by rw [hH, hlocs]; exact hS
  show W p l e _ s m args below meth c s.heap [] 0 0 _ _
  rw [← hH, ← hlocs]
  rw [fX7_setHold] at hf
  refine lv_aload_n hx hb dX7_setHold_0 rfl (lv_at hl 0 rfl) ?_
  refine lv_iload_n hx hb dX7_setHold_1 rfl (lv_at hl 1 rfl) ?_
  obtain ⟨e1, he1, hf⟩ := ob_e hf
  rcases Classical.em (e1 = 0) with he | he
  · have hf := if_t he hf
    rw [he] at he1
    refine zr_cVv (rest := []) (As := [.int a1]) X hP hS (ct_X7_checkBuoy (g := g) (nc := nc) (I := I) (J := J) (O := O) hnI l  he1) cw_X7_185 (zr_recv X hP (Nat.lt_of_lt_of_le (zk_0).1 hnI) (zb_ceIo zk_0 (by decide)) rfl) rfl hl.1 (Nat.le_of_ble_eq_true rfl) ⟨Nat.le_of_ble_eq_true rfl, Nat.le_of_ble_eq_true rfl⟩ ⟨Nat.le_of_ble_eq_true rfl, Nat.le_of_ble_eq_true rfl⟩ dX7_setHold_2 rfl (fun H locs hP hS => ?_)
    refine lv_iload_n hx hb dX7_setHold_5 rfl (lv_at hl 2 rfl) ?_
    refine lv_if_lt (tgt := 15) hx hb dX7_setHold_6 (by decide) (fun hc => ?_) (fun hc => ?_)
    · have hf := if_t hc hf
      exact (thr_ne (by decide) hf).elim
    · have hf := if_f hc hf
      refine lv_iload_n hx hb dX7_setHold_9 rfl (lv_at hl 2 rfl) ?_
      refine lv_bipush (v := (99 : Int32)) hx hb dX7_setHold_10 (by decide) ?_
      refine lv_icmp_le (tgt := 26) hx hb dX7_setHold_12 (by decide) (fun hc => ?_) (fun hc => ?_)
      · have hf := if_t hc hf
        refine lv_aload_n hx hb dX7_setHold_26 rfl (lv_at hl 0 rfl) ?_
        obtain ⟨I2, hI2, hf⟩ := ob_e hf
        refine zr_cVv (rest := []) (As := []) X hP hS (ct_X7_beginAct (g := g) (nc := nc) (I := I) (J := J) (O := O) hnI l  hI2) cw_X7_337 (zr_recv X hP (Nat.lt_of_lt_of_le (zk_0).1 hnI) (zb_ceIo zk_0 (by decide)) rfl) rfl hl.1 (Nat.le_of_ble_eq_true rfl) ⟨Nat.le_of_ble_eq_true rfl, Nat.le_of_ble_eq_true rfl⟩ ⟨Nat.le_of_ble_eq_true rfl, Nat.le_of_ble_eq_true rfl⟩ dX7_setHold_27 rfl (fun H locs hP hS => ?_)
        refine lv_aload_n hx hb dX7_setHold_30 rfl (lv_at hl 0 rfl) ?_
        refine gf_X7_10 X hnI hP zk_0 dX7_setHold_31 ?_
        refine gf_X7_88 X hnI hP zk_1 dX7_setHold_34 ?_
        refine gf_X7_194 X hnI hP zk_2 dX7_setHold_37 ?_
        refine lv_iload_n hx hb dX7_setHold_40 rfl (lv_at hl 1 rfl) ?_
        obtain ⟨x3, hx3, hf⟩ := ob_e hf
        refine zr_aldI X hP hnI zk_5 hx3 dX7_setHold_41 ?_
        refine lv_istore_n (lv' := [(3, .int x3), (0, .ref (g.2.2 + 0)), (1, .int a1), (2, .int a2)]) hx hb dX7_setHold_42 rfl hl (by decide) rfl (fun ls hl => ?_)
        refine lv_aload_n hx hb dX7_setHold_43 rfl (lv_at hl 1 rfl) ?_
        refine gf_X7_10 X hnI hP zk_0 dX7_setHold_44 ?_
        refine gf_X7_88 X hnI hP zk_1 dX7_setHold_47 ?_
        refine gf_X7_194 X hnI hP zk_2 dX7_setHold_50 ?_
        refine lv_iload_n hx hb dX7_setHold_53 rfl (lv_at hl 2 rfl) ?_
        refine lv_iload_n hx hb dX7_setHold_54 rfl (lv_at hl 3 rfl) ?_
        obtain ⟨I4, hI4, hf⟩ := ob_e hf
        refine zr_astI X hP hS hnI zk_5 hI4 dX7_setHold_55 (fun H locs hP hS => ?_)
        refine lv_iload_n hx hb dX7_setHold_56 rfl (lv_at hl 0 rfl) ?_
        cases hf
        exact zr_iret X hr hP hS dX7_setHold_57
      · have hf := if_f hc hf
        exact (thr_ne (by decide) hf).elim
  · have hf := if_f he hf
    exact (thr_ne he hf).elim
set_option maxHeartbeats 4000000 in
set_option maxRecDepth 100000 in
theorem ct_X7_setTerms {g : zb_G} {nc : Nat} (hnI : 306 ≤ nc) (l : Launch) {a1 : Int32} {a2 : Int32} {a3 : Int32} {I J O : Mem} {r9 : Int32} {Iq : Mem} (hf : fX7_setTerms a1 a2 a3 I = some (0, r9, Iq)) : zb_Ct l g nc yX7_setTerms cX7_setTerms 5 (some .int) 6 125 [.ref (g.2.2 + 0), .int a1, .int a2, .int a3] (zb_ce g I J O) (some (.int r9)) (zb_ce g Iq J O) := by
  refine zb_ofW (own := RX7) (by decide +kernel) rfl (Nat.le_of_ble_eq_true rfl) ?_
  intro p e s m args below meth c ls X hr hP hl
  have hx := X.1.1
  have hb := X.1.2.1
  have ho := X.1.2.2.2.1
  have hts := X.1.2.2.2.2
  have hZ := X.2.2.2
  have hl : lv_has ls 5 [(0, .ref (g.2.2 + 0)), (1, .int a1), (2, .int a2), (3, .int a3)] := hl
  have hS : va_S (zb_A g) s.heap s.heap [] := va_S.rf
  obtain ⟨H, hH⟩ : ∃ H, H = s.heap := ⟨_, rfl⟩
  obtain ⟨locs, hlocs⟩ : ∃ z : List Loc, z = [] := ⟨_, rfl⟩
  rw [← hH] at hP
  have hS : va_S (zb_A g) s.heap H locs := by rw [hH, hlocs]; exact hS
  show W p l e _ s m args below meth c s.heap [] 0 0 _ _
  rw [← hH, ← hlocs]
  rw [fX7_setTerms] at hf
  refine lv_iload_n hx hb dX7_setTerms_0 rfl (lv_at hl 1 rfl) ?_
  refine lv_if_lt (tgt := 33) hx hb dX7_setTerms_1 (by decide) (fun hc => ?_) (fun hc => ?_)
  · have hf := if_t hc hf
    exact (thr_ne (by decide) hf).elim
  · have hf := if_f hc hf
    refine lv_iload_n hx hb dX7_setTerms_4 rfl (lv_at hl 1 rfl) ?_
    refine lv_sipush (v := (999 : Int32)) hx hb dX7_setTerms_5 (by decide) ?_
    refine lv_icmp_gt (tgt := 33) hx hb dX7_setTerms_8 (by decide) (fun hc => ?_) (fun hc => ?_)
    · have hf := if_t hc hf
      exact (thr_ne (by decide) hf).elim
    · have hf := if_f hc hf
      refine lv_iload_n hx hb dX7_setTerms_11 rfl (lv_at hl 2 rfl) ?_
      refine lv_iconst (v := (1 : Int32)) hx hb dX7_setTerms_12 (by decide) ?_
      refine lv_icmp_lt (tgt := 33) hx hb dX7_setTerms_13 (by decide) (fun hc => ?_) (fun hc => ?_)
      · have hf := if_t hc hf
        exact (thr_ne (by decide) hf).elim
      · have hf := if_f hc hf
        refine lv_iload_n hx hb dX7_setTerms_16 rfl (lv_at hl 2 rfl) ?_
        refine lv_bipush (v := (9 : Int32)) hx hb dX7_setTerms_17 (by decide) ?_
        refine lv_icmp_gt (tgt := 33) hx hb dX7_setTerms_19 (by decide) (fun hc => ?_) (fun hc => ?_)
        · have hf := if_t hc hf
          exact (thr_ne (by decide) hf).elim
        · have hf := if_f hc hf
          refine lv_iload_n hx hb dX7_setTerms_22 rfl (lv_at hl 3 rfl) ?_
          refine lv_iconst (v := (1 : Int32)) hx hb dX7_setTerms_23 (by decide) ?_
          refine lv_icmp_lt (tgt := 33) hx hb dX7_setTerms_24 (by decide) (fun hc => ?_) (fun hc => ?_)
          · have hf := if_t hc hf
            exact (thr_ne (by decide) hf).elim
          · have hf := if_f hc hf
            refine lv_iload_n hx hb dX7_setTerms_27 rfl (lv_at hl 3 rfl) ?_
            refine lv_bipush (v := (9 : Int32)) hx hb dX7_setTerms_28 (by decide) ?_
            refine lv_icmp_le (tgt := 44) hx hb dX7_setTerms_30 (by decide) (fun hc => ?_) (fun hc => ?_)
            · have hf := if_t hc hf
              refine lv_aload_n hx hb dX7_setTerms_44 rfl (lv_at hl 0 rfl) ?_
              obtain ⟨I1, hI1, hf⟩ := ob_e hf
              refine zr_cVv (rest := []) (As := []) X hP hS (ct_X7_beginAct (g := g) (nc := nc) (I := I) (J := J) (O := O) hnI l  hI1) cw_X7_337 (zr_recv X hP (Nat.lt_of_lt_of_le (zk_0).1 hnI) (zb_ceIo zk_0 (by decide)) rfl) rfl hl.1 (Nat.le_of_ble_eq_true rfl) ⟨Nat.le_of_ble_eq_true rfl, Nat.le_of_ble_eq_true rfl⟩ ⟨Nat.le_of_ble_eq_true rfl, Nat.le_of_ble_eq_true rfl⟩ dX7_setTerms_45 rfl (fun H locs hP hS => ?_)
              refine lv_aload_n hx hb dX7_setTerms_48 rfl (lv_at hl 0 rfl) ?_
              refine gf_X7_10 X hnI hP zk_0 dX7_setTerms_49 ?_
              refine gf_X7_79 X hnI hP zk_1 dX7_setTerms_52 ?_
              refine lv_istore (lv' := [(4, .int (I1 1 3)), (0, .ref (g.2.2 + 0)), (1, .int a1), (2, .int a2), (3, .int a3)]) hx hb dX7_setTerms_55 hl (by decide) rfl (fun ls hl => ?_)
              refine lv_aload_n hx hb dX7_setTerms_57 rfl (lv_at hl 1 rfl) ?_
              refine gf_X7_10 X hnI hP zk_0 dX7_setTerms_58 ?_
              refine lv_iload_n hx hb dX7_setTerms_61 rfl (lv_at hl 2 rfl) ?_
              refine pf_X7_79 X hnI hP hS zk_1 dX7_setTerms_62 (fun H locs hP hS => ?_)
              refine lv_aload_n hx hb dX7_setTerms_65 rfl (lv_at hl 1 rfl) ?_
              refine gf_X7_10 X hnI hP zk_0 dX7_setTerms_66 ?_
              refine lv_iload_n hx hb dX7_setTerms_69 rfl (lv_at hl 3 rfl) ?_
              refine pf_X7_82 X hnI hP hS zk_1 dX7_setTerms_70 (fun H locs hP hS => ?_)
              refine lv_aload_n hx hb dX7_setTerms_73 rfl (lv_at hl 1 rfl) ?_
              refine gf_X7_10 X hnI hP zk_0 dX7_setTerms_74 ?_
              refine lv_iload_n hx hb dX7_setTerms_77 rfl (lv_at hl 4 rfl) ?_
              refine pf_X7_85 X hnI hP hS zk_1 dX7_setTerms_78 (fun H locs hP hS => ?_)
              refine lv_iload hx hb dX7_setTerms_81 (lv_at hl 0 rfl) ?_
              cases hf
              exact zr_iret X hr hP hS dX7_setTerms_83
            · have hf := if_f hc hf
              exact (thr_ne (by decide) hf).elim
set_option maxHeartbeats 4000000 in
set_option maxRecDepth 100000 in
theorem ct_X7_put {g : zb_G} {nc : Nat} (hnI : 306 ≤ nc) (l : Launch) {a1 : Int32} {I J O : Mem} {Iq : Mem} (hf : fX7_put a1 I = some Iq) : zb_Ct l g nc yX7_put cX7_put 2 none 0 0 [.ref (g.2.2 + 0), .int a1] (zb_ce g I J O) none (zb_ce g Iq J O) := by
  refine zb_ofW (own := RX7) (by decide +kernel) rfl (Nat.le_of_ble_eq_true rfl) ?_
  intro p e s m args below meth c ls X hr hP hl
  have hx := X.1.1
  have hb := X.1.2.1
  have ho := X.1.2.2.2.1
  have hts := X.1.2.2.2.2
  have hZ := X.2.2.2
  have hl : lv_has ls 2 [(0, .ref (g.2.2 + 0)), (1, .int a1)] := hl
  have hS : va_S (zb_A g) s.heap s.heap [] := va_S.rf
  obtain ⟨H, hH⟩ : ∃ H, H = s.heap := ⟨_, rfl⟩
  obtain ⟨locs, hlocs⟩ : ∃ z : List Loc, z = [] := ⟨_, rfl⟩
  rw [← hH] at hP
  have hS : va_S (zb_A g) s.heap H locs := by rw [hH, hlocs]; exact hS
  show W p l e _ s m args below meth c s.heap [] 0 0 _ _
  rw [← hH, ← hlocs]
  rw [fX7_put] at hf
  refine lv_aload_n hx hb dX7_put_0 rfl (lv_at hl 0 rfl) ?_
  refine gf_X7_73 X hnI hP zk_0 dX7_put_1 ?_
  refine lv_aload_n hx hb dX7_put_4 rfl (lv_at hl 0 rfl) ?_
  refine gf_X7_70 X hnI hP zk_0 dX7_put_5 ?_
  refine zr_alenI X hP hnI zk_65 dX7_put_8 ?_
  obtain ⟨I2, ht, hf⟩ := ob_e hf
  have K1 : ∀ (H : Heap) (locs : List Loc) (ls : Array Slot), va_P g.1 vwCl (zb_ws g nc (zb_ce g I2 J O)) H → va_S (zb_A g) s.heap H locs → lv_has ls 2 [] → W p l e { frames := 0, cells := 0, slots := 0, locals := 0 } s m args below meth c H locs 0 0 (MQ below (zb_Po g nc (zb_ce g Iq J O) none) args s 0 0 (zb_A g)) (F0 m 32 ls []) := by
    intro H locs ls hP hS hl
    cases hf
    exact zr_vret X hr hP hS rfl dX7_put_32
  have hf := ht
  refine lv_icmp_ge (tgt := 32) hx hb dX7_put_9 (by decide) (fun hc => ?_) (fun hc => ?_)
  · have hf := if_t hc hf
    cases hf
    exact K1 H locs ls hP hS (lv_sub hl [] rfl)
  · have hf := if_f hc hf
    refine lv_aload_n hx hb dX7_put_12 rfl (lv_at hl 0 rfl) ?_
    refine gf_X7_70 X hnI hP zk_0 dX7_put_13 ?_
    refine lv_aload_n hx hb dX7_put_16 rfl (lv_at hl 0 rfl) ?_
    refine gf_X7_73 X hnI hP zk_0 dX7_put_17 ?_
    refine lv_iload_n hx hb dX7_put_20 rfl (lv_at hl 1 rfl) ?_
    obtain ⟨I1, hI1, hf⟩ := ob_e hf
    refine zr_astI X hP hS hnI zk_65 hI1 dX7_put_21 (fun H locs hP hS => ?_)
    refine lv_aload_n hx hb dX7_put_22 rfl (lv_at hl 0 rfl) ?_
    refine lv_dup hx hb dX7_put_23 rfl ?_
    refine gf_X7_73 X hnI hP zk_0 dX7_put_24 ?_
    refine lv_iconst (v := (1 : Int32)) hx hb dX7_put_27 (by decide) ?_
    refine lv_iadd hx hb dX7_put_28 ?_
    refine pf_X7_73 X hnI hP hS zk_0 dX7_put_29 (fun H locs hP hS => ?_)
    cases hf
    exact K1 H locs ls hP hS (lv_sub hl [] rfl)
set_option maxHeartbeats 4000000 in
set_option maxRecDepth 100000 in
theorem lpX7_putNumber_L22 {g : zb_G} {nc : Nat} (hnI : 306 ≤ nc) (l : Launch) {a2 : Int32} {J O : Mem} {p : Program} {e : Env} {s : State} {m : MethodId} {args : Array Value} {below : List Frame} {meth : Method} {c : Code} {Q : State → Prop} (X : zb_X g p m c cX7_putNumber 6 s args RX7 meth) : ∀ {n9 : Nat} {a4 : Int32} {a3 : Int32} {I : Mem} {Iz : Mem} {H : Heap} {locs : List Loc} {ls : Array Slot}, fX7_putNumber_L22 a2 n9 a4 a3 I = some Iz → (∀ (H : Heap) (locs : List Loc) (ls : Array Slot), va_P g.1 vwCl (zb_ws g nc (zb_ce g Iz J O)) H → va_S (zb_A g) s.heap H locs → lv_has ls 6 [] → W p l e { frames := 1, cells := 0, slots := 0, locals := 21 } s m args below meth c H locs 0 0 Q (F0 m 81 ls [])) → va_P g.1 vwCl (zb_ws g nc (zb_ce g I J O)) H → va_S (zb_A g) s.heap H locs → lv_has ls 6 [(4, .int a4), (3, .int a3), (2, .int a2), (0, .ref (g.2.2 + 0))] → W p l e { frames := 1, cells := 0, slots := 0, locals := 21 } s m args below meth c H locs 0 0 Q (F0 m 22 ls []) := by
  have hx := X.1.1
  have hb := X.1.2.1
  have ho := X.1.2.2.2.1
  have hts := X.1.2.2.2.2
  have hZ := X.2.2.2
  intro n9
  induction n9 with
  | zero =>
    intro a4 a3 I Iz H locs ls hf
    exact nomatch hf
  | succ n9 ih =>
    intro a4 a3 I Iz H locs ls hf KK hP hS hl
    rw [fX7_putNumber_L22] at hf
    refine lv_iload hx hb dX7_putNumber_22 (lv_at hl 0 rfl) ?_
    refine lv_iconst (v := (1 : Int32)) hx hb dX7_putNumber_24 (by decide) ?_
    refine lv_icmp_lt (tgt := 81) hx hb dX7_putNumber_25 (by decide) (fun hc => ?_) (fun hc => ?_)
    · have hf := if_t hc hf
      cases hf
      exact KK H locs ls hP hS (lv_sub hl [] rfl)
    · have hf := if_f hc hf
      refine lv_iload_n hx hb dX7_putNumber_28 rfl (lv_at hl 2 rfl) ?_
      refine lv_iload hx hb dX7_putNumber_29 (lv_at hl 0 rfl) ?_
      obtain ⟨x4, hx4, hf⟩ := ob_e hf
      refine zr_idiv X hx4 dX7_putNumber_31 ?_
      refine lv_bipush (v := (10 : Int32)) hx hb dX7_putNumber_32 (by decide) ?_
      obtain ⟨x5, hx5, hf⟩ := ob_e hf
      refine zr_irem X hx5 dX7_putNumber_34 ?_
      refine lv_istore (lv' := [(5, .int x5), (4, .int a4), (3, .int a3), (2, .int a2), (0, .ref (g.2.2 + 0))]) hx hb dX7_putNumber_35 hl (by decide) rfl (fun ls hl => ?_)
      refine lv_iload_n hx hb dX7_putNumber_37 rfl (lv_at hl 2 rfl) ?_
      obtain ⟨x6, ht, hf⟩ := pl_e hf
      have K1 : ∀ (H : Heap) (locs : List Loc) (ls : Array Slot), va_P g.1 vwCl (zb_ws g nc (zb_ce g I J O)) H → va_S (zb_A g) s.heap H locs → lv_has ls 6 [(5, .int x5), (4, .int a4), (2, .int a2), (0, .ref (g.2.2 + 0))] → W p l e { frames := 1, cells := 0, slots := 0, locals := 21 } s m args below meth c H locs 0 0 Q (F0 m 57 ls [.int x6]) := by
        intro H locs ls hP hS hl
        refine lv_istore_n (lv' := [(3, .int x6), (5, .int x5), (4, .int a4), (2, .int a2), (0, .ref (g.2.2 + 0))]) hx hb dX7_putNumber_57 rfl hl (by decide) rfl (fun ls hl => ?_)
        refine lv_iload_n hx hb dX7_putNumber_58 rfl (lv_at hl 0 rfl) ?_
        obtain ⟨I8, ht, hf⟩ := ob_e hf
        have K2 : ∀ (H : Heap) (locs : List Loc) (ls : Array Slot), va_P g.1 vwCl (zb_ws g nc (zb_ce g I8 J O)) H → va_S (zb_A g) s.heap H locs → lv_has ls 6 [(3, .int x6), (4, .int a4), (2, .int a2), (0, .ref (g.2.2 + 0))] → W p l e { frames := 1, cells := 0, slots := 0, locals := 21 } s m args below meth c H locs 0 0 Q (F0 m 71 ls []) := by
          intro H locs ls hP hS hl
          refine lv_iload hx hb dX7_putNumber_71 (lv_at hl 1 rfl) ?_
          refine lv_bipush (v := (10 : Int32)) hx hb dX7_putNumber_73 (by decide) ?_
          obtain ⟨x9, hx9, hf⟩ := ob_e hf
          refine zr_idiv X hx9 dX7_putNumber_75 ?_
          refine lv_istore (lv' := [(4, .int x9), (3, .int x6), (2, .int a2), (0, .ref (g.2.2 + 0))]) hx hb dX7_putNumber_76 hl (by decide) rfl (fun ls hl => ?_)
          refine lv_goto (tgt := 22) hx hb dX7_putNumber_78 (by decide) ?_
          exact ih hf KK hP hS (lv_sub hl [0, 1, 2, 3] rfl)
        have hf := ht
        refine lv_if_eq (tgt := 71) hx hb dX7_putNumber_59 (by decide) (fun hc => ?_) (fun hc => ?_)
        · have hf := if_t hc hf
          cases hf
          exact K2 H locs ls hP hS (lv_sub hl [0, 2, 3, 4] rfl)
        · have hf := if_f hc hf
          refine lv_aload_n hx hb dX7_putNumber_62 rfl (lv_at hl 4 rfl) ?_
          refine lv_bipush (v := (48 : Int32)) hx hb dX7_putNumber_63 (by decide) ?_
          refine lv_iload hx hb dX7_putNumber_65 (lv_at hl 1 rfl) ?_
          refine lv_iadd hx hb dX7_putNumber_67 ?_
          obtain ⟨I7, hI7, hf⟩ := ob_e hf
          refine zr_cVv (rest := []) (As := [.int ((48 : Int32) + x5)]) X hP hS (ct_X7_put (g := g) (nc := nc) (I := I) (J := J) (O := O) hnI l  hI7) cw_X7_393 (zr_recv X hP (Nat.lt_of_lt_of_le (zk_0).1 hnI) (zb_ceIo zk_0 (by decide)) rfl) rfl hl.1 (Nat.le_of_ble_eq_true rfl) ⟨Nat.le_of_ble_eq_true rfl, Nat.le_of_ble_eq_true rfl⟩ ⟨Nat.le_of_ble_eq_true rfl, Nat.le_of_ble_eq_true rfl⟩ dX7_putNumber_68 rfl (fun H locs hP hS => ?_)
          cases hf
          exact K2 H locs ls hP hS (lv_sub hl [0, 2, 3, 4] rfl)
      have hf := ht
      refine lv_if_ne (tgt := 52) hx hb dX7_putNumber_38 (by decide) (fun hc => ?_) (fun hc => ?_)
      · have hf := if_f hc hf
        refine lv_iconst (v := (1 : Int32)) hx hb dX7_putNumber_52 (by decide) ?_
        refine lv_goto (tgt := 57) hx hb dX7_putNumber_53 (by decide) ?_
        cases hf
        exact K1 H locs ls hP hS (lv_sub hl [0, 1, 3, 4] rfl)
      · have hf := if_t hc hf
        refine lv_iload hx hb dX7_putNumber_41 (lv_at hl 0 rfl) ?_
        refine lv_if_gt (tgt := 52) hx hb dX7_putNumber_43 (by decide) (fun hc => ?_) (fun hc => ?_)
        · have hf := if_t hc hf
          refine lv_iconst (v := (1 : Int32)) hx hb dX7_putNumber_52 (by decide) ?_
          refine lv_goto (tgt := 57) hx hb dX7_putNumber_53 (by decide) ?_
          cases hf
          exact K1 H locs ls hP hS (lv_sub hl [0, 1, 3, 4] rfl)
        · have hf := if_f hc hf
          refine lv_iload hx hb dX7_putNumber_46 (lv_at hl 1 rfl) ?_
          refine lv_iconst (v := (1 : Int32)) hx hb dX7_putNumber_48 (by decide) ?_
          refine lv_icmp_ne (tgt := 56) hx hb dX7_putNumber_49 (by decide) (fun hc => ?_) (fun hc => ?_)
          · have hf := if_f hc hf
            refine lv_iconst (v := (0 : Int32)) hx hb dX7_putNumber_56 (by decide) ?_
            cases hf
            exact K1 H locs ls hP hS (lv_sub hl [0, 1, 3, 4] rfl)
          · have hf := if_t hc hf
            refine lv_iconst (v := (1 : Int32)) hx hb dX7_putNumber_52 (by decide) ?_
            refine lv_goto (tgt := 57) hx hb dX7_putNumber_53 (by decide) ?_
            cases hf
            exact K1 H locs ls hP hS (lv_sub hl [0, 1, 3, 4] rfl)
set_option maxHeartbeats 4000000 in
set_option maxRecDepth 100000 in
theorem ct_X7_putNumber {g : zb_G} {nc : Nat} (hnI : 306 ≤ nc) (l : Launch) {a1 : Int32} {I J O : Mem} {Iq : Mem} (hf : fX7_putNumber a1 I = some Iq) : zb_Ct l g nc yX7_putNumber cX7_putNumber 6 none 1 21 [.ref (g.2.2 + 0), .int a1] (zb_ce g I J O) none (zb_ce g Iq J O) := by
  refine zb_ofW (own := RX7) (by decide +kernel) rfl (Nat.le_of_ble_eq_true rfl) ?_
  intro p e s m args below meth c ls X hr hP hl
  have hx := X.1.1
  have hb := X.1.2.1
  have ho := X.1.2.2.2.1
  have hts := X.1.2.2.2.2
  have hZ := X.2.2.2
  have hl : lv_has ls 6 [(0, .ref (g.2.2 + 0)), (1, .int a1)] := hl
  have hS : va_S (zb_A g) s.heap s.heap [] := va_S.rf
  obtain ⟨H, hH⟩ : ∃ H, H = s.heap := ⟨_, rfl⟩
  obtain ⟨locs, hlocs⟩ : ∃ z : List Loc, z = [] := ⟨_, rfl⟩
  rw [← hH] at hP
  have hS : va_S (zb_A g) s.heap H locs := by rw [hH, hlocs]; exact hS
  show W p l e _ s m args below meth c s.heap [] 0 0 _ _
  rw [← hH, ← hlocs]
  rw [fX7_putNumber] at hf
  refine lv_iload_n hx hb dX7_putNumber_0 rfl (lv_at hl 1 rfl) ?_
  refine lv_istore_n (lv' := [(2, .int a1), (0, .ref (g.2.2 + 0)), (1, .int a1)]) hx hb dX7_putNumber_1 rfl hl (by decide) rfl (fun ls hl => ?_)
  refine lv_iload_n hx hb dX7_putNumber_2 rfl (lv_at hl 0 rfl) ?_
  obtain ⟨x2, I3, ht, hf⟩ := ob2_e hf
  have K3 : ∀ (H : Heap) (locs : List Loc) (ls : Array Slot), va_P g.1 vwCl (zb_ws g nc (zb_ce g I3 J O)) H → va_S (zb_A g) s.heap H locs → lv_has ls 6 [(2, .int x2), (0, .ref (g.2.2 + 0))] → W p l e { frames := 1, cells := 0, slots := 0, locals := 21 } s m args below meth c H locs 0 0 (MQ below (zb_Po g nc (zb_ce g Iq J O) none) args s 0 0 (zb_A g)) (F0 m 15 ls []) := by
    intro H locs ls hP hS hl
    refine lv_iconst (v := (0 : Int32)) hx hb dX7_putNumber_15 (by decide) ?_
    refine lv_istore_n (lv' := [(3, .int (0 : Int32)), (2, .int x2), (0, .ref (g.2.2 + 0))]) hx hb dX7_putNumber_16 rfl hl (by decide) rfl (fun ls hl => ?_)
    refine lv_ldcw (v := (1000000000 : Int32)) hx hb ho (hts _ wk_X7_428) dX7_putNumber_17 ?_
    refine lv_istore (lv' := [(4, .int (1000000000 : Int32)), (3, .int (0 : Int32)), (2, .int x2), (0, .ref (g.2.2 + 0))]) hx hb dX7_putNumber_20 hl (by decide) rfl (fun ls hl => ?_)
    obtain ⟨I10, hI10, hf⟩ := ob_e hf
    have K4 : ∀ (H : Heap) (locs : List Loc) (ls : Array Slot), va_P g.1 vwCl (zb_ws g nc (zb_ce g I10 J O)) H → va_S (zb_A g) s.heap H locs → lv_has ls 6 [] → W p l e { frames := 1, cells := 0, slots := 0, locals := 21 } s m args below meth c H locs 0 0 (MQ below (zb_Po g nc (zb_ce g Iq J O) none) args s 0 0 (zb_A g)) (F0 m 81 ls []) := by
      intro H locs ls hP hS hl
      cases hf
      exact zr_vret X hr hP hS rfl dX7_putNumber_81
    exact lpX7_putNumber_L22 hnI l  X hI10 K4 hP hS (lv_sub hl [0, 1, 2, 3] rfl)
  have hf := ht
  refine lv_if_ge (tgt := 15) hx hb dX7_putNumber_3 (by decide) (fun hc => ?_) (fun hc => ?_)
  · have hf := if_t hc hf
    cases hf
    exact K3 H locs ls hP hS (lv_sub hl [0, 1] rfl)
  · have hf := if_f hc hf
    refine lv_aload_n hx hb dX7_putNumber_6 rfl (lv_at hl 1 rfl) ?_
    refine lv_bipush (v := (45 : Int32)) hx hb dX7_putNumber_7 (by decide) ?_
    obtain ⟨I1, hI1, hf⟩ := ob_e hf
    refine zr_cVv (rest := []) (As := [.int (45 : Int32)]) X hP hS (ct_X7_put (g := g) (nc := nc) (I := I) (J := J) (O := O) hnI l  hI1) cw_X7_393 (zr_recv X hP (Nat.lt_of_lt_of_le (zk_0).1 hnI) (zb_ceIo zk_0 (by decide)) rfl) rfl hl.1 (Nat.le_of_ble_eq_true rfl) ⟨Nat.le_of_ble_eq_true rfl, Nat.le_of_ble_eq_true rfl⟩ ⟨Nat.le_of_ble_eq_true rfl, Nat.le_of_ble_eq_true rfl⟩ dX7_putNumber_9 rfl (fun H locs hP hS => ?_)
    refine lv_iload_n hx hb dX7_putNumber_12 rfl (lv_at hl 0 rfl) ?_
    refine lv_ineg hx hb dX7_putNumber_13 ?_
    refine lv_istore_n (lv' := [(2, .int (-a1)), (0, .ref (g.2.2 + 0)), (1, .int a1)]) hx hb dX7_putNumber_14 rfl hl (by decide) rfl (fun ls hl => ?_)
    cases hf
    exact K3 H locs ls hP hS (lv_sub hl [0, 1] rfl)
set_option maxHeartbeats 4000000 in
set_option maxRecDepth 100000 in
theorem ct_X7_letterOf {g : zb_G} {nc : Nat} (l : Launch) {a0 : Int32} {I J O : Mem} {r9 : Int32} (hf : fX7_letterOf a0 = some r9) : zb_Ct l g nc yX7_letterOf cX7_letterOf 1 (some .char) 0 0 [.int a0] (zb_ce g I J O) (some (.int r9)) (zb_ce g I J O) := by
  refine zb_ofW (own := RX7) (by decide +kernel) rfl (Nat.le_of_ble_eq_true rfl) ?_
  intro p e s m args below meth c ls X hr hP hl
  have hx := X.1.1
  have hb := X.1.2.1
  have ho := X.1.2.2.2.1
  have hts := X.1.2.2.2.2
  have hZ := X.2.2.2
  have hl : lv_has ls 1 [(0, .int a0)] := hl
  have hS : va_S (zb_A g) s.heap s.heap [] := va_S.rf
  obtain ⟨H, hH⟩ : ∃ H, H = s.heap := ⟨_, rfl⟩
  obtain ⟨locs, hlocs⟩ : ∃ z : List Loc, z = [] := ⟨_, rfl⟩
  rw [← hH] at hP
  have hS : va_S (zb_A g) s.heap H locs := by rw [hH, hlocs]; exact hS
  show W p l e _ s m args below meth c s.heap [] 0 0 _ _
  rw [← hH, ← hlocs]
  rw [fX7_letterOf] at hf
  refine lv_iload_n hx hb dX7_letterOf_0 rfl (lv_at hl 0 rfl) ?_
  obtain ⟨x1, ht, hf⟩ := pl_e hf
  have K1 : ∀ (H : Heap) (locs : List Loc) (ls : Array Slot), va_P g.1 vwCl (zb_ws g nc (zb_ce g I J O)) H → va_S (zb_A g) s.heap H locs → lv_has ls 1 [] → W p l e { frames := 0, cells := 0, slots := 0, locals := 0 } s m args below meth c H locs 0 0 (MQ below (zb_Po g nc (zb_ce g I J O) (some (.int r9))) args s 0 0 (zb_A g)) (F0 m 21 ls [.int x1]) := by
    intro H locs ls hP hS hl
    obtain ⟨v9, hv9, hf⟩ := ob_e hf
    obtain ⟨hn9, he9⟩ := zch_e hv9
    cases hf
    cases he9
    exact zr_zret X hr hn9 hP hS dX7_letterOf_21
  have hf := ht
  refine lv_if_ne (tgt := 9) hx hb dX7_letterOf_1 (by decide) (fun hc => ?_) (fun hc => ?_)
  · have hf := if_f hc hf
    refine lv_iload_n hx hb dX7_letterOf_9 rfl (lv_at hl 0 rfl) ?_
    refine lv_iconst (v := (1 : Int32)) hx hb dX7_letterOf_10 (by decide) ?_
    refine lv_icmp_ne (tgt := 19) hx hb dX7_letterOf_11 (by decide) (fun hc => ?_) (fun hc => ?_)
    · have hf := if_f hc hf
      refine lv_bipush (v := (68 : Int32)) hx hb dX7_letterOf_19 (by decide) ?_
      cases hf
      exact K1 H locs ls hP hS (lv_sub hl [] rfl)
    · have hf := if_t hc hf
      refine lv_bipush (v := (83 : Int32)) hx hb dX7_letterOf_14 (by decide) ?_
      refine lv_goto (tgt := 21) hx hb dX7_letterOf_16 (by decide) ?_
      cases hf
      exact K1 H locs ls hP hS (lv_sub hl [] rfl)
  · have hf := if_t hc hf
    refine lv_bipush (v := (84 : Int32)) hx hb dX7_letterOf_4 (by decide) ?_
    refine lv_goto (tgt := 21) hx hb dX7_letterOf_6 (by decide) ?_
    cases hf
    exact K1 H locs ls hP hS (lv_sub hl [] rfl)
set_option maxHeartbeats 4000000 in
set_option maxRecDepth 100000 in
theorem lpX7_writeString_L18 {g : zb_G} {nc : Nat} (hnI : 306 ≤ nc) (l : Launch) {a1 : Int32} {J O : Mem} {p : Program} {e : Env} {s : State} {m : MethodId} {args : Array Value} {below : List Frame} {meth : Method} {c : Code} {Q : State → Prop} (X : zb_X g p m c cX7_writeString 3 s args RX7 meth) : ∀ {n9 : Nat} {a2 : Int32} {I : Mem} {Iz : Mem} {H : Heap} {locs : List Loc} {ls : Array Slot}, fX7_writeString_L18 a1 n9 a2 I = some Iz → (∀ (H : Heap) (locs : List Loc) (ls : Array Slot), va_P g.1 vwCl (zb_ws g nc (zb_ce g Iz J O)) H → va_S (zb_A g) s.heap H locs → lv_has ls 3 [(0, .ref (g.2.2 + 0))] → W p l e { frames := 2, cells := 0, slots := 0, locals := 46 } s m args below meth c H locs 0 0 Q (F0 m 88 ls [])) → va_P g.1 vwCl (zb_ws g nc (zb_ce g I J O)) H → va_S (zb_A g) s.heap H locs → lv_has ls 3 [(2, .int a2), (1, .int a1), (0, .ref (g.2.2 + 0))] → W p l e { frames := 2, cells := 0, slots := 0, locals := 46 } s m args below meth c H locs 0 0 Q (F0 m 18 ls []) := by
  have hx := X.1.1
  have hb := X.1.2.1
  have ho := X.1.2.2.2.1
  have hts := X.1.2.2.2.2
  have hZ := X.2.2.2
  intro n9
  induction n9 with
  | zero =>
    intro a2 I Iz H locs ls hf
    exact nomatch hf
  | succ n9 ih =>
    intro a2 I Iz H locs ls hf KK hP hS hl
    rw [fX7_writeString_L18] at hf
    refine lv_iload_n hx hb dX7_writeString_18 rfl (lv_at hl 0 rfl) ?_
    refine lv_iload_n hx hb dX7_writeString_19 rfl (lv_at hl 1 rfl) ?_
    refine lv_icmp_ge (tgt := 88) hx hb dX7_writeString_20 (by decide) (fun hc => ?_) (fun hc => ?_)
    · have hf := if_t hc hf
      cases hf
      exact KK H locs ls hP hS (lv_sub hl [2] rfl)
    · have hf := if_f hc hf
      refine lv_aload_n hx hb dX7_writeString_23 rfl (lv_at hl 2 rfl) ?_
      refine lv_iload_n hx hb dX7_writeString_24 rfl (lv_at hl 0 rfl) ?_
      obtain ⟨I1, hI1, hf⟩ := ob_e hf
      refine zr_cVv (rest := []) (As := [.int a2]) X hP hS (ct_X7_putNumber (g := g) (nc := nc) (I := I) (J := J) (O := O) hnI l  hI1) cw_X7_386 (zr_recv X hP (Nat.lt_of_lt_of_le (zk_0).1 hnI) (zb_ceIo zk_0 (by decide)) rfl) rfl hl.1 (Nat.le_of_ble_eq_true rfl) ⟨Nat.le_of_ble_eq_true rfl, Nat.le_of_ble_eq_true rfl⟩ ⟨Nat.le_of_ble_eq_true rfl, Nat.le_of_ble_eq_true rfl⟩ dX7_writeString_25 rfl (fun H locs hP hS => ?_)
      refine lv_aload_n hx hb dX7_writeString_28 rfl (lv_at hl 2 rfl) ?_
      refine lv_aload_n hx hb dX7_writeString_29 rfl (lv_at hl 2 rfl) ?_
      refine gf_X7_10 X hnI hP zk_0 dX7_writeString_30 ?_
      refine gf_X7_88 X hnI hP zk_1 dX7_writeString_33 ?_
      refine gf_X7_200 X hnI hP zk_2 dX7_writeString_36 ?_
      refine lv_iload_n hx hb dX7_writeString_39 rfl (lv_at hl 0 rfl) ?_
      obtain ⟨x2, hx2, hf⟩ := ob_e hf
      refine zr_aldI X hP hnI zk_7 hx2 dX7_writeString_40 ?_
      obtain ⟨x3, hx3, hf⟩ := ob_e hf
      refine zr_cSi (rest := [.ref (g.2.2 + 0)]) (As := [.int x2]) X hP hS (ct_X7_letterOf (g := g) (nc := nc) (I := I1) (J := J) (O := O)  l  hx3) cw_X7_389  rfl hl.1 (Nat.le_of_ble_eq_true rfl) ⟨Nat.le_of_ble_eq_true rfl, Nat.le_of_ble_eq_true rfl⟩ ⟨Nat.le_of_ble_eq_true rfl, Nat.le_of_ble_eq_true rfl⟩ dX7_writeString_41 rfl (fun H locs hP hS => ?_)
      obtain ⟨I4, hI4, hf⟩ := ob_e hf
      refine zr_cVv (rest := []) (As := [.int x3]) X hP hS (ct_X7_put (g := g) (nc := nc) (I := I1) (J := J) (O := O) hnI l  hI4) cw_X7_393 (zr_recv X hP (Nat.lt_of_lt_of_le (zk_0).1 hnI) (zb_ceIo zk_0 (by decide)) rfl) rfl hl.1 (Nat.le_of_ble_eq_true rfl) ⟨Nat.le_of_ble_eq_true rfl, Nat.le_of_ble_eq_true rfl⟩ ⟨Nat.le_of_ble_eq_true rfl, Nat.le_of_ble_eq_true rfl⟩ dX7_writeString_44 rfl (fun H locs hP hS => ?_)
      refine lv_iload_n hx hb dX7_writeString_47 rfl (lv_at hl 0 rfl) ?_
      refine lv_iload_n hx hb dX7_writeString_48 rfl (lv_at hl 1 rfl) ?_
      refine lv_iconst (v := (1 : Int32)) hx hb dX7_writeString_49 (by decide) ?_
      refine lv_isub hx hb dX7_writeString_50 ?_
      obtain ⟨I8, ht, hf⟩ := ob_e hf
      have K1 : ∀ (H : Heap) (locs : List Loc) (ls : Array Slot), va_P g.1 vwCl (zb_ws g nc (zb_ce g I8 J O)) H → va_S (zb_A g) s.heap H locs → lv_has ls 3 [(2, .int a2), (1, .int a1), (0, .ref (g.2.2 + 0))] → W p l e { frames := 2, cells := 0, slots := 0, locals := 46 } s m args below meth c H locs 0 0 Q (F0 m 82 ls []) := by
        intro H locs ls hP hS hl
        refine lv_iinc (v := (a2 + (1 : Int32))) (lv' := [(2, .int (a2 + (1 : Int32))), (1, .int a1), (0, .ref (g.2.2 + 0))]) hx hb dX7_writeString_82 hl (k := 0) rfl rfl (by decide) rfl (fun ls hl => ?_)
        refine lv_goto (tgt := 18) hx hb dX7_writeString_85 (by decide) ?_
        exact ih hf KK hP hS (lv_sub hl [0, 1, 2] rfl)
      have hf := ht
      refine lv_icmp_ge (tgt := 82) hx hb dX7_writeString_51 (by decide) (fun hc => ?_) (fun hc => ?_)
      · have hf := if_t hc hf
        cases hf
        exact K1 H locs ls hP hS (lv_sub hl [0, 1, 2] rfl)
      · have hf := if_f hc hf
        refine lv_aload_n hx hb dX7_writeString_54 rfl (lv_at hl 2 rfl) ?_
        refine lv_aload_n hx hb dX7_writeString_55 rfl (lv_at hl 2 rfl) ?_
        refine gf_X7_10 X hnI hP zk_0 dX7_writeString_56 ?_
        refine gf_X7_159 X hnI hP zk_1 dX7_writeString_59 ?_
        refine gf_X7_163 X hnI hP zk_12 dX7_writeString_62 ?_
        refine lv_iload_n hx hb dX7_writeString_65 rfl (lv_at hl 0 rfl) ?_
        obtain ⟨x5, hx5, hf⟩ := ob_e hf
        refine zr_cSi (rest := [.ref (g.2.2 + 0)]) (As := [.int (I4 12 0), .int a2]) X hP hS (ct_X7_has (g := g) (nc := nc) (I := I4) (J := J) (O := O)  l  hx5) cw_X7_215  rfl hl.1 (Nat.le_of_ble_eq_true rfl) ⟨Nat.le_of_ble_eq_true rfl, Nat.le_of_ble_eq_true rfl⟩ ⟨Nat.le_of_ble_eq_true rfl, Nat.le_of_ble_eq_true rfl⟩ dX7_writeString_66 rfl (fun H locs hP hS => ?_)
        obtain ⟨x6, ht, hf⟩ := pl_e hf
        have K2 : ∀ (H : Heap) (locs : List Loc) (ls : Array Slot), va_P g.1 vwCl (zb_ws g nc (zb_ce g I4 J O)) H → va_S (zb_A g) s.heap H locs → lv_has ls 3 [(2, .int a2), (1, .int a1), (0, .ref (g.2.2 + 0))] → W p l e { frames := 2, cells := 0, slots := 0, locals := 46 } s m args below meth c H locs 0 0 Q (F0 m 79 ls [.int x6, .ref (g.2.2 + 0)]) := by
          intro H locs ls hP hS hl
          obtain ⟨I7, hI7, hf⟩ := ob_e hf
          refine zr_cVv (rest := []) (As := [.int x6]) X hP hS (ct_X7_put (g := g) (nc := nc) (I := I4) (J := J) (O := O) hnI l  hI7) cw_X7_393 (zr_recv X hP (Nat.lt_of_lt_of_le (zk_0).1 hnI) (zb_ceIo zk_0 (by decide)) rfl) rfl hl.1 (Nat.le_of_ble_eq_true rfl) ⟨Nat.le_of_ble_eq_true rfl, Nat.le_of_ble_eq_true rfl⟩ ⟨Nat.le_of_ble_eq_true rfl, Nat.le_of_ble_eq_true rfl⟩ dX7_writeString_79 rfl (fun H locs hP hS => ?_)
          cases hf
          exact K1 H locs ls hP hS (lv_sub hl [0, 1, 2] rfl)
        have hf := ht
        refine lv_if_eq (tgt := 77) hx hb dX7_writeString_69 (by decide) (fun hc => ?_) (fun hc => ?_)
        · have hf := if_t hc hf
          refine lv_bipush (v := (45 : Int32)) hx hb dX7_writeString_77 (by decide) ?_
          cases hf
          exact K2 H locs ls hP hS (lv_sub hl [0, 1, 2] rfl)
        · have hf := if_f hc hf
          refine lv_bipush (v := (32 : Int32)) hx hb dX7_writeString_72 (by decide) ?_
          refine lv_goto (tgt := 79) hx hb dX7_writeString_74 (by decide) ?_
          cases hf
          exact K2 H locs ls hP hS (lv_sub hl [0, 1, 2] rfl)
set_option maxHeartbeats 4000000 in
set_option maxRecDepth 100000 in
theorem ct_X7_writeString {g : zb_G} {nc : Nat} (hnI : 306 ≤ nc) (l : Launch) {I J O : Mem} {r9 : Int32} {Iq : Mem} (hf : fX7_writeString I = some (r9, Iq)) : zb_Ct l g nc yX7_writeString cX7_writeString 3 (some .int) 2 46 [.ref (g.2.2 + 0)] (zb_ce g I J O) (some (.int r9)) (zb_ce g Iq J O) := by
  refine zb_ofW (own := RX7) (by decide +kernel) rfl (Nat.le_of_ble_eq_true rfl) ?_
  intro p e s m args below meth c ls X hr hP hl
  have hx := X.1.1
  have hb := X.1.2.1
  have ho := X.1.2.2.2.1
  have hts := X.1.2.2.2.2
  have hZ := X.2.2.2
  have hl : lv_has ls 3 [(0, .ref (g.2.2 + 0))] := hl
  have hS : va_S (zb_A g) s.heap s.heap [] := va_S.rf
  obtain ⟨H, hH⟩ : ∃ H, H = s.heap := ⟨_, rfl⟩
  obtain ⟨locs, hlocs⟩ : ∃ z : List Loc, z = [] := ⟨_, rfl⟩
  rw [← hH] at hP
  have hS : va_S (zb_A g) s.heap H locs := by rw [hH, hlocs]; exact hS
  show W p l e _ s m args below meth c s.heap [] 0 0 _ _
  rw [← hH, ← hlocs]
  rw [fX7_writeString] at hf
  refine lv_aload_n hx hb dX7_writeString_0 rfl (lv_at hl 0 rfl) ?_
  refine lv_iconst (v := (0 : Int32)) hx hb dX7_writeString_1 (by decide) ?_
  refine pf_X7_73 X hnI hP hS zk_0 dX7_writeString_2 (fun H locs hP hS => ?_)
  refine lv_aload_n hx hb dX7_writeString_5 rfl (lv_at hl 0 rfl) ?_
  refine gf_X7_10 X hnI hP zk_0 dX7_writeString_6 ?_
  refine gf_X7_88 X hnI hP zk_1 dX7_writeString_9 ?_
  refine gf_X7_133 X hnI hP zk_2 dX7_writeString_12 ?_
  refine lv_istore_n (lv' := [(1, .int ((wr I 0 15 (0 : Int32)) 2 0)), (0, .ref (g.2.2 + 0))]) hx hb dX7_writeString_15 rfl hl (by decide) rfl (fun ls hl => ?_)
  refine lv_iconst (v := (0 : Int32)) hx hb dX7_writeString_16 (by decide) ?_
  refine lv_istore_n (lv' := [(2, .int (0 : Int32)), (1, .int ((wr I 0 15 (0 : Int32)) 2 0)), (0, .ref (g.2.2 + 0))]) hx hb dX7_writeString_17 rfl hl (by decide) rfl (fun ls hl => ?_)
  obtain ⟨I9, hI9, hf⟩ := ob_e hf
  have K3 : ∀ (H : Heap) (locs : List Loc) (ls : Array Slot), va_P g.1 vwCl (zb_ws g nc (zb_ce g I9 J O)) H → va_S (zb_A g) s.heap H locs → lv_has ls 3 [(0, .ref (g.2.2 + 0))] → W p l e { frames := 2, cells := 0, slots := 0, locals := 46 } s m args below meth c H locs 0 0 (MQ below (zb_Po g nc (zb_ce g Iq J O) (some (.int r9))) args s 0 0 (zb_A g)) (F0 m 88 ls []) := by
    intro H locs ls hP hS hl
    refine lv_aload_n hx hb dX7_writeString_88 rfl (lv_at hl 0 rfl) ?_
    refine gf_X7_73 X hnI hP zk_0 dX7_writeString_89 ?_
    cases hf
    exact zr_iret X hr hP hS dX7_writeString_92
  exact lpX7_writeString_L18 hnI l  X hI9 K3 hP hS (lv_sub hl [0, 1, 2] rfl)
set_option maxHeartbeats 4000000 in
set_option maxRecDepth 100000 in
theorem lpX7_writeHours_L13 {g : zb_G} {nc : Nat} (hnI : 306 ≤ nc) (l : Launch) {J O : Mem} {p : Program} {e : Env} {s : State} {m : MethodId} {args : Array Value} {below : List Frame} {meth : Method} {c : Code} {Q : State → Prop} (X : zb_X g p m c cX7_writeHours 3 s args RX7 meth) : ∀ {n9 : Nat} {a1 : Int32} {I : Mem} {Iz : Mem} {H : Heap} {locs : List Loc} {ls : Array Slot}, fX7_writeHours_L13 n9 a1 I = some Iz → (∀ (H : Heap) (locs : List Loc) (ls : Array Slot), va_P g.1 vwCl (zb_ws g nc (zb_ce g Iz J O)) H → va_S (zb_A g) s.heap H locs → lv_has ls 3 [(0, .ref (g.2.2 + 0))] → W p l e { frames := 2, cells := 0, slots := 0, locals := 46 } s m args below meth c H locs 0 0 Q (F0 m 104 ls [])) → va_P g.1 vwCl (zb_ws g nc (zb_ce g I J O)) H → va_S (zb_A g) s.heap H locs → lv_has ls 3 [(1, .int a1), (0, .ref (g.2.2 + 0))] → W p l e { frames := 2, cells := 0, slots := 0, locals := 46 } s m args below meth c H locs 0 0 Q (F0 m 13 ls []) := by
  have hx := X.1.1
  have hb := X.1.2.1
  have ho := X.1.2.2.2.1
  have hts := X.1.2.2.2.2
  have hZ := X.2.2.2
  intro n9
  induction n9 with
  | zero =>
    intro a1 I Iz H locs ls hf
    exact nomatch hf
  | succ n9 ih =>
    intro a1 I Iz H locs ls hf KK hP hS hl
    rw [fX7_writeHours_L13] at hf
    refine lv_iload_n hx hb dX7_writeHours_13 rfl (lv_at hl 0 rfl) ?_
    refine lv_aload_n hx hb dX7_writeHours_14 rfl (lv_at hl 1 rfl) ?_
    refine gf_X7_10 X hnI hP zk_0 dX7_writeHours_15 ?_
    refine gf_X7_144 X hnI hP zk_1 dX7_writeHours_18 ?_
    refine lv_icmp_ge (tgt := 104) hx hb dX7_writeHours_21 (by decide) (fun hc => ?_) (fun hc => ?_)
    · have hf := if_t hc hf
      cases hf
      exact KK H locs ls hP hS (lv_sub hl [1] rfl)
    · have hf := if_f hc hf
      refine lv_aload_n hx hb dX7_writeHours_24 rfl (lv_at hl 1 rfl) ?_
      refine gf_X7_10 X hnI hP zk_0 dX7_writeHours_25 ?_
      refine lv_iload_n hx hb dX7_writeHours_28 rfl (lv_at hl 0 rfl) ?_
      obtain ⟨x2, hx2, hf⟩ := ob_e hf
      refine zr_cVi (rest := []) (As := [.int a1]) X hP hS (ct_X5_rowOf (g := g) (nc := nc) (I := I) (J := J) (O := O)  l zb_isB1 hx2) cw_X7_281 (zr_recv X hP (Nat.lt_of_lt_of_le (zk_1).1 hnI) (zb_ceIo zk_1 (by decide)) rfl) rfl hl.1 (Nat.le_of_ble_eq_true rfl) ⟨Nat.le_of_ble_eq_true rfl, Nat.le_of_ble_eq_true rfl⟩ ⟨Nat.le_of_ble_eq_true rfl, Nat.le_of_ble_eq_true rfl⟩ dX7_writeHours_29 rfl (fun H locs hP hS => ?_)
      refine lv_istore_n (lv' := [(2, .int x2), (1, .int a1), (0, .ref (g.2.2 + 0))]) hx hb dX7_writeHours_32 rfl hl (by decide) rfl (fun ls hl => ?_)
      refine lv_aload_n hx hb dX7_writeHours_33 rfl (lv_at hl 2 rfl) ?_
      refine gf_X7_73 X hnI hP zk_0 dX7_writeHours_34 ?_
      obtain ⟨I4, ht, hf⟩ := ob_e hf
      have K1 : ∀ (H : Heap) (locs : List Loc) (ls : Array Slot), va_P g.1 vwCl (zb_ws g nc (zb_ce g I4 J O)) H → va_S (zb_A g) s.heap H locs → lv_has ls 3 [(2, .int x2), (1, .int a1), (0, .ref (g.2.2 + 0))] → W p l e { frames := 2, cells := 0, slots := 0, locals := 46 } s m args below meth c H locs 0 0 Q (F0 m 46 ls []) := by
        intro H locs ls hP hS hl
        refine lv_aload_n hx hb dX7_writeHours_46 rfl (lv_at hl 2 rfl) ?_
        refine lv_iload_n hx hb dX7_writeHours_47 rfl (lv_at hl 1 rfl) ?_
        obtain ⟨I5, hI5, hf⟩ := ob_e hf
        refine zr_cVv (rest := []) (As := [.int a1]) X hP hS (ct_X7_putNumber (g := g) (nc := nc) (I := I4) (J := J) (O := O) hnI l  hI5) cw_X7_386 (zr_recv X hP (Nat.lt_of_lt_of_le (zk_0).1 hnI) (zb_ceIo zk_0 (by decide)) rfl) rfl hl.1 (Nat.le_of_ble_eq_true rfl) ⟨Nat.le_of_ble_eq_true rfl, Nat.le_of_ble_eq_true rfl⟩ ⟨Nat.le_of_ble_eq_true rfl, Nat.le_of_ble_eq_true rfl⟩ dX7_writeHours_48 rfl (fun H locs hP hS => ?_)
        refine lv_aload_n hx hb dX7_writeHours_51 rfl (lv_at hl 2 rfl) ?_
        refine gf_X7_10 X hnI hP zk_0 dX7_writeHours_52 ?_
        refine gf_X7_237 X hnI hP zk_1 dX7_writeHours_55 ?_
        refine gf_X7_249 X hnI hP zk_15 dX7_writeHours_58 ?_
        refine lv_iload_n hx hb dX7_writeHours_61 rfl (lv_at hl 0 rfl) ?_
        obtain ⟨x6, hx6, hf⟩ := ob_e hf
        refine zr_aldI X hP hnI zk_18 hx6 dX7_writeHours_62 ?_
        refine lv_iconst (v := (1 : Int32)) hx hb dX7_writeHours_63 (by decide) ?_
        obtain ⟨I11, ht, hf⟩ := ob_e hf
        have K2 : ∀ (H : Heap) (locs : List Loc) (ls : Array Slot), va_P g.1 vwCl (zb_ws g nc (zb_ce g I11 J O)) H → va_S (zb_A g) s.heap H locs → lv_has ls 3 [(1, .int a1), (0, .ref (g.2.2 + 0))] → W p l e { frames := 2, cells := 0, slots := 0, locals := 46 } s m args below meth c H locs 0 0 Q (F0 m 98 ls []) := by
          intro H locs ls hP hS hl
          refine lv_iinc (v := (a1 + (1 : Int32))) (lv' := [(1, .int (a1 + (1 : Int32))), (0, .ref (g.2.2 + 0))]) hx hb dX7_writeHours_98 hl (k := 0) rfl rfl (by decide) rfl (fun ls hl => ?_)
          refine lv_goto (tgt := 13) hx hb dX7_writeHours_101 (by decide) ?_
          exact ih hf KK hP hS (lv_sub hl [0, 1] rfl)
        have hf := ht
        refine lv_icmp_ne (tgt := 92) hx hb dX7_writeHours_64 (by decide) (fun hc => ?_) (fun hc => ?_)
        · have hf := if_f hc hf
          refine lv_aload_n hx hb dX7_writeHours_92 rfl (lv_at hl 2 rfl) ?_
          refine lv_bipush (v := (63 : Int32)) hx hb dX7_writeHours_93 (by decide) ?_
          obtain ⟨I7, hI7, hf⟩ := ob_e hf
          refine zr_cVv (rest := []) (As := [.int (63 : Int32)]) X hP hS (ct_X7_put (g := g) (nc := nc) (I := I5) (J := J) (O := O) hnI l  hI7) cw_X7_393 (zr_recv X hP (Nat.lt_of_lt_of_le (zk_0).1 hnI) (zb_ceIo zk_0 (by decide)) rfl) rfl hl.1 (Nat.le_of_ble_eq_true rfl) ⟨Nat.le_of_ble_eq_true rfl, Nat.le_of_ble_eq_true rfl⟩ ⟨Nat.le_of_ble_eq_true rfl, Nat.le_of_ble_eq_true rfl⟩ dX7_writeHours_95 rfl (fun H locs hP hS => ?_)
          cases hf
          exact K2 H locs ls hP hS (lv_sub hl [1, 2] rfl)
        · have hf := if_t hc hf
          refine lv_aload_n hx hb dX7_writeHours_67 rfl (lv_at hl 2 rfl) ?_
          refine lv_bipush (v := (61 : Int32)) hx hb dX7_writeHours_68 (by decide) ?_
          obtain ⟨I8, hI8, hf⟩ := ob_e hf
          refine zr_cVv (rest := []) (As := [.int (61 : Int32)]) X hP hS (ct_X7_put (g := g) (nc := nc) (I := I5) (J := J) (O := O) hnI l  hI8) cw_X7_393 (zr_recv X hP (Nat.lt_of_lt_of_le (zk_0).1 hnI) (zb_ceIo zk_0 (by decide)) rfl) rfl hl.1 (Nat.le_of_ble_eq_true rfl) ⟨Nat.le_of_ble_eq_true rfl, Nat.le_of_ble_eq_true rfl⟩ ⟨Nat.le_of_ble_eq_true rfl, Nat.le_of_ble_eq_true rfl⟩ dX7_writeHours_70 rfl (fun H locs hP hS => ?_)
          refine lv_aload_n hx hb dX7_writeHours_73 rfl (lv_at hl 2 rfl) ?_
          refine lv_aload_n hx hb dX7_writeHours_74 rfl (lv_at hl 2 rfl) ?_
          refine gf_X7_10 X hnI hP zk_0 dX7_writeHours_75 ?_
          refine gf_X7_237 X hnI hP zk_1 dX7_writeHours_78 ?_
          refine gf_X7_262 X hnI hP zk_15 dX7_writeHours_81 ?_
          refine lv_iload_n hx hb dX7_writeHours_84 rfl (lv_at hl 0 rfl) ?_
          obtain ⟨x9, hx9, hf⟩ := ob_e hf
          refine zr_aldI X hP hnI zk_19 hx9 dX7_writeHours_85 ?_
          obtain ⟨I10, hI10, hf⟩ := ob_e hf
          refine zr_cVv (rest := []) (As := [.int x9]) X hP hS (ct_X7_putNumber (g := g) (nc := nc) (I := I8) (J := J) (O := O) hnI l  hI10) cw_X7_386 (zr_recv X hP (Nat.lt_of_lt_of_le (zk_0).1 hnI) (zb_ceIo zk_0 (by decide)) rfl) rfl hl.1 (Nat.le_of_ble_eq_true rfl) ⟨Nat.le_of_ble_eq_true rfl, Nat.le_of_ble_eq_true rfl⟩ ⟨Nat.le_of_ble_eq_true rfl, Nat.le_of_ble_eq_true rfl⟩ dX7_writeHours_86 rfl (fun H locs hP hS => ?_)
          refine lv_goto (tgt := 98) hx hb dX7_writeHours_89 (by decide) ?_
          cases hf
          exact K2 H locs ls hP hS (lv_sub hl [1, 2] rfl)
      have hf := ht
      refine lv_if_le (tgt := 46) hx hb dX7_writeHours_37 (by decide) (fun hc => ?_) (fun hc => ?_)
      · have hf := if_t hc hf
        cases hf
        exact K1 H locs ls hP hS (lv_sub hl [0, 1, 2] rfl)
      · have hf := if_f hc hf
        refine lv_aload_n hx hb dX7_writeHours_40 rfl (lv_at hl 2 rfl) ?_
        refine lv_bipush (v := (32 : Int32)) hx hb dX7_writeHours_41 (by decide) ?_
        obtain ⟨I3, hI3, hf⟩ := ob_e hf
        refine zr_cVv (rest := []) (As := [.int (32 : Int32)]) X hP hS (ct_X7_put (g := g) (nc := nc) (I := I) (J := J) (O := O) hnI l  hI3) cw_X7_393 (zr_recv X hP (Nat.lt_of_lt_of_le (zk_0).1 hnI) (zb_ceIo zk_0 (by decide)) rfl) rfl hl.1 (Nat.le_of_ble_eq_true rfl) ⟨Nat.le_of_ble_eq_true rfl, Nat.le_of_ble_eq_true rfl⟩ ⟨Nat.le_of_ble_eq_true rfl, Nat.le_of_ble_eq_true rfl⟩ dX7_writeHours_43 rfl (fun H locs hP hS => ?_)
        cases hf
        exact K1 H locs ls hP hS (lv_sub hl [0, 1, 2] rfl)
set_option maxHeartbeats 4000000 in
set_option maxRecDepth 100000 in
theorem ct_X7_writeHours {g : zb_G} {nc : Nat} (hnI : 306 ≤ nc) (l : Launch) {I J O : Mem} {r9 : Int32} {Iq : Mem} (hf : fX7_writeHours I = some (r9, Iq)) : zb_Ct l g nc yX7_writeHours cX7_writeHours 3 (some .int) 2 46 [.ref (g.2.2 + 0)] (zb_ce g I J O) (some (.int r9)) (zb_ce g Iq J O) := by
  refine zb_ofW (own := RX7) (by decide +kernel) rfl (Nat.le_of_ble_eq_true rfl) ?_
  intro p e s m args below meth c ls X hr hP hl
  have hx := X.1.1
  have hb := X.1.2.1
  have ho := X.1.2.2.2.1
  have hts := X.1.2.2.2.2
  have hZ := X.2.2.2
  have hl : lv_has ls 3 [(0, .ref (g.2.2 + 0))] := hl
  have hS : va_S (zb_A g) s.heap s.heap [] := va_S.rf
  obtain ⟨H, hH⟩ : ∃ H, H = s.heap := ⟨_, rfl⟩
  obtain ⟨locs, hlocs⟩ : ∃ z : List Loc, z = [] := ⟨_, rfl⟩
  rw [← hH] at hP
  have hS : va_S (zb_A g) s.heap H locs := by rw [hH, hlocs]; exact hS
  show W p l e _ s m args below meth c s.heap [] 0 0 _ _
  rw [← hH, ← hlocs]
  rw [fX7_writeHours] at hf
  refine lv_aload_n hx hb dX7_writeHours_0 rfl (lv_at hl 0 rfl) ?_
  refine lv_iconst (v := (0 : Int32)) hx hb dX7_writeHours_1 (by decide) ?_
  refine pf_X7_73 X hnI hP hS zk_0 dX7_writeHours_2 (fun H locs hP hS => ?_)
  refine lv_aload_n hx hb dX7_writeHours_5 rfl (lv_at hl 0 rfl) ?_
  refine gf_X7_10 X hnI hP zk_0 dX7_writeHours_6 ?_
  obtain ⟨x1, hx1, hf⟩ := ob_e hf
  refine zr_cVi (rest := []) (As := []) X hP hS (ct_X5_firstKept (g := g) (nc := nc) (I := (wr I 0 15 (0 : Int32))) (J := J) (O := O) hnI l zb_isB1 hx1) cw_X7_147 (zr_recv X hP (Nat.lt_of_lt_of_le (zk_1).1 hnI) (zb_ceIo zk_1 (by decide)) rfl) rfl hl.1 (Nat.le_of_ble_eq_true rfl) ⟨Nat.le_of_ble_eq_true rfl, Nat.le_of_ble_eq_true rfl⟩ ⟨Nat.le_of_ble_eq_true rfl, Nat.le_of_ble_eq_true rfl⟩ dX7_writeHours_9 rfl (fun H locs hP hS => ?_)
  refine lv_istore_n (lv' := [(1, .int x1), (0, .ref (g.2.2 + 0))]) hx hb dX7_writeHours_12 rfl hl (by decide) rfl (fun ls hl => ?_)
  obtain ⟨I12, hI12, hf⟩ := ob_e hf
  have K3 : ∀ (H : Heap) (locs : List Loc) (ls : Array Slot), va_P g.1 vwCl (zb_ws g nc (zb_ce g I12 J O)) H → va_S (zb_A g) s.heap H locs → lv_has ls 3 [(0, .ref (g.2.2 + 0))] → W p l e { frames := 2, cells := 0, slots := 0, locals := 46 } s m args below meth c H locs 0 0 (MQ below (zb_Po g nc (zb_ce g Iq J O) (some (.int r9))) args s 0 0 (zb_A g)) (F0 m 104 ls []) := by
    intro H locs ls hP hS hl
    refine lv_aload_n hx hb dX7_writeHours_104 rfl (lv_at hl 0 rfl) ?_
    refine gf_X7_73 X hnI hP zk_0 dX7_writeHours_105 ?_
    cases hf
    exact zr_iret X hr hP hS dX7_writeHours_108
  exact lpX7_writeHours_L13 hnI l  X hI12 K3 hP hS (lv_sub hl [0, 1] rfl)
set_option maxHeartbeats 4000000 in
set_option maxRecDepth 100000 in
theorem ct_X7_output {g : zb_G} {nc : Nat} (hnI : 306 ≤ nc) (l : Launch) {a1 : Int32} {I J O : Mem} {r9 : Int32} (hf : fX7_output a1 I = some (0, r9)) : zb_Ct l g nc yX7_output cX7_output 2 (some .int) 6 125 [.ref (g.2.2 + 0), .int a1] (zb_ce g I J O) (some (.int r9)) (zb_ce g I J O) := by
  refine zb_ofW (own := RX7) (by decide +kernel) rfl (Nat.le_of_ble_eq_true rfl) ?_
  intro p e s m args below meth c ls X hr hP hl
  have hx := X.1.1
  have hb := X.1.2.1
  have ho := X.1.2.2.2.1
  have hts := X.1.2.2.2.2
  have hZ := X.2.2.2
  have hl : lv_has ls 2 [(0, .ref (g.2.2 + 0)), (1, .int a1)] := hl
  have hS : va_S (zb_A g) s.heap s.heap [] := va_S.rf
  obtain ⟨H, hH⟩ : ∃ H, H = s.heap := ⟨_, rfl⟩
  obtain ⟨locs, hlocs⟩ : ∃ z : List Loc, z = [] := ⟨_, rfl⟩
  rw [← hH] at hP
  have hS : va_S (zb_A g) s.heap H locs := by rw [hH, hlocs]; exact hS
  show W p l e _ s m args below meth c s.heap [] 0 0 _ _
  rw [← hH, ← hlocs]
  rw [fX7_output] at hf
  refine lv_iload_n hx hb dX7_output_0 rfl (lv_at hl 1 rfl) ?_
  refine lv_if_lt (tgt := 12) hx hb dX7_output_1 (by decide) (fun hc => ?_) (fun hc => ?_)
  · have hf := if_t hc hf
    exact (thr_ne (by decide) hf).elim
  · have hf := if_f hc hf
    refine lv_iload_n hx hb dX7_output_4 rfl (lv_at hl 1 rfl) ?_
    refine lv_aload_n hx hb dX7_output_5 rfl (lv_at hl 0 rfl) ?_
    refine gf_X7_73 X hnI hP zk_0 dX7_output_6 ?_
    refine lv_icmp_lt (tgt := 23) hx hb dX7_output_9 (by decide) (fun hc => ?_) (fun hc => ?_)
    · have hf := if_t hc hf
      refine lv_aload_n hx hb dX7_output_23 rfl (lv_at hl 0 rfl) ?_
      refine gf_X7_70 X hnI hP zk_0 dX7_output_24 ?_
      refine lv_iload_n hx hb dX7_output_27 rfl (lv_at hl 1 rfl) ?_
      obtain ⟨x1, hx1, hf⟩ := ob_e hf
      refine zr_aldI X hP hnI zk_65 hx1 dX7_output_28 ?_
      cases hf
      exact zr_iret X hr hP hS dX7_output_29
    · have hf := if_f hc hf
      exact (thr_ne (by decide) hf).elim
set_option maxHeartbeats 4000000 in
set_option maxRecDepth 100000 in
theorem ct_X7_undo {g : zb_G} {nc : Nat} (hnI : 306 ≤ nc) (l : Launch) {I J O : Mem} {r9 : Int32} {Iq : Mem} (hf : fX7_undo I = some (0, r9, Iq)) : zb_Ct l g nc yX7_undo cX7_undo 1 (some .int) 6 125 [.ref (g.2.2 + 0)] (zb_ce g I J O) (some (.int r9)) (zb_ce g Iq J O) := by
  refine zb_ofW (own := RX7) (by decide +kernel) rfl (Nat.le_of_ble_eq_true rfl) ?_
  intro p e s m args below meth c ls X hr hP hl
  have hx := X.1.1
  have hb := X.1.2.1
  have ho := X.1.2.2.2.1
  have hts := X.1.2.2.2.2
  have hZ := X.2.2.2
  have hl : lv_has ls 1 [(0, .ref (g.2.2 + 0))] := hl
  have hS : va_S (zb_A g) s.heap s.heap [] := va_S.rf
  obtain ⟨H, hH⟩ : ∃ H, H = s.heap := ⟨_, rfl⟩
  obtain ⟨locs, hlocs⟩ : ∃ z : List Loc, z = [] := ⟨_, rfl⟩
  rw [← hH] at hP
  have hS : va_S (zb_A g) s.heap H locs := by rw [hH, hlocs]; exact hS
  show W p l e _ s m args below meth c s.heap [] 0 0 _ _
  rw [← hH, ← hlocs]
  rw [fX7_undo] at hf
  refine lv_aload_n hx hb dX7_undo_0 rfl (lv_at hl 0 rfl) ?_
  refine gf_X7_23 X hnI hP zk_0 dX7_undo_1 ?_
  refine lv_if_ne (tgt := 18) hx hb dX7_undo_4 (by decide) (fun hc => ?_) (fun hc => ?_)
  · have hf := if_f hc hf
    refine lv_aload_n hx hb dX7_undo_18 rfl (lv_at hl 0 rfl) ?_
    refine lv_aload_n hx hb dX7_undo_19 rfl (lv_at hl 0 rfl) ?_
    refine gf_X7_27 X hnI hP zk_0 dX7_undo_20 ?_
    refine lv_iconst (v := (1 : Int32)) hx hb dX7_undo_23 (by decide) ?_
    refine lv_isub hx hb dX7_undo_24 ?_
    refine lv_bipush (v := (8 : Int32)) hx hb dX7_undo_25 (by decide) ?_
    obtain ⟨x1, hx1, hf⟩ := ob_e hf
    refine zr_cSi (rest := [.ref (g.2.2 + 0)]) (As := [.int ((I 0 4) - (1 : Int32)), .int (8 : Int32)]) X hP hS (ct_J9_floorMod_7cf53 (g := g) (nc := nc) (I := I) (J := J) (O := O)  l  hx1) cw_X7_403  rfl hl.1 (Nat.le_of_ble_eq_true rfl) ⟨Nat.le_of_ble_eq_true rfl, Nat.le_of_ble_eq_true rfl⟩ ⟨Nat.le_of_ble_eq_true rfl, Nat.le_of_ble_eq_true rfl⟩ dX7_undo_27 rfl (fun H locs hP hS => ?_)
    refine pf_X7_27 X hnI hP hS zk_0 dX7_undo_30 (fun H locs hP hS => ?_)
    refine lv_aload_n hx hb dX7_undo_33 rfl (lv_at hl 0 rfl) ?_
    refine lv_dup hx hb dX7_undo_34 rfl ?_
    refine gf_X7_23 X hnI hP zk_0 dX7_undo_35 ?_
    refine lv_iconst (v := (1 : Int32)) hx hb dX7_undo_38 (by decide) ?_
    refine lv_isub hx hb dX7_undo_39 ?_
    refine pf_X7_23 X hnI hP hS zk_0 dX7_undo_40 (fun H locs hP hS => ?_)
    refine lv_aload_n hx hb dX7_undo_43 rfl (lv_at hl 0 rfl) ?_
    refine gf_X7_10 X hnI hP zk_0 dX7_undo_44 ?_
    refine lv_aload_n hx hb dX7_undo_47 rfl (lv_at hl 0 rfl) ?_
    refine gf_X7_19 X hnI hP zk_0 dX7_undo_48 ?_
    refine lv_aload_n hx hb dX7_undo_51 rfl (lv_at hl 0 rfl) ?_
    refine gf_X7_27 X hnI hP zk_0 dX7_undo_52 ?_
    obtain ⟨j2, hj2, hf⟩ := ob_e hf
    refine zr_rld X hP hnI zk_49 hj2 dX7_undo_55 ?_
    obtain ⟨I3, hI3, hf⟩ := ob_e hf
    refine zr_cVv (rest := []) (As := [.ref (g.2.2 + (66 + 24 * j2))]) X hP hS (ct_X5_copyFrom (g := g) (nc := nc) (I := (wr (wr I 0 4 x1) 0 3 (((wr I 0 4 x1) 0 3) - (1 : Int32)))) (J := J) (O := O) hnI l zb_isB1 (zb_isBp (rld_e hj2).2.2) hI3) cw_X7_129 (zr_recv X hP (Nat.lt_of_lt_of_le (zk_1).1 hnI) (zb_ceIo zk_1 (by decide)) rfl) rfl hl.1 (Nat.le_of_ble_eq_true rfl) ⟨Nat.le_of_ble_eq_true rfl, Nat.le_of_ble_eq_true rfl⟩ ⟨Nat.le_of_ble_eq_true rfl, Nat.le_of_ble_eq_true rfl⟩ dX7_undo_56 rfl (fun H locs hP hS => ?_)
    refine lv_aload_n hx hb dX7_undo_59 rfl (lv_at hl 0 rfl) ?_
    refine gf_X7_23 X hnI hP zk_0 dX7_undo_60 ?_
    cases hf
    exact zr_iret X hr hP hS dX7_undo_63
  · have hf := if_t hc hf
    exact (thr_ne (by decide) hf).elim
set_option maxHeartbeats 4000000 in
set_option maxRecDepth 100000 in
theorem ct_X7_checkSlot {g : zb_G} {nc : Nat} (l : Launch) {a1 : Int32} {I J O : Mem} (hf : fX7_checkSlot a1 = some 0) : zb_Ct l g nc yX7_checkSlot cX7_checkSlot 2 none 6 125 [.ref (g.2.2 + 0), .int a1] (zb_ce g I J O) none (zb_ce g I J O) := by
  refine zb_ofW (own := RX7) (by decide +kernel) rfl (Nat.le_of_ble_eq_true rfl) ?_
  intro p e s m args below meth c ls X hr hP hl
  have hx := X.1.1
  have hb := X.1.2.1
  have ho := X.1.2.2.2.1
  have hts := X.1.2.2.2.2
  have hZ := X.2.2.2
  have hl : lv_has ls 2 [(0, .ref (g.2.2 + 0)), (1, .int a1)] := hl
  have hS : va_S (zb_A g) s.heap s.heap [] := va_S.rf
  obtain ⟨H, hH⟩ : ∃ H, H = s.heap := ⟨_, rfl⟩
  obtain ⟨locs, hlocs⟩ : ∃ z : List Loc, z = [] := ⟨_, rfl⟩
  rw [← hH] at hP
  have hS : va_S (zb_A g) s.heap H locs := by rw [hH, hlocs]; exact hS
  show W p l e _ s m args below meth c s.heap [] 0 0 _ _
  rw [← hH, ← hlocs]
  rw [fX7_checkSlot] at hf
  refine lv_iload_n hx hb dX7_checkSlot_0 rfl (lv_at hl 1 rfl) ?_
  refine lv_if_lt (tgt := 9) hx hb dX7_checkSlot_1 (by decide) (fun hc => ?_) (fun hc => ?_)
  · have hf := if_t hc hf
    exact (thr_ne1 (by decide) hf).elim
  · have hf := if_f hc hf
    refine lv_iload_n hx hb dX7_checkSlot_4 rfl (lv_at hl 1 rfl) ?_
    refine lv_iconst (v := (2 : Int32)) hx hb dX7_checkSlot_5 (by decide) ?_
    refine lv_icmp_lt (tgt := 20) hx hb dX7_checkSlot_6 (by decide) (fun hc => ?_) (fun hc => ?_)
    · have hf := if_t hc hf
      exact zr_vret X hr hP hS rfl dX7_checkSlot_20
    · have hf := if_f hc hf
      exact (thr_ne1 (by decide) hf).elim
