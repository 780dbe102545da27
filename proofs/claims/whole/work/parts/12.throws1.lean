set_option maxHeartbeats 4000000 in
set_option maxRecDepth 100000 in
theorem cx_X7_append {g : zb_G} {nc : Nat} (hnI : 306 ≤ nc) (l : Launch) (hlT : l.stackTraces = false) {a1 : Int32} {a2 : Int32} {a3 : Int32} {a4 : Int32} {a5 : Int32} {I J O : Mem} {r9 : Int32} {Iq : Mem} {E0 : Nat} (hE : ¬ E0 = 0) (hf : fX7_append a1 a2 a3 a4 a5 I = some (E0, r9, Iq)) : zb_Cx l g nc yX7_append cX7_append 7 (some .int) 6 125 [.ref (g.2.2 + 0), .int a1, .int a2, .int a3, .int a4, .int a5] (zb_ce g I J O) (zb_en E0) (zb_ce g Iq J O) := by
  refine zb_ofX (own := RX7) (by decide +kernel) rfl (Nat.le_of_ble_eq_true rfl) ?_
  intro p e s m args below meth c ls X hr hP hl hout
  have hx := X.1.1
  have hb := X.1.2.1
  have ho := X.1.2.2.2.1
  have hts := X.1.2.2.2.2
  have hZ := X.2.2.2
  have hl : lv_has ls 7 [(0, .ref (g.2.2 + 0)), (1, .int a1), (2, .int a2), (3, .int a3), (4, .int a4), (5, .int a5)] := hl
  have hS : va_S (zb_A g) s.heap s.heap [] := va_S.rf
  obtain ⟨H, hH⟩ : ∃ H, H = s.heap := ⟨_, rfl⟩
  obtain ⟨locs, hlocs⟩ : ∃ z : List Loc, z = [] := ⟨_, rfl⟩
  rw [← hH] at hP
  have hS : va_S (zb_A g) s.heap H locs := by rw [hH, hlocs]; exact hS
  show W p l e _ s m args below meth c s.heap [] 0 0 _ _
  rw [← hH, ← hlocs]
  rw [fX7_append] at hf
  refine lv_iload_n hx hb dX7_append_0 rfl (lv_at hl 1 rfl) ?_
  obtain ⟨x1, hx1, hf⟩ := ob_e hf
  refine zr_cSi (rest := []) (As := [.int a1]) X hP hS (ct_X7_bytesIn (g := g) (nc := nc) (I := I) (J := J) (O := O)  l  hx1) cw_X7_98  rfl hl.1 (Nat.le_of_ble_eq_true rfl) ⟨Nat.le_of_ble_eq_true rfl, Nat.le_of_ble_eq_true rfl⟩ ⟨Nat.le_of_ble_eq_true rfl, Nat.le_of_ble_eq_true rfl⟩ dX7_append_1 rfl (fun H locs hP hS => ?_)
  refine lv_iload_n hx hb dX7_append_4 rfl (lv_at hl 2 rfl) ?_
  obtain ⟨x2, hx2, hf⟩ := ob_e hf
  refine zr_cSi (rest := [.int x1]) (As := [.int a2]) X hP hS (ct_X7_bytesIn (g := g) (nc := nc) (I := I) (J := J) (O := O)  l  hx2) cw_X7_98  rfl hl.1 (Nat.le_of_ble_eq_true rfl) ⟨Nat.le_of_ble_eq_true rfl, Nat.le_of_ble_eq_true rfl⟩ ⟨Nat.le_of_ble_eq_true rfl, Nat.le_of_ble_eq_true rfl⟩ dX7_append_5 rfl (fun H locs hP hS => ?_)
  refine lv_iadd hx hb dX7_append_8 ?_
  refine lv_iload_n hx hb dX7_append_9 rfl (lv_at hl 3 rfl) ?_
  obtain ⟨x3, hx3, hf⟩ := ob_e hf
  refine zr_cSi (rest := [.int (x1 + x2)]) (As := [.int a3]) X hP hS (ct_X7_bytesIn (g := g) (nc := nc) (I := I) (J := J) (O := O)  l  hx3) cw_X7_98  rfl hl.1 (Nat.le_of_ble_eq_true rfl) ⟨Nat.le_of_ble_eq_true rfl, Nat.le_of_ble_eq_true rfl⟩ ⟨Nat.le_of_ble_eq_true rfl, Nat.le_of_ble_eq_true rfl⟩ dX7_append_10 rfl (fun H locs hP hS => ?_)
  refine lv_iadd hx hb dX7_append_13 ?_
  refine lv_iload hx hb dX7_append_14 (lv_at hl 4 rfl) ?_
  obtain ⟨x4, hx4, hf⟩ := ob_e hf
  refine zr_cSi (rest := [.int ((x1 + x2) + x3)]) (As := [.int a4]) X hP hS (ct_X7_bytesIn (g := g) (nc := nc) (I := I) (J := J) (O := O)  l  hx4) cw_X7_98  rfl hl.1 (Nat.le_of_ble_eq_true rfl) ⟨Nat.le_of_ble_eq_true rfl, Nat.le_of_ble_eq_true rfl⟩ ⟨Nat.le_of_ble_eq_true rfl, Nat.le_of_ble_eq_true rfl⟩ dX7_append_16 rfl (fun H locs hP hS => ?_)
  refine lv_iadd hx hb dX7_append_19 ?_
  refine lv_iload hx hb dX7_append_20 (lv_at hl 5 rfl) ?_
  obtain ⟨x5, hx5, hf⟩ := ob_e hf
  refine zr_cSi (rest := [.int (((x1 + x2) + x3) + x4)]) (As := [.int a5]) X hP hS (ct_X7_bytesIn (g := g) (nc := nc) (I := I) (J := J) (O := O)  l  hx5) cw_X7_98  rfl hl.1 (Nat.le_of_ble_eq_true rfl) ⟨Nat.le_of_ble_eq_true rfl, Nat.le_of_ble_eq_true rfl⟩ ⟨Nat.le_of_ble_eq_true rfl, Nat.le_of_ble_eq_true rfl⟩ dX7_append_22 rfl (fun H locs hP hS => ?_)
  refine lv_iadd hx hb dX7_append_25 ?_
  refine lv_istore (lv' := [(6, .int ((((x1 + x2) + x3) + x4) + x5)), (0, .ref (g.2.2 + 0)), (1, .int a1), (2, .int a2), (3, .int a3), (4, .int a4), (5, .int a5)]) hx hb dX7_append_26 hl (by decide) rfl (fun ls hl => ?_)
  refine lv_aload_n hx hb dX7_append_28 rfl (lv_at hl 1 rfl) ?_
  refine gf_X7_53 X hnI hP zk_0 dX7_append_29 ?_
  refine gf_X7_102 X hnI hP zk_56 dX7_append_32 ?_
  refine lv_iload hx hb dX7_append_35 (lv_at hl 0 rfl) ?_
  refine lv_iadd hx hb dX7_append_37 ?_
  refine lv_sipush (v := (500 : Int32)) hx hb dX7_append_38 (by decide) ?_
  refine lv_icmp_le (tgt := 54) hx hb dX7_append_41 (by decide) (fun hc => ?_) (fun hc => ?_)
  · have hf := if_t hc hf
    exfalso
    obtain ⟨I6, hI6, hf⟩ := ob_e hf
    obtain ⟨I7, hI7, hf⟩ := ob_e hf
    obtain ⟨I8, hI8, hf⟩ := ob_e hf
    obtain ⟨I9, hI9, hf⟩ := ob_e hf
    obtain ⟨I10, hI10, hf⟩ := ob_e hf
    cases hf
    exact hE rfl
  · have hf := if_f hc hf
    cases hf
    exact zr_throwS (rest := []) hlT X hP hS hl.1 th_3 (hZ.2.2.2.2 0 (by decide)) hout (Nat.le_of_ble_eq_true rfl) (Nat.le_of_ble_eq_true rfl) (Nat.le_of_ble_eq_true rfl) (Nat.le_of_ble_eq_true rfl) dX7_append_44 dX7_append_47 dX7_append_48 dX7_append_50 dX7_append_53
set_option maxHeartbeats 4000000 in
set_option maxRecDepth 100000 in
theorem cx_X7_checkBuoy {g : zb_G} {nc : Nat} (hnI : 306 ≤ nc) (l : Launch) (hlT : l.stackTraces = false) {a1 : Int32} {I J O : Mem} {E0 : Nat} (hE : ¬ E0 = 0) (hf : fX7_checkBuoy a1 I = some E0) : zb_Cx l g nc yX7_checkBuoy cX7_checkBuoy 2 none 6 125 [.ref (g.2.2 + 0), .int a1] (zb_ce g I J O) (zb_en E0) (zb_ce g I J O) := by
  refine zb_ofX (own := RX7) (by decide +kernel) rfl (Nat.le_of_ble_eq_true rfl) ?_
  intro p e s m args below meth c ls X hr hP hl hout
  have hx := X.1.1
  have hb := X.1.2.1
  have ho := X.1.2.2.2.1
  have hts := X.1.2.2.2.2
  have hZ := X.2.2.2
  have hl : lv_has ls 2 [(0, .ref (g.2.2 + 0)), (1, .int a1)] := hl
  have hS : va_S (zb_A g) s.heap s.heap [] := va_S.rf
  obtain ⟨H, hH⟩ : ∃ H, H = s.heap := ⟨_, rfl⟩
  obtain ⟨locs, hlocs⟩ : ∃ z : List Loc, z = [] := ⟨_, rfl⟩
  rw [← hH] at hP
  have hS : va_S (zb_A g) s.heap H locs := by rw [hH, hlocs]; exact hS
  show W p l e _ s m args below meth c s.heap [] 0 0 _ _
  rw [← hH, ← hlocs]
  rw [fX7_checkBuoy] at hf
  refine lv_iload_n hx hb dX7_checkBuoy_0 rfl (lv_at hl 1 rfl) ?_
  refine lv_if_lt (tgt := 18) hx hb dX7_checkBuoy_1 (by decide) (fun hc => ?_) (fun hc => ?_)
  · have hf := if_t hc hf
    cases hf
    exact zr_throwW (rest := []) hlT X hP hS hl.1 th_1 (hZ.2.2.2.2 15 (by decide)) hout (Nat.le_of_ble_eq_true rfl) (Nat.le_of_ble_eq_true rfl) (Nat.le_of_ble_eq_true rfl) (Nat.le_of_ble_eq_true rfl) dX7_checkBuoy_18 dX7_checkBuoy_21 dX7_checkBuoy_22 dX7_checkBuoy_25 dX7_checkBuoy_28
  · have hf := if_f hc hf
    refine lv_iload_n hx hb dX7_checkBuoy_4 rfl (lv_at hl 1 rfl) ?_
    refine lv_aload_n hx hb dX7_checkBuoy_5 rfl (lv_at hl 0 rfl) ?_
    refine gf_X7_10 X hnI hP zk_0 dX7_checkBuoy_6 ?_
    refine gf_X7_88 X hnI hP zk_1 dX7_checkBuoy_9 ?_
    refine gf_X7_133 X hnI hP zk_2 dX7_checkBuoy_12 ?_
    refine lv_icmp_lt (tgt := 29) hx hb dX7_checkBuoy_15 (by decide) (fun hc => ?_) (fun hc => ?_)
    · have hf := if_t hc hf
      exfalso
      cases hf
      exact hE rfl
    · have hf := if_f hc hf
      cases hf
      exact zr_throwW (rest := []) hlT X hP hS hl.1 th_1 (hZ.2.2.2.2 15 (by decide)) hout (Nat.le_of_ble_eq_true rfl) (Nat.le_of_ble_eq_true rfl) (Nat.le_of_ble_eq_true rfl) (Nat.le_of_ble_eq_true rfl) dX7_checkBuoy_18 dX7_checkBuoy_21 dX7_checkBuoy_22 dX7_checkBuoy_25 dX7_checkBuoy_28
set_option maxHeartbeats 4000000 in
set_option maxRecDepth 100000 in
theorem cx_X7_report {g : zb_G} {nc : Nat} (hnI : 306 ≤ nc) (l : Launch) (hlT : l.stackTraces = false) {a1 : Int32} {a2 : Int32} {I J O : Mem} {r9 : Int32} {Iq : Mem} {E0 : Nat} (hE : ¬ E0 = 0) (hf : fX7_report a1 a2 I = some (E0, r9, Iq)) : zb_Cx l g nc yX7_report cX7_report 3 (some .int) 7 146 [.ref (g.2.2 + 0), .int a1, .int a2] (zb_ce g I J O) (zb_en E0) (zb_ce g Iq J O) := by
  refine zb_ofX (own := RX7) (by decide +kernel) rfl (Nat.le_of_ble_eq_true rfl) ?_
  intro p e s m args below meth c ls X hr hP hl hout
  have hx := X.1.1
  have hb := X.1.2.1
  have ho := X.1.2.2.2.1
  have hts := X.1.2.2.2.2
  have hZ := X.2.2.2
  have hl : lv_has ls 3 [(0, .ref (g.2.2 + 0)), (1, .int a1), (2, .int a2)] := hl
  have hS : va_S (zb_A g) s.heap s.heap [] := va_S.rf
  obtain ⟨H, hH⟩ : ∃ H, H = s.heap := ⟨_, rfl⟩
  obtain ⟨locs, hlocs⟩ : ∃ z : List Loc, z = [] := ⟨_, rfl⟩
  rw [← hH] at hP
  have hS : va_S (zb_A g) s.heap H locs := by rw [hH, hlocs]; exact hS
  show W p l e _ s m args below meth c s.heap [] 0 0 _ _
  rw [← hH, ← hlocs]
  rw [fX7_report] at hf
  refine lv_aload_n hx hb dX7_report_0 rfl (lv_at hl 0 rfl) ?_
  refine lv_iload_n hx hb dX7_report_1 rfl (lv_at hl 1 rfl) ?_
  obtain ⟨e1, he1, hf⟩ := ob_e hf
  rcases Classical.em (e1 = 0) with he | he
  · have hf := if_t he hf
    rw [he] at he1
    refine zr_cVv (rest := []) (As := [.int a1]) X hP hS (ct_X7_checkBuoy (g := g) (nc := nc) (I := I) (J := J) (O := O) hnI l  he1) cw_X7_185 (zr_recv X hP (Nat.lt_of_lt_of_le (zk_0).1 hnI) (zb_ceIo zk_0 (by decide)) rfl) rfl hl.1 (Nat.le_of_ble_eq_true rfl) ⟨Nat.le_of_ble_eq_true rfl, Nat.le_of_ble_eq_true rfl⟩ ⟨Nat.le_of_ble_eq_true rfl, Nat.le_of_ble_eq_true rfl⟩ dX7_report_2 rfl (fun H locs hP hS => ?_)
    refine lv_iload_n hx hb dX7_report_5 rfl (lv_at hl 2 rfl) ?_
    refine lv_sipush (v := (-9999 : Int32)) hx hb dX7_report_6 (by decide) ?_
    refine lv_icmp_lt (tgt := 19) hx hb dX7_report_9 (by decide) (fun hc => ?_) (fun hc => ?_)
    · have hf := if_t hc hf
      cases hf
      exact zr_throwW (rest := []) hlT X hP hS hl.1 th_2 (hZ.2.2.2.2 7 (by decide)) hout (Nat.le_of_ble_eq_true rfl) (Nat.le_of_ble_eq_true rfl) (Nat.le_of_ble_eq_true rfl) (Nat.le_of_ble_eq_true rfl) dX7_report_19 dX7_report_22 dX7_report_23 dX7_report_26 dX7_report_29
    · have hf := if_f hc hf
      refine lv_iload_n hx hb dX7_report_12 rfl (lv_at hl 2 rfl) ?_
      refine lv_sipush (v := (9999 : Int32)) hx hb dX7_report_13 (by decide) ?_
      refine lv_icmp_le (tgt := 30) hx hb dX7_report_16 (by decide) (fun hc => ?_) (fun hc => ?_)
      · have hf := if_t hc hf
        exfalso
        obtain ⟨I2, hI2, hf⟩ := ob_e hf
        obtain ⟨I3, hI3, hf⟩ := ob_e hf
        obtain ⟨x4, hx4, hf⟩ := ob_e hf
        cases hf
        exact hE rfl
      · have hf := if_f hc hf
        cases hf
        exact zr_throwW (rest := []) hlT X hP hS hl.1 th_2 (hZ.2.2.2.2 7 (by decide)) hout (Nat.le_of_ble_eq_true rfl) (Nat.le_of_ble_eq_true rfl) (Nat.le_of_ble_eq_true rfl) (Nat.le_of_ble_eq_true rfl) dX7_report_19 dX7_report_22 dX7_report_23 dX7_report_26 dX7_report_29
  · have hf := if_f he hf
    cases hf
    exact zr_xV (rest := []) (As := [.int a1]) X hP hS (cx_X7_checkBuoy (g := g) (nc := nc) (I := I) (J := J) (O := O) hnI l hlT  he he1) cw_X7_185 (zr_recv X hP (Nat.lt_of_lt_of_le (zk_0).1 hnI) (zb_ceIo zk_0 (by decide)) rfl) rfl hl.1 (Nat.le_of_ble_eq_true rfl) ⟨Nat.le_of_ble_eq_true rfl, Nat.le_of_ble_eq_true rfl⟩ ⟨Nat.le_of_ble_eq_true rfl, Nat.le_of_ble_eq_true rfl⟩ dX7_report_2 rfl hout
set_option maxHeartbeats 4000000 in
set_option maxRecDepth 100000 in
theorem cx_X7_checkForce {g : zb_G} {nc : Nat} (l : Launch) (hlT : l.stackTraces = false) {a1 : Int32} {I J O : Mem} {E0 : Nat} (hE : ¬ E0 = 0) (hf : fX7_checkForce a1 = some E0) : zb_Cx l g nc yX7_checkForce cX7_checkForce 2 none 6 125 [.ref (g.2.2 + 0), .int a1] (zb_ce g I J O) (zb_en E0) (zb_ce g I J O) := by
  refine zb_ofX (own := RX7) (by decide +kernel) rfl (Nat.le_of_ble_eq_true rfl) ?_
  intro p e s m args below meth c ls X hr hP hl hout
  have hx := X.1.1
  have hb := X.1.2.1
  have ho := X.1.2.2.2.1
  have hts := X.1.2.2.2.2
  have hZ := X.2.2.2
  have hl : lv_has ls 2 [(0, .ref (g.2.2 + 0)), (1, .int a1)] := hl
  have hS : va_S (zb_A g) s.heap s.heap [] := va_S.rf
  obtain ⟨H, hH⟩ : ∃ H, H = s.heap := ⟨_, rfl⟩
  obtain ⟨locs, hlocs⟩ : ∃ z : List Loc, z = [] := ⟨_, rfl⟩
  rw [← hH] at hP
  have hS : va_S (zb_A g) s.heap H locs := by rw [hH, hlocs]; exact hS
  show W p l e _ s m args below meth c s.heap [] 0 0 _ _
  rw [← hH, ← hlocs]
  rw [fX7_checkForce] at hf
  refine lv_iload_n hx hb dX7_checkForce_0 rfl (lv_at hl 1 rfl) ?_
  refine lv_iconst (v := (1 : Int32)) hx hb dX7_checkForce_1 (by decide) ?_
  refine lv_icmp_lt (tgt := 11) hx hb dX7_checkForce_2 (by decide) (fun hc => ?_) (fun hc => ?_)
  · have hf := if_t hc hf
    cases hf
    exact zr_throwW (rest := []) hlT X hP hS hl.1 th_2 (hZ.2.2.2.2 18 (by decide)) hout (Nat.le_of_ble_eq_true rfl) (Nat.le_of_ble_eq_true rfl) (Nat.le_of_ble_eq_true rfl) (Nat.le_of_ble_eq_true rfl) dX7_checkForce_11 dX7_checkForce_14 dX7_checkForce_15 dX7_checkForce_18 dX7_checkForce_21
  · have hf := if_f hc hf
    refine lv_iload_n hx hb dX7_checkForce_5 rfl (lv_at hl 1 rfl) ?_
    refine lv_bipush (v := (99 : Int32)) hx hb dX7_checkForce_6 (by decide) ?_
    refine lv_icmp_le (tgt := 22) hx hb dX7_checkForce_8 (by decide) (fun hc => ?_) (fun hc => ?_)
    · have hf := if_t hc hf
      exfalso
      cases hf
      exact hE rfl
    · have hf := if_f hc hf
      cases hf
      exact zr_throwW (rest := []) hlT X hP hS hl.1 th_2 (hZ.2.2.2.2 18 (by decide)) hout (Nat.le_of_ble_eq_true rfl) (Nat.le_of_ble_eq_true rfl) (Nat.le_of_ble_eq_true rfl) (Nat.le_of_ble_eq_true rfl) dX7_checkForce_11 dX7_checkForce_14 dX7_checkForce_15 dX7_checkForce_18 dX7_checkForce_21
set_option maxHeartbeats 4000000 in
set_option maxRecDepth 100000 in
theorem cx_X7_checkStorm {g : zb_G} {nc : Nat} (hnI : 306 ≤ nc) (l : Launch) (hlT : l.stackTraces = false) {a1 : Int32} {a2 : Int32} {a3 : Int32} {I J O : Mem} {E0 : Nat} (hE : ¬ E0 = 0) (hf : fX7_checkStorm a1 a2 a3 I = some E0) : zb_Cx l g nc yX7_checkStorm cX7_checkStorm 4 none 7 146 [.ref (g.2.2 + 0), .int a1, .int a2, .int a3] (zb_ce g I J O) (zb_en E0) (zb_ce g I J O) := by
  refine zb_ofX (own := RX7) (by decide +kernel) rfl (Nat.le_of_ble_eq_true rfl) ?_
  intro p e s m args below meth c ls X hr hP hl hout
  have hx := X.1.1
  have hb := X.1.2.1
  have ho := X.1.2.2.2.1
  have hts := X.1.2.2.2.2
  have hZ := X.2.2.2
  have hl : lv_has ls 4 [(0, .ref (g.2.2 + 0)), (1, .int a1), (2, .int a2), (3, .int a3)] := hl
  have hS : va_S (zb_A g) s.heap s.heap [] := va_S.rf
  obtain ⟨H, hH⟩ : ∃ H, H = s.heap := ⟨_, rfl⟩
  obtain ⟨locs, hlocs⟩ : ∃ z : List Loc, z = [] := ⟨_, rfl⟩
  rw [← hH] at hP
  have hS : va_S (zb_A g) s.heap H locs := by rw [hH, hlocs]; exact hS
  show W p l e _ s m args below meth c s.heap [] 0 0 _ _
  rw [← hH, ← hlocs]
  rw [fX7_checkStorm] at hf
  refine lv_aload_n hx hb dX7_checkStorm_0 rfl (lv_at hl 0 rfl) ?_
  refine lv_iload_n hx hb dX7_checkStorm_1 rfl (lv_at hl 2 rfl) ?_
  obtain ⟨e1, he1, hf⟩ := ob_e hf
  rcases Classical.em (e1 = 0) with he | he
  · have hf := if_t he hf
    rw [he] at he1
    refine zr_cVv (rest := []) (As := [.int a2]) X hP hS (ct_X7_checkBuoy (g := g) (nc := nc) (I := I) (J := J) (O := O) hnI l  he1) cw_X7_185 (zr_recv X hP (Nat.lt_of_lt_of_le (zk_0).1 hnI) (zb_ceIo zk_0 (by decide)) rfl) rfl hl.1 (Nat.le_of_ble_eq_true rfl) ⟨Nat.le_of_ble_eq_true rfl, Nat.le_of_ble_eq_true rfl⟩ ⟨Nat.le_of_ble_eq_true rfl, Nat.le_of_ble_eq_true rfl⟩ dX7_checkStorm_2 rfl (fun H locs hP hS => ?_)
    refine lv_aload_n hx hb dX7_checkStorm_5 rfl (lv_at hl 0 rfl) ?_
    refine lv_iload_n hx hb dX7_checkStorm_6 rfl (lv_at hl 3 rfl) ?_
    obtain ⟨e2, he2, hf⟩ := ob_e hf
    rcases Classical.em (e2 = 0) with he | he
    · have hf := if_t he hf
      rw [he] at he2
      refine zr_cVv (rest := []) (As := [.int a3]) X hP hS (ct_X7_checkBuoy (g := g) (nc := nc) (I := I) (J := J) (O := O) hnI l  he2) cw_X7_185 (zr_recv X hP (Nat.lt_of_lt_of_le (zk_0).1 hnI) (zb_ceIo zk_0 (by decide)) rfl) rfl hl.1 (Nat.le_of_ble_eq_true rfl) ⟨Nat.le_of_ble_eq_true rfl, Nat.le_of_ble_eq_true rfl⟩ ⟨Nat.le_of_ble_eq_true rfl, Nat.le_of_ble_eq_true rfl⟩ dX7_checkStorm_7 rfl (fun H locs hP hS => ?_)
      refine lv_aload_n hx hb dX7_checkStorm_10 rfl (lv_at hl 0 rfl) ?_
      refine lv_iload_n hx hb dX7_checkStorm_11 rfl (lv_at hl 1 rfl) ?_
      obtain ⟨e3, he3, hf⟩ := ob_e hf
      rcases Classical.em (e3 = 0) with he | he
      · have hf := if_t he hf
        rw [he] at he3
        refine zr_cVv (rest := []) (As := [.int a1]) X hP hS (ct_X7_checkForce (g := g) (nc := nc) (I := I) (J := J) (O := O)  l  he3) cw_X7_322 (zr_recv X hP (Nat.lt_of_lt_of_le (zk_0).1 hnI) (zb_ceIo zk_0 (by decide)) rfl) rfl hl.1 (Nat.le_of_ble_eq_true rfl) ⟨Nat.le_of_ble_eq_true rfl, Nat.le_of_ble_eq_true rfl⟩ ⟨Nat.le_of_ble_eq_true rfl, Nat.le_of_ble_eq_true rfl⟩ dX7_checkStorm_12 rfl (fun H locs hP hS => ?_)
        refine lv_iload_n hx hb dX7_checkStorm_15 rfl (lv_at hl 3 rfl) ?_
        refine lv_iload_n hx hb dX7_checkStorm_16 rfl (lv_at hl 2 rfl) ?_
        refine lv_icmp_ge (tgt := 31) hx hb dX7_checkStorm_17 (by decide) (fun hc => ?_) (fun hc => ?_)
        · have hf := if_t hc hf
          exfalso
          cases hf
          exact hE rfl
        · have hf := if_f hc hf
          cases hf
          exact zr_throwW (rest := []) hlT X hP hS hl.1 th_2 (hZ.2.2.2.2 19 (by decide)) hout (Nat.le_of_ble_eq_true rfl) (Nat.le_of_ble_eq_true rfl) (Nat.le_of_ble_eq_true rfl) (Nat.le_of_ble_eq_true rfl) dX7_checkStorm_20 dX7_checkStorm_23 dX7_checkStorm_24 dX7_checkStorm_27 dX7_checkStorm_30
      · have hf := if_f he hf
        cases hf
        exact zr_xV (rest := []) (As := [.int a1]) X hP hS (cx_X7_checkForce (g := g) (nc := nc) (I := I) (J := J) (O := O)  l hlT  he he3) cw_X7_322 (zr_recv X hP (Nat.lt_of_lt_of_le (zk_0).1 hnI) (zb_ceIo zk_0 (by decide)) rfl) rfl hl.1 (Nat.le_of_ble_eq_true rfl) ⟨Nat.le_of_ble_eq_true rfl, Nat.le_of_ble_eq_true rfl⟩ ⟨Nat.le_of_ble_eq_true rfl, Nat.le_of_ble_eq_true rfl⟩ dX7_checkStorm_12 rfl hout
    · have hf := if_f he hf
      cases hf
      exact zr_xV (rest := []) (As := [.int a3]) X hP hS (cx_X7_checkBuoy (g := g) (nc := nc) (I := I) (J := J) (O := O) hnI l hlT  he he2) cw_X7_185 (zr_recv X hP (Nat.lt_of_lt_of_le (zk_0).1 hnI) (zb_ceIo zk_0 (by decide)) rfl) rfl hl.1 (Nat.le_of_ble_eq_true rfl) ⟨Nat.le_of_ble_eq_true rfl, Nat.le_of_ble_eq_true rfl⟩ ⟨Nat.le_of_ble_eq_true rfl, Nat.le_of_ble_eq_true rfl⟩ dX7_checkStorm_7 rfl hout
  · have hf := if_f he hf
    cases hf
    exact zr_xV (rest := []) (As := [.int a2]) X hP hS (cx_X7_checkBuoy (g := g) (nc := nc) (I := I) (J := J) (O := O) hnI l hlT  he he1) cw_X7_185 (zr_recv X hP (Nat.lt_of_lt_of_le (zk_0).1 hnI) (zb_ceIo zk_0 (by decide)) rfl) rfl hl.1 (Nat.le_of_ble_eq_true rfl) ⟨Nat.le_of_ble_eq_true rfl, Nat.le_of_ble_eq_true rfl⟩ ⟨Nat.le_of_ble_eq_true rfl, Nat.le_of_ble_eq_true rfl⟩ dX7_checkStorm_2 rfl hout
set_option maxHeartbeats 4000000 in
set_option maxRecDepth 100000 in
theorem cx_X7_storm {g : zb_G} {nc : Nat} (hnI : 306 ≤ nc) (l : Launch) (hlT : l.stackTraces = false) {a1 : Int32} {a2 : Int32} {a3 : Int32} {I J O : Mem} {r9 : Int32} {Iq : Mem} {E0 : Nat} (hE : ¬ E0 = 0) (hf : fX7_storm a1 a2 a3 I = some (E0, r9, Iq)) : zb_Cx l g nc yX7_storm cX7_storm 4 (some .int) 8 169 [.ref (g.2.2 + 0), .int a1, .int a2, .int a3] (zb_ce g I J O) (zb_en E0) (zb_ce g Iq J O) := by
  refine zb_ofX (own := RX7) (by decide +kernel) rfl (Nat.le_of_ble_eq_true rfl) ?_
  intro p e s m args below meth c ls X hr hP hl hout
  have hx := X.1.1
  have hb := X.1.2.1
  have ho := X.1.2.2.2.1
  have hts := X.1.2.2.2.2
  have hZ := X.2.2.2
  have hl : lv_has ls 4 [(0, .ref (g.2.2 + 0)), (1, .int a1), (2, .int a2), (3, .int a3)] := hl
  have hS : va_S (zb_A g) s.heap s.heap [] := va_S.rf
  obtain ⟨H, hH⟩ : ∃ H, H = s.heap := ⟨_, rfl⟩
  obtain ⟨locs, hlocs⟩ : ∃ z : List Loc, z = [] := ⟨_, rfl⟩
  rw [← hH] at hP
  have hS : va_S (zb_A g) s.heap H locs := by rw [hH, hlocs]; exact hS
  show W p l e _ s m args below meth c s.heap [] 0 0 _ _
  rw [← hH, ← hlocs]
  rw [fX7_storm] at hf
  refine lv_aload_n hx hb dX7_storm_0 rfl (lv_at hl 0 rfl) ?_
  refine lv_iload_n hx hb dX7_storm_1 rfl (lv_at hl 1 rfl) ?_
  refine lv_iload_n hx hb dX7_storm_2 rfl (lv_at hl 2 rfl) ?_
  refine lv_iload_n hx hb dX7_storm_3 rfl (lv_at hl 3 rfl) ?_
  obtain ⟨e1, he1, hf⟩ := ob_e hf
  rcases Classical.em (e1 = 0) with he | he
  · have hf := if_t he hf
    rw [he] at he1
    refine zr_cVv (rest := []) (As := [.int a1, .int a2, .int a3]) X hP hS (ct_X7_checkStorm (g := g) (nc := nc) (I := I) (J := J) (O := O) hnI l  he1) cw_X7_311 (zr_recv X hP (Nat.lt_of_lt_of_le (zk_0).1 hnI) (zb_ceIo zk_0 (by decide)) rfl) rfl hl.1 (Nat.le_of_ble_eq_true rfl) ⟨Nat.le_of_ble_eq_true rfl, Nat.le_of_ble_eq_true rfl⟩ ⟨Nat.le_of_ble_eq_true rfl, Nat.le_of_ble_eq_true rfl⟩ dX7_storm_4 rfl (fun H locs hP hS => ?_)
    exfalso
    obtain ⟨I2, hI2, hf⟩ := ob_e hf
    obtain ⟨x3, I4, hx3_I4, hf⟩ := ob2_e hf
    cases hf
    exact hE rfl
  · have hf := if_f he hf
    cases hf
    exact zr_xV (rest := []) (As := [.int a1, .int a2, .int a3]) X hP hS (cx_X7_checkStorm (g := g) (nc := nc) (I := I) (J := J) (O := O) hnI l hlT  he he1) cw_X7_311 (zr_recv X hP (Nat.lt_of_lt_of_le (zk_0).1 hnI) (zb_ceIo zk_0 (by decide)) rfl) rfl hl.1 (Nat.le_of_ble_eq_true rfl) ⟨Nat.le_of_ble_eq_true rfl, Nat.le_of_ble_eq_true rfl⟩ ⟨Nat.le_of_ble_eq_true rfl, Nat.le_of_ble_eq_true rfl⟩ dX7_storm_4 rfl hout
set_option maxHeartbeats 4000000 in
set_option maxRecDepth 100000 in
theorem cx_X7_checkRope {g : zb_G} {nc : Nat} (hnI : 306 ≤ nc) (l : Launch) (hlT : l.stackTraces = false) {a1 : Int32} {I J O : Mem} {E0 : Nat} (hE : ¬ E0 = 0) (hf : fX7_checkRope a1 I = some E0) : zb_Cx l g nc yX7_checkRope cX7_checkRope 2 none 6 125 [.ref (g.2.2 + 0), .int a1] (zb_ce g I J O) (zb_en E0) (zb_ce g I J O) := by
  refine zb_ofX (own := RX7) (by decide +kernel) rfl (Nat.le_of_ble_eq_true rfl) ?_
  intro p e s m args below meth c ls X hr hP hl hout
  have hx := X.1.1
  have hb := X.1.2.1
  have ho := X.1.2.2.2.1
  have hts := X.1.2.2.2.2
  have hZ := X.2.2.2
  have hl : lv_has ls 2 [(0, .ref (g.2.2 + 0)), (1, .int a1)] := hl
  have hS : va_S (zb_A g) s.heap s.heap [] := va_S.rf
  obtain ⟨H, hH⟩ : ∃ H, H = s.heap := ⟨_, rfl⟩
  obtain ⟨locs, hlocs⟩ : ∃ z : List Loc, z = [] := ⟨_, rfl⟩
  rw [← hH] at hP
  have hS : va_S (zb_A g) s.heap H locs := by rw [hH, hlocs]; exact hS
  show W p l e _ s m args below meth c s.heap [] 0 0 _ _
  rw [← hH, ← hlocs]
  rw [fX7_checkRope] at hf
  refine lv_iload_n hx hb dX7_checkRope_0 rfl (lv_at hl 1 rfl) ?_
  refine lv_if_lt (tgt := 20) hx hb dX7_checkRope_1 (by decide) (fun hc => ?_) (fun hc => ?_)
  · have hf := if_t hc hf
    cases hf
    exact zr_throwW (rest := []) hlT X hP hS hl.1 th_1 (hZ.2.2.2.2 16 (by decide)) hout (Nat.le_of_ble_eq_true rfl) (Nat.le_of_ble_eq_true rfl) (Nat.le_of_ble_eq_true rfl) (Nat.le_of_ble_eq_true rfl) dX7_checkRope_20 dX7_checkRope_23 dX7_checkRope_24 dX7_checkRope_27 dX7_checkRope_30
  · have hf := if_f hc hf
    refine lv_iload_n hx hb dX7_checkRope_4 rfl (lv_at hl 1 rfl) ?_
    refine lv_aload_n hx hb dX7_checkRope_5 rfl (lv_at hl 0 rfl) ?_
    refine gf_X7_10 X hnI hP zk_0 dX7_checkRope_6 ?_
    refine gf_X7_88 X hnI hP zk_1 dX7_checkRope_9 ?_
    refine gf_X7_133 X hnI hP zk_2 dX7_checkRope_12 ?_
    refine lv_iconst (v := (1 : Int32)) hx hb dX7_checkRope_15 (by decide) ?_
    refine lv_isub hx hb dX7_checkRope_16 ?_
    refine lv_icmp_lt (tgt := 31) hx hb dX7_checkRope_17 (by decide) (fun hc => ?_) (fun hc => ?_)
    · have hf := if_t hc hf
      exfalso
      cases hf
      exact hE rfl
    · have hf := if_f hc hf
      cases hf
      exact zr_throwW (rest := []) hlT X hP hS hl.1 th_1 (hZ.2.2.2.2 16 (by decide)) hout (Nat.le_of_ble_eq_true rfl) (Nat.le_of_ble_eq_true rfl) (Nat.le_of_ble_eq_true rfl) (Nat.le_of_ble_eq_true rfl) dX7_checkRope_20 dX7_checkRope_23 dX7_checkRope_24 dX7_checkRope_27 dX7_checkRope_30
set_option maxHeartbeats 4000000 in
set_option maxRecDepth 100000 in
theorem cx_X7_remake {g : zb_G} {nc : Nat} (hnI : 306 ≤ nc) (l : Launch) (hlT : l.stackTraces = false) {a1 : Int32} {I J O : Mem} {r9 : Int32} {Iq : Mem} {E0 : Nat} (hE : ¬ E0 = 0) (hf : fX7_remake a1 I = some (E0, r9, Iq)) : zb_Cx l g nc yX7_remake cX7_remake 2 (some .int) 7 146 [.ref (g.2.2 + 0), .int a1] (zb_ce g I J O) (zb_en E0) (zb_ce g Iq J O) := by
  refine zb_ofX (own := RX7) (by decide +kernel) rfl (Nat.le_of_ble_eq_true rfl) ?_
  intro p e s m args below meth c ls X hr hP hl hout
  have hx := X.1.1
  have hb := X.1.2.1
  have ho := X.1.2.2.2.1
  have hts := X.1.2.2.2.2
  have hZ := X.2.2.2
  have hl : lv_has ls 2 [(0, .ref (g.2.2 + 0)), (1, .int a1)] := hl
  have hS : va_S (zb_A g) s.heap s.heap [] := va_S.rf
  obtain ⟨H, hH⟩ : ∃ H, H = s.heap := ⟨_, rfl⟩
  obtain ⟨locs, hlocs⟩ : ∃ z : List Loc, z = [] := ⟨_, rfl⟩
  rw [← hH] at hP
  have hS : va_S (zb_A g) s.heap H locs := by rw [hH, hlocs]; exact hS
  show W p l e _ s m args below meth c s.heap [] 0 0 _ _
  rw [← hH, ← hlocs]
  rw [fX7_remake] at hf
  refine lv_aload_n hx hb dX7_remake_0 rfl (lv_at hl 0 rfl) ?_
  refine lv_iload_n hx hb dX7_remake_1 rfl (lv_at hl 1 rfl) ?_
  obtain ⟨e1, he1, hf⟩ := ob_e hf
  rcases Classical.em (e1 = 0) with he | he
  · have hf := if_t he hf
    rw [he] at he1
    refine zr_cVv (rest := []) (As := [.int a1]) X hP hS (ct_X7_checkRope (g := g) (nc := nc) (I := I) (J := J) (O := O) hnI l  he1) cw_X7_222 (zr_recv X hP (Nat.lt_of_lt_of_le (zk_0).1 hnI) (zb_ceIo zk_0 (by decide)) rfl) rfl hl.1 (Nat.le_of_ble_eq_true rfl) ⟨Nat.le_of_ble_eq_true rfl, Nat.le_of_ble_eq_true rfl⟩ ⟨Nat.le_of_ble_eq_true rfl, Nat.le_of_ble_eq_true rfl⟩ dX7_remake_2 rfl (fun H locs hP hS => ?_)
    exfalso
    obtain ⟨x2, hx2, hf⟩ := ob_e hf
    rcases Classical.em (x2 = 0) with hc | hc
    · have hf := if_t hc hf
      obtain ⟨x8, hx8, hf⟩ := ob_e hf
      rcases Classical.em (x8 = 0) with hc | hc
      · have hf := if_t hc hf
        obtain ⟨x14, I15, hx14_I15, hf⟩ := ob2_e hf
        cases hf
        exact hE rfl
      · have hf := if_f hc hf
        obtain ⟨x9, hx9, hf⟩ := ob_e hf
        rcases Classical.em (x9 ≤ (I 1 6)) with hc | hc
        · have hf := if_t hc hf
          obtain ⟨I10, hI10, hf⟩ := ob_e hf
          obtain ⟨I11, hI11, hf⟩ := ob_e hf
          cases hf
          exact hE rfl
        · have hf := if_f hc hf
          obtain ⟨x12, I13, hx12_I13, hf⟩ := ob2_e hf
          cases hf
          exact hE rfl
    · have hf := if_f hc hf
      obtain ⟨x3, hx3, hf⟩ := ob_e hf
      rcases Classical.em (x3 ≤ (I 1 6)) with hc | hc
      · have hf := if_t hc hf
        obtain ⟨I4, hI4, hf⟩ := ob_e hf
        obtain ⟨I5, hI5, hf⟩ := ob_e hf
        cases hf
        exact hE rfl
      · have hf := if_f hc hf
        obtain ⟨x6, I7, hx6_I7, hf⟩ := ob2_e hf
        cases hf
        exact hE rfl
  · have hf := if_f he hf
    cases hf
    exact zr_xV (rest := []) (As := [.int a1]) X hP hS (cx_X7_checkRope (g := g) (nc := nc) (I := I) (J := J) (O := O) hnI l hlT  he he1) cw_X7_222 (zr_recv X hP (Nat.lt_of_lt_of_le (zk_0).1 hnI) (zb_ceIo zk_0 (by decide)) rfl) rfl hl.1 (Nat.le_of_ble_eq_true rfl) ⟨Nat.le_of_ble_eq_true rfl, Nat.le_of_ble_eq_true rfl⟩ ⟨Nat.le_of_ble_eq_true rfl, Nat.le_of_ble_eq_true rfl⟩ dX7_remake_2 rfl hout
set_option maxHeartbeats 4000000 in
set_option maxRecDepth 100000 in
theorem cx_X7_remakeBy {g : zb_G} {nc : Nat} (hnI : 306 ≤ nc) (l : Launch) (hlT : l.stackTraces = false) {a1 : Int32} {I J O : Mem} {r9 : Int32} {Iq : Mem} {E0 : Nat} (hE : ¬ E0 = 0) (hf : fX7_remakeBy a1 I = some (E0, r9, Iq)) : zb_Cx l g nc yX7_remakeBy cX7_remakeBy 3 (some .int) 7 146 [.ref (g.2.2 + 0), .int a1] (zb_ce g I J O) (zb_en E0) (zb_ce g Iq J O) := by
  refine zb_ofX (own := RX7) (by decide +kernel) rfl (Nat.le_of_ble_eq_true rfl) ?_
  intro p e s m args below meth c ls X hr hP hl hout
  have hx := X.1.1
  have hb := X.1.2.1
  have ho := X.1.2.2.2.1
  have hts := X.1.2.2.2.2
  have hZ := X.2.2.2
  have hl : lv_has ls 3 [(0, .ref (g.2.2 + 0)), (1, .int a1)] := hl
  have hS : va_S (zb_A g) s.heap s.heap [] := va_S.rf
  obtain ⟨H, hH⟩ : ∃ H, H = s.heap := ⟨_, rfl⟩
  obtain ⟨locs, hlocs⟩ : ∃ z : List Loc, z = [] := ⟨_, rfl⟩
  rw [← hH] at hP
  have hS : va_S (zb_A g) s.heap H locs := by rw [hH, hlocs]; exact hS
  show W p l e _ s m args below meth c s.heap [] 0 0 _ _
  rw [← hH, ← hlocs]
  rw [fX7_remakeBy] at hf
  refine lv_aload_n hx hb dX7_remakeBy_0 rfl (lv_at hl 0 rfl) ?_
  refine lv_iload_n hx hb dX7_remakeBy_1 rfl (lv_at hl 1 rfl) ?_
  obtain ⟨e1, he1, hf⟩ := ob_e hf
  rcases Classical.em (e1 = 0) with he | he
  · have hf := if_t he hf
    rw [he] at he1
    refine zr_cVv (rest := []) (As := [.int a1]) X hP hS (ct_X7_checkForce (g := g) (nc := nc) (I := I) (J := J) (O := O)  l  he1) cw_X7_322 (zr_recv X hP (Nat.lt_of_lt_of_le (zk_0).1 hnI) (zb_ceIo zk_0 (by decide)) rfl) rfl hl.1 (Nat.le_of_ble_eq_true rfl) ⟨Nat.le_of_ble_eq_true rfl, Nat.le_of_ble_eq_true rfl⟩ ⟨Nat.le_of_ble_eq_true rfl, Nat.le_of_ble_eq_true rfl⟩ dX7_remakeBy_2 rfl (fun H locs hP hS => ?_)
    exfalso
    obtain ⟨x2, hx2, hf⟩ := ob_e hf
    rcases Classical.em (x2 = (-1 : Int32)) with hc | hc
    · have hf := if_t hc hf
      obtain ⟨x6, I7, hx6_I7, hf⟩ := ob2_e hf
      cases hf
      exact hE rfl
    · have hf := if_f hc hf
      obtain ⟨I3, hI3, hf⟩ := ob_e hf
      obtain ⟨I4, hI4, hf⟩ := ob_e hf
      obtain ⟨x5, hx5, hf⟩ := ob_e hf
      cases hf
      exact hE rfl
  · have hf := if_f he hf
    cases hf
    exact zr_xV (rest := []) (As := [.int a1]) X hP hS (cx_X7_checkForce (g := g) (nc := nc) (I := I) (J := J) (O := O)  l hlT  he he1) cw_X7_322 (zr_recv X hP (Nat.lt_of_lt_of_le (zk_0).1 hnI) (zb_ceIo zk_0 (by decide)) rfl) rfl hl.1 (Nat.le_of_ble_eq_true rfl) ⟨Nat.le_of_ble_eq_true rfl, Nat.le_of_ble_eq_true rfl⟩ ⟨Nat.le_of_ble_eq_true rfl, Nat.le_of_ble_eq_true rfl⟩ dX7_remakeBy_2 rfl hout
set_option maxHeartbeats 4000000 in
set_option maxRecDepth 100000 in
theorem cx_X7_haul {g : zb_G} {nc : Nat} (hnI : 306 ≤ nc) (l : Launch) (hlT : l.stackTraces = false) {a1 : Int32} {I J O : Mem} {r9 : Int32} {Iq : Mem} {E0 : Nat} (hE : ¬ E0 = 0) (hf : fX7_haul a1 I = some (E0, r9, Iq)) : zb_Cx l g nc yX7_haul cX7_haul 2 (some .int) 7 146 [.ref (g.2.2 + 0), .int a1] (zb_ce g I J O) (zb_en E0) (zb_ce g Iq J O) := by
  refine zb_ofX (own := RX7) (by decide +kernel) rfl (Nat.le_of_ble_eq_true rfl) ?_
  intro p e s m args below meth c ls X hr hP hl hout
  have hx := X.1.1
  have hb := X.1.2.1
  have ho := X.1.2.2.2.1
  have hts := X.1.2.2.2.2
  have hZ := X.2.2.2
  have hl : lv_has ls 2 [(0, .ref (g.2.2 + 0)), (1, .int a1)] := hl
  have hS : va_S (zb_A g) s.heap s.heap [] := va_S.rf
  obtain ⟨H, hH⟩ : ∃ H, H = s.heap := ⟨_, rfl⟩
  obtain ⟨locs, hlocs⟩ : ∃ z : List Loc, z = [] := ⟨_, rfl⟩
  rw [← hH] at hP
  have hS : va_S (zb_A g) s.heap H locs := by rw [hH, hlocs]; exact hS
  show W p l e _ s m args below meth c s.heap [] 0 0 _ _
  rw [← hH, ← hlocs]
  rw [fX7_haul] at hf
  refine lv_aload_n hx hb dX7_haul_0 rfl (lv_at hl 0 rfl) ?_
  refine lv_iload_n hx hb dX7_haul_1 rfl (lv_at hl 1 rfl) ?_
  obtain ⟨e1, he1, hf⟩ := ob_e hf
  rcases Classical.em (e1 = 0) with he | he
  · have hf := if_t he hf
    rw [he] at he1
    refine zr_cVv (rest := []) (As := [.int a1]) X hP hS (ct_X7_checkBuoy (g := g) (nc := nc) (I := I) (J := J) (O := O) hnI l  he1) cw_X7_185 (zr_recv X hP (Nat.lt_of_lt_of_le (zk_0).1 hnI) (zb_ceIo zk_0 (by decide)) rfl) rfl hl.1 (Nat.le_of_ble_eq_true rfl) ⟨Nat.le_of_ble_eq_true rfl, Nat.le_of_ble_eq_true rfl⟩ ⟨Nat.le_of_ble_eq_true rfl, Nat.le_of_ble_eq_true rfl⟩ dX7_haul_2 rfl (fun H locs hP hS => ?_)
    exfalso
    obtain ⟨x2, hx2, hf⟩ := ob_e hf
    rcases Classical.em (x2 = (2 : Int32)) with hc | hc
    · have hf := if_t hc hf
      obtain ⟨I3, hI3, hf⟩ := ob_e hf
      obtain ⟨I4, hI4, hf⟩ := ob_e hf
      obtain ⟨x5, hx5, hf⟩ := ob_e hf
      obtain ⟨x6, hx6, hf⟩ := ob_e hf
      cases hf
      exact hE rfl
    · have hf := if_f hc hf
      obtain ⟨x7, I8, hx7_I8, hf⟩ := ob2_e hf
      cases hf
      exact hE rfl
  · have hf := if_f he hf
    cases hf
    exact zr_xV (rest := []) (As := [.int a1]) X hP hS (cx_X7_checkBuoy (g := g) (nc := nc) (I := I) (J := J) (O := O) hnI l hlT  he he1) cw_X7_185 (zr_recv X hP (Nat.lt_of_lt_of_le (zk_0).1 hnI) (zb_ceIo zk_0 (by decide)) rfl) rfl hl.1 (Nat.le_of_ble_eq_true rfl) ⟨Nat.le_of_ble_eq_true rfl, Nat.le_of_ble_eq_true rfl⟩ ⟨Nat.le_of_ble_eq_true rfl, Nat.le_of_ble_eq_true rfl⟩ dX7_haul_2 rfl hout
set_option maxHeartbeats 4000000 in
set_option maxRecDepth 100000 in
theorem cx_X7_addStock {g : zb_G} {nc : Nat} (hnI : 306 ≤ nc) (l : Launch) (hlT : l.stackTraces = false) {a1 : Int32} {I J O : Mem} {r9 : Int32} {Iq : Mem} {E0 : Nat} (hE : ¬ E0 = 0) (hf : fX7_addStock a1 I = some (E0, r9, Iq)) : zb_Cx l g nc yX7_addStock cX7_addStock 2 (some .int) 6 125 [.ref (g.2.2 + 0), .int a1] (zb_ce g I J O) (zb_en E0) (zb_ce g Iq J O) := by
  refine zb_ofX (own := RX7) (by decide +kernel) rfl (Nat.le_of_ble_eq_true rfl) ?_
  intro p e s m args below meth c ls X hr hP hl hout
  have hx := X.1.1
  have hb := X.1.2.1
  have ho := X.1.2.2.2.1
  have hts := X.1.2.2.2.2
  have hZ := X.2.2.2
  have hl : lv_has ls 2 [(0, .ref (g.2.2 + 0)), (1, .int a1)] := hl
  have hS : va_S (zb_A g) s.heap s.heap [] := va_S.rf
  obtain ⟨H, hH⟩ : ∃ H, H = s.heap := ⟨_, rfl⟩
  obtain ⟨locs, hlocs⟩ : ∃ z : List Loc, z = [] := ⟨_, rfl⟩
  rw [← hH] at hP
  have hS : va_S (zb_A g) s.heap H locs := by rw [hH, hlocs]; exact hS
  show W p l e _ s m args below meth c s.heap [] 0 0 _ _
  rw [← hH, ← hlocs]
  rw [fX7_addStock] at hf
  refine lv_iload_n hx hb dX7_addStock_0 rfl (lv_at hl 1 rfl) ?_
  refine lv_iconst (v := (1 : Int32)) hx hb dX7_addStock_1 (by decide) ?_
  refine lv_icmp_lt (tgt := 12) hx hb dX7_addStock_2 (by decide) (fun hc => ?_) (fun hc => ?_)
  · have hf := if_t hc hf
    cases hf
    exact zr_throwW (rest := []) hlT X hP hS hl.1 th_2 (hZ.2.2.2.2 8 (by decide)) hout (Nat.le_of_ble_eq_true rfl) (Nat.le_of_ble_eq_true rfl) (Nat.le_of_ble_eq_true rfl) (Nat.le_of_ble_eq_true rfl) dX7_addStock_12 dX7_addStock_15 dX7_addStock_16 dX7_addStock_19 dX7_addStock_22
  · have hf := if_f hc hf
    refine lv_iload_n hx hb dX7_addStock_5 rfl (lv_at hl 1 rfl) ?_
    refine lv_sipush (v := (9999 : Int32)) hx hb dX7_addStock_6 (by decide) ?_
    refine lv_icmp_le (tgt := 23) hx hb dX7_addStock_9 (by decide) (fun hc => ?_) (fun hc => ?_)
    · have hf := if_t hc hf
      exfalso
      rcases Classical.em (((I 1 6) + a1) ≤ (99999 : Int32)) with hc | hc
      · have hf := if_t hc hf
        obtain ⟨I1, hI1, hf⟩ := ob_e hf
        cases hf
        exact hE rfl
      · have hf := if_f hc hf
        obtain ⟨x2, I3, hx2_I3, hf⟩ := ob2_e hf
        cases hf
        exact hE rfl
    · have hf := if_f hc hf
      cases hf
      exact zr_throwW (rest := []) hlT X hP hS hl.1 th_2 (hZ.2.2.2.2 8 (by decide)) hout (Nat.le_of_ble_eq_true rfl) (Nat.le_of_ble_eq_true rfl) (Nat.le_of_ble_eq_true rfl) (Nat.le_of_ble_eq_true rfl) dX7_addStock_12 dX7_addStock_15 dX7_addStock_16 dX7_addStock_19 dX7_addStock_22
set_option maxHeartbeats 4000000 in
set_option maxRecDepth 100000 in
theorem cx_X7_size {g : zb_G} {nc : Nat} (hnI : 306 ≤ nc) (l : Launch) (hlT : l.stackTraces = false) {a1 : Int32} {I J O : Mem} {r9 : Int32} {E0 : Nat} (hE : ¬ E0 = 0) (hf : fX7_size a1 I = some (E0, r9)) : zb_Cx l g nc yX7_size cX7_size 2 (some .int) 6 125 [.ref (g.2.2 + 0), .int a1] (zb_ce g I J O) (zb_en E0) (zb_ce g I J O) := by
  refine zb_ofX (own := RX7) (by decide +kernel) rfl (Nat.le_of_ble_eq_true rfl) ?_
  intro p e s m args below meth c ls X hr hP hl hout
  have hx := X.1.1
  have hb := X.1.2.1
  have ho := X.1.2.2.2.1
  have hts := X.1.2.2.2.2
  have hZ := X.2.2.2
  have hl : lv_has ls 2 [(0, .ref (g.2.2 + 0)), (1, .int a1)] := hl
  have hS : va_S (zb_A g) s.heap s.heap [] := va_S.rf
  obtain ⟨H, hH⟩ : ∃ H, H = s.heap := ⟨_, rfl⟩
  obtain ⟨locs, hlocs⟩ : ∃ z : List Loc, z = [] := ⟨_, rfl⟩
  rw [← hH] at hP
  have hS : va_S (zb_A g) s.heap H locs := by rw [hH, hlocs]; exact hS
  show W p l e _ s m args below meth c s.heap [] 0 0 _ _
  rw [← hH, ← hlocs]
  rw [fX7_size] at hf
  refine lv_iload_n hx hb dX7_size_0 rfl (lv_at hl 1 rfl) ?_
  rcases Classical.em (a1 = (0 : Int32)) with q0 | q0
  · have hf := if_t q0 hf
    refine lv_tableIn (off := 83) (tgt := 84) hx hb dX7_size_1 (by rw [q0]; decide) (by rw [q0]; decide) (by rw [q0]; rfl) (by decide) ?_
    exfalso
    cases hf
    exact hE rfl
  have hf := if_f q0 hf
  rcases Classical.em (a1 = (1 : Int32)) with q1 | q1
  · have hf := if_t q1 hf
    refine lv_tableIn (off := 94) (tgt := 95) hx hb dX7_size_1 (by rw [q1]; decide) (by rw [q1]; decide) (by rw [q1]; rfl) (by decide) ?_
    exfalso
    cases hf
    exact hE rfl
  have hf := if_f q1 hf
  rcases Classical.em (a1 = (2 : Int32)) with q2 | q2
  · have hf := if_t q2 hf
    refine lv_tableIn (off := 102) (tgt := 103) hx hb dX7_size_1 (by rw [q2]; decide) (by rw [q2]; decide) (by rw [q2]; rfl) (by decide) ?_
    exfalso
    obtain ⟨x1, hx1, hf⟩ := ob_e hf
    cases hf
    exact hE rfl
  have hf := if_f q2 hf
  rcases Classical.em (a1 = (3 : Int32)) with q3 | q3
  · have hf := if_t q3 hf
    refine lv_tableIn (off := 118) (tgt := 119) hx hb dX7_size_1 (by rw [q3]; decide) (by rw [q3]; decide) (by rw [q3]; rfl) (by decide) ?_
    exfalso
    obtain ⟨x2, hx2, hf⟩ := ob_e hf
    obtain ⟨x3, hx3, hf⟩ := ob_e hf
    cases hf
    exact hE rfl
  have hf := if_f q3 hf
  rcases Classical.em (a1 = (4 : Int32)) with q4 | q4
  · have hf := if_t q4 hf
    refine lv_tableIn (off := 133) (tgt := 134) hx hb dX7_size_1 (by rw [q4]; decide) (by rw [q4]; decide) (by rw [q4]; rfl) (by decide) ?_
    exfalso
    obtain ⟨x4, hx4, hf⟩ := ob_e hf
    obtain ⟨x5, hx5, hf⟩ := ob_e hf
    cases hf
    exact hE rfl
  have hf := if_f q4 hf
  rcases Classical.em (a1 = (5 : Int32)) with q5 | q5
  · have hf := if_t q5 hf
    refine lv_tableIn (off := 148) (tgt := 149) hx hb dX7_size_1 (by rw [q5]; decide) (by rw [q5]; decide) (by rw [q5]; rfl) (by decide) ?_
    exfalso
    obtain ⟨x6, hx6, hf⟩ := ob_e hf
    obtain ⟨x7, hx7, hf⟩ := ob_e hf
    cases hf
    exact hE rfl
  have hf := if_f q5 hf
  rcases Classical.em (a1 = (6 : Int32)) with q6 | q6
  · have hf := if_t q6 hf
    refine lv_tableIn (off := 163) (tgt := 164) hx hb dX7_size_1 (by rw [q6]; decide) (by rw [q6]; decide) (by rw [q6]; rfl) (by decide) ?_
    exfalso
    obtain ⟨x8, hx8, hf⟩ := ob_e hf
    cases hf
    exact hE rfl
  have hf := if_f q6 hf
  rcases Classical.em (a1 = (7 : Int32)) with q7 | q7
  · have hf := if_t q7 hf
    refine lv_tableIn (off := 177) (tgt := 178) hx hb dX7_size_1 (by rw [q7]; decide) (by rw [q7]; decide) (by rw [q7]; rfl) (by decide) ?_
    exfalso
    cases hf
    exact hE rfl
  have hf := if_f q7 hf
  rcases Classical.em (a1 = (8 : Int32)) with q8 | q8
  · have hf := if_t q8 hf
    refine lv_tableIn (off := 185) (tgt := 186) hx hb dX7_size_1 (by rw [q8]; decide) (by rw [q8]; decide) (by rw [q8]; rfl) (by decide) ?_
    exfalso
    cases hf
    exact hE rfl
  have hf := if_f q8 hf
  rcases Classical.em (a1 = (9 : Int32)) with q9 | q9
  · have hf := if_t q9 hf
    refine lv_tableIn (off := 193) (tgt := 194) hx hb dX7_size_1 (by rw [q9]; decide) (by rw [q9]; decide) (by rw [q9]; rfl) (by decide) ?_
    exfalso
    cases hf
    exact hE rfl
  have hf := if_f q9 hf
  rcases Classical.em (a1 = (10 : Int32)) with q10 | q10
  · have hf := if_t q10 hf
    refine lv_tableIn (off := 201) (tgt := 202) hx hb dX7_size_1 (by rw [q10]; decide) (by rw [q10]; decide) (by rw [q10]; rfl) (by decide) ?_
    exfalso
    cases hf
    exact hE rfl
  have hf := if_f q10 hf
  rcases Classical.em (a1 = (11 : Int32)) with q11 | q11
  · have hf := if_t q11 hf
    refine lv_tableIn (off := 209) (tgt := 210) hx hb dX7_size_1 (by rw [q11]; decide) (by rw [q11]; decide) (by rw [q11]; rfl) (by decide) ?_
    exfalso
    cases hf
    exact hE rfl
  have hf := if_f q11 hf
  rcases Classical.em (a1 = (12 : Int32)) with q12 | q12
  · have hf := if_t q12 hf
    refine lv_tableIn (off := 217) (tgt := 218) hx hb dX7_size_1 (by rw [q12]; decide) (by rw [q12]; decide) (by rw [q12]; rfl) (by decide) ?_
    exfalso
    cases hf
    exact hE rfl
  have hf := if_f q12 hf
  rcases Classical.em (a1 = (13 : Int32)) with q13 | q13
  · have hf := if_t q13 hf
    refine lv_tableIn (off := 222) (tgt := 223) hx hb dX7_size_1 (by rw [q13]; decide) (by rw [q13]; decide) (by rw [q13]; rfl) (by decide) ?_
    exfalso
    obtain ⟨x9, hx9, hf⟩ := ob_e hf
    cases hf
    exact hE rfl
  have hf := if_f q13 hf
  rcases Classical.em (a1 = (14 : Int32)) with q14 | q14
  · have hf := if_t q14 hf
    refine lv_tableIn (off := 227) (tgt := 228) hx hb dX7_size_1 (by rw [q14]; decide) (by rw [q14]; decide) (by rw [q14]; rfl) (by decide) ?_
    exfalso
    cases hf
    exact hE rfl
  have hf := if_f q14 hf
  rcases Classical.em (a1 = (15 : Int32)) with q15 | q15
  · have hf := if_t q15 hf
    refine lv_tableIn (off := 235) (tgt := 236) hx hb dX7_size_1 (by rw [q15]; decide) (by rw [q15]; decide) (by rw [q15]; rfl) (by decide) ?_
    exfalso
    cases hf
    exact hE rfl
  have hf := if_f q15 hf
  rcases Classical.em (a1 = (16 : Int32)) with q16 | q16
  · have hf := if_t q16 hf
    refine lv_tableIn (off := 243) (tgt := 244) hx hb dX7_size_1 (by rw [q16]; decide) (by rw [q16]; decide) (by rw [q16]; rfl) (by decide) ?_
    exfalso
    cases hf
    exact hE rfl
  have hf := if_f q16 hf
  refine lv_tableOut (tgt := 252) hx hb dX7_size_1 (by have z0 := zr_ne (k := 0) (by decide) q0; have z1 := zr_ne (k := 1) (by decide) q1; have z2 := zr_ne (k := 2) (by decide) q2; have z3 := zr_ne (k := 3) (by decide) q3; have z4 := zr_ne (k := 4) (by decide) q4; have z5 := zr_ne (k := 5) (by decide) q5; have z6 := zr_ne (k := 6) (by decide) q6; have z7 := zr_ne (k := 7) (by decide) q7; have z8 := zr_ne (k := 8) (by decide) q8; have z9 := zr_ne (k := 9) (by decide) q9; have z10 := zr_ne (k := 10) (by decide) q10; have z11 := zr_ne (k := 11) (by decide) q11; have z12 := zr_ne (k := 12) (by decide) q12; have z13 := zr_ne (k := 13) (by decide) q13; have z14 := zr_ne (k := 14) (by decide) q14; have z15 := zr_ne (k := 15) (by decide) q15; have z16 := zr_ne (k := 16) (by decide) q16; omega) (by decide) ?_
  cases hf
  exact zr_throwS (rest := []) hlT X hP hS hl.1 th_2 (hZ.2.2.2.2 1 (by decide)) hout (Nat.le_of_ble_eq_true rfl) (Nat.le_of_ble_eq_true rfl) (Nat.le_of_ble_eq_true rfl) (Nat.le_of_ble_eq_true rfl) dX7_size_252 dX7_size_255 dX7_size_256 dX7_size_258 dX7_size_261
set_option maxHeartbeats 4000000 in
set_option maxRecDepth 100000 in
theorem cx_X7_buoy {g : zb_G} {nc : Nat} (hnI : 306 ≤ nc) (l : Launch) (hlT : l.stackTraces = false) {a1 : Int32} {a2 : Int32} {I J O : Mem} {r9 : Int32} {E0 : Nat} (hE : ¬ E0 = 0) (hf : fX7_buoy a1 a2 I = some (E0, r9)) : zb_Cx l g nc yX7_buoy cX7_buoy 4 (some .int) 7 146 [.ref (g.2.2 + 0), .int a1, .int a2] (zb_ce g I J O) (zb_en E0) (zb_ce g I J O) := by
  refine zb_ofX (own := RX7) (by decide +kernel) rfl (Nat.le_of_ble_eq_true rfl) ?_
  intro p e s m args below meth c ls X hr hP hl hout
  have hx := X.1.1
  have hb := X.1.2.1
  have ho := X.1.2.2.2.1
  have hts := X.1.2.2.2.2
  have hZ := X.2.2.2
  have hl : lv_has ls 4 [(0, .ref (g.2.2 + 0)), (1, .int a1), (2, .int a2)] := hl
  have hS : va_S (zb_A g) s.heap s.heap [] := va_S.rf
  obtain ⟨H, hH⟩ : ∃ H, H = s.heap := ⟨_, rfl⟩
  obtain ⟨locs, hlocs⟩ : ∃ z : List Loc, z = [] := ⟨_, rfl⟩
  rw [← hH] at hP
  have hS : va_S (zb_A g) s.heap H locs := by rw [hH, hlocs]; exact hS
  show W p l e _ s m args below meth c s.heap [] 0 0 _ _
  rw [← hH, ← hlocs]
  rw [fX7_buoy] at hf
  refine lv_aload_n hx hb dX7_buoy_0 rfl (lv_at hl 0 rfl) ?_
  refine lv_iload_n hx hb dX7_buoy_1 rfl (lv_at hl 1 rfl) ?_
  obtain ⟨e1, he1, hf⟩ := ob_e hf
  rcases Classical.em (e1 = 0) with he | he
  · have hf := if_t he hf
    rw [he] at he1
    refine zr_cVv (rest := []) (As := [.int a1]) X hP hS (ct_X7_checkBuoy (g := g) (nc := nc) (I := I) (J := J) (O := O) hnI l  he1) cw_X7_185 (zr_recv X hP (Nat.lt_of_lt_of_le (zk_0).1 hnI) (zb_ceIo zk_0 (by decide)) rfl) rfl hl.1 (Nat.le_of_ble_eq_true rfl) ⟨Nat.le_of_ble_eq_true rfl, Nat.le_of_ble_eq_true rfl⟩ ⟨Nat.le_of_ble_eq_true rfl, Nat.le_of_ble_eq_true rfl⟩ dX7_buoy_2 rfl (fun H locs hP hS => ?_)
    refine lv_aload_n hx hb dX7_buoy_5 rfl (lv_at hl 0 rfl) ?_
    refine gf_X7_10 X hnI hP zk_0 dX7_buoy_6 ?_
    refine gf_X7_88 X hnI hP zk_1 dX7_buoy_9 ?_
    refine lv_astore_n (lv' := [(3, .ref (g.2.2 + 2)), (0, .ref (g.2.2 + 0)), (1, .int a1), (2, .int a2)]) hx hb dX7_buoy_12 rfl hl (by decide) rfl (fun ls hl => ?_)
    refine lv_iload_n hx hb dX7_buoy_13 rfl (lv_at hl 3 rfl) ?_
    rcases Classical.em (a2 = (0 : Int32)) with q0 | q0
    · have hf := if_t q0 hf
      refine lv_tableIn (off := 54) (tgt := 68) hx hb dX7_buoy_14 (by rw [q0]; decide) (by rw [q0]; decide) (by rw [q0]; rfl) (by decide) ?_
      exfalso
      obtain ⟨x2, hx2, hf⟩ := ob_e hf
      cases hf
      exact hE rfl
    have hf := if_f q0 hf
    rcases Classical.em (a2 = (1 : Int32)) with q1 | q1
    · have hf := if_t q1 hf
      refine lv_tableIn (off := 61) (tgt := 75) hx hb dX7_buoy_14 (by rw [q1]; decide) (by rw [q1]; decide) (by rw [q1]; rfl) (by decide) ?_
      exfalso
      obtain ⟨x3, hx3, hf⟩ := ob_e hf
      cases hf
      exact hE rfl
    have hf := if_f q1 hf
    rcases Classical.em (a2 = (2 : Int32)) with q2 | q2
    · have hf := if_t q2 hf
      refine lv_tableIn (off := 68) (tgt := 82) hx hb dX7_buoy_14 (by rw [q2]; decide) (by rw [q2]; decide) (by rw [q2]; rfl) (by decide) ?_
      exfalso
      obtain ⟨x4, hx4, hf⟩ := ob_e hf
      cases hf
      exact hE rfl
    have hf := if_f q2 hf
    rcases Classical.em (a2 = (3 : Int32)) with q3 | q3
    · have hf := if_t q3 hf
      refine lv_tableIn (off := 75) (tgt := 89) hx hb dX7_buoy_14 (by rw [q3]; decide) (by rw [q3]; decide) (by rw [q3]; rfl) (by decide) ?_
      exfalso
      obtain ⟨x5, hx5, hf⟩ := ob_e hf
      cases hf
      exact hE rfl
    have hf := if_f q3 hf
    rcases Classical.em (a2 = (4 : Int32)) with q4 | q4
    · have hf := if_t q4 hf
      refine lv_tableIn (off := 82) (tgt := 96) hx hb dX7_buoy_14 (by rw [q4]; decide) (by rw [q4]; decide) (by rw [q4]; rfl) (by decide) ?_
      exfalso
      obtain ⟨x6, hx6, hf⟩ := ob_e hf
      cases hf
      exact hE rfl
    have hf := if_f q4 hf
    rcases Classical.em (a2 = (5 : Int32)) with q5 | q5
    · have hf := if_t q5 hf
      refine lv_tableIn (off := 89) (tgt := 103) hx hb dX7_buoy_14 (by rw [q5]; decide) (by rw [q5]; decide) (by rw [q5]; rfl) (by decide) ?_
      exfalso
      obtain ⟨x7, hx7, hf⟩ := ob_e hf
      cases hf
      exact hE rfl
    have hf := if_f q5 hf
    rcases Classical.em (a2 = (6 : Int32)) with q6 | q6
    · have hf := if_t q6 hf
      refine lv_tableIn (off := 96) (tgt := 110) hx hb dX7_buoy_14 (by rw [q6]; decide) (by rw [q6]; decide) (by rw [q6]; rfl) (by decide) ?_
      exfalso
      obtain ⟨x8, hx8, hf⟩ := ob_e hf
      cases hf
      exact hE rfl
    have hf := if_f q6 hf
    rcases Classical.em (a2 = (7 : Int32)) with q7 | q7
    · have hf := if_t q7 hf
      refine lv_tableIn (off := 103) (tgt := 117) hx hb dX7_buoy_14 (by rw [q7]; decide) (by rw [q7]; decide) (by rw [q7]; rfl) (by decide) ?_
      exfalso
      obtain ⟨x9, hx9, hf⟩ := ob_e hf
      cases hf
      exact hE rfl
    have hf := if_f q7 hf
    rcases Classical.em (a2 = (8 : Int32)) with q8 | q8
    · have hf := if_t q8 hf
      refine lv_tableIn (off := 110) (tgt := 124) hx hb dX7_buoy_14 (by rw [q8]; decide) (by rw [q8]; decide) (by rw [q8]; rfl) (by decide) ?_
      exfalso
      obtain ⟨x10, hx10, hf⟩ := ob_e hf
      obtain ⟨x11, ht, hf⟩ := pl_e hf
      cases hf
      exact hE rfl
    have hf := if_f q8 hf
    rcases Classical.em (a2 = (9 : Int32)) with q9 | q9
    · have hf := if_t q9 hf
      refine lv_tableIn (off := 127) (tgt := 141) hx hb dX7_buoy_14 (by rw [q9]; decide) (by rw [q9]; decide) (by rw [q9]; rfl) (by decide) ?_
      exfalso
      obtain ⟨x12, hx12, hf⟩ := ob_e hf
      cases hf
      exact hE rfl
    have hf := if_f q9 hf
    refine lv_tableOut (tgt := 148) hx hb dX7_buoy_14 (by have z0 := zr_ne (k := 0) (by decide) q0; have z1 := zr_ne (k := 1) (by decide) q1; have z2 := zr_ne (k := 2) (by decide) q2; have z3 := zr_ne (k := 3) (by decide) q3; have z4 := zr_ne (k := 4) (by decide) q4; have z5 := zr_ne (k := 5) (by decide) q5; have z6 := zr_ne (k := 6) (by decide) q6; have z7 := zr_ne (k := 7) (by decide) q7; have z8 := zr_ne (k := 8) (by decide) q8; have z9 := zr_ne (k := 9) (by decide) q9; omega) (by decide) ?_
    cases hf
    exact zr_throwS (rest := []) hlT X hP hS hl.1 th_2 (hZ.2.2.2.2 1 (by decide)) hout (Nat.le_of_ble_eq_true rfl) (Nat.le_of_ble_eq_true rfl) (Nat.le_of_ble_eq_true rfl) (Nat.le_of_ble_eq_true rfl) dX7_buoy_148 dX7_buoy_151 dX7_buoy_152 dX7_buoy_154 dX7_buoy_157
  · have hf := if_f he hf
    cases hf
    exact zr_xV (rest := []) (As := [.int a1]) X hP hS (cx_X7_checkBuoy (g := g) (nc := nc) (I := I) (J := J) (O := O) hnI l hlT  he he1) cw_X7_185 (zr_recv X hP (Nat.lt_of_lt_of_le (zk_0).1 hnI) (zb_ceIo zk_0 (by decide)) rfl) rfl hl.1 (Nat.le_of_ble_eq_true rfl) ⟨Nat.le_of_ble_eq_true rfl, Nat.le_of_ble_eq_true rfl⟩ ⟨Nat.le_of_ble_eq_true rfl, Nat.le_of_ble_eq_true rfl⟩ dX7_buoy_2 rfl hout
set_option maxHeartbeats 4000000 in
set_option maxRecDepth 100000 in
theorem cx_X7_rope {g : zb_G} {nc : Nat} (hnI : 306 ≤ nc) (l : Launch) (hlT : l.stackTraces = false) {a1 : Int32} {a2 : Int32} {I J O : Mem} {r9 : Int32} {E0 : Nat} (hE : ¬ E0 = 0) (hf : fX7_rope a1 a2 I = some (E0, r9)) : zb_Cx l g nc yX7_rope cX7_rope 3 (some .int) 7 146 [.ref (g.2.2 + 0), .int a1, .int a2] (zb_ce g I J O) (zb_en E0) (zb_ce g I J O) := by
  refine zb_ofX (own := RX7) (by decide +kernel) rfl (Nat.le_of_ble_eq_true rfl) ?_
  intro p e s m args below meth c ls X hr hP hl hout
  have hx := X.1.1
  have hb := X.1.2.1
  have ho := X.1.2.2.2.1
  have hts := X.1.2.2.2.2
  have hZ := X.2.2.2
  have hl : lv_has ls 3 [(0, .ref (g.2.2 + 0)), (1, .int a1), (2, .int a2)] := hl
  have hS : va_S (zb_A g) s.heap s.heap [] := va_S.rf
  obtain ⟨H, hH⟩ : ∃ H, H = s.heap := ⟨_, rfl⟩
  obtain ⟨locs, hlocs⟩ : ∃ z : List Loc, z = [] := ⟨_, rfl⟩
  rw [← hH] at hP
  have hS : va_S (zb_A g) s.heap H locs := by rw [hH, hlocs]; exact hS
  show W p l e _ s m args below meth c s.heap [] 0 0 _ _
  rw [← hH, ← hlocs]
  rw [fX7_rope] at hf
  refine lv_aload_n hx hb dX7_rope_0 rfl (lv_at hl 0 rfl) ?_
  refine lv_iload_n hx hb dX7_rope_1 rfl (lv_at hl 1 rfl) ?_
  obtain ⟨e1, he1, hf⟩ := ob_e hf
  rcases Classical.em (e1 = 0) with he | he
  · have hf := if_t he hf
    rw [he] at he1
    refine zr_cVv (rest := []) (As := [.int a1]) X hP hS (ct_X7_checkRope (g := g) (nc := nc) (I := I) (J := J) (O := O) hnI l  he1) cw_X7_222 (zr_recv X hP (Nat.lt_of_lt_of_le (zk_0).1 hnI) (zb_ceIo zk_0 (by decide)) rfl) rfl hl.1 (Nat.le_of_ble_eq_true rfl) ⟨Nat.le_of_ble_eq_true rfl, Nat.le_of_ble_eq_true rfl⟩ ⟨Nat.le_of_ble_eq_true rfl, Nat.le_of_ble_eq_true rfl⟩ dX7_rope_2 rfl (fun H locs hP hS => ?_)
    refine lv_iload_n hx hb dX7_rope_5 rfl (lv_at hl 2 rfl) ?_
    rcases Classical.em (a2 = (0 : Int32)) with q0 | q0
    · have hf := if_t q0 hf
      refine lv_tableIn (off := 30) (tgt := 36) hx hb dX7_rope_6 (by rw [q0]; decide) (by rw [q0]; decide) (by rw [q0]; rfl) (by decide) ?_
      exfalso
      obtain ⟨x2, hx2, hf⟩ := ob_e hf
      cases hf
      exact hE rfl
    have hf := if_f q0 hf
    rcases Classical.em (a2 = (1 : Int32)) with q1 | q1
    · have hf := if_t q1 hf
      refine lv_tableIn (off := 42) (tgt := 48) hx hb dX7_rope_6 (by rw [q1]; decide) (by rw [q1]; decide) (by rw [q1]; rfl) (by decide) ?_
      exfalso
      obtain ⟨x3, hx3, hf⟩ := ob_e hf
      cases hf
      exact hE rfl
    have hf := if_f q1 hf
    rcases Classical.em (a2 = (2 : Int32)) with q2 | q2
    · have hf := if_t q2 hf
      refine lv_tableIn (off := 55) (tgt := 61) hx hb dX7_rope_6 (by rw [q2]; decide) (by rw [q2]; decide) (by rw [q2]; rfl) (by decide) ?_
      exfalso
      obtain ⟨x4, hx4, hf⟩ := ob_e hf
      cases hf
      exact hE rfl
    have hf := if_f q2 hf
    rcases Classical.em (a2 = (3 : Int32)) with q3 | q3
    · have hf := if_t q3 hf
      refine lv_tableIn (off := 68) (tgt := 74) hx hb dX7_rope_6 (by rw [q3]; decide) (by rw [q3]; decide) (by rw [q3]; rfl) (by decide) ?_
      exfalso
      obtain ⟨x5, hx5, hf⟩ := ob_e hf
      obtain ⟨x6, ht, hf⟩ := pl_e hf
      cases hf
      exact hE rfl
    have hf := if_f q3 hf
    refine lv_tableOut (tgt := 97) hx hb dX7_rope_6 (by have z0 := zr_ne (k := 0) (by decide) q0; have z1 := zr_ne (k := 1) (by decide) q1; have z2 := zr_ne (k := 2) (by decide) q2; have z3 := zr_ne (k := 3) (by decide) q3; omega) (by decide) ?_
    cases hf
    exact zr_throwS (rest := []) hlT X hP hS hl.1 th_2 (hZ.2.2.2.2 1 (by decide)) hout (Nat.le_of_ble_eq_true rfl) (Nat.le_of_ble_eq_true rfl) (Nat.le_of_ble_eq_true rfl) (Nat.le_of_ble_eq_true rfl) dX7_rope_97 dX7_rope_100 dX7_rope_101 dX7_rope_103 dX7_rope_106
  · have hf := if_f he hf
    cases hf
    exact zr_xV (rest := []) (As := [.int a1]) X hP hS (cx_X7_checkRope (g := g) (nc := nc) (I := I) (J := J) (O := O) hnI l hlT  he he1) cw_X7_222 (zr_recv X hP (Nat.lt_of_lt_of_le (zk_0).1 hnI) (zb_ceIo zk_0 (by decide)) rfl) rfl hl.1 (Nat.le_of_ble_eq_true rfl) ⟨Nat.le_of_ble_eq_true rfl, Nat.le_of_ble_eq_true rfl⟩ ⟨Nat.le_of_ble_eq_true rfl, Nat.le_of_ble_eq_true rfl⟩ dX7_rope_2 rfl hout
set_option maxHeartbeats 4000000 in
set_option maxRecDepth 100000 in
theorem cx_X7_account {g : zb_G} {nc : Nat} (hnI : 306 ≤ nc) (l : Launch) (hlT : l.stackTraces = false) {a1 : Int32} {I J O : Mem} {r9 : Int32} {E0 : Nat} (hE : ¬ E0 = 0) (hf : fX7_account a1 I = some (E0, r9)) : zb_Cx l g nc yX7_account cX7_account 2 (some .int) 6 125 [.ref (g.2.2 + 0), .int a1] (zb_ce g I J O) (zb_en E0) (zb_ce g I J O) := by
  refine zb_ofX (own := RX7) (by decide +kernel) rfl (Nat.le_of_ble_eq_true rfl) ?_
  intro p e s m args below meth c ls X hr hP hl hout
  have hx := X.1.1
  have hb := X.1.2.1
  have ho := X.1.2.2.2.1
  have hts := X.1.2.2.2.2
  have hZ := X.2.2.2
  have hl : lv_has ls 2 [(0, .ref (g.2.2 + 0)), (1, .int a1)] := hl
  have hS : va_S (zb_A g) s.heap s.heap [] := va_S.rf
  obtain ⟨H, hH⟩ : ∃ H, H = s.heap := ⟨_, rfl⟩
  obtain ⟨locs, hlocs⟩ : ∃ z : List Loc, z = [] := ⟨_, rfl⟩
  rw [← hH] at hP
  have hS : va_S (zb_A g) s.heap H locs := by rw [hH, hlocs]; exact hS
  show W p l e _ s m args below meth c s.heap [] 0 0 _ _
  rw [← hH, ← hlocs]
  rw [fX7_account] at hf
  refine lv_iload_n hx hb dX7_account_0 rfl (lv_at hl 1 rfl) ?_
  refine lv_if_lt (tgt := 13) hx hb dX7_account_1 (by decide) (fun hc => ?_) (fun hc => ?_)
  · have hf := if_t hc hf
    cases hf
    exact zr_throwS (rest := []) hlT X hP hS hl.1 th_2 (hZ.2.2.2.2 1 (by decide)) hout (Nat.le_of_ble_eq_true rfl) (Nat.le_of_ble_eq_true rfl) (Nat.le_of_ble_eq_true rfl) (Nat.le_of_ble_eq_true rfl) dX7_account_13 dX7_account_16 dX7_account_17 dX7_account_19 dX7_account_22
  · have hf := if_f hc hf
    refine lv_iload_n hx hb dX7_account_4 rfl (lv_at hl 1 rfl) ?_
    refine lv_aload_n hx hb dX7_account_5 rfl (lv_at hl 0 rfl) ?_
    refine gf_X7_36 X hnI hP zk_0 dX7_account_6 ?_
    refine zr_alenI X hP hnI zk_51 dX7_account_9 ?_
    refine lv_icmp_lt (tgt := 23) hx hb dX7_account_10 (by decide) (fun hc => ?_) (fun hc => ?_)
    · have hf := if_t hc hf
      exfalso
      obtain ⟨x1, hx1, hf⟩ := ob_e hf
      cases hf
      exact hE rfl
    · have hf := if_f hc hf
      cases hf
      exact zr_throwS (rest := []) hlT X hP hS hl.1 th_2 (hZ.2.2.2.2 1 (by decide)) hout (Nat.le_of_ble_eq_true rfl) (Nat.le_of_ble_eq_true rfl) (Nat.le_of_ble_eq_true rfl) (Nat.le_of_ble_eq_true rfl) dX7_account_13 dX7_account_16 dX7_account_17 dX7_account_19 dX7_account_22
set_option maxHeartbeats 4000000 in
set_option maxRecDepth 100000 in
theorem cx_X7_rowOfKept {g : zb_G} {nc : Nat} (hnI : 306 ≤ nc) (l : Launch) (hlT : l.stackTraces = false) {a1 : Int32} {I J O : Mem} {r9 : Int32} {E0 : Nat} (hE : ¬ E0 = 0) (hf : fX7_rowOfKept a1 I = some (E0, r9)) : zb_Cx l g nc yX7_rowOfKept cX7_rowOfKept 2 (some .int) 6 125 [.ref (g.2.2 + 0), .int a1] (zb_ce g I J O) (zb_en E0) (zb_ce g I J O) := by
  refine zb_ofX (own := RX7) (by decide +kernel) rfl (Nat.le_of_ble_eq_true rfl) ?_
  intro p e s m args below meth c ls X hr hP hl hout
  have hx := X.1.1
  have hb := X.1.2.1
  have ho := X.1.2.2.2.1
  have hts := X.1.2.2.2.2
  have hZ := X.2.2.2
  have hl : lv_has ls 2 [(0, .ref (g.2.2 + 0)), (1, .int a1)] := hl
  have hS : va_S (zb_A g) s.heap s.heap [] := va_S.rf
  obtain ⟨H, hH⟩ : ∃ H, H = s.heap := ⟨_, rfl⟩
  obtain ⟨locs, hlocs⟩ : ∃ z : List Loc, z = [] := ⟨_, rfl⟩
  rw [← hH] at hP
  have hS : va_S (zb_A g) s.heap H locs := by rw [hH, hlocs]; exact hS
  show W p l e _ s m args below meth c s.heap [] 0 0 _ _
  rw [← hH, ← hlocs]
  rw [fX7_rowOfKept] at hf
  refine lv_iload_n hx hb dX7_rowOfKept_0 rfl (lv_at hl 1 rfl) ?_
  refine lv_aload_n hx hb dX7_rowOfKept_1 rfl (lv_at hl 0 rfl) ?_
  refine gf_X7_10 X hnI hP zk_0 dX7_rowOfKept_2 ?_
  obtain ⟨x1, hx1, hf⟩ := ob_e hf
  refine zr_cVi (rest := [.int a1]) (As := []) X hP hS (ct_X5_firstKept (g := g) (nc := nc) (I := I) (J := J) (O := O) hnI l zb_isB1 hx1) cw_X7_147 (zr_recv X hP (Nat.lt_of_lt_of_le (zk_1).1 hnI) (zb_ceIo zk_1 (by decide)) rfl) rfl hl.1 (Nat.le_of_ble_eq_true rfl) ⟨Nat.le_of_ble_eq_true rfl, Nat.le_of_ble_eq_true rfl⟩ ⟨Nat.le_of_ble_eq_true rfl, Nat.le_of_ble_eq_true rfl⟩ dX7_rowOfKept_5 rfl (fun H locs hP hS => ?_)
  refine lv_icmp_lt (tgt := 22) hx hb dX7_rowOfKept_8 (by decide) (fun hc => ?_) (fun hc => ?_)
  · have hf := if_t hc hf
    cases hf
    exact zr_throwW (rest := []) hlT X hP hS hl.1 th_1 (hZ.2.2.2.2 20 (by decide)) hout (Nat.le_of_ble_eq_true rfl) (Nat.le_of_ble_eq_true rfl) (Nat.le_of_ble_eq_true rfl) (Nat.le_of_ble_eq_true rfl) dX7_rowOfKept_22 dX7_rowOfKept_25 dX7_rowOfKept_26 dX7_rowOfKept_29 dX7_rowOfKept_32
  · have hf := if_f hc hf
    refine lv_iload_n hx hb dX7_rowOfKept_11 rfl (lv_at hl 1 rfl) ?_
    refine lv_aload_n hx hb dX7_rowOfKept_12 rfl (lv_at hl 0 rfl) ?_
    refine gf_X7_10 X hnI hP zk_0 dX7_rowOfKept_13 ?_
    refine gf_X7_144 X hnI hP zk_1 dX7_rowOfKept_16 ?_
    refine lv_icmp_lt (tgt := 33) hx hb dX7_rowOfKept_19 (by decide) (fun hc => ?_) (fun hc => ?_)
    · have hf := if_t hc hf
      exfalso
      obtain ⟨x2, hx2, hf⟩ := ob_e hf
      cases hf
      exact hE rfl
    · have hf := if_f hc hf
      cases hf
      exact zr_throwW (rest := []) hlT X hP hS hl.1 th_1 (hZ.2.2.2.2 20 (by decide)) hout (Nat.le_of_ble_eq_true rfl) (Nat.le_of_ble_eq_true rfl) (Nat.le_of_ble_eq_true rfl) (Nat.le_of_ble_eq_true rfl) dX7_rowOfKept_22 dX7_rowOfKept_25 dX7_rowOfKept_26 dX7_rowOfKept_29 dX7_rowOfKept_32
set_option maxHeartbeats 4000000 in
set_option maxRecDepth 100000 in
theorem cx_X7_hour {g : zb_G} {nc : Nat} (hnI : 306 ≤ nc) (l : Launch) (hlT : l.stackTraces = false) {a1 : Int32} {a2 : Int32} {I J O : Mem} {r9 : Int32} {E0 : Nat} (hE : ¬ E0 = 0) (hf : fX7_hour a1 a2 I = some (E0, r9)) : zb_Cx l g nc yX7_hour cX7_hour 5 (some .int) 7 146 [.ref (g.2.2 + 0), .int a1, .int a2] (zb_ce g I J O) (zb_en E0) (zb_ce g I J O) := by
  refine zb_ofX (own := RX7) (by decide +kernel) rfl (Nat.le_of_ble_eq_true rfl) ?_
  intro p e s m args below meth c ls X hr hP hl hout
  have hx := X.1.1
  have hb := X.1.2.1
  have ho := X.1.2.2.2.1
  have hts := X.1.2.2.2.2
  have hZ := X.2.2.2
  have hl : lv_has ls 5 [(0, .ref (g.2.2 + 0)), (1, .int a1), (2, .int a2)] := hl
  have hS : va_S (zb_A g) s.heap s.heap [] := va_S.rf
  obtain ⟨H, hH⟩ : ∃ H, H = s.heap := ⟨_, rfl⟩
  obtain ⟨locs, hlocs⟩ : ∃ z : List Loc, z = [] := ⟨_, rfl⟩
  rw [← hH] at hP
  have hS : va_S (zb_A g) s.heap H locs := by rw [hH, hlocs]; exact hS
  show W p l e _ s m args below meth c s.heap [] 0 0 _ _
  rw [← hH, ← hlocs]
  rw [fX7_hour] at hf
  refine lv_aload_n hx hb dX7_hour_0 rfl (lv_at hl 0 rfl) ?_
  refine lv_iload_n hx hb dX7_hour_1 rfl (lv_at hl 1 rfl) ?_
  obtain ⟨e1, x2, he1_x2, hf⟩ := ob2_e hf
  rcases Classical.em (e1 = 0) with he | he
  · have hf := if_t he hf
    rw [he] at he1_x2
    refine zr_cVi (rest := []) (As := [.int a1]) X hP hS (ct_X7_rowOfKept (g := g) (nc := nc) (I := I) (J := J) (O := O) hnI l  he1_x2) cw_X7_234 (zr_recv X hP (Nat.lt_of_lt_of_le (zk_0).1 hnI) (zb_ceIo zk_0 (by decide)) rfl) rfl hl.1 (Nat.le_of_ble_eq_true rfl) ⟨Nat.le_of_ble_eq_true rfl, Nat.le_of_ble_eq_true rfl⟩ ⟨Nat.le_of_ble_eq_true rfl, Nat.le_of_ble_eq_true rfl⟩ dX7_hour_2 rfl (fun H locs hP hS => ?_)
    refine lv_istore_n (lv' := [(3, .int x2), (0, .ref (g.2.2 + 0)), (1, .int a1), (2, .int a2)]) hx hb dX7_hour_5 rfl hl (by decide) rfl (fun ls hl => ?_)
    refine lv_aload_n hx hb dX7_hour_6 rfl (lv_at hl 1 rfl) ?_
    refine gf_X7_10 X hnI hP zk_0 dX7_hour_7 ?_
    refine gf_X7_237 X hnI hP zk_1 dX7_hour_10 ?_
    refine lv_astore (lv' := [(4, .ref (g.2.2 + 15)), (3, .int x2), (0, .ref (g.2.2 + 0)), (1, .int a1), (2, .int a2)]) hx hb dX7_hour_13 hl (by decide) rfl (fun ls hl => ?_)
    refine lv_iload_n hx hb dX7_hour_15 rfl (lv_at hl 4 rfl) ?_
    rcases Classical.em (a2 = (0 : Int32)) with q0 | q0
    · have hf := if_t q0 hf
      refine lv_tableIn (off := 36) (tgt := 52) hx hb dX7_hour_16 (by rw [q0]; decide) (by rw [q0]; decide) (by rw [q0]; rfl) (by decide) ?_
      exfalso
      obtain ⟨x3, hx3, hf⟩ := ob_e hf
      cases hf
      exact hE rfl
    have hf := if_f q0 hf
    rcases Classical.em (a2 = (1 : Int32)) with q1 | q1
    · have hf := if_t q1 hf
      refine lv_tableIn (off := 44) (tgt := 60) hx hb dX7_hour_16 (by rw [q1]; decide) (by rw [q1]; decide) (by rw [q1]; rfl) (by decide) ?_
      exfalso
      obtain ⟨x4, hx4, hf⟩ := ob_e hf
      cases hf
      exact hE rfl
    have hf := if_f q1 hf
    rcases Classical.em (a2 = (2 : Int32)) with q2 | q2
    · have hf := if_t q2 hf
      refine lv_tableIn (off := 52) (tgt := 68) hx hb dX7_hour_16 (by rw [q2]; decide) (by rw [q2]; decide) (by rw [q2]; rfl) (by decide) ?_
      exfalso
      obtain ⟨x5, hx5, hf⟩ := ob_e hf
      cases hf
      exact hE rfl
    have hf := if_f q2 hf
    rcases Classical.em (a2 = (3 : Int32)) with q3 | q3
    · have hf := if_t q3 hf
      refine lv_tableIn (off := 60) (tgt := 76) hx hb dX7_hour_16 (by rw [q3]; decide) (by rw [q3]; decide) (by rw [q3]; rfl) (by decide) ?_
      exfalso
      obtain ⟨x6, hx6, hf⟩ := ob_e hf
      obtain ⟨x7, hx7, hf⟩ := ob_e hf
      cases hf
      exact hE rfl
    have hf := if_f q3 hf
    rcases Classical.em (a2 = (4 : Int32)) with q4 | q4
    · have hf := if_t q4 hf
      refine lv_tableIn (off := 71) (tgt := 87) hx hb dX7_hour_16 (by rw [q4]; decide) (by rw [q4]; decide) (by rw [q4]; rfl) (by decide) ?_
      exfalso
      obtain ⟨x8, hx8, hf⟩ := ob_e hf
      cases hf
      exact hE rfl
    have hf := if_f q4 hf
    refine lv_tableOut (tgt := 95) hx hb dX7_hour_16 (by have z0 := zr_ne (k := 0) (by decide) q0; have z1 := zr_ne (k := 1) (by decide) q1; have z2 := zr_ne (k := 2) (by decide) q2; have z3 := zr_ne (k := 3) (by decide) q3; have z4 := zr_ne (k := 4) (by decide) q4; omega) (by decide) ?_
    cases hf
    exact zr_throwS (rest := []) hlT X hP hS hl.1 th_2 (hZ.2.2.2.2 1 (by decide)) hout (Nat.le_of_ble_eq_true rfl) (Nat.le_of_ble_eq_true rfl) (Nat.le_of_ble_eq_true rfl) (Nat.le_of_ble_eq_true rfl) dX7_hour_95 dX7_hour_98 dX7_hour_99 dX7_hour_101 dX7_hour_104
  · have hf := if_f he hf
    cases hf
    exact zr_xV (rest := []) (As := [.int a1]) X hP hS (cx_X7_rowOfKept (g := g) (nc := nc) (I := I) (J := J) (O := O) hnI l hlT  he he1_x2) cw_X7_234 (zr_recv X hP (Nat.lt_of_lt_of_le (zk_0).1 hnI) (zb_ceIo zk_0 (by decide)) rfl) rfl hl.1 (Nat.le_of_ble_eq_true rfl) ⟨Nat.le_of_ble_eq_true rfl, Nat.le_of_ble_eq_true rfl⟩ ⟨Nat.le_of_ble_eq_true rfl, Nat.le_of_ble_eq_true rfl⟩ dX7_hour_2 rfl hout
set_option maxHeartbeats 4000000 in
set_option maxRecDepth 100000 in
theorem cx_X7_level {g : zb_G} {nc : Nat} (hnI : 306 ≤ nc) (l : Launch) (hlT : l.stackTraces = false) {a1 : Int32} {I J O : Mem} {r9 : Int32} {E0 : Nat} (hE : ¬ E0 = 0) (hf : fX7_level a1 I = some (E0, r9)) : zb_Cx l g nc yX7_level cX7_level 3 (some .int) 7 146 [.ref (g.2.2 + 0), .int a1] (zb_ce g I J O) (zb_en E0) (zb_ce g I J O) := by
  refine zb_ofX (own := RX7) (by decide +kernel) rfl (Nat.le_of_ble_eq_true rfl) ?_
  intro p e s m args below meth c ls X hr hP hl hout
  have hx := X.1.1
  have hb := X.1.2.1
  have ho := X.1.2.2.2.1
  have hts := X.1.2.2.2.2
  have hZ := X.2.2.2
  have hl : lv_has ls 3 [(0, .ref (g.2.2 + 0)), (1, .int a1)] := hl
  have hS : va_S (zb_A g) s.heap s.heap [] := va_S.rf
  obtain ⟨H, hH⟩ : ∃ H, H = s.heap := ⟨_, rfl⟩
  obtain ⟨locs, hlocs⟩ : ∃ z : List Loc, z = [] := ⟨_, rfl⟩
  rw [← hH] at hP
  have hS : va_S (zb_A g) s.heap H locs := by rw [hH, hlocs]; exact hS
  show W p l e _ s m args below meth c s.heap [] 0 0 _ _
  rw [← hH, ← hlocs]
  rw [fX7_level] at hf
  refine lv_aload_n hx hb dX7_level_0 rfl (lv_at hl 0 rfl) ?_
  refine lv_iload_n hx hb dX7_level_1 rfl (lv_at hl 1 rfl) ?_
  obtain ⟨e1, x2, he1_x2, hf⟩ := ob2_e hf
  rcases Classical.em (e1 = 0) with he | he
  · have hf := if_t he hf
    rw [he] at he1_x2
    refine zr_cVi (rest := []) (As := [.int a1]) X hP hS (ct_X7_rowOfKept (g := g) (nc := nc) (I := I) (J := J) (O := O) hnI l  he1_x2) cw_X7_234 (zr_recv X hP (Nat.lt_of_lt_of_le (zk_0).1 hnI) (zb_ceIo zk_0 (by decide)) rfl) rfl hl.1 (Nat.le_of_ble_eq_true rfl) ⟨Nat.le_of_ble_eq_true rfl, Nat.le_of_ble_eq_true rfl⟩ ⟨Nat.le_of_ble_eq_true rfl, Nat.le_of_ble_eq_true rfl⟩ dX7_level_2 rfl (fun H locs hP hS => ?_)
    refine lv_istore_n (lv' := [(2, .int x2), (0, .ref (g.2.2 + 0)), (1, .int a1)]) hx hb dX7_level_5 rfl hl (by decide) rfl (fun ls hl => ?_)
    refine lv_aload_n hx hb dX7_level_6 rfl (lv_at hl 1 rfl) ?_
    refine gf_X7_10 X hnI hP zk_0 dX7_level_7 ?_
    refine gf_X7_237 X hnI hP zk_1 dX7_level_10 ?_
    refine gf_X7_249 X hnI hP zk_15 dX7_level_13 ?_
    refine lv_iload_n hx hb dX7_level_16 rfl (lv_at hl 0 rfl) ?_
    obtain ⟨x3, hx3, hf⟩ := ob_e hf
    refine zr_aldI X hP hnI zk_18 hx3 dX7_level_17 ?_
    refine lv_if_ne (tgt := 32) hx hb dX7_level_18 (by decide) (fun hc => ?_) (fun hc => ?_)
    · have hf := if_f hc hf
      exfalso
      obtain ⟨x4, hx4, hf⟩ := ob_e hf
      cases hf
      exact hE rfl
    · have hf := if_t hc hf
      cases hf
      exact zr_throwN (rest := []) hlT X hP hS hl.1 th_4 (hZ.2.2.2.2 2 (by decide)) hout (Nat.le_of_ble_eq_true rfl) (Nat.le_of_ble_eq_true rfl) (Nat.le_of_ble_eq_true rfl) (Nat.le_of_ble_eq_true rfl) dX7_level_21 dX7_level_24 dX7_level_25 dX7_level_28 dX7_level_31
  · have hf := if_f he hf
    cases hf
    exact zr_xV (rest := []) (As := [.int a1]) X hP hS (cx_X7_rowOfKept (g := g) (nc := nc) (I := I) (J := J) (O := O) hnI l hlT  he he1_x2) cw_X7_234 (zr_recv X hP (Nat.lt_of_lt_of_le (zk_0).1 hnI) (zb_ceIo zk_0 (by decide)) rfl) rfl hl.1 (Nat.le_of_ble_eq_true rfl) ⟨Nat.le_of_ble_eq_true rfl, Nat.le_of_ble_eq_true rfl⟩ ⟨Nat.le_of_ble_eq_true rfl, Nat.le_of_ble_eq_true rfl⟩ dX7_level_2 rfl hout
set_option maxHeartbeats 4000000 in
set_option maxRecDepth 100000 in
theorem cx_X7_value {g : zb_G} {nc : Nat} (hnI : 306 ≤ nc) (l : Launch) (hlT : l.stackTraces = false) {a1 : Int32} {a2 : Int32} {I J O : Mem} {r9 : Int32} {E0 : Nat} (hE : ¬ E0 = 0) (hf : fX7_value a1 a2 I = some (E0, r9)) : zb_Cx l g nc yX7_value cX7_value 4 (some .int) 7 146 [.ref (g.2.2 + 0), .int a1, .int a2] (zb_ce g I J O) (zb_en E0) (zb_ce g I J O) := by
  refine zb_ofX (own := RX7) (by decide +kernel) rfl (Nat.le_of_ble_eq_true rfl) ?_
  intro p e s m args below meth c ls X hr hP hl hout
  have hx := X.1.1
  have hb := X.1.2.1
  have ho := X.1.2.2.2.1
  have hts := X.1.2.2.2.2
  have hZ := X.2.2.2
  have hl : lv_has ls 4 [(0, .ref (g.2.2 + 0)), (1, .int a1), (2, .int a2)] := hl
  have hS : va_S (zb_A g) s.heap s.heap [] := va_S.rf
  obtain ⟨H, hH⟩ : ∃ H, H = s.heap := ⟨_, rfl⟩
  obtain ⟨locs, hlocs⟩ : ∃ z : List Loc, z = [] := ⟨_, rfl⟩
  rw [← hH] at hP
  have hS : va_S (zb_A g) s.heap H locs := by rw [hH, hlocs]; exact hS
  show W p l e _ s m args below meth c s.heap [] 0 0 _ _
  rw [← hH, ← hlocs]
  rw [fX7_value] at hf
  refine lv_aload_n hx hb dX7_value_0 rfl (lv_at hl 0 rfl) ?_
  refine lv_iload_n hx hb dX7_value_1 rfl (lv_at hl 1 rfl) ?_
  obtain ⟨e1, x2, he1_x2, hf⟩ := ob2_e hf
  rcases Classical.em (e1 = 0) with he | he
  · have hf := if_t he hf
    rw [he] at he1_x2
    refine zr_cVi (rest := []) (As := [.int a1]) X hP hS (ct_X7_rowOfKept (g := g) (nc := nc) (I := I) (J := J) (O := O) hnI l  he1_x2) cw_X7_234 (zr_recv X hP (Nat.lt_of_lt_of_le (zk_0).1 hnI) (zb_ceIo zk_0 (by decide)) rfl) rfl hl.1 (Nat.le_of_ble_eq_true rfl) ⟨Nat.le_of_ble_eq_true rfl, Nat.le_of_ble_eq_true rfl⟩ ⟨Nat.le_of_ble_eq_true rfl, Nat.le_of_ble_eq_true rfl⟩ dX7_value_2 rfl (fun H locs hP hS => ?_)
    refine lv_istore_n (lv' := [(3, .int x2), (0, .ref (g.2.2 + 0)), (1, .int a1), (2, .int a2)]) hx hb dX7_value_5 rfl hl (by decide) rfl (fun ls hl => ?_)
    refine lv_aload_n hx hb dX7_value_6 rfl (lv_at hl 1 rfl) ?_
    refine lv_iload_n hx hb dX7_value_7 rfl (lv_at hl 3 rfl) ?_
    obtain ⟨e3, he3, hf⟩ := ob_e hf
    rcases Classical.em (e3 = 0) with he | he
    · have hf := if_t he hf
      rw [he] at he3
      refine zr_cVv (rest := []) (As := [.int a2]) X hP hS (ct_X7_checkBuoy (g := g) (nc := nc) (I := I) (J := J) (O := O) hnI l  he3) cw_X7_185 (zr_recv X hP (Nat.lt_of_lt_of_le (zk_0).1 hnI) (zb_ceIo zk_0 (by decide)) rfl) rfl hl.1 (Nat.le_of_ble_eq_true rfl) ⟨Nat.le_of_ble_eq_true rfl, Nat.le_of_ble_eq_true rfl⟩ ⟨Nat.le_of_ble_eq_true rfl, Nat.le_of_ble_eq_true rfl⟩ dX7_value_8 rfl (fun H locs hP hS => ?_)
      refine lv_aload_n hx hb dX7_value_11 rfl (lv_at hl 1 rfl) ?_
      refine gf_X7_10 X hnI hP zk_0 dX7_value_12 ?_
      refine gf_X7_237 X hnI hP zk_1 dX7_value_15 ?_
      refine gf_X7_252 X hnI hP zk_15 dX7_value_18 ?_
      refine lv_iload_n hx hb dX7_value_21 rfl (lv_at hl 0 rfl) ?_
      obtain ⟨x4, hx4, hf⟩ := ob_e hf
      refine zr_aldI X hP hnI zk_20 hx4 dX7_value_22 ?_
      refine lv_iload_n hx hb dX7_value_23 rfl (lv_at hl 3 rfl) ?_
      obtain ⟨x5, hx5, hf⟩ := ob_e hf
      refine zr_cSi (rest := []) (As := [.int x4, .int a2]) X hP hS (ct_X7_has (g := g) (nc := nc) (I := I) (J := J) (O := O)  l  hx5) cw_X7_215  rfl hl.1 (Nat.le_of_ble_eq_true rfl) ⟨Nat.le_of_ble_eq_true rfl, Nat.le_of_ble_eq_true rfl⟩ ⟨Nat.le_of_ble_eq_true rfl, Nat.le_of_ble_eq_true rfl⟩ dX7_value_24 rfl (fun H locs hP hS => ?_)
      refine lv_if_ne (tgt := 41) hx hb dX7_value_27 (by decide) (fun hc => ?_) (fun hc => ?_)
      · have hf := if_f hc hf
        exfalso
        obtain ⟨x6, hx6, hf⟩ := ob_e hf
        cases hf
        exact hE rfl
      · have hf := if_t hc hf
        cases hf
        exact zr_throwN (rest := []) hlT X hP hS hl.1 th_4 (hZ.2.2.2.2 3 (by decide)) hout (Nat.le_of_ble_eq_true rfl) (Nat.le_of_ble_eq_true rfl) (Nat.le_of_ble_eq_true rfl) (Nat.le_of_ble_eq_true rfl) dX7_value_30 dX7_value_33 dX7_value_34 dX7_value_37 dX7_value_40
    · have hf := if_f he hf
      cases hf
      exact zr_xV (rest := []) (As := [.int a2]) X hP hS (cx_X7_checkBuoy (g := g) (nc := nc) (I := I) (J := J) (O := O) hnI l hlT  he he3) cw_X7_185 (zr_recv X hP (Nat.lt_of_lt_of_le (zk_0).1 hnI) (zb_ceIo zk_0 (by decide)) rfl) rfl hl.1 (Nat.le_of_ble_eq_true rfl) ⟨Nat.le_of_ble_eq_true rfl, Nat.le_of_ble_eq_true rfl⟩ ⟨Nat.le_of_ble_eq_true rfl, Nat.le_of_ble_eq_true rfl⟩ dX7_value_8 rfl hout
  · have hf := if_f he hf
    cases hf
    exact zr_xV (rest := []) (As := [.int a1]) X hP hS (cx_X7_rowOfKept (g := g) (nc := nc) (I := I) (J := J) (O := O) hnI l hlT  he he1_x2) cw_X7_234 (zr_recv X hP (Nat.lt_of_lt_of_le (zk_0).1 hnI) (zb_ceIo zk_0 (by decide)) rfl) rfl hl.1 (Nat.le_of_ble_eq_true rfl) ⟨Nat.le_of_ble_eq_true rfl, Nat.le_of_ble_eq_true rfl⟩ ⟨Nat.le_of_ble_eq_true rfl, Nat.le_of_ble_eq_true rfl⟩ dX7_value_2 rfl hout
set_option maxHeartbeats 4000000 in
set_option maxRecDepth 100000 in
theorem cx_X7_why {g : zb_G} {nc : Nat} (hnI : 306 ≤ nc) (l : Launch) (hlT : l.stackTraces = false) {a1 : Int32} {a2 : Int32} {I J O : Mem} {r9 : Int32} {E0 : Nat} (hE : ¬ E0 = 0) (hf : fX7_why a1 a2 I = some (E0, r9)) : zb_Cx l g nc yX7_why cX7_why 5 (some .int) 7 146 [.ref (g.2.2 + 0), .int a1, .int a2] (zb_ce g I J O) (zb_en E0) (zb_ce g I J O) := by
  refine zb_ofX (own := RX7) (by decide +kernel) rfl (Nat.le_of_ble_eq_true rfl) ?_
  intro p e s m args below meth c ls X hr hP hl hout
  have hx := X.1.1
  have hb := X.1.2.1
  have ho := X.1.2.2.2.1
  have hts := X.1.2.2.2.2
  have hZ := X.2.2.2
  have hl : lv_has ls 5 [(0, .ref (g.2.2 + 0)), (1, .int a1), (2, .int a2)] := hl
  have hS : va_S (zb_A g) s.heap s.heap [] := va_S.rf
  obtain ⟨H, hH⟩ : ∃ H, H = s.heap := ⟨_, rfl⟩
  obtain ⟨locs, hlocs⟩ : ∃ z : List Loc, z = [] := ⟨_, rfl⟩
  rw [← hH] at hP
  have hS : va_S (zb_A g) s.heap H locs := by rw [hH, hlocs]; exact hS
  show W p l e _ s m args below meth c s.heap [] 0 0 _ _
  rw [← hH, ← hlocs]
  rw [fX7_why] at hf
  refine lv_aload_n hx hb dX7_why_0 rfl (lv_at hl 0 rfl) ?_
  refine lv_iload_n hx hb dX7_why_1 rfl (lv_at hl 1 rfl) ?_
  obtain ⟨e1, x2, he1_x2, hf⟩ := ob2_e hf
  rcases Classical.em (e1 = 0) with he | he
  · have hf := if_t he hf
    rw [he] at he1_x2
    refine zr_cVi (rest := []) (As := [.int a1]) X hP hS (ct_X7_rowOfKept (g := g) (nc := nc) (I := I) (J := J) (O := O) hnI l  he1_x2) cw_X7_234 (zr_recv X hP (Nat.lt_of_lt_of_le (zk_0).1 hnI) (zb_ceIo zk_0 (by decide)) rfl) rfl hl.1 (Nat.le_of_ble_eq_true rfl) ⟨Nat.le_of_ble_eq_true rfl, Nat.le_of_ble_eq_true rfl⟩ ⟨Nat.le_of_ble_eq_true rfl, Nat.le_of_ble_eq_true rfl⟩ dX7_why_2 rfl (fun H locs hP hS => ?_)
    refine lv_istore_n (lv' := [(3, .int x2), (0, .ref (g.2.2 + 0)), (1, .int a1), (2, .int a2)]) hx hb dX7_why_5 rfl hl (by decide) rfl (fun ls hl => ?_)
    refine lv_aload_n hx hb dX7_why_6 rfl (lv_at hl 1 rfl) ?_
    refine lv_iload_n hx hb dX7_why_7 rfl (lv_at hl 3 rfl) ?_
    obtain ⟨e3, he3, hf⟩ := ob_e hf
    rcases Classical.em (e3 = 0) with he | he
    · have hf := if_t he hf
      rw [he] at he3
      refine zr_cVv (rest := []) (As := [.int a2]) X hP hS (ct_X7_checkBuoy (g := g) (nc := nc) (I := I) (J := J) (O := O) hnI l  he3) cw_X7_185 (zr_recv X hP (Nat.lt_of_lt_of_le (zk_0).1 hnI) (zb_ceIo zk_0 (by decide)) rfl) rfl hl.1 (Nat.le_of_ble_eq_true rfl) ⟨Nat.le_of_ble_eq_true rfl, Nat.le_of_ble_eq_true rfl⟩ ⟨Nat.le_of_ble_eq_true rfl, Nat.le_of_ble_eq_true rfl⟩ dX7_why_8 rfl (fun H locs hP hS => ?_)
      exfalso
      obtain ⟨x4, hx4, hf⟩ := ob_e hf
      obtain ⟨x5, hx5, hf⟩ := ob_e hf
      rcases Classical.em (x5 = 0) with hc | hc
      · have hf := if_t hc hf
        cases hf
        exact hE rfl
      · have hf := if_f hc hf
        obtain ⟨x6, hx6, hf⟩ := ob_e hf
        obtain ⟨x7, hx7, hf⟩ := ob_e hf
        rcases Classical.em (x7 = 0) with hc | hc
        · have hf := if_t hc hf
          obtain ⟨x8, hx8, hf⟩ := ob_e hf
          obtain ⟨x9, hx9, hf⟩ := ob_e hf
          rcases Classical.em (x9 = 0) with hc | hc
          · have hf := if_t hc hf
            obtain ⟨x10, hx10, hf⟩ := ob_e hf
            obtain ⟨x11, hx11, hf⟩ := ob_e hf
            rcases Classical.em (x11 = 0) with hc | hc
            · have hf := if_t hc hf
              obtain ⟨x12, hx12, hf⟩ := ob_e hf
              rcases Classical.em (x12 = 0) with hc | hc
              · have hf := if_t hc hf
                cases hf
                exact hE rfl
              · have hf := if_f hc hf
                obtain ⟨x13, hx13, hf⟩ := ob_e hf
                obtain ⟨x14, hx14, hf⟩ := ob_e hf
                obtain ⟨x15, ht, hf⟩ := pl_e hf
                cases hf
                exact hE rfl
            · have hf := if_f hc hf
              cases hf
              exact hE rfl
          · have hf := if_f hc hf
            cases hf
            exact hE rfl
        · have hf := if_f hc hf
          cases hf
          exact hE rfl
    · have hf := if_f he hf
      cases hf
      exact zr_xV (rest := []) (As := [.int a2]) X hP hS (cx_X7_checkBuoy (g := g) (nc := nc) (I := I) (J := J) (O := O) hnI l hlT  he he3) cw_X7_185 (zr_recv X hP (Nat.lt_of_lt_of_le (zk_0).1 hnI) (zb_ceIo zk_0 (by decide)) rfl) rfl hl.1 (Nat.le_of_ble_eq_true rfl) ⟨Nat.le_of_ble_eq_true rfl, Nat.le_of_ble_eq_true rfl⟩ ⟨Nat.le_of_ble_eq_true rfl, Nat.le_of_ble_eq_true rfl⟩ dX7_why_8 rfl hout
  · have hf := if_f he hf
    cases hf
    exact zr_xV (rest := []) (As := [.int a1]) X hP hS (cx_X7_rowOfKept (g := g) (nc := nc) (I := I) (J := J) (O := O) hnI l hlT  he he1_x2) cw_X7_234 (zr_recv X hP (Nat.lt_of_lt_of_le (zk_0).1 hnI) (zb_ceIo zk_0 (by decide)) rfl) rfl hl.1 (Nat.le_of_ble_eq_true rfl) ⟨Nat.le_of_ble_eq_true rfl, Nat.le_of_ble_eq_true rfl⟩ ⟨Nat.le_of_ble_eq_true rfl, Nat.le_of_ble_eq_true rfl⟩ dX7_why_2 rfl hout
set_option maxHeartbeats 4000000 in
set_option maxRecDepth 100000 in
theorem cx_X7_tide {g : zb_G} {nc : Nat} (hnI : 306 ≤ nc) (l : Launch) (hlT : l.stackTraces = false) {a1 : Int32} {I J O : Mem} {r9 : Int32} {E0 : Nat} (hE : ¬ E0 = 0) (hf : fX7_tide a1 I = some (E0, r9)) : zb_Cx l g nc yX7_tide cX7_tide 6 (some .int) 7 146 [.ref (g.2.2 + 0), .int a1] (zb_ce g I J O) (zb_en E0) (zb_ce g I J O) := by
  refine zb_ofX (own := RX7) (by decide +kernel) rfl (Nat.le_of_ble_eq_true rfl) ?_
  intro p e s m args below meth c ls X hr hP hl hout
  have hx := X.1.1
  have hb := X.1.2.1
  have ho := X.1.2.2.2.1
  have hts := X.1.2.2.2.2
  have hZ := X.2.2.2
  have hl : lv_has ls 6 [(0, .ref (g.2.2 + 0)), (1, .int a1)] := hl
  have hS : va_S (zb_A g) s.heap s.heap [] := va_S.rf
  obtain ⟨H, hH⟩ : ∃ H, H = s.heap := ⟨_, rfl⟩
  obtain ⟨locs, hlocs⟩ : ∃ z : List Loc, z = [] := ⟨_, rfl⟩
  rw [← hH] at hP
  have hS : va_S (zb_A g) s.heap H locs := by rw [hH, hlocs]; exact hS
  show W p l e _ s m args below meth c s.heap [] 0 0 _ _
  rw [← hH, ← hlocs]
  rw [fX7_tide] at hf
  refine lv_aload_n hx hb dX7_tide_0 rfl (lv_at hl 0 rfl) ?_
  refine lv_iload_n hx hb dX7_tide_1 rfl (lv_at hl 1 rfl) ?_
  obtain ⟨e1, x2, he1_x2, hf⟩ := ob2_e hf
  rcases Classical.em (e1 = 0) with he | he
  · have hf := if_t he hf
    rw [he] at he1_x2
    refine zr_cVi (rest := []) (As := [.int a1]) X hP hS (ct_X7_rowOfKept (g := g) (nc := nc) (I := I) (J := J) (O := O) hnI l  he1_x2) cw_X7_234 (zr_recv X hP (Nat.lt_of_lt_of_le (zk_0).1 hnI) (zb_ceIo zk_0 (by decide)) rfl) rfl hl.1 (Nat.le_of_ble_eq_true rfl) ⟨Nat.le_of_ble_eq_true rfl, Nat.le_of_ble_eq_true rfl⟩ ⟨Nat.le_of_ble_eq_true rfl, Nat.le_of_ble_eq_true rfl⟩ dX7_tide_2 rfl (fun H locs hP hS => ?_)
    refine lv_istore_n (lv' := [(2, .int x2), (0, .ref (g.2.2 + 0)), (1, .int a1)]) hx hb dX7_tide_5 rfl hl (by decide) rfl (fun ls hl => ?_)
    refine lv_aload_n hx hb dX7_tide_6 rfl (lv_at hl 1 rfl) ?_
    refine lv_iload_n hx hb dX7_tide_7 rfl (lv_at hl 2 rfl) ?_
    obtain ⟨x3, hx3, hf⟩ := ob_e hf
    refine zr_cVi (rest := []) (As := [.int a1]) X hP hS (ct_X7_rowWithLevelAhead (g := g) (nc := nc) (I := I) (J := J) (O := O) hnI l  hx3) cw_X7_276 (zr_recv X hP (Nat.lt_of_lt_of_le (zk_0).1 hnI) (zb_ceIo zk_0 (by decide)) rfl) rfl hl.1 (Nat.le_of_ble_eq_true rfl) ⟨Nat.le_of_ble_eq_true rfl, Nat.le_of_ble_eq_true rfl⟩ ⟨Nat.le_of_ble_eq_true rfl, Nat.le_of_ble_eq_true rfl⟩ dX7_tide_8 rfl (fun H locs hP hS => ?_)
    refine lv_istore_n (lv' := [(3, .int x3), (2, .int x2), (0, .ref (g.2.2 + 0)), (1, .int a1)]) hx hb dX7_tide_11 rfl hl (by decide) rfl (fun ls hl => ?_)
    refine lv_aload_n hx hb dX7_tide_12 rfl (lv_at hl 2 rfl) ?_
    refine gf_X7_10 X hnI hP zk_0 dX7_tide_13 ?_
    refine gf_X7_237 X hnI hP zk_1 dX7_tide_16 ?_
    refine gf_X7_249 X hnI hP zk_15 dX7_tide_19 ?_
    refine lv_iload_n hx hb dX7_tide_22 rfl (lv_at hl 1 rfl) ?_
    obtain ⟨x4, hx4, hf⟩ := ob_e hf
    refine zr_aldI X hP hnI zk_18 hx4 dX7_tide_23 ?_
    refine lv_if_eq (tgt := 32) hx hb dX7_tide_24 (by decide) (fun hc => ?_) (fun hc => ?_)
    · have hf := if_t hc hf
      cases hf
      exact zr_throwN (rest := []) hlT X hP hS hl.1 th_4 (hZ.2.2.2.2 4 (by decide)) hout (Nat.le_of_ble_eq_true rfl) (Nat.le_of_ble_eq_true rfl) (Nat.le_of_ble_eq_true rfl) (Nat.le_of_ble_eq_true rfl) dX7_tide_32 dX7_tide_35 dX7_tide_36 dX7_tide_39 dX7_tide_42
    · have hf := if_f hc hf
      refine lv_iload_n hx hb dX7_tide_27 rfl (lv_at hl 0 rfl) ?_
      refine lv_iconst (v := (-1 : Int32)) hx hb dX7_tide_28 (by decide) ?_
      refine lv_icmp_ne (tgt := 43) hx hb dX7_tide_29 (by decide) (fun hc => ?_) (fun hc => ?_)
      · have hf := if_f hc hf
        exfalso
        obtain ⟨x5, hx5, hf⟩ := ob_e hf
        obtain ⟨x6, hx6, hf⟩ := ob_e hf
        obtain ⟨x7, ht, hf⟩ := pl_e hf
        cases hf
        exact hE rfl
      · have hf := if_t hc hf
        cases hf
        exact zr_throwN (rest := []) hlT X hP hS hl.1 th_4 (hZ.2.2.2.2 4 (by decide)) hout (Nat.le_of_ble_eq_true rfl) (Nat.le_of_ble_eq_true rfl) (Nat.le_of_ble_eq_true rfl) (Nat.le_of_ble_eq_true rfl) dX7_tide_32 dX7_tide_35 dX7_tide_36 dX7_tide_39 dX7_tide_42
  · have hf := if_f he hf
    cases hf
    exact zr_xV (rest := []) (As := [.int a1]) X hP hS (cx_X7_rowOfKept (g := g) (nc := nc) (I := I) (J := J) (O := O) hnI l hlT  he he1_x2) cw_X7_234 (zr_recv X hP (Nat.lt_of_lt_of_le (zk_0).1 hnI) (zb_ceIo zk_0 (by decide)) rfl) rfl hl.1 (Nat.le_of_ble_eq_true rfl) ⟨Nat.le_of_ble_eq_true rfl, Nat.le_of_ble_eq_true rfl⟩ ⟨Nat.le_of_ble_eq_true rfl, Nat.le_of_ble_eq_true rfl⟩ dX7_tide_2 rfl hout
set_option maxHeartbeats 4000000 in
set_option maxRecDepth 100000 in
theorem cx_X7_agreement {g : zb_G} {nc : Nat} (hnI : 306 ≤ nc) (l : Launch) (hlT : l.stackTraces = false) {a1 : Int32} {I J O : Mem} {r9 : UInt32} {E0 : Nat} (hE : ¬ E0 = 0) (hf : fX7_agreement a1 I = some (E0, r9)) : zb_Cx l g nc yX7_agreement cX7_agreement 4 (some .float) 7 146 [.ref (g.2.2 + 0), .int a1] (zb_ce g I J O) (zb_en E0) (zb_ce g I J O) := by
  refine zb_ofX (own := RX7) (by decide +kernel) rfl (Nat.le_of_ble_eq_true rfl) ?_
  intro p e s m args below meth c ls X hr hP hl hout
  have hx := X.1.1
  have hb := X.1.2.1
  have ho := X.1.2.2.2.1
  have hts := X.1.2.2.2.2
  have hZ := X.2.2.2
  have hl : lv_has ls 4 [(0, .ref (g.2.2 + 0)), (1, .int a1)] := hl
  have hS : va_S (zb_A g) s.heap s.heap [] := va_S.rf
  obtain ⟨H, hH⟩ : ∃ H, H = s.heap := ⟨_, rfl⟩
  obtain ⟨locs, hlocs⟩ : ∃ z : List Loc, z = [] := ⟨_, rfl⟩
  rw [← hH] at hP
  have hS : va_S (zb_A g) s.heap H locs := by rw [hH, hlocs]; exact hS
  show W p l e _ s m args below meth c s.heap [] 0 0 _ _
  rw [← hH, ← hlocs]
  rw [fX7_agreement] at hf
  refine lv_aload_n hx hb dX7_agreement_0 rfl (lv_at hl 0 rfl) ?_
  refine lv_iload_n hx hb dX7_agreement_1 rfl (lv_at hl 1 rfl) ?_
  obtain ⟨e1, x2, he1_x2, hf⟩ := ob2_e hf
  rcases Classical.em (e1 = 0) with he | he
  · have hf := if_t he hf
    rw [he] at he1_x2
    refine zr_cVi (rest := []) (As := [.int a1]) X hP hS (ct_X7_rowOfKept (g := g) (nc := nc) (I := I) (J := J) (O := O) hnI l  he1_x2) cw_X7_234 (zr_recv X hP (Nat.lt_of_lt_of_le (zk_0).1 hnI) (zb_ceIo zk_0 (by decide)) rfl) rfl hl.1 (Nat.le_of_ble_eq_true rfl) ⟨Nat.le_of_ble_eq_true rfl, Nat.le_of_ble_eq_true rfl⟩ ⟨Nat.le_of_ble_eq_true rfl, Nat.le_of_ble_eq_true rfl⟩ dX7_agreement_2 rfl (fun H locs hP hS => ?_)
    exfalso
    obtain ⟨x3, hx3, hf⟩ := ob_e hf
    obtain ⟨x4, hx4, hf⟩ := ob_e hf
    rcases Classical.em (x4 = 0) with hc | hc
    · have hf := if_t hc hf
      cases hf
      exact hE rfl
    · have hf := if_f hc hf
      obtain ⟨x5, hx5, hf⟩ := ob_e hf
      obtain ⟨x6, hx6, hf⟩ := ob_e hf
      obtain ⟨x7, hx7, hf⟩ := ob_e hf
      cases hf
      exact hE rfl
  · have hf := if_f he hf
    cases hf
    exact zr_xV (rest := []) (As := [.int a1]) X hP hS (cx_X7_rowOfKept (g := g) (nc := nc) (I := I) (J := J) (O := O) hnI l hlT  he he1_x2) cw_X7_234 (zr_recv X hP (Nat.lt_of_lt_of_le (zk_0).1 hnI) (zb_ceIo zk_0 (by decide)) rfl) rfl hl.1 (Nat.le_of_ble_eq_true rfl) ⟨Nat.le_of_ble_eq_true rfl, Nat.le_of_ble_eq_true rfl⟩ ⟨Nat.le_of_ble_eq_true rfl, Nat.le_of_ble_eq_true rfl⟩ dX7_agreement_2 rfl hout
set_option maxHeartbeats 4000000 in
set_option maxRecDepth 100000 in
theorem cx_X7_levelNow {g : zb_G} {nc : Nat} (hnI : 306 ≤ nc) (l : Launch) (hlT : l.stackTraces = false) {I J O : Mem} {r9 : Int32} {Iq : Mem} {E0 : Nat} (hE : ¬ E0 = 0) (hf : fX7_levelNow I = some (E0, r9, Iq)) : zb_Cx l g nc yX7_levelNow cX7_levelNow 2 (some .int) 6 125 [.ref (g.2.2 + 0)] (zb_ce g I J O) (zb_en E0) (zb_ce g Iq J O) := by
  refine zb_ofX (own := RX7) (by decide +kernel) rfl (Nat.le_of_ble_eq_true rfl) ?_
  intro p e s m args below meth c ls X hr hP hl hout
  have hx := X.1.1
  have hb := X.1.2.1
  have ho := X.1.2.2.2.1
  have hts := X.1.2.2.2.2
  have hZ := X.2.2.2
  have hl : lv_has ls 2 [(0, .ref (g.2.2 + 0))] := hl
  have hS : va_S (zb_A g) s.heap s.heap [] := va_S.rf
  obtain ⟨H, hH⟩ : ∃ H, H = s.heap := ⟨_, rfl⟩
  obtain ⟨locs, hlocs⟩ : ∃ z : List Loc, z = [] := ⟨_, rfl⟩
  rw [← hH] at hP
  have hS : va_S (zb_A g) s.heap H locs := by rw [hH, hlocs]; exact hS
  show W p l e _ s m args below meth c s.heap [] 0 0 _ _
  rw [← hH, ← hlocs]
  rw [fX7_levelNow] at hf
  refine lv_aload_n hx hb dX7_levelNow_0 rfl (lv_at hl 0 rfl) ?_
  refine gf_X7_10 X hnI hP zk_0 dX7_levelNow_1 ?_
  refine gf_X7_88 X hnI hP zk_1 dX7_levelNow_4 ?_
  refine lv_astore_n (lv' := [(1, .ref (g.2.2 + 2)), (0, .ref (g.2.2 + 0))]) hx hb dX7_levelNow_7 rfl hl (by decide) rfl (fun ls hl => ?_)
  refine lv_aload_n hx hb dX7_levelNow_8 rfl (lv_at hl 0 rfl) ?_
  refine lv_aload_n hx hb dX7_levelNow_9 rfl (lv_at hl 1 rfl) ?_
  refine gf_X7_47 X hnI hP zk_0 dX7_levelNow_10 ?_
  refine lv_iconst (v := (0 : Int32)) hx hb dX7_levelNow_13 (by decide) ?_
  obtain ⟨I1, hI1, hf⟩ := ob_e hf
  refine zr_cVv (rest := []) (As := [.ref (g.2.2 + 55), .int (0 : Int32)]) X hP hS (ct_X0_tellValues (g := g) (nc := nc) (I := I) (J := J) (O := O) hnI l zb_isB1 zk_55 hI1) cw_X7_287 (zr_recv X hP (Nat.lt_of_lt_of_le (zk_2).1 hnI) (zb_ceIo zk_2 (by decide)) rfl) rfl hl.1 (Nat.le_of_ble_eq_true rfl) ⟨Nat.le_of_ble_eq_true rfl, Nat.le_of_ble_eq_true rfl⟩ ⟨Nat.le_of_ble_eq_true rfl, Nat.le_of_ble_eq_true rfl⟩ dX7_levelNow_14 rfl (fun H locs hP hS => ?_)
  refine lv_aload_n hx hb dX7_levelNow_17 rfl (lv_at hl 1 rfl) ?_
  refine gf_X7_43 X hnI hP zk_0 dX7_levelNow_18 ?_
  refine lv_aload_n hx hb dX7_levelNow_21 rfl (lv_at hl 0 rfl) ?_
  refine gf_X7_212 X hnI hP zk_2 dX7_levelNow_22 ?_
  refine lv_aload_n hx hb dX7_levelNow_25 rfl (lv_at hl 0 rfl) ?_
  refine lv_iconst (v := (0 : Int32)) hx hb dX7_levelNow_26 (by decide) ?_
  obtain ⟨x2, hx2, hf⟩ := ob_e hf
  refine zr_cVi (rest := [.int (I1 2 1), .ref (g.2.2 + 52)]) (As := [.int (0 : Int32)]) X hP hS (ct_X0_membersIn (g := g) (nc := nc) (I := I1) (J := J) (O := O) hnI l zb_isB1 hx2) cw_X7_151 (zr_recv X hP (Nat.lt_of_lt_of_le (zk_2).1 hnI) (zb_ceIo zk_2 (by decide)) rfl) rfl hl.1 (Nat.le_of_ble_eq_true rfl) ⟨Nat.le_of_ble_eq_true rfl, Nat.le_of_ble_eq_true rfl⟩ ⟨Nat.le_of_ble_eq_true rfl, Nat.le_of_ble_eq_true rfl⟩ dX7_levelNow_27 rfl (fun H locs hP hS => ?_)
  refine lv_iand hx hb dX7_levelNow_30 ?_
  refine lv_aload_n hx hb dX7_levelNow_31 rfl (lv_at hl 0 rfl) ?_
  refine gf_X7_191 X hnI hP zk_2 dX7_levelNow_32 ?_
  refine lv_aload_n hx hb dX7_levelNow_35 rfl (lv_at hl 1 rfl) ?_
  refine gf_X7_47 X hnI hP zk_0 dX7_levelNow_36 ?_
  refine lv_iconst (v := (0 : Int32)) hx hb dX7_levelNow_39 (by decide) ?_
  refine lv_aload_n hx hb dX7_levelNow_40 rfl (lv_at hl 1 rfl) ?_
  refine gf_X7_10 X hnI hP zk_0 dX7_levelNow_41 ?_
  refine gf_X7_79 X hnI hP zk_1 dX7_levelNow_44 ?_
  obtain ⟨I3, hI3, hf⟩ := ob_e hf
  refine zr_cVv (rest := []) (As := [.int ((I1 2 1) &&& x2), .ref (g.2.2 + 4), .ref (g.2.2 + 55), .int (0 : Int32), .int (I1 1 3)]) X hP hS (ct_X6_count (g := g) (nc := nc) (I := I1) (J := J) (O := O) hnI l zk_4 zk_55 hI3) cw_X7_291 (zr_recv X hP (Nat.lt_of_lt_of_le (zk_52).1 hnI) (zb_ceIo zk_52 (by decide)) rfl) rfl hl.1 (Nat.le_of_ble_eq_true rfl) ⟨Nat.le_of_ble_eq_true rfl, Nat.le_of_ble_eq_true rfl⟩ ⟨Nat.le_of_ble_eq_true rfl, Nat.le_of_ble_eq_true rfl⟩ dX7_levelNow_47 rfl (fun H locs hP hS => ?_)
  refine lv_aload_n hx hb dX7_levelNow_50 rfl (lv_at hl 1 rfl) ?_
  refine gf_X7_43 X hnI hP zk_0 dX7_levelNow_51 ?_
  refine gf_X7_294 X hnI hP zk_52 dX7_levelNow_54 ?_
  refine lv_if_ne (tgt := 71) hx hb dX7_levelNow_57 (by decide) (fun hc => ?_) (fun hc => ?_)
  · have hf := if_f hc hf
    exfalso
    cases hf
    exact hE rfl
  · have hf := if_t hc hf
    cases hf
    exact zr_throwN (rest := []) hlT X hP hS hl.1 th_4 (hZ.2.2.2.2 5 (by decide)) hout (Nat.le_of_ble_eq_true rfl) (Nat.le_of_ble_eq_true rfl) (Nat.le_of_ble_eq_true rfl) (Nat.le_of_ble_eq_true rfl) dX7_levelNow_60 dX7_levelNow_63 dX7_levelNow_64 dX7_levelNow_67 dX7_levelNow_70
set_option maxHeartbeats 4000000 in
set_option maxRecDepth 100000 in
theorem cx_X7_levelWithout {g : zb_G} {nc : Nat} (hnI : 306 ≤ nc) (l : Launch) (hlT : l.stackTraces = false) {a1 : Int32} {a2 : Int32} {I J O : Mem} {r9 : Int32} {Iq : Mem} {E0 : Nat} (hE : ¬ E0 = 0) (hf : fX7_levelWithout a1 a2 I = some (E0, r9, Iq)) : zb_Cx l g nc yX7_levelWithout cX7_levelWithout 4 (some .int) 7 146 [.ref (g.2.2 + 0), .int a1, .int a2] (zb_ce g I J O) (zb_en E0) (zb_ce g Iq J O) := by
  refine zb_ofX (own := RX7) (by decide +kernel) rfl (Nat.le_of_ble_eq_true rfl) ?_
  intro p e s m args below meth c ls X hr hP hl hout
  have hx := X.1.1
  have hb := X.1.2.1
  have ho := X.1.2.2.2.1
  have hts := X.1.2.2.2.2
  have hZ := X.2.2.2
  have hl : lv_has ls 4 [(0, .ref (g.2.2 + 0)), (1, .int a1), (2, .int a2)] := hl
  have hS : va_S (zb_A g) s.heap s.heap [] := va_S.rf
  obtain ⟨H, hH⟩ : ∃ H, H = s.heap := ⟨_, rfl⟩
  obtain ⟨locs, hlocs⟩ : ∃ z : List Loc, z = [] := ⟨_, rfl⟩
  rw [← hH] at hP
  have hS : va_S (zb_A g) s.heap H locs := by rw [hH, hlocs]; exact hS
  show W p l e _ s m args below meth c s.heap [] 0 0 _ _
  rw [← hH, ← hlocs]
  rw [fX7_levelWithout] at hf
  refine lv_aload_n hx hb dX7_levelWithout_0 rfl (lv_at hl 0 rfl) ?_
  refine lv_iload_n hx hb dX7_levelWithout_1 rfl (lv_at hl 1 rfl) ?_
  obtain ⟨e1, x2, he1_x2, hf⟩ := ob2_e hf
  rcases Classical.em (e1 = 0) with he | he
  · have hf := if_t he hf
    rw [he] at he1_x2
    refine zr_cVi (rest := []) (As := [.int a1]) X hP hS (ct_X7_rowOfKept (g := g) (nc := nc) (I := I) (J := J) (O := O) hnI l  he1_x2) cw_X7_234 (zr_recv X hP (Nat.lt_of_lt_of_le (zk_0).1 hnI) (zb_ceIo zk_0 (by decide)) rfl) rfl hl.1 (Nat.le_of_ble_eq_true rfl) ⟨Nat.le_of_ble_eq_true rfl, Nat.le_of_ble_eq_true rfl⟩ ⟨Nat.le_of_ble_eq_true rfl, Nat.le_of_ble_eq_true rfl⟩ dX7_levelWithout_2 rfl (fun H locs hP hS => ?_)
    refine lv_istore_n (lv' := [(3, .int x2), (0, .ref (g.2.2 + 0)), (1, .int a1), (2, .int a2)]) hx hb dX7_levelWithout_5 rfl hl (by decide) rfl (fun ls hl => ?_)
    refine lv_aload_n hx hb dX7_levelWithout_6 rfl (lv_at hl 1 rfl) ?_
    refine gf_X7_10 X hnI hP zk_0 dX7_levelWithout_7 ?_
    refine lv_iload_n hx hb dX7_levelWithout_10 rfl (lv_at hl 0 rfl) ?_
    refine lv_aload_n hx hb dX7_levelWithout_11 rfl (lv_at hl 1 rfl) ?_
    refine gf_X7_10 X hnI hP zk_0 dX7_levelWithout_12 ?_
    refine gf_X7_237 X hnI hP zk_1 dX7_levelWithout_15 ?_
    refine gf_X7_241 X hnI hP zk_15 dX7_levelWithout_18 ?_
    refine lv_iload_n hx hb dX7_levelWithout_21 rfl (lv_at hl 0 rfl) ?_
    obtain ⟨x3, hx3, hf⟩ := ob_e hf
    refine zr_aldI X hP hnI zk_16 hx3 dX7_levelWithout_22 ?_
    refine lv_iload_n hx hb dX7_levelWithout_23 rfl (lv_at hl 3 rfl) ?_
    refine lv_iconst (v := (-1 : Int32)) hx hb dX7_levelWithout_24 (by decide) ?_
    refine lv_ixor hx hb dX7_levelWithout_25 ?_
    refine lv_iand hx hb dX7_levelWithout_26 ?_
    refine lv_aload_n hx hb dX7_levelWithout_27 rfl (lv_at hl 1 rfl) ?_
    refine gf_X7_43 X hnI hP zk_0 dX7_levelWithout_28 ?_
    obtain ⟨I4, hI4, hf⟩ := ob_e hf
    refine zr_cVv (rest := []) (As := [.int x2, .int (x3 &&& (a2 ^^^ (-1 : Int32))), .ref (g.2.2 + 52)]) X hP hS (ct_X5_countRow (g := g) (nc := nc) (I := I) (J := J) (O := O) hnI l zb_isB1 hI4) cw_X7_302 (zr_recv X hP (Nat.lt_of_lt_of_le (zk_1).1 hnI) (zb_ceIo zk_1 (by decide)) rfl) rfl hl.1 (Nat.le_of_ble_eq_true rfl) ⟨Nat.le_of_ble_eq_true rfl, Nat.le_of_ble_eq_true rfl⟩ ⟨Nat.le_of_ble_eq_true rfl, Nat.le_of_ble_eq_true rfl⟩ dX7_levelWithout_31 rfl (fun H locs hP hS => ?_)
    refine lv_aload_n hx hb dX7_levelWithout_34 rfl (lv_at hl 1 rfl) ?_
    refine gf_X7_43 X hnI hP zk_0 dX7_levelWithout_35 ?_
    refine gf_X7_294 X hnI hP zk_52 dX7_levelWithout_38 ?_
    refine lv_if_ne (tgt := 55) hx hb dX7_levelWithout_41 (by decide) (fun hc => ?_) (fun hc => ?_)
    · have hf := if_f hc hf
      exfalso
      cases hf
      exact hE rfl
    · have hf := if_t hc hf
      cases hf
      exact zr_throwN (rest := []) hlT X hP hS hl.1 th_4 (hZ.2.2.2.2 6 (by decide)) hout (Nat.le_of_ble_eq_true rfl) (Nat.le_of_ble_eq_true rfl) (Nat.le_of_ble_eq_true rfl) (Nat.le_of_ble_eq_true rfl) dX7_levelWithout_44 dX7_levelWithout_47 dX7_levelWithout_48 dX7_levelWithout_51 dX7_levelWithout_54
  · have hf := if_f he hf
    cases hf
    exact zr_xV (rest := []) (As := [.int a1]) X hP hS (cx_X7_rowOfKept (g := g) (nc := nc) (I := I) (J := J) (O := O) hnI l hlT  he he1_x2) cw_X7_234 (zr_recv X hP (Nat.lt_of_lt_of_le (zk_0).1 hnI) (zb_ceIo zk_0 (by decide)) rfl) rfl hl.1 (Nat.le_of_ble_eq_true rfl) ⟨Nat.le_of_ble_eq_true rfl, Nat.le_of_ble_eq_true rfl⟩ ⟨Nat.le_of_ble_eq_true rfl, Nat.le_of_ble_eq_true rfl⟩ dX7_levelWithout_2 rfl hout
set_option maxHeartbeats 4000000 in
set_option maxRecDepth 100000 in
theorem cx_X7_needed {g : zb_G} {nc : Nat} (hnI : 306 ≤ nc) (l : Launch) (hlT : l.stackTraces = false) {a1 : Int32} {I J O : Mem} {r9 : Int32} {Iq : Mem} {E0 : Nat} (hE : ¬ E0 = 0) (hf : fX7_needed a1 I = some (E0, r9, Iq)) : zb_Cx l g nc yX7_needed cX7_needed 6 (some .int) 7 146 [.ref (g.2.2 + 0), .int a1] (zb_ce g I J O) (zb_en E0) (zb_ce g Iq J O) := by
  refine zb_ofX (own := RX7) (by decide +kernel) rfl (Nat.le_of_ble_eq_true rfl) ?_
  intro p e s m args below meth c ls X hr hP hl hout
  have hx := X.1.1
  have hb := X.1.2.1
  have ho := X.1.2.2.2.1
  have hts := X.1.2.2.2.2
  have hZ := X.2.2.2
  have hl : lv_has ls 6 [(0, .ref (g.2.2 + 0)), (1, .int a1)] := hl
  have hS : va_S (zb_A g) s.heap s.heap [] := va_S.rf
  obtain ⟨H, hH⟩ : ∃ H, H = s.heap := ⟨_, rfl⟩
  obtain ⟨locs, hlocs⟩ : ∃ z : List Loc, z = [] := ⟨_, rfl⟩
  rw [← hH] at hP
  have hS : va_S (zb_A g) s.heap H locs := by rw [hH, hlocs]; exact hS
  show W p l e _ s m args below meth c s.heap [] 0 0 _ _
  rw [← hH, ← hlocs]
  rw [fX7_needed] at hf
  refine lv_aload_n hx hb dX7_needed_0 rfl (lv_at hl 0 rfl) ?_
  refine lv_iload_n hx hb dX7_needed_1 rfl (lv_at hl 1 rfl) ?_
  obtain ⟨e1, x2, he1_x2, hf⟩ := ob2_e hf
  rcases Classical.em (e1 = 0) with he | he
  · have hf := if_t he hf
    rw [he] at he1_x2
    refine zr_cVi (rest := []) (As := [.int a1]) X hP hS (ct_X7_rowOfKept (g := g) (nc := nc) (I := I) (J := J) (O := O) hnI l  he1_x2) cw_X7_234 (zr_recv X hP (Nat.lt_of_lt_of_le (zk_0).1 hnI) (zb_ceIo zk_0 (by decide)) rfl) rfl hl.1 (Nat.le_of_ble_eq_true rfl) ⟨Nat.le_of_ble_eq_true rfl, Nat.le_of_ble_eq_true rfl⟩ ⟨Nat.le_of_ble_eq_true rfl, Nat.le_of_ble_eq_true rfl⟩ dX7_needed_2 rfl (fun H locs hP hS => ?_)
    exfalso
    obtain ⟨x3, hx3, hf⟩ := ob_e hf
    obtain ⟨x8, I9, hx8_I9, hf⟩ := ob2_e hf
    cases hf
    exact hE rfl
  · have hf := if_f he hf
    cases hf
    exact zr_xV (rest := []) (As := [.int a1]) X hP hS (cx_X7_rowOfKept (g := g) (nc := nc) (I := I) (J := J) (O := O) hnI l hlT  he he1_x2) cw_X7_234 (zr_recv X hP (Nat.lt_of_lt_of_le (zk_0).1 hnI) (zb_ceIo zk_0 (by decide)) rfl) rfl hl.1 (Nat.le_of_ble_eq_true rfl) ⟨Nat.le_of_ble_eq_true rfl, Nat.le_of_ble_eq_true rfl⟩ ⟨Nat.le_of_ble_eq_true rfl, Nat.le_of_ble_eq_true rfl⟩ dX7_needed_2 rfl hout
set_option maxHeartbeats 4000000 in
set_option maxRecDepth 100000 in
theorem cx_X7_segmentOf {g : zb_G} {nc : Nat} (hnI : 306 ≤ nc) (l : Launch) (hlT : l.stackTraces = false) {a1 : Int32} {I J O : Mem} {r9 : Int32} {E0 : Nat} (hE : ¬ E0 = 0) (hf : fX7_segmentOf a1 I = some (E0, r9)) : zb_Cx l g nc yX7_segmentOf cX7_segmentOf 4 (some .int) 7 146 [.ref (g.2.2 + 0), .int a1] (zb_ce g I J O) (zb_en E0) (zb_ce g I J O) := by
  refine zb_ofX (own := RX7) (by decide +kernel) rfl (Nat.le_of_ble_eq_true rfl) ?_
  intro p e s m args below meth c ls X hr hP hl hout
  have hx := X.1.1
  have hb := X.1.2.1
  have ho := X.1.2.2.2.1
  have hts := X.1.2.2.2.2
  have hZ := X.2.2.2
  have hl : lv_has ls 4 [(0, .ref (g.2.2 + 0)), (1, .int a1)] := hl
  have hS : va_S (zb_A g) s.heap s.heap [] := va_S.rf
  obtain ⟨H, hH⟩ : ∃ H, H = s.heap := ⟨_, rfl⟩
  obtain ⟨locs, hlocs⟩ : ∃ z : List Loc, z = [] := ⟨_, rfl⟩
  rw [← hH] at hP
  have hS : va_S (zb_A g) s.heap H locs := by rw [hH, hlocs]; exact hS
  show W p l e _ s m args below meth c s.heap [] 0 0 _ _
  rw [← hH, ← hlocs]
  rw [fX7_segmentOf] at hf
  refine lv_aload_n hx hb dX7_segmentOf_0 rfl (lv_at hl 0 rfl) ?_
  refine lv_iload_n hx hb dX7_segmentOf_1 rfl (lv_at hl 1 rfl) ?_
  obtain ⟨e1, he1, hf⟩ := ob_e hf
  rcases Classical.em (e1 = 0) with he | he
  · have hf := if_t he hf
    rw [he] at he1
    refine zr_cVv (rest := []) (As := [.int a1]) X hP hS (ct_X7_checkBuoy (g := g) (nc := nc) (I := I) (J := J) (O := O) hnI l  he1) cw_X7_185 (zr_recv X hP (Nat.lt_of_lt_of_le (zk_0).1 hnI) (zb_ceIo zk_0 (by decide)) rfl) rfl hl.1 (Nat.le_of_ble_eq_true rfl) ⟨Nat.le_of_ble_eq_true rfl, Nat.le_of_ble_eq_true rfl⟩ ⟨Nat.le_of_ble_eq_true rfl, Nat.le_of_ble_eq_true rfl⟩ dX7_segmentOf_2 rfl (fun H locs hP hS => ?_)
    exfalso
    obtain ⟨t4, x5, x6, ht4_x5_x6, hf⟩ := ob3_e hf
    rcases Classical.em (t4 = 1) with hc | hc
    · have hf := if_t hc hf
      cases hf
      exact hE rfl
    · have hf := if_f hc hf
      cases hf
      exact hE rfl
  · have hf := if_f he hf
    cases hf
    exact zr_xV (rest := []) (As := [.int a1]) X hP hS (cx_X7_checkBuoy (g := g) (nc := nc) (I := I) (J := J) (O := O) hnI l hlT  he he1) cw_X7_185 (zr_recv X hP (Nat.lt_of_lt_of_le (zk_0).1 hnI) (zb_ceIo zk_0 (by decide)) rfl) rfl hl.1 (Nat.le_of_ble_eq_true rfl) ⟨Nat.le_of_ble_eq_true rfl, Nat.le_of_ble_eq_true rfl⟩ ⟨Nat.le_of_ble_eq_true rfl, Nat.le_of_ble_eq_true rfl⟩ dX7_segmentOf_2 rfl hout
set_option maxHeartbeats 4000000 in
set_option maxRecDepth 100000 in
theorem cx_X7_wouldBreak {g : zb_G} {nc : Nat} (hnI : 306 ≤ nc) (l : Launch) (hlT : l.stackTraces = false) {a1 : Int32} {a2 : Int32} {a3 : Int32} {I J O : Mem} {r9 : Int32} {E0 : Nat} (hE : ¬ E0 = 0) (hf : fX7_wouldBreak a1 a2 a3 I = some (E0, r9)) : zb_Cx l g nc yX7_wouldBreak cX7_wouldBreak 4 (some .int) 8 169 [.ref (g.2.2 + 0), .int a1, .int a2, .int a3] (zb_ce g I J O) (zb_en E0) (zb_ce g I J O) := by
  refine zb_ofX (own := RX7) (by decide +kernel) rfl (Nat.le_of_ble_eq_true rfl) ?_
  intro p e s m args below meth c ls X hr hP hl hout
  have hx := X.1.1
  have hb := X.1.2.1
  have ho := X.1.2.2.2.1
  have hts := X.1.2.2.2.2
  have hZ := X.2.2.2
  have hl : lv_has ls 4 [(0, .ref (g.2.2 + 0)), (1, .int a1), (2, .int a2), (3, .int a3)] := hl
  have hS : va_S (zb_A g) s.heap s.heap [] := va_S.rf
  obtain ⟨H, hH⟩ : ∃ H, H = s.heap := ⟨_, rfl⟩
  obtain ⟨locs, hlocs⟩ : ∃ z : List Loc, z = [] := ⟨_, rfl⟩
  rw [← hH] at hP
  have hS : va_S (zb_A g) s.heap H locs := by rw [hH, hlocs]; exact hS
  show W p l e _ s m args below meth c s.heap [] 0 0 _ _
  rw [← hH, ← hlocs]
  rw [fX7_wouldBreak] at hf
  refine lv_aload_n hx hb dX7_wouldBreak_0 rfl (lv_at hl 0 rfl) ?_
  refine lv_iload_n hx hb dX7_wouldBreak_1 rfl (lv_at hl 1 rfl) ?_
  refine lv_iload_n hx hb dX7_wouldBreak_2 rfl (lv_at hl 2 rfl) ?_
  refine lv_iload_n hx hb dX7_wouldBreak_3 rfl (lv_at hl 3 rfl) ?_
  obtain ⟨e1, he1, hf⟩ := ob_e hf
  rcases Classical.em (e1 = 0) with he | he
  · have hf := if_t he hf
    rw [he] at he1
    refine zr_cVv (rest := []) (As := [.int a1, .int a2, .int a3]) X hP hS (ct_X7_checkStorm (g := g) (nc := nc) (I := I) (J := J) (O := O) hnI l  he1) cw_X7_311 (zr_recv X hP (Nat.lt_of_lt_of_le (zk_0).1 hnI) (zb_ceIo zk_0 (by decide)) rfl) rfl hl.1 (Nat.le_of_ble_eq_true rfl) ⟨Nat.le_of_ble_eq_true rfl, Nat.le_of_ble_eq_true rfl⟩ ⟨Nat.le_of_ble_eq_true rfl, Nat.le_of_ble_eq_true rfl⟩ dX7_wouldBreak_4 rfl (fun H locs hP hS => ?_)
    exfalso
    obtain ⟨x2, hx2, hf⟩ := ob_e hf
    cases hf
    exact hE rfl
  · have hf := if_f he hf
    cases hf
    exact zr_xV (rest := []) (As := [.int a1, .int a2, .int a3]) X hP hS (cx_X7_checkStorm (g := g) (nc := nc) (I := I) (J := J) (O := O) hnI l hlT  he he1) cw_X7_311 (zr_recv X hP (Nat.lt_of_lt_of_le (zk_0).1 hnI) (zb_ceIo zk_0 (by decide)) rfl) rfl hl.1 (Nat.le_of_ble_eq_true rfl) ⟨Nat.le_of_ble_eq_true rfl, Nat.le_of_ble_eq_true rfl⟩ ⟨Nat.le_of_ble_eq_true rfl, Nat.le_of_ble_eq_true rfl⟩ dX7_wouldBreak_4 rfl hout
set_option maxHeartbeats 4000000 in
set_option maxRecDepth 100000 in
theorem cx_X7_wouldDrift {g : zb_G} {nc : Nat} (hnI : 306 ≤ nc) (l : Launch) (hlT : l.stackTraces = false) {a1 : Int32} {a2 : Int32} {a3 : Int32} {I J O : Mem} {r9 : Int32} {E0 : Nat} (hE : ¬ E0 = 0) (hf : fX7_wouldDrift a1 a2 a3 I = some (E0, r9)) : zb_Cx l g nc yX7_wouldDrift cX7_wouldDrift 4 (some .int) 8 169 [.ref (g.2.2 + 0), .int a1, .int a2, .int a3] (zb_ce g I J O) (zb_en E0) (zb_ce g I J O) := by
  refine zb_ofX (own := RX7) (by decide +kernel) rfl (Nat.le_of_ble_eq_true rfl) ?_
  intro p e s m args below meth c ls X hr hP hl hout
  have hx := X.1.1
  have hb := X.1.2.1
  have ho := X.1.2.2.2.1
  have hts := X.1.2.2.2.2
  have hZ := X.2.2.2
  have hl : lv_has ls 4 [(0, .ref (g.2.2 + 0)), (1, .int a1), (2, .int a2), (3, .int a3)] := hl
  have hS : va_S (zb_A g) s.heap s.heap [] := va_S.rf
  obtain ⟨H, hH⟩ : ∃ H, H = s.heap := ⟨_, rfl⟩
  obtain ⟨locs, hlocs⟩ : ∃ z : List Loc, z = [] := ⟨_, rfl⟩
  rw [← hH] at hP
  have hS : va_S (zb_A g) s.heap H locs := by rw [hH, hlocs]; exact hS
  show W p l e _ s m args below meth c s.heap [] 0 0 _ _
  rw [← hH, ← hlocs]
  rw [fX7_wouldDrift] at hf
  refine lv_aload_n hx hb dX7_wouldDrift_0 rfl (lv_at hl 0 rfl) ?_
  refine lv_iload_n hx hb dX7_wouldDrift_1 rfl (lv_at hl 1 rfl) ?_
  refine lv_iload_n hx hb dX7_wouldDrift_2 rfl (lv_at hl 2 rfl) ?_
  refine lv_iload_n hx hb dX7_wouldDrift_3 rfl (lv_at hl 3 rfl) ?_
  obtain ⟨e1, he1, hf⟩ := ob_e hf
  rcases Classical.em (e1 = 0) with he | he
  · have hf := if_t he hf
    rw [he] at he1
    refine zr_cVv (rest := []) (As := [.int a1, .int a2, .int a3]) X hP hS (ct_X7_checkStorm (g := g) (nc := nc) (I := I) (J := J) (O := O) hnI l  he1) cw_X7_311 (zr_recv X hP (Nat.lt_of_lt_of_le (zk_0).1 hnI) (zb_ceIo zk_0 (by decide)) rfl) rfl hl.1 (Nat.le_of_ble_eq_true rfl) ⟨Nat.le_of_ble_eq_true rfl, Nat.le_of_ble_eq_true rfl⟩ ⟨Nat.le_of_ble_eq_true rfl, Nat.le_of_ble_eq_true rfl⟩ dX7_wouldDrift_4 rfl (fun H locs hP hS => ?_)
    exfalso
    obtain ⟨x2, hx2, hf⟩ := ob_e hf
    cases hf
    exact hE rfl
  · have hf := if_f he hf
    cases hf
    exact zr_xV (rest := []) (As := [.int a1, .int a2, .int a3]) X hP hS (cx_X7_checkStorm (g := g) (nc := nc) (I := I) (J := J) (O := O) hnI l hlT  he he1) cw_X7_311 (zr_recv X hP (Nat.lt_of_lt_of_le (zk_0).1 hnI) (zb_ceIo zk_0 (by decide)) rfl) rfl hl.1 (Nat.le_of_ble_eq_true rfl) ⟨Nat.le_of_ble_eq_true rfl, Nat.le_of_ble_eq_true rfl⟩ ⟨Nat.le_of_ble_eq_true rfl, Nat.le_of_ble_eq_true rfl⟩ dX7_wouldDrift_4 rfl hout
set_option maxHeartbeats 4000000 in
set_option maxRecDepth 100000 in
theorem cx_X7_lacks {g : zb_G} {nc : Nat} (hnI : 306 ≤ nc) (l : Launch) (hlT : l.stackTraces = false) {a1 : Int32} {I J O : Mem} {r9 : Int32} {E0 : Nat} (hE : ¬ E0 = 0) (hf : fX7_lacks a1 I = some (E0, r9)) : zb_Cx l g nc yX7_lacks cX7_lacks 2 (some .int) 7 146 [.ref (g.2.2 + 0), .int a1] (zb_ce g I J O) (zb_en E0) (zb_ce g I J O) := by
  refine zb_ofX (own := RX7) (by decide +kernel) rfl (Nat.le_of_ble_eq_true rfl) ?_
  intro p e s m args below meth c ls X hr hP hl hout
  have hx := X.1.1
  have hb := X.1.2.1
  have ho := X.1.2.2.2.1
  have hts := X.1.2.2.2.2
  have hZ := X.2.2.2
  have hl : lv_has ls 2 [(0, .ref (g.2.2 + 0)), (1, .int a1)] := hl
  have hS : va_S (zb_A g) s.heap s.heap [] := va_S.rf
  obtain ⟨H, hH⟩ : ∃ H, H = s.heap := ⟨_, rfl⟩
  obtain ⟨locs, hlocs⟩ : ∃ z : List Loc, z = [] := ⟨_, rfl⟩
  rw [← hH] at hP
  have hS : va_S (zb_A g) s.heap H locs := by rw [hH, hlocs]; exact hS
  show W p l e _ s m args below meth c s.heap [] 0 0 _ _
  rw [← hH, ← hlocs]
  rw [fX7_lacks] at hf
  refine lv_aload_n hx hb dX7_lacks_0 rfl (lv_at hl 0 rfl) ?_
  refine lv_iload_n hx hb dX7_lacks_1 rfl (lv_at hl 1 rfl) ?_
  obtain ⟨e1, he1, hf⟩ := ob_e hf
  rcases Classical.em (e1 = 0) with he | he
  · have hf := if_t he hf
    rw [he] at he1
    refine zr_cVv (rest := []) (As := [.int a1]) X hP hS (ct_X7_checkForce (g := g) (nc := nc) (I := I) (J := J) (O := O)  l  he1) cw_X7_322 (zr_recv X hP (Nat.lt_of_lt_of_le (zk_0).1 hnI) (zb_ceIo zk_0 (by decide)) rfl) rfl hl.1 (Nat.le_of_ble_eq_true rfl) ⟨Nat.le_of_ble_eq_true rfl, Nat.le_of_ble_eq_true rfl⟩ ⟨Nat.le_of_ble_eq_true rfl, Nat.le_of_ble_eq_true rfl⟩ dX7_lacks_2 rfl (fun H locs hP hS => ?_)
    exfalso
    obtain ⟨x2, hx2, hf⟩ := ob_e hf
    cases hf
    exact hE rfl
  · have hf := if_f he hf
    cases hf
    exact zr_xV (rest := []) (As := [.int a1]) X hP hS (cx_X7_checkForce (g := g) (nc := nc) (I := I) (J := J) (O := O)  l hlT  he he1) cw_X7_322 (zr_recv X hP (Nat.lt_of_lt_of_le (zk_0).1 hnI) (zb_ceIo zk_0 (by decide)) rfl) rfl hl.1 (Nat.le_of_ble_eq_true rfl) ⟨Nat.le_of_ble_eq_true rfl, Nat.le_of_ble_eq_true rfl⟩ ⟨Nat.le_of_ble_eq_true rfl, Nat.le_of_ble_eq_true rfl⟩ dX7_lacks_2 rfl hout
set_option maxHeartbeats 4000000 in
set_option maxRecDepth 100000 in
theorem cx_X7_plan {g : zb_G} {nc : Nat} (hnI : 306 ≤ nc) (l : Launch) (hlT : l.stackTraces = false) {a1 : Int32} {I J O : Mem} {r9 : Int32} {E0 : Nat} (hE : ¬ E0 = 0) (hf : fX7_plan a1 I = some (E0, r9)) : zb_Cx l g nc yX7_plan cX7_plan 2 (some .int) 7 146 [.ref (g.2.2 + 0), .int a1] (zb_ce g I J O) (zb_en E0) (zb_ce g I J O) := by
  refine zb_ofX (own := RX7) (by decide +kernel) rfl (Nat.le_of_ble_eq_true rfl) ?_
  intro p e s m args below meth c ls X hr hP hl hout
  have hx := X.1.1
  have hb := X.1.2.1
  have ho := X.1.2.2.2.1
  have hts := X.1.2.2.2.2
  have hZ := X.2.2.2
  have hl : lv_has ls 2 [(0, .ref (g.2.2 + 0)), (1, .int a1)] := hl
  have hS : va_S (zb_A g) s.heap s.heap [] := va_S.rf
  obtain ⟨H, hH⟩ : ∃ H, H = s.heap := ⟨_, rfl⟩
  obtain ⟨locs, hlocs⟩ : ∃ z : List Loc, z = [] := ⟨_, rfl⟩
  rw [← hH] at hP
  have hS : va_S (zb_A g) s.heap H locs := by rw [hH, hlocs]; exact hS
  show W p l e _ s m args below meth c s.heap [] 0 0 _ _
  rw [← hH, ← hlocs]
  rw [fX7_plan] at hf
  refine lv_aload_n hx hb dX7_plan_0 rfl (lv_at hl 0 rfl) ?_
  refine lv_iload_n hx hb dX7_plan_1 rfl (lv_at hl 1 rfl) ?_
  obtain ⟨e1, he1, hf⟩ := ob_e hf
  rcases Classical.em (e1 = 0) with he | he
  · have hf := if_t he hf
    rw [he] at he1
    refine zr_cVv (rest := []) (As := [.int a1]) X hP hS (ct_X7_checkForce (g := g) (nc := nc) (I := I) (J := J) (O := O)  l  he1) cw_X7_322 (zr_recv X hP (Nat.lt_of_lt_of_le (zk_0).1 hnI) (zb_ceIo zk_0 (by decide)) rfl) rfl hl.1 (Nat.le_of_ble_eq_true rfl) ⟨Nat.le_of_ble_eq_true rfl, Nat.le_of_ble_eq_true rfl⟩ ⟨Nat.le_of_ble_eq_true rfl, Nat.le_of_ble_eq_true rfl⟩ dX7_plan_2 rfl (fun H locs hP hS => ?_)
    exfalso
    obtain ⟨x2, hx2, hf⟩ := ob_e hf
    cases hf
    exact hE rfl
  · have hf := if_f he hf
    cases hf
    exact zr_xV (rest := []) (As := [.int a1]) X hP hS (cx_X7_checkForce (g := g) (nc := nc) (I := I) (J := J) (O := O)  l hlT  he he1) cw_X7_322 (zr_recv X hP (Nat.lt_of_lt_of_le (zk_0).1 hnI) (zb_ceIo zk_0 (by decide)) rfl) rfl hl.1 (Nat.le_of_ble_eq_true rfl) ⟨Nat.le_of_ble_eq_true rfl, Nat.le_of_ble_eq_true rfl⟩ ⟨Nat.le_of_ble_eq_true rfl, Nat.le_of_ble_eq_true rfl⟩ dX7_plan_2 rfl hout
set_option maxHeartbeats 4000000 in
set_option maxRecDepth 100000 in
theorem cx_X7_planLength {g : zb_G} {nc : Nat} (hnI : 306 ≤ nc) (l : Launch) (hlT : l.stackTraces = false) {a1 : Int32} {I J O : Mem} {r9 : Int32} {E0 : Nat} (hE : ¬ E0 = 0) (hf : fX7_planLength a1 I = some (E0, r9)) : zb_Cx l g nc yX7_planLength cX7_planLength 3 (some .int) 7 146 [.ref (g.2.2 + 0), .int a1] (zb_ce g I J O) (zb_en E0) (zb_ce g I J O) := by
  refine zb_ofX (own := RX7) (by decide +kernel) rfl (Nat.le_of_ble_eq_true rfl) ?_
  intro p e s m args below meth c ls X hr hP hl hout
  have hx := X.1.1
  have hb := X.1.2.1
  have ho := X.1.2.2.2.1
  have hts := X.1.2.2.2.2
  have hZ := X.2.2.2
  have hl : lv_has ls 3 [(0, .ref (g.2.2 + 0)), (1, .int a1)] := hl
  have hS : va_S (zb_A g) s.heap s.heap [] := va_S.rf
  obtain ⟨H, hH⟩ : ∃ H, H = s.heap := ⟨_, rfl⟩
  obtain ⟨locs, hlocs⟩ : ∃ z : List Loc, z = [] := ⟨_, rfl⟩
  rw [← hH] at hP
  have hS : va_S (zb_A g) s.heap H locs := by rw [hH, hlocs]; exact hS
  show W p l e _ s m args below meth c s.heap [] 0 0 _ _
  rw [← hH, ← hlocs]
  rw [fX7_planLength] at hf
  refine lv_aload_n hx hb dX7_planLength_0 rfl (lv_at hl 0 rfl) ?_
  refine lv_iload_n hx hb dX7_planLength_1 rfl (lv_at hl 1 rfl) ?_
  obtain ⟨e1, he1, hf⟩ := ob_e hf
  rcases Classical.em (e1 = 0) with he | he
  · have hf := if_t he hf
    rw [he] at he1
    refine zr_cVv (rest := []) (As := [.int a1]) X hP hS (ct_X7_checkForce (g := g) (nc := nc) (I := I) (J := J) (O := O)  l  he1) cw_X7_322 (zr_recv X hP (Nat.lt_of_lt_of_le (zk_0).1 hnI) (zb_ceIo zk_0 (by decide)) rfl) rfl hl.1 (Nat.le_of_ble_eq_true rfl) ⟨Nat.le_of_ble_eq_true rfl, Nat.le_of_ble_eq_true rfl⟩ ⟨Nat.le_of_ble_eq_true rfl, Nat.le_of_ble_eq_true rfl⟩ dX7_planLength_2 rfl (fun H locs hP hS => ?_)
    exfalso
    obtain ⟨x2, hx2, hf⟩ := ob_e hf
    obtain ⟨x4, ht, hf⟩ := ob_e hf
    cases hf
    exact hE rfl
  · have hf := if_f he hf
    cases hf
    exact zr_xV (rest := []) (As := [.int a1]) X hP hS (cx_X7_checkForce (g := g) (nc := nc) (I := I) (J := J) (O := O)  l hlT  he he1) cw_X7_322 (zr_recv X hP (Nat.lt_of_lt_of_le (zk_0).1 hnI) (zb_ceIo zk_0 (by decide)) rfl) rfl hl.1 (Nat.le_of_ble_eq_true rfl) ⟨Nat.le_of_ble_eq_true rfl, Nat.le_of_ble_eq_true rfl⟩ ⟨Nat.le_of_ble_eq_true rfl, Nat.le_of_ble_eq_true rfl⟩ dX7_planLength_2 rfl hout
set_option maxHeartbeats 4000000 in
set_option maxRecDepth 100000 in
theorem cx_X7_setOffset {g : zb_G} {nc : Nat} (hnI : 306 ≤ nc) (l : Launch) (hlT : l.stackTraces = false) {a1 : Int32} {a2 : Int32} {I J O : Mem} {r9 : Int32} {Iq : Mem} {E0 : Nat} (hE : ¬ E0 = 0) (hf : fX7_setOffset a1 a2 I = some (E0, r9, Iq)) : zb_Cx l g nc yX7_setOffset cX7_setOffset 4 (some .int) 7 146 [.ref (g.2.2 + 0), .int a1, .int a2] (zb_ce g I J O) (zb_en E0) (zb_ce g Iq J O) := by
  refine zb_ofX (own := RX7) (by decide +kernel) rfl (Nat.le_of_ble_eq_true rfl) ?_
  intro p e s m args below meth c ls X hr hP hl hout
  have hx := X.1.1
  have hb := X.1.2.1
  have ho := X.1.2.2.2.1
  have hts := X.1.2.2.2.2
  have hZ := X.2.2.2
  have hl : lv_has ls 4 [(0, .ref (g.2.2 + 0)), (1, .int a1), (2, .int a2)] := hl
  have hS : va_S (zb_A g) s.heap s.heap [] := va_S.rf
  obtain ⟨H, hH⟩ : ∃ H, H = s.heap := ⟨_, rfl⟩
  obtain ⟨locs, hlocs⟩ : ∃ z : List Loc, z = [] := ⟨_, rfl⟩
  rw [← hH] at hP
  have hS : va_S (zb_A g) s.heap H locs := by rw [hH, hlocs]; exact hS
  show W p l e _ s m args below meth c s.heap [] 0 0 _ _
  rw [← hH, ← hlocs]
  rw [fX7_setOffset] at hf
  refine lv_aload_n hx hb dX7_setOffset_0 rfl (lv_at hl 0 rfl) ?_
  refine lv_iload_n hx hb dX7_setOffset_1 rfl (lv_at hl 1 rfl) ?_
  obtain ⟨e1, he1, hf⟩ := ob_e hf
  rcases Classical.em (e1 = 0) with he | he
  · have hf := if_t he hf
    rw [he] at he1
    refine zr_cVv (rest := []) (As := [.int a1]) X hP hS (ct_X7_checkBuoy (g := g) (nc := nc) (I := I) (J := J) (O := O) hnI l  he1) cw_X7_185 (zr_recv X hP (Nat.lt_of_lt_of_le (zk_0).1 hnI) (zb_ceIo zk_0 (by decide)) rfl) rfl hl.1 (Nat.le_of_ble_eq_true rfl) ⟨Nat.le_of_ble_eq_true rfl, Nat.le_of_ble_eq_true rfl⟩ ⟨Nat.le_of_ble_eq_true rfl, Nat.le_of_ble_eq_true rfl⟩ dX7_setOffset_2 rfl (fun H locs hP hS => ?_)
    refine lv_iload_n hx hb dX7_setOffset_5 rfl (lv_at hl 2 rfl) ?_
    refine lv_bipush (v := (-99 : Int32)) hx hb dX7_setOffset_6 (by decide) ?_
    refine lv_icmp_lt (tgt := 17) hx hb dX7_setOffset_8 (by decide) (fun hc => ?_) (fun hc => ?_)
    · have hf := if_t hc hf
      cases hf
      exact zr_throwW (rest := []) hlT X hP hS hl.1 th_2 (hZ.2.2.2.2 9 (by decide)) hout (Nat.le_of_ble_eq_true rfl) (Nat.le_of_ble_eq_true rfl) (Nat.le_of_ble_eq_true rfl) (Nat.le_of_ble_eq_true rfl) dX7_setOffset_17 dX7_setOffset_20 dX7_setOffset_21 dX7_setOffset_24 dX7_setOffset_27
    · have hf := if_f hc hf
      refine lv_iload_n hx hb dX7_setOffset_11 rfl (lv_at hl 2 rfl) ?_
      refine lv_bipush (v := (99 : Int32)) hx hb dX7_setOffset_12 (by decide) ?_
      refine lv_icmp_le (tgt := 28) hx hb dX7_setOffset_14 (by decide) (fun hc => ?_) (fun hc => ?_)
      · have hf := if_t hc hf
        exfalso
        obtain ⟨I2, hI2, hf⟩ := ob_e hf
        obtain ⟨x3, hx3, hf⟩ := ob_e hf
        obtain ⟨I4, hI4, hf⟩ := ob_e hf
        cases hf
        exact hE rfl
      · have hf := if_f hc hf
        cases hf
        exact zr_throwW (rest := []) hlT X hP hS hl.1 th_2 (hZ.2.2.2.2 9 (by decide)) hout (Nat.le_of_ble_eq_true rfl) (Nat.le_of_ble_eq_true rfl) (Nat.le_of_ble_eq_true rfl) (Nat.le_of_ble_eq_true rfl) dX7_setOffset_17 dX7_setOffset_20 dX7_setOffset_21 dX7_setOffset_24 dX7_setOffset_27
  · have hf := if_f he hf
    cases hf
    exact zr_xV (rest := []) (As := [.int a1]) X hP hS (cx_X7_checkBuoy (g := g) (nc := nc) (I := I) (J := J) (O := O) hnI l hlT  he he1) cw_X7_185 (zr_recv X hP (Nat.lt_of_lt_of_le (zk_0).1 hnI) (zb_ceIo zk_0 (by decide)) rfl) rfl hl.1 (Nat.le_of_ble_eq_true rfl) ⟨Nat.le_of_ble_eq_true rfl, Nat.le_of_ble_eq_true rfl⟩ ⟨Nat.le_of_ble_eq_true rfl, Nat.le_of_ble_eq_true rfl⟩ dX7_setOffset_2 rfl hout
set_option maxHeartbeats 4000000 in
set_option maxRecDepth 100000 in
theorem cx_X7_setHold {g : zb_G} {nc : Nat} (hnI : 306 ≤ nc) (l : Launch) (hlT : l.stackTraces = false) {a1 : Int32} {a2 : Int32} {I J O : Mem} {r9 : Int32} {Iq : Mem} {E0 : Nat} (hE : ¬ E0 = 0) (hf : fX7_setHold a1 a2 I = some (E0, r9, Iq)) : zb_Cx l g nc yX7_setHold cX7_setHold 4 (some .int) 7 146 [.ref (g.2.2 + 0), .int a1, .int a2] (zb_ce g I J O) (zb_en E0) (zb_ce g Iq J O) := by
  refine zb_ofX (own := RX7) (by decide +kernel) rfl (Nat.le_of_ble_eq_true rfl) ?_
  intro p e s m args below meth c ls X hr hP hl hout
  have hx := X.1.1
  have hb := X.1.2.1
  have ho := X.1.2.2.2.1
  have hts := X.1.2.2.2.2
  have hZ := X.2.2.2
  have hl : lv_has ls 4 [(0, .ref (g.2.2 + 0)), (1, .int a1), (2, .int a2)] := hl
  have hS : va_S (zb_A g) s.heap s.heap [] := va_S.rf
  obtain ⟨H, hH⟩ : ∃ H, H = s.heap := ⟨_, rfl⟩
  obtain ⟨locs, hlocs⟩ : ∃ z : List Loc, z = [] := ⟨_, rfl⟩
  rw [← hH] at hP
  have hS : va_S (zb_A g) s.heap H locs := by rw [hH, hlocs]; exact hS
  show W p l e _ s m args below meth c s.heap [] 0 0 _ _
  rw [← hH, ← hlocs]
  rw [fX7_setHold] at hf
  refine lv_aload_n hx hb dX7_setHold_0 rfl (lv_at hl 0 rfl) ?_
  refine lv_iload_n hx hb dX7_setHold_1 rfl (lv_at hl 1 rfl) ?_
  obtain ⟨e1, he1, hf⟩ := ob_e hf
  rcases Classical.em (e1 = 0) with he | he
  · have hf := if_t he hf
    rw [he] at he1
    refine zr_cVv (rest := []) (As := [.int a1]) X hP hS (ct_X7_checkBuoy (g := g) (nc := nc) (I := I) (J := J) (O := O) hnI l  he1) cw_X7_185 (zr_recv X hP (Nat.lt_of_lt_of_le (zk_0).1 hnI) (zb_ceIo zk_0 (by decide)) rfl) rfl hl.1 (Nat.le_of_ble_eq_true rfl) ⟨Nat.le_of_ble_eq_true rfl, Nat.le_of_ble_eq_true rfl⟩ ⟨Nat.le_of_ble_eq_true rfl, Nat.le_of_ble_eq_true rfl⟩ dX7_setHold_2 rfl (fun H locs hP hS => ?_)
    refine lv_iload_n hx hb dX7_setHold_5 rfl (lv_at hl 2 rfl) ?_
    refine lv_if_lt (tgt := 15) hx hb dX7_setHold_6 (by decide) (fun hc => ?_) (fun hc => ?_)
    · have hf := if_t hc hf
      cases hf
      exact zr_throwW (rest := []) hlT X hP hS hl.1 th_2 (hZ.2.2.2.2 10 (by decide)) hout (Nat.le_of_ble_eq_true rfl) (Nat.le_of_ble_eq_true rfl) (Nat.le_of_ble_eq_true rfl) (Nat.le_of_ble_eq_true rfl) dX7_setHold_15 dX7_setHold_18 dX7_setHold_19 dX7_setHold_22 dX7_setHold_25
    · have hf := if_f hc hf
      refine lv_iload_n hx hb dX7_setHold_9 rfl (lv_at hl 2 rfl) ?_
      refine lv_bipush (v := (99 : Int32)) hx hb dX7_setHold_10 (by decide) ?_
      refine lv_icmp_le (tgt := 26) hx hb dX7_setHold_12 (by decide) (fun hc => ?_) (fun hc => ?_)
      · have hf := if_t hc hf
        exfalso
        obtain ⟨I2, hI2, hf⟩ := ob_e hf
        obtain ⟨x3, hx3, hf⟩ := ob_e hf
        obtain ⟨I4, hI4, hf⟩ := ob_e hf
        cases hf
        exact hE rfl
      · have hf := if_f hc hf
        cases hf
        exact zr_throwW (rest := []) hlT X hP hS hl.1 th_2 (hZ.2.2.2.2 10 (by decide)) hout (Nat.le_of_ble_eq_true rfl) (Nat.le_of_ble_eq_true rfl) (Nat.le_of_ble_eq_true rfl) (Nat.le_of_ble_eq_true rfl) dX7_setHold_15 dX7_setHold_18 dX7_setHold_19 dX7_setHold_22 dX7_setHold_25
  · have hf := if_f he hf
    cases hf
    exact zr_xV (rest := []) (As := [.int a1]) X hP hS (cx_X7_checkBuoy (g := g) (nc := nc) (I := I) (J := J) (O := O) hnI l hlT  he he1) cw_X7_185 (zr_recv X hP (Nat.lt_of_lt_of_le (zk_0).1 hnI) (zb_ceIo zk_0 (by decide)) rfl) rfl hl.1 (Nat.le_of_ble_eq_true rfl) ⟨Nat.le_of_ble_eq_true rfl, Nat.le_of_ble_eq_true rfl⟩ ⟨Nat.le_of_ble_eq_true rfl, Nat.le_of_ble_eq_true rfl⟩ dX7_setHold_2 rfl hout
set_option maxHeartbeats 4000000 in
set_option maxRecDepth 100000 in
theorem cx_X7_setTerms {g : zb_G} {nc : Nat} (hnI : 306 ≤ nc) (l : Launch) (hlT : l.stackTraces = false) {a1 : Int32} {a2 : Int32} {a3 : Int32} {I J O : Mem} {r9 : Int32} {Iq : Mem} {E0 : Nat} (hE : ¬ E0 = 0) (hf : fX7_setTerms a1 a2 a3 I = some (E0, r9, Iq)) : zb_Cx l g nc yX7_setTerms cX7_setTerms 5 (some .int) 6 125 [.ref (g.2.2 + 0), .int a1, .int a2, .int a3] (zb_ce g I J O) (zb_en E0) (zb_ce g Iq J O) := by
  refine zb_ofX (own := RX7) (by decide +kernel) rfl (Nat.le_of_ble_eq_true rfl) ?_
  intro p e s m args below meth c ls X hr hP hl hout
  have hx := X.1.1
  have hb := X.1.2.1
  have ho := X.1.2.2.2.1
  have hts := X.1.2.2.2.2
  have hZ := X.2.2.2
  have hl : lv_has ls 5 [(0, .ref (g.2.2 + 0)), (1, .int a1), (2, .int a2), (3, .int a3)] := hl
  have hS : va_S (zb_A g) s.heap s.heap [] := va_S.rf
  obtain ⟨H, hH⟩ : ∃ H, H = s.heap := ⟨_, rfl⟩
  obtain ⟨locs, hlocs⟩ : ∃ z : List Loc, z = [] := ⟨_, rfl⟩
  rw [← hH] at hP
  have hS : va_S (zb_A g) s.heap H locs := by rw [hH, hlocs]; exact hS
  show W p l e _ s m args below meth c s.heap [] 0 0 _ _
  rw [← hH, ← hlocs]
  rw [fX7_setTerms] at hf
  refine lv_iload_n hx hb dX7_setTerms_0 rfl (lv_at hl 1 rfl) ?_
  refine lv_if_lt (tgt := 33) hx hb dX7_setTerms_1 (by decide) (fun hc => ?_) (fun hc => ?_)
  · have hf := if_t hc hf
    cases hf
    exact zr_throwW (rest := []) hlT X hP hS hl.1 th_2 (hZ.2.2.2.2 11 (by decide)) hout (Nat.le_of_ble_eq_true rfl) (Nat.le_of_ble_eq_true rfl) (Nat.le_of_ble_eq_true rfl) (Nat.le_of_ble_eq_true rfl) dX7_setTerms_33 dX7_setTerms_36 dX7_setTerms_37 dX7_setTerms_40 dX7_setTerms_43
  · have hf := if_f hc hf
    refine lv_iload_n hx hb dX7_setTerms_4 rfl (lv_at hl 1 rfl) ?_
    refine lv_sipush (v := (999 : Int32)) hx hb dX7_setTerms_5 (by decide) ?_
    refine lv_icmp_gt (tgt := 33) hx hb dX7_setTerms_8 (by decide) (fun hc => ?_) (fun hc => ?_)
    · have hf := if_t hc hf
      cases hf
      exact zr_throwW (rest := []) hlT X hP hS hl.1 th_2 (hZ.2.2.2.2 11 (by decide)) hout (Nat.le_of_ble_eq_true rfl) (Nat.le_of_ble_eq_true rfl) (Nat.le_of_ble_eq_true rfl) (Nat.le_of_ble_eq_true rfl) dX7_setTerms_33 dX7_setTerms_36 dX7_setTerms_37 dX7_setTerms_40 dX7_setTerms_43
    · have hf := if_f hc hf
      refine lv_iload_n hx hb dX7_setTerms_11 rfl (lv_at hl 2 rfl) ?_
      refine lv_iconst (v := (1 : Int32)) hx hb dX7_setTerms_12 (by decide) ?_
      refine lv_icmp_lt (tgt := 33) hx hb dX7_setTerms_13 (by decide) (fun hc => ?_) (fun hc => ?_)
      · have hf := if_t hc hf
        cases hf
        exact zr_throwW (rest := []) hlT X hP hS hl.1 th_2 (hZ.2.2.2.2 11 (by decide)) hout (Nat.le_of_ble_eq_true rfl) (Nat.le_of_ble_eq_true rfl) (Nat.le_of_ble_eq_true rfl) (Nat.le_of_ble_eq_true rfl) dX7_setTerms_33 dX7_setTerms_36 dX7_setTerms_37 dX7_setTerms_40 dX7_setTerms_43
      · have hf := if_f hc hf
        refine lv_iload_n hx hb dX7_setTerms_16 rfl (lv_at hl 2 rfl) ?_
        refine lv_bipush (v := (9 : Int32)) hx hb dX7_setTerms_17 (by decide) ?_
        refine lv_icmp_gt (tgt := 33) hx hb dX7_setTerms_19 (by decide) (fun hc => ?_) (fun hc => ?_)
        · have hf := if_t hc hf
          cases hf
          exact zr_throwW (rest := []) hlT X hP hS hl.1 th_2 (hZ.2.2.2.2 11 (by decide)) hout (Nat.le_of_ble_eq_true rfl) (Nat.le_of_ble_eq_true rfl) (Nat.le_of_ble_eq_true rfl) (Nat.le_of_ble_eq_true rfl) dX7_setTerms_33 dX7_setTerms_36 dX7_setTerms_37 dX7_setTerms_40 dX7_setTerms_43
        · have hf := if_f hc hf
          refine lv_iload_n hx hb dX7_setTerms_22 rfl (lv_at hl 3 rfl) ?_
          refine lv_iconst (v := (1 : Int32)) hx hb dX7_setTerms_23 (by decide) ?_
          refine lv_icmp_lt (tgt := 33) hx hb dX7_setTerms_24 (by decide) (fun hc => ?_) (fun hc => ?_)
          · have hf := if_t hc hf
            cases hf
            exact zr_throwW (rest := []) hlT X hP hS hl.1 th_2 (hZ.2.2.2.2 11 (by decide)) hout (Nat.le_of_ble_eq_true rfl) (Nat.le_of_ble_eq_true rfl) (Nat.le_of_ble_eq_true rfl) (Nat.le_of_ble_eq_true rfl) dX7_setTerms_33 dX7_setTerms_36 dX7_setTerms_37 dX7_setTerms_40 dX7_setTerms_43
          · have hf := if_f hc hf
            refine lv_iload_n hx hb dX7_setTerms_27 rfl (lv_at hl 3 rfl) ?_
            refine lv_bipush (v := (9 : Int32)) hx hb dX7_setTerms_28 (by decide) ?_
            refine lv_icmp_le (tgt := 44) hx hb dX7_setTerms_30 (by decide) (fun hc => ?_) (fun hc => ?_)
            · have hf := if_t hc hf
              exfalso
              obtain ⟨I1, hI1, hf⟩ := ob_e hf
              cases hf
              exact hE rfl
            · have hf := if_f hc hf
              cases hf
              exact zr_throwW (rest := []) hlT X hP hS hl.1 th_2 (hZ.2.2.2.2 11 (by decide)) hout (Nat.le_of_ble_eq_true rfl) (Nat.le_of_ble_eq_true rfl) (Nat.le_of_ble_eq_true rfl) (Nat.le_of_ble_eq_true rfl) dX7_setTerms_33 dX7_setTerms_36 dX7_setTerms_37 dX7_setTerms_40 dX7_setTerms_43
set_option maxHeartbeats 4000000 in
set_option maxRecDepth 100000 in
theorem cx_X7_output {g : zb_G} {nc : Nat} (hnI : 306 ≤ nc) (l : Launch) (hlT : l.stackTraces = false) {a1 : Int32} {I J O : Mem} {r9 : Int32} {E0 : Nat} (hE : ¬ E0 = 0) (hf : fX7_output a1 I = some (E0, r9)) : zb_Cx l g nc yX7_output cX7_output 2 (some .int) 6 125 [.ref (g.2.2 + 0), .int a1] (zb_ce g I J O) (zb_en E0) (zb_ce g I J O) := by
  refine zb_ofX (own := RX7) (by decide +kernel) rfl (Nat.le_of_ble_eq_true rfl) ?_
  intro p e s m args below meth c ls X hr hP hl hout
  have hx := X.1.1
  have hb := X.1.2.1
  have ho := X.1.2.2.2.1
  have hts := X.1.2.2.2.2
  have hZ := X.2.2.2
  have hl : lv_has ls 2 [(0, .ref (g.2.2 + 0)), (1, .int a1)] := hl
  have hS : va_S (zb_A g) s.heap s.heap [] := va_S.rf
  obtain ⟨H, hH⟩ : ∃ H, H = s.heap := ⟨_, rfl⟩
  obtain ⟨locs, hlocs⟩ : ∃ z : List Loc, z = [] := ⟨_, rfl⟩
  rw [← hH] at hP
  have hS : va_S (zb_A g) s.heap H locs := by rw [hH, hlocs]; exact hS
  show W p l e _ s m args below meth c s.heap [] 0 0 _ _
  rw [← hH, ← hlocs]
  rw [fX7_output] at hf
  refine lv_iload_n hx hb dX7_output_0 rfl (lv_at hl 1 rfl) ?_
  refine lv_if_lt (tgt := 12) hx hb dX7_output_1 (by decide) (fun hc => ?_) (fun hc => ?_)
  · have hf := if_t hc hf
    cases hf
    exact zr_throwW (rest := []) hlT X hP hS hl.1 th_1 (hZ.2.2.2.2 12 (by decide)) hout (Nat.le_of_ble_eq_true rfl) (Nat.le_of_ble_eq_true rfl) (Nat.le_of_ble_eq_true rfl) (Nat.le_of_ble_eq_true rfl) dX7_output_12 dX7_output_15 dX7_output_16 dX7_output_19 dX7_output_22
  · have hf := if_f hc hf
    refine lv_iload_n hx hb dX7_output_4 rfl (lv_at hl 1 rfl) ?_
    refine lv_aload_n hx hb dX7_output_5 rfl (lv_at hl 0 rfl) ?_
    refine gf_X7_73 X hnI hP zk_0 dX7_output_6 ?_
    refine lv_icmp_lt (tgt := 23) hx hb dX7_output_9 (by decide) (fun hc => ?_) (fun hc => ?_)
    · have hf := if_t hc hf
      exfalso
      obtain ⟨x1, hx1, hf⟩ := ob_e hf
      cases hf
      exact hE rfl
    · have hf := if_f hc hf
      cases hf
      exact zr_throwW (rest := []) hlT X hP hS hl.1 th_1 (hZ.2.2.2.2 12 (by decide)) hout (Nat.le_of_ble_eq_true rfl) (Nat.le_of_ble_eq_true rfl) (Nat.le_of_ble_eq_true rfl) (Nat.le_of_ble_eq_true rfl) dX7_output_12 dX7_output_15 dX7_output_16 dX7_output_19 dX7_output_22
set_option maxHeartbeats 4000000 in
set_option maxRecDepth 100000 in
theorem cx_X7_undo {g : zb_G} {nc : Nat} (hnI : 306 ≤ nc) (l : Launch) (hlT : l.stackTraces = false) {I J O : Mem} {r9 : Int32} {Iq : Mem} {E0 : Nat} (hE : ¬ E0 = 0) (hf : fX7_undo I = some (E0, r9, Iq)) : zb_Cx l g nc yX7_undo cX7_undo 1 (some .int) 6 125 [.ref (g.2.2 + 0)] (zb_ce g I J O) (zb_en E0) (zb_ce g Iq J O) := by
  refine zb_ofX (own := RX7) (by decide +kernel) rfl (Nat.le_of_ble_eq_true rfl) ?_
  intro p e s m args below meth c ls X hr hP hl hout
  have hx := X.1.1
  have hb := X.1.2.1
  have ho := X.1.2.2.2.1
  have hts := X.1.2.2.2.2
  have hZ := X.2.2.2
  have hl : lv_has ls 1 [(0, .ref (g.2.2 + 0))] := hl
  have hS : va_S (zb_A g) s.heap s.heap [] := va_S.rf
  obtain ⟨H, hH⟩ : ∃ H, H = s.heap := ⟨_, rfl⟩
  obtain ⟨locs, hlocs⟩ : ∃ z : List Loc, z = [] := ⟨_, rfl⟩
  rw [← hH] at hP
  have hS : va_S (zb_A g) s.heap H locs := by rw [hH, hlocs]; exact hS
  show W p l e _ s m args below meth c s.heap [] 0 0 _ _
  rw [← hH, ← hlocs]
  rw [fX7_undo] at hf
  refine lv_aload_n hx hb dX7_undo_0 rfl (lv_at hl 0 rfl) ?_
  refine gf_X7_23 X hnI hP zk_0 dX7_undo_1 ?_
  refine lv_if_ne (tgt := 18) hx hb dX7_undo_4 (by decide) (fun hc => ?_) (fun hc => ?_)
  · have hf := if_f hc hf
    exfalso
    obtain ⟨x1, hx1, hf⟩ := ob_e hf
    obtain ⟨j2, hj2, hf⟩ := ob_e hf
    obtain ⟨I3, hI3, hf⟩ := ob_e hf
    cases hf
    exact hE rfl
  · have hf := if_t hc hf
    cases hf
    exact zr_throwW (rest := []) hlT X hP hS hl.1 th_3 (hZ.2.2.2.2 13 (by decide)) hout (Nat.le_of_ble_eq_true rfl) (Nat.le_of_ble_eq_true rfl) (Nat.le_of_ble_eq_true rfl) (Nat.le_of_ble_eq_true rfl) dX7_undo_7 dX7_undo_10 dX7_undo_11 dX7_undo_14 dX7_undo_17
set_option maxHeartbeats 4000000 in
set_option maxRecDepth 100000 in
theorem cx_X7_checkSlot {g : zb_G} {nc : Nat} (l : Launch) (hlT : l.stackTraces = false) {a1 : Int32} {I J O : Mem} {E0 : Nat} (hE : ¬ E0 = 0) (hf : fX7_checkSlot a1 = some E0) : zb_Cx l g nc yX7_checkSlot cX7_checkSlot 2 none 6 125 [.ref (g.2.2 + 0), .int a1] (zb_ce g I J O) (zb_en E0) (zb_ce g I J O) := by
  refine zb_ofX (own := RX7) (by decide +kernel) rfl (Nat.le_of_ble_eq_true rfl) ?_
  intro p e s m args below meth c ls X hr hP hl hout
  have hx := X.1.1
  have hb := X.1.2.1
  have ho := X.1.2.2.2.1
  have hts := X.1.2.2.2.2
  have hZ := X.2.2.2
  have hl : lv_has ls 2 [(0, .ref (g.2.2 + 0)), (1, .int a1)] := hl
  have hS : va_S (zb_A g) s.heap s.heap [] := va_S.rf
  obtain ⟨H, hH⟩ : ∃ H, H = s.heap := ⟨_, rfl⟩
  obtain ⟨locs, hlocs⟩ : ∃ z : List Loc, z = [] := ⟨_, rfl⟩
  rw [← hH] at hP
  have hS : va_S (zb_A g) s.heap H locs := by rw [hH, hlocs]; exact hS
  show W p l e _ s m args below meth c s.heap [] 0 0 _ _
  rw [← hH, ← hlocs]
  rw [fX7_checkSlot] at hf
  refine lv_iload_n hx hb dX7_checkSlot_0 rfl (lv_at hl 1 rfl) ?_
  refine lv_if_lt (tgt := 9) hx hb dX7_checkSlot_1 (by decide) (fun hc => ?_) (fun hc => ?_)
  · have hf := if_t hc hf
    cases hf
    exact zr_throwW (rest := []) hlT X hP hS hl.1 th_1 (hZ.2.2.2.2 17 (by decide)) hout (Nat.le_of_ble_eq_true rfl) (Nat.le_of_ble_eq_true rfl) (Nat.le_of_ble_eq_true rfl) (Nat.le_of_ble_eq_true rfl) dX7_checkSlot_9 dX7_checkSlot_12 dX7_checkSlot_13 dX7_checkSlot_16 dX7_checkSlot_19
  · have hf := if_f hc hf
    refine lv_iload_n hx hb dX7_checkSlot_4 rfl (lv_at hl 1 rfl) ?_
    refine lv_iconst (v := (2 : Int32)) hx hb dX7_checkSlot_5 (by decide) ?_
    refine lv_icmp_lt (tgt := 20) hx hb dX7_checkSlot_6 (by decide) (fun hc => ?_) (fun hc => ?_)
    · have hf := if_t hc hf
      exfalso
      cases hf
      exact hE rfl
    · have hf := if_f hc hf
      cases hf
      exact zr_throwW (rest := []) hlT X hP hS hl.1 th_1 (hZ.2.2.2.2 17 (by decide)) hout (Nat.le_of_ble_eq_true rfl) (Nat.le_of_ble_eq_true rfl) (Nat.le_of_ble_eq_true rfl) (Nat.le_of_ble_eq_true rfl) dX7_checkSlot_9 dX7_checkSlot_12 dX7_checkSlot_13 dX7_checkSlot_16 dX7_checkSlot_19
set_option maxHeartbeats 4000000 in
set_option maxRecDepth 100000 in
theorem cx_X7_save {g : zb_G} {nc : Nat} (hnI : 306 ≤ nc) (l : Launch) (hlT : l.stackTraces = false) {a1 : Int32} {I J O : Mem} {r9 : Int32} {Iq : Mem} {E0 : Nat} (hE : ¬ E0 = 0) (hf : fX7_save a1 I = some (E0, r9, Iq)) : zb_Cx l g nc yX7_save cX7_save 2 (some .int) 7 146 [.ref (g.2.2 + 0), .int a1] (zb_ce g I J O) (zb_en E0) (zb_ce g Iq J O) := by
  refine zb_ofX (own := RX7) (by decide +kernel) rfl (Nat.le_of_ble_eq_true rfl) ?_
  intro p e s m args below meth c ls X hr hP hl hout
  have hx := X.1.1
  have hb := X.1.2.1
  have ho := X.1.2.2.2.1
  have hts := X.1.2.2.2.2
  have hZ := X.2.2.2
  have hl : lv_has ls 2 [(0, .ref (g.2.2 + 0)), (1, .int a1)] := hl
  have hS : va_S (zb_A g) s.heap s.heap [] := va_S.rf
  obtain ⟨H, hH⟩ : ∃ H, H = s.heap := ⟨_, rfl⟩
  obtain ⟨locs, hlocs⟩ : ∃ z : List Loc, z = [] := ⟨_, rfl⟩
  rw [← hH] at hP
  have hS : va_S (zb_A g) s.heap H locs := by rw [hH, hlocs]; exact hS
  show W p l e _ s m args below meth c s.heap [] 0 0 _ _
  rw [← hH, ← hlocs]
  rw [fX7_save] at hf
  refine lv_aload_n hx hb dX7_save_0 rfl (lv_at hl 0 rfl) ?_
  refine lv_iload_n hx hb dX7_save_1 rfl (lv_at hl 1 rfl) ?_
  obtain ⟨e1, he1, hf⟩ := ob_e hf
  rcases Classical.em (e1 = 0) with he | he
  · have hf := if_t he hf
    rw [he] at he1
    refine zr_cVv (rest := []) (As := [.int a1]) X hP hS (ct_X7_checkSlot (g := g) (nc := nc) (I := I) (J := J) (O := O)  l  he1) cw_X7_408 (zr_recv X hP (Nat.lt_of_lt_of_le (zk_0).1 hnI) (zb_ceIo zk_0 (by decide)) rfl) rfl hl.1 (Nat.le_of_ble_eq_true rfl) ⟨Nat.le_of_ble_eq_true rfl, Nat.le_of_ble_eq_true rfl⟩ ⟨Nat.le_of_ble_eq_true rfl, Nat.le_of_ble_eq_true rfl⟩ dX7_save_2 rfl (fun H locs hP hS => ?_)
    exfalso
    obtain ⟨j2, hj2, hf⟩ := ob_e hf
    obtain ⟨I3, hI3, hf⟩ := ob_e hf
    cases hf
    exact hE rfl
  · have hf := if_f he hf
    cases hf
    exact zr_xV (rest := []) (As := [.int a1]) X hP hS (cx_X7_checkSlot (g := g) (nc := nc) (I := I) (J := J) (O := O)  l hlT  he he1) cw_X7_408 (zr_recv X hP (Nat.lt_of_lt_of_le (zk_0).1 hnI) (zb_ceIo zk_0 (by decide)) rfl) rfl hl.1 (Nat.le_of_ble_eq_true rfl) ⟨Nat.le_of_ble_eq_true rfl, Nat.le_of_ble_eq_true rfl⟩ ⟨Nat.le_of_ble_eq_true rfl, Nat.le_of_ble_eq_true rfl⟩ dX7_save_2 rfl hout
set_option maxHeartbeats 4000000 in
set_option maxRecDepth 100000 in
theorem cx_X7_restore {g : zb_G} {nc : Nat} (hnI : 306 ≤ nc) (l : Launch) (hlT : l.stackTraces = false) {a1 : Int32} {I J O : Mem} {r9 : Int32} {Iq : Mem} {E0 : Nat} (hE : ¬ E0 = 0) (hf : fX7_restore a1 I = some (E0, r9, Iq)) : zb_Cx l g nc yX7_restore cX7_restore 2 (some .int) 7 146 [.ref (g.2.2 + 0), .int a1] (zb_ce g I J O) (zb_en E0) (zb_ce g Iq J O) := by
  refine zb_ofX (own := RX7) (by decide +kernel) rfl (Nat.le_of_ble_eq_true rfl) ?_
  intro p e s m args below meth c ls X hr hP hl hout
  have hx := X.1.1
  have hb := X.1.2.1
  have ho := X.1.2.2.2.1
  have hts := X.1.2.2.2.2
  have hZ := X.2.2.2
  have hl : lv_has ls 2 [(0, .ref (g.2.2 + 0)), (1, .int a1)] := hl
  have hS : va_S (zb_A g) s.heap s.heap [] := va_S.rf
  obtain ⟨H, hH⟩ : ∃ H, H = s.heap := ⟨_, rfl⟩
  obtain ⟨locs, hlocs⟩ : ∃ z : List Loc, z = [] := ⟨_, rfl⟩
  rw [← hH] at hP
  have hS : va_S (zb_A g) s.heap H locs := by rw [hH, hlocs]; exact hS
  show W p l e _ s m args below meth c s.heap [] 0 0 _ _
  rw [← hH, ← hlocs]
  rw [fX7_restore] at hf
  refine lv_aload_n hx hb dX7_restore_0 rfl (lv_at hl 0 rfl) ?_
  refine lv_iload_n hx hb dX7_restore_1 rfl (lv_at hl 1 rfl) ?_
  obtain ⟨e1, he1, hf⟩ := ob_e hf
  rcases Classical.em (e1 = 0) with he | he
  · have hf := if_t he hf
    rw [he] at he1
    refine zr_cVv (rest := []) (As := [.int a1]) X hP hS (ct_X7_checkSlot (g := g) (nc := nc) (I := I) (J := J) (O := O)  l  he1) cw_X7_408 (zr_recv X hP (Nat.lt_of_lt_of_le (zk_0).1 hnI) (zb_ceIo zk_0 (by decide)) rfl) rfl hl.1 (Nat.le_of_ble_eq_true rfl) ⟨Nat.le_of_ble_eq_true rfl, Nat.le_of_ble_eq_true rfl⟩ ⟨Nat.le_of_ble_eq_true rfl, Nat.le_of_ble_eq_true rfl⟩ dX7_restore_2 rfl (fun H locs hP hS => ?_)
    refine lv_aload_n hx hb dX7_restore_5 rfl (lv_at hl 0 rfl) ?_
    refine gf_X7_33 X hnI hP zk_0 dX7_restore_6 ?_
    refine lv_iload_n hx hb dX7_restore_9 rfl (lv_at hl 1 rfl) ?_
    obtain ⟨x2, hx2, hf⟩ := ob_e hf
    refine zr_cSi (rest := []) (As := [.int (I 0 6), .int a1]) X hP hS (ct_X7_has (g := g) (nc := nc) (I := I) (J := J) (O := O)  l  hx2) cw_X7_215  rfl hl.1 (Nat.le_of_ble_eq_true rfl) ⟨Nat.le_of_ble_eq_true rfl, Nat.le_of_ble_eq_true rfl⟩ ⟨Nat.le_of_ble_eq_true rfl, Nat.le_of_ble_eq_true rfl⟩ dX7_restore_10 rfl (fun H locs hP hS => ?_)
    refine lv_if_ne (tgt := 27) hx hb dX7_restore_13 (by decide) (fun hc => ?_) (fun hc => ?_)
    · have hf := if_f hc hf
      exfalso
      obtain ⟨j3, hj3, hf⟩ := ob_e hf
      obtain ⟨I4, hI4, hf⟩ := ob_e hf
      cases hf
      exact hE rfl
    · have hf := if_t hc hf
      cases hf
      exact zr_throwW (rest := []) hlT X hP hS hl.1 th_3 (hZ.2.2.2.2 14 (by decide)) hout (Nat.le_of_ble_eq_true rfl) (Nat.le_of_ble_eq_true rfl) (Nat.le_of_ble_eq_true rfl) (Nat.le_of_ble_eq_true rfl) dX7_restore_16 dX7_restore_19 dX7_restore_20 dX7_restore_23 dX7_restore_26
  · have hf := if_f he hf
    cases hf
    exact zr_xV (rest := []) (As := [.int a1]) X hP hS (cx_X7_checkSlot (g := g) (nc := nc) (I := I) (J := J) (O := O)  l hlT  he he1) cw_X7_408 (zr_recv X hP (Nat.lt_of_lt_of_le (zk_0).1 hnI) (zb_ceIo zk_0 (by decide)) rfl) rfl hl.1 (Nat.le_of_ble_eq_true rfl) ⟨Nat.le_of_ble_eq_true rfl, Nat.le_of_ble_eq_true rfl⟩ ⟨Nat.le_of_ble_eq_true rfl, Nat.le_of_ble_eq_true rfl⟩ dX7_restore_2 rfl hout
