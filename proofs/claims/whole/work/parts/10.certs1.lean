theorem thr_ne {e : Nat} {A : Type} {a b : A} (he : ¬ e = 0) (h : some (e, a) = some (0, b)) : False := by
  injection h with h
  injection h with h1 h2
  exact he h1
theorem thr_ne1 {e : Nat} (he : ¬ e = 0) (h : some e = some 0) : False := by
  injection h with h
  exact he h

set_option maxHeartbeats 4000000 in
set_option maxRecDepth 100000 in
theorem ct_X0_copyFrom {g : zb_G} {nc : Nat} (hnI : 306 ≤ nc) (l : Launch) {b : Nat} {b1 : Nat} (hB : zb_isB b) (hB1 : zb_isB b1) {I J O : Mem} {Iq : Mem} (hf : fX0_copyFrom b b1 I = some Iq) : zb_Ct l g nc yX0_copyFrom cX0_copyFrom 2 none 1 40 [.ref (g.2.2 + (b + 1)), .ref (g.2.2 + (b1 + 1))] (zb_ce g I J O) none (zb_ce g Iq J O) := by
  refine zb_ofW (own := RX0) (by decide +kernel) rfl (Nat.le_of_ble_eq_true rfl) ?_
  intro p e s m args below meth c ls X hr hP hl
  have hx := X.1.1
  have hb := X.1.2.1
  have ho := X.1.2.2.2.1
  have hts := X.1.2.2.2.2
  have hZ := X.2.2.2
  have hl : lv_has ls 2 [(0, .ref (g.2.2 + (b + 1))), (1, .ref (g.2.2 + (b1 + 1)))] := hl
  have hS : va_S (zb_A g) s.heap s.heap [] := va_S.rf
  obtain ⟨H, hH⟩ : ∃ H, H = s.heap := ⟨_, rfl⟩
  obtain ⟨locs, hlocs⟩ : ∃ z : List Loc, z = [] := ⟨_, rfl⟩
  rw [← hH] at hP
  have hS : va_S (zb_A g) s.heap H locs := by rw [hH, hlocs]; exact hS
  show W p l e _ s m args below meth c s.heap [] 0 0 _ _
  rw [← hH, ← hlocs]
  rw [fX0_copyFrom] at hf
  refine lv_aload_n hx hb dX0_copyFrom_0 rfl (lv_at hl 0 rfl) ?_
  refine lv_aload_n hx hb dX0_copyFrom_1 rfl (lv_at hl 1 rfl) ?_
  refine gf_X0_9 X hnI hP (zb_bk (j := 1) hB1 (by decide) rfl) dX0_copyFrom_2 ?_
  refine pf_X0_9 X hnI hP hS (zb_bk (j := 1) hB (by decide) rfl) dX0_copyFrom_5 (fun H locs hP hS => ?_)
  refine lv_aload_n hx hb dX0_copyFrom_8 rfl (lv_at hl 0 rfl) ?_
  refine lv_aload_n hx hb dX0_copyFrom_9 rfl (lv_at hl 1 rfl) ?_
  refine gf_X0_15 X hnI hP (zb_bk (j := 1) hB1 (by decide) rfl) dX0_copyFrom_10 ?_
  refine pf_X0_15 X hnI hP hS (zb_bk (j := 1) hB (by decide) rfl) dX0_copyFrom_13 (fun H locs hP hS => ?_)
  refine lv_aload_n hx hb dX0_copyFrom_16 rfl (lv_at hl 1 rfl) ?_
  refine gf_X0_18 X hnI hP (zb_bk (j := 1) hB1 (by decide) rfl) dX0_copyFrom_17 ?_
  refine lv_iconst (v := (0 : Int32)) hx hb dX0_copyFrom_20 (by decide) ?_
  refine lv_aload_n hx hb dX0_copyFrom_21 rfl (lv_at hl 0 rfl) ?_
  refine gf_X0_18 X hnI hP (zb_bk (j := 1) hB (by decide) rfl) dX0_copyFrom_22 ?_
  refine lv_iconst (v := (0 : Int32)) hx hb dX0_copyFrom_25 (by decide) ?_
  refine lv_bipush (v := (10 : Int32)) hx hb dX0_copyFrom_26 (by decide) ?_
  refine zr_copy (N := 10) X hP hS hnI (zb_bk (j := 2) hB1 (by decide) rfl) (zb_bk (j := 2) hB (by decide) rfl) rfl (Nat.le_of_ble_eq_true rfl) (Nat.le_of_ble_eq_true rfl) (Nat.le_of_ble_eq_true rfl) wk_X0_46 wm_ac1 wm_ac2 wm_ac3 hl.1 (Nat.le_of_ble_eq_true rfl) (Nat.le_of_ble_eq_true rfl) dX0_copyFrom_28 (fun H locs hP hS => ?_)
  refine lv_aload_n hx hb dX0_copyFrom_31 rfl (lv_at hl 1 rfl) ?_
  refine gf_X0_22 X hnI hP (zb_bk (j := 1) hB1 (by decide) rfl) dX0_copyFrom_32 ?_
  refine lv_iconst (v := (0 : Int32)) hx hb dX0_copyFrom_35 (by decide) ?_
  refine lv_aload_n hx hb dX0_copyFrom_36 rfl (lv_at hl 0 rfl) ?_
  refine gf_X0_22 X hnI hP (zb_bk (j := 1) hB (by decide) rfl) dX0_copyFrom_37 ?_
  refine lv_iconst (v := (0 : Int32)) hx hb dX0_copyFrom_40 (by decide) ?_
  refine lv_bipush (v := (10 : Int32)) hx hb dX0_copyFrom_41 (by decide) ?_
  refine zr_copy (N := 10) X hP hS hnI (zb_bk (j := 3) hB1 (by decide) rfl) (zb_bk (j := 3) hB (by decide) rfl) rfl (Nat.le_of_ble_eq_true rfl) (Nat.le_of_ble_eq_true rfl) (Nat.le_of_ble_eq_true rfl) wk_X0_46 wm_ac1 wm_ac2 wm_ac3 hl.1 (Nat.le_of_ble_eq_true rfl) (Nat.le_of_ble_eq_true rfl) dX0_copyFrom_43 (fun H locs hP hS => ?_)
  refine lv_aload_n hx hb dX0_copyFrom_46 rfl (lv_at hl 1 rfl) ?_
  refine gf_X0_25 X hnI hP (zb_bk (j := 1) hB1 (by decide) rfl) dX0_copyFrom_47 ?_
  refine lv_iconst (v := (0 : Int32)) hx hb dX0_copyFrom_50 (by decide) ?_
  refine lv_aload_n hx hb dX0_copyFrom_51 rfl (lv_at hl 0 rfl) ?_
  refine gf_X0_25 X hnI hP (zb_bk (j := 1) hB (by decide) rfl) dX0_copyFrom_52 ?_
  refine lv_iconst (v := (0 : Int32)) hx hb dX0_copyFrom_55 (by decide) ?_
  refine lv_bipush (v := (10 : Int32)) hx hb dX0_copyFrom_56 (by decide) ?_
  refine zr_copy (N := 10) X hP hS hnI (zb_bk (j := 4) hB1 (by decide) rfl) (zb_bk (j := 4) hB (by decide) rfl) rfl (Nat.le_of_ble_eq_true rfl) (Nat.le_of_ble_eq_true rfl) (Nat.le_of_ble_eq_true rfl) wk_X0_46 wm_ac1 wm_ac2 wm_ac3 hl.1 (Nat.le_of_ble_eq_true rfl) (Nat.le_of_ble_eq_true rfl) dX0_copyFrom_58 (fun H locs hP hS => ?_)
  refine lv_aload_n hx hb dX0_copyFrom_61 rfl (lv_at hl 1 rfl) ?_
  refine gf_X0_28 X hnI hP (zb_bk (j := 1) hB1 (by decide) rfl) dX0_copyFrom_62 ?_
  refine lv_iconst (v := (0 : Int32)) hx hb dX0_copyFrom_65 (by decide) ?_
  refine lv_aload_n hx hb dX0_copyFrom_66 rfl (lv_at hl 0 rfl) ?_
  refine gf_X0_28 X hnI hP (zb_bk (j := 1) hB (by decide) rfl) dX0_copyFrom_67 ?_
  refine lv_iconst (v := (0 : Int32)) hx hb dX0_copyFrom_70 (by decide) ?_
  refine lv_bipush (v := (10 : Int32)) hx hb dX0_copyFrom_71 (by decide) ?_
  refine zr_copy (N := 10) X hP hS hnI (zb_bk (j := 5) hB1 (by decide) rfl) (zb_bk (j := 5) hB (by decide) rfl) rfl (Nat.le_of_ble_eq_true rfl) (Nat.le_of_ble_eq_true rfl) (Nat.le_of_ble_eq_true rfl) wk_X0_46 wm_ac1 wm_ac2 wm_ac3 hl.1 (Nat.le_of_ble_eq_true rfl) (Nat.le_of_ble_eq_true rfl) dX0_copyFrom_73 (fun H locs hP hS => ?_)
  refine lv_aload_n hx hb dX0_copyFrom_76 rfl (lv_at hl 1 rfl) ?_
  refine gf_X0_31 X hnI hP (zb_bk (j := 1) hB1 (by decide) rfl) dX0_copyFrom_77 ?_
  refine lv_iconst (v := (0 : Int32)) hx hb dX0_copyFrom_80 (by decide) ?_
  refine lv_aload_n hx hb dX0_copyFrom_81 rfl (lv_at hl 0 rfl) ?_
  refine gf_X0_31 X hnI hP (zb_bk (j := 1) hB (by decide) rfl) dX0_copyFrom_82 ?_
  refine lv_iconst (v := (0 : Int32)) hx hb dX0_copyFrom_85 (by decide) ?_
  refine lv_bipush (v := (10 : Int32)) hx hb dX0_copyFrom_86 (by decide) ?_
  refine zr_copy (N := 10) X hP hS hnI (zb_bk (j := 6) hB1 (by decide) rfl) (zb_bk (j := 6) hB (by decide) rfl) rfl (Nat.le_of_ble_eq_true rfl) (Nat.le_of_ble_eq_true rfl) (Nat.le_of_ble_eq_true rfl) wk_X0_46 wm_ac1 wm_ac2 wm_ac3 hl.1 (Nat.le_of_ble_eq_true rfl) (Nat.le_of_ble_eq_true rfl) dX0_copyFrom_88 (fun H locs hP hS => ?_)
  refine lv_aload_n hx hb dX0_copyFrom_91 rfl (lv_at hl 1 rfl) ?_
  refine gf_X0_34 X hnI hP (zb_bk (j := 1) hB1 (by decide) rfl) dX0_copyFrom_92 ?_
  refine lv_iconst (v := (0 : Int32)) hx hb dX0_copyFrom_95 (by decide) ?_
  refine lv_aload_n hx hb dX0_copyFrom_96 rfl (lv_at hl 0 rfl) ?_
  refine gf_X0_34 X hnI hP (zb_bk (j := 1) hB (by decide) rfl) dX0_copyFrom_97 ?_
  refine lv_iconst (v := (0 : Int32)) hx hb dX0_copyFrom_100 (by decide) ?_
  refine lv_bipush (v := (10 : Int32)) hx hb dX0_copyFrom_101 (by decide) ?_
  refine zr_copy (N := 10) X hP hS hnI (zb_bk (j := 7) hB1 (by decide) rfl) (zb_bk (j := 7) hB (by decide) rfl) rfl (Nat.le_of_ble_eq_true rfl) (Nat.le_of_ble_eq_true rfl) (Nat.le_of_ble_eq_true rfl) wk_X0_46 wm_ac1 wm_ac2 wm_ac3 hl.1 (Nat.le_of_ble_eq_true rfl) (Nat.le_of_ble_eq_true rfl) dX0_copyFrom_103 (fun H locs hP hS => ?_)
  refine lv_aload_n hx hb dX0_copyFrom_106 rfl (lv_at hl 1 rfl) ?_
  refine gf_X0_37 X hnI hP (zb_bk (j := 1) hB1 (by decide) rfl) dX0_copyFrom_107 ?_
  refine lv_iconst (v := (0 : Int32)) hx hb dX0_copyFrom_110 (by decide) ?_
  refine lv_aload_n hx hb dX0_copyFrom_111 rfl (lv_at hl 0 rfl) ?_
  refine gf_X0_37 X hnI hP (zb_bk (j := 1) hB (by decide) rfl) dX0_copyFrom_112 ?_
  refine lv_iconst (v := (0 : Int32)) hx hb dX0_copyFrom_115 (by decide) ?_
  refine lv_bipush (v := (10 : Int32)) hx hb dX0_copyFrom_116 (by decide) ?_
  refine zr_copy (N := 10) X hP hS hnI (zb_bk (j := 8) hB1 (by decide) rfl) (zb_bk (j := 8) hB (by decide) rfl) rfl (Nat.le_of_ble_eq_true rfl) (Nat.le_of_ble_eq_true rfl) (Nat.le_of_ble_eq_true rfl) wk_X0_46 wm_ac1 wm_ac2 wm_ac3 hl.1 (Nat.le_of_ble_eq_true rfl) (Nat.le_of_ble_eq_true rfl) dX0_copyFrom_118 (fun H locs hP hS => ?_)
  refine lv_aload_n hx hb dX0_copyFrom_121 rfl (lv_at hl 1 rfl) ?_
  refine gf_X0_40 X hnI hP (zb_bk (j := 1) hB1 (by decide) rfl) dX0_copyFrom_122 ?_
  refine lv_iconst (v := (0 : Int32)) hx hb dX0_copyFrom_125 (by decide) ?_
  refine lv_aload_n hx hb dX0_copyFrom_126 rfl (lv_at hl 0 rfl) ?_
  refine gf_X0_40 X hnI hP (zb_bk (j := 1) hB (by decide) rfl) dX0_copyFrom_127 ?_
  refine lv_iconst (v := (0 : Int32)) hx hb dX0_copyFrom_130 (by decide) ?_
  refine lv_bipush (v := (10 : Int32)) hx hb dX0_copyFrom_131 (by decide) ?_
  refine zr_copy (N := 10) X hP hS hnI (zb_bk (j := 9) hB1 (by decide) rfl) (zb_bk (j := 9) hB (by decide) rfl) rfl (Nat.le_of_ble_eq_true rfl) (Nat.le_of_ble_eq_true rfl) (Nat.le_of_ble_eq_true rfl) wk_X0_46 wm_ac1 wm_ac2 wm_ac3 hl.1 (Nat.le_of_ble_eq_true rfl) (Nat.le_of_ble_eq_true rfl) dX0_copyFrom_133 (fun H locs hP hS => ?_)
  refine lv_aload_n hx hb dX0_copyFrom_136 rfl (lv_at hl 1 rfl) ?_
  refine gf_X0_43 X hnI hP (zb_bk (j := 1) hB1 (by decide) rfl) dX0_copyFrom_137 ?_
  refine lv_iconst (v := (0 : Int32)) hx hb dX0_copyFrom_140 (by decide) ?_
  refine lv_aload_n hx hb dX0_copyFrom_141 rfl (lv_at hl 0 rfl) ?_
  refine gf_X0_43 X hnI hP (zb_bk (j := 1) hB (by decide) rfl) dX0_copyFrom_142 ?_
  refine lv_iconst (v := (0 : Int32)) hx hb dX0_copyFrom_145 (by decide) ?_
  refine lv_bipush (v := (10 : Int32)) hx hb dX0_copyFrom_146 (by decide) ?_
  refine zr_copy (N := 10) X hP hS hnI (zb_bk (j := 10) hB1 (by decide) rfl) (zb_bk (j := 10) hB (by decide) rfl) rfl (Nat.le_of_ble_eq_true rfl) (Nat.le_of_ble_eq_true rfl) (Nat.le_of_ble_eq_true rfl) wk_X0_46 wm_ac1 wm_ac2 wm_ac3 hl.1 (Nat.le_of_ble_eq_true rfl) (Nat.le_of_ble_eq_true rfl) dX0_copyFrom_148 (fun H locs hP hS => ?_)
  cases hf
  exact zr_vret X hr hP hS rfl dX0_copyFrom_151
set_option maxHeartbeats 4000000 in
set_option maxRecDepth 100000 in
theorem ct_X0_add {g : zb_G} {nc : Nat} (hnI : 306 ≤ nc) (l : Launch) {b : Nat} (hB : zb_isB b) {a1 : Int32} {a2 : Int32} {a3 : Int32} {a4 : Int32} {I J O : Mem} {Iq : Mem} (hf : fX0_add b a1 a2 a3 a4 I = some Iq) : zb_Ct l g nc yX0_add cX0_add 5 none 0 0 [.ref (g.2.2 + (b + 1)), .int a1, .int a2, .int a3, .int a4] (zb_ce g I J O) none (zb_ce g Iq J O) := by
  refine zb_ofW (own := RX0) (by decide +kernel) rfl (Nat.le_of_ble_eq_true rfl) ?_
  intro p e s m args below meth c ls X hr hP hl
  have hx := X.1.1
  have hb := X.1.2.1
  have ho := X.1.2.2.2.1
  have hts := X.1.2.2.2.2
  have hZ := X.2.2.2
  have hl : lv_has ls 5 [(0, .ref (g.2.2 + (b + 1))), (1, .int a1), (2, .int a2), (3, .int a3), (4, .int a4)] := hl
  have hS : va_S (zb_A g) s.heap s.heap [] := va_S.rf
  obtain ⟨H, hH⟩ : ∃ H, H = s.heap := ⟨_, rfl⟩
  obtain ⟨locs, hlocs⟩ : ∃ z : List Loc, z = [] := ⟨_, rfl⟩
  rw [← hH] at hP
  have hS : va_S (zb_A g) s.heap H locs := by rw [hH, hlocs]; exact hS
  show W p l e _ s m args below meth c s.heap [] 0 0 _ _
  rw [← hH, ← hlocs]
  rw [fX0_add] at hf
  refine lv_aload_n hx hb dX0_add_0 rfl (lv_at hl 0 rfl) ?_
  refine gf_X0_9 X hnI hP (zb_bk (j := 1) hB (by decide) rfl) dX0_add_1 ?_
  refine lv_bipush (v := (10 : Int32)) hx hb dX0_add_4 (by decide) ?_
  refine lv_icmp_lt (tgt := 10) hx hb dX0_add_6 (by decide) (fun hc => ?_) (fun hc => ?_)
  · have hf := if_t hc hf
    refine lv_aload_n hx hb dX0_add_10 rfl (lv_at hl 0 rfl) ?_
    refine gf_X0_18 X hnI hP (zb_bk (j := 1) hB (by decide) rfl) dX0_add_11 ?_
    refine lv_aload_n hx hb dX0_add_14 rfl (lv_at hl 0 rfl) ?_
    refine gf_X0_9 X hnI hP (zb_bk (j := 1) hB (by decide) rfl) dX0_add_15 ?_
    refine lv_iload_n hx hb dX0_add_18 rfl (lv_at hl 1 rfl) ?_
    obtain ⟨I1, hI1, hf⟩ := ob_e hf
    refine zr_astI X hP hS hnI (zb_bk (j := 2) hB (by decide) rfl) hI1 dX0_add_19 (fun H locs hP hS => ?_)
    refine lv_aload_n hx hb dX0_add_20 rfl (lv_at hl 0 rfl) ?_
    refine gf_X0_22 X hnI hP (zb_bk (j := 1) hB (by decide) rfl) dX0_add_21 ?_
    refine lv_aload_n hx hb dX0_add_24 rfl (lv_at hl 0 rfl) ?_
    refine gf_X0_9 X hnI hP (zb_bk (j := 1) hB (by decide) rfl) dX0_add_25 ?_
    refine lv_iload_n hx hb dX0_add_28 rfl (lv_at hl 2 rfl) ?_
    obtain ⟨I2, hI2, hf⟩ := ob_e hf
    refine zr_astI X hP hS hnI (zb_bk (j := 3) hB (by decide) rfl) hI2 dX0_add_29 (fun H locs hP hS => ?_)
    refine lv_aload_n hx hb dX0_add_30 rfl (lv_at hl 0 rfl) ?_
    refine gf_X0_25 X hnI hP (zb_bk (j := 1) hB (by decide) rfl) dX0_add_31 ?_
    refine lv_aload_n hx hb dX0_add_34 rfl (lv_at hl 0 rfl) ?_
    refine gf_X0_9 X hnI hP (zb_bk (j := 1) hB (by decide) rfl) dX0_add_35 ?_
    refine lv_iload_n hx hb dX0_add_38 rfl (lv_at hl 3 rfl) ?_
    obtain ⟨I3, hI3, hf⟩ := ob_e hf
    refine zr_astI X hP hS hnI (zb_bk (j := 4) hB (by decide) rfl) hI3 dX0_add_39 (fun H locs hP hS => ?_)
    refine lv_aload_n hx hb dX0_add_40 rfl (lv_at hl 0 rfl) ?_
    refine gf_X0_28 X hnI hP (zb_bk (j := 1) hB (by decide) rfl) dX0_add_41 ?_
    refine lv_aload_n hx hb dX0_add_44 rfl (lv_at hl 0 rfl) ?_
    refine gf_X0_9 X hnI hP (zb_bk (j := 1) hB (by decide) rfl) dX0_add_45 ?_
    refine lv_iload hx hb dX0_add_48 (lv_at hl 4 rfl) ?_
    obtain ⟨I4, hI4, hf⟩ := ob_e hf
    refine zr_astI X hP hS hnI (zb_bk (j := 5) hB (by decide) rfl) hI4 dX0_add_50 (fun H locs hP hS => ?_)
    refine lv_aload_n hx hb dX0_add_51 rfl (lv_at hl 0 rfl) ?_
    refine gf_X0_31 X hnI hP (zb_bk (j := 1) hB (by decide) rfl) dX0_add_52 ?_
    refine lv_aload_n hx hb dX0_add_55 rfl (lv_at hl 0 rfl) ?_
    refine gf_X0_9 X hnI hP (zb_bk (j := 1) hB (by decide) rfl) dX0_add_56 ?_
    refine lv_iconst (v := (0 : Int32)) hx hb dX0_add_59 (by decide) ?_
    obtain ⟨I5, hI5, hf⟩ := ob_e hf
    refine zr_astI X hP hS hnI (zb_bk (j := 6) hB (by decide) rfl) hI5 dX0_add_60 (fun H locs hP hS => ?_)
    refine lv_aload_n hx hb dX0_add_61 rfl (lv_at hl 0 rfl) ?_
    refine gf_X0_34 X hnI hP (zb_bk (j := 1) hB (by decide) rfl) dX0_add_62 ?_
    refine lv_aload_n hx hb dX0_add_65 rfl (lv_at hl 0 rfl) ?_
    refine gf_X0_9 X hnI hP (zb_bk (j := 1) hB (by decide) rfl) dX0_add_66 ?_
    refine lv_iconst (v := (0 : Int32)) hx hb dX0_add_69 (by decide) ?_
    obtain ⟨I6, hI6, hf⟩ := ob_e hf
    refine zr_astI X hP hS hnI (zb_bk (j := 7) hB (by decide) rfl) hI6 dX0_add_70 (fun H locs hP hS => ?_)
    refine lv_aload_n hx hb dX0_add_71 rfl (lv_at hl 0 rfl) ?_
    refine gf_X0_37 X hnI hP (zb_bk (j := 1) hB (by decide) rfl) dX0_add_72 ?_
    refine lv_aload_n hx hb dX0_add_75 rfl (lv_at hl 0 rfl) ?_
    refine gf_X0_9 X hnI hP (zb_bk (j := 1) hB (by decide) rfl) dX0_add_76 ?_
    refine lv_iconst (v := (0 : Int32)) hx hb dX0_add_79 (by decide) ?_
    obtain ⟨I7, hI7, hf⟩ := ob_e hf
    refine zr_astI X hP hS hnI (zb_bk (j := 8) hB (by decide) rfl) hI7 dX0_add_80 (fun H locs hP hS => ?_)
    refine lv_aload_n hx hb dX0_add_81 rfl (lv_at hl 0 rfl) ?_
    refine gf_X0_40 X hnI hP (zb_bk (j := 1) hB (by decide) rfl) dX0_add_82 ?_
    refine lv_aload_n hx hb dX0_add_85 rfl (lv_at hl 0 rfl) ?_
    refine gf_X0_9 X hnI hP (zb_bk (j := 1) hB (by decide) rfl) dX0_add_86 ?_
    refine lv_iconst (v := (-1 : Int32)) hx hb dX0_add_89 (by decide) ?_
    obtain ⟨I8, hI8, hf⟩ := ob_e hf
    refine zr_astI X hP hS hnI (zb_bk (j := 9) hB (by decide) rfl) hI8 dX0_add_90 (fun H locs hP hS => ?_)
    refine lv_aload_n hx hb dX0_add_91 rfl (lv_at hl 0 rfl) ?_
    refine gf_X0_43 X hnI hP (zb_bk (j := 1) hB (by decide) rfl) dX0_add_92 ?_
    refine lv_aload_n hx hb dX0_add_95 rfl (lv_at hl 0 rfl) ?_
    refine gf_X0_9 X hnI hP (zb_bk (j := 1) hB (by decide) rfl) dX0_add_96 ?_
    refine lv_iconst (v := (0 : Int32)) hx hb dX0_add_99 (by decide) ?_
    obtain ⟨I9, hI9, hf⟩ := ob_e hf
    refine zr_astI X hP hS hnI (zb_bk (j := 10) hB (by decide) rfl) hI9 dX0_add_100 (fun H locs hP hS => ?_)
    refine lv_aload_n hx hb dX0_add_101 rfl (lv_at hl 0 rfl) ?_
    refine lv_dup hx hb dX0_add_102 rfl ?_
    refine gf_X0_9 X hnI hP (zb_bk (j := 1) hB (by decide) rfl) dX0_add_103 ?_
    refine lv_iconst (v := (1 : Int32)) hx hb dX0_add_106 (by decide) ?_
    refine lv_iadd hx hb dX0_add_107 ?_
    refine pf_X0_9 X hnI hP hS (zb_bk (j := 1) hB (by decide) rfl) dX0_add_108 (fun H locs hP hS => ?_)
    cases hf
    exact zr_vret X hr hP hS rfl dX0_add_111
  · have hf := if_f hc hf
    cases hf
    exact zr_vret X hr hP hS rfl dX0_add_9
set_option maxHeartbeats 4000000 in
set_option maxRecDepth 100000 in
theorem ct_X0_lastHome {g : zb_G} {nc : Nat} (hnI : 306 ≤ nc) (l : Launch) {b : Nat} (hB : zb_isB b) {I J O : Mem} {r9 : Int32} (hf : fX0_lastHome b I = some r9) : zb_Ct l g nc yX0_lastHome cX0_lastHome 1 (some .int) 0 0 [.ref (g.2.2 + (b + 1))] (zb_ce g I J O) (some (.int r9)) (zb_ce g I J O) := by
  refine zb_ofW (own := RX0) (by decide +kernel) rfl (Nat.le_of_ble_eq_true rfl) ?_
  intro p e s m args below meth c ls X hr hP hl
  have hx := X.1.1
  have hb := X.1.2.1
  have ho := X.1.2.2.2.1
  have hts := X.1.2.2.2.2
  have hZ := X.2.2.2
  have hl : lv_has ls 1 [(0, .ref (g.2.2 + (b + 1)))] := hl
  have hS : va_S (zb_A g) s.heap s.heap [] := va_S.rf
  obtain ⟨H, hH⟩ : ∃ H, H = s.heap := ⟨_, rfl⟩
  obtain ⟨locs, hlocs⟩ : ∃ z : List Loc, z = [] := ⟨_, rfl⟩
  rw [← hH] at hP
  have hS : va_S (zb_A g) s.heap H locs := by rw [hH, hlocs]; exact hS
  show W p l e _ s m args below meth c s.heap [] 0 0 _ _
  rw [← hH, ← hlocs]
  rw [fX0_lastHome] at hf
  refine lv_aload_n hx hb dX0_lastHome_0 rfl (lv_at hl 0 rfl) ?_
  refine gf_X0_9 X hnI hP (zb_bk (j := 1) hB (by decide) rfl) dX0_lastHome_1 ?_
  obtain ⟨x2, ht, hf⟩ := ob_e hf
  have K1 : ∀ (H : Heap) (locs : List Loc) (ls : Array Slot), va_P g.1 vwCl (zb_ws g nc (zb_ce g I J O)) H → va_S (zb_A g) s.heap H locs → lv_has ls 1 [] → W p l e { frames := 0, cells := 0, slots := 0, locals := 0 } s m args below meth c H locs 0 0 (MQ below (zb_Po g nc (zb_ce g I J O) (some (.int r9))) args s 0 0 (zb_A g)) (F0 m 22 ls [.int x2]) := by
    intro H locs ls hP hS hl
    cases hf
    exact zr_iret X hr hP hS dX0_lastHome_22
  have hf := ht
  refine lv_if_le (tgt := 21) hx hb dX0_lastHome_4 (by decide) (fun hc => ?_) (fun hc => ?_)
  · have hf := if_t hc hf
    refine lv_iconst (v := (-1 : Int32)) hx hb dX0_lastHome_21 (by decide) ?_
    cases hf
    exact K1 H locs ls hP hS (lv_sub hl [] rfl)
  · have hf := if_f hc hf
    refine lv_aload_n hx hb dX0_lastHome_7 rfl (lv_at hl 0 rfl) ?_
    refine gf_X0_18 X hnI hP (zb_bk (j := 1) hB (by decide) rfl) dX0_lastHome_8 ?_
    refine lv_aload_n hx hb dX0_lastHome_11 rfl (lv_at hl 0 rfl) ?_
    refine gf_X0_9 X hnI hP (zb_bk (j := 1) hB (by decide) rfl) dX0_lastHome_12 ?_
    refine lv_iconst (v := (1 : Int32)) hx hb dX0_lastHome_15 (by decide) ?_
    refine lv_isub hx hb dX0_lastHome_16 ?_
    obtain ⟨x1, hx1, hf⟩ := ob_e hf
    refine zr_aldI X hP hnI (zb_bk (j := 2) hB (by decide) rfl) hx1 dX0_lastHome_17 ?_
    refine lv_goto (tgt := 22) hx hb dX0_lastHome_18 (by decide) ?_
    cases hf
    exact K1 H locs ls hP hS (lv_sub hl [] rfl)
set_option maxHeartbeats 4000000 in
set_option maxRecDepth 100000 in
theorem ct_X0_distanceBehind {g : zb_G} {nc : Nat} (hnI : 306 ≤ nc) (l : Launch) {b : Nat} (hB : zb_isB b) {a1 : Int32} {I J O : Mem} {r9 : Int32} (hf : fX0_distanceBehind b a1 I = some r9) : zb_Ct l g nc yX0_distanceBehind cX0_distanceBehind 2 (some .int) 0 0 [.ref (g.2.2 + (b + 1)), .int a1] (zb_ce g I J O) (some (.int r9)) (zb_ce g I J O) := by
  refine zb_ofW (own := RX0) (by decide +kernel) rfl (Nat.le_of_ble_eq_true rfl) ?_
  intro p e s m args below meth c ls X hr hP hl
  have hx := X.1.1
  have hb := X.1.2.1
  have ho := X.1.2.2.2.1
  have hts := X.1.2.2.2.2
  have hZ := X.2.2.2
  have hl : lv_has ls 2 [(0, .ref (g.2.2 + (b + 1))), (1, .int a1)] := hl
  have hS : va_S (zb_A g) s.heap s.heap [] := va_S.rf
  obtain ⟨H, hH⟩ : ∃ H, H = s.heap := ⟨_, rfl⟩
  obtain ⟨locs, hlocs⟩ : ∃ z : List Loc, z = [] := ⟨_, rfl⟩
  rw [← hH] at hP
  have hS : va_S (zb_A g) s.heap H locs := by rw [hH, hlocs]; exact hS
  show W p l e _ s m args below meth c s.heap [] 0 0 _ _
  rw [← hH, ← hlocs]
  rw [fX0_distanceBehind] at hf
  refine lv_iload_n hx hb dX0_distanceBehind_0 rfl (lv_at hl 1 rfl) ?_
  obtain ⟨x3, ht, hf⟩ := ob_e hf
  have K1 : ∀ (H : Heap) (locs : List Loc) (ls : Array Slot), va_P g.1 vwCl (zb_ws g nc (zb_ce g I J O)) H → va_S (zb_A g) s.heap H locs → lv_has ls 2 [] → W p l e { frames := 0, cells := 0, slots := 0, locals := 0 } s m args below meth c H locs 0 0 (MQ below (zb_Po g nc (zb_ce g I J O) (some (.int r9))) args s 0 0 (zb_A g)) (F0 m 33 ls [.int x3]) := by
    intro H locs ls hP hS hl
    cases hf
    exact zr_iret X hr hP hS dX0_distanceBehind_33
  have hf := ht
  refine lv_if_lt (tgt := 32) hx hb dX0_distanceBehind_1 (by decide) (fun hc => ?_) (fun hc => ?_)
  · have hf := if_t hc hf
    refine lv_iconst (v := (0 : Int32)) hx hb dX0_distanceBehind_32 (by decide) ?_
    cases hf
    exact K1 H locs ls hP hS (lv_sub hl [] rfl)
  · have hf := if_f hc hf
    refine lv_iload_n hx hb dX0_distanceBehind_4 rfl (lv_at hl 1 rfl) ?_
    refine lv_iconst (v := (1 : Int32)) hx hb dX0_distanceBehind_5 (by decide) ?_
    refine lv_iadd hx hb dX0_distanceBehind_6 ?_
    refine lv_aload_n hx hb dX0_distanceBehind_7 rfl (lv_at hl 0 rfl) ?_
    refine gf_X0_9 X hnI hP (zb_bk (j := 1) hB (by decide) rfl) dX0_distanceBehind_8 ?_
    refine lv_icmp_ge (tgt := 32) hx hb dX0_distanceBehind_11 (by decide) (fun hc => ?_) (fun hc => ?_)
    · have hf := if_t hc hf
      refine lv_iconst (v := (0 : Int32)) hx hb dX0_distanceBehind_32 (by decide) ?_
      cases hf
      exact K1 H locs ls hP hS (lv_sub hl [] rfl)
    · have hf := if_f hc hf
      refine lv_aload_n hx hb dX0_distanceBehind_14 rfl (lv_at hl 0 rfl) ?_
      refine gf_X0_18 X hnI hP (zb_bk (j := 1) hB (by decide) rfl) dX0_distanceBehind_15 ?_
      refine lv_iload_n hx hb dX0_distanceBehind_18 rfl (lv_at hl 1 rfl) ?_
      refine lv_iconst (v := (1 : Int32)) hx hb dX0_distanceBehind_19 (by decide) ?_
      refine lv_iadd hx hb dX0_distanceBehind_20 ?_
      obtain ⟨x1, hx1, hf⟩ := ob_e hf
      refine zr_aldI X hP hnI (zb_bk (j := 2) hB (by decide) rfl) hx1 dX0_distanceBehind_21 ?_
      refine lv_aload_n hx hb dX0_distanceBehind_22 rfl (lv_at hl 0 rfl) ?_
      refine gf_X0_18 X hnI hP (zb_bk (j := 1) hB (by decide) rfl) dX0_distanceBehind_23 ?_
      refine lv_iload_n hx hb dX0_distanceBehind_26 rfl (lv_at hl 1 rfl) ?_
      obtain ⟨x2, hx2, hf⟩ := ob_e hf
      refine zr_aldI X hP hnI (zb_bk (j := 2) hB (by decide) rfl) hx2 dX0_distanceBehind_27 ?_
      refine lv_isub hx hb dX0_distanceBehind_28 ?_
      refine lv_goto (tgt := 33) hx hb dX0_distanceBehind_29 (by decide) ?_
      cases hf
      exact K1 H locs ls hP hS (lv_sub hl [] rfl)
set_option maxHeartbeats 4000000 in
set_option maxRecDepth 100000 in
theorem lpX0_membersIn_L4 {g : zb_G} {nc : Nat} (hnI : 306 ≤ nc) (l : Launch) {b : Nat} (hB : zb_isB b) {a1 : Int32} {J O : Mem} {p : Program} {e : Env} {s : State} {m : MethodId} {args : Array Value} {below : List Frame} {meth : Method} {c : Code} {Q : State → Prop} (X : zb_X g p m c cX0_membersIn 4 s args RX0 meth) : ∀ {n9 : Nat} {a3 : Int32} {a2 : Int32} {I : Mem} {z2 : Int32} {H : Heap} {locs : List Loc} {ls : Array Slot}, fX0_membersIn_L4 b a1 n9 a3 a2 I = some z2 → (∀ (H : Heap) (locs : List Loc) (ls : Array Slot), va_P g.1 vwCl (zb_ws g nc (zb_ce g I J O)) H → va_S (zb_A g) s.heap H locs → lv_has ls 4 [(2, .int z2)] → W p l e { frames := 0, cells := 0, slots := 0, locals := 0 } s m args below meth c H locs 0 0 Q (F0 m 34 ls [])) → va_P g.1 vwCl (zb_ws g nc (zb_ce g I J O)) H → va_S (zb_A g) s.heap H locs → lv_has ls 4 [(3, .int a3), (2, .int a2), (0, .ref (g.2.2 + (b + 1))), (1, .int a1)] → W p l e { frames := 0, cells := 0, slots := 0, locals := 0 } s m args below meth c H locs 0 0 Q (F0 m 4 ls []) := by
  have hx := X.1.1
  have hb := X.1.2.1
  have ho := X.1.2.2.2.1
  have hts := X.1.2.2.2.2
  have hZ := X.2.2.2
  intro n9
  induction n9 with
  | zero =>
    intro a3 a2 I z2 H locs ls hf
    exact nomatch hf
  | succ n9 ih =>
    intro a3 a2 I z2 H locs ls hf KK hP hS hl
    rw [fX0_membersIn_L4] at hf
    refine lv_iload_n hx hb dX0_membersIn_4 rfl (lv_at hl 0 rfl) ?_
    refine lv_aload_n hx hb dX0_membersIn_5 rfl (lv_at hl 2 rfl) ?_
    refine gf_X0_9 X hnI hP (zb_bk (j := 1) hB (by decide) rfl) dX0_membersIn_6 ?_
    refine lv_icmp_ge (tgt := 34) hx hb dX0_membersIn_9 (by decide) (fun hc => ?_) (fun hc => ?_)
    · have hf := if_t hc hf
      cases hf
      exact KK H locs ls hP hS (lv_sub hl [1] rfl)
    · have hf := if_f hc hf
      refine lv_aload_n hx hb dX0_membersIn_12 rfl (lv_at hl 2 rfl) ?_
      refine gf_X0_31 X hnI hP (zb_bk (j := 1) hB (by decide) rfl) dX0_membersIn_13 ?_
      refine lv_iload_n hx hb dX0_membersIn_16 rfl (lv_at hl 0 rfl) ?_
      obtain ⟨x1, hx1, hf⟩ := ob_e hf
      refine zr_aldI X hP hnI (zb_bk (j := 6) hB (by decide) rfl) hx1 dX0_membersIn_17 ?_
      refine lv_iload_n hx hb dX0_membersIn_18 rfl (lv_at hl 3 rfl) ?_
      obtain ⟨x2, ht, hf⟩ := pl_e hf
      have K1 : ∀ (H : Heap) (locs : List Loc) (ls : Array Slot), va_P g.1 vwCl (zb_ws g nc (zb_ce g I J O)) H → va_S (zb_A g) s.heap H locs → lv_has ls 4 [(3, .int a3), (2, .int x2), (0, .ref (g.2.2 + (b + 1))), (1, .int a1)] → W p l e { frames := 0, cells := 0, slots := 0, locals := 0 } s m args below meth c H locs 0 0 Q (F0 m 28 ls []) := by
        intro H locs ls hP hS hl
        refine lv_iinc (v := (a3 + (1 : Int32))) (lv' := [(3, .int (a3 + (1 : Int32))), (2, .int x2), (0, .ref (g.2.2 + (b + 1))), (1, .int a1)]) hx hb dX0_membersIn_28 hl (k := 0) rfl rfl (by decide) rfl (fun ls hl => ?_)
        refine lv_goto (tgt := 4) hx hb dX0_membersIn_31 (by decide) ?_
        exact ih hf KK hP hS (lv_sub hl [0, 1, 2, 3] rfl)
      have hf := ht
      refine lv_icmp_ne (tgt := 28) hx hb dX0_membersIn_19 (by decide) (fun hc => ?_) (fun hc => ?_)
      · have hf := if_f hc hf
        cases hf
        exact K1 H locs ls hP hS (lv_sub hl [0, 1, 2, 3] rfl)
      · have hf := if_t hc hf
        refine lv_iload_n hx hb dX0_membersIn_22 rfl (lv_at hl 1 rfl) ?_
        refine lv_iconst (v := (1 : Int32)) hx hb dX0_membersIn_23 (by decide) ?_
        refine lv_iload_n hx hb dX0_membersIn_24 rfl (lv_at hl 0 rfl) ?_
        refine lv_ishl hx hb dX0_membersIn_25 ?_
        refine lv_ior hx hb dX0_membersIn_26 ?_
        refine lv_istore_n (lv' := [(2, .int (a2 ||| ((1 : Int32) <<< (a3 &&& 31)))), (3, .int a3), (0, .ref (g.2.2 + (b + 1))), (1, .int a1)]) hx hb dX0_membersIn_27 rfl hl (by decide) rfl (fun ls hl => ?_)
        cases hf
        exact K1 H locs ls hP hS (lv_sub hl [1, 0, 2, 3] rfl)
set_option maxHeartbeats 4000000 in
set_option maxRecDepth 100000 in
theorem ct_X0_membersIn {g : zb_G} {nc : Nat} (hnI : 306 ≤ nc) (l : Launch) {b : Nat} (hB : zb_isB b) {a1 : Int32} {I J O : Mem} {r9 : Int32} (hf : fX0_membersIn b a1 I = some r9) : zb_Ct l g nc yX0_membersIn cX0_membersIn 4 (some .int) 0 0 [.ref (g.2.2 + (b + 1)), .int a1] (zb_ce g I J O) (some (.int r9)) (zb_ce g I J O) := by
  refine zb_ofW (own := RX0) (by decide +kernel) rfl (Nat.le_of_ble_eq_true rfl) ?_
  intro p e s m args below meth c ls X hr hP hl
  have hx := X.1.1
  have hb := X.1.2.1
  have ho := X.1.2.2.2.1
  have hts := X.1.2.2.2.2
  have hZ := X.2.2.2
  have hl : lv_has ls 4 [(0, .ref (g.2.2 + (b + 1))), (1, .int a1)] := hl
  have hS : va_S (zb_A g) s.heap s.heap [] := va_S.rf
  obtain ⟨H, hH⟩ : ∃ H, H = s.heap := ⟨_, rfl⟩
  obtain ⟨locs, hlocs⟩ : ∃ z : List Loc, z = [] := ⟨_, rfl⟩
  rw [← hH] at hP
  have hS : va_S (zb_A g) s.heap H locs := by rw [hH, hlocs]; exact hS
  show W p l e _ s m args below meth c s.heap [] 0 0 _ _
  rw [← hH, ← hlocs]
  rw [fX0_membersIn] at hf
  refine lv_iconst (v := (0 : Int32)) hx hb dX0_membersIn_0 (by decide) ?_
  refine lv_istore_n (lv' := [(2, .int (0 : Int32)), (0, .ref (g.2.2 + (b + 1))), (1, .int a1)]) hx hb dX0_membersIn_1 rfl hl (by decide) rfl (fun ls hl => ?_)
  refine lv_iconst (v := (0 : Int32)) hx hb dX0_membersIn_2 (by decide) ?_
  refine lv_istore_n (lv' := [(3, .int (0 : Int32)), (2, .int (0 : Int32)), (0, .ref (g.2.2 + (b + 1))), (1, .int a1)]) hx hb dX0_membersIn_3 rfl hl (by decide) rfl (fun ls hl => ?_)
  obtain ⟨x3, hx3, hf⟩ := ob_e hf
  have K2 : ∀ (H : Heap) (locs : List Loc) (ls : Array Slot), va_P g.1 vwCl (zb_ws g nc (zb_ce g I J O)) H → va_S (zb_A g) s.heap H locs → lv_has ls 4 [(2, .int x3)] → W p l e { frames := 0, cells := 0, slots := 0, locals := 0 } s m args below meth c H locs 0 0 (MQ below (zb_Po g nc (zb_ce g I J O) (some (.int r9))) args s 0 0 (zb_A g)) (F0 m 34 ls []) := by
    intro H locs ls hP hS hl
    refine lv_iload_n hx hb dX0_membersIn_34 rfl (lv_at hl 0 rfl) ?_
    cases hf
    exact zr_iret X hr hP hS dX0_membersIn_35
  exact lpX0_membersIn_L4 hnI l hB X hx3 K2 hP hS (lv_sub hl [0, 1, 2, 3] rfl)
set_option maxHeartbeats 4000000 in
set_option maxRecDepth 100000 in
theorem ct_X7_has {g : zb_G} {nc : Nat} (l : Launch) {a0 : Int32} {a1 : Int32} {I J O : Mem} {r9 : Int32} (hf : fX7_has a0 a1 = some r9) : zb_Ct l g nc yX7_has cX7_has 2 (some .boolean) 0 0 [.int a0, .int a1] (zb_ce g I J O) (some (.int r9)) (zb_ce g I J O) := by
  refine zb_ofW (own := RX7) (by decide +kernel) rfl (Nat.le_of_ble_eq_true rfl) ?_
  intro p e s m args below meth c ls X hr hP hl
  have hx := X.1.1
  have hb := X.1.2.1
  have ho := X.1.2.2.2.1
  have hts := X.1.2.2.2.2
  have hZ := X.2.2.2
  have hl : lv_has ls 2 [(0, .int a0), (1, .int a1)] := hl
  have hS : va_S (zb_A g) s.heap s.heap [] := va_S.rf
  obtain ⟨H, hH⟩ : ∃ H, H = s.heap := ⟨_, rfl⟩
  obtain ⟨locs, hlocs⟩ : ∃ z : List Loc, z = [] := ⟨_, rfl⟩
  rw [← hH] at hP
  have hS : va_S (zb_A g) s.heap H locs := by rw [hH, hlocs]; exact hS
  show W p l e _ s m args below meth c s.heap [] 0 0 _ _
  rw [← hH, ← hlocs]
  rw [fX7_has] at hf
  refine lv_iload_n hx hb dX7_has_0 rfl (lv_at hl 0 rfl) ?_
  refine lv_iload_n hx hb dX7_has_1 rfl (lv_at hl 1 rfl) ?_
  refine lv_ishr hx hb dX7_has_2 ?_
  refine lv_iconst (v := (1 : Int32)) hx hb dX7_has_3 (by decide) ?_
  refine lv_iand hx hb dX7_has_4 ?_
  refine lv_iconst (v := (1 : Int32)) hx hb dX7_has_5 (by decide) ?_
  obtain ⟨x1, ht, hf⟩ := pl_e hf
  have K1 : ∀ (H : Heap) (locs : List Loc) (ls : Array Slot), va_P g.1 vwCl (zb_ws g nc (zb_ce g I J O)) H → va_S (zb_A g) s.heap H locs → lv_has ls 2 [] → W p l e { frames := 0, cells := 0, slots := 0, locals := 0 } s m args below meth c H locs 0 0 (MQ below (zb_Po g nc (zb_ce g I J O) (some (.int r9))) args s 0 0 (zb_A g)) (F0 m 14 ls [.int x1]) := by
    intro H locs ls hP hS hl
    obtain ⟨v9, hv9, hf⟩ := ob_e hf
    obtain ⟨hn9, he9⟩ := zbo_e hv9
    cases hf
    cases he9
    exact zr_zret X hr hn9 hP hS dX7_has_14
  have hf := ht
  refine lv_icmp_ne (tgt := 13) hx hb dX7_has_6 (by decide) (fun hc => ?_) (fun hc => ?_)
  · have hf := if_f hc hf
    refine lv_iconst (v := (0 : Int32)) hx hb dX7_has_13 (by decide) ?_
    cases hf
    exact K1 H locs ls hP hS (lv_sub hl [] rfl)
  · have hf := if_t hc hf
    refine lv_iconst (v := (1 : Int32)) hx hb dX7_has_9 (by decide) ?_
    refine lv_goto (tgt := 14) hx hb dX7_has_10 (by decide) ?_
    cases hf
    exact K1 H locs ls hP hS (lv_sub hl [] rfl)
set_option maxHeartbeats 4000000 in
set_option maxRecDepth 100000 in
theorem lpX0_votesOf_L4 {g : zb_G} {nc : Nat} (hnI : 306 ≤ nc) (l : Launch) {b : Nat} (hB : zb_isB b) {a1 : Int32} {J O : Mem} {p : Program} {e : Env} {s : State} {m : MethodId} {args : Array Value} {below : List Frame} {meth : Method} {c : Code} {Q : State → Prop} (X : zb_X g p m c cX0_votesOf 4 s args RX0 meth) : ∀ {n9 : Nat} {a3 : Int32} {a2 : Int32} {I : Mem} {z2 : Int32} {H : Heap} {locs : List Loc} {ls : Array Slot}, fX0_votesOf_L4 b a1 n9 a3 a2 I = some z2 → (∀ (H : Heap) (locs : List Loc) (ls : Array Slot), va_P g.1 vwCl (zb_ws g nc (zb_ce g I J O)) H → va_S (zb_A g) s.heap H locs → lv_has ls 4 [(2, .int z2)] → W p l e { frames := 1, cells := 0, slots := 0, locals := 21 } s m args below meth c H locs 0 0 Q (F0 m 35 ls [])) → va_P g.1 vwCl (zb_ws g nc (zb_ce g I J O)) H → va_S (zb_A g) s.heap H locs → lv_has ls 4 [(3, .int a3), (2, .int a2), (0, .ref (g.2.2 + (b + 1))), (1, .int a1)] → W p l e { frames := 1, cells := 0, slots := 0, locals := 21 } s m args below meth c H locs 0 0 Q (F0 m 4 ls []) := by
  have hx := X.1.1
  have hb := X.1.2.1
  have ho := X.1.2.2.2.1
  have hts := X.1.2.2.2.2
  have hZ := X.2.2.2
  intro n9
  induction n9 with
  | zero =>
    intro a3 a2 I z2 H locs ls hf
    exact nomatch hf
  | succ n9 ih =>
    intro a3 a2 I z2 H locs ls hf KK hP hS hl
    rw [fX0_votesOf_L4] at hf
    refine lv_iload_n hx hb dX0_votesOf_4 rfl (lv_at hl 0 rfl) ?_
    refine lv_aload_n hx hb dX0_votesOf_5 rfl (lv_at hl 2 rfl) ?_
    refine gf_X0_9 X hnI hP (zb_bk (j := 1) hB (by decide) rfl) dX0_votesOf_6 ?_
    refine lv_icmp_ge (tgt := 35) hx hb dX0_votesOf_9 (by decide) (fun hc => ?_) (fun hc => ?_)
    · have hf := if_t hc hf
      cases hf
      exact KK H locs ls hP hS (lv_sub hl [1] rfl)
    · have hf := if_f hc hf
      refine lv_iload_n hx hb dX0_votesOf_12 rfl (lv_at hl 3 rfl) ?_
      refine lv_iload_n hx hb dX0_votesOf_13 rfl (lv_at hl 0 rfl) ?_
      obtain ⟨x1, hx1, hf⟩ := ob_e hf
      refine zr_cNi (rest := []) (As := [.int a1, .int a3]) X hP hS (ct_X7_has (g := g) (nc := nc) (I := I) (J := J) (O := O)  l  hx1) cw_X0_52  rfl hl.1 (Nat.le_of_ble_eq_true rfl) ⟨Nat.le_of_ble_eq_true rfl, Nat.le_of_ble_eq_true rfl⟩ ⟨Nat.le_of_ble_eq_true rfl, Nat.le_of_ble_eq_true rfl⟩ dX0_votesOf_14 rfl (fun H locs hP hS => ?_)
      obtain ⟨x3, ht, hf⟩ := ob_e hf
      have K1 : ∀ (H : Heap) (locs : List Loc) (ls : Array Slot), va_P g.1 vwCl (zb_ws g nc (zb_ce g I J O)) H → va_S (zb_A g) s.heap H locs → lv_has ls 4 [(3, .int a3), (2, .int x3), (0, .ref (g.2.2 + (b + 1))), (1, .int a1)] → W p l e { frames := 1, cells := 0, slots := 0, locals := 21 } s m args below meth c H locs 0 0 Q (F0 m 29 ls []) := by
        intro H locs ls hP hS hl
        refine lv_iinc (v := (a3 + (1 : Int32))) (lv' := [(3, .int (a3 + (1 : Int32))), (2, .int x3), (0, .ref (g.2.2 + (b + 1))), (1, .int a1)]) hx hb dX0_votesOf_29 hl (k := 0) rfl rfl (by decide) rfl (fun ls hl => ?_)
        refine lv_goto (tgt := 4) hx hb dX0_votesOf_32 (by decide) ?_
        exact ih hf KK hP hS (lv_sub hl [0, 1, 2, 3] rfl)
      have hf := ht
      refine lv_if_eq (tgt := 29) hx hb dX0_votesOf_17 (by decide) (fun hc => ?_) (fun hc => ?_)
      · have hf := if_t hc hf
        cases hf
        exact K1 H locs ls hP hS (lv_sub hl [0, 1, 2, 3] rfl)
      · have hf := if_f hc hf
        refine lv_iload_n hx hb dX0_votesOf_20 rfl (lv_at hl 1 rfl) ?_
        refine lv_aload_n hx hb dX0_votesOf_21 rfl (lv_at hl 2 rfl) ?_
        refine gf_X0_22 X hnI hP (zb_bk (j := 1) hB (by decide) rfl) dX0_votesOf_22 ?_
        refine lv_iload_n hx hb dX0_votesOf_25 rfl (lv_at hl 0 rfl) ?_
        obtain ⟨x2, hx2, hf⟩ := ob_e hf
        refine zr_aldI X hP hnI (zb_bk (j := 3) hB (by decide) rfl) hx2 dX0_votesOf_26 ?_
        refine lv_iadd hx hb dX0_votesOf_27 ?_
        refine lv_istore_n (lv' := [(2, .int (a2 + x2)), (3, .int a3), (0, .ref (g.2.2 + (b + 1))), (1, .int a1)]) hx hb dX0_votesOf_28 rfl hl (by decide) rfl (fun ls hl => ?_)
        cases hf
        exact K1 H locs ls hP hS (lv_sub hl [1, 0, 2, 3] rfl)
set_option maxHeartbeats 4000000 in
set_option maxRecDepth 100000 in
theorem ct_X0_votesOf {g : zb_G} {nc : Nat} (hnI : 306 ≤ nc) (l : Launch) {b : Nat} (hB : zb_isB b) {a1 : Int32} {I J O : Mem} {r9 : Int32} (hf : fX0_votesOf b a1 I = some r9) : zb_Ct l g nc yX0_votesOf cX0_votesOf 4 (some .int) 1 21 [.ref (g.2.2 + (b + 1)), .int a1] (zb_ce g I J O) (some (.int r9)) (zb_ce g I J O) := by
  refine zb_ofW (own := RX0) (by decide +kernel) rfl (Nat.le_of_ble_eq_true rfl) ?_
  intro p e s m args below meth c ls X hr hP hl
  have hx := X.1.1
  have hb := X.1.2.1
  have ho := X.1.2.2.2.1
  have hts := X.1.2.2.2.2
  have hZ := X.2.2.2
  have hl : lv_has ls 4 [(0, .ref (g.2.2 + (b + 1))), (1, .int a1)] := hl
  have hS : va_S (zb_A g) s.heap s.heap [] := va_S.rf
  obtain ⟨H, hH⟩ : ∃ H, H = s.heap := ⟨_, rfl⟩
  obtain ⟨locs, hlocs⟩ : ∃ z : List Loc, z = [] := ⟨_, rfl⟩
  rw [← hH] at hP
  have hS : va_S (zb_A g) s.heap H locs := by rw [hH, hlocs]; exact hS
  show W p l e _ s m args below meth c s.heap [] 0 0 _ _
  rw [← hH, ← hlocs]
  rw [fX0_votesOf] at hf
  refine lv_iconst (v := (0 : Int32)) hx hb dX0_votesOf_0 (by decide) ?_
  refine lv_istore_n (lv' := [(2, .int (0 : Int32)), (0, .ref (g.2.2 + (b + 1))), (1, .int a1)]) hx hb dX0_votesOf_1 rfl hl (by decide) rfl (fun ls hl => ?_)
  refine lv_iconst (v := (0 : Int32)) hx hb dX0_votesOf_2 (by decide) ?_
  refine lv_istore_n (lv' := [(3, .int (0 : Int32)), (2, .int (0 : Int32)), (0, .ref (g.2.2 + (b + 1))), (1, .int a1)]) hx hb dX0_votesOf_3 rfl hl (by decide) rfl (fun ls hl => ?_)
  obtain ⟨x4, hx4, hf⟩ := ob_e hf
  have K2 : ∀ (H : Heap) (locs : List Loc) (ls : Array Slot), va_P g.1 vwCl (zb_ws g nc (zb_ce g I J O)) H → va_S (zb_A g) s.heap H locs → lv_has ls 4 [(2, .int x4)] → W p l e { frames := 1, cells := 0, slots := 0, locals := 21 } s m args below meth c H locs 0 0 (MQ below (zb_Po g nc (zb_ce g I J O) (some (.int r9))) args s 0 0 (zb_A g)) (F0 m 35 ls []) := by
    intro H locs ls hP hS hl
    refine lv_iload_n hx hb dX0_votesOf_35 rfl (lv_at hl 0 rfl) ?_
    cases hf
    exact zr_iret X hr hP hS dX0_votesOf_36
  exact lpX0_votesOf_L4 hnI l hB X hx4 K2 hP hS (lv_sub hl [0, 1, 2, 3] rfl)
set_option maxHeartbeats 4000000 in
set_option maxRecDepth 100000 in
theorem lpX0_tellValues_L2 {g : zb_G} {nc : Nat} (hnI : 306 ≤ nc) (l : Launch) {b : Nat} {k1 : Nat} (hB : zb_isB b) (hk1 : zb_IK k1 10 (zb_ln k1)) {a2 : Int32} {J O : Mem} {p : Program} {e : Env} {s : State} {m : MethodId} {args : Array Value} {below : List Frame} {meth : Method} {c : Code} {Q : State → Prop} (X : zb_X g p m c cX0_tellValues 4 s args RX0 meth) : ∀ {n9 : Nat} {a3 : Int32} {I : Mem} {Iz : Mem} {H : Heap} {locs : List Loc} {ls : Array Slot}, fX0_tellValues_L2 b k1 a2 n9 a3 I = some Iz → (∀ (H : Heap) (locs : List Loc) (ls : Array Slot), va_P g.1 vwCl (zb_ws g nc (zb_ce g Iz J O)) H → va_S (zb_A g) s.heap H locs → lv_has ls 4 [] → W p l e { frames := 1, cells := 0, slots := 0, locals := 21 } s m args below meth c H locs 0 0 Q (F0 m 61 ls [])) → va_P g.1 vwCl (zb_ws g nc (zb_ce g I J O)) H → va_S (zb_A g) s.heap H locs → lv_has ls 4 [(3, .int a3), (0, .ref (g.2.2 + (b + 1))), (1, .ref (g.2.2 + k1)), (2, .int a2)] → W p l e { frames := 1, cells := 0, slots := 0, locals := 21 } s m args below meth c H locs 0 0 Q (F0 m 2 ls []) := by
  have hx := X.1.1
  have hb := X.1.2.1
  have ho := X.1.2.2.2.1
  have hts := X.1.2.2.2.2
  have hZ := X.2.2.2
  intro n9
  induction n9 with
  | zero =>
    intro a3 I Iz H locs ls hf
    exact nomatch hf
  | succ n9 ih =>
    intro a3 I Iz H locs ls hf KK hP hS hl
    rw [fX0_tellValues_L2] at hf
    refine lv_iload_n hx hb dX0_tellValues_2 rfl (lv_at hl 0 rfl) ?_
    refine lv_aload_n hx hb dX0_tellValues_3 rfl (lv_at hl 1 rfl) ?_
    refine gf_X0_9 X hnI hP (zb_bk (j := 1) hB (by decide) rfl) dX0_tellValues_4 ?_
    refine lv_icmp_ge (tgt := 61) hx hb dX0_tellValues_7 (by decide) (fun hc => ?_) (fun hc => ?_)
    · have hf := if_t hc hf
      cases hf
      exact KK H locs ls hP hS (lv_sub hl [] rfl)
    · have hf := if_f hc hf
      refine lv_iload_n hx hb dX0_tellValues_10 rfl (lv_at hl 3 rfl) ?_
      obtain ⟨I6, ht, hf⟩ := ob_e hf
      have K1 : ∀ (H : Heap) (locs : List Loc) (ls : Array Slot), va_P g.1 vwCl (zb_ws g nc (zb_ce g I6 J O)) H → va_S (zb_A g) s.heap H locs → lv_has ls 4 [(3, .int a3), (0, .ref (g.2.2 + (b + 1))), (1, .ref (g.2.2 + k1)), (2, .int a2)] → W p l e { frames := 1, cells := 0, slots := 0, locals := 21 } s m args below meth c H locs 0 0 Q (F0 m 55 ls []) := by
        intro H locs ls hP hS hl
        refine lv_iinc (v := (a3 + (1 : Int32))) (lv' := [(3, .int (a3 + (1 : Int32))), (0, .ref (g.2.2 + (b + 1))), (1, .ref (g.2.2 + k1)), (2, .int a2)]) hx hb dX0_tellValues_55 hl (k := 0) rfl rfl (by decide) rfl (fun ls hl => ?_)
        refine lv_goto (tgt := 2) hx hb dX0_tellValues_58 (by decide) ?_
        exact ih hf KK hP hS (lv_sub hl [0, 1, 2, 3] rfl)
      have hf := ht
      refine lv_if_lt (tgt := 55) hx hb dX0_tellValues_11 (by decide) (fun hc => ?_) (fun hc => ?_)
      · have hf := if_t hc hf
        cases hf
        exact K1 H locs ls hP hS (lv_sub hl [0, 1, 2, 3] rfl)
      · have hf := if_f hc hf
        refine lv_iload_n hx hb dX0_tellValues_14 rfl (lv_at hl 3 rfl) ?_
        refine lv_iload_n hx hb dX0_tellValues_15 rfl (lv_at hl 0 rfl) ?_
        refine lv_iadd hx hb dX0_tellValues_16 ?_
        refine lv_aload_n hx hb dX0_tellValues_17 rfl (lv_at hl 2 rfl) ?_
        refine zr_alenI X hP hnI hk1 dX0_tellValues_18 ?_
        refine lv_icmp_ge (tgt := 55) hx hb dX0_tellValues_19 (by decide) (fun hc => ?_) (fun hc => ?_)
        · have hf := if_t hc hf
          cases hf
          exact K1 H locs ls hP hS (lv_sub hl [0, 1, 2, 3] rfl)
        · have hf := if_f hc hf
          refine lv_aload_n hx hb dX0_tellValues_22 rfl (lv_at hl 2 rfl) ?_
          refine lv_iload_n hx hb dX0_tellValues_23 rfl (lv_at hl 3 rfl) ?_
          refine lv_iload_n hx hb dX0_tellValues_24 rfl (lv_at hl 0 rfl) ?_
          refine lv_iadd hx hb dX0_tellValues_25 ?_
          refine lv_aload_n hx hb dX0_tellValues_26 rfl (lv_at hl 1 rfl) ?_
          refine gf_X0_15 X hnI hP (zb_bk (j := 1) hB (by decide) rfl) dX0_tellValues_27 ?_
          refine lv_iload_n hx hb dX0_tellValues_30 rfl (lv_at hl 0 rfl) ?_
          obtain ⟨x1, hx1, hf⟩ := ob_e hf
          refine zr_cNi (rest := [.int (a2 + a3), .ref (g.2.2 + k1)]) (As := [.int (I (b + 1) 1), .int a3]) X hP hS (ct_X7_has (g := g) (nc := nc) (I := I) (J := J) (O := O)  l  hx1) cw_X0_52  rfl hl.1 (Nat.le_of_ble_eq_true rfl) ⟨Nat.le_of_ble_eq_true rfl, Nat.le_of_ble_eq_true rfl⟩ ⟨Nat.le_of_ble_eq_true rfl, Nat.le_of_ble_eq_true rfl⟩ dX0_tellValues_31 rfl (fun H locs hP hS => ?_)
          obtain ⟨x4, ht, hf⟩ := ob_e hf
          have K2 : ∀ (H : Heap) (locs : List Loc) (ls : Array Slot), va_P g.1 vwCl (zb_ws g nc (zb_ce g I J O)) H → va_S (zb_A g) s.heap H locs → lv_has ls 4 [(3, .int a3), (0, .ref (g.2.2 + (b + 1))), (1, .ref (g.2.2 + k1)), (2, .int a2)] → W p l e { frames := 1, cells := 0, slots := 0, locals := 21 } s m args below meth c H locs 0 0 Q (F0 m 54 ls [.int x4, .int (a2 + a3), .ref (g.2.2 + k1)]) := by
            intro H locs ls hP hS hl
            obtain ⟨I5, hI5, hf⟩ := ob_e hf
            refine zr_astI X hP hS hnI hk1 hI5 dX0_tellValues_54 (fun H locs hP hS => ?_)
            cases hf
            exact K1 H locs ls hP hS (lv_sub hl [0, 1, 2, 3] rfl)
          have hf := ht
          refine lv_if_eq (tgt := 53) hx hb dX0_tellValues_34 (by decide) (fun hc => ?_) (fun hc => ?_)
          · have hf := if_t hc hf
            refine lv_iconst (v := (0 : Int32)) hx hb dX0_tellValues_53 (by decide) ?_
            cases hf
            exact K2 H locs ls hP hS (lv_sub hl [0, 1, 2, 3] rfl)
          · have hf := if_f hc hf
            refine lv_aload_n hx hb dX0_tellValues_37 rfl (lv_at hl 1 rfl) ?_
            refine gf_X0_43 X hnI hP (zb_bk (j := 1) hB (by decide) rfl) dX0_tellValues_38 ?_
            refine lv_iload_n hx hb dX0_tellValues_41 rfl (lv_at hl 0 rfl) ?_
            obtain ⟨x2, hx2, hf⟩ := ob_e hf
            refine zr_aldI X hP hnI (zb_bk (j := 10) hB (by decide) rfl) hx2 dX0_tellValues_42 ?_
            refine lv_aload_n hx hb dX0_tellValues_43 rfl (lv_at hl 1 rfl) ?_
            refine gf_X0_28 X hnI hP (zb_bk (j := 1) hB (by decide) rfl) dX0_tellValues_44 ?_
            refine lv_iload_n hx hb dX0_tellValues_47 rfl (lv_at hl 0 rfl) ?_
            obtain ⟨x3, hx3, hf⟩ := ob_e hf
            refine zr_aldI X hP hnI (zb_bk (j := 5) hB (by decide) rfl) hx3 dX0_tellValues_48 ?_
            refine lv_isub hx hb dX0_tellValues_49 ?_
            refine lv_goto (tgt := 54) hx hb dX0_tellValues_50 (by decide) ?_
            cases hf
            exact K2 H locs ls hP hS (lv_sub hl [0, 1, 2, 3] rfl)
set_option maxHeartbeats 4000000 in
set_option maxRecDepth 100000 in
theorem ct_X0_tellValues {g : zb_G} {nc : Nat} (hnI : 306 ≤ nc) (l : Launch) {b : Nat} {k1 : Nat} (hB : zb_isB b) (hk1 : zb_IK k1 10 (zb_ln k1)) {a2 : Int32} {I J O : Mem} {Iq : Mem} (hf : fX0_tellValues b k1 a2 I = some Iq) : zb_Ct l g nc yX0_tellValues cX0_tellValues 4 none 1 21 [.ref (g.2.2 + (b + 1)), .ref (g.2.2 + k1), .int a2] (zb_ce g I J O) none (zb_ce g Iq J O) := by
  refine zb_ofW (own := RX0) (by decide +kernel) rfl (Nat.le_of_ble_eq_true rfl) ?_
  intro p e s m args below meth c ls X hr hP hl
  have hx := X.1.1
  have hb := X.1.2.1
  have ho := X.1.2.2.2.1
  have hts := X.1.2.2.2.2
  have hZ := X.2.2.2
  have hl : lv_has ls 4 [(0, .ref (g.2.2 + (b + 1))), (1, .ref (g.2.2 + k1)), (2, .int a2)] := hl
  have hS : va_S (zb_A g) s.heap s.heap [] := va_S.rf
  obtain ⟨H, hH⟩ : ∃ H, H = s.heap := ⟨_, rfl⟩
  obtain ⟨locs, hlocs⟩ : ∃ z : List Loc, z = [] := ⟨_, rfl⟩
  rw [← hH] at hP
  have hS : va_S (zb_A g) s.heap H locs := by rw [hH, hlocs]; exact hS
  show W p l e _ s m args below meth c s.heap [] 0 0 _ _
  rw [← hH, ← hlocs]
  rw [fX0_tellValues] at hf
  refine lv_iconst (v := (0 : Int32)) hx hb dX0_tellValues_0 (by decide) ?_
  refine lv_istore_n (lv' := [(3, .int (0 : Int32)), (0, .ref (g.2.2 + (b + 1))), (1, .ref (g.2.2 + k1)), (2, .int a2)]) hx hb dX0_tellValues_1 rfl hl (by decide) rfl (fun ls hl => ?_)
  obtain ⟨I7, hI7, hf⟩ := ob_e hf
  have K3 : ∀ (H : Heap) (locs : List Loc) (ls : Array Slot), va_P g.1 vwCl (zb_ws g nc (zb_ce g I7 J O)) H → va_S (zb_A g) s.heap H locs → lv_has ls 4 [] → W p l e { frames := 1, cells := 0, slots := 0, locals := 21 } s m args below meth c H locs 0 0 (MQ below (zb_Po g nc (zb_ce g Iq J O) none) args s 0 0 (zb_A g)) (F0 m 61 ls []) := by
    intro H locs ls hP hS hl
    cases hf
    exact zr_vret X hr hP hS rfl dX0_tellValues_61
  exact lpX0_tellValues_L2 hnI l hB hk1 X hI7 K3 hP hS (lv_sub hl [0, 1, 2, 3] rfl)
set_option maxHeartbeats 4000000 in
set_option maxRecDepth 100000 in
theorem lpX0_forgetReports_L7 {g : zb_G} {nc : Nat} (hnI : 306 ≤ nc) (l : Launch) {b : Nat} (hB : zb_isB b) {J O : Mem} {p : Program} {e : Env} {s : State} {m : MethodId} {args : Array Value} {below : List Frame} {meth : Method} {c : Code} {Q : State → Prop} (X : zb_X g p m c cX0_forgetReports 2 s args RX0 meth) : ∀ {n9 : Nat} {a1 : Int32} {I : Mem} {Iz : Mem} {H : Heap} {locs : List Loc} {ls : Array Slot}, fX0_forgetReports_L7 b n9 a1 I = some Iz → (∀ (H : Heap) (locs : List Loc) (ls : Array Slot), va_P g.1 vwCl (zb_ws g nc (zb_ce g Iz J O)) H → va_S (zb_A g) s.heap H locs → lv_has ls 2 [] → W p l e { frames := 0, cells := 0, slots := 0, locals := 0 } s m args below meth c H locs 0 0 Q (F0 m 26 ls [])) → va_P g.1 vwCl (zb_ws g nc (zb_ce g I J O)) H → va_S (zb_A g) s.heap H locs → lv_has ls 2 [(1, .int a1), (0, .ref (g.2.2 + (b + 1)))] → W p l e { frames := 0, cells := 0, slots := 0, locals := 0 } s m args below meth c H locs 0 0 Q (F0 m 7 ls []) := by
  have hx := X.1.1
  have hb := X.1.2.1
  have ho := X.1.2.2.2.1
  have hts := X.1.2.2.2.2
  have hZ := X.2.2.2
  intro n9
  induction n9 with
  | zero =>
    intro a1 I Iz H locs ls hf
    exact nomatch hf
  | succ n9 ih =>
    intro a1 I Iz H locs ls hf KK hP hS hl
    rw [fX0_forgetReports_L7] at hf
    refine lv_iload_n hx hb dX0_forgetReports_7 rfl (lv_at hl 0 rfl) ?_
    refine lv_bipush (v := (10 : Int32)) hx hb dX0_forgetReports_8 (by decide) ?_
    refine lv_icmp_ge (tgt := 26) hx hb dX0_forgetReports_10 (by decide) (fun hc => ?_) (fun hc => ?_)
    · have hf := if_t hc hf
      cases hf
      exact KK H locs ls hP hS (lv_sub hl [] rfl)
    · have hf := if_f hc hf
      refine lv_aload_n hx hb dX0_forgetReports_13 rfl (lv_at hl 1 rfl) ?_
      refine gf_X0_43 X hnI hP (zb_bk (j := 1) hB (by decide) rfl) dX0_forgetReports_14 ?_
      refine lv_iload_n hx hb dX0_forgetReports_17 rfl (lv_at hl 0 rfl) ?_
      refine lv_iconst (v := (0 : Int32)) hx hb dX0_forgetReports_18 (by decide) ?_
      obtain ⟨I1, hI1, hf⟩ := ob_e hf
      refine zr_astI X hP hS hnI (zb_bk (j := 10) hB (by decide) rfl) hI1 dX0_forgetReports_19 (fun H locs hP hS => ?_)
      refine lv_iinc (v := (a1 + (1 : Int32))) (lv' := [(1, .int (a1 + (1 : Int32))), (0, .ref (g.2.2 + (b + 1)))]) hx hb dX0_forgetReports_20 hl (k := 0) rfl rfl (by decide) rfl (fun ls hl => ?_)
      refine lv_goto (tgt := 7) hx hb dX0_forgetReports_23 (by decide) ?_
      exact ih hf KK hP hS (lv_sub hl [0, 1] rfl)
set_option maxHeartbeats 4000000 in
set_option maxRecDepth 100000 in
theorem ct_X0_forgetReports {g : zb_G} {nc : Nat} (hnI : 306 ≤ nc) (l : Launch) {b : Nat} (hB : zb_isB b) {I J O : Mem} {Iq : Mem} (hf : fX0_forgetReports b I = some Iq) : zb_Ct l g nc yX0_forgetReports cX0_forgetReports 2 none 0 0 [.ref (g.2.2 + (b + 1))] (zb_ce g I J O) none (zb_ce g Iq J O) := by
  refine zb_ofW (own := RX0) (by decide +kernel) rfl (Nat.le_of_ble_eq_true rfl) ?_
  intro p e s m args below meth c ls X hr hP hl
  have hx := X.1.1
  have hb := X.1.2.1
  have ho := X.1.2.2.2.1
  have hts := X.1.2.2.2.2
  have hZ := X.2.2.2
  have hl : lv_has ls 2 [(0, .ref (g.2.2 + (b + 1)))] := hl
  have hS : va_S (zb_A g) s.heap s.heap [] := va_S.rf
  obtain ⟨H, hH⟩ : ∃ H, H = s.heap := ⟨_, rfl⟩
  obtain ⟨locs, hlocs⟩ : ∃ z : List Loc, z = [] := ⟨_, rfl⟩
  rw [← hH] at hP
  have hS : va_S (zb_A g) s.heap H locs := by rw [hH, hlocs]; exact hS
  show W p l e _ s m args below meth c s.heap [] 0 0 _ _
  rw [← hH, ← hlocs]
  rw [fX0_forgetReports] at hf
  refine lv_aload_n hx hb dX0_forgetReports_0 rfl (lv_at hl 0 rfl) ?_
  refine lv_iconst (v := (0 : Int32)) hx hb dX0_forgetReports_1 (by decide) ?_
  refine pf_X0_15 X hnI hP hS (zb_bk (j := 1) hB (by decide) rfl) dX0_forgetReports_2 (fun H locs hP hS => ?_)
  refine lv_iconst (v := (0 : Int32)) hx hb dX0_forgetReports_5 (by decide) ?_
  refine lv_istore_n (lv' := [(1, .int (0 : Int32)), (0, .ref (g.2.2 + (b + 1)))]) hx hb dX0_forgetReports_6 rfl hl (by decide) rfl (fun ls hl => ?_)
  obtain ⟨I2, hI2, hf⟩ := ob_e hf
  have K1 : ∀ (H : Heap) (locs : List Loc) (ls : Array Slot), va_P g.1 vwCl (zb_ws g nc (zb_ce g I2 J O)) H → va_S (zb_A g) s.heap H locs → lv_has ls 2 [] → W p l e { frames := 0, cells := 0, slots := 0, locals := 0 } s m args below meth c H locs 0 0 (MQ below (zb_Po g nc (zb_ce g Iq J O) none) args s 0 0 (zb_A g)) (F0 m 26 ls []) := by
    intro H locs ls hP hS hl
    cases hf
    exact zr_vret X hr hP hS rfl dX0_forgetReports_26
  exact lpX0_forgetReports_L7 hnI l hB X hI2 K1 hP hS (lv_sub hl [0, 1] rfl)
set_option maxHeartbeats 4000000 in
set_option maxRecDepth 100000 in
theorem ct_X0_putUnderSuspicion {g : zb_G} {nc : Nat} (hnI : 306 ≤ nc) (l : Launch) {b : Nat} (hB : zb_isB b) {a1 : Int32} {I J O : Mem} {Iq : Mem} (hf : fX0_putUnderSuspicion b a1 I = some Iq) : zb_Ct l g nc yX0_putUnderSuspicion cX0_putUnderSuspicion 2 none 0 0 [.ref (g.2.2 + (b + 1)), .int a1] (zb_ce g I J O) none (zb_ce g Iq J O) := by
  refine zb_ofW (own := RX0) (by decide +kernel) rfl (Nat.le_of_ble_eq_true rfl) ?_
  intro p e s m args below meth c ls X hr hP hl
  have hx := X.1.1
  have hb := X.1.2.1
  have ho := X.1.2.2.2.1
  have hts := X.1.2.2.2.2
  have hZ := X.2.2.2
  have hl : lv_has ls 2 [(0, .ref (g.2.2 + (b + 1))), (1, .int a1)] := hl
  have hS : va_S (zb_A g) s.heap s.heap [] := va_S.rf
  obtain ⟨H, hH⟩ : ∃ H, H = s.heap := ⟨_, rfl⟩
  obtain ⟨locs, hlocs⟩ : ∃ z : List Loc, z = [] := ⟨_, rfl⟩
  rw [← hH] at hP
  have hS : va_S (zb_A g) s.heap H locs := by rw [hH, hlocs]; exact hS
  show W p l e _ s m args below meth c s.heap [] 0 0 _ _
  rw [← hH, ← hlocs]
  rw [fX0_putUnderSuspicion] at hf
  refine lv_iload_n hx hb dX0_putUnderSuspicion_0 rfl (lv_at hl 1 rfl) ?_
  refine lv_if_lt (tgt := 12) hx hb dX0_putUnderSuspicion_1 (by decide) (fun hc => ?_) (fun hc => ?_)
  · have hf := if_t hc hf
    cases hf
    exact zr_vret X hr hP hS rfl dX0_putUnderSuspicion_12
  · have hf := if_f hc hf
    refine lv_iload_n hx hb dX0_putUnderSuspicion_4 rfl (lv_at hl 1 rfl) ?_
    refine lv_aload_n hx hb dX0_putUnderSuspicion_5 rfl (lv_at hl 0 rfl) ?_
    refine gf_X0_9 X hnI hP (zb_bk (j := 1) hB (by decide) rfl) dX0_putUnderSuspicion_6 ?_
    refine lv_icmp_lt (tgt := 13) hx hb dX0_putUnderSuspicion_9 (by decide) (fun hc => ?_) (fun hc => ?_)
    · have hf := if_t hc hf
      refine lv_aload_n hx hb dX0_putUnderSuspicion_13 rfl (lv_at hl 0 rfl) ?_
      refine gf_X0_31 X hnI hP (zb_bk (j := 1) hB (by decide) rfl) dX0_putUnderSuspicion_14 ?_
      refine lv_iload_n hx hb dX0_putUnderSuspicion_17 rfl (lv_at hl 1 rfl) ?_
      refine lv_iconst (v := (1 : Int32)) hx hb dX0_putUnderSuspicion_18 (by decide) ?_
      obtain ⟨I1, hI1, hf⟩ := ob_e hf
      refine zr_astI X hP hS hnI (zb_bk (j := 6) hB (by decide) rfl) hI1 dX0_putUnderSuspicion_19 (fun H locs hP hS => ?_)
      refine lv_aload_n hx hb dX0_putUnderSuspicion_20 rfl (lv_at hl 0 rfl) ?_
      refine gf_X0_34 X hnI hP (zb_bk (j := 1) hB (by decide) rfl) dX0_putUnderSuspicion_21 ?_
      refine lv_iload_n hx hb dX0_putUnderSuspicion_24 rfl (lv_at hl 1 rfl) ?_
      refine lv_iconst (v := (0 : Int32)) hx hb dX0_putUnderSuspicion_25 (by decide) ?_
      obtain ⟨I2, hI2, hf⟩ := ob_e hf
      refine zr_astI X hP hS hnI (zb_bk (j := 7) hB (by decide) rfl) hI2 dX0_putUnderSuspicion_26 (fun H locs hP hS => ?_)
      refine lv_aload_n hx hb dX0_putUnderSuspicion_27 rfl (lv_at hl 0 rfl) ?_
      refine gf_X0_37 X hnI hP (zb_bk (j := 1) hB (by decide) rfl) dX0_putUnderSuspicion_28 ?_
      refine lv_iload_n hx hb dX0_putUnderSuspicion_31 rfl (lv_at hl 1 rfl) ?_
      refine lv_iconst (v := (0 : Int32)) hx hb dX0_putUnderSuspicion_32 (by decide) ?_
      obtain ⟨I3, hI3, hf⟩ := ob_e hf
      refine zr_astI X hP hS hnI (zb_bk (j := 8) hB (by decide) rfl) hI3 dX0_putUnderSuspicion_33 (fun H locs hP hS => ?_)
      refine lv_aload_n hx hb dX0_putUnderSuspicion_34 rfl (lv_at hl 0 rfl) ?_
      refine gf_X0_40 X hnI hP (zb_bk (j := 1) hB (by decide) rfl) dX0_putUnderSuspicion_35 ?_
      refine lv_iload_n hx hb dX0_putUnderSuspicion_38 rfl (lv_at hl 1 rfl) ?_
      refine lv_iconst (v := (-1 : Int32)) hx hb dX0_putUnderSuspicion_39 (by decide) ?_
      obtain ⟨I4, hI4, hf⟩ := ob_e hf
      refine zr_astI X hP hS hnI (zb_bk (j := 9) hB (by decide) rfl) hI4 dX0_putUnderSuspicion_40 (fun H locs hP hS => ?_)
      cases hf
      exact zr_vret X hr hP hS rfl dX0_putUnderSuspicion_41
    · have hf := if_f hc hf
      cases hf
      exact zr_vret X hr hP hS rfl dX0_putUnderSuspicion_12
set_option maxHeartbeats 4000000 in
set_option maxRecDepth 100000 in
theorem ct_X1_copyFrom {g : zb_G} {nc : Nat} (hnI : 306 ≤ nc) (l : Launch) {b : Nat} {b1 : Nat} (hB : zb_isB b) (hB1 : zb_isB b1) {I J O : Mem} {Iq : Mem} (hf : fX1_copyFrom b b1 I = some Iq) : zb_Ct l g nc yX1_copyFrom cX1_copyFrom 2 none 1 40 [.ref (g.2.2 + (b + 14)), .ref (g.2.2 + (b1 + 14))] (zb_ce g I J O) none (zb_ce g Iq J O) := by
  refine zb_ofW (own := RX1) (by decide +kernel) rfl (Nat.le_of_ble_eq_true rfl) ?_
  intro p e s m args below meth c ls X hr hP hl
  have hx := X.1.1
  have hb := X.1.2.1
  have ho := X.1.2.2.2.1
  have hts := X.1.2.2.2.2
  have hZ := X.2.2.2
  have hl : lv_has ls 2 [(0, .ref (g.2.2 + (b + 14))), (1, .ref (g.2.2 + (b1 + 14)))] := hl
  have hS : va_S (zb_A g) s.heap s.heap [] := va_S.rf
  obtain ⟨H, hH⟩ : ∃ H, H = s.heap := ⟨_, rfl⟩
  obtain ⟨locs, hlocs⟩ : ∃ z : List Loc, z = [] := ⟨_, rfl⟩
  rw [← hH] at hP
  have hS : va_S (zb_A g) s.heap H locs := by rw [hH, hlocs]; exact hS
  show W p l e _ s m args below meth c s.heap [] 0 0 _ _
  rw [← hH, ← hlocs]
  rw [fX1_copyFrom] at hf
  refine lv_aload_n hx hb dX1_copyFrom_0 rfl (lv_at hl 1 rfl) ?_
  refine gf_X1_9 X hnI hP (zb_bk (j := 14) hB1 (by decide) rfl) dX1_copyFrom_1 ?_
  refine lv_iconst (v := (0 : Int32)) hx hb dX1_copyFrom_4 (by decide) ?_
  refine lv_aload_n hx hb dX1_copyFrom_5 rfl (lv_at hl 0 rfl) ?_
  refine gf_X1_9 X hnI hP (zb_bk (j := 14) hB (by decide) rfl) dX1_copyFrom_6 ?_
  refine lv_iconst (v := (0 : Int32)) hx hb dX1_copyFrom_9 (by decide) ?_
  refine lv_bipush (v := (24 : Int32)) hx hb dX1_copyFrom_10 (by decide) ?_
  refine zr_copy (N := 24) X hP hS hnI (zb_bk (j := 15) hB1 (by decide) rfl) (zb_bk (j := 15) hB (by decide) rfl) rfl (Nat.le_of_ble_eq_true rfl) (Nat.le_of_ble_eq_true rfl) (Nat.le_of_ble_eq_true rfl) wk_X1_39 wm_ac1 wm_ac2 wm_ac3 hl.1 (Nat.le_of_ble_eq_true rfl) (Nat.le_of_ble_eq_true rfl) dX1_copyFrom_12 (fun H locs hP hS => ?_)
  refine lv_aload_n hx hb dX1_copyFrom_15 rfl (lv_at hl 1 rfl) ?_
  refine gf_X1_15 X hnI hP (zb_bk (j := 14) hB1 (by decide) rfl) dX1_copyFrom_16 ?_
  refine lv_iconst (v := (0 : Int32)) hx hb dX1_copyFrom_19 (by decide) ?_
  refine lv_aload_n hx hb dX1_copyFrom_20 rfl (lv_at hl 0 rfl) ?_
  refine gf_X1_15 X hnI hP (zb_bk (j := 14) hB (by decide) rfl) dX1_copyFrom_21 ?_
  refine lv_iconst (v := (0 : Int32)) hx hb dX1_copyFrom_24 (by decide) ?_
  refine lv_bipush (v := (24 : Int32)) hx hb dX1_copyFrom_25 (by decide) ?_
  refine zr_copy (N := 24) X hP hS hnI (zb_bk (j := 16) hB1 (by decide) rfl) (zb_bk (j := 16) hB (by decide) rfl) rfl (Nat.le_of_ble_eq_true rfl) (Nat.le_of_ble_eq_true rfl) (Nat.le_of_ble_eq_true rfl) wk_X1_39 wm_ac1 wm_ac2 wm_ac3 hl.1 (Nat.le_of_ble_eq_true rfl) (Nat.le_of_ble_eq_true rfl) dX1_copyFrom_27 (fun H locs hP hS => ?_)
  refine lv_aload_n hx hb dX1_copyFrom_30 rfl (lv_at hl 1 rfl) ?_
  refine gf_X1_18 X hnI hP (zb_bk (j := 14) hB1 (by decide) rfl) dX1_copyFrom_31 ?_
  refine lv_iconst (v := (0 : Int32)) hx hb dX1_copyFrom_34 (by decide) ?_
  refine lv_aload_n hx hb dX1_copyFrom_35 rfl (lv_at hl 0 rfl) ?_
  refine gf_X1_18 X hnI hP (zb_bk (j := 14) hB (by decide) rfl) dX1_copyFrom_36 ?_
  refine lv_iconst (v := (0 : Int32)) hx hb dX1_copyFrom_39 (by decide) ?_
  refine lv_bipush (v := (24 : Int32)) hx hb dX1_copyFrom_40 (by decide) ?_
  refine zr_copy (N := 24) X hP hS hnI (zb_bk (j := 17) hB1 (by decide) rfl) (zb_bk (j := 17) hB (by decide) rfl) rfl (Nat.le_of_ble_eq_true rfl) (Nat.le_of_ble_eq_true rfl) (Nat.le_of_ble_eq_true rfl) wk_X1_39 wm_ac1 wm_ac2 wm_ac3 hl.1 (Nat.le_of_ble_eq_true rfl) (Nat.le_of_ble_eq_true rfl) dX1_copyFrom_42 (fun H locs hP hS => ?_)
  refine lv_aload_n hx hb dX1_copyFrom_45 rfl (lv_at hl 1 rfl) ?_
  refine gf_X1_21 X hnI hP (zb_bk (j := 14) hB1 (by decide) rfl) dX1_copyFrom_46 ?_
  refine lv_iconst (v := (0 : Int32)) hx hb dX1_copyFrom_49 (by decide) ?_
  refine lv_aload_n hx hb dX1_copyFrom_50 rfl (lv_at hl 0 rfl) ?_
  refine gf_X1_21 X hnI hP (zb_bk (j := 14) hB (by decide) rfl) dX1_copyFrom_51 ?_
  refine lv_iconst (v := (0 : Int32)) hx hb dX1_copyFrom_54 (by decide) ?_
  refine lv_bipush (v := (24 : Int32)) hx hb dX1_copyFrom_55 (by decide) ?_
  refine zr_copy (N := 24) X hP hS hnI (zb_bk (j := 18) hB1 (by decide) rfl) (zb_bk (j := 18) hB (by decide) rfl) rfl (Nat.le_of_ble_eq_true rfl) (Nat.le_of_ble_eq_true rfl) (Nat.le_of_ble_eq_true rfl) wk_X1_39 wm_ac1 wm_ac2 wm_ac3 hl.1 (Nat.le_of_ble_eq_true rfl) (Nat.le_of_ble_eq_true rfl) dX1_copyFrom_57 (fun H locs hP hS => ?_)
  refine lv_aload_n hx hb dX1_copyFrom_60 rfl (lv_at hl 1 rfl) ?_
  refine gf_X1_24 X hnI hP (zb_bk (j := 14) hB1 (by decide) rfl) dX1_copyFrom_61 ?_
  refine lv_iconst (v := (0 : Int32)) hx hb dX1_copyFrom_64 (by decide) ?_
  refine lv_aload_n hx hb dX1_copyFrom_65 rfl (lv_at hl 0 rfl) ?_
  refine gf_X1_24 X hnI hP (zb_bk (j := 14) hB (by decide) rfl) dX1_copyFrom_66 ?_
  refine lv_iconst (v := (0 : Int32)) hx hb dX1_copyFrom_69 (by decide) ?_
  refine lv_bipush (v := (24 : Int32)) hx hb dX1_copyFrom_70 (by decide) ?_
  refine zr_copy (N := 24) X hP hS hnI (zb_bk (j := 19) hB1 (by decide) rfl) (zb_bk (j := 19) hB (by decide) rfl) rfl (Nat.le_of_ble_eq_true rfl) (Nat.le_of_ble_eq_true rfl) (Nat.le_of_ble_eq_true rfl) wk_X1_39 wm_ac1 wm_ac2 wm_ac3 hl.1 (Nat.le_of_ble_eq_true rfl) (Nat.le_of_ble_eq_true rfl) dX1_copyFrom_72 (fun H locs hP hS => ?_)
  refine lv_aload_n hx hb dX1_copyFrom_75 rfl (lv_at hl 1 rfl) ?_
  refine gf_X1_27 X hnI hP (zb_bk (j := 14) hB1 (by decide) rfl) dX1_copyFrom_76 ?_
  refine lv_iconst (v := (0 : Int32)) hx hb dX1_copyFrom_79 (by decide) ?_
  refine lv_aload_n hx hb dX1_copyFrom_80 rfl (lv_at hl 0 rfl) ?_
  refine gf_X1_27 X hnI hP (zb_bk (j := 14) hB (by decide) rfl) dX1_copyFrom_81 ?_
  refine lv_iconst (v := (0 : Int32)) hx hb dX1_copyFrom_84 (by decide) ?_
  refine lv_bipush (v := (24 : Int32)) hx hb dX1_copyFrom_85 (by decide) ?_
  refine zr_copy (N := 24) X hP hS hnI (zb_bk (j := 20) hB1 (by decide) rfl) (zb_bk (j := 20) hB (by decide) rfl) rfl (Nat.le_of_ble_eq_true rfl) (Nat.le_of_ble_eq_true rfl) (Nat.le_of_ble_eq_true rfl) wk_X1_39 wm_ac1 wm_ac2 wm_ac3 hl.1 (Nat.le_of_ble_eq_true rfl) (Nat.le_of_ble_eq_true rfl) dX1_copyFrom_87 (fun H locs hP hS => ?_)
  refine lv_aload_n hx hb dX1_copyFrom_90 rfl (lv_at hl 1 rfl) ?_
  refine gf_X1_30 X hnI hP (zb_bk (j := 14) hB1 (by decide) rfl) dX1_copyFrom_91 ?_
  refine lv_iconst (v := (0 : Int32)) hx hb dX1_copyFrom_94 (by decide) ?_
  refine lv_aload_n hx hb dX1_copyFrom_95 rfl (lv_at hl 0 rfl) ?_
  refine gf_X1_30 X hnI hP (zb_bk (j := 14) hB (by decide) rfl) dX1_copyFrom_96 ?_
  refine lv_iconst (v := (0 : Int32)) hx hb dX1_copyFrom_99 (by decide) ?_
  refine lv_bipush (v := (24 : Int32)) hx hb dX1_copyFrom_100 (by decide) ?_
  refine zr_copy (N := 24) X hP hS hnI (zb_bk (j := 21) hB1 (by decide) rfl) (zb_bk (j := 21) hB (by decide) rfl) rfl (Nat.le_of_ble_eq_true rfl) (Nat.le_of_ble_eq_true rfl) (Nat.le_of_ble_eq_true rfl) wk_X1_39 wm_ac1 wm_ac2 wm_ac3 hl.1 (Nat.le_of_ble_eq_true rfl) (Nat.le_of_ble_eq_true rfl) dX1_copyFrom_102 (fun H locs hP hS => ?_)
  refine lv_aload_n hx hb dX1_copyFrom_105 rfl (lv_at hl 1 rfl) ?_
  refine gf_X1_33 X hnI hP (zb_bk (j := 14) hB1 (by decide) rfl) dX1_copyFrom_106 ?_
  refine lv_iconst (v := (0 : Int32)) hx hb dX1_copyFrom_109 (by decide) ?_
  refine lv_aload_n hx hb dX1_copyFrom_110 rfl (lv_at hl 0 rfl) ?_
  refine gf_X1_33 X hnI hP (zb_bk (j := 14) hB (by decide) rfl) dX1_copyFrom_111 ?_
  refine lv_iconst (v := (0 : Int32)) hx hb dX1_copyFrom_114 (by decide) ?_
  refine lv_bipush (v := (24 : Int32)) hx hb dX1_copyFrom_115 (by decide) ?_
  refine zr_copy (N := 24) X hP hS hnI (zb_bk (j := 22) hB1 (by decide) rfl) (zb_bk (j := 22) hB (by decide) rfl) rfl (Nat.le_of_ble_eq_true rfl) (Nat.le_of_ble_eq_true rfl) (Nat.le_of_ble_eq_true rfl) wk_X1_39 wm_ac1 wm_ac2 wm_ac3 hl.1 (Nat.le_of_ble_eq_true rfl) (Nat.le_of_ble_eq_true rfl) dX1_copyFrom_117 (fun H locs hP hS => ?_)
  refine lv_aload_n hx hb dX1_copyFrom_120 rfl (lv_at hl 1 rfl) ?_
  refine gf_X1_36 X hnI hP (zb_bk (j := 14) hB1 (by decide) rfl) dX1_copyFrom_121 ?_
  refine lv_iconst (v := (0 : Int32)) hx hb dX1_copyFrom_124 (by decide) ?_
  refine lv_aload_n hx hb dX1_copyFrom_125 rfl (lv_at hl 0 rfl) ?_
  refine gf_X1_36 X hnI hP (zb_bk (j := 14) hB (by decide) rfl) dX1_copyFrom_126 ?_
  refine lv_iconst (v := (0 : Int32)) hx hb dX1_copyFrom_129 (by decide) ?_
  refine lv_sipush (v := (240 : Int32)) hx hb dX1_copyFrom_130 (by decide) ?_
  refine zr_copy (N := 240) X hP hS hnI (zb_bk (j := 23) hB1 (by decide) rfl) (zb_bk (j := 23) hB (by decide) rfl) rfl (Nat.le_of_ble_eq_true rfl) (Nat.le_of_ble_eq_true rfl) (Nat.le_of_ble_eq_true rfl) wk_X1_39 wm_ac1 wm_ac2 wm_ac3 hl.1 (Nat.le_of_ble_eq_true rfl) (Nat.le_of_ble_eq_true rfl) dX1_copyFrom_133 (fun H locs hP hS => ?_)
  cases hf
  exact zr_vret X hr hP hS rfl dX1_copyFrom_136
set_option maxHeartbeats 4000000 in
set_option maxRecDepth 100000 in
theorem lpX2_addBytes_L3 {g : zb_G} {nc : Nat} (hnI : 306 ≤ nc) (l : Launch) {a1 : Int32} {J O : Mem} {p : Program} {e : Env} {s : State} {m : MethodId} {args : Array Value} {below : List Frame} {meth : Method} {c : Code} {Q : State → Prop} (X : zb_X g p m c cX2_addBytes 4 s args RX2 meth) : ∀ {n9 : Nat} {a2 : Int32} {I : Mem} {Iz : Mem} {H : Heap} {locs : List Loc} {ls : Array Slot}, fX2_addBytes_L3 a1 n9 a2 I = some Iz → (∀ (H : Heap) (locs : List Loc) (ls : Array Slot), va_P g.1 vwCl (zb_ws g nc (zb_ce g Iz J O)) H → va_S (zb_A g) s.heap H locs → lv_has ls 4 [] → W p l e { frames := 0, cells := 0, slots := 0, locals := 0 } s m args below meth c H locs 0 0 Q (F0 m 55 ls [])) → va_P g.1 vwCl (zb_ws g nc (zb_ce g I J O)) H → va_S (zb_A g) s.heap H locs → lv_has ls 4 [(2, .int a2), (0, .ref (g.2.2 + 56)), (1, .int a1)] → W p l e { frames := 0, cells := 0, slots := 0, locals := 0 } s m args below meth c H locs 0 0 Q (F0 m 3 ls []) := by
  have hx := X.1.1
  have hb := X.1.2.1
  have ho := X.1.2.2.2.1
  have hts := X.1.2.2.2.2
  have hZ := X.2.2.2
  intro n9
  induction n9 with
  | zero =>
    intro a2 I Iz H locs ls hf
    exact nomatch hf
  | succ n9 ih =>
    intro a2 I Iz H locs ls hf KK hP hS hl
    rw [fX2_addBytes_L3] at hf
    refine lv_iload_n hx hb dX2_addBytes_3 rfl (lv_at hl 0 rfl) ?_
    refine lv_if_lt (tgt := 55) hx hb dX2_addBytes_4 (by decide) (fun hc => ?_) (fun hc => ?_)
    · have hf := if_t hc hf
      cases hf
      exact KK H locs ls hP hS (lv_sub hl [] rfl)
    · have hf := if_f hc hf
      refine lv_iload_n hx hb dX2_addBytes_7 rfl (lv_at hl 2 rfl) ?_
      refine lv_iload_n hx hb dX2_addBytes_8 rfl (lv_at hl 0 rfl) ?_
      refine lv_ishr hx hb dX2_addBytes_9 ?_
      refine lv_sipush (v := (255 : Int32)) hx hb dX2_addBytes_10 (by decide) ?_
      refine lv_iand hx hb dX2_addBytes_13 ?_
      refine lv_istore_n (lv' := [(3, .int ((a1 >>> (a2 &&& 31)) &&& (255 : Int32))), (2, .int a2), (0, .ref (g.2.2 + 56)), (1, .int a1)]) hx hb dX2_addBytes_14 rfl hl (by decide) rfl (fun ls hl => ?_)
      refine lv_iload_n hx hb dX2_addBytes_15 rfl (lv_at hl 0 rfl) ?_
      obtain ⟨I2, ht, hf⟩ := ob_e hf
      have K1 : ∀ (H : Heap) (locs : List Loc) (ls : Array Slot), va_P g.1 vwCl (zb_ws g nc (zb_ce g I2 J O)) H → va_S (zb_A g) s.heap H locs → lv_has ls 4 [(2, .int a2), (0, .ref (g.2.2 + 56)), (1, .int a1)] → W p l e { frames := 0, cells := 0, slots := 0, locals := 0 } s m args below meth c H locs 0 0 Q (F0 m 49 ls []) := by
        intro H locs ls hP hS hl
        refine lv_iinc (v := (a2 + (-8 : Int32))) (lv' := [(2, .int (a2 + (-8 : Int32))), (0, .ref (g.2.2 + 56)), (1, .int a1)]) hx hb dX2_addBytes_49 hl (k := 0) rfl rfl (by decide) rfl (fun ls hl => ?_)
        refine lv_goto (tgt := 3) hx hb dX2_addBytes_52 (by decide) ?_
        exact ih hf KK hP hS (lv_sub hl [0, 1, 2] rfl)
      have hf := ht
      refine lv_if_eq (tgt := 49) hx hb dX2_addBytes_16 (by decide) (fun hc => ?_) (fun hc => ?_)
      · have hf := if_t hc hf
        cases hf
        exact K1 H locs ls hP hS (lv_sub hl [1, 2, 3] rfl)
      · have hf := if_f hc hf
        refine lv_aload_n hx hb dX2_addBytes_19 rfl (lv_at hl 2 rfl) ?_
        refine gf_X2_15 X hnI hP zk_56 dX2_addBytes_20 ?_
        refine lv_sipush (v := (500 : Int32)) hx hb dX2_addBytes_23 (by decide) ?_
        refine lv_icmp_ge (tgt := 49) hx hb dX2_addBytes_26 (by decide) (fun hc => ?_) (fun hc => ?_)
        · have hf := if_t hc hf
          cases hf
          exact K1 H locs ls hP hS (lv_sub hl [1, 2, 3] rfl)
        · have hf := if_f hc hf
          refine lv_aload_n hx hb dX2_addBytes_29 rfl (lv_at hl 2 rfl) ?_
          refine gf_X2_9 X hnI hP zk_56 dX2_addBytes_30 ?_
          refine lv_aload_n hx hb dX2_addBytes_33 rfl (lv_at hl 2 rfl) ?_
          refine gf_X2_15 X hnI hP zk_56 dX2_addBytes_34 ?_
          refine lv_iload_n hx hb dX2_addBytes_37 rfl (lv_at hl 0 rfl) ?_
          obtain ⟨I1, hI1, hf⟩ := ob_e hf
          refine zr_astI X hP hS hnI zk_57 hI1 dX2_addBytes_38 (fun H locs hP hS => ?_)
          refine lv_aload_n hx hb dX2_addBytes_39 rfl (lv_at hl 2 rfl) ?_
          refine lv_dup hx hb dX2_addBytes_40 rfl ?_
          refine gf_X2_15 X hnI hP zk_56 dX2_addBytes_41 ?_
          refine lv_iconst (v := (1 : Int32)) hx hb dX2_addBytes_44 (by decide) ?_
          refine lv_iadd hx hb dX2_addBytes_45 ?_
          refine pf_X2_15 X hnI hP hS zk_56 dX2_addBytes_46 (fun H locs hP hS => ?_)
          cases hf
          exact K1 H locs ls hP hS (lv_sub hl [1, 2, 3] rfl)
set_option maxHeartbeats 4000000 in
set_option maxRecDepth 100000 in
theorem ct_X2_addBytes {g : zb_G} {nc : Nat} (hnI : 306 ≤ nc) (l : Launch) {a1 : Int32} {I J O : Mem} {Iq : Mem} (hf : fX2_addBytes a1 I = some Iq) : zb_Ct l g nc yX2_addBytes cX2_addBytes 4 none 0 0 [.ref (g.2.2 + 56), .int a1] (zb_ce g I J O) none (zb_ce g Iq J O) := by
  refine zb_ofW (own := RX2) (by decide +kernel) rfl (Nat.le_of_ble_eq_true rfl) ?_
  intro p e s m args below meth c ls X hr hP hl
  have hx := X.1.1
  have hb := X.1.2.1
  have ho := X.1.2.2.2.1
  have hts := X.1.2.2.2.2
  have hZ := X.2.2.2
  have hl : lv_has ls 4 [(0, .ref (g.2.2 + 56)), (1, .int a1)] := hl
  have hS : va_S (zb_A g) s.heap s.heap [] := va_S.rf
  obtain ⟨H, hH⟩ : ∃ H, H = s.heap := ⟨_, rfl⟩
  obtain ⟨locs, hlocs⟩ : ∃ z : List Loc, z = [] := ⟨_, rfl⟩
  rw [← hH] at hP
  have hS : va_S (zb_A g) s.heap H locs := by rw [hH, hlocs]; exact hS
  show W p l e _ s m args below meth c s.heap [] 0 0 _ _
  rw [← hH, ← hlocs]
  rw [fX2_addBytes] at hf
  refine lv_bipush (v := (24 : Int32)) hx hb dX2_addBytes_0 (by decide) ?_
  refine lv_istore_n (lv' := [(2, .int (24 : Int32)), (0, .ref (g.2.2 + 56)), (1, .int a1)]) hx hb dX2_addBytes_2 rfl hl (by decide) rfl (fun ls hl => ?_)
  obtain ⟨I3, hI3, hf⟩ := ob_e hf
  have K2 : ∀ (H : Heap) (locs : List Loc) (ls : Array Slot), va_P g.1 vwCl (zb_ws g nc (zb_ce g I3 J O)) H → va_S (zb_A g) s.heap H locs → lv_has ls 4 [] → W p l e { frames := 0, cells := 0, slots := 0, locals := 0 } s m args below meth c H locs 0 0 (MQ below (zb_Po g nc (zb_ce g Iq J O) none) args s 0 0 (zb_A g)) (F0 m 55 ls []) := by
    intro H locs ls hP hS hl
    cases hf
    exact zr_vret X hr hP hS rfl dX2_addBytes_55
  exact lpX2_addBytes_L3 hnI l  X hI3 K2 hP hS (lv_sub hl [0, 1, 2] rfl)
set_option maxHeartbeats 4000000 in
set_option maxRecDepth 100000 in
theorem ct_X2_kindOfByte {g : zb_G} {nc : Nat} (hnI : 306 ≤ nc) (l : Launch) {a1 : Int32} {I J O : Mem} {r9 : Int32} (hf : fX2_kindOfByte a1 I = some r9) : zb_Ct l g nc yX2_kindOfByte cX2_kindOfByte 3 (some .int) 0 0 [.ref (g.2.2 + 56), .int a1] (zb_ce g I J O) (some (.int r9)) (zb_ce g I J O) := by
  refine zb_ofW (own := RX2) (by decide +kernel) rfl (Nat.le_of_ble_eq_true rfl) ?_
  intro p e s m args below meth c ls X hr hP hl
  have hx := X.1.1
  have hb := X.1.2.1
  have ho := X.1.2.2.2.1
  have hts := X.1.2.2.2.2
  have hZ := X.2.2.2
  have hl : lv_has ls 3 [(0, .ref (g.2.2 + 56)), (1, .int a1)] := hl
  have hS : va_S (zb_A g) s.heap s.heap [] := va_S.rf
  obtain ⟨H, hH⟩ : ∃ H, H = s.heap := ⟨_, rfl⟩
  obtain ⟨locs, hlocs⟩ : ∃ z : List Loc, z = [] := ⟨_, rfl⟩
  rw [← hH] at hP
  have hS : va_S (zb_A g) s.heap H locs := by rw [hH, hlocs]; exact hS
  show W p l e _ s m args below meth c s.heap [] 0 0 _ _
  rw [← hH, ← hlocs]
  rw [fX2_kindOfByte] at hf
  refine lv_iload_n hx hb dX2_kindOfByte_0 rfl (lv_at hl 1 rfl) ?_
  obtain ⟨x2, ht, hf⟩ := ob_e hf
  have K1 : ∀ (H : Heap) (locs : List Loc) (ls : Array Slot), va_P g.1 vwCl (zb_ws g nc (zb_ce g I J O)) H → va_S (zb_A g) s.heap H locs → lv_has ls 3 [] → W p l e { frames := 0, cells := 0, slots := 0, locals := 0 } s m args below meth c H locs 0 0 (MQ below (zb_Po g nc (zb_ce g I J O) (some (.int r9))) args s 0 0 (zb_A g)) (F0 m 23 ls [.int x2]) := by
    intro H locs ls hP hS hl
    refine lv_istore_n (lv' := [(2, .int x2)]) hx hb dX2_kindOfByte_23 rfl hl (by decide) rfl (fun ls hl => ?_)
    refine lv_iload_n hx hb dX2_kindOfByte_24 rfl (lv_at hl 0 rfl) ?_
    refine lv_bipush (v := (97 : Int32)) hx hb dX2_kindOfByte_25 (by decide) ?_
    refine lv_icmp_lt (tgt := 39) hx hb dX2_kindOfByte_27 (by decide) (fun hc => ?_) (fun hc => ?_)
    · have hf := if_t hc hf
      refine lv_iload_n hx hb dX2_kindOfByte_39 rfl (lv_at hl 0 rfl) ?_
      refine lv_bipush (v := (48 : Int32)) hx hb dX2_kindOfByte_40 (by decide) ?_
      refine lv_icmp_lt (tgt := 53) hx hb dX2_kindOfByte_42 (by decide) (fun hc => ?_) (fun hc => ?_)
      · have hf := if_t hc hf
        refine lv_iload_n hx hb dX2_kindOfByte_53 rfl (lv_at hl 0 rfl) ?_
        refine lv_bipush (v := (32 : Int32)) hx hb dX2_kindOfByte_54 (by decide) ?_
        refine lv_icmp_eq (tgt := 65) hx hb dX2_kindOfByte_56 (by decide) (fun hc => ?_) (fun hc => ?_)
        · have hf := if_t hc hf
          refine lv_iconst (v := (5 : Int32)) hx hb dX2_kindOfByte_65 (by decide) ?_
          cases hf
          exact zr_iret X hr hP hS dX2_kindOfByte_66
        · have hf := if_f hc hf
          refine lv_iload_n hx hb dX2_kindOfByte_59 rfl (lv_at hl 0 rfl) ?_
          refine lv_bipush (v := (10 : Int32)) hx hb dX2_kindOfByte_60 (by decide) ?_
          refine lv_icmp_ne (tgt := 67) hx hb dX2_kindOfByte_62 (by decide) (fun hc => ?_) (fun hc => ?_)
          · have hf := if_f hc hf
            refine lv_iload_n hx hb dX2_kindOfByte_67 rfl (lv_at hl 0 rfl) ?_
            refine lv_bipush (v := (45 : Int32)) hx hb dX2_kindOfByte_68 (by decide) ?_
            obtain ⟨x3, ht, hf⟩ := pl_e hf
            have K2 : ∀ (H : Heap) (locs : List Loc) (ls : Array Slot), va_P g.1 vwCl (zb_ws g nc (zb_ce g I J O)) H → va_S (zb_A g) s.heap H locs → lv_has ls 3 [] → W p l e { frames := 0, cells := 0, slots := 0, locals := 0 } s m args below meth c H locs 0 0 (MQ below (zb_Po g nc (zb_ce g I J O) (some (.int r9))) args s 0 0 (zb_A g)) (F0 m 88 ls [.int x3]) := by
              intro H locs ls hP hS hl
              cases hf
              exact zr_iret X hr hP hS dX2_kindOfByte_88
            have hf := ht
            refine lv_icmp_ne (tgt := 77) hx hb dX2_kindOfByte_70 (by decide) (fun hc => ?_) (fun hc => ?_)
            · have hf := if_f hc hf
              refine lv_iload_n hx hb dX2_kindOfByte_77 rfl (lv_at hl 0 rfl) ?_
              refine lv_bipush (v := (59 : Int32)) hx hb dX2_kindOfByte_78 (by decide) ?_
              refine lv_icmp_ne (tgt := 87) hx hb dX2_kindOfByte_80 (by decide) (fun hc => ?_) (fun hc => ?_)
              · have hf := if_f hc hf
                refine lv_iconst (v := (4 : Int32)) hx hb dX2_kindOfByte_87 (by decide) ?_
                cases hf
                exact K2 H locs ls hP hS (lv_sub hl [] rfl)
              · have hf := if_t hc hf
                refine lv_iconst (v := (3 : Int32)) hx hb dX2_kindOfByte_83 (by decide) ?_
                refine lv_goto (tgt := 88) hx hb dX2_kindOfByte_84 (by decide) ?_
                cases hf
                exact K2 H locs ls hP hS (lv_sub hl [] rfl)
            · have hf := if_t hc hf
              refine lv_iconst (v := (2 : Int32)) hx hb dX2_kindOfByte_73 (by decide) ?_
              refine lv_goto (tgt := 88) hx hb dX2_kindOfByte_74 (by decide) ?_
              cases hf
              exact K2 H locs ls hP hS (lv_sub hl [] rfl)
          · have hf := if_t hc hf
            refine lv_iconst (v := (5 : Int32)) hx hb dX2_kindOfByte_65 (by decide) ?_
            cases hf
            exact zr_iret X hr hP hS dX2_kindOfByte_66
      · have hf := if_f hc hf
        refine lv_iload_n hx hb dX2_kindOfByte_45 rfl (lv_at hl 0 rfl) ?_
        refine lv_bipush (v := (57 : Int32)) hx hb dX2_kindOfByte_46 (by decide) ?_
        refine lv_icmp_gt (tgt := 53) hx hb dX2_kindOfByte_48 (by decide) (fun hc => ?_) (fun hc => ?_)
        · have hf := if_t hc hf
          refine lv_iload_n hx hb dX2_kindOfByte_53 rfl (lv_at hl 0 rfl) ?_
          refine lv_bipush (v := (32 : Int32)) hx hb dX2_kindOfByte_54 (by decide) ?_
          refine lv_icmp_eq (tgt := 65) hx hb dX2_kindOfByte_56 (by decide) (fun hc => ?_) (fun hc => ?_)
          · have hf := if_t hc hf
            refine lv_iconst (v := (5 : Int32)) hx hb dX2_kindOfByte_65 (by decide) ?_
            cases hf
            exact zr_iret X hr hP hS dX2_kindOfByte_66
          · have hf := if_f hc hf
            refine lv_iload_n hx hb dX2_kindOfByte_59 rfl (lv_at hl 0 rfl) ?_
            refine lv_bipush (v := (10 : Int32)) hx hb dX2_kindOfByte_60 (by decide) ?_
            refine lv_icmp_ne (tgt := 67) hx hb dX2_kindOfByte_62 (by decide) (fun hc => ?_) (fun hc => ?_)
            · have hf := if_f hc hf
              refine lv_iload_n hx hb dX2_kindOfByte_67 rfl (lv_at hl 0 rfl) ?_
              refine lv_bipush (v := (45 : Int32)) hx hb dX2_kindOfByte_68 (by decide) ?_
              obtain ⟨x4, ht, hf⟩ := pl_e hf
              have K3 : ∀ (H : Heap) (locs : List Loc) (ls : Array Slot), va_P g.1 vwCl (zb_ws g nc (zb_ce g I J O)) H → va_S (zb_A g) s.heap H locs → lv_has ls 3 [] → W p l e { frames := 0, cells := 0, slots := 0, locals := 0 } s m args below meth c H locs 0 0 (MQ below (zb_Po g nc (zb_ce g I J O) (some (.int r9))) args s 0 0 (zb_A g)) (F0 m 88 ls [.int x4]) := by
                intro H locs ls hP hS hl
                cases hf
                exact zr_iret X hr hP hS dX2_kindOfByte_88
              have hf := ht
              refine lv_icmp_ne (tgt := 77) hx hb dX2_kindOfByte_70 (by decide) (fun hc => ?_) (fun hc => ?_)
              · have hf := if_f hc hf
                refine lv_iload_n hx hb dX2_kindOfByte_77 rfl (lv_at hl 0 rfl) ?_
                refine lv_bipush (v := (59 : Int32)) hx hb dX2_kindOfByte_78 (by decide) ?_
                refine lv_icmp_ne (tgt := 87) hx hb dX2_kindOfByte_80 (by decide) (fun hc => ?_) (fun hc => ?_)
                · have hf := if_f hc hf
                  refine lv_iconst (v := (4 : Int32)) hx hb dX2_kindOfByte_87 (by decide) ?_
                  cases hf
                  exact K3 H locs ls hP hS (lv_sub hl [] rfl)
                · have hf := if_t hc hf
                  refine lv_iconst (v := (3 : Int32)) hx hb dX2_kindOfByte_83 (by decide) ?_
                  refine lv_goto (tgt := 88) hx hb dX2_kindOfByte_84 (by decide) ?_
                  cases hf
                  exact K3 H locs ls hP hS (lv_sub hl [] rfl)
              · have hf := if_t hc hf
                refine lv_iconst (v := (2 : Int32)) hx hb dX2_kindOfByte_73 (by decide) ?_
                refine lv_goto (tgt := 88) hx hb dX2_kindOfByte_74 (by decide) ?_
                cases hf
                exact K3 H locs ls hP hS (lv_sub hl [] rfl)
            · have hf := if_t hc hf
              refine lv_iconst (v := (5 : Int32)) hx hb dX2_kindOfByte_65 (by decide) ?_
              cases hf
              exact zr_iret X hr hP hS dX2_kindOfByte_66
        · have hf := if_f hc hf
          refine lv_iconst (v := (1 : Int32)) hx hb dX2_kindOfByte_51 (by decide) ?_
          cases hf
          exact zr_iret X hr hP hS dX2_kindOfByte_52
    · have hf := if_f hc hf
      refine lv_iload_n hx hb dX2_kindOfByte_30 rfl (lv_at hl 0 rfl) ?_
      refine lv_bipush (v := (122 : Int32)) hx hb dX2_kindOfByte_31 (by decide) ?_
      refine lv_icmp_gt (tgt := 39) hx hb dX2_kindOfByte_33 (by decide) (fun hc => ?_) (fun hc => ?_)
      · have hf := if_t hc hf
        refine lv_iload_n hx hb dX2_kindOfByte_39 rfl (lv_at hl 0 rfl) ?_
        refine lv_bipush (v := (48 : Int32)) hx hb dX2_kindOfByte_40 (by decide) ?_
        refine lv_icmp_lt (tgt := 53) hx hb dX2_kindOfByte_42 (by decide) (fun hc => ?_) (fun hc => ?_)
        · have hf := if_t hc hf
          refine lv_iload_n hx hb dX2_kindOfByte_53 rfl (lv_at hl 0 rfl) ?_
          refine lv_bipush (v := (32 : Int32)) hx hb dX2_kindOfByte_54 (by decide) ?_
          refine lv_icmp_eq (tgt := 65) hx hb dX2_kindOfByte_56 (by decide) (fun hc => ?_) (fun hc => ?_)
          · have hf := if_t hc hf
            refine lv_iconst (v := (5 : Int32)) hx hb dX2_kindOfByte_65 (by decide) ?_
            cases hf
            exact zr_iret X hr hP hS dX2_kindOfByte_66
          · have hf := if_f hc hf
            refine lv_iload_n hx hb dX2_kindOfByte_59 rfl (lv_at hl 0 rfl) ?_
            refine lv_bipush (v := (10 : Int32)) hx hb dX2_kindOfByte_60 (by decide) ?_
            refine lv_icmp_ne (tgt := 67) hx hb dX2_kindOfByte_62 (by decide) (fun hc => ?_) (fun hc => ?_)
            · have hf := if_f hc hf
              refine lv_iload_n hx hb dX2_kindOfByte_67 rfl (lv_at hl 0 rfl) ?_
              refine lv_bipush (v := (45 : Int32)) hx hb dX2_kindOfByte_68 (by decide) ?_
              obtain ⟨x5, ht, hf⟩ := pl_e hf
              have K4 : ∀ (H : Heap) (locs : List Loc) (ls : Array Slot), va_P g.1 vwCl (zb_ws g nc (zb_ce g I J O)) H → va_S (zb_A g) s.heap H locs → lv_has ls 3 [] → W p l e { frames := 0, cells := 0, slots := 0, locals := 0 } s m args below meth c H locs 0 0 (MQ below (zb_Po g nc (zb_ce g I J O) (some (.int r9))) args s 0 0 (zb_A g)) (F0 m 88 ls [.int x5]) := by
                intro H locs ls hP hS hl
                cases hf
                exact zr_iret X hr hP hS dX2_kindOfByte_88
              have hf := ht
              refine lv_icmp_ne (tgt := 77) hx hb dX2_kindOfByte_70 (by decide) (fun hc => ?_) (fun hc => ?_)
              · have hf := if_f hc hf
                refine lv_iload_n hx hb dX2_kindOfByte_77 rfl (lv_at hl 0 rfl) ?_
                refine lv_bipush (v := (59 : Int32)) hx hb dX2_kindOfByte_78 (by decide) ?_
                refine lv_icmp_ne (tgt := 87) hx hb dX2_kindOfByte_80 (by decide) (fun hc => ?_) (fun hc => ?_)
                · have hf := if_f hc hf
                  refine lv_iconst (v := (4 : Int32)) hx hb dX2_kindOfByte_87 (by decide) ?_
                  cases hf
                  exact K4 H locs ls hP hS (lv_sub hl [] rfl)
                · have hf := if_t hc hf
                  refine lv_iconst (v := (3 : Int32)) hx hb dX2_kindOfByte_83 (by decide) ?_
                  refine lv_goto (tgt := 88) hx hb dX2_kindOfByte_84 (by decide) ?_
                  cases hf
                  exact K4 H locs ls hP hS (lv_sub hl [] rfl)
              · have hf := if_t hc hf
                refine lv_iconst (v := (2 : Int32)) hx hb dX2_kindOfByte_73 (by decide) ?_
                refine lv_goto (tgt := 88) hx hb dX2_kindOfByte_74 (by decide) ?_
                cases hf
                exact K4 H locs ls hP hS (lv_sub hl [] rfl)
            · have hf := if_t hc hf
              refine lv_iconst (v := (5 : Int32)) hx hb dX2_kindOfByte_65 (by decide) ?_
              cases hf
              exact zr_iret X hr hP hS dX2_kindOfByte_66
        · have hf := if_f hc hf
          refine lv_iload_n hx hb dX2_kindOfByte_45 rfl (lv_at hl 0 rfl) ?_
          refine lv_bipush (v := (57 : Int32)) hx hb dX2_kindOfByte_46 (by decide) ?_
          refine lv_icmp_gt (tgt := 53) hx hb dX2_kindOfByte_48 (by decide) (fun hc => ?_) (fun hc => ?_)
          · have hf := if_t hc hf
            refine lv_iload_n hx hb dX2_kindOfByte_53 rfl (lv_at hl 0 rfl) ?_
            refine lv_bipush (v := (32 : Int32)) hx hb dX2_kindOfByte_54 (by decide) ?_
            refine lv_icmp_eq (tgt := 65) hx hb dX2_kindOfByte_56 (by decide) (fun hc => ?_) (fun hc => ?_)
            · have hf := if_t hc hf
              refine lv_iconst (v := (5 : Int32)) hx hb dX2_kindOfByte_65 (by decide) ?_
              cases hf
              exact zr_iret X hr hP hS dX2_kindOfByte_66
            · have hf := if_f hc hf
              refine lv_iload_n hx hb dX2_kindOfByte_59 rfl (lv_at hl 0 rfl) ?_
              refine lv_bipush (v := (10 : Int32)) hx hb dX2_kindOfByte_60 (by decide) ?_
              refine lv_icmp_ne (tgt := 67) hx hb dX2_kindOfByte_62 (by decide) (fun hc => ?_) (fun hc => ?_)
              · have hf := if_f hc hf
                refine lv_iload_n hx hb dX2_kindOfByte_67 rfl (lv_at hl 0 rfl) ?_
                refine lv_bipush (v := (45 : Int32)) hx hb dX2_kindOfByte_68 (by decide) ?_
                obtain ⟨x6, ht, hf⟩ := pl_e hf
                have K5 : ∀ (H : Heap) (locs : List Loc) (ls : Array Slot), va_P g.1 vwCl (zb_ws g nc (zb_ce g I J O)) H → va_S (zb_A g) s.heap H locs → lv_has ls 3 [] → W p l e { frames := 0, cells := 0, slots := 0, locals := 0 } s m args below meth c H locs 0 0 (MQ below (zb_Po g nc (zb_ce g I J O) (some (.int r9))) args s 0 0 (zb_A g)) (F0 m 88 ls [.int x6]) := by
                  intro H locs ls hP hS hl
                  cases hf
                  exact zr_iret X hr hP hS dX2_kindOfByte_88
                have hf := ht
                refine lv_icmp_ne (tgt := 77) hx hb dX2_kindOfByte_70 (by decide) (fun hc => ?_) (fun hc => ?_)
                · have hf := if_f hc hf
                  refine lv_iload_n hx hb dX2_kindOfByte_77 rfl (lv_at hl 0 rfl) ?_
                  refine lv_bipush (v := (59 : Int32)) hx hb dX2_kindOfByte_78 (by decide) ?_
                  refine lv_icmp_ne (tgt := 87) hx hb dX2_kindOfByte_80 (by decide) (fun hc => ?_) (fun hc => ?_)
                  · have hf := if_f hc hf
                    refine lv_iconst (v := (4 : Int32)) hx hb dX2_kindOfByte_87 (by decide) ?_
                    cases hf
                    exact K5 H locs ls hP hS (lv_sub hl [] rfl)
                  · have hf := if_t hc hf
                    refine lv_iconst (v := (3 : Int32)) hx hb dX2_kindOfByte_83 (by decide) ?_
                    refine lv_goto (tgt := 88) hx hb dX2_kindOfByte_84 (by decide) ?_
                    cases hf
                    exact K5 H locs ls hP hS (lv_sub hl [] rfl)
                · have hf := if_t hc hf
                  refine lv_iconst (v := (2 : Int32)) hx hb dX2_kindOfByte_73 (by decide) ?_
                  refine lv_goto (tgt := 88) hx hb dX2_kindOfByte_74 (by decide) ?_
                  cases hf
                  exact K5 H locs ls hP hS (lv_sub hl [] rfl)
              · have hf := if_t hc hf
                refine lv_iconst (v := (5 : Int32)) hx hb dX2_kindOfByte_65 (by decide) ?_
                cases hf
                exact zr_iret X hr hP hS dX2_kindOfByte_66
          · have hf := if_f hc hf
            refine lv_iconst (v := (1 : Int32)) hx hb dX2_kindOfByte_51 (by decide) ?_
            cases hf
            exact zr_iret X hr hP hS dX2_kindOfByte_52
      · have hf := if_f hc hf
        refine lv_bipush (v := (6 : Int32)) hx hb dX2_kindOfByte_36 (by decide) ?_
        cases hf
        exact zr_iret X hr hP hS dX2_kindOfByte_38
  have hf := ht
  refine lv_if_lt (tgt := 21) hx hb dX2_kindOfByte_1 (by decide) (fun hc => ?_) (fun hc => ?_)
  · have hf := if_t hc hf
    refine lv_bipush (v := (32 : Int32)) hx hb dX2_kindOfByte_21 (by decide) ?_
    cases hf
    exact K1 H locs ls hP hS (lv_sub hl [] rfl)
  · have hf := if_f hc hf
    refine lv_iload_n hx hb dX2_kindOfByte_4 rfl (lv_at hl 1 rfl) ?_
    refine lv_aload_n hx hb dX2_kindOfByte_5 rfl (lv_at hl 0 rfl) ?_
    refine gf_X2_15 X hnI hP zk_56 dX2_kindOfByte_6 ?_
    refine lv_icmp_ge (tgt := 21) hx hb dX2_kindOfByte_9 (by decide) (fun hc => ?_) (fun hc => ?_)
    · have hf := if_t hc hf
      refine lv_bipush (v := (32 : Int32)) hx hb dX2_kindOfByte_21 (by decide) ?_
      cases hf
      exact K1 H locs ls hP hS (lv_sub hl [] rfl)
    · have hf := if_f hc hf
      refine lv_aload_n hx hb dX2_kindOfByte_12 rfl (lv_at hl 0 rfl) ?_
      refine gf_X2_9 X hnI hP zk_56 dX2_kindOfByte_13 ?_
      refine lv_iload_n hx hb dX2_kindOfByte_16 rfl (lv_at hl 1 rfl) ?_
      obtain ⟨x1, hx1, hf⟩ := ob_e hf
      refine zr_aldI X hP hnI zk_57 hx1 dX2_kindOfByte_17 ?_
      refine lv_goto (tgt := 23) hx hb dX2_kindOfByte_18 (by decide) ?_
      cases hf
      exact K1 H locs ls hP hS (lv_sub hl [] rfl)
set_option maxHeartbeats 4000000 in
set_option maxRecDepth 100000 in
theorem lpX2_spells_L30 {g : zb_G} {nc : Nat} (hnI : 306 ≤ nc) (l : Launch) {w : Nat} (hw : w < 9) {a2 : Int32} {J O : Mem} {p : Program} {e : Env} {s : State} {m : MethodId} {args : Array Value} {below : List Frame} {meth : Method} {c : Code} {Q : State → Prop} (X : zb_X g p m c cX2_spells 5 s args RX2 meth) : ∀ {n9 : Nat} {a4 : Int32} {I : Mem} {tq : Nat} {v9 : Int32} {H : Heap} {locs : List Loc} {ls : Array Slot}, fX2_spells_L30 w a2 n9 a4 I = some (tq, v9) → (tq = 0 → ∀ (H : Heap) (locs : List Loc) (ls : Array Slot), va_P g.1 vwCl (zb_ws g nc (zb_ce g I J O)) H → va_S (zb_A g) s.heap H locs → lv_has ls 5 [] → W p l e { frames := 5, cells := 0, slots := 0, locals := 125 } s m args below meth c H locs 0 0 Q (F0 m 65 ls [])) → (tq = 1 → ∀ (H : Heap) (locs : List Loc) (ls : Array Slot) (pc : Nat), decode cX2_spells pc = .ok (.ireturn, 1) → va_P g.1 vwCl (zb_ws g nc (zb_ce g I J O)) H → va_S (zb_A g) s.heap H locs → W p l e { frames := 5, cells := 0, slots := 0, locals := 125 } s m args below meth c H locs 0 0 Q (F0 m pc ls [.int v9])) → va_P g.1 vwCl (zb_ws g nc (zb_ce g I J O)) H → va_S (zb_A g) s.heap H locs → lv_has ls 5 [(4, .int a4), (0, .ref (g.2.2 + 56)), (1, .ref (zb_aK g w)), (2, .int a2)] → W p l e { frames := 5, cells := 0, slots := 0, locals := 125 } s m args below meth c H locs 0 0 Q (F0 m 30 ls []) := by
  have hx := X.1.1
  have hb := X.1.2.1
  have ho := X.1.2.2.2.1
  have hts := X.1.2.2.2.2
  have hZ := X.2.2.2
  intro n9
  induction n9 with
  | zero =>
    intro a4 I tq v9 H locs ls hf
    exact nomatch hf
  | succ n9 ih =>
    intro a4 I tq v9 H locs ls hf KK K1 hP hS hl
    rw [fX2_spells_L30] at hf
    refine lv_iload hx hb dX2_spells_30 (lv_at hl 0 rfl) ?_
    refine lv_aload_n hx hb dX2_spells_32 rfl (lv_at hl 2 rfl) ?_
    refine zr_slenK_X2 (rest := [.int a4]) X hP hS hw hl.1 (Nat.le_of_ble_eq_true rfl) ⟨Nat.le_of_ble_eq_true rfl, Nat.le_of_ble_eq_true rfl⟩ ⟨Nat.le_of_ble_eq_true rfl, Nat.le_of_ble_eq_true rfl⟩ dX2_spells_33 (fun H locs hP hS => ?_)
    refine lv_icmp_ge (tgt := 65) hx hb dX2_spells_36 (by decide) (fun hc => ?_) (fun hc => ?_)
    · have hf := if_t hc hf
      cases hf
      exact KK rfl H locs ls hP hS (lv_sub hl [] rfl)
    · have hf := if_f hc hf
      refine lv_aload_n hx hb dX2_spells_39 rfl (lv_at hl 1 rfl) ?_
      refine gf_X2_9 X hnI hP zk_56 dX2_spells_40 ?_
      refine lv_iload_n hx hb dX2_spells_43 rfl (lv_at hl 3 rfl) ?_
      refine lv_iload hx hb dX2_spells_44 (lv_at hl 0 rfl) ?_
      refine lv_iadd hx hb dX2_spells_46 ?_
      obtain ⟨x2, hx2, hf⟩ := ob_e hf
      refine zr_aldI X hP hnI zk_57 hx2 dX2_spells_47 ?_
      refine lv_aload_n hx hb dX2_spells_48 rfl (lv_at hl 2 rfl) ?_
      refine lv_iload hx hb dX2_spells_49 (lv_at hl 0 rfl) ?_
      obtain ⟨x3, hx3, hf⟩ := ob_e hf
      refine zr_charK_X2 (rest := [.int x2]) X hP hS hw hx3 hl.1 (Nat.le_of_ble_eq_true rfl) ⟨Nat.le_of_ble_eq_true rfl, Nat.le_of_ble_eq_true rfl⟩ ⟨Nat.le_of_ble_eq_true rfl, Nat.le_of_ble_eq_true rfl⟩ dX2_spells_51 (fun H locs hP hS => ?_)
      refine lv_icmp_eq (tgt := 59) hx hb dX2_spells_54 (by decide) (fun hc => ?_) (fun hc => ?_)
      · have hf := if_t hc hf
        refine lv_iinc (v := (a4 + (1 : Int32))) (lv' := [(4, .int (a4 + (1 : Int32))), (0, .ref (g.2.2 + 56)), (1, .ref (zb_aK g w)), (2, .int a2)]) hx hb dX2_spells_59 hl (k := 0) rfl rfl (by decide) rfl (fun ls hl => ?_)
        refine lv_goto (tgt := 30) hx hb dX2_spells_62 (by decide) ?_
        exact ih hf KK K1 hP hS (lv_sub hl [0, 1, 2, 3] rfl)
      · have hf := if_f hc hf
        refine lv_iconst (v := (0 : Int32)) hx hb dX2_spells_57 (by decide) ?_
        cases hf
        exact K1 rfl H locs ls 58 dX2_spells_58 hP hS
set_option maxHeartbeats 4000000 in
set_option maxRecDepth 100000 in
theorem ct_X2_spells {g : zb_G} {nc : Nat} (hnI : 306 ≤ nc) (l : Launch) {w : Nat} (hw : w < 9) {a2 : Int32} {I J O : Mem} {r9 : Int32} (hf : fX2_spells w a2 I = some r9) : zb_Ct l g nc yX2_spells cX2_spells 5 (some .boolean) 5 125 [.ref (g.2.2 + 56), .ref (zb_aK g w), .int a2] (zb_ce g I J O) (some (.int r9)) (zb_ce g I J O) := by
  refine zb_ofW (own := RX2) (by decide +kernel) rfl (Nat.le_of_ble_eq_true rfl) ?_
  intro p e s m args below meth c ls X hr hP hl
  have hx := X.1.1
  have hb := X.1.2.1
  have ho := X.1.2.2.2.1
  have hts := X.1.2.2.2.2
  have hZ := X.2.2.2
  have hl : lv_has ls 5 [(0, .ref (g.2.2 + 56)), (1, .ref (zb_aK g w)), (2, .int a2)] := hl
  have hS : va_S (zb_A g) s.heap s.heap [] := va_S.rf
  obtain ⟨H, hH⟩ : ∃ H, H = s.heap := ⟨_, rfl⟩
  obtain ⟨locs, hlocs⟩ : ∃ z : List Loc, z = [] := ⟨_, rfl⟩
  rw [← hH] at hP
  have hS : va_S (zb_A g) s.heap H locs := by rw [hH, hlocs]; exact hS
  show W p l e _ s m args below meth c s.heap [] 0 0 _ _
  rw [← hH, ← hlocs]
  rw [fX2_spells] at hf
  refine lv_iload_n hx hb dX2_spells_0 rfl (lv_at hl 2 rfl) ?_
  refine lv_aload_n hx hb dX2_spells_1 rfl (lv_at hl 1 rfl) ?_
  refine zr_slenK_X2 (rest := [.int a2]) X hP hS hw hl.1 (Nat.le_of_ble_eq_true rfl) ⟨Nat.le_of_ble_eq_true rfl, Nat.le_of_ble_eq_true rfl⟩ ⟨Nat.le_of_ble_eq_true rfl, Nat.le_of_ble_eq_true rfl⟩ dX2_spells_2 (fun H locs hP hS => ?_)
  refine lv_iadd hx hb dX2_spells_5 ?_
  refine lv_istore_n (lv' := [(3, .int (a2 + (zb_sl w))), (0, .ref (g.2.2 + 56)), (1, .ref (zb_aK g w)), (2, .int a2)]) hx hb dX2_spells_6 rfl hl (by decide) rfl (fun ls hl => ?_)
  refine lv_iload_n hx hb dX2_spells_7 rfl (lv_at hl 0 rfl) ?_
  refine lv_aload_n hx hb dX2_spells_8 rfl (lv_at hl 1 rfl) ?_
  refine gf_X2_15 X hnI hP zk_56 dX2_spells_9 ?_
  refine lv_icmp_gt (tgt := 25) hx hb dX2_spells_12 (by decide) (fun hc => ?_) (fun hc => ?_)
  · have hf := if_t hc hf
    refine lv_iconst (v := (0 : Int32)) hx hb dX2_spells_25 (by decide) ?_
    obtain ⟨v9, hv9, hf⟩ := ob_e hf
    obtain ⟨hn9, he9⟩ := zbo_e hv9
    cases hf
    cases he9
    exact zr_zret X hr hn9 hP hS dX2_spells_26
  · have hf := if_f hc hf
    refine lv_aload_n hx hb dX2_spells_15 rfl (lv_at hl 1 rfl) ?_
    refine lv_iload_n hx hb dX2_spells_16 rfl (lv_at hl 0 rfl) ?_
    obtain ⟨x1, hx1, hf⟩ := ob_e hf
    refine zr_cVi (rest := []) (As := [.int (a2 + (zb_sl w))]) X hP hS (ct_X2_kindOfByte (g := g) (nc := nc) (I := I) (J := J) (O := O) hnI l  hx1) cw_X2_37 (zr_recv X hP (Nat.lt_of_lt_of_le (zk_56).1 hnI) (zb_ceIo zk_56 (by decide)) rfl) rfl hl.1 (Nat.le_of_ble_eq_true rfl) ⟨Nat.le_of_ble_eq_true rfl, Nat.le_of_ble_eq_true rfl⟩ ⟨Nat.le_of_ble_eq_true rfl, Nat.le_of_ble_eq_true rfl⟩ dX2_spells_17 rfl (fun H locs hP hS => ?_)
    refine lv_bipush (v := (6 : Int32)) hx hb dX2_spells_20 (by decide) ?_
    refine lv_icmp_ne (tgt := 27) hx hb dX2_spells_22 (by decide) (fun hc => ?_) (fun hc => ?_)
    · have hf := if_f hc hf
      refine lv_iconst (v := (0 : Int32)) hx hb dX2_spells_27 (by decide) ?_
      refine lv_istore (lv' := [(4, .int (0 : Int32)), (3, .int (a2 + (zb_sl w))), (0, .ref (g.2.2 + 56)), (1, .ref (zb_aK g w)), (2, .int a2)]) hx hb dX2_spells_28 hl (by decide) rfl (fun ls hl => ?_)
      obtain ⟨t4, x5, ht4_x5, hf⟩ := ob2_e hf
      have K1 : t4 = 0 → ∀ (H : Heap) (locs : List Loc) (ls : Array Slot), va_P g.1 vwCl (zb_ws g nc (zb_ce g I J O)) H → va_S (zb_A g) s.heap H locs → lv_has ls 5 [] → W p l e { frames := 5, cells := 0, slots := 0, locals := 125 } s m args below meth c H locs 0 0 (MQ below (zb_Po g nc (zb_ce g I J O) (some (.int r9))) args s 0 0 (zb_A g)) (F0 m 65 ls []) := by
        intro he H locs ls hP hS hl
        have hf := if_f (by rw [he]; decide) hf
        refine lv_iconst (v := (1 : Int32)) hx hb dX2_spells_65 (by decide) ?_
        obtain ⟨v9, hv9, hf⟩ := ob_e hf
        obtain ⟨hn9, he9⟩ := zbo_e hv9
        cases hf
        cases he9
        exact zr_zret X hr hn9 hP hS dX2_spells_66
      have K2 : t4 = 1 → ∀ (H : Heap) (locs : List Loc) (ls : Array Slot) (pc : Nat), decode cX2_spells pc = .ok (.ireturn, 1) → va_P g.1 vwCl (zb_ws g nc (zb_ce g I J O)) H → va_S (zb_A g) s.heap H locs → W p l e { frames := 5, cells := 0, slots := 0, locals := 125 } s m args below meth c H locs 0 0 (MQ below (zb_Po g nc (zb_ce g I J O) (some (.int r9))) args s 0 0 (zb_A g)) (F0 m pc ls [.int x5]) := by
        intro he H locs ls pc hd hP hS
        have hf := if_t he hf
        obtain ⟨v9, hv9, hf⟩ := ob_e hf
        obtain ⟨hn9, he9⟩ := zbo_e hv9
        cases hf
        cases he9
        exact zr_zret X hr hn9 hP hS hd
      exact lpX2_spells_L30 hnI l hw X ht4_x5 K1 K2 hP hS (lv_sub hl [0, 2, 3, 4] rfl)
    · have hf := if_t hc hf
      refine lv_iconst (v := (0 : Int32)) hx hb dX2_spells_25 (by decide) ?_
      obtain ⟨v9, hv9, hf⟩ := ob_e hf
      obtain ⟨hn9, he9⟩ := zbo_e hv9
      cases hf
      cases he9
      exact zr_zret X hr hn9 hP hS dX2_spells_26
set_option maxHeartbeats 4000000 in
set_option maxRecDepth 100000 in
theorem ct_X2_wordAt {g : zb_G} {nc : Nat} (hnI : 306 ≤ nc) (l : Launch) {a1 : Int32} {I J O : Mem} {r9 : Int32} (hf : fX2_wordAt a1 I = some r9) : zb_Ct l g nc yX2_wordAt cX2_wordAt 2 (some .int) 6 149 [.ref (g.2.2 + 56), .int a1] (zb_ce g I J O) (some (.int r9)) (zb_ce g I J O) := by
  refine zb_ofW (own := RX2) (by decide +kernel) rfl (Nat.le_of_ble_eq_true rfl) ?_
  intro p e s m args below meth c ls X hr hP hl
  have hx := X.1.1
  have hb := X.1.2.1
  have ho := X.1.2.2.2.1
  have hts := X.1.2.2.2.2
  have hZ := X.2.2.2
  have hl : lv_has ls 2 [(0, .ref (g.2.2 + 56)), (1, .int a1)] := hl
  have hS : va_S (zb_A g) s.heap s.heap [] := va_S.rf
  obtain ⟨H, hH⟩ : ∃ H, H = s.heap := ⟨_, rfl⟩
  obtain ⟨locs, hlocs⟩ : ∃ z : List Loc, z = [] := ⟨_, rfl⟩
  rw [← hH] at hP
  have hS : va_S (zb_A g) s.heap H locs := by rw [hH, hlocs]; exact hS
  show W p l e _ s m args below meth c s.heap [] 0 0 _ _
  rw [← hH, ← hlocs]
  rw [fX2_wordAt] at hf
  refine lv_aload_n hx hb dX2_wordAt_0 rfl (lv_at hl 0 rfl) ?_
  refine zr_str X (hZ.2.2.2.1 0 (by decide)).1 dX2_wordAt_1 ?_
  refine lv_iload_n hx hb dX2_wordAt_3 rfl (lv_at hl 1 rfl) ?_
  obtain ⟨x1, hx1, hf⟩ := ob_e hf
  refine zr_cVi (rest := []) (As := [.ref (zb_aK g 0), .int a1]) X hP hS (ct_X2_spells (g := g) (nc := nc) (I := I) (J := J) (O := O) hnI l (by decide) hx1) cw_X2_53 (zr_recv X hP (Nat.lt_of_lt_of_le (zk_56).1 hnI) (zb_ceIo zk_56 (by decide)) rfl) rfl hl.1 (Nat.le_of_ble_eq_true rfl) ⟨Nat.le_of_ble_eq_true rfl, Nat.le_of_ble_eq_true rfl⟩ ⟨Nat.le_of_ble_eq_true rfl, Nat.le_of_ble_eq_true rfl⟩ dX2_wordAt_4 rfl (fun H locs hP hS => ?_)
  refine lv_if_eq (tgt := 13) hx hb dX2_wordAt_7 (by decide) (fun hc => ?_) (fun hc => ?_)
  · have hf := if_t hc hf
    refine lv_aload_n hx hb dX2_wordAt_13 rfl (lv_at hl 0 rfl) ?_
    refine zr_str X (hZ.2.2.2.1 1 (by decide)).1 dX2_wordAt_14 ?_
    refine lv_iload_n hx hb dX2_wordAt_16 rfl (lv_at hl 1 rfl) ?_
    obtain ⟨x2, hx2, hf⟩ := ob_e hf
    refine zr_cVi (rest := []) (As := [.ref (zb_aK g 1), .int a1]) X hP hS (ct_X2_spells (g := g) (nc := nc) (I := I) (J := J) (O := O) hnI l (by decide) hx2) cw_X2_53 (zr_recv X hP (Nat.lt_of_lt_of_le (zk_56).1 hnI) (zb_ceIo zk_56 (by decide)) rfl) rfl hl.1 (Nat.le_of_ble_eq_true rfl) ⟨Nat.le_of_ble_eq_true rfl, Nat.le_of_ble_eq_true rfl⟩ ⟨Nat.le_of_ble_eq_true rfl, Nat.le_of_ble_eq_true rfl⟩ dX2_wordAt_17 rfl (fun H locs hP hS => ?_)
    refine lv_if_eq (tgt := 26) hx hb dX2_wordAt_20 (by decide) (fun hc => ?_) (fun hc => ?_)
    · have hf := if_t hc hf
      refine lv_aload_n hx hb dX2_wordAt_26 rfl (lv_at hl 0 rfl) ?_
      refine zr_str X (hZ.2.2.2.1 2 (by decide)).1 dX2_wordAt_27 ?_
      refine lv_iload_n hx hb dX2_wordAt_29 rfl (lv_at hl 1 rfl) ?_
      obtain ⟨x3, hx3, hf⟩ := ob_e hf
      refine zr_cVi (rest := []) (As := [.ref (zb_aK g 2), .int a1]) X hP hS (ct_X2_spells (g := g) (nc := nc) (I := I) (J := J) (O := O) hnI l (by decide) hx3) cw_X2_53 (zr_recv X hP (Nat.lt_of_lt_of_le (zk_56).1 hnI) (zb_ceIo zk_56 (by decide)) rfl) rfl hl.1 (Nat.le_of_ble_eq_true rfl) ⟨Nat.le_of_ble_eq_true rfl, Nat.le_of_ble_eq_true rfl⟩ ⟨Nat.le_of_ble_eq_true rfl, Nat.le_of_ble_eq_true rfl⟩ dX2_wordAt_30 rfl (fun H locs hP hS => ?_)
      refine lv_if_eq (tgt := 39) hx hb dX2_wordAt_33 (by decide) (fun hc => ?_) (fun hc => ?_)
      · have hf := if_t hc hf
        refine lv_aload_n hx hb dX2_wordAt_39 rfl (lv_at hl 0 rfl) ?_
        refine zr_str X (hZ.2.2.2.1 3 (by decide)).1 dX2_wordAt_40 ?_
        refine lv_iload_n hx hb dX2_wordAt_42 rfl (lv_at hl 1 rfl) ?_
        obtain ⟨x4, hx4, hf⟩ := ob_e hf
        refine zr_cVi (rest := []) (As := [.ref (zb_aK g 3), .int a1]) X hP hS (ct_X2_spells (g := g) (nc := nc) (I := I) (J := J) (O := O) hnI l (by decide) hx4) cw_X2_53 (zr_recv X hP (Nat.lt_of_lt_of_le (zk_56).1 hnI) (zb_ceIo zk_56 (by decide)) rfl) rfl hl.1 (Nat.le_of_ble_eq_true rfl) ⟨Nat.le_of_ble_eq_true rfl, Nat.le_of_ble_eq_true rfl⟩ ⟨Nat.le_of_ble_eq_true rfl, Nat.le_of_ble_eq_true rfl⟩ dX2_wordAt_43 rfl (fun H locs hP hS => ?_)
        refine lv_if_eq (tgt := 52) hx hb dX2_wordAt_46 (by decide) (fun hc => ?_) (fun hc => ?_)
        · have hf := if_t hc hf
          refine lv_aload_n hx hb dX2_wordAt_52 rfl (lv_at hl 0 rfl) ?_
          refine zr_str X (hZ.2.2.2.1 4 (by decide)).1 dX2_wordAt_53 ?_
          refine lv_iload_n hx hb dX2_wordAt_55 rfl (lv_at hl 1 rfl) ?_
          obtain ⟨x5, hx5, hf⟩ := ob_e hf
          refine zr_cVi (rest := []) (As := [.ref (zb_aK g 4), .int a1]) X hP hS (ct_X2_spells (g := g) (nc := nc) (I := I) (J := J) (O := O) hnI l (by decide) hx5) cw_X2_53 (zr_recv X hP (Nat.lt_of_lt_of_le (zk_56).1 hnI) (zb_ceIo zk_56 (by decide)) rfl) rfl hl.1 (Nat.le_of_ble_eq_true rfl) ⟨Nat.le_of_ble_eq_true rfl, Nat.le_of_ble_eq_true rfl⟩ ⟨Nat.le_of_ble_eq_true rfl, Nat.le_of_ble_eq_true rfl⟩ dX2_wordAt_56 rfl (fun H locs hP hS => ?_)
          refine lv_if_eq (tgt := 65) hx hb dX2_wordAt_59 (by decide) (fun hc => ?_) (fun hc => ?_)
          · have hf := if_t hc hf
            refine lv_aload_n hx hb dX2_wordAt_65 rfl (lv_at hl 0 rfl) ?_
            refine zr_str X (hZ.2.2.2.1 5 (by decide)).1 dX2_wordAt_66 ?_
            refine lv_iload_n hx hb dX2_wordAt_68 rfl (lv_at hl 1 rfl) ?_
            obtain ⟨x6, hx6, hf⟩ := ob_e hf
            refine zr_cVi (rest := []) (As := [.ref (zb_aK g 5), .int a1]) X hP hS (ct_X2_spells (g := g) (nc := nc) (I := I) (J := J) (O := O) hnI l (by decide) hx6) cw_X2_53 (zr_recv X hP (Nat.lt_of_lt_of_le (zk_56).1 hnI) (zb_ceIo zk_56 (by decide)) rfl) rfl hl.1 (Nat.le_of_ble_eq_true rfl) ⟨Nat.le_of_ble_eq_true rfl, Nat.le_of_ble_eq_true rfl⟩ ⟨Nat.le_of_ble_eq_true rfl, Nat.le_of_ble_eq_true rfl⟩ dX2_wordAt_69 rfl (fun H locs hP hS => ?_)
            refine lv_if_eq (tgt := 78) hx hb dX2_wordAt_72 (by decide) (fun hc => ?_) (fun hc => ?_)
            · have hf := if_t hc hf
              refine lv_aload_n hx hb dX2_wordAt_78 rfl (lv_at hl 0 rfl) ?_
              refine zr_str X (hZ.2.2.2.1 6 (by decide)).1 dX2_wordAt_79 ?_
              refine lv_iload_n hx hb dX2_wordAt_81 rfl (lv_at hl 1 rfl) ?_
              obtain ⟨x7, hx7, hf⟩ := ob_e hf
              refine zr_cVi (rest := []) (As := [.ref (zb_aK g 6), .int a1]) X hP hS (ct_X2_spells (g := g) (nc := nc) (I := I) (J := J) (O := O) hnI l (by decide) hx7) cw_X2_53 (zr_recv X hP (Nat.lt_of_lt_of_le (zk_56).1 hnI) (zb_ceIo zk_56 (by decide)) rfl) rfl hl.1 (Nat.le_of_ble_eq_true rfl) ⟨Nat.le_of_ble_eq_true rfl, Nat.le_of_ble_eq_true rfl⟩ ⟨Nat.le_of_ble_eq_true rfl, Nat.le_of_ble_eq_true rfl⟩ dX2_wordAt_82 rfl (fun H locs hP hS => ?_)
              refine lv_if_eq (tgt := 91) hx hb dX2_wordAt_85 (by decide) (fun hc => ?_) (fun hc => ?_)
              · have hf := if_t hc hf
                refine lv_aload_n hx hb dX2_wordAt_91 rfl (lv_at hl 0 rfl) ?_
                refine zr_str X (hZ.2.2.2.1 7 (by decide)).1 dX2_wordAt_92 ?_
                refine lv_iload_n hx hb dX2_wordAt_94 rfl (lv_at hl 1 rfl) ?_
                obtain ⟨x8, hx8, hf⟩ := ob_e hf
                refine zr_cVi (rest := []) (As := [.ref (zb_aK g 7), .int a1]) X hP hS (ct_X2_spells (g := g) (nc := nc) (I := I) (J := J) (O := O) hnI l (by decide) hx8) cw_X2_53 (zr_recv X hP (Nat.lt_of_lt_of_le (zk_56).1 hnI) (zb_ceIo zk_56 (by decide)) rfl) rfl hl.1 (Nat.le_of_ble_eq_true rfl) ⟨Nat.le_of_ble_eq_true rfl, Nat.le_of_ble_eq_true rfl⟩ ⟨Nat.le_of_ble_eq_true rfl, Nat.le_of_ble_eq_true rfl⟩ dX2_wordAt_95 rfl (fun H locs hP hS => ?_)
                refine lv_if_eq (tgt := 104) hx hb dX2_wordAt_98 (by decide) (fun hc => ?_) (fun hc => ?_)
                · have hf := if_t hc hf
                  refine lv_aload_n hx hb dX2_wordAt_104 rfl (lv_at hl 0 rfl) ?_
                  refine zr_str X (hZ.2.2.2.1 8 (by decide)).1 dX2_wordAt_105 ?_
                  refine lv_iload_n hx hb dX2_wordAt_107 rfl (lv_at hl 1 rfl) ?_
                  obtain ⟨x9, hx9, hf⟩ := ob_e hf
                  refine zr_cVi (rest := []) (As := [.ref (zb_aK g 8), .int a1]) X hP hS (ct_X2_spells (g := g) (nc := nc) (I := I) (J := J) (O := O) hnI l (by decide) hx9) cw_X2_53 (zr_recv X hP (Nat.lt_of_lt_of_le (zk_56).1 hnI) (zb_ceIo zk_56 (by decide)) rfl) rfl hl.1 (Nat.le_of_ble_eq_true rfl) ⟨Nat.le_of_ble_eq_true rfl, Nat.le_of_ble_eq_true rfl⟩ ⟨Nat.le_of_ble_eq_true rfl, Nat.le_of_ble_eq_true rfl⟩ dX2_wordAt_108 rfl (fun H locs hP hS => ?_)
                  obtain ⟨x10, ht, hf⟩ := pl_e hf
                  have K1 : ∀ (H : Heap) (locs : List Loc) (ls : Array Slot), va_P g.1 vwCl (zb_ws g nc (zb_ce g I J O)) H → va_S (zb_A g) s.heap H locs → lv_has ls 2 [] → W p l e { frames := 6, cells := 0, slots := 0, locals := 149 } s m args below meth c H locs 0 0 (MQ below (zb_Po g nc (zb_ce g I J O) (some (.int r9))) args s 0 0 (zb_A g)) (F0 m 120 ls [.int x10]) := by
                    intro H locs ls hP hS hl
                    cases hf
                    exact zr_iret X hr hP hS dX2_wordAt_120
                  have hf := ht
                  refine lv_if_eq (tgt := 119) hx hb dX2_wordAt_111 (by decide) (fun hc => ?_) (fun hc => ?_)
                  · have hf := if_t hc hf
                    refine lv_iconst (v := (4 : Int32)) hx hb dX2_wordAt_119 (by decide) ?_
                    cases hf
                    exact K1 H locs ls hP hS (lv_sub hl [] rfl)
                  · have hf := if_f hc hf
                    refine lv_bipush (v := (15 : Int32)) hx hb dX2_wordAt_114 (by decide) ?_
                    refine lv_goto (tgt := 120) hx hb dX2_wordAt_116 (by decide) ?_
                    cases hf
                    exact K1 H locs ls hP hS (lv_sub hl [] rfl)
                · have hf := if_f hc hf
                  refine lv_bipush (v := (14 : Int32)) hx hb dX2_wordAt_101 (by decide) ?_
                  cases hf
                  exact zr_iret X hr hP hS dX2_wordAt_103
              · have hf := if_f hc hf
                refine lv_bipush (v := (13 : Int32)) hx hb dX2_wordAt_88 (by decide) ?_
                cases hf
                exact zr_iret X hr hP hS dX2_wordAt_90
            · have hf := if_f hc hf
              refine lv_bipush (v := (12 : Int32)) hx hb dX2_wordAt_75 (by decide) ?_
              cases hf
              exact zr_iret X hr hP hS dX2_wordAt_77
          · have hf := if_f hc hf
            refine lv_bipush (v := (11 : Int32)) hx hb dX2_wordAt_62 (by decide) ?_
            cases hf
            exact zr_iret X hr hP hS dX2_wordAt_64
        · have hf := if_f hc hf
          refine lv_bipush (v := (10 : Int32)) hx hb dX2_wordAt_49 (by decide) ?_
          cases hf
          exact zr_iret X hr hP hS dX2_wordAt_51
      · have hf := if_f hc hf
        refine lv_bipush (v := (9 : Int32)) hx hb dX2_wordAt_36 (by decide) ?_
        cases hf
        exact zr_iret X hr hP hS dX2_wordAt_38
    · have hf := if_f hc hf
      refine lv_bipush (v := (8 : Int32)) hx hb dX2_wordAt_23 (by decide) ?_
      cases hf
      exact zr_iret X hr hP hS dX2_wordAt_25
  · have hf := if_f hc hf
    refine lv_bipush (v := (7 : Int32)) hx hb dX2_wordAt_10 (by decide) ?_
    cases hf
    exact zr_iret X hr hP hS dX2_wordAt_12
set_option maxHeartbeats 4000000 in
set_option maxRecDepth 100000 in
theorem lpX2_scan_L6 {g : zb_G} {nc : Nat} (hnI : 306 ≤ nc) (l : Launch) {J O : Mem} {p : Program} {e : Env} {s : State} {m : MethodId} {args : Array Value} {below : List Frame} {meth : Method} {c : Code} {Q : State → Prop} (X : zb_X g p m c cX2_scan 6 s args RX2 meth) : ∀ {n9 : Nat} {a3 : Int32} {a2 : Int32} {a1 : Int32} {I : Mem} {z1 : Int32} {Iz : Mem} {H : Heap} {locs : List Loc} {ls : Array Slot}, fX2_scan_L6 n9 a3 a2 a1 I = some (z1, Iz) → (∀ (H : Heap) (locs : List Loc) (ls : Array Slot), va_P g.1 vwCl (zb_ws g nc (zb_ce g Iz J O)) H → va_S (zb_A g) s.heap H locs → lv_has ls 6 [(1, .int z1), (0, .ref (g.2.2 + 56))] → W p l e { frames := 7, cells := 0, slots := 0, locals := 170 } s m args below meth c H locs 0 0 Q (F0 m 151 ls [])) → va_P g.1 vwCl (zb_ws g nc (zb_ce g I J O)) H → va_S (zb_A g) s.heap H locs → lv_has ls 6 [(3, .int a3), (2, .int a2), (1, .int a1), (0, .ref (g.2.2 + 56))] → W p l e { frames := 7, cells := 0, slots := 0, locals := 170 } s m args below meth c H locs 0 0 Q (F0 m 6 ls []) := by
  have hx := X.1.1
  have hb := X.1.2.1
  have ho := X.1.2.2.2.1
  have hts := X.1.2.2.2.2
  have hZ := X.2.2.2
  intro n9
  induction n9 with
  | zero =>
    intro a3 a2 a1 I z1 Iz H locs ls hf
    exact nomatch hf
  | succ n9 ih =>
    intro a3 a2 a1 I z1 Iz H locs ls hf KK hP hS hl
    rw [fX2_scan_L6] at hf
    refine lv_iload_n hx hb dX2_scan_6 rfl (lv_at hl 0 rfl) ?_
    refine lv_aload_n hx hb dX2_scan_7 rfl (lv_at hl 3 rfl) ?_
    refine gf_X2_15 X hnI hP zk_56 dX2_scan_8 ?_
    refine lv_icmp_ge (tgt := 151) hx hb dX2_scan_11 (by decide) (fun hc => ?_) (fun hc => ?_)
    · have hf := if_t hc hf
      cases hf
      exact KK H locs ls hP hS (lv_sub hl [2, 3] rfl)
    · have hf := if_f hc hf
      refine lv_aload_n hx hb dX2_scan_14 rfl (lv_at hl 3 rfl) ?_
      refine lv_iload_n hx hb dX2_scan_15 rfl (lv_at hl 0 rfl) ?_
      obtain ⟨x1, hx1, hf⟩ := ob_e hf
      refine zr_cVi (rest := []) (As := [.int a3]) X hP hS (ct_X2_kindOfByte (g := g) (nc := nc) (I := I) (J := J) (O := O) hnI l  hx1) cw_X2_37 (zr_recv X hP (Nat.lt_of_lt_of_le (zk_56).1 hnI) (zb_ceIo zk_56 (by decide)) rfl) rfl hl.1 (Nat.le_of_ble_eq_true rfl) ⟨Nat.le_of_ble_eq_true rfl, Nat.le_of_ble_eq_true rfl⟩ ⟨Nat.le_of_ble_eq_true rfl, Nat.le_of_ble_eq_true rfl⟩ dX2_scan_16 rfl (fun H locs hP hS => ?_)
      refine lv_istore (lv' := [(4, .int x1), (3, .int a3), (2, .int a2), (1, .int a1), (0, .ref (g.2.2 + 56))]) hx hb dX2_scan_19 hl (by decide) rfl (fun ls hl => ?_)
      refine lv_iload hx hb dX2_scan_21 (lv_at hl 0 rfl) ?_
      refine lv_iload_n hx hb dX2_scan_23 rfl (lv_at hl 2 rfl) ?_
      obtain ⟨x2, ht, hf⟩ := pl_e hf
      have K1 : ∀ (H : Heap) (locs : List Loc) (ls : Array Slot), va_P g.1 vwCl (zb_ws g nc (zb_ce g I J O)) H → va_S (zb_A g) s.heap H locs → lv_has ls 6 [(4, .int x1), (3, .int a3), (1, .int a1), (0, .ref (g.2.2 + 56))] → W p l e { frames := 7, cells := 0, slots := 0, locals := 170 } s m args below meth c H locs 0 0 Q (F0 m 45 ls [.int x2]) := by
        intro H locs ls hP hS hl
        refine lv_istore (lv' := [(5, .int x2), (4, .int x1), (3, .int a3), (1, .int a1), (0, .ref (g.2.2 + 56))]) hx hb dX2_scan_45 hl (by decide) rfl (fun ls hl => ?_)
        refine lv_iload hx hb dX2_scan_47 (lv_at hl 1 rfl) ?_
        refine lv_iconst (v := (5 : Int32)) hx hb dX2_scan_49 (by decide) ?_
        obtain ⟨x8, I9, ht, hf⟩ := ob2_e hf
        have K2 : ∀ (H : Heap) (locs : List Loc) (ls : Array Slot), va_P g.1 vwCl (zb_ws g nc (zb_ce g I9 J O)) H → va_S (zb_A g) s.heap H locs → lv_has ls 6 [(4, .int x1), (3, .int a3), (1, .int x8), (0, .ref (g.2.2 + 56))] → W p l e { frames := 7, cells := 0, slots := 0, locals := 170 } s m args below meth c H locs 0 0 Q (F0 m 98 ls []) := by
          intro H locs ls hP hS hl
          refine lv_iload hx hb dX2_scan_98 (lv_at hl 0 rfl) ?_
          refine lv_iconst (v := (1 : Int32)) hx hb dX2_scan_100 (by decide) ?_
          obtain ⟨I13, ht, hf⟩ := ob_e hf
          have K3 : ∀ (H : Heap) (locs : List Loc) (ls : Array Slot), va_P g.1 vwCl (zb_ws g nc (zb_ce g I13 J O)) H → va_S (zb_A g) s.heap H locs → lv_has ls 6 [(4, .int x1), (3, .int a3), (1, .int x8), (0, .ref (g.2.2 + 56))] → W p l e { frames := 7, cells := 0, slots := 0, locals := 170 } s m args below meth c H locs 0 0 Q (F0 m 142 ls []) := by
            intro H locs ls hP hS hl
            refine lv_iload hx hb dX2_scan_142 (lv_at hl 0 rfl) ?_
            refine lv_istore_n (lv' := [(2, .int x1), (4, .int x1), (3, .int a3), (1, .int x8), (0, .ref (g.2.2 + 56))]) hx hb dX2_scan_144 rfl hl (by decide) rfl (fun ls hl => ?_)
            refine lv_iinc (v := (a3 + (1 : Int32))) (lv' := [(3, .int (a3 + (1 : Int32))), (2, .int x1), (4, .int x1), (1, .int x8), (0, .ref (g.2.2 + 56))]) hx hb dX2_scan_145 hl (k := 2) rfl rfl (by decide) rfl (fun ls hl => ?_)
            refine lv_goto (tgt := 6) hx hb dX2_scan_148 (by decide) ?_
            exact ih hf KK hP hS (lv_sub hl [0, 1, 3, 4] rfl)
          have hf := ht
          refine lv_icmp_ne (tgt := 142) hx hb dX2_scan_101 (by decide) (fun hc => ?_) (fun hc => ?_)
          · have hf := if_f hc hf
            cases hf
            exact K3 H locs ls hP hS (lv_sub hl [0, 1, 2, 3] rfl)
          · have hf := if_t hc hf
            refine lv_iload_n hx hb dX2_scan_104 rfl (lv_at hl 2 rfl) ?_
            refine lv_if_le (tgt := 142) hx hb dX2_scan_105 (by decide) (fun hc => ?_) (fun hc => ?_)
            · have hf := if_t hc hf
              cases hf
              exact K3 H locs ls hP hS (lv_sub hl [0, 1, 2, 3] rfl)
            · have hf := if_f hc hf
              refine lv_aload_n hx hb dX2_scan_108 rfl (lv_at hl 3 rfl) ?_
              refine gf_X2_25 X hnI hP zk_56 dX2_scan_109 ?_
              refine lv_iload_n hx hb dX2_scan_112 rfl (lv_at hl 2 rfl) ?_
              refine lv_iconst (v := (1 : Int32)) hx hb dX2_scan_113 (by decide) ?_
              refine lv_isub hx hb dX2_scan_114 ?_
              refine lv_ldc (v := (1000000 : Int32)) hx hb ho (hts _ wk_X2_44) dX2_scan_115 ?_
              refine lv_aload_n hx hb dX2_scan_117 rfl (lv_at hl 3 rfl) ?_
              refine gf_X2_25 X hnI hP zk_56 dX2_scan_118 ?_
              refine lv_iload_n hx hb dX2_scan_121 rfl (lv_at hl 2 rfl) ?_
              refine lv_iconst (v := (1 : Int32)) hx hb dX2_scan_122 (by decide) ?_
              refine lv_isub hx hb dX2_scan_123 ?_
              obtain ⟨x10, hx10, hf⟩ := ob_e hf
              refine zr_aldI X hP hnI zk_60 hx10 dX2_scan_124 ?_
              refine lv_bipush (v := (10 : Int32)) hx hb dX2_scan_125 (by decide) ?_
              refine lv_imul hx hb dX2_scan_127 ?_
              refine lv_aload_n hx hb dX2_scan_128 rfl (lv_at hl 3 rfl) ?_
              refine gf_X2_9 X hnI hP zk_56 dX2_scan_129 ?_
              refine lv_iload_n hx hb dX2_scan_132 rfl (lv_at hl 1 rfl) ?_
              obtain ⟨x11, hx11, hf⟩ := ob_e hf
              refine zr_aldI X hP hnI zk_57 hx11 dX2_scan_133 ?_
              refine lv_iadd hx hb dX2_scan_134 ?_
              refine lv_bipush (v := (48 : Int32)) hx hb dX2_scan_135 (by decide) ?_
              refine lv_isub hx hb dX2_scan_137 ?_
              refine zr_min X wk_X2_45 wm_min1 wm_min2 wm_min3 hl.1 (Nat.le_of_ble_eq_true rfl) (Nat.le_of_ble_eq_true rfl) ⟨Nat.le_of_ble_eq_true rfl, Nat.le_of_ble_eq_true rfl⟩ dX2_scan_138 ?_
              obtain ⟨I12, hI12, hf⟩ := ob_e hf
              refine zr_astI X hP hS hnI zk_60 hI12 dX2_scan_141 (fun H locs hP hS => ?_)
              cases hf
              exact K3 H locs ls hP hS (lv_sub hl [0, 1, 2, 3] rfl)
        have hf := ht
        refine lv_icmp_eq (tgt := 98) hx hb dX2_scan_50 (by decide) (fun hc => ?_) (fun hc => ?_)
        · have hf := if_t hc hf
          cases hf
          exact K2 H locs ls hP hS (lv_sub hl [1, 2, 3, 4] rfl)
        · have hf := if_f hc hf
          refine lv_iload hx hb dX2_scan_53 (lv_at hl 0 rfl) ?_
          refine lv_if_ne (tgt := 98) hx hb dX2_scan_55 (by decide) (fun hc => ?_) (fun hc => ?_)
          · have hf := if_f hc hf
            cases hf
            exact K2 H locs ls hP hS (lv_sub hl [1, 2, 3, 4] rfl)
          · have hf := if_t hc hf
            refine lv_aload_n hx hb dX2_scan_58 rfl (lv_at hl 4 rfl) ?_
            refine gf_X2_19 X hnI hP zk_56 dX2_scan_59 ?_
            refine lv_iload_n hx hb dX2_scan_62 rfl (lv_at hl 3 rfl) ?_
            refine lv_iload hx hb dX2_scan_63 (lv_at hl 1 rfl) ?_
            refine lv_bipush (v := (6 : Int32)) hx hb dX2_scan_65 (by decide) ?_
            obtain ⟨x4, ht, hf⟩ := ob_e hf
            have K4 : ∀ (H : Heap) (locs : List Loc) (ls : Array Slot), va_P g.1 vwCl (zb_ws g nc (zb_ce g I J O)) H → va_S (zb_A g) s.heap H locs → lv_has ls 6 [(4, .int x1), (3, .int a3), (1, .int a1), (0, .ref (g.2.2 + 56))] → W p l e { frames := 7, cells := 0, slots := 0, locals := 170 } s m args below meth c H locs 0 0 Q (F0 m 80 ls [.int x4, .int a1, .ref (g.2.2 + 58)]) := by
              intro H locs ls hP hS hl
              obtain ⟨I5, hI5, hf⟩ := ob_e hf
              refine zr_astI X hP hS hnI zk_58 hI5 dX2_scan_80 (fun H locs hP hS => ?_)
              refine lv_aload_n hx hb dX2_scan_81 rfl (lv_at hl 3 rfl) ?_
              refine gf_X2_22 X hnI hP zk_56 dX2_scan_82 ?_
              refine lv_iload_n hx hb dX2_scan_85 rfl (lv_at hl 2 rfl) ?_
              refine lv_iload_n hx hb dX2_scan_86 rfl (lv_at hl 1 rfl) ?_
              obtain ⟨I6, hI6, hf⟩ := ob_e hf
              refine zr_astI X hP hS hnI zk_59 hI6 dX2_scan_87 (fun H locs hP hS => ?_)
              refine lv_aload_n hx hb dX2_scan_88 rfl (lv_at hl 3 rfl) ?_
              refine gf_X2_25 X hnI hP zk_56 dX2_scan_89 ?_
              refine lv_iload_n hx hb dX2_scan_92 rfl (lv_at hl 2 rfl) ?_
              refine lv_iconst (v := (0 : Int32)) hx hb dX2_scan_93 (by decide) ?_
              obtain ⟨I7, hI7, hf⟩ := ob_e hf
              refine zr_astI X hP hS hnI zk_60 hI7 dX2_scan_94 (fun H locs hP hS => ?_)
              refine lv_iinc (v := (a1 + (1 : Int32))) (lv' := [(1, .int (a1 + (1 : Int32))), (4, .int x1), (3, .int a3), (0, .ref (g.2.2 + 56))]) hx hb dX2_scan_95 hl (k := 2) rfl rfl (by decide) rfl (fun ls hl => ?_)
              cases hf
              exact K2 H locs ls hP hS (lv_sub hl [1, 2, 0, 3] rfl)
            have hf := ht
            refine lv_icmp_ne (tgt := 78) hx hb dX2_scan_67 (by decide) (fun hc => ?_) (fun hc => ?_)
            · have hf := if_f hc hf
              refine lv_iload hx hb dX2_scan_78 (lv_at hl 1 rfl) ?_
              cases hf
              exact K4 H locs ls hP hS (lv_sub hl [1, 2, 3, 4] rfl)
            · have hf := if_t hc hf
              refine lv_aload_n hx hb dX2_scan_70 rfl (lv_at hl 4 rfl) ?_
              refine lv_iload_n hx hb dX2_scan_71 rfl (lv_at hl 2 rfl) ?_
              obtain ⟨x3, hx3, hf⟩ := ob_e hf
              refine zr_cVi (rest := [.int a1, .ref (g.2.2 + 58)]) (As := [.int a3]) X hP hS (ct_X2_wordAt (g := g) (nc := nc) (I := I) (J := J) (O := O) hnI l  hx3) cw_X2_41 (zr_recv X hP (Nat.lt_of_lt_of_le (zk_56).1 hnI) (zb_ceIo zk_56 (by decide)) rfl) rfl hl.1 (Nat.le_of_ble_eq_true rfl) ⟨Nat.le_of_ble_eq_true rfl, Nat.le_of_ble_eq_true rfl⟩ ⟨Nat.le_of_ble_eq_true rfl, Nat.le_of_ble_eq_true rfl⟩ dX2_scan_72 rfl (fun H locs hP hS => ?_)
              refine lv_goto (tgt := 80) hx hb dX2_scan_75 (by decide) ?_
              cases hf
              exact K4 H locs ls hP hS (lv_sub hl [1, 2, 3, 4] rfl)
      have hf := ht
      refine lv_icmp_ne (tgt := 44) hx hb dX2_scan_24 (by decide) (fun hc => ?_) (fun hc => ?_)
      · have hf := if_f hc hf
        refine lv_iconst (v := (0 : Int32)) hx hb dX2_scan_44 (by decide) ?_
        cases hf
        exact K1 H locs ls hP hS (lv_sub hl [0, 1, 3, 4] rfl)
      · have hf := if_t hc hf
        refine lv_iload hx hb dX2_scan_27 (lv_at hl 0 rfl) ?_
        refine lv_bipush (v := (6 : Int32)) hx hb dX2_scan_29 (by decide) ?_
        refine lv_icmp_eq (tgt := 40) hx hb dX2_scan_31 (by decide) (fun hc => ?_) (fun hc => ?_)
        · have hf := if_t hc hf
          refine lv_iconst (v := (1 : Int32)) hx hb dX2_scan_40 (by decide) ?_
          refine lv_goto (tgt := 45) hx hb dX2_scan_41 (by decide) ?_
          cases hf
          exact K1 H locs ls hP hS (lv_sub hl [0, 1, 3, 4] rfl)
        · have hf := if_f hc hf
          refine lv_iload hx hb dX2_scan_34 (lv_at hl 0 rfl) ?_
          refine lv_iconst (v := (1 : Int32)) hx hb dX2_scan_36 (by decide) ?_
          refine lv_icmp_ne (tgt := 44) hx hb dX2_scan_37 (by decide) (fun hc => ?_) (fun hc => ?_)
          · have hf := if_f hc hf
            refine lv_iconst (v := (0 : Int32)) hx hb dX2_scan_44 (by decide) ?_
            cases hf
            exact K1 H locs ls hP hS (lv_sub hl [0, 1, 3, 4] rfl)
          · have hf := if_t hc hf
            refine lv_iconst (v := (1 : Int32)) hx hb dX2_scan_40 (by decide) ?_
            refine lv_goto (tgt := 45) hx hb dX2_scan_41 (by decide) ?_
            cases hf
            exact K1 H locs ls hP hS (lv_sub hl [0, 1, 3, 4] rfl)
set_option maxHeartbeats 4000000 in
set_option maxRecDepth 100000 in
theorem ct_X2_scan {g : zb_G} {nc : Nat} (hnI : 306 ≤ nc) (l : Launch) {I J O : Mem} {Iq : Mem} (hf : fX2_scan I = some Iq) : zb_Ct l g nc yX2_scan cX2_scan 6 none 7 170 [.ref (g.2.2 + 56)] (zb_ce g I J O) none (zb_ce g Iq J O) := by
  refine zb_ofW (own := RX2) (by decide +kernel) rfl (Nat.le_of_ble_eq_true rfl) ?_
  intro p e s m args below meth c ls X hr hP hl
  have hx := X.1.1
  have hb := X.1.2.1
  have ho := X.1.2.2.2.1
  have hts := X.1.2.2.2.2
  have hZ := X.2.2.2
  have hl : lv_has ls 6 [(0, .ref (g.2.2 + 56))] := hl
  have hS : va_S (zb_A g) s.heap s.heap [] := va_S.rf
  obtain ⟨H, hH⟩ : ∃ H, H = s.heap := ⟨_, rfl⟩
  obtain ⟨locs, hlocs⟩ : ∃ z : List Loc, z = [] := ⟨_, rfl⟩
  rw [← hH] at hP
  have hS : va_S (zb_A g) s.heap H locs := by rw [hH, hlocs]; exact hS
  show W p l e _ s m args below meth c s.heap [] 0 0 _ _
  rw [← hH, ← hlocs]
  rw [fX2_scan] at hf
  refine lv_iconst (v := (0 : Int32)) hx hb dX2_scan_0 (by decide) ?_
  refine lv_istore_n (lv' := [(1, .int (0 : Int32)), (0, .ref (g.2.2 + 56))]) hx hb dX2_scan_1 rfl hl (by decide) rfl (fun ls hl => ?_)
  refine lv_iconst (v := (5 : Int32)) hx hb dX2_scan_2 (by decide) ?_
  refine lv_istore_n (lv' := [(2, .int (5 : Int32)), (1, .int (0 : Int32)), (0, .ref (g.2.2 + 56))]) hx hb dX2_scan_3 rfl hl (by decide) rfl (fun ls hl => ?_)
  refine lv_iconst (v := (0 : Int32)) hx hb dX2_scan_4 (by decide) ?_
  refine lv_istore_n (lv' := [(3, .int (0 : Int32)), (2, .int (5 : Int32)), (1, .int (0 : Int32)), (0, .ref (g.2.2 + 56))]) hx hb dX2_scan_5 rfl hl (by decide) rfl (fun ls hl => ?_)
  obtain ⟨x14, I15, hx14_I15, hf⟩ := ob2_e hf
  have K5 : ∀ (H : Heap) (locs : List Loc) (ls : Array Slot), va_P g.1 vwCl (zb_ws g nc (zb_ce g I15 J O)) H → va_S (zb_A g) s.heap H locs → lv_has ls 6 [(1, .int x14), (0, .ref (g.2.2 + 56))] → W p l e { frames := 7, cells := 0, slots := 0, locals := 170 } s m args below meth c H locs 0 0 (MQ below (zb_Po g nc (zb_ce g Iq J O) none) args s 0 0 (zb_A g)) (F0 m 151 ls []) := by
    intro H locs ls hP hS hl
    refine lv_aload_n hx hb dX2_scan_151 rfl (lv_at hl 1 rfl) ?_
    refine gf_X2_19 X hnI hP zk_56 dX2_scan_152 ?_
    refine lv_iload_n hx hb dX2_scan_155 rfl (lv_at hl 0 rfl) ?_
    refine lv_iconst (v := (0 : Int32)) hx hb dX2_scan_156 (by decide) ?_
    obtain ⟨I16, hI16, hf⟩ := ob_e hf
    refine zr_astI X hP hS hnI zk_58 hI16 dX2_scan_157 (fun H locs hP hS => ?_)
    refine lv_aload_n hx hb dX2_scan_158 rfl (lv_at hl 1 rfl) ?_
    refine gf_X2_22 X hnI hP zk_56 dX2_scan_159 ?_
    refine lv_iload_n hx hb dX2_scan_162 rfl (lv_at hl 0 rfl) ?_
    refine lv_aload_n hx hb dX2_scan_163 rfl (lv_at hl 1 rfl) ?_
    refine gf_X2_15 X hnI hP zk_56 dX2_scan_164 ?_
    obtain ⟨I17, hI17, hf⟩ := ob_e hf
    refine zr_astI X hP hS hnI zk_59 hI17 dX2_scan_167 (fun H locs hP hS => ?_)
    refine lv_aload_n hx hb dX2_scan_168 rfl (lv_at hl 1 rfl) ?_
    refine lv_iconst (v := (0 : Int32)) hx hb dX2_scan_169 (by decide) ?_
    refine pf_X2_28 X hnI hP hS zk_56 dX2_scan_170 (fun H locs hP hS => ?_)
    refine lv_aload_n hx hb dX2_scan_173 rfl (lv_at hl 1 rfl) ?_
    refine lv_iconst (v := (0 : Int32)) hx hb dX2_scan_174 (by decide) ?_
    refine pf_X2_31 X hnI hP hS zk_56 dX2_scan_175 (fun H locs hP hS => ?_)
    refine lv_aload_n hx hb dX2_scan_178 rfl (lv_at hl 1 rfl) ?_
    refine lv_iconst (v := (-1 : Int32)) hx hb dX2_scan_179 (by decide) ?_
    refine pf_X2_34 X hnI hP hS zk_56 dX2_scan_180 (fun H locs hP hS => ?_)
    cases hf
    exact zr_vret X hr hP hS rfl dX2_scan_183
  exact lpX2_scan_L6 hnI l  X hx14_I15 K5 hP hS (lv_sub hl [0, 1, 2, 3] rfl)
set_option maxHeartbeats 4000000 in
set_option maxRecDepth 100000 in
theorem ct_X2_kindNow {g : zb_G} {nc : Nat} (hnI : 306 ≤ nc) (l : Launch) {I J O : Mem} {r9 : Int32} (hf : fX2_kindNow I = some r9) : zb_Ct l g nc yX2_kindNow cX2_kindNow 1 (some .int) 0 0 [.ref (g.2.2 + 56)] (zb_ce g I J O) (some (.int r9)) (zb_ce g I J O) := by
  refine zb_ofW (own := RX2) (by decide +kernel) rfl (Nat.le_of_ble_eq_true rfl) ?_
  intro p e s m args below meth c ls X hr hP hl
  have hx := X.1.1
  have hb := X.1.2.1
  have ho := X.1.2.2.2.1
  have hts := X.1.2.2.2.2
  have hZ := X.2.2.2
  have hl : lv_has ls 1 [(0, .ref (g.2.2 + 56))] := hl
  have hS : va_S (zb_A g) s.heap s.heap [] := va_S.rf
  obtain ⟨H, hH⟩ : ∃ H, H = s.heap := ⟨_, rfl⟩
  obtain ⟨locs, hlocs⟩ : ∃ z : List Loc, z = [] := ⟨_, rfl⟩
  rw [← hH] at hP
  have hS : va_S (zb_A g) s.heap H locs := by rw [hH, hlocs]; exact hS
  show W p l e _ s m args below meth c s.heap [] 0 0 _ _
  rw [← hH, ← hlocs]
  rw [fX2_kindNow] at hf
  refine lv_aload_n hx hb dX2_kindNow_0 rfl (lv_at hl 0 rfl) ?_
  refine gf_X2_28 X hnI hP zk_56 dX2_kindNow_1 ?_
  obtain ⟨x2, ht, hf⟩ := ob_e hf
  have K1 : ∀ (H : Heap) (locs : List Loc) (ls : Array Slot), va_P g.1 vwCl (zb_ws g nc (zb_ce g I J O)) H → va_S (zb_A g) s.heap H locs → lv_has ls 1 [] → W p l e { frames := 0, cells := 0, slots := 0, locals := 0 } s m args below meth c H locs 0 0 (MQ below (zb_Po g nc (zb_ce g I J O) (some (.int r9))) args s 0 0 (zb_A g)) (F0 m 32 ls [.int x2]) := by
    intro H locs ls hP hS hl
    cases hf
    exact zr_iret X hr hP hS dX2_kindNow_32
  have hf := ht
  refine lv_if_lt (tgt := 31) hx hb dX2_kindNow_4 (by decide) (fun hc => ?_) (fun hc => ?_)
  · have hf := if_t hc hf
    refine lv_iconst (v := (0 : Int32)) hx hb dX2_kindNow_31 (by decide) ?_
    cases hf
    exact K1 H locs ls hP hS (lv_sub hl [] rfl)
  · have hf := if_f hc hf
    refine lv_aload_n hx hb dX2_kindNow_7 rfl (lv_at hl 0 rfl) ?_
    refine gf_X2_28 X hnI hP zk_56 dX2_kindNow_8 ?_
    refine lv_aload_n hx hb dX2_kindNow_11 rfl (lv_at hl 0 rfl) ?_
    refine gf_X2_19 X hnI hP zk_56 dX2_kindNow_12 ?_
    refine zr_alenI X hP hnI zk_58 dX2_kindNow_15 ?_
    refine lv_icmp_ge (tgt := 31) hx hb dX2_kindNow_16 (by decide) (fun hc => ?_) (fun hc => ?_)
    · have hf := if_t hc hf
      refine lv_iconst (v := (0 : Int32)) hx hb dX2_kindNow_31 (by decide) ?_
      cases hf
      exact K1 H locs ls hP hS (lv_sub hl [] rfl)
    · have hf := if_f hc hf
      refine lv_aload_n hx hb dX2_kindNow_19 rfl (lv_at hl 0 rfl) ?_
      refine gf_X2_19 X hnI hP zk_56 dX2_kindNow_20 ?_
      refine lv_aload_n hx hb dX2_kindNow_23 rfl (lv_at hl 0 rfl) ?_
      refine gf_X2_28 X hnI hP zk_56 dX2_kindNow_24 ?_
      obtain ⟨x1, hx1, hf⟩ := ob_e hf
      refine zr_aldI X hP hnI zk_58 hx1 dX2_kindNow_27 ?_
      refine lv_goto (tgt := 32) hx hb dX2_kindNow_28 (by decide) ?_
      cases hf
      exact K1 H locs ls hP hS (lv_sub hl [] rfl)
set_option maxHeartbeats 4000000 in
set_option maxRecDepth 100000 in
theorem ct_X2_hasMore {g : zb_G} {nc : Nat} (hnI : 306 ≤ nc) (l : Launch) {I J O : Mem} {r9 : Int32} (hf : fX2_hasMore I = some r9) : zb_Ct l g nc yX2_hasMore cX2_hasMore 1 (some .boolean) 1 20 [.ref (g.2.2 + 56)] (zb_ce g I J O) (some (.int r9)) (zb_ce g I J O) := by
  refine zb_ofW (own := RX2) (by decide +kernel) rfl (Nat.le_of_ble_eq_true rfl) ?_
  intro p e s m args below meth c ls X hr hP hl
  have hx := X.1.1
  have hb := X.1.2.1
  have ho := X.1.2.2.2.1
  have hts := X.1.2.2.2.2
  have hZ := X.2.2.2
  have hl : lv_has ls 1 [(0, .ref (g.2.2 + 56))] := hl
  have hS : va_S (zb_A g) s.heap s.heap [] := va_S.rf
  obtain ⟨H, hH⟩ : ∃ H, H = s.heap := ⟨_, rfl⟩
  obtain ⟨locs, hlocs⟩ : ∃ z : List Loc, z = [] := ⟨_, rfl⟩
  rw [← hH] at hP
  have hS : va_S (zb_A g) s.heap H locs := by rw [hH, hlocs]; exact hS
  show W p l e _ s m args below meth c s.heap [] 0 0 _ _
  rw [← hH, ← hlocs]
  rw [fX2_hasMore] at hf
  refine lv_aload_n hx hb dX2_hasMore_0 rfl (lv_at hl 0 rfl) ?_
  refine gf_X2_31 X hnI hP zk_56 dX2_hasMore_1 ?_
  obtain ⟨x2, ht, hf⟩ := ob_e hf
  have K1 : ∀ (H : Heap) (locs : List Loc) (ls : Array Slot), va_P g.1 vwCl (zb_ws g nc (zb_ce g I J O)) H → va_S (zb_A g) s.heap H locs → lv_has ls 1 [] → W p l e { frames := 1, cells := 0, slots := 0, locals := 20 } s m args below meth c H locs 0 0 (MQ below (zb_Po g nc (zb_ce g I J O) (some (.int r9))) args s 0 0 (zb_A g)) (F0 m 19 ls [.int x2]) := by
    intro H locs ls hP hS hl
    obtain ⟨v9, hv9, hf⟩ := ob_e hf
    obtain ⟨hn9, he9⟩ := zbo_e hv9
    cases hf
    cases he9
    exact zr_zret X hr hn9 hP hS dX2_hasMore_19
  have hf := ht
  refine lv_if_ne (tgt := 18) hx hb dX2_hasMore_4 (by decide) (fun hc => ?_) (fun hc => ?_)
  · have hf := if_f hc hf
    refine lv_iconst (v := (0 : Int32)) hx hb dX2_hasMore_18 (by decide) ?_
    cases hf
    exact K1 H locs ls hP hS (lv_sub hl [] rfl)
  · have hf := if_t hc hf
    refine lv_aload_n hx hb dX2_hasMore_7 rfl (lv_at hl 0 rfl) ?_
    obtain ⟨x1, hx1, hf⟩ := ob_e hf
    refine zr_cVi (rest := []) (As := []) X hP hS (ct_X2_kindNow (g := g) (nc := nc) (I := I) (J := J) (O := O) hnI l  hx1) cw_X2_82 (zr_recv X hP (Nat.lt_of_lt_of_le (zk_56).1 hnI) (zb_ceIo zk_56 (by decide)) rfl) rfl hl.1 (Nat.le_of_ble_eq_true rfl) ⟨Nat.le_of_ble_eq_true rfl, Nat.le_of_ble_eq_true rfl⟩ ⟨Nat.le_of_ble_eq_true rfl, Nat.le_of_ble_eq_true rfl⟩ dX2_hasMore_8 rfl (fun H locs hP hS => ?_)
    refine lv_if_eq (tgt := 18) hx hb dX2_hasMore_11 (by decide) (fun hc => ?_) (fun hc => ?_)
    · have hf := if_t hc hf
      refine lv_iconst (v := (0 : Int32)) hx hb dX2_hasMore_18 (by decide) ?_
      cases hf
      exact K1 H locs ls hP hS (lv_sub hl [] rfl)
    · have hf := if_f hc hf
      refine lv_iconst (v := (1 : Int32)) hx hb dX2_hasMore_14 (by decide) ?_
      refine lv_goto (tgt := 19) hx hb dX2_hasMore_15 (by decide) ?_
      cases hf
      exact K1 H locs ls hP hS (lv_sub hl [] rfl)
set_option maxHeartbeats 4000000 in
set_option maxRecDepth 100000 in
theorem ct_X2_isAtSigned {g : zb_G} {nc : Nat} (hnI : 306 ≤ nc) (l : Launch) {I J O : Mem} {r9 : Int32} (hf : fX2_isAtSigned I = some r9) : zb_Ct l g nc yX2_isAtSigned cX2_isAtSigned 1 (some .boolean) 1 20 [.ref (g.2.2 + 56)] (zb_ce g I J O) (some (.int r9)) (zb_ce g I J O) := by
  refine zb_ofW (own := RX2) (by decide +kernel) rfl (Nat.le_of_ble_eq_true rfl) ?_
  intro p e s m args below meth c ls X hr hP hl
  have hx := X.1.1
  have hb := X.1.2.1
  have ho := X.1.2.2.2.1
  have hts := X.1.2.2.2.2
  have hZ := X.2.2.2
  have hl : lv_has ls 1 [(0, .ref (g.2.2 + 56))] := hl
  have hS : va_S (zb_A g) s.heap s.heap [] := va_S.rf
  obtain ⟨H, hH⟩ : ∃ H, H = s.heap := ⟨_, rfl⟩
  obtain ⟨locs, hlocs⟩ : ∃ z : List Loc, z = [] := ⟨_, rfl⟩
  rw [← hH] at hP
  have hS : va_S (zb_A g) s.heap H locs := by rw [hH, hlocs]; exact hS
  show W p l e _ s m args below meth c s.heap [] 0 0 _ _
  rw [← hH, ← hlocs]
  rw [fX2_isAtSigned] at hf
  refine lv_aload_n hx hb dX2_isAtSigned_0 rfl (lv_at hl 0 rfl) ?_
  obtain ⟨x1, hx1, hf⟩ := ob_e hf
  refine zr_cVi (rest := []) (As := []) X hP hS (ct_X2_kindNow (g := g) (nc := nc) (I := I) (J := J) (O := O) hnI l  hx1) cw_X2_82 (zr_recv X hP (Nat.lt_of_lt_of_le (zk_56).1 hnI) (zb_ceIo zk_56 (by decide)) rfl) rfl hl.1 (Nat.le_of_ble_eq_true rfl) ⟨Nat.le_of_ble_eq_true rfl, Nat.le_of_ble_eq_true rfl⟩ ⟨Nat.le_of_ble_eq_true rfl, Nat.le_of_ble_eq_true rfl⟩ dX2_isAtSigned_1 rfl (fun H locs hP hS => ?_)
  refine lv_iconst (v := (1 : Int32)) hx hb dX2_isAtSigned_4 (by decide) ?_
  obtain ⟨x3, ht, hf⟩ := ob_e hf
  have K1 : ∀ (H : Heap) (locs : List Loc) (ls : Array Slot), va_P g.1 vwCl (zb_ws g nc (zb_ce g I J O)) H → va_S (zb_A g) s.heap H locs → lv_has ls 1 [] → W p l e { frames := 1, cells := 0, slots := 0, locals := 20 } s m args below meth c H locs 0 0 (MQ below (zb_Po g nc (zb_ce g I J O) (some (.int r9))) args s 0 0 (zb_A g)) (F0 m 21 ls [.int x3]) := by
    intro H locs ls hP hS hl
    obtain ⟨v9, hv9, hf⟩ := ob_e hf
    obtain ⟨hn9, he9⟩ := zbo_e hv9
    cases hf
    cases he9
    exact zr_zret X hr hn9 hP hS dX2_isAtSigned_21
  have hf := ht
  refine lv_icmp_eq (tgt := 16) hx hb dX2_isAtSigned_5 (by decide) (fun hc => ?_) (fun hc => ?_)
  · have hf := if_t hc hf
    refine lv_iconst (v := (1 : Int32)) hx hb dX2_isAtSigned_16 (by decide) ?_
    refine lv_goto (tgt := 21) hx hb dX2_isAtSigned_17 (by decide) ?_
    cases hf
    exact K1 H locs ls hP hS (lv_sub hl [] rfl)
  · have hf := if_f hc hf
    refine lv_aload_n hx hb dX2_isAtSigned_8 rfl (lv_at hl 0 rfl) ?_
    obtain ⟨x2, hx2, hf⟩ := ob_e hf
    refine zr_cVi (rest := []) (As := []) X hP hS (ct_X2_kindNow (g := g) (nc := nc) (I := I) (J := J) (O := O) hnI l  hx2) cw_X2_82 (zr_recv X hP (Nat.lt_of_lt_of_le (zk_56).1 hnI) (zb_ceIo zk_56 (by decide)) rfl) rfl hl.1 (Nat.le_of_ble_eq_true rfl) ⟨Nat.le_of_ble_eq_true rfl, Nat.le_of_ble_eq_true rfl⟩ ⟨Nat.le_of_ble_eq_true rfl, Nat.le_of_ble_eq_true rfl⟩ dX2_isAtSigned_9 rfl (fun H locs hP hS => ?_)
    refine lv_iconst (v := (2 : Int32)) hx hb dX2_isAtSigned_12 (by decide) ?_
    refine lv_icmp_ne (tgt := 20) hx hb dX2_isAtSigned_13 (by decide) (fun hc => ?_) (fun hc => ?_)
    · have hf := if_f hc hf
      refine lv_iconst (v := (0 : Int32)) hx hb dX2_isAtSigned_20 (by decide) ?_
      cases hf
      exact K1 H locs ls hP hS (lv_sub hl [] rfl)
    · have hf := if_t hc hf
      refine lv_iconst (v := (1 : Int32)) hx hb dX2_isAtSigned_16 (by decide) ?_
      refine lv_goto (tgt := 21) hx hb dX2_isAtSigned_17 (by decide) ?_
      cases hf
      exact K1 H locs ls hP hS (lv_sub hl [] rfl)
set_option maxHeartbeats 4000000 in
set_option maxRecDepth 100000 in
theorem ct_X2_fail {g : zb_G} {nc : Nat} (hnI : 306 ≤ nc) (l : Launch) {a1 : Int32} {I J O : Mem} {Iq : Mem} (hf : fX2_fail a1 I = some Iq) : zb_Ct l g nc yX2_fail cX2_fail 2 none 0 0 [.ref (g.2.2 + 56), .int a1] (zb_ce g I J O) none (zb_ce g Iq J O) := by
  refine zb_ofW (own := RX2) (by decide +kernel) rfl (Nat.le_of_ble_eq_true rfl) ?_
  intro p e s m args below meth c ls X hr hP hl
  have hx := X.1.1
  have hb := X.1.2.1
  have ho := X.1.2.2.2.1
  have hts := X.1.2.2.2.2
  have hZ := X.2.2.2
  have hl : lv_has ls 2 [(0, .ref (g.2.2 + 56)), (1, .int a1)] := hl
  have hS : va_S (zb_A g) s.heap s.heap [] := va_S.rf
  obtain ⟨H, hH⟩ : ∃ H, H = s.heap := ⟨_, rfl⟩
  obtain ⟨locs, hlocs⟩ : ∃ z : List Loc, z = [] := ⟨_, rfl⟩
  rw [← hH] at hP
  have hS : va_S (zb_A g) s.heap H locs := by rw [hH, hlocs]; exact hS
  show W p l e _ s m args below meth c s.heap [] 0 0 _ _
  rw [← hH, ← hlocs]
  rw [fX2_fail] at hf
  refine lv_aload_n hx hb dX2_fail_0 rfl (lv_at hl 0 rfl) ?_
  refine gf_X2_31 X hnI hP zk_56 dX2_fail_1 ?_
  obtain ⟨I3, ht, hf⟩ := ob_e hf
  have K1 : ∀ (H : Heap) (locs : List Loc) (ls : Array Slot), va_P g.1 vwCl (zb_ws g nc (zb_ce g I3 J O)) H → va_S (zb_A g) s.heap H locs → lv_has ls 2 [] → W p l e { frames := 0, cells := 0, slots := 0, locals := 0 } s m args below meth c H locs 0 0 (MQ below (zb_Po g nc (zb_ce g Iq J O) none) args s 0 0 (zb_A g)) (F0 m 51 ls []) := by
    intro H locs ls hP hS hl
    cases hf
    exact zr_vret X hr hP hS rfl dX2_fail_51
  have hf := ht
  refine lv_if_ne (tgt := 51) hx hb dX2_fail_4 (by decide) (fun hc => ?_) (fun hc => ?_)
  · have hf := if_f hc hf
    cases hf
    exact K1 H locs ls hP hS (lv_sub hl [] rfl)
  · have hf := if_t hc hf
    refine lv_aload_n hx hb dX2_fail_7 rfl (lv_at hl 0 rfl) ?_
    refine lv_iload_n hx hb dX2_fail_8 rfl (lv_at hl 1 rfl) ?_
    refine pf_X2_31 X hnI hP hS zk_56 dX2_fail_9 (fun H locs hP hS => ?_)
    refine lv_aload_n hx hb dX2_fail_12 rfl (lv_at hl 0 rfl) ?_
    refine lv_aload_n hx hb dX2_fail_13 rfl (lv_at hl 0 rfl) ?_
    refine gf_X2_28 X hnI hP zk_56 dX2_fail_14 ?_
    obtain ⟨x2, ht, hf⟩ := ob_e hf
    have K2 : ∀ (H : Heap) (locs : List Loc) (ls : Array Slot), va_P g.1 vwCl (zb_ws g nc (zb_ce g (wr I 56 6 a1) J O)) H → va_S (zb_A g) s.heap H locs → lv_has ls 2 [] → W p l e { frames := 0, cells := 0, slots := 0, locals := 0 } s m args below meth c H locs 0 0 (MQ below (zb_Po g nc (zb_ce g Iq J O) none) args s 0 0 (zb_A g)) (F0 m 48 ls [.int x2, .ref (g.2.2 + 56)]) := by
      intro H locs ls hP hS hl
      refine pf_X2_34 X hnI hP hS zk_56 dX2_fail_48 (fun H locs hP hS => ?_)
      cases hf
      exact K1 H locs ls hP hS (lv_sub hl [] rfl)
    have hf := ht
    refine lv_if_lt (tgt := 44) hx hb dX2_fail_17 (by decide) (fun hc => ?_) (fun hc => ?_)
    · have hf := if_t hc hf
      refine lv_aload_n hx hb dX2_fail_44 rfl (lv_at hl 0 rfl) ?_
      refine gf_X2_15 X hnI hP zk_56 dX2_fail_45 ?_
      cases hf
      exact K2 H locs ls hP hS (lv_sub hl [] rfl)
    · have hf := if_f hc hf
      refine lv_aload_n hx hb dX2_fail_20 rfl (lv_at hl 0 rfl) ?_
      refine gf_X2_28 X hnI hP zk_56 dX2_fail_21 ?_
      refine lv_aload_n hx hb dX2_fail_24 rfl (lv_at hl 0 rfl) ?_
      refine gf_X2_22 X hnI hP zk_56 dX2_fail_25 ?_
      refine zr_alenI X hP hnI zk_59 dX2_fail_28 ?_
      refine lv_icmp_ge (tgt := 44) hx hb dX2_fail_29 (by decide) (fun hc => ?_) (fun hc => ?_)
      · have hf := if_t hc hf
        refine lv_aload_n hx hb dX2_fail_44 rfl (lv_at hl 0 rfl) ?_
        refine gf_X2_15 X hnI hP zk_56 dX2_fail_45 ?_
        cases hf
        exact K2 H locs ls hP hS (lv_sub hl [] rfl)
      · have hf := if_f hc hf
        refine lv_aload_n hx hb dX2_fail_32 rfl (lv_at hl 0 rfl) ?_
        refine gf_X2_22 X hnI hP zk_56 dX2_fail_33 ?_
        refine lv_aload_n hx hb dX2_fail_36 rfl (lv_at hl 0 rfl) ?_
        refine gf_X2_28 X hnI hP zk_56 dX2_fail_37 ?_
        obtain ⟨x1, hx1, hf⟩ := ob_e hf
        refine zr_aldI X hP hnI zk_59 hx1 dX2_fail_40 ?_
        refine lv_goto (tgt := 48) hx hb dX2_fail_41 (by decide) ?_
        cases hf
        exact K2 H locs ls hP hS (lv_sub hl [] rfl)
set_option maxHeartbeats 4000000 in
set_option maxRecDepth 100000 in
theorem ct_X2_takeKind {g : zb_G} {nc : Nat} (hnI : 306 ≤ nc) (l : Launch) {a1 : Int32} {I J O : Mem} {Iq : Mem} (hf : fX2_takeKind a1 I = some Iq) : zb_Ct l g nc yX2_takeKind cX2_takeKind 2 none 1 21 [.ref (g.2.2 + 56), .int a1] (zb_ce g I J O) none (zb_ce g Iq J O) := by
  refine zb_ofW (own := RX2) (by decide +kernel) rfl (Nat.le_of_ble_eq_true rfl) ?_
  intro p e s m args below meth c ls X hr hP hl
  have hx := X.1.1
  have hb := X.1.2.1
  have ho := X.1.2.2.2.1
  have hts := X.1.2.2.2.2
  have hZ := X.2.2.2
  have hl : lv_has ls 2 [(0, .ref (g.2.2 + 56)), (1, .int a1)] := hl
  have hS : va_S (zb_A g) s.heap s.heap [] := va_S.rf
  obtain ⟨H, hH⟩ : ∃ H, H = s.heap := ⟨_, rfl⟩
  obtain ⟨locs, hlocs⟩ : ∃ z : List Loc, z = [] := ⟨_, rfl⟩
  rw [← hH] at hP
  have hS : va_S (zb_A g) s.heap H locs := by rw [hH, hlocs]; exact hS
  show W p l e _ s m args below meth c s.heap [] 0 0 _ _
  rw [← hH, ← hlocs]
  rw [fX2_takeKind] at hf
  refine lv_aload_n hx hb dX2_takeKind_0 rfl (lv_at hl 0 rfl) ?_
  obtain ⟨x1, hx1, hf⟩ := ob_e hf
  refine zr_cVi (rest := []) (As := []) X hP hS (ct_X2_kindNow (g := g) (nc := nc) (I := I) (J := J) (O := O) hnI l  hx1) cw_X2_82 (zr_recv X hP (Nat.lt_of_lt_of_le (zk_56).1 hnI) (zb_ceIo zk_56 (by decide)) rfl) rfl hl.1 (Nat.le_of_ble_eq_true rfl) ⟨Nat.le_of_ble_eq_true rfl, Nat.le_of_ble_eq_true rfl⟩ ⟨Nat.le_of_ble_eq_true rfl, Nat.le_of_ble_eq_true rfl⟩ dX2_takeKind_1 rfl (fun H locs hP hS => ?_)
  refine lv_iload_n hx hb dX2_takeKind_4 rfl (lv_at hl 1 rfl) ?_
  obtain ⟨I3, ht, hf⟩ := ob_e hf
  have K1 : ∀ (H : Heap) (locs : List Loc) (ls : Array Slot), va_P g.1 vwCl (zb_ws g nc (zb_ce g I3 J O)) H → va_S (zb_A g) s.heap H locs → lv_has ls 2 [(0, .ref (g.2.2 + 56))] → W p l e { frames := 1, cells := 0, slots := 0, locals := 21 } s m args below meth c H locs 0 0 (MQ below (zb_Po g nc (zb_ce g Iq J O) none) args s 0 0 (zb_A g)) (F0 m 13 ls []) := by
    intro H locs ls hP hS hl
    refine lv_aload_n hx hb dX2_takeKind_13 rfl (lv_at hl 0 rfl) ?_
    refine gf_X2_31 X hnI hP zk_56 dX2_takeKind_14 ?_
    obtain ⟨I5, ht, hf⟩ := ob_e hf
    have K2 : ∀ (H : Heap) (locs : List Loc) (ls : Array Slot), va_P g.1 vwCl (zb_ws g nc (zb_ce g I5 J O)) H → va_S (zb_A g) s.heap H locs → lv_has ls 2 [] → W p l e { frames := 1, cells := 0, slots := 0, locals := 21 } s m args below meth c H locs 0 0 (MQ below (zb_Po g nc (zb_ce g Iq J O) none) args s 0 0 (zb_A g)) (F0 m 37 ls []) := by
      intro H locs ls hP hS hl
      cases hf
      exact zr_vret X hr hP hS rfl dX2_takeKind_37
    have hf := ht
    refine lv_if_ne (tgt := 37) hx hb dX2_takeKind_17 (by decide) (fun hc => ?_) (fun hc => ?_)
    · have hf := if_f hc hf
      cases hf
      exact K2 H locs ls hP hS (lv_sub hl [] rfl)
    · have hf := if_t hc hf
      refine lv_aload_n hx hb dX2_takeKind_20 rfl (lv_at hl 0 rfl) ?_
      obtain ⟨x4, hx4, hf⟩ := ob_e hf
      refine zr_cVi (rest := []) (As := []) X hP hS (ct_X2_kindNow (g := g) (nc := nc) (I := I3) (J := J) (O := O) hnI l  hx4) cw_X2_82 (zr_recv X hP (Nat.lt_of_lt_of_le (zk_56).1 hnI) (zb_ceIo zk_56 (by decide)) rfl) rfl hl.1 (Nat.le_of_ble_eq_true rfl) ⟨Nat.le_of_ble_eq_true rfl, Nat.le_of_ble_eq_true rfl⟩ ⟨Nat.le_of_ble_eq_true rfl, Nat.le_of_ble_eq_true rfl⟩ dX2_takeKind_21 rfl (fun H locs hP hS => ?_)
      refine lv_if_eq (tgt := 37) hx hb dX2_takeKind_24 (by decide) (fun hc => ?_) (fun hc => ?_)
      · have hf := if_t hc hf
        cases hf
        exact K2 H locs ls hP hS (lv_sub hl [] rfl)
      · have hf := if_f hc hf
        refine lv_aload_n hx hb dX2_takeKind_27 rfl (lv_at hl 0 rfl) ?_
        refine lv_dup hx hb dX2_takeKind_28 rfl ?_
        refine gf_X2_28 X hnI hP zk_56 dX2_takeKind_29 ?_
        refine lv_iconst (v := (1 : Int32)) hx hb dX2_takeKind_32 (by decide) ?_
        refine lv_iadd hx hb dX2_takeKind_33 ?_
        refine pf_X2_28 X hnI hP hS zk_56 dX2_takeKind_34 (fun H locs hP hS => ?_)
        cases hf
        exact K2 H locs ls hP hS (lv_sub hl [] rfl)
  have hf := ht
  refine lv_icmp_eq (tgt := 13) hx hb dX2_takeKind_5 (by decide) (fun hc => ?_) (fun hc => ?_)
  · have hf := if_t hc hf
    cases hf
    exact K1 H locs ls hP hS (lv_sub hl [0] rfl)
  · have hf := if_f hc hf
    refine lv_aload_n hx hb dX2_takeKind_8 rfl (lv_at hl 0 rfl) ?_
    refine lv_iconst (v := (1 : Int32)) hx hb dX2_takeKind_9 (by decide) ?_
    obtain ⟨I2, hI2, hf⟩ := ob_e hf
    refine zr_cVv (rest := []) (As := [.int (1 : Int32)]) X hP hS (ct_X2_fail (g := g) (nc := nc) (I := I) (J := J) (O := O) hnI l  hI2) cw_X2_85 (zr_recv X hP (Nat.lt_of_lt_of_le (zk_56).1 hnI) (zb_ceIo zk_56 (by decide)) rfl) rfl hl.1 (Nat.le_of_ble_eq_true rfl) ⟨Nat.le_of_ble_eq_true rfl, Nat.le_of_ble_eq_true rfl⟩ ⟨Nat.le_of_ble_eq_true rfl, Nat.le_of_ble_eq_true rfl⟩ dX2_takeKind_10 rfl (fun H locs hP hS => ?_)
    cases hf
    exact K1 H locs ls hP hS (lv_sub hl [0] rfl)
set_option maxHeartbeats 4000000 in
set_option maxRecDepth 100000 in
theorem ct_X2_lookNumber {g : zb_G} {nc : Nat} (hnI : 306 ≤ nc) (l : Launch) {a1 : Int32} {a2 : Int32} {I J O : Mem} {r9 : Int32} {Iq : Mem} (hf : fX2_lookNumber a1 a2 I = some (r9, Iq)) : zb_Ct l g nc yX2_lookNumber cX2_lookNumber 4 (some .int) 1 21 [.ref (g.2.2 + 56), .int a1, .int a2] (zb_ce g I J O) (some (.int r9)) (zb_ce g Iq J O) := by
  refine zb_ofW (own := RX2) (by decide +kernel) rfl (Nat.le_of_ble_eq_true rfl) ?_
  intro p e s m args below meth c ls X hr hP hl
  have hx := X.1.1
  have hb := X.1.2.1
  have ho := X.1.2.2.2.1
  have hts := X.1.2.2.2.2
  have hZ := X.2.2.2
  have hl : lv_has ls 4 [(0, .ref (g.2.2 + 56)), (1, .int a1), (2, .int a2)] := hl
  have hS : va_S (zb_A g) s.heap s.heap [] := va_S.rf
  obtain ⟨H, hH⟩ : ∃ H, H = s.heap := ⟨_, rfl⟩
  obtain ⟨locs, hlocs⟩ : ∃ z : List Loc, z = [] := ⟨_, rfl⟩
  rw [← hH] at hP
  have hS : va_S (zb_A g) s.heap H locs := by rw [hH, hlocs]; exact hS
  show W p l e _ s m args below meth c s.heap [] 0 0 _ _
  rw [← hH, ← hlocs]
  rw [fX2_lookNumber] at hf
  refine lv_aload_n hx hb dX2_lookNumber_0 rfl (lv_at hl 0 rfl) ?_
  obtain ⟨x1, hx1, hf⟩ := ob_e hf
  refine zr_cVi (rest := []) (As := []) X hP hS (ct_X2_kindNow (g := g) (nc := nc) (I := I) (J := J) (O := O) hnI l  hx1) cw_X2_82 (zr_recv X hP (Nat.lt_of_lt_of_le (zk_56).1 hnI) (zb_ceIo zk_56 (by decide)) rfl) rfl hl.1 (Nat.le_of_ble_eq_true rfl) ⟨Nat.le_of_ble_eq_true rfl, Nat.le_of_ble_eq_true rfl⟩ ⟨Nat.le_of_ble_eq_true rfl, Nat.le_of_ble_eq_true rfl⟩ dX2_lookNumber_1 rfl (fun H locs hP hS => ?_)
  refine lv_iconst (v := (1 : Int32)) hx hb dX2_lookNumber_4 (by decide) ?_
  obtain ⟨x3, ht, hf⟩ := ob_e hf
  have K1 : ∀ (H : Heap) (locs : List Loc) (ls : Array Slot), va_P g.1 vwCl (zb_ws g nc (zb_ce g I J O)) H → va_S (zb_A g) s.heap H locs → lv_has ls 4 [(0, .ref (g.2.2 + 56)), (1, .int a1), (2, .int a2)] → W p l e { frames := 1, cells := 0, slots := 0, locals := 21 } s m args below meth c H locs 0 0 (MQ below (zb_Po g nc (zb_ce g Iq J O) (some (.int r9))) args s 0 0 (zb_A g)) (F0 m 21 ls [.int x3]) := by
    intro H locs ls hP hS hl
    refine lv_istore_n (lv' := [(3, .int x3), (0, .ref (g.2.2 + 56)), (1, .int a1), (2, .int a2)]) hx hb dX2_lookNumber_21 rfl hl (by decide) rfl (fun ls hl => ?_)
    refine lv_aload_n hx hb dX2_lookNumber_22 rfl (lv_at hl 1 rfl) ?_
    obtain ⟨x4, hx4, hf⟩ := ob_e hf
    refine zr_cVi (rest := []) (As := []) X hP hS (ct_X2_kindNow (g := g) (nc := nc) (I := I) (J := J) (O := O) hnI l  hx4) cw_X2_82 (zr_recv X hP (Nat.lt_of_lt_of_le (zk_56).1 hnI) (zb_ceIo zk_56 (by decide)) rfl) rfl hl.1 (Nat.le_of_ble_eq_true rfl) ⟨Nat.le_of_ble_eq_true rfl, Nat.le_of_ble_eq_true rfl⟩ ⟨Nat.le_of_ble_eq_true rfl, Nat.le_of_ble_eq_true rfl⟩ dX2_lookNumber_23 rfl (fun H locs hP hS => ?_)
    refine lv_iconst (v := (1 : Int32)) hx hb dX2_lookNumber_26 (by decide) ?_
    obtain ⟨I8, ht, hf⟩ := ob_e hf
    have K2 : ∀ (H : Heap) (locs : List Loc) (ls : Array Slot), va_P g.1 vwCl (zb_ws g nc (zb_ce g I8 J O)) H → va_S (zb_A g) s.heap H locs → lv_has ls 4 [(3, .int x3), (0, .ref (g.2.2 + 56)), (1, .int a1)] → W p l e { frames := 1, cells := 0, slots := 0, locals := 21 } s m args below meth c H locs 0 0 (MQ below (zb_Po g nc (zb_ce g Iq J O) (some (.int r9))) args s 0 0 (zb_A g)) (F0 m 53 ls []) := by
      intro H locs ls hP hS hl
      refine lv_aload_n hx hb dX2_lookNumber_53 rfl (lv_at hl 1 rfl) ?_
      refine gf_X2_31 X hnI hP zk_56 dX2_lookNumber_54 ?_
      obtain ⟨x9, ht, hf⟩ := pl_e hf
      have K3 : ∀ (H : Heap) (locs : List Loc) (ls : Array Slot), va_P g.1 vwCl (zb_ws g nc (zb_ce g I8 J O)) H → va_S (zb_A g) s.heap H locs → lv_has ls 4 [] → W p l e { frames := 1, cells := 0, slots := 0, locals := 21 } s m args below meth c H locs 0 0 (MQ below (zb_Po g nc (zb_ce g Iq J O) (some (.int r9))) args s 0 0 (zb_A g)) (F0 m 65 ls [.int x9]) := by
        intro H locs ls hP hS hl
        cases hf
        exact zr_iret X hr hP hS dX2_lookNumber_65
      have hf := ht
      refine lv_if_ne (tgt := 64) hx hb dX2_lookNumber_57 (by decide) (fun hc => ?_) (fun hc => ?_)
      · have hf := if_f hc hf
        refine lv_iload_n hx hb dX2_lookNumber_64 rfl (lv_at hl 2 rfl) ?_
        cases hf
        exact K3 H locs ls hP hS (lv_sub hl [] rfl)
      · have hf := if_t hc hf
        refine lv_iload_n hx hb dX2_lookNumber_60 rfl (lv_at hl 0 rfl) ?_
        refine lv_goto (tgt := 65) hx hb dX2_lookNumber_61 (by decide) ?_
        cases hf
        exact K3 H locs ls hP hS (lv_sub hl [] rfl)
    have hf := ht
    refine lv_icmp_eq (tgt := 38) hx hb dX2_lookNumber_27 (by decide) (fun hc => ?_) (fun hc => ?_)
    · have hf := if_t hc hf
      refine lv_iload_n hx hb dX2_lookNumber_38 rfl (lv_at hl 0 rfl) ?_
      refine lv_iload_n hx hb dX2_lookNumber_39 rfl (lv_at hl 2 rfl) ?_
      refine lv_icmp_lt (tgt := 48) hx hb dX2_lookNumber_40 (by decide) (fun hc => ?_) (fun hc => ?_)
      · have hf := if_t hc hf
        refine lv_aload_n hx hb dX2_lookNumber_48 rfl (lv_at hl 1 rfl) ?_
        refine lv_iconst (v := (2 : Int32)) hx hb dX2_lookNumber_49 (by decide) ?_
        obtain ⟨I5, hI5, hf⟩ := ob_e hf
        refine zr_cVv (rest := []) (As := [.int (2 : Int32)]) X hP hS (ct_X2_fail (g := g) (nc := nc) (I := I) (J := J) (O := O) hnI l  hI5) cw_X2_85 (zr_recv X hP (Nat.lt_of_lt_of_le (zk_56).1 hnI) (zb_ceIo zk_56 (by decide)) rfl) rfl hl.1 (Nat.le_of_ble_eq_true rfl) ⟨Nat.le_of_ble_eq_true rfl, Nat.le_of_ble_eq_true rfl⟩ ⟨Nat.le_of_ble_eq_true rfl, Nat.le_of_ble_eq_true rfl⟩ dX2_lookNumber_50 rfl (fun H locs hP hS => ?_)
        cases hf
        exact K2 H locs ls hP hS (lv_sub hl [0, 1, 2] rfl)
      · have hf := if_f hc hf
        refine lv_iload_n hx hb dX2_lookNumber_43 rfl (lv_at hl 0 rfl) ?_
        refine lv_iload_n hx hb dX2_lookNumber_44 rfl (lv_at hl 3 rfl) ?_
        refine lv_icmp_le (tgt := 53) hx hb dX2_lookNumber_45 (by decide) (fun hc => ?_) (fun hc => ?_)
        · have hf := if_t hc hf
          cases hf
          exact K2 H locs ls hP hS (lv_sub hl [0, 1, 2] rfl)
        · have hf := if_f hc hf
          refine lv_aload_n hx hb dX2_lookNumber_48 rfl (lv_at hl 1 rfl) ?_
          refine lv_iconst (v := (2 : Int32)) hx hb dX2_lookNumber_49 (by decide) ?_
          obtain ⟨I6, hI6, hf⟩ := ob_e hf
          refine zr_cVv (rest := []) (As := [.int (2 : Int32)]) X hP hS (ct_X2_fail (g := g) (nc := nc) (I := I) (J := J) (O := O) hnI l  hI6) cw_X2_85 (zr_recv X hP (Nat.lt_of_lt_of_le (zk_56).1 hnI) (zb_ceIo zk_56 (by decide)) rfl) rfl hl.1 (Nat.le_of_ble_eq_true rfl) ⟨Nat.le_of_ble_eq_true rfl, Nat.le_of_ble_eq_true rfl⟩ ⟨Nat.le_of_ble_eq_true rfl, Nat.le_of_ble_eq_true rfl⟩ dX2_lookNumber_50 rfl (fun H locs hP hS => ?_)
          cases hf
          exact K2 H locs ls hP hS (lv_sub hl [0, 1, 2] rfl)
    · have hf := if_f hc hf
      refine lv_aload_n hx hb dX2_lookNumber_30 rfl (lv_at hl 1 rfl) ?_
      refine lv_iconst (v := (1 : Int32)) hx hb dX2_lookNumber_31 (by decide) ?_
      obtain ⟨I7, hI7, hf⟩ := ob_e hf
      refine zr_cVv (rest := []) (As := [.int (1 : Int32)]) X hP hS (ct_X2_fail (g := g) (nc := nc) (I := I) (J := J) (O := O) hnI l  hI7) cw_X2_85 (zr_recv X hP (Nat.lt_of_lt_of_le (zk_56).1 hnI) (zb_ceIo zk_56 (by decide)) rfl) rfl hl.1 (Nat.le_of_ble_eq_true rfl) ⟨Nat.le_of_ble_eq_true rfl, Nat.le_of_ble_eq_true rfl⟩ ⟨Nat.le_of_ble_eq_true rfl, Nat.le_of_ble_eq_true rfl⟩ dX2_lookNumber_32 rfl (fun H locs hP hS => ?_)
      refine lv_goto (tgt := 53) hx hb dX2_lookNumber_35 (by decide) ?_
      cases hf
      exact K2 H locs ls hP hS (lv_sub hl [0, 1, 2] rfl)
  have hf := ht
  refine lv_icmp_ne (tgt := 20) hx hb dX2_lookNumber_5 (by decide) (fun hc => ?_) (fun hc => ?_)
  · have hf := if_f hc hf
    refine lv_iload_n hx hb dX2_lookNumber_20 rfl (lv_at hl 1 rfl) ?_
    cases hf
    exact K1 H locs ls hP hS (lv_sub hl [0, 1, 2] rfl)
  · have hf := if_t hc hf
    refine lv_aload_n hx hb dX2_lookNumber_8 rfl (lv_at hl 0 rfl) ?_
    refine gf_X2_25 X hnI hP zk_56 dX2_lookNumber_9 ?_
    refine lv_aload_n hx hb dX2_lookNumber_12 rfl (lv_at hl 0 rfl) ?_
    refine gf_X2_28 X hnI hP zk_56 dX2_lookNumber_13 ?_
    obtain ⟨x2, hx2, hf⟩ := ob_e hf
    refine zr_aldI X hP hnI zk_60 hx2 dX2_lookNumber_16 ?_
    refine lv_goto (tgt := 21) hx hb dX2_lookNumber_17 (by decide) ?_
    cases hf
    exact K1 H locs ls hP hS (lv_sub hl [0, 1, 2] rfl)
set_option maxHeartbeats 4000000 in
set_option maxRecDepth 100000 in
theorem ct_X2_takeNumber {g : zb_G} {nc : Nat} (hnI : 306 ≤ nc) (l : Launch) {a1 : Int32} {a2 : Int32} {I J O : Mem} {r9 : Int32} {Iq : Mem} (hf : fX2_takeNumber a1 a2 I = some (r9, Iq)) : zb_Ct l g nc yX2_takeNumber cX2_takeNumber 4 (some .int) 2 44 [.ref (g.2.2 + 56), .int a1, .int a2] (zb_ce g I J O) (some (.int r9)) (zb_ce g Iq J O) := by
  refine zb_ofW (own := RX2) (by decide +kernel) rfl (Nat.le_of_ble_eq_true rfl) ?_
  intro p e s m args below meth c ls X hr hP hl
  have hx := X.1.1
  have hb := X.1.2.1
  have ho := X.1.2.2.2.1
  have hts := X.1.2.2.2.2
  have hZ := X.2.2.2
  have hl : lv_has ls 4 [(0, .ref (g.2.2 + 56)), (1, .int a1), (2, .int a2)] := hl
  have hS : va_S (zb_A g) s.heap s.heap [] := va_S.rf
  obtain ⟨H, hH⟩ : ∃ H, H = s.heap := ⟨_, rfl⟩
  obtain ⟨locs, hlocs⟩ : ∃ z : List Loc, z = [] := ⟨_, rfl⟩
  rw [← hH] at hP
  have hS : va_S (zb_A g) s.heap H locs := by rw [hH, hlocs]; exact hS
  show W p l e _ s m args below meth c s.heap [] 0 0 _ _
  rw [← hH, ← hlocs]
  rw [fX2_takeNumber] at hf
  refine lv_aload_n hx hb dX2_takeNumber_0 rfl (lv_at hl 0 rfl) ?_
  refine lv_iload_n hx hb dX2_takeNumber_1 rfl (lv_at hl 1 rfl) ?_
  refine lv_iload_n hx hb dX2_takeNumber_2 rfl (lv_at hl 2 rfl) ?_
  obtain ⟨x1, I2, hx1_I2, hf⟩ := ob2_e hf
  refine zr_cVi (rest := []) (As := [.int a1, .int a2]) X hP hS (ct_X2_lookNumber (g := g) (nc := nc) (I := I) (J := J) (O := O) hnI l  hx1_I2) cw_X2_89 (zr_recv X hP (Nat.lt_of_lt_of_le (zk_56).1 hnI) (zb_ceIo zk_56 (by decide)) rfl) rfl hl.1 (Nat.le_of_ble_eq_true rfl) ⟨Nat.le_of_ble_eq_true rfl, Nat.le_of_ble_eq_true rfl⟩ ⟨Nat.le_of_ble_eq_true rfl, Nat.le_of_ble_eq_true rfl⟩ dX2_takeNumber_3 rfl (fun H locs hP hS => ?_)
  refine lv_istore_n (lv' := [(3, .int x1), (0, .ref (g.2.2 + 56)), (1, .int a1), (2, .int a2)]) hx hb dX2_takeNumber_6 rfl hl (by decide) rfl (fun ls hl => ?_)
  refine lv_aload_n hx hb dX2_takeNumber_7 rfl (lv_at hl 1 rfl) ?_
  refine lv_iconst (v := (1 : Int32)) hx hb dX2_takeNumber_8 (by decide) ?_
  obtain ⟨I3, hI3, hf⟩ := ob_e hf
  refine zr_cVv (rest := []) (As := [.int (1 : Int32)]) X hP hS (ct_X2_takeKind (g := g) (nc := nc) (I := I2) (J := J) (O := O) hnI l  hI3) cw_X2_92 (zr_recv X hP (Nat.lt_of_lt_of_le (zk_56).1 hnI) (zb_ceIo zk_56 (by decide)) rfl) rfl hl.1 (Nat.le_of_ble_eq_true rfl) ⟨Nat.le_of_ble_eq_true rfl, Nat.le_of_ble_eq_true rfl⟩ ⟨Nat.le_of_ble_eq_true rfl, Nat.le_of_ble_eq_true rfl⟩ dX2_takeNumber_9 rfl (fun H locs hP hS => ?_)
  refine lv_iload_n hx hb dX2_takeNumber_12 rfl (lv_at hl 0 rfl) ?_
  cases hf
  exact zr_iret X hr hP hS dX2_takeNumber_13
set_option maxHeartbeats 4000000 in
set_option maxRecDepth 100000 in
theorem ct_X2_takeSigned {g : zb_G} {nc : Nat} (hnI : 306 ≤ nc) (l : Launch) {a1 : Int32} {I J O : Mem} {r9 : Int32} {Iq : Mem} (hf : fX2_takeSigned a1 I = some (r9, Iq)) : zb_Ct l g nc yX2_takeSigned cX2_takeSigned 4 (some .int) 3 67 [.ref (g.2.2 + 56), .int a1] (zb_ce g I J O) (some (.int r9)) (zb_ce g Iq J O) := by
  refine zb_ofW (own := RX2) (by decide +kernel) rfl (Nat.le_of_ble_eq_true rfl) ?_
  intro p e s m args below meth c ls X hr hP hl
  have hx := X.1.1
  have hb := X.1.2.1
  have ho := X.1.2.2.2.1
  have hts := X.1.2.2.2.2
  have hZ := X.2.2.2
  have hl : lv_has ls 4 [(0, .ref (g.2.2 + 56)), (1, .int a1)] := hl
  have hS : va_S (zb_A g) s.heap s.heap [] := va_S.rf
  obtain ⟨H, hH⟩ : ∃ H, H = s.heap := ⟨_, rfl⟩
  obtain ⟨locs, hlocs⟩ : ∃ z : List Loc, z = [] := ⟨_, rfl⟩
  rw [← hH] at hP
  have hS : va_S (zb_A g) s.heap H locs := by rw [hH, hlocs]; exact hS
  show W p l e _ s m args below meth c s.heap [] 0 0 _ _
  rw [← hH, ← hlocs]
  rw [fX2_takeSigned] at hf
  refine lv_aload_n hx hb dX2_takeSigned_0 rfl (lv_at hl 0 rfl) ?_
  obtain ⟨x1, hx1, hf⟩ := ob_e hf
  refine zr_cVi (rest := []) (As := []) X hP hS (ct_X2_kindNow (g := g) (nc := nc) (I := I) (J := J) (O := O) hnI l  hx1) cw_X2_82 (zr_recv X hP (Nat.lt_of_lt_of_le (zk_56).1 hnI) (zb_ceIo zk_56 (by decide)) rfl) rfl hl.1 (Nat.le_of_ble_eq_true rfl) ⟨Nat.le_of_ble_eq_true rfl, Nat.le_of_ble_eq_true rfl⟩ ⟨Nat.le_of_ble_eq_true rfl, Nat.le_of_ble_eq_true rfl⟩ dX2_takeSigned_1 rfl (fun H locs hP hS => ?_)
  refine lv_iconst (v := (2 : Int32)) hx hb dX2_takeSigned_4 (by decide) ?_
  obtain ⟨x2, ht, hf⟩ := pl_e hf
  have K1 : ∀ (H : Heap) (locs : List Loc) (ls : Array Slot), va_P g.1 vwCl (zb_ws g nc (zb_ce g I J O)) H → va_S (zb_A g) s.heap H locs → lv_has ls 4 [(0, .ref (g.2.2 + 56)), (1, .int a1)] → W p l e { frames := 3, cells := 0, slots := 0, locals := 67 } s m args below meth c H locs 0 0 (MQ below (zb_Po g nc (zb_ce g Iq J O) (some (.int r9))) args s 0 0 (zb_A g)) (F0 m 13 ls [.int x2]) := by
    intro H locs ls hP hS hl
    refine lv_istore_n (lv' := [(2, .int x2), (0, .ref (g.2.2 + 56)), (1, .int a1)]) hx hb dX2_takeSigned_13 rfl hl (by decide) rfl (fun ls hl => ?_)
    refine lv_iload_n hx hb dX2_takeSigned_14 rfl (lv_at hl 0 rfl) ?_
    obtain ⟨I4, ht, hf⟩ := ob_e hf
    have K2 : ∀ (H : Heap) (locs : List Loc) (ls : Array Slot), va_P g.1 vwCl (zb_ws g nc (zb_ce g I4 J O)) H → va_S (zb_A g) s.heap H locs → lv_has ls 4 [(2, .int x2), (0, .ref (g.2.2 + 56)), (1, .int a1)] → W p l e { frames := 3, cells := 0, slots := 0, locals := 67 } s m args below meth c H locs 0 0 (MQ below (zb_Po g nc (zb_ce g Iq J O) (some (.int r9))) args s 0 0 (zb_A g)) (F0 m 23 ls []) := by
      intro H locs ls hP hS hl
      refine lv_aload_n hx hb dX2_takeSigned_23 rfl (lv_at hl 1 rfl) ?_
      refine lv_iconst (v := (0 : Int32)) hx hb dX2_takeSigned_24 (by decide) ?_
      refine lv_iload_n hx hb dX2_takeSigned_25 rfl (lv_at hl 2 rfl) ?_
      obtain ⟨x5, I6, hx5_I6, hf⟩ := ob2_e hf
      refine zr_cVi (rest := []) (As := [.int (0 : Int32), .int a1]) X hP hS (ct_X2_takeNumber (g := g) (nc := nc) (I := I4) (J := J) (O := O) hnI l  hx5_I6) cw_X2_95 (zr_recv X hP (Nat.lt_of_lt_of_le (zk_56).1 hnI) (zb_ceIo zk_56 (by decide)) rfl) rfl hl.1 (Nat.le_of_ble_eq_true rfl) ⟨Nat.le_of_ble_eq_true rfl, Nat.le_of_ble_eq_true rfl⟩ ⟨Nat.le_of_ble_eq_true rfl, Nat.le_of_ble_eq_true rfl⟩ dX2_takeSigned_26 rfl (fun H locs hP hS => ?_)
      refine lv_istore_n (lv' := [(3, .int x5), (2, .int x2), (0, .ref (g.2.2 + 56)), (1, .int a1)]) hx hb dX2_takeSigned_29 rfl hl (by decide) rfl (fun ls hl => ?_)
      refine lv_iload_n hx hb dX2_takeSigned_30 rfl (lv_at hl 1 rfl) ?_
      obtain ⟨x7, ht, hf⟩ := pl_e hf
      have K3 : ∀ (H : Heap) (locs : List Loc) (ls : Array Slot), va_P g.1 vwCl (zb_ws g nc (zb_ce g I6 J O)) H → va_S (zb_A g) s.heap H locs → lv_has ls 4 [] → W p l e { frames := 3, cells := 0, slots := 0, locals := 67 } s m args below meth c H locs 0 0 (MQ below (zb_Po g nc (zb_ce g Iq J O) (some (.int r9))) args s 0 0 (zb_A g)) (F0 m 40 ls [.int x7]) := by
        intro H locs ls hP hS hl
        cases hf
        exact zr_iret X hr hP hS dX2_takeSigned_40
      have hf := ht
      refine lv_if_eq (tgt := 39) hx hb dX2_takeSigned_31 (by decide) (fun hc => ?_) (fun hc => ?_)
      · have hf := if_t hc hf
        refine lv_iload_n hx hb dX2_takeSigned_39 rfl (lv_at hl 0 rfl) ?_
        cases hf
        exact K3 H locs ls hP hS (lv_sub hl [] rfl)
      · have hf := if_f hc hf
        refine lv_iload_n hx hb dX2_takeSigned_34 rfl (lv_at hl 0 rfl) ?_
        refine lv_ineg hx hb dX2_takeSigned_35 ?_
        refine lv_goto (tgt := 40) hx hb dX2_takeSigned_36 (by decide) ?_
        cases hf
        exact K3 H locs ls hP hS (lv_sub hl [] rfl)
    have hf := ht
    refine lv_if_eq (tgt := 23) hx hb dX2_takeSigned_15 (by decide) (fun hc => ?_) (fun hc => ?_)
    · have hf := if_t hc hf
      cases hf
      exact K2 H locs ls hP hS (lv_sub hl [0, 1, 2] rfl)
    · have hf := if_f hc hf
      refine lv_aload_n hx hb dX2_takeSigned_18 rfl (lv_at hl 1 rfl) ?_
      refine lv_iconst (v := (2 : Int32)) hx hb dX2_takeSigned_19 (by decide) ?_
      obtain ⟨I3, hI3, hf⟩ := ob_e hf
      refine zr_cVv (rest := []) (As := [.int (2 : Int32)]) X hP hS (ct_X2_takeKind (g := g) (nc := nc) (I := I) (J := J) (O := O) hnI l  hI3) cw_X2_92 (zr_recv X hP (Nat.lt_of_lt_of_le (zk_56).1 hnI) (zb_ceIo zk_56 (by decide)) rfl) rfl hl.1 (Nat.le_of_ble_eq_true rfl) ⟨Nat.le_of_ble_eq_true rfl, Nat.le_of_ble_eq_true rfl⟩ ⟨Nat.le_of_ble_eq_true rfl, Nat.le_of_ble_eq_true rfl⟩ dX2_takeSigned_20 rfl (fun H locs hP hS => ?_)
      cases hf
      exact K2 H locs ls hP hS (lv_sub hl [0, 1, 2] rfl)
  have hf := ht
  refine lv_icmp_ne (tgt := 12) hx hb dX2_takeSigned_5 (by decide) (fun hc => ?_) (fun hc => ?_)
  · have hf := if_f hc hf
    refine lv_iconst (v := (0 : Int32)) hx hb dX2_takeSigned_12 (by decide) ?_
    cases hf
    exact K1 H locs ls hP hS (lv_sub hl [0, 1] rfl)
  · have hf := if_t hc hf
    refine lv_iconst (v := (1 : Int32)) hx hb dX2_takeSigned_8 (by decide) ?_
    refine lv_goto (tgt := 13) hx hb dX2_takeSigned_9 (by decide) ?_
    cases hf
    exact K1 H locs ls hP hS (lv_sub hl [0, 1] rfl)
set_option maxHeartbeats 4000000 in
set_option maxRecDepth 100000 in
theorem ct_X3_copyFrom {g : zb_G} {nc : Nat} (hnI : 306 ≤ nc) (l : Launch) {b : Nat} {b1 : Nat} (hB : zb_isB b) (hB1 : zb_isB b1) {I J O : Mem} {Iq : Mem} (hf : fX3_copyFrom b b1 I = some Iq) : zb_Ct l g nc yX3_copyFrom cX3_copyFrom 2 none 1 40 [.ref (g.2.2 + (b + 11)), .ref (g.2.2 + (b1 + 11))] (zb_ce g I J O) none (zb_ce g Iq J O) := by
  refine zb_ofW (own := RX3) (by decide +kernel) rfl (Nat.le_of_ble_eq_true rfl) ?_
  intro p e s m args below meth c ls X hr hP hl
  have hx := X.1.1
  have hb := X.1.2.1
  have ho := X.1.2.2.2.1
  have hts := X.1.2.2.2.2
  have hZ := X.2.2.2
  have hl : lv_has ls 2 [(0, .ref (g.2.2 + (b + 11))), (1, .ref (g.2.2 + (b1 + 11)))] := hl
  have hS : va_S (zb_A g) s.heap s.heap [] := va_S.rf
  obtain ⟨H, hH⟩ : ∃ H, H = s.heap := ⟨_, rfl⟩
  obtain ⟨locs, hlocs⟩ : ∃ z : List Loc, z = [] := ⟨_, rfl⟩
  rw [← hH] at hP
  have hS : va_S (zb_A g) s.heap H locs := by rw [hH, hlocs]; exact hS
  show W p l e _ s m args below meth c s.heap [] 0 0 _ _
  rw [← hH, ← hlocs]
  rw [fX3_copyFrom] at hf
  refine lv_aload_n hx hb dX3_copyFrom_0 rfl (lv_at hl 0 rfl) ?_
  refine lv_aload_n hx hb dX3_copyFrom_1 rfl (lv_at hl 1 rfl) ?_
  refine gf_X3_9 X hnI hP (zb_bk (j := 11) hB1 (by decide) rfl) dX3_copyFrom_2 ?_
  refine pf_X3_9 X hnI hP hS (zb_bk (j := 11) hB (by decide) rfl) dX3_copyFrom_5 (fun H locs hP hS => ?_)
  refine lv_aload_n hx hb dX3_copyFrom_8 rfl (lv_at hl 1 rfl) ?_
  refine gf_X3_15 X hnI hP (zb_bk (j := 11) hB1 (by decide) rfl) dX3_copyFrom_9 ?_
  refine lv_iconst (v := (0 : Int32)) hx hb dX3_copyFrom_12 (by decide) ?_
  refine lv_aload_n hx hb dX3_copyFrom_13 rfl (lv_at hl 0 rfl) ?_
  refine gf_X3_15 X hnI hP (zb_bk (j := 11) hB (by decide) rfl) dX3_copyFrom_14 ?_
  refine lv_iconst (v := (0 : Int32)) hx hb dX3_copyFrom_17 (by decide) ?_
  refine lv_bipush (v := (10 : Int32)) hx hb dX3_copyFrom_18 (by decide) ?_
  refine zr_copy (N := 10) X hP hS hnI (zb_bk (j := 12) hB1 (by decide) rfl) (zb_bk (j := 12) hB (by decide) rfl) rfl (Nat.le_of_ble_eq_true rfl) (Nat.le_of_ble_eq_true rfl) (Nat.le_of_ble_eq_true rfl) wk_X3_22 wm_ac1 wm_ac2 wm_ac3 hl.1 (Nat.le_of_ble_eq_true rfl) (Nat.le_of_ble_eq_true rfl) dX3_copyFrom_20 (fun H locs hP hS => ?_)
  refine lv_aload_n hx hb dX3_copyFrom_23 rfl (lv_at hl 1 rfl) ?_
  refine gf_X3_19 X hnI hP (zb_bk (j := 11) hB1 (by decide) rfl) dX3_copyFrom_24 ?_
  refine lv_iconst (v := (0 : Int32)) hx hb dX3_copyFrom_27 (by decide) ?_
  refine lv_aload_n hx hb dX3_copyFrom_28 rfl (lv_at hl 0 rfl) ?_
  refine gf_X3_19 X hnI hP (zb_bk (j := 11) hB (by decide) rfl) dX3_copyFrom_29 ?_
  refine lv_iconst (v := (0 : Int32)) hx hb dX3_copyFrom_32 (by decide) ?_
  refine lv_bipush (v := (10 : Int32)) hx hb dX3_copyFrom_33 (by decide) ?_
  refine zr_copy (N := 10) X hP hS hnI (zb_bk (j := 13) hB1 (by decide) rfl) (zb_bk (j := 13) hB (by decide) rfl) rfl (Nat.le_of_ble_eq_true rfl) (Nat.le_of_ble_eq_true rfl) (Nat.le_of_ble_eq_true rfl) wk_X3_22 wm_ac1 wm_ac2 wm_ac3 hl.1 (Nat.le_of_ble_eq_true rfl) (Nat.le_of_ble_eq_true rfl) dX3_copyFrom_35 (fun H locs hP hS => ?_)
  cases hf
  exact zr_vret X hr hP hS rfl dX3_copyFrom_38
set_option maxHeartbeats 4000000 in
set_option maxRecDepth 100000 in
theorem ct_X3_strengthen {g : zb_G} {nc : Nat} (hnI : 306 ≤ nc) (l : Launch) {b : Nat} (hB : zb_isB b) {a1 : Int32} {a2 : Int32} {I J O : Mem} {Iq : Mem} (hf : fX3_strengthen b a1 a2 I = some Iq) : zb_Ct l g nc yX3_strengthen cX3_strengthen 3 none 0 0 [.ref (g.2.2 + (b + 11)), .int a1, .int a2] (zb_ce g I J O) none (zb_ce g Iq J O) := by
  refine zb_ofW (own := RX3) (by decide +kernel) rfl (Nat.le_of_ble_eq_true rfl) ?_
  intro p e s m args below meth c ls X hr hP hl
  have hx := X.1.1
  have hb := X.1.2.1
  have ho := X.1.2.2.2.1
  have hts := X.1.2.2.2.2
  have hZ := X.2.2.2
  have hl : lv_has ls 3 [(0, .ref (g.2.2 + (b + 11))), (1, .int a1), (2, .int a2)] := hl
  have hS : va_S (zb_A g) s.heap s.heap [] := va_S.rf
  obtain ⟨H, hH⟩ : ∃ H, H = s.heap := ⟨_, rfl⟩
  obtain ⟨locs, hlocs⟩ : ∃ z : List Loc, z = [] := ⟨_, rfl⟩
  rw [← hH] at hP
  have hS : va_S (zb_A g) s.heap H locs := by rw [hH, hlocs]; exact hS
  show W p l e _ s m args below meth c s.heap [] 0 0 _ _
  rw [← hH, ← hlocs]
  rw [fX3_strengthen] at hf
  refine lv_iload_n hx hb dX3_strengthen_0 rfl (lv_at hl 1 rfl) ?_
  obtain ⟨I2, ht, hf⟩ := ob_e hf
  have K1 : ∀ (H : Heap) (locs : List Loc) (ls : Array Slot), va_P g.1 vwCl (zb_ws g nc (zb_ce g I2 J O)) H → va_S (zb_A g) s.heap H locs → lv_has ls 3 [] → W p l e { frames := 0, cells := 0, slots := 0, locals := 0 } s m args below meth c H locs 0 0 (MQ below (zb_Po g nc (zb_ce g Iq J O) none) args s 0 0 (zb_A g)) (F0 m 17 ls []) := by
    intro H locs ls hP hS hl
    cases hf
    exact zr_vret X hr hP hS rfl dX3_strengthen_17
  have hf := ht
  refine lv_if_lt (tgt := 17) hx hb dX3_strengthen_1 (by decide) (fun hc => ?_) (fun hc => ?_)
  · have hf := if_t hc hf
    cases hf
    exact K1 H locs ls hP hS (lv_sub hl [] rfl)
  · have hf := if_f hc hf
    refine lv_iload_n hx hb dX3_strengthen_4 rfl (lv_at hl 1 rfl) ?_
    refine lv_bipush (v := (10 : Int32)) hx hb dX3_strengthen_5 (by decide) ?_
    refine lv_icmp_ge (tgt := 17) hx hb dX3_strengthen_7 (by decide) (fun hc => ?_) (fun hc => ?_)
    · have hf := if_t hc hf
      cases hf
      exact K1 H locs ls hP hS (lv_sub hl [] rfl)
    · have hf := if_f hc hf
      refine lv_aload_n hx hb dX3_strengthen_10 rfl (lv_at hl 0 rfl) ?_
      refine gf_X3_15 X hnI hP (zb_bk (j := 11) hB (by decide) rfl) dX3_strengthen_11 ?_
      refine lv_iload_n hx hb dX3_strengthen_14 rfl (lv_at hl 1 rfl) ?_
      refine lv_iload_n hx hb dX3_strengthen_15 rfl (lv_at hl 2 rfl) ?_
      obtain ⟨I1, hI1, hf⟩ := ob_e hf
      refine zr_astI X hP hS hnI (zb_bk (j := 12) hB (by decide) rfl) hI1 dX3_strengthen_16 (fun H locs hP hS => ?_)
      cases hf
      exact K1 H locs ls hP hS (lv_sub hl [] rfl)
set_option maxHeartbeats 4000000 in
set_option maxRecDepth 100000 in
theorem lpX3_clear_L7 {g : zb_G} {nc : Nat} (hnI : 306 ≤ nc) (l : Launch) {b : Nat} (hB : zb_isB b) {J O : Mem} {p : Program} {e : Env} {s : State} {m : MethodId} {args : Array Value} {below : List Frame} {meth : Method} {c : Code} {Q : State → Prop} (X : zb_X g p m c cX3_clear 2 s args RX3 meth) : ∀ {n9 : Nat} {a1 : Int32} {I : Mem} {Iz : Mem} {H : Heap} {locs : List Loc} {ls : Array Slot}, fX3_clear_L7 b n9 a1 I = some Iz → (∀ (H : Heap) (locs : List Loc) (ls : Array Slot), va_P g.1 vwCl (zb_ws g nc (zb_ce g Iz J O)) H → va_S (zb_A g) s.heap H locs → lv_has ls 2 [] → W p l e { frames := 0, cells := 0, slots := 0, locals := 0 } s m args below meth c H locs 0 0 Q (F0 m 34 ls [])) → va_P g.1 vwCl (zb_ws g nc (zb_ce g I J O)) H → va_S (zb_A g) s.heap H locs → lv_has ls 2 [(1, .int a1), (0, .ref (g.2.2 + (b + 11)))] → W p l e { frames := 0, cells := 0, slots := 0, locals := 0 } s m args below meth c H locs 0 0 Q (F0 m 7 ls []) := by
  have hx := X.1.1
  have hb := X.1.2.1
  have ho := X.1.2.2.2.1
  have hts := X.1.2.2.2.2
  have hZ := X.2.2.2
  intro n9
  induction n9 with
  | zero =>
    intro a1 I Iz H locs ls hf
    exact nomatch hf
  | succ n9 ih =>
    intro a1 I Iz H locs ls hf KK hP hS hl
    rw [fX3_clear_L7] at hf
    refine lv_iload_n hx hb dX3_clear_7 rfl (lv_at hl 0 rfl) ?_
    refine lv_bipush (v := (10 : Int32)) hx hb dX3_clear_8 (by decide) ?_
    refine lv_icmp_ge (tgt := 34) hx hb dX3_clear_10 (by decide) (fun hc => ?_) (fun hc => ?_)
    · have hf := if_t hc hf
      cases hf
      exact KK H locs ls hP hS (lv_sub hl [] rfl)
    · have hf := if_f hc hf
      refine lv_aload_n hx hb dX3_clear_13 rfl (lv_at hl 1 rfl) ?_
      refine gf_X3_15 X hnI hP (zb_bk (j := 11) hB (by decide) rfl) dX3_clear_14 ?_
      refine lv_iload_n hx hb dX3_clear_17 rfl (lv_at hl 0 rfl) ?_
      refine lv_bipush (v := (10 : Int32)) hx hb dX3_clear_18 (by decide) ?_
      obtain ⟨I1, hI1, hf⟩ := ob_e hf
      refine zr_astI X hP hS hnI (zb_bk (j := 12) hB (by decide) rfl) hI1 dX3_clear_20 (fun H locs hP hS => ?_)
      refine lv_aload_n hx hb dX3_clear_21 rfl (lv_at hl 1 rfl) ?_
      refine gf_X3_19 X hnI hP (zb_bk (j := 11) hB (by decide) rfl) dX3_clear_22 ?_
      refine lv_iload_n hx hb dX3_clear_25 rfl (lv_at hl 0 rfl) ?_
      refine lv_iconst (v := (0 : Int32)) hx hb dX3_clear_26 (by decide) ?_
      obtain ⟨I2, hI2, hf⟩ := ob_e hf
      refine zr_astI X hP hS hnI (zb_bk (j := 13) hB (by decide) rfl) hI2 dX3_clear_27 (fun H locs hP hS => ?_)
      refine lv_iinc (v := (a1 + (1 : Int32))) (lv' := [(1, .int (a1 + (1 : Int32))), (0, .ref (g.2.2 + (b + 11)))]) hx hb dX3_clear_28 hl (k := 0) rfl rfl (by decide) rfl (fun ls hl => ?_)
      refine lv_goto (tgt := 7) hx hb dX3_clear_31 (by decide) ?_
      exact ih hf KK hP hS (lv_sub hl [0, 1] rfl)
set_option maxHeartbeats 4000000 in
set_option maxRecDepth 100000 in
theorem ct_X3_clear {g : zb_G} {nc : Nat} (hnI : 306 ≤ nc) (l : Launch) {b : Nat} (hB : zb_isB b) {I J O : Mem} {Iq : Mem} (hf : fX3_clear b I = some Iq) : zb_Ct l g nc yX3_clear cX3_clear 2 none 0 0 [.ref (g.2.2 + (b + 11))] (zb_ce g I J O) none (zb_ce g Iq J O) := by
  refine zb_ofW (own := RX3) (by decide +kernel) rfl (Nat.le_of_ble_eq_true rfl) ?_
  intro p e s m args below meth c ls X hr hP hl
  have hx := X.1.1
  have hb := X.1.2.1
  have ho := X.1.2.2.2.1
  have hts := X.1.2.2.2.2
  have hZ := X.2.2.2
  have hl : lv_has ls 2 [(0, .ref (g.2.2 + (b + 11)))] := hl
  have hS : va_S (zb_A g) s.heap s.heap [] := va_S.rf
  obtain ⟨H, hH⟩ : ∃ H, H = s.heap := ⟨_, rfl⟩
  obtain ⟨locs, hlocs⟩ : ∃ z : List Loc, z = [] := ⟨_, rfl⟩
  rw [← hH] at hP
  have hS : va_S (zb_A g) s.heap H locs := by rw [hH, hlocs]; exact hS
  show W p l e _ s m args below meth c s.heap [] 0 0 _ _
  rw [← hH, ← hlocs]
  rw [fX3_clear] at hf
  refine lv_aload_n hx hb dX3_clear_0 rfl (lv_at hl 0 rfl) ?_
  refine lv_iconst (v := (0 : Int32)) hx hb dX3_clear_1 (by decide) ?_
  refine pf_X3_9 X hnI hP hS (zb_bk (j := 11) hB (by decide) rfl) dX3_clear_2 (fun H locs hP hS => ?_)
  refine lv_iconst (v := (0 : Int32)) hx hb dX3_clear_5 (by decide) ?_
  refine lv_istore_n (lv' := [(1, .int (0 : Int32)), (0, .ref (g.2.2 + (b + 11)))]) hx hb dX3_clear_6 rfl hl (by decide) rfl (fun ls hl => ?_)
  obtain ⟨I3, hI3, hf⟩ := ob_e hf
  have K1 : ∀ (H : Heap) (locs : List Loc) (ls : Array Slot), va_P g.1 vwCl (zb_ws g nc (zb_ce g I3 J O)) H → va_S (zb_A g) s.heap H locs → lv_has ls 2 [] → W p l e { frames := 0, cells := 0, slots := 0, locals := 0 } s m args below meth c H locs 0 0 (MQ below (zb_Po g nc (zb_ce g Iq J O) none) args s 0 0 (zb_A g)) (F0 m 34 ls []) := by
    intro H locs ls hP hS hl
    cases hf
    exact zr_vret X hr hP hS rfl dX3_clear_34
  exact lpX3_clear_L7 hnI l hB X hI3 K1 hP hS (lv_sub hl [0, 1] rfl)
set_option maxHeartbeats 4000000 in
set_option maxRecDepth 100000 in
theorem ct_X4_clear {g : zb_G} {nc : Nat} (hnI : 306 ≤ nc) (l : Launch) {I J O : Mem} {Iq : Mem} (hf : fX4_clear I = some Iq) : zb_Ct l g nc yX4_clear cX4_clear 1 none 0 0 [.ref (g.2.2 + 61)] (zb_ce g I J O) none (zb_ce g Iq J O) := by
  refine zb_ofW (own := RX4) (by decide +kernel) rfl (Nat.le_of_ble_eq_true rfl) ?_
  intro p e s m args below meth c ls X hr hP hl
  have hx := X.1.1
  have hb := X.1.2.1
  have ho := X.1.2.2.2.1
  have hts := X.1.2.2.2.2
  have hZ := X.2.2.2
  have hl : lv_has ls 1 [(0, .ref (g.2.2 + 61))] := hl
  have hS : va_S (zb_A g) s.heap s.heap [] := va_S.rf
  obtain ⟨H, hH⟩ : ∃ H, H = s.heap := ⟨_, rfl⟩
  obtain ⟨locs, hlocs⟩ : ∃ z : List Loc, z = [] := ⟨_, rfl⟩
  rw [← hH] at hP
  have hS : va_S (zb_A g) s.heap H locs := by rw [hH, hlocs]; exact hS
  show W p l e _ s m args below meth c s.heap [] 0 0 _ _
  rw [← hH, ← hlocs]
  rw [fX4_clear] at hf
  refine lv_aload_n hx hb dX4_clear_0 rfl (lv_at hl 0 rfl) ?_
  refine lv_iconst (v := (0 : Int32)) hx hb dX4_clear_1 (by decide) ?_
  refine pf_X4_9 X hnI hP hS zk_61 dX4_clear_2 (fun H locs hP hS => ?_)
  refine lv_aload_n hx hb dX4_clear_5 rfl (lv_at hl 0 rfl) ?_
  refine gf_X4_19 X hnI hP zk_61 dX4_clear_6 ?_
  refine lv_iconst (v := (0 : Int32)) hx hb dX4_clear_9 (by decide) ?_
  refine lv_iconst (v := (0 : Int32)) hx hb dX4_clear_10 (by decide) ?_
  obtain ⟨I1, hI1, hf⟩ := ob_e hf
  refine zr_astI X hP hS hnI zk_63 hI1 dX4_clear_11 (fun H locs hP hS => ?_)
  cases hf
  exact zr_vret X hr hP hS rfl dX4_clear_12
set_option maxHeartbeats 4000000 in
set_option maxRecDepth 100000 in
theorem ct_X4_begin {g : zb_G} {nc : Nat} (hnI : 306 ≤ nc) (l : Launch) {a1 : Int32} {I J O : Mem} {Iq : Mem} (hf : fX4_begin a1 I = some Iq) : zb_Ct l g nc yX4_begin cX4_begin 2 none 0 0 [.ref (g.2.2 + 61), .int a1] (zb_ce g I J O) none (zb_ce g Iq J O) := by
  refine zb_ofW (own := RX4) (by decide +kernel) rfl (Nat.le_of_ble_eq_true rfl) ?_
  intro p e s m args below meth c ls X hr hP hl
  have hx := X.1.1
  have hb := X.1.2.1
  have ho := X.1.2.2.2.1
  have hts := X.1.2.2.2.2
  have hZ := X.2.2.2
  have hl : lv_has ls 2 [(0, .ref (g.2.2 + 61)), (1, .int a1)] := hl
  have hS : va_S (zb_A g) s.heap s.heap [] := va_S.rf
  obtain ⟨H, hH⟩ : ∃ H, H = s.heap := ⟨_, rfl⟩
  obtain ⟨locs, hlocs⟩ : ∃ z : List Loc, z = [] := ⟨_, rfl⟩
  rw [← hH] at hP
  have hS : va_S (zb_A g) s.heap H locs := by rw [hH, hlocs]; exact hS
  show W p l e _ s m args below meth c s.heap [] 0 0 _ _
  rw [← hH, ← hlocs]
  rw [fX4_begin] at hf
  refine lv_aload_n hx hb dX4_begin_0 rfl (lv_at hl 0 rfl) ?_
  refine gf_X4_9 X hnI hP zk_61 dX4_begin_1 ?_
  refine lv_bipush (v := (40 : Int32)) hx hb dX4_begin_4 (by decide) ?_
  obtain ⟨I4, ht, hf⟩ := ob_e hf
  have K1 : ∀ (H : Heap) (locs : List Loc) (ls : Array Slot), va_P g.1 vwCl (zb_ws g nc (zb_ce g I4 J O)) H → va_S (zb_A g) s.heap H locs → lv_has ls 2 [] → W p l e { frames := 0, cells := 0, slots := 0, locals := 0 } s m args below meth c H locs 0 0 (MQ below (zb_Po g nc (zb_ce g Iq J O) none) args s 0 0 (zb_A g)) (F0 m 49 ls []) := by
    intro H locs ls hP hS hl
    cases hf
    exact zr_vret X hr hP hS rfl dX4_begin_49
  have hf := ht
  refine lv_icmp_ge (tgt := 49) hx hb dX4_begin_6 (by decide) (fun hc => ?_) (fun hc => ?_)
  · have hf := if_t hc hf
    cases hf
    exact K1 H locs ls hP hS (lv_sub hl [] rfl)
  · have hf := if_f hc hf
    refine lv_aload_n hx hb dX4_begin_9 rfl (lv_at hl 0 rfl) ?_
    refine gf_X4_15 X hnI hP zk_61 dX4_begin_10 ?_
    refine lv_aload_n hx hb dX4_begin_13 rfl (lv_at hl 0 rfl) ?_
    refine gf_X4_9 X hnI hP zk_61 dX4_begin_14 ?_
    refine lv_iload_n hx hb dX4_begin_17 rfl (lv_at hl 1 rfl) ?_
    obtain ⟨I1, hI1, hf⟩ := ob_e hf
    refine zr_astI X hP hS hnI zk_62 hI1 dX4_begin_18 (fun H locs hP hS => ?_)
    refine lv_aload_n hx hb dX4_begin_19 rfl (lv_at hl 0 rfl) ?_
    refine gf_X4_19 X hnI hP zk_61 dX4_begin_20 ?_
    refine lv_aload_n hx hb dX4_begin_23 rfl (lv_at hl 0 rfl) ?_
    refine gf_X4_9 X hnI hP zk_61 dX4_begin_24 ?_
    refine lv_iconst (v := (1 : Int32)) hx hb dX4_begin_27 (by decide) ?_
    refine lv_iadd hx hb dX4_begin_28 ?_
    refine lv_aload_n hx hb dX4_begin_29 rfl (lv_at hl 0 rfl) ?_
    refine gf_X4_19 X hnI hP zk_61 dX4_begin_30 ?_
    refine lv_aload_n hx hb dX4_begin_33 rfl (lv_at hl 0 rfl) ?_
    refine gf_X4_9 X hnI hP zk_61 dX4_begin_34 ?_
    obtain ⟨x2, hx2, hf⟩ := ob_e hf
    refine zr_aldI X hP hnI zk_63 hx2 dX4_begin_37 ?_
    obtain ⟨I3, hI3, hf⟩ := ob_e hf
    refine zr_astI X hP hS hnI zk_63 hI3 dX4_begin_38 (fun H locs hP hS => ?_)
    refine lv_aload_n hx hb dX4_begin_39 rfl (lv_at hl 0 rfl) ?_
    refine lv_dup hx hb dX4_begin_40 rfl ?_
    refine gf_X4_9 X hnI hP zk_61 dX4_begin_41 ?_
    refine lv_iconst (v := (1 : Int32)) hx hb dX4_begin_44 (by decide) ?_
    refine lv_iadd hx hb dX4_begin_45 ?_
    refine pf_X4_9 X hnI hP hS zk_61 dX4_begin_46 (fun H locs hP hS => ?_)
    cases hf
    exact K1 H locs ls hP hS (lv_sub hl [] rfl)
set_option maxHeartbeats 4000000 in
set_option maxRecDepth 100000 in
theorem ct_X4_add {g : zb_G} {nc : Nat} (hnI : 306 ≤ nc) (l : Launch) {a1 : Int32} {I J O : Mem} {Iq : Mem} (hf : fX4_add a1 I = some Iq) : zb_Ct l g nc yX4_add cX4_add 3 none 0 0 [.ref (g.2.2 + 61), .int a1] (zb_ce g I J O) none (zb_ce g Iq J O) := by
  refine zb_ofW (own := RX4) (by decide +kernel) rfl (Nat.le_of_ble_eq_true rfl) ?_
  intro p e s m args below meth c ls X hr hP hl
  have hx := X.1.1
  have hb := X.1.2.1
  have ho := X.1.2.2.2.1
  have hts := X.1.2.2.2.2
  have hZ := X.2.2.2
  have hl : lv_has ls 3 [(0, .ref (g.2.2 + 61)), (1, .int a1)] := hl
  have hS : va_S (zb_A g) s.heap s.heap [] := va_S.rf
  obtain ⟨H, hH⟩ : ∃ H, H = s.heap := ⟨_, rfl⟩
  obtain ⟨locs, hlocs⟩ : ∃ z : List Loc, z = [] := ⟨_, rfl⟩
  rw [← hH] at hP
  have hS : va_S (zb_A g) s.heap H locs := by rw [hH, hlocs]; exact hS
  show W p l e _ s m args below meth c s.heap [] 0 0 _ _
  rw [← hH, ← hlocs]
  rw [fX4_add] at hf
  refine lv_aload_n hx hb dX4_add_0 rfl (lv_at hl 0 rfl) ?_
  refine gf_X4_19 X hnI hP zk_61 dX4_add_1 ?_
  refine lv_aload_n hx hb dX4_add_4 rfl (lv_at hl 0 rfl) ?_
  refine gf_X4_9 X hnI hP zk_61 dX4_add_5 ?_
  obtain ⟨x1, hx1, hf⟩ := ob_e hf
  refine zr_aldI X hP hnI zk_63 hx1 dX4_add_8 ?_
  refine lv_istore_n (lv' := [(2, .int x1), (0, .ref (g.2.2 + 61)), (1, .int a1)]) hx hb dX4_add_9 rfl hl (by decide) rfl (fun ls hl => ?_)
  refine lv_iload_n hx hb dX4_add_10 rfl (lv_at hl 0 rfl) ?_
  refine lv_aload_n hx hb dX4_add_11 rfl (lv_at hl 1 rfl) ?_
  refine gf_X4_22 X hnI hP zk_61 dX4_add_12 ?_
  refine zr_alenI X hP hnI zk_64 dX4_add_15 ?_
  obtain ⟨I4, ht, hf⟩ := ob_e hf
  have K1 : ∀ (H : Heap) (locs : List Loc) (ls : Array Slot), va_P g.1 vwCl (zb_ws g nc (zb_ce g I4 J O)) H → va_S (zb_A g) s.heap H locs → lv_has ls 3 [] → W p l e { frames := 0, cells := 0, slots := 0, locals := 0 } s m args below meth c H locs 0 0 (MQ below (zb_Po g nc (zb_ce g Iq J O) none) args s 0 0 (zb_A g)) (F0 m 38 ls []) := by
    intro H locs ls hP hS hl
    cases hf
    exact zr_vret X hr hP hS rfl dX4_add_38
  have hf := ht
  refine lv_icmp_ge (tgt := 38) hx hb dX4_add_16 (by decide) (fun hc => ?_) (fun hc => ?_)
  · have hf := if_t hc hf
    cases hf
    exact K1 H locs ls hP hS (lv_sub hl [] rfl)
  · have hf := if_f hc hf
    refine lv_aload_n hx hb dX4_add_19 rfl (lv_at hl 1 rfl) ?_
    refine gf_X4_22 X hnI hP zk_61 dX4_add_20 ?_
    refine lv_iload_n hx hb dX4_add_23 rfl (lv_at hl 0 rfl) ?_
    refine lv_iload_n hx hb dX4_add_24 rfl (lv_at hl 2 rfl) ?_
    obtain ⟨I2, hI2, hf⟩ := ob_e hf
    refine zr_astI X hP hS hnI zk_64 hI2 dX4_add_25 (fun H locs hP hS => ?_)
    refine lv_aload_n hx hb dX4_add_26 rfl (lv_at hl 1 rfl) ?_
    refine gf_X4_19 X hnI hP zk_61 dX4_add_27 ?_
    refine lv_aload_n hx hb dX4_add_30 rfl (lv_at hl 1 rfl) ?_
    refine gf_X4_9 X hnI hP zk_61 dX4_add_31 ?_
    refine lv_iload_n hx hb dX4_add_34 rfl (lv_at hl 0 rfl) ?_
    refine lv_iconst (v := (1 : Int32)) hx hb dX4_add_35 (by decide) ?_
    refine lv_iadd hx hb dX4_add_36 ?_
    obtain ⟨I3, hI3, hf⟩ := ob_e hf
    refine zr_astI X hP hS hnI zk_63 hI3 dX4_add_37 (fun H locs hP hS => ?_)
    cases hf
    exact K1 H locs ls hP hS (lv_sub hl [] rfl)
set_option maxHeartbeats 4000000 in
set_option maxRecDepth 100000 in
theorem ct_X4_kindOf {g : zb_G} {nc : Nat} (hnI : 306 ≤ nc) (l : Launch) {a1 : Int32} {I J O : Mem} {r9 : Int32} (hf : fX4_kindOf a1 I = some r9) : zb_Ct l g nc yX4_kindOf cX4_kindOf 2 (some .int) 0 0 [.ref (g.2.2 + 61), .int a1] (zb_ce g I J O) (some (.int r9)) (zb_ce g I J O) := by
  refine zb_ofW (own := RX4) (by decide +kernel) rfl (Nat.le_of_ble_eq_true rfl) ?_
  intro p e s m args below meth c ls X hr hP hl
  have hx := X.1.1
  have hb := X.1.2.1
  have ho := X.1.2.2.2.1
  have hts := X.1.2.2.2.2
  have hZ := X.2.2.2
  have hl : lv_has ls 2 [(0, .ref (g.2.2 + 61)), (1, .int a1)] := hl
  have hS : va_S (zb_A g) s.heap s.heap [] := va_S.rf
  obtain ⟨H, hH⟩ : ∃ H, H = s.heap := ⟨_, rfl⟩
  obtain ⟨locs, hlocs⟩ : ∃ z : List Loc, z = [] := ⟨_, rfl⟩
  rw [← hH] at hP
  have hS : va_S (zb_A g) s.heap H locs := by rw [hH, hlocs]; exact hS
  show W p l e _ s m args below meth c s.heap [] 0 0 _ _
  rw [← hH, ← hlocs]
  rw [fX4_kindOf] at hf
  refine lv_iload_n hx hb dX4_kindOf_0 rfl (lv_at hl 1 rfl) ?_
  obtain ⟨x2, ht, hf⟩ := ob_e hf
  have K1 : ∀ (H : Heap) (locs : List Loc) (ls : Array Slot), va_P g.1 vwCl (zb_ws g nc (zb_ce g I J O)) H → va_S (zb_A g) s.heap H locs → lv_has ls 2 [] → W p l e { frames := 0, cells := 0, slots := 0, locals := 0 } s m args below meth c H locs 0 0 (MQ below (zb_Po g nc (zb_ce g I J O) (some (.int r9))) args s 0 0 (zb_A g)) (F0 m 22 ls [.int x2]) := by
    intro H locs ls hP hS hl
    cases hf
    exact zr_iret X hr hP hS dX4_kindOf_22
  have hf := ht
  refine lv_if_lt (tgt := 21) hx hb dX4_kindOf_1 (by decide) (fun hc => ?_) (fun hc => ?_)
  · have hf := if_t hc hf
    refine lv_iconst (v := (4 : Int32)) hx hb dX4_kindOf_21 (by decide) ?_
    cases hf
    exact K1 H locs ls hP hS (lv_sub hl [] rfl)
  · have hf := if_f hc hf
    refine lv_iload_n hx hb dX4_kindOf_4 rfl (lv_at hl 1 rfl) ?_
    refine lv_aload_n hx hb dX4_kindOf_5 rfl (lv_at hl 0 rfl) ?_
    refine gf_X4_9 X hnI hP zk_61 dX4_kindOf_6 ?_
    refine lv_icmp_ge (tgt := 21) hx hb dX4_kindOf_9 (by decide) (fun hc => ?_) (fun hc => ?_)
    · have hf := if_t hc hf
      refine lv_iconst (v := (4 : Int32)) hx hb dX4_kindOf_21 (by decide) ?_
      cases hf
      exact K1 H locs ls hP hS (lv_sub hl [] rfl)
    · have hf := if_f hc hf
      refine lv_aload_n hx hb dX4_kindOf_12 rfl (lv_at hl 0 rfl) ?_
      refine gf_X4_15 X hnI hP zk_61 dX4_kindOf_13 ?_
      refine lv_iload_n hx hb dX4_kindOf_16 rfl (lv_at hl 1 rfl) ?_
      obtain ⟨x1, hx1, hf⟩ := ob_e hf
      refine zr_aldI X hP hnI zk_62 hx1 dX4_kindOf_17 ?_
      refine lv_goto (tgt := 22) hx hb dX4_kindOf_18 (by decide) ?_
      cases hf
      exact K1 H locs ls hP hS (lv_sub hl [] rfl)
set_option maxHeartbeats 4000000 in
set_option maxRecDepth 100000 in
theorem ct_X4_arguments {g : zb_G} {nc : Nat} (hnI : 306 ≤ nc) (l : Launch) {a1 : Int32} {I J O : Mem} {r9 : Int32} (hf : fX4_arguments a1 I = some r9) : zb_Ct l g nc yX4_arguments cX4_arguments 2 (some .int) 0 0 [.ref (g.2.2 + 61), .int a1] (zb_ce g I J O) (some (.int r9)) (zb_ce g I J O) := by
  refine zb_ofW (own := RX4) (by decide +kernel) rfl (Nat.le_of_ble_eq_true rfl) ?_
  intro p e s m args below meth c ls X hr hP hl
  have hx := X.1.1
  have hb := X.1.2.1
  have ho := X.1.2.2.2.1
  have hts := X.1.2.2.2.2
  have hZ := X.2.2.2
  have hl : lv_has ls 2 [(0, .ref (g.2.2 + 61)), (1, .int a1)] := hl
  have hS : va_S (zb_A g) s.heap s.heap [] := va_S.rf
  obtain ⟨H, hH⟩ : ∃ H, H = s.heap := ⟨_, rfl⟩
  obtain ⟨locs, hlocs⟩ : ∃ z : List Loc, z = [] := ⟨_, rfl⟩
  rw [← hH] at hP
  have hS : va_S (zb_A g) s.heap H locs := by rw [hH, hlocs]; exact hS
  show W p l e _ s m args below meth c s.heap [] 0 0 _ _
  rw [← hH, ← hlocs]
  rw [fX4_arguments] at hf
  refine lv_iload_n hx hb dX4_arguments_0 rfl (lv_at hl 1 rfl) ?_
  obtain ⟨x3, ht, hf⟩ := ob_e hf
  have K1 : ∀ (H : Heap) (locs : List Loc) (ls : Array Slot), va_P g.1 vwCl (zb_ws g nc (zb_ce g I J O)) H → va_S (zb_A g) s.heap H locs → lv_has ls 2 [] → W p l e { frames := 0, cells := 0, slots := 0, locals := 0 } s m args below meth c H locs 0 0 (MQ below (zb_Po g nc (zb_ce g I J O) (some (.int r9))) args s 0 0 (zb_A g)) (F0 m 31 ls [.int x3]) := by
    intro H locs ls hP hS hl
    cases hf
    exact zr_iret X hr hP hS dX4_arguments_31
  have hf := ht
  refine lv_if_lt (tgt := 30) hx hb dX4_arguments_1 (by decide) (fun hc => ?_) (fun hc => ?_)
  · have hf := if_t hc hf
    refine lv_iconst (v := (0 : Int32)) hx hb dX4_arguments_30 (by decide) ?_
    cases hf
    exact K1 H locs ls hP hS (lv_sub hl [] rfl)
  · have hf := if_f hc hf
    refine lv_iload_n hx hb dX4_arguments_4 rfl (lv_at hl 1 rfl) ?_
    refine lv_aload_n hx hb dX4_arguments_5 rfl (lv_at hl 0 rfl) ?_
    refine gf_X4_9 X hnI hP zk_61 dX4_arguments_6 ?_
    refine lv_icmp_ge (tgt := 30) hx hb dX4_arguments_9 (by decide) (fun hc => ?_) (fun hc => ?_)
    · have hf := if_t hc hf
      refine lv_iconst (v := (0 : Int32)) hx hb dX4_arguments_30 (by decide) ?_
      cases hf
      exact K1 H locs ls hP hS (lv_sub hl [] rfl)
    · have hf := if_f hc hf
      refine lv_aload_n hx hb dX4_arguments_12 rfl (lv_at hl 0 rfl) ?_
      refine gf_X4_19 X hnI hP zk_61 dX4_arguments_13 ?_
      refine lv_iload_n hx hb dX4_arguments_16 rfl (lv_at hl 1 rfl) ?_
      refine lv_iconst (v := (1 : Int32)) hx hb dX4_arguments_17 (by decide) ?_
      refine lv_iadd hx hb dX4_arguments_18 ?_
      obtain ⟨x1, hx1, hf⟩ := ob_e hf
      refine zr_aldI X hP hnI zk_63 hx1 dX4_arguments_19 ?_
      refine lv_aload_n hx hb dX4_arguments_20 rfl (lv_at hl 0 rfl) ?_
      refine gf_X4_19 X hnI hP zk_61 dX4_arguments_21 ?_
      refine lv_iload_n hx hb dX4_arguments_24 rfl (lv_at hl 1 rfl) ?_
      obtain ⟨x2, hx2, hf⟩ := ob_e hf
      refine zr_aldI X hP hnI zk_63 hx2 dX4_arguments_25 ?_
      refine lv_isub hx hb dX4_arguments_26 ?_
      refine lv_goto (tgt := 31) hx hb dX4_arguments_27 (by decide) ?_
      cases hf
      exact K1 H locs ls hP hS (lv_sub hl [] rfl)
set_option maxHeartbeats 4000000 in
set_option maxRecDepth 100000 in
theorem ct_X4_argument {g : zb_G} {nc : Nat} (hnI : 306 ≤ nc) (l : Launch) {a1 : Int32} {a2 : Int32} {I J O : Mem} {r9 : Int32} (hf : fX4_argument a1 a2 I = some r9) : zb_Ct l g nc yX4_argument cX4_argument 3 (some .int) 1 21 [.ref (g.2.2 + 61), .int a1, .int a2] (zb_ce g I J O) (some (.int r9)) (zb_ce g I J O) := by
  refine zb_ofW (own := RX4) (by decide +kernel) rfl (Nat.le_of_ble_eq_true rfl) ?_
  intro p e s m args below meth c ls X hr hP hl
  have hx := X.1.1
  have hb := X.1.2.1
  have ho := X.1.2.2.2.1
  have hts := X.1.2.2.2.2
  have hZ := X.2.2.2
  have hl : lv_has ls 3 [(0, .ref (g.2.2 + 61)), (1, .int a1), (2, .int a2)] := hl
  have hS : va_S (zb_A g) s.heap s.heap [] := va_S.rf
  obtain ⟨H, hH⟩ : ∃ H, H = s.heap := ⟨_, rfl⟩
  obtain ⟨locs, hlocs⟩ : ∃ z : List Loc, z = [] := ⟨_, rfl⟩
  rw [← hH] at hP
  have hS : va_S (zb_A g) s.heap H locs := by rw [hH, hlocs]; exact hS
  show W p l e _ s m args below meth c s.heap [] 0 0 _ _
  rw [← hH, ← hlocs]
  rw [fX4_argument] at hf
  refine lv_iload_n hx hb dX4_argument_0 rfl (lv_at hl 2 rfl) ?_
  obtain ⟨x4, ht, hf⟩ := ob_e hf
  have K1 : ∀ (H : Heap) (locs : List Loc) (ls : Array Slot), va_P g.1 vwCl (zb_ws g nc (zb_ce g I J O)) H → va_S (zb_A g) s.heap H locs → lv_has ls 3 [] → W p l e { frames := 1, cells := 0, slots := 0, locals := 21 } s m args below meth c H locs 0 0 (MQ below (zb_Po g nc (zb_ce g I J O) (some (.int r9))) args s 0 0 (zb_A g)) (F0 m 30 ls [.int x4]) := by
    intro H locs ls hP hS hl
    cases hf
    exact zr_iret X hr hP hS dX4_argument_30
  have hf := ht
  refine lv_if_lt (tgt := 29) hx hb dX4_argument_1 (by decide) (fun hc => ?_) (fun hc => ?_)
  · have hf := if_t hc hf
    refine lv_iconst (v := (0 : Int32)) hx hb dX4_argument_29 (by decide) ?_
    cases hf
    exact K1 H locs ls hP hS (lv_sub hl [] rfl)
  · have hf := if_f hc hf
    refine lv_iload_n hx hb dX4_argument_4 rfl (lv_at hl 2 rfl) ?_
    refine lv_aload_n hx hb dX4_argument_5 rfl (lv_at hl 0 rfl) ?_
    refine lv_iload_n hx hb dX4_argument_6 rfl (lv_at hl 1 rfl) ?_
    obtain ⟨x1, hx1, hf⟩ := ob_e hf
    refine zr_cVi (rest := [.int a2]) (As := [.int a1]) X hP hS (ct_X4_arguments (g := g) (nc := nc) (I := I) (J := J) (O := O) hnI l  hx1) cw_X4_25 (zr_recv X hP (Nat.lt_of_lt_of_le (zk_61).1 hnI) (zb_ceIo zk_61 (by decide)) rfl) rfl hl.1 (Nat.le_of_ble_eq_true rfl) ⟨Nat.le_of_ble_eq_true rfl, Nat.le_of_ble_eq_true rfl⟩ ⟨Nat.le_of_ble_eq_true rfl, Nat.le_of_ble_eq_true rfl⟩ dX4_argument_7 rfl (fun H locs hP hS => ?_)
    refine lv_icmp_ge (tgt := 29) hx hb dX4_argument_10 (by decide) (fun hc => ?_) (fun hc => ?_)
    · have hf := if_t hc hf
      refine lv_iconst (v := (0 : Int32)) hx hb dX4_argument_29 (by decide) ?_
      cases hf
      exact K1 H locs ls hP hS (lv_sub hl [] rfl)
    · have hf := if_f hc hf
      refine lv_aload_n hx hb dX4_argument_13 rfl (lv_at hl 0 rfl) ?_
      refine gf_X4_22 X hnI hP zk_61 dX4_argument_14 ?_
      refine lv_aload_n hx hb dX4_argument_17 rfl (lv_at hl 0 rfl) ?_
      refine gf_X4_19 X hnI hP zk_61 dX4_argument_18 ?_
      refine lv_iload_n hx hb dX4_argument_21 rfl (lv_at hl 1 rfl) ?_
      obtain ⟨x2, hx2, hf⟩ := ob_e hf
      refine zr_aldI X hP hnI zk_63 hx2 dX4_argument_22 ?_
      refine lv_iload_n hx hb dX4_argument_23 rfl (lv_at hl 2 rfl) ?_
      refine lv_iadd hx hb dX4_argument_24 ?_
      obtain ⟨x3, hx3, hf⟩ := ob_e hf
      refine zr_aldI X hP hnI zk_64 hx3 dX4_argument_25 ?_
      refine lv_goto (tgt := 30) hx hb dX4_argument_26 (by decide) ?_
      cases hf
      exact K1 H locs ls hP hS (lv_sub hl [] rfl)
set_option maxHeartbeats 4000000 in
set_option maxRecDepth 100000 in
theorem ct_X5_copyFrom {g : zb_G} {nc : Nat} (hnI : 306 ≤ nc) (l : Launch) {b : Nat} {b1 : Nat} (hB : zb_isB b) (hB1 : zb_isB b1) {I J O : Mem} {Iq : Mem} (hf : fX5_copyFrom b b1 I = some Iq) : zb_Ct l g nc yX5_copyFrom cX5_copyFrom 2 none 2 61 [.ref (g.2.2 + b), .ref (g.2.2 + b1)] (zb_ce g I J O) none (zb_ce g Iq J O) := by
  refine zb_ofW (own := RX5) (by decide +kernel) rfl (Nat.le_of_ble_eq_true rfl) ?_
  intro p e s m args below meth c ls X hr hP hl
  have hx := X.1.1
  have hb := X.1.2.1
  have ho := X.1.2.2.2.1
  have hts := X.1.2.2.2.2
  have hZ := X.2.2.2
  have hl : lv_has ls 2 [(0, .ref (g.2.2 + b)), (1, .ref (g.2.2 + b1))] := hl
  have hS : va_S (zb_A g) s.heap s.heap [] := va_S.rf
  obtain ⟨H, hH⟩ : ∃ H, H = s.heap := ⟨_, rfl⟩
  obtain ⟨locs, hlocs⟩ : ∃ z : List Loc, z = [] := ⟨_, rfl⟩
  rw [← hH] at hP
  have hS : va_S (zb_A g) s.heap H locs := by rw [hH, hlocs]; exact hS
  show W p l e _ s m args below meth c s.heap [] 0 0 _ _
  rw [← hH, ← hlocs]
  rw [fX5_copyFrom] at hf
  refine lv_aload_n hx hb dX5_copyFrom_0 rfl (lv_at hl 0 rfl) ?_
  refine gf_X5_12 X hnI hP (zb_b0 hB) dX5_copyFrom_1 ?_
  refine lv_aload_n hx hb dX5_copyFrom_4 rfl (lv_at hl 1 rfl) ?_
  refine gf_X5_12 X hnI hP (zb_b0 hB1) dX5_copyFrom_5 ?_
  obtain ⟨I1, hI1, hf⟩ := ob_e hf
  refine zr_cVv (rest := []) (As := [.ref (g.2.2 + (b1 + 1))]) X hP hS (ct_X0_copyFrom (g := g) (nc := nc) (I := I) (J := J) (O := O) hnI l hB hB1 hI1) cw_X5_60 (zr_recv X hP (Nat.lt_of_lt_of_le ((zb_bk (j := 1) hB (by decide) rfl)).1 hnI) (zb_ceIo (zb_bk (j := 1) hB (by decide) rfl) (by decide)) rfl) rfl hl.1 (Nat.le_of_ble_eq_true rfl) ⟨Nat.le_of_ble_eq_true rfl, Nat.le_of_ble_eq_true rfl⟩ ⟨Nat.le_of_ble_eq_true rfl, Nat.le_of_ble_eq_true rfl⟩ dX5_copyFrom_8 rfl (fun H locs hP hS => ?_)
  refine lv_aload_n hx hb dX5_copyFrom_11 rfl (lv_at hl 0 rfl) ?_
  refine gf_X5_21 X hnI hP (zb_b0 hB) dX5_copyFrom_12 ?_
  refine lv_aload_n hx hb dX5_copyFrom_15 rfl (lv_at hl 1 rfl) ?_
  refine gf_X5_21 X hnI hP (zb_b0 hB1) dX5_copyFrom_16 ?_
  obtain ⟨I2, hI2, hf⟩ := ob_e hf
  refine zr_cVv (rest := []) (As := [.ref (g.2.2 + (b1 + 11))]) X hP hS (ct_X3_copyFrom (g := g) (nc := nc) (I := I1) (J := J) (O := O) hnI l hB hB1 hI2) cw_X5_64 (zr_recv X hP (Nat.lt_of_lt_of_le ((zb_bk (j := 11) hB (by decide) rfl)).1 hnI) (zb_ceIo (zb_bk (j := 11) hB (by decide) rfl) (by decide)) rfl) rfl hl.1 (Nat.le_of_ble_eq_true rfl) ⟨Nat.le_of_ble_eq_true rfl, Nat.le_of_ble_eq_true rfl⟩ ⟨Nat.le_of_ble_eq_true rfl, Nat.le_of_ble_eq_true rfl⟩ dX5_copyFrom_19 rfl (fun H locs hP hS => ?_)
  refine lv_aload_n hx hb dX5_copyFrom_22 rfl (lv_at hl 0 rfl) ?_
  refine gf_X5_28 X hnI hP (zb_b0 hB) dX5_copyFrom_23 ?_
  refine lv_aload_n hx hb dX5_copyFrom_26 rfl (lv_at hl 1 rfl) ?_
  refine gf_X5_28 X hnI hP (zb_b0 hB1) dX5_copyFrom_27 ?_
  obtain ⟨I3, hI3, hf⟩ := ob_e hf
  refine zr_cVv (rest := []) (As := [.ref (g.2.2 + (b1 + 14))]) X hP hS (ct_X1_copyFrom (g := g) (nc := nc) (I := I2) (J := J) (O := O) hnI l hB hB1 hI3) cw_X5_67 (zr_recv X hP (Nat.lt_of_lt_of_le ((zb_bk (j := 14) hB (by decide) rfl)).1 hnI) (zb_ceIo (zb_bk (j := 14) hB (by decide) rfl) (by decide)) rfl) rfl hl.1 (Nat.le_of_ble_eq_true rfl) ⟨Nat.le_of_ble_eq_true rfl, Nat.le_of_ble_eq_true rfl⟩ ⟨Nat.le_of_ble_eq_true rfl, Nat.le_of_ble_eq_true rfl⟩ dX5_copyFrom_30 rfl (fun H locs hP hS => ?_)
  refine lv_aload_n hx hb dX5_copyFrom_33 rfl (lv_at hl 0 rfl) ?_
  refine lv_aload_n hx hb dX5_copyFrom_34 rfl (lv_at hl 1 rfl) ?_
  refine gf_X5_32 X hnI hP (zb_b0 hB1) dX5_copyFrom_35 ?_
  refine pf_X5_32 X hnI hP hS (zb_b0 hB) dX5_copyFrom_38 (fun H locs hP hS => ?_)
  refine lv_aload_n hx hb dX5_copyFrom_41 rfl (lv_at hl 0 rfl) ?_
  refine lv_aload_n hx hb dX5_copyFrom_42 rfl (lv_at hl 1 rfl) ?_
  refine gf_X5_36 X hnI hP (zb_b0 hB1) dX5_copyFrom_43 ?_
  refine pf_X5_36 X hnI hP hS (zb_b0 hB) dX5_copyFrom_46 (fun H locs hP hS => ?_)
  refine lv_aload_n hx hb dX5_copyFrom_49 rfl (lv_at hl 0 rfl) ?_
  refine lv_aload_n hx hb dX5_copyFrom_50 rfl (lv_at hl 1 rfl) ?_
  refine gf_X5_39 X hnI hP (zb_b0 hB1) dX5_copyFrom_51 ?_
  refine pf_X5_39 X hnI hP hS (zb_b0 hB) dX5_copyFrom_54 (fun H locs hP hS => ?_)
  refine lv_aload_n hx hb dX5_copyFrom_57 rfl (lv_at hl 0 rfl) ?_
  refine lv_aload_n hx hb dX5_copyFrom_58 rfl (lv_at hl 1 rfl) ?_
  refine gf_X5_42 X hnI hP (zb_b0 hB1) dX5_copyFrom_59 ?_
  refine pf_X5_42 X hnI hP hS (zb_b0 hB) dX5_copyFrom_62 (fun H locs hP hS => ?_)
  refine lv_aload_n hx hb dX5_copyFrom_65 rfl (lv_at hl 0 rfl) ?_
  refine lv_aload_n hx hb dX5_copyFrom_66 rfl (lv_at hl 1 rfl) ?_
  refine gf_X5_45 X hnI hP (zb_b0 hB1) dX5_copyFrom_67 ?_
  refine pf_X5_45 X hnI hP hS (zb_b0 hB) dX5_copyFrom_70 (fun H locs hP hS => ?_)
  refine lv_aload_n hx hb dX5_copyFrom_73 rfl (lv_at hl 0 rfl) ?_
  refine lv_aload_n hx hb dX5_copyFrom_74 rfl (lv_at hl 1 rfl) ?_
  refine gf_X5_48 X hnI hP (zb_b0 hB1) dX5_copyFrom_75 ?_
  refine pf_X5_48 X hnI hP hS (zb_b0 hB) dX5_copyFrom_78 (fun H locs hP hS => ?_)
  refine lv_aload_n hx hb dX5_copyFrom_81 rfl (lv_at hl 0 rfl) ?_
  refine lv_aload_n hx hb dX5_copyFrom_82 rfl (lv_at hl 1 rfl) ?_
  refine gf_X5_51 X hnI hP (zb_b0 hB1) dX5_copyFrom_83 ?_
  refine pf_X5_51 X hnI hP hS (zb_b0 hB) dX5_copyFrom_86 (fun H locs hP hS => ?_)
  refine lv_aload_n hx hb dX5_copyFrom_89 rfl (lv_at hl 0 rfl) ?_
  refine lv_aload_n hx hb dX5_copyFrom_90 rfl (lv_at hl 1 rfl) ?_
  refine gf_X5_54 X hnI hP (zb_b0 hB1) dX5_copyFrom_91 ?_
  refine pf_X5_54 X hnI hP hS (zb_b0 hB) dX5_copyFrom_94 (fun H locs hP hS => ?_)
  refine lv_aload_n hx hb dX5_copyFrom_97 rfl (lv_at hl 0 rfl) ?_
  refine lv_aload_n hx hb dX5_copyFrom_98 rfl (lv_at hl 1 rfl) ?_
  refine gf_X5_57 X hnI hP (zb_b0 hB1) dX5_copyFrom_99 ?_
  refine pf_X5_57 X hnI hP hS (zb_b0 hB) dX5_copyFrom_102 (fun H locs hP hS => ?_)
  cases hf
  exact zr_vret X hr hP hS rfl dX5_copyFrom_105
set_option maxHeartbeats 4000000 in
set_option maxRecDepth 100000 in
theorem ct_X5_clear {g : zb_G} {nc : Nat} (hnI : 306 ≤ nc) (l : Launch) {b : Nat} (hB : zb_isB b) {I J O : Mem} {Iq : Mem} (hf : fX5_clear b I = some Iq) : zb_Ct l g nc yX5_clear cX5_clear 1 none 1 21 [.ref (g.2.2 + b)] (zb_ce g I J O) none (zb_ce g Iq J O) := by
  refine zb_ofW (own := RX5) (by decide +kernel) rfl (Nat.le_of_ble_eq_true rfl) ?_
  intro p e s m args below meth c ls X hr hP hl
  have hx := X.1.1
  have hb := X.1.2.1
  have ho := X.1.2.2.2.1
  have hts := X.1.2.2.2.2
  have hZ := X.2.2.2
  have hl : lv_has ls 1 [(0, .ref (g.2.2 + b))] := hl
  have hS : va_S (zb_A g) s.heap s.heap [] := va_S.rf
  obtain ⟨H, hH⟩ : ∃ H, H = s.heap := ⟨_, rfl⟩
  obtain ⟨locs, hlocs⟩ : ∃ z : List Loc, z = [] := ⟨_, rfl⟩
  rw [← hH] at hP
  have hS : va_S (zb_A g) s.heap H locs := by rw [hH, hlocs]; exact hS
  show W p l e _ s m args below meth c s.heap [] 0 0 _ _
  rw [← hH, ← hlocs]
  rw [fX5_clear] at hf
  refine lv_aload_n hx hb dX5_clear_0 rfl (lv_at hl 0 rfl) ?_
  refine gf_X5_12 X hnI hP (zb_b0 hB) dX5_clear_1 ?_
  refine lv_iconst (v := (0 : Int32)) hx hb dX5_clear_4 (by decide) ?_
  refine pf_X5_70 X hnI hP hS (zb_bk (j := 1) hB (by decide) rfl) dX5_clear_5 (fun H locs hP hS => ?_)
  refine lv_aload_n hx hb dX5_clear_8 rfl (lv_at hl 0 rfl) ?_
  refine gf_X5_12 X hnI hP (zb_b0 hB) dX5_clear_9 ?_
  obtain ⟨I1, hI1, hf⟩ := ob_e hf
  refine zr_cVv (rest := []) (As := []) X hP hS (ct_X0_forgetReports (g := g) (nc := nc) (I := (wr I (b + 1) 0 (0 : Int32))) (J := J) (O := O) hnI l hB hI1) cw_X5_73 (zr_recv X hP (Nat.lt_of_lt_of_le ((zb_bk (j := 1) hB (by decide) rfl)).1 hnI) (zb_ceIo (zb_bk (j := 1) hB (by decide) rfl) (by decide)) rfl) rfl hl.1 (Nat.le_of_ble_eq_true rfl) ⟨Nat.le_of_ble_eq_true rfl, Nat.le_of_ble_eq_true rfl⟩ ⟨Nat.le_of_ble_eq_true rfl, Nat.le_of_ble_eq_true rfl⟩ dX5_clear_12 rfl (fun H locs hP hS => ?_)
  refine lv_aload_n hx hb dX5_clear_15 rfl (lv_at hl 0 rfl) ?_
  refine gf_X5_21 X hnI hP (zb_b0 hB) dX5_clear_16 ?_
  obtain ⟨I2, hI2, hf⟩ := ob_e hf
  refine zr_cVv (rest := []) (As := []) X hP hS (ct_X3_clear (g := g) (nc := nc) (I := I1) (J := J) (O := O) hnI l hB hI2) cw_X5_76 (zr_recv X hP (Nat.lt_of_lt_of_le ((zb_bk (j := 11) hB (by decide) rfl)).1 hnI) (zb_ceIo (zb_bk (j := 11) hB (by decide) rfl) (by decide)) rfl) rfl hl.1 (Nat.le_of_ble_eq_true rfl) ⟨Nat.le_of_ble_eq_true rfl, Nat.le_of_ble_eq_true rfl⟩ ⟨Nat.le_of_ble_eq_true rfl, Nat.le_of_ble_eq_true rfl⟩ dX5_clear_19 rfl (fun H locs hP hS => ?_)
  refine lv_aload_n hx hb dX5_clear_22 rfl (lv_at hl 0 rfl) ?_
  refine lv_iconst (v := (0 : Int32)) hx hb dX5_clear_23 (by decide) ?_
  refine pf_X5_32 X hnI hP hS (zb_b0 hB) dX5_clear_24 (fun H locs hP hS => ?_)
  refine lv_aload_n hx hb dX5_clear_27 rfl (lv_at hl 0 rfl) ?_
  refine lv_iconst (v := (1 : Int32)) hx hb dX5_clear_28 (by decide) ?_
  refine pf_X5_36 X hnI hP hS (zb_b0 hB) dX5_clear_29 (fun H locs hP hS => ?_)
  refine lv_aload_n hx hb dX5_clear_32 rfl (lv_at hl 0 rfl) ?_
  refine lv_iconst (v := (1 : Int32)) hx hb dX5_clear_33 (by decide) ?_
  refine pf_X5_39 X hnI hP hS (zb_b0 hB) dX5_clear_34 (fun H locs hP hS => ?_)
  refine lv_aload_n hx hb dX5_clear_37 rfl (lv_at hl 0 rfl) ?_
  refine lv_iconst (v := (0 : Int32)) hx hb dX5_clear_38 (by decide) ?_
  refine pf_X5_42 X hnI hP hS (zb_b0 hB) dX5_clear_39 (fun H locs hP hS => ?_)
  refine lv_aload_n hx hb dX5_clear_42 rfl (lv_at hl 0 rfl) ?_
  refine lv_iconst (v := (0 : Int32)) hx hb dX5_clear_43 (by decide) ?_
  refine pf_X5_45 X hnI hP hS (zb_b0 hB) dX5_clear_44 (fun H locs hP hS => ?_)
  refine lv_aload_n hx hb dX5_clear_47 rfl (lv_at hl 0 rfl) ?_
  refine lv_iconst (v := (0 : Int32)) hx hb dX5_clear_48 (by decide) ?_
  refine pf_X5_48 X hnI hP hS (zb_b0 hB) dX5_clear_49 (fun H locs hP hS => ?_)
  refine lv_aload_n hx hb dX5_clear_52 rfl (lv_at hl 0 rfl) ?_
  refine lv_iconst (v := (0 : Int32)) hx hb dX5_clear_53 (by decide) ?_
  refine pf_X5_51 X hnI hP hS (zb_b0 hB) dX5_clear_54 (fun H locs hP hS => ?_)
  refine lv_aload_n hx hb dX5_clear_57 rfl (lv_at hl 0 rfl) ?_
  refine lv_iconst (v := (0 : Int32)) hx hb dX5_clear_58 (by decide) ?_
  refine pf_X5_54 X hnI hP hS (zb_b0 hB) dX5_clear_59 (fun H locs hP hS => ?_)
  refine lv_aload_n hx hb dX5_clear_62 rfl (lv_at hl 0 rfl) ?_
  refine lv_iconst (v := (0 : Int32)) hx hb dX5_clear_63 (by decide) ?_
  refine pf_X5_57 X hnI hP hS (zb_b0 hB) dX5_clear_64 (fun H locs hP hS => ?_)
  cases hf
  exact zr_vret X hr hP hS rfl dX5_clear_67
set_option maxHeartbeats 4000000 in
set_option maxRecDepth 100000 in
theorem ct_X5_firstKept {g : zb_G} {nc : Nat} (hnI : 306 ≤ nc) (l : Launch) {b : Nat} (hB : zb_isB b) {I J O : Mem} {r9 : Int32} (hf : fX5_firstKept b I = some r9) : zb_Ct l g nc yX5_firstKept cX5_firstKept 1 (some .int) 1 21 [.ref (g.2.2 + b)] (zb_ce g I J O) (some (.int r9)) (zb_ce g I J O) := by
  refine zb_ofW (own := RX5) (by decide +kernel) rfl (Nat.le_of_ble_eq_true rfl) ?_
  intro p e s m args below meth c ls X hr hP hl
  have hx := X.1.1
  have hb := X.1.2.1
  have ho := X.1.2.2.2.1
  have hts := X.1.2.2.2.2
  have hZ := X.2.2.2
  have hl : lv_has ls 1 [(0, .ref (g.2.2 + b))] := hl
  have hS : va_S (zb_A g) s.heap s.heap [] := va_S.rf
  obtain ⟨H, hH⟩ : ∃ H, H = s.heap := ⟨_, rfl⟩
  obtain ⟨locs, hlocs⟩ : ∃ z : List Loc, z = [] := ⟨_, rfl⟩
  rw [← hH] at hP
  have hS : va_S (zb_A g) s.heap H locs := by rw [hH, hlocs]; exact hS
  show W p l e _ s m args below meth c s.heap [] 0 0 _ _
  rw [← hH, ← hlocs]
  rw [fX5_firstKept] at hf
  refine lv_iconst (v := (0 : Int32)) hx hb dX5_firstKept_0 (by decide) ?_
  refine lv_aload_n hx hb dX5_firstKept_1 rfl (lv_at hl 0 rfl) ?_
  refine gf_X5_45 X hnI hP (zb_b0 hB) dX5_firstKept_2 ?_
  refine lv_bipush (v := (24 : Int32)) hx hb dX5_firstKept_5 (by decide) ?_
  refine lv_isub hx hb dX5_firstKept_7 ?_
  refine zr_max X wk_X5_79 wm_max1 wm_max2 wm_max3 hl.1 (Nat.le_of_ble_eq_true rfl) (Nat.le_of_ble_eq_true rfl) ⟨Nat.le_of_ble_eq_true rfl, Nat.le_of_ble_eq_true rfl⟩ dX5_firstKept_8 ?_
  cases hf
  exact zr_iret X hr hP hS dX5_firstKept_11
set_option maxHeartbeats 4000000 in
set_option maxRecDepth 100000 in
theorem ct_J9_floorMod_7cf53 {g : zb_G} {nc : Nat} (l : Launch) {a0 : Int32} {a1 : Int32} {I J O : Mem} {r9 : Int32} (hf : fJ9_floorMod_7cf53 a0 a1 = some r9) : zb_Ct l g nc yJ9_floorMod_7cf53 cJ9_floorMod_7cf53 3 (some .int) 0 0 [.int a0, .int a1] (zb_ce g I J O) (some (.int r9)) (zb_ce g I J O) := by
  refine zb_ofWF (own := RJ9) (by decide +kernel) rfl (Nat.le_of_ble_eq_true rfl) ?_
  intro p e s m args below meth c ls X hr hP hl
  have hx := X.1.1
  have hb := X.1.2.1
  have ho := X.1.2.2.2.1
  have hts := X.1.2.2.2.2
  have hZ := X.2.2.2
  have hl : lv_has ls 3 [(0, .int a0), (1, .int a1)] := hl
  have hS : va_S (zb_A g) s.heap s.heap [] := va_S.rf
  obtain ⟨H, hH⟩ : ∃ H, H = s.heap := ⟨_, rfl⟩
  obtain ⟨locs, hlocs⟩ : ∃ z : List Loc, z = [] := ⟨_, rfl⟩
  rw [← hH] at hP
  have hS : va_S (zb_A g) s.heap H locs := by rw [hH, hlocs]; exact hS
  show W p l e _ s m args below meth c s.heap [] 0 0 _ _
  rw [← hH, ← hlocs]
  rw [fJ9_floorMod_7cf53] at hf
  refine lv_iload_n hx hb dJ9_floorMod_7cf53_0 rfl (lv_at hl 0 rfl) ?_
  refine lv_iload_n hx hb dJ9_floorMod_7cf53_1 rfl (lv_at hl 1 rfl) ?_
  obtain ⟨x1, hx1, hf⟩ := ob_e hf
  refine zr_irem X hx1 dJ9_floorMod_7cf53_2 ?_
  refine lv_istore_n (lv' := [(2, .int x1), (0, .int a0), (1, .int a1)]) hx hb dJ9_floorMod_7cf53_3 rfl hl (by decide) rfl (fun ls hl => ?_)
  refine lv_iload_n hx hb dJ9_floorMod_7cf53_4 rfl (lv_at hl 1 rfl) ?_
  refine lv_iload_n hx hb dJ9_floorMod_7cf53_5 rfl (lv_at hl 2 rfl) ?_
  refine lv_ixor hx hb dJ9_floorMod_7cf53_6 ?_
  refine lv_if_ge (tgt := 18) hx hb dJ9_floorMod_7cf53_7 (by decide) (fun hc => ?_) (fun hc => ?_)
  · have hf := if_t hc hf
    refine lv_iload_n hx hb dJ9_floorMod_7cf53_18 rfl (lv_at hl 0 rfl) ?_
    cases hf
    exact zr_iret X hr hP hS dJ9_floorMod_7cf53_19
  · have hf := if_f hc hf
    refine lv_iload_n hx hb dJ9_floorMod_7cf53_10 rfl (lv_at hl 0 rfl) ?_
    refine lv_if_eq (tgt := 18) hx hb dJ9_floorMod_7cf53_11 (by decide) (fun hc => ?_) (fun hc => ?_)
    · have hf := if_t hc hf
      refine lv_iload_n hx hb dJ9_floorMod_7cf53_18 rfl (lv_at hl 0 rfl) ?_
      cases hf
      exact zr_iret X hr hP hS dJ9_floorMod_7cf53_19
    · have hf := if_f hc hf
      refine lv_iload_n hx hb dJ9_floorMod_7cf53_14 rfl (lv_at hl 0 rfl) ?_
      refine lv_iload_n hx hb dJ9_floorMod_7cf53_15 rfl (lv_at hl 2 rfl) ?_
      refine lv_iadd hx hb dJ9_floorMod_7cf53_16 ?_
      cases hf
      exact zr_iret X hr hP hS dJ9_floorMod_7cf53_17
set_option maxHeartbeats 4000000 in
set_option maxRecDepth 100000 in
theorem ct_X5_rowOf {g : zb_G} {nc : Nat} (l : Launch) {b : Nat} (hB : zb_isB b) {a1 : Int32} {I J O : Mem} {r9 : Int32} (hf : fX5_rowOf b a1 = some r9) : zb_Ct l g nc yX5_rowOf cX5_rowOf 2 (some .int) 1 22 [.ref (g.2.2 + b), .int a1] (zb_ce g I J O) (some (.int r9)) (zb_ce g I J O) := by
  refine zb_ofW (own := RX5) (by decide +kernel) rfl (Nat.le_of_ble_eq_true rfl) ?_
  intro p e s m args below meth c ls X hr hP hl
  have hx := X.1.1
  have hb := X.1.2.1
  have ho := X.1.2.2.2.1
  have hts := X.1.2.2.2.2
  have hZ := X.2.2.2
  have hl : lv_has ls 2 [(0, .ref (g.2.2 + b)), (1, .int a1)] := hl
  have hS : va_S (zb_A g) s.heap s.heap [] := va_S.rf
  obtain ⟨H, hH⟩ : ∃ H, H = s.heap := ⟨_, rfl⟩
  obtain ⟨locs, hlocs⟩ : ∃ z : List Loc, z = [] := ⟨_, rfl⟩
  rw [← hH] at hP
  have hS : va_S (zb_A g) s.heap H locs := by rw [hH, hlocs]; exact hS
  show W p l e _ s m args below meth c s.heap [] 0 0 _ _
  rw [← hH, ← hlocs]
  rw [fX5_rowOf] at hf
  refine lv_iload_n hx hb dX5_rowOf_0 rfl (lv_at hl 1 rfl) ?_
  refine lv_bipush (v := (24 : Int32)) hx hb dX5_rowOf_1 (by decide) ?_
  obtain ⟨x1, hx1, hf⟩ := ob_e hf
  refine zr_cSi (rest := []) (As := [.int a1, .int (24 : Int32)]) X hP hS (ct_J9_floorMod_7cf53 (g := g) (nc := nc) (I := I) (J := J) (O := O)  l  hx1) cw_X5_85  rfl hl.1 (Nat.le_of_ble_eq_true rfl) ⟨Nat.le_of_ble_eq_true rfl, Nat.le_of_ble_eq_true rfl⟩ ⟨Nat.le_of_ble_eq_true rfl, Nat.le_of_ble_eq_true rfl⟩ dX5_rowOf_3 rfl (fun H locs hP hS => ?_)
  cases hf
  exact zr_iret X hr hP hS dX5_rowOf_6
set_option maxHeartbeats 4000000 in
set_option maxRecDepth 100000 in
theorem lpX6_middle_L16 {g : zb_G} {nc : Nat} (hnI : 306 ≤ nc) (l : Launch) {a2 : Int32} {a1 : Int32} {J O : Mem} {p : Program} {e : Env} {s : State} {m : MethodId} {args : Array Value} {below : List Frame} {meth : Method} {c : Code} {Q : State → Prop} (X : zb_X g p m c cX6_middle 5 s args RX6 meth) : ∀ {n9 : Nat} {a4 : Int32} {a3 : Int32} {I : Mem} {z3 : Int32} {H : Heap} {locs : List Loc} {ls : Array Slot}, fX6_middle_L16 a2 a1 n9 a4 a3 I = some z3 → (∀ (H : Heap) (locs : List Loc) (ls : Array Slot), va_P g.1 vwCl (zb_ws g nc (zb_ce g I J O)) H → va_S (zb_A g) s.heap H locs → lv_has ls 5 [(3, .int z3), (2, .int a2), (1, .int a1), (0, .ref (g.2.2 + 52))] → W p l e { frames := 0, cells := 0, slots := 0, locals := 0 } s m args below meth c H locs 0 0 Q (F0 m 59 ls [])) → va_P g.1 vwCl (zb_ws g nc (zb_ce g I J O)) H → va_S (zb_A g) s.heap H locs → lv_has ls 5 [(4, .int a4), (3, .int a3), (2, .int a2), (1, .int a1), (0, .ref (g.2.2 + 52))] → W p l e { frames := 0, cells := 0, slots := 0, locals := 0 } s m args below meth c H locs 0 0 Q (F0 m 16 ls []) := by
  have hx := X.1.1
  have hb := X.1.2.1
  have ho := X.1.2.2.2.1
  have hts := X.1.2.2.2.2
  have hZ := X.2.2.2
  intro n9
  induction n9 with
  | zero =>
    intro a4 a3 I z3 H locs ls hf
    exact nomatch hf
  | succ n9 ih =>
    intro a4 a3 I z3 H locs ls hf KK hP hS hl
    rw [fX6_middle_L16] at hf
    refine lv_iload hx hb dX6_middle_16 (lv_at hl 0 rfl) ?_
    refine lv_bipush (v := (10 : Int32)) hx hb dX6_middle_18 (by decide) ?_
    refine lv_icmp_ge (tgt := 59) hx hb dX6_middle_20 (by decide) (fun hc => ?_) (fun hc => ?_)
    · have hf := if_t hc hf
      cases hf
      exact KK H locs ls hP hS (lv_sub hl [1, 2, 3, 4] rfl)
    · have hf := if_f hc hf
      refine lv_iload_n hx hb dX6_middle_23 rfl (lv_at hl 1 rfl) ?_
      refine lv_aload_n hx hb dX6_middle_24 rfl (lv_at hl 4 rfl) ?_
      refine gf_X6_26 X hnI hP zk_52 dX6_middle_25 ?_
      refine lv_iload hx hb dX6_middle_28 (lv_at hl 0 rfl) ?_
      obtain ⟨x1, hx1, hf⟩ := ob_e hf
      refine zr_aldI X hP hnI zk_54 hx1 dX6_middle_30 ?_
      refine lv_aload_n hx hb dX6_middle_31 rfl (lv_at hl 4 rfl) ?_
      refine gf_X6_26 X hnI hP zk_52 dX6_middle_32 ?_
      refine lv_iload_n hx hb dX6_middle_35 rfl (lv_at hl 2 rfl) ?_
      obtain ⟨x2, hx2, hf⟩ := ob_e hf
      refine zr_aldI X hP hnI zk_54 hx2 dX6_middle_36 ?_
      obtain ⟨x4, ht, hf⟩ := ob_e hf
      have K1 : ∀ (H : Heap) (locs : List Loc) (ls : Array Slot), va_P g.1 vwCl (zb_ws g nc (zb_ce g I J O)) H → va_S (zb_A g) s.heap H locs → lv_has ls 5 [(4, .int a4), (2, .int a2), (1, .int a1), (0, .ref (g.2.2 + 52))] → W p l e { frames := 0, cells := 0, slots := 0, locals := 0 } s m args below meth c H locs 0 0 Q (F0 m 51 ls [.int x4, .int a3]) := by
        intro H locs ls hP hS hl
        refine lv_iadd hx hb dX6_middle_51 ?_
        refine lv_istore_n (lv' := [(3, .int (a3 + x4)), (4, .int a4), (2, .int a2), (1, .int a1), (0, .ref (g.2.2 + 52))]) hx hb dX6_middle_52 rfl hl (by decide) rfl (fun ls hl => ?_)
        refine lv_iinc (v := (a4 + (1 : Int32))) (lv' := [(4, .int (a4 + (1 : Int32))), (3, .int (a3 + x4)), (2, .int a2), (1, .int a1), (0, .ref (g.2.2 + 52))]) hx hb dX6_middle_53 hl (k := 1) rfl rfl (by decide) rfl (fun ls hl => ?_)
        refine lv_goto (tgt := 16) hx hb dX6_middle_56 (by decide) ?_
        exact ih hf KK hP hS (lv_sub hl [0, 1, 2, 3, 4] rfl)
      have hf := ht
      refine lv_icmp_gt (tgt := 50) hx hb dX6_middle_37 (by decide) (fun hc => ?_) (fun hc => ?_)
      · have hf := if_t hc hf
        refine lv_iconst (v := (0 : Int32)) hx hb dX6_middle_50 (by decide) ?_
        cases hf
        exact K1 H locs ls hP hS (lv_sub hl [0, 2, 3, 4] rfl)
      · have hf := if_f hc hf
        refine lv_aload_n hx hb dX6_middle_40 rfl (lv_at hl 4 rfl) ?_
        refine gf_X6_22 X hnI hP zk_52 dX6_middle_41 ?_
        refine lv_iload hx hb dX6_middle_44 (lv_at hl 0 rfl) ?_
        obtain ⟨x3, hx3, hf⟩ := ob_e hf
        refine zr_aldI X hP hnI zk_53 hx3 dX6_middle_46 ?_
        refine lv_goto (tgt := 51) hx hb dX6_middle_47 (by decide) ?_
        cases hf
        exact K1 H locs ls hP hS (lv_sub hl [0, 2, 3, 4] rfl)
set_option maxHeartbeats 4000000 in
set_option maxRecDepth 100000 in
theorem lpX6_middle_L5 {g : zb_G} {nc : Nat} (hnI : 306 ≤ nc) (l : Launch) {J O : Mem} {p : Program} {e : Env} {s : State} {m : MethodId} {args : Array Value} {below : List Frame} {meth : Method} {c : Code} {Q : State → Prop} (X : zb_X g p m c cX6_middle 5 s args RX6 meth) : ∀ {n9 : Nat} {a2 : Int32} {a1 : Int32} {I : Mem} {z1 : Int32} {H : Heap} {locs : List Loc} {ls : Array Slot}, fX6_middle_L5 n9 a2 a1 I = some z1 → (∀ (H : Heap) (locs : List Loc) (ls : Array Slot), va_P g.1 vwCl (zb_ws g nc (zb_ce g I J O)) H → va_S (zb_A g) s.heap H locs → lv_has ls 5 [(1, .int z1)] → W p l e { frames := 0, cells := 0, slots := 0, locals := 0 } s m args below meth c H locs 0 0 Q (F0 m 101 ls [])) → va_P g.1 vwCl (zb_ws g nc (zb_ce g I J O)) H → va_S (zb_A g) s.heap H locs → lv_has ls 5 [(2, .int a2), (1, .int a1), (0, .ref (g.2.2 + 52))] → W p l e { frames := 0, cells := 0, slots := 0, locals := 0 } s m args below meth c H locs 0 0 Q (F0 m 5 ls []) := by
  have hx := X.1.1
  have hb := X.1.2.1
  have ho := X.1.2.2.2.1
  have hts := X.1.2.2.2.2
  have hZ := X.2.2.2
  intro n9
  induction n9 with
  | zero =>
    intro a2 a1 I z1 H locs ls hf
    exact nomatch hf
  | succ n9 ih =>
    intro a2 a1 I z1 H locs ls hf KK hP hS hl
    rw [fX6_middle_L5] at hf
    refine lv_iload_n hx hb dX6_middle_5 rfl (lv_at hl 0 rfl) ?_
    refine lv_bipush (v := (10 : Int32)) hx hb dX6_middle_6 (by decide) ?_
    refine lv_icmp_ge (tgt := 101) hx hb dX6_middle_8 (by decide) (fun hc => ?_) (fun hc => ?_)
    · have hf := if_t hc hf
      cases hf
      exact KK H locs ls hP hS (lv_sub hl [1] rfl)
    · have hf := if_f hc hf
      refine lv_iconst (v := (0 : Int32)) hx hb dX6_middle_11 (by decide) ?_
      refine lv_istore_n (lv' := [(3, .int (0 : Int32)), (2, .int a2), (1, .int a1), (0, .ref (g.2.2 + 52))]) hx hb dX6_middle_12 rfl hl (by decide) rfl (fun ls hl => ?_)
      refine lv_iconst (v := (0 : Int32)) hx hb dX6_middle_13 (by decide) ?_
      refine lv_istore (lv' := [(4, .int (0 : Int32)), (3, .int (0 : Int32)), (2, .int a2), (1, .int a1), (0, .ref (g.2.2 + 52))]) hx hb dX6_middle_14 hl (by decide) rfl (fun ls hl => ?_)
      obtain ⟨x5, hx5, hf⟩ := ob_e hf
      have K2 : ∀ (H : Heap) (locs : List Loc) (ls : Array Slot), va_P g.1 vwCl (zb_ws g nc (zb_ce g I J O)) H → va_S (zb_A g) s.heap H locs → lv_has ls 5 [(3, .int x5), (2, .int a2), (1, .int a1), (0, .ref (g.2.2 + 52))] → W p l e { frames := 0, cells := 0, slots := 0, locals := 0 } s m args below meth c H locs 0 0 Q (F0 m 59 ls []) := by
        intro H locs ls hP hS hl
        refine lv_aload_n hx hb dX6_middle_59 rfl (lv_at hl 3 rfl) ?_
        refine gf_X6_22 X hnI hP zk_52 dX6_middle_60 ?_
        refine lv_iload_n hx hb dX6_middle_63 rfl (lv_at hl 1 rfl) ?_
        obtain ⟨x6, hx6, hf⟩ := ob_e hf
        refine zr_aldI X hP hnI zk_53 hx6 dX6_middle_64 ?_
        obtain ⟨x9, ht, hf⟩ := ob_e hf
        have K3 : ∀ (H : Heap) (locs : List Loc) (ls : Array Slot), va_P g.1 vwCl (zb_ws g nc (zb_ce g I J O)) H → va_S (zb_A g) s.heap H locs → lv_has ls 5 [(2, .int a2), (1, .int x9), (0, .ref (g.2.2 + 52))] → W p l e { frames := 0, cells := 0, slots := 0, locals := 0 } s m args below meth c H locs 0 0 Q (F0 m 95 ls []) := by
          intro H locs ls hP hS hl
          refine lv_iinc (v := (a2 + (1 : Int32))) (lv' := [(2, .int (a2 + (1 : Int32))), (1, .int x9), (0, .ref (g.2.2 + 52))]) hx hb dX6_middle_95 hl (k := 0) rfl rfl (by decide) rfl (fun ls hl => ?_)
          refine lv_goto (tgt := 5) hx hb dX6_middle_98 (by decide) ?_
          exact ih hf KK hP hS (lv_sub hl [0, 1, 2] rfl)
        have hf := ht
        refine lv_if_le (tgt := 95) hx hb dX6_middle_65 (by decide) (fun hc => ?_) (fun hc => ?_)
        · have hf := if_t hc hf
          cases hf
          exact K3 H locs ls hP hS (lv_sub hl [1, 2, 3] rfl)
        · have hf := if_f hc hf
          refine lv_aload_n hx hb dX6_middle_68 rfl (lv_at hl 3 rfl) ?_
          refine gf_X6_26 X hnI hP zk_52 dX6_middle_69 ?_
          refine lv_iload_n hx hb dX6_middle_72 rfl (lv_at hl 1 rfl) ?_
          obtain ⟨x7, hx7, hf⟩ := ob_e hf
          refine zr_aldI X hP hnI zk_54 hx7 dX6_middle_73 ?_
          refine lv_iload_n hx hb dX6_middle_74 rfl (lv_at hl 2 rfl) ?_
          refine lv_icmp_ge (tgt := 95) hx hb dX6_middle_75 (by decide) (fun hc => ?_) (fun hc => ?_)
          · have hf := if_t hc hf
            cases hf
            exact K3 H locs ls hP hS (lv_sub hl [1, 2, 3] rfl)
          · have hf := if_f hc hf
            refine lv_iconst (v := (2 : Int32)) hx hb dX6_middle_78 (by decide) ?_
            refine lv_iload_n hx hb dX6_middle_79 rfl (lv_at hl 0 rfl) ?_
            refine lv_imul hx hb dX6_middle_80 ?_
            refine lv_aload_n hx hb dX6_middle_81 rfl (lv_at hl 3 rfl) ?_
            refine gf_X6_29 X hnI hP zk_52 dX6_middle_82 ?_
            refine lv_icmp_lt (tgt := 95) hx hb dX6_middle_85 (by decide) (fun hc => ?_) (fun hc => ?_)
            · have hf := if_t hc hf
              cases hf
              exact K3 H locs ls hP hS (lv_sub hl [1, 2, 3] rfl)
            · have hf := if_f hc hf
              refine lv_aload_n hx hb dX6_middle_88 rfl (lv_at hl 3 rfl) ?_
              refine gf_X6_26 X hnI hP zk_52 dX6_middle_89 ?_
              refine lv_iload_n hx hb dX6_middle_92 rfl (lv_at hl 1 rfl) ?_
              obtain ⟨x8, hx8, hf⟩ := ob_e hf
              refine zr_aldI X hP hnI zk_54 hx8 dX6_middle_93 ?_
              refine lv_istore_n (lv' := [(1, .int x8), (3, .int x5), (2, .int a2), (0, .ref (g.2.2 + 52))]) hx hb dX6_middle_94 rfl hl (by decide) rfl (fun ls hl => ?_)
              cases hf
              exact K3 H locs ls hP hS (lv_sub hl [2, 0, 3] rfl)
      exact lpX6_middle_L16 hnI l  X hx5 K2 hP hS (lv_sub hl [0, 1, 2, 3, 4] rfl)
set_option maxHeartbeats 4000000 in
set_option maxRecDepth 100000 in
theorem ct_X6_middle {g : zb_G} {nc : Nat} (hnI : 306 ≤ nc) (l : Launch) {I J O : Mem} {r9 : Int32} (hf : fX6_middle I = some r9) : zb_Ct l g nc yX6_middle cX6_middle 5 (some .int) 0 0 [.ref (g.2.2 + 52)] (zb_ce g I J O) (some (.int r9)) (zb_ce g I J O) := by
  refine zb_ofW (own := RX6) (by decide +kernel) rfl (Nat.le_of_ble_eq_true rfl) ?_
  intro p e s m args below meth c ls X hr hP hl
  have hx := X.1.1
  have hb := X.1.2.1
  have ho := X.1.2.2.2.1
  have hts := X.1.2.2.2.2
  have hZ := X.2.2.2
  have hl : lv_has ls 5 [(0, .ref (g.2.2 + 52))] := hl
  have hS : va_S (zb_A g) s.heap s.heap [] := va_S.rf
  obtain ⟨H, hH⟩ : ∃ H, H = s.heap := ⟨_, rfl⟩
  obtain ⟨locs, hlocs⟩ : ∃ z : List Loc, z = [] := ⟨_, rfl⟩
  rw [← hH] at hP
  have hS : va_S (zb_A g) s.heap H locs := by rw [hH, hlocs]; exact hS
  show W p l e _ s m args below meth c s.heap [] 0 0 _ _
  rw [← hH, ← hlocs]
  rw [fX6_middle] at hf
  refine lv_ldc (v := (1000000 : Int32)) hx hb ho (hts _ wk_X6_44) dX6_middle_0 ?_
  refine lv_istore_n (lv' := [(1, .int (1000000 : Int32)), (0, .ref (g.2.2 + 52))]) hx hb dX6_middle_2 rfl hl (by decide) rfl (fun ls hl => ?_)
  refine lv_iconst (v := (0 : Int32)) hx hb dX6_middle_3 (by decide) ?_
  refine lv_istore_n (lv' := [(2, .int (0 : Int32)), (1, .int (1000000 : Int32)), (0, .ref (g.2.2 + 52))]) hx hb dX6_middle_4 rfl hl (by decide) rfl (fun ls hl => ?_)
  obtain ⟨x10, hx10, hf⟩ := ob_e hf
  have K4 : ∀ (H : Heap) (locs : List Loc) (ls : Array Slot), va_P g.1 vwCl (zb_ws g nc (zb_ce g I J O)) H → va_S (zb_A g) s.heap H locs → lv_has ls 5 [(1, .int x10)] → W p l e { frames := 0, cells := 0, slots := 0, locals := 0 } s m args below meth c H locs 0 0 (MQ below (zb_Po g nc (zb_ce g I J O) (some (.int r9))) args s 0 0 (zb_A g)) (F0 m 101 ls []) := by
    intro H locs ls hP hS hl
    refine lv_iload_n hx hb dX6_middle_101 rfl (lv_at hl 0 rfl) ?_
    cases hf
    exact zr_iret X hr hP hS dX6_middle_102
  exact lpX6_middle_L5 hnI l  X hx10 K4 hP hS (lv_sub hl [0, 1, 2] rfl)
set_option maxHeartbeats 4000000 in
set_option maxRecDepth 100000 in
theorem ct_J9_floorDiv_7cf53 {g : zb_G} {nc : Nat} (l : Launch) {a0 : Int32} {a1 : Int32} {I J O : Mem} {r9 : Int32} (hf : fJ9_floorDiv_7cf53 a0 a1 = some r9) : zb_Ct l g nc yJ9_floorDiv_7cf53 cJ9_floorDiv_7cf53 3 (some .int) 0 0 [.int a0, .int a1] (zb_ce g I J O) (some (.int r9)) (zb_ce g I J O) := by
  refine zb_ofWF (own := RJ9) (by decide +kernel) rfl (Nat.le_of_ble_eq_true rfl) ?_
  intro p e s m args below meth c ls X hr hP hl
  have hx := X.1.1
  have hb := X.1.2.1
  have ho := X.1.2.2.2.1
  have hts := X.1.2.2.2.2
  have hZ := X.2.2.2
  have hl : lv_has ls 3 [(0, .int a0), (1, .int a1)] := hl
  have hS : va_S (zb_A g) s.heap s.heap [] := va_S.rf
  obtain ⟨H, hH⟩ : ∃ H, H = s.heap := ⟨_, rfl⟩
  obtain ⟨locs, hlocs⟩ : ∃ z : List Loc, z = [] := ⟨_, rfl⟩
  rw [← hH] at hP
  have hS : va_S (zb_A g) s.heap H locs := by rw [hH, hlocs]; exact hS
  show W p l e _ s m args below meth c s.heap [] 0 0 _ _
  rw [← hH, ← hlocs]
  rw [fJ9_floorDiv_7cf53] at hf
  refine lv_iload_n hx hb dJ9_floorDiv_7cf53_0 rfl (lv_at hl 0 rfl) ?_
  refine lv_iload_n hx hb dJ9_floorDiv_7cf53_1 rfl (lv_at hl 1 rfl) ?_
  obtain ⟨x1, hx1, hf⟩ := ob_e hf
  refine zr_idiv X hx1 dJ9_floorDiv_7cf53_2 ?_
  refine lv_istore_n (lv' := [(2, .int x1), (0, .int a0), (1, .int a1)]) hx hb dJ9_floorDiv_7cf53_3 rfl hl (by decide) rfl (fun ls hl => ?_)
  refine lv_iload_n hx hb dJ9_floorDiv_7cf53_4 rfl (lv_at hl 1 rfl) ?_
  refine lv_iload_n hx hb dJ9_floorDiv_7cf53_5 rfl (lv_at hl 2 rfl) ?_
  refine lv_ixor hx hb dJ9_floorDiv_7cf53_6 ?_
  refine lv_if_ge (tgt := 21) hx hb dJ9_floorDiv_7cf53_7 (by decide) (fun hc => ?_) (fun hc => ?_)
  · have hf := if_t hc hf
    refine lv_iload_n hx hb dJ9_floorDiv_7cf53_21 rfl (lv_at hl 0 rfl) ?_
    cases hf
    exact zr_iret X hr hP hS dJ9_floorDiv_7cf53_22
  · have hf := if_f hc hf
    refine lv_iload_n hx hb dJ9_floorDiv_7cf53_10 rfl (lv_at hl 0 rfl) ?_
    refine lv_iload_n hx hb dJ9_floorDiv_7cf53_11 rfl (lv_at hl 2 rfl) ?_
    refine lv_imul hx hb dJ9_floorDiv_7cf53_12 ?_
    refine lv_iload_n hx hb dJ9_floorDiv_7cf53_13 rfl (lv_at hl 1 rfl) ?_
    refine lv_icmp_eq (tgt := 21) hx hb dJ9_floorDiv_7cf53_14 (by decide) (fun hc => ?_) (fun hc => ?_)
    · have hf := if_t hc hf
      refine lv_iload_n hx hb dJ9_floorDiv_7cf53_21 rfl (lv_at hl 0 rfl) ?_
      cases hf
      exact zr_iret X hr hP hS dJ9_floorDiv_7cf53_22
    · have hf := if_f hc hf
      refine lv_iload_n hx hb dJ9_floorDiv_7cf53_17 rfl (lv_at hl 0 rfl) ?_
      refine lv_iconst (v := (1 : Int32)) hx hb dJ9_floorDiv_7cf53_18 (by decide) ?_
      refine lv_isub hx hb dJ9_floorDiv_7cf53_19 ?_
      cases hf
      exact zr_iret X hr hP hS dJ9_floorDiv_7cf53_20
set_option maxHeartbeats 4000000 in
set_option maxRecDepth 100000 in
theorem lpX6_weigh_L13 {g : zb_G} {nc : Nat} (hnI : 306 ≤ nc) (l : Launch) {a1 : Int32} {a2 : Int32} {J O : Mem} {p : Program} {e : Env} {s : State} {m : MethodId} {args : Array Value} {below : List Frame} {meth : Method} {c : Code} {Q : State → Prop} (X : zb_X g p m c cX6_weigh 6 s args RX6 meth) : ∀ {n9 : Nat} {a5 : Int32} {a4 : Int32} {a3 : Int32} {I : Mem} {z4 : Int32} {z3 : Int32} {Iz : Mem} {H : Heap} {locs : List Loc} {ls : Array Slot}, fX6_weigh_L13 a1 a2 n9 a5 a4 a3 I = some (z4, z3, Iz) → (∀ (H : Heap) (locs : List Loc) (ls : Array Slot), va_P g.1 vwCl (zb_ws g nc (zb_ce g Iz J O)) H → va_S (zb_A g) s.heap H locs → lv_has ls 6 [(4, .int z4), (3, .int z3), (0, .ref (g.2.2 + 52))] → W p l e { frames := 1, cells := 0, slots := 0, locals := 22 } s m args below meth c H locs 0 0 Q (F0 m 95 ls [])) → va_P g.1 vwCl (zb_ws g nc (zb_ce g I J O)) H → va_S (zb_A g) s.heap H locs → lv_has ls 6 [(5, .int a5), (4, .int a4), (3, .int a3), (0, .ref (g.2.2 + 52)), (1, .int a1), (2, .int a2)] → W p l e { frames := 1, cells := 0, slots := 0, locals := 22 } s m args below meth c H locs 0 0 Q (F0 m 13 ls []) := by
  have hx := X.1.1
  have hb := X.1.2.1
  have ho := X.1.2.2.2.1
  have hts := X.1.2.2.2.2
  have hZ := X.2.2.2
  intro n9
  induction n9 with
  | zero =>
    intro a5 a4 a3 I z4 z3 Iz H locs ls hf
    exact nomatch hf
  | succ n9 ih =>
    intro a5 a4 a3 I z4 z3 Iz H locs ls hf KK hP hS hl
    rw [fX6_weigh_L13] at hf
    refine lv_iload hx hb dX6_weigh_13 (lv_at hl 0 rfl) ?_
    refine lv_bipush (v := (10 : Int32)) hx hb dX6_weigh_15 (by decide) ?_
    refine lv_icmp_ge (tgt := 95) hx hb dX6_weigh_17 (by decide) (fun hc => ?_) (fun hc => ?_)
    · have hf := if_t hc hf
      cases hf
      exact KK H locs ls hP hS (lv_sub hl [1, 2, 3] rfl)
    · have hf := if_f hc hf
      refine lv_aload_n hx hb dX6_weigh_20 rfl (lv_at hl 3 rfl) ?_
      refine gf_X6_22 X hnI hP zk_52 dX6_weigh_21 ?_
      refine lv_iload hx hb dX6_weigh_24 (lv_at hl 0 rfl) ?_
      obtain ⟨x1, hx1, hf⟩ := ob_e hf
      refine zr_aldI X hP hnI zk_53 hx1 dX6_weigh_26 ?_
      obtain ⟨x6, x7, I8, ht, hf⟩ := ob3_e hf
      have K1 : ∀ (H : Heap) (locs : List Loc) (ls : Array Slot), va_P g.1 vwCl (zb_ws g nc (zb_ce g I8 J O)) H → va_S (zb_A g) s.heap H locs → lv_has ls 6 [(5, .int a5), (4, .int x6), (3, .int x7), (0, .ref (g.2.2 + 52)), (1, .int a1), (2, .int a2)] → W p l e { frames := 1, cells := 0, slots := 0, locals := 22 } s m args below meth c H locs 0 0 Q (F0 m 89 ls []) := by
        intro H locs ls hP hS hl
        refine lv_iinc (v := (a5 + (1 : Int32))) (lv' := [(5, .int (a5 + (1 : Int32))), (4, .int x6), (3, .int x7), (0, .ref (g.2.2 + 52)), (1, .int a1), (2, .int a2)]) hx hb dX6_weigh_89 hl (k := 0) rfl rfl (by decide) rfl (fun ls hl => ?_)
        refine lv_goto (tgt := 13) hx hb dX6_weigh_92 (by decide) ?_
        exact ih hf KK hP hS (lv_sub hl [0, 1, 2, 3, 4, 5] rfl)
      have hf := ht
      refine lv_if_le (tgt := 89) hx hb dX6_weigh_27 (by decide) (fun hc => ?_) (fun hc => ?_)
      · have hf := if_t hc hf
        cases hf
        exact K1 H locs ls hP hS (lv_sub hl [0, 1, 2, 3, 4, 5] rfl)
      · have hf := if_f hc hf
        refine lv_aload_n hx hb dX6_weigh_30 rfl (lv_at hl 3 rfl) ?_
        refine gf_X6_26 X hnI hP zk_52 dX6_weigh_31 ?_
        refine lv_iload hx hb dX6_weigh_34 (lv_at hl 0 rfl) ?_
        obtain ⟨x2, hx2, hf⟩ := ob_e hf
        refine zr_aldI X hP hnI zk_54 hx2 dX6_weigh_36 ?_
        refine lv_iload_n hx hb dX6_weigh_37 rfl (lv_at hl 4 rfl) ?_
        refine lv_isub hx hb dX6_weigh_38 ?_
        refine zr_abs X wk_X6_45 wm_abs1 wm_abs2 wm_abs3 hl.1 (Nat.le_of_ble_eq_true rfl) (Nat.le_of_ble_eq_true rfl) ⟨Nat.le_of_ble_eq_true rfl, Nat.le_of_ble_eq_true rfl⟩ dX6_weigh_39 ?_
        refine lv_iload_n hx hb dX6_weigh_42 rfl (lv_at hl 5 rfl) ?_
        refine lv_icmp_gt (tgt := 89) hx hb dX6_weigh_43 (by decide) (fun hc => ?_) (fun hc => ?_)
        · have hf := if_t hc hf
          cases hf
          exact K1 H locs ls hP hS (lv_sub hl [0, 1, 2, 3, 4, 5] rfl)
        · have hf := if_f hc hf
          refine lv_aload_n hx hb dX6_weigh_46 rfl (lv_at hl 3 rfl) ?_
          refine lv_dup hx hb dX6_weigh_47 rfl ?_
          refine gf_X6_9 X hnI hP zk_52 dX6_weigh_48 ?_
          refine lv_iconst (v := (1 : Int32)) hx hb dX6_weigh_51 (by decide) ?_
          refine lv_iload hx hb dX6_weigh_52 (lv_at hl 0 rfl) ?_
          refine lv_ishl hx hb dX6_weigh_54 ?_
          refine lv_ior hx hb dX6_weigh_55 ?_
          refine pf_X6_9 X hnI hP hS zk_52 dX6_weigh_56 (fun H locs hP hS => ?_)
          refine lv_iload_n hx hb dX6_weigh_59 rfl (lv_at hl 2 rfl) ?_
          refine lv_aload_n hx hb dX6_weigh_60 rfl (lv_at hl 3 rfl) ?_
          refine gf_X6_22 X hnI hP zk_52 dX6_weigh_61 ?_
          refine lv_iload hx hb dX6_weigh_64 (lv_at hl 0 rfl) ?_
          obtain ⟨x3, hx3, hf⟩ := ob_e hf
          refine zr_aldI X hP hnI zk_53 hx3 dX6_weigh_66 ?_
          refine lv_iadd hx hb dX6_weigh_67 ?_
          refine lv_istore_n (lv' := [(3, .int (a3 + x3)), (5, .int a5), (4, .int a4), (0, .ref (g.2.2 + 52)), (1, .int a1), (2, .int a2)]) hx hb dX6_weigh_68 rfl hl (by decide) rfl (fun ls hl => ?_)
          refine lv_iload hx hb dX6_weigh_69 (lv_at hl 2 rfl) ?_
          refine lv_aload_n hx hb dX6_weigh_71 rfl (lv_at hl 3 rfl) ?_
          refine gf_X6_22 X hnI hP zk_52 dX6_weigh_72 ?_
          refine lv_iload hx hb dX6_weigh_75 (lv_at hl 1 rfl) ?_
          obtain ⟨x4, hx4, hf⟩ := ob_e hf
          refine zr_aldI X hP hnI zk_53 hx4 dX6_weigh_77 ?_
          refine lv_aload_n hx hb dX6_weigh_78 rfl (lv_at hl 3 rfl) ?_
          refine gf_X6_26 X hnI hP zk_52 dX6_weigh_79 ?_
          refine lv_iload hx hb dX6_weigh_82 (lv_at hl 1 rfl) ?_
          obtain ⟨x5, hx5, hf⟩ := ob_e hf
          refine zr_aldI X hP hnI zk_54 hx5 dX6_weigh_84 ?_
          refine lv_imul hx hb dX6_weigh_85 ?_
          refine lv_iadd hx hb dX6_weigh_86 ?_
          refine lv_istore (lv' := [(4, .int (a4 + (x4 * x5))), (3, .int (a3 + x3)), (5, .int a5), (0, .ref (g.2.2 + 52)), (1, .int a1), (2, .int a2)]) hx hb dX6_weigh_87 hl (by decide) rfl (fun ls hl => ?_)
          cases hf
          exact K1 H locs ls hP hS (lv_sub hl [2, 0, 1, 3, 4, 5] rfl)
set_option maxHeartbeats 4000000 in
set_option maxRecDepth 100000 in
theorem ct_X6_weigh {g : zb_G} {nc : Nat} (hnI : 306 ≤ nc) (l : Launch) {a1 : Int32} {a2 : Int32} {I J O : Mem} {Iq : Mem} (hf : fX6_weigh a1 a2 I = some Iq) : zb_Ct l g nc yX6_weigh cX6_weigh 6 none 1 22 [.ref (g.2.2 + 52), .int a1, .int a2] (zb_ce g I J O) none (zb_ce g Iq J O) := by
  refine zb_ofW (own := RX6) (by decide +kernel) rfl (Nat.le_of_ble_eq_true rfl) ?_
  intro p e s m args below meth c ls X hr hP hl
  have hx := X.1.1
  have hb := X.1.2.1
  have ho := X.1.2.2.2.1
  have hts := X.1.2.2.2.2
  have hZ := X.2.2.2
  have hl : lv_has ls 6 [(0, .ref (g.2.2 + 52)), (1, .int a1), (2, .int a2)] := hl
  have hS : va_S (zb_A g) s.heap s.heap [] := va_S.rf
  obtain ⟨H, hH⟩ : ∃ H, H = s.heap := ⟨_, rfl⟩
  obtain ⟨locs, hlocs⟩ : ∃ z : List Loc, z = [] := ⟨_, rfl⟩
  rw [← hH] at hP
  have hS : va_S (zb_A g) s.heap H locs := by rw [hH, hlocs]; exact hS
  show W p l e _ s m args below meth c s.heap [] 0 0 _ _
  rw [← hH, ← hlocs]
  rw [fX6_weigh] at hf
  refine lv_aload_n hx hb dX6_weigh_0 rfl (lv_at hl 0 rfl) ?_
  refine lv_iconst (v := (0 : Int32)) hx hb dX6_weigh_1 (by decide) ?_
  refine pf_X6_9 X hnI hP hS zk_52 dX6_weigh_2 (fun H locs hP hS => ?_)
  refine lv_iconst (v := (0 : Int32)) hx hb dX6_weigh_5 (by decide) ?_
  refine lv_istore_n (lv' := [(3, .int (0 : Int32)), (0, .ref (g.2.2 + 52)), (1, .int a1), (2, .int a2)]) hx hb dX6_weigh_6 rfl hl (by decide) rfl (fun ls hl => ?_)
  refine lv_iconst (v := (0 : Int32)) hx hb dX6_weigh_7 (by decide) ?_
  refine lv_istore (lv' := [(4, .int (0 : Int32)), (3, .int (0 : Int32)), (0, .ref (g.2.2 + 52)), (1, .int a1), (2, .int a2)]) hx hb dX6_weigh_8 hl (by decide) rfl (fun ls hl => ?_)
  refine lv_iconst (v := (0 : Int32)) hx hb dX6_weigh_10 (by decide) ?_
  refine lv_istore (lv' := [(5, .int (0 : Int32)), (4, .int (0 : Int32)), (3, .int (0 : Int32)), (0, .ref (g.2.2 + 52)), (1, .int a1), (2, .int a2)]) hx hb dX6_weigh_11 hl (by decide) rfl (fun ls hl => ?_)
  obtain ⟨x9, x10, I11, hx9_x10_I11, hf⟩ := ob3_e hf
  have K2 : ∀ (H : Heap) (locs : List Loc) (ls : Array Slot), va_P g.1 vwCl (zb_ws g nc (zb_ce g I11 J O)) H → va_S (zb_A g) s.heap H locs → lv_has ls 6 [(4, .int x9), (3, .int x10), (0, .ref (g.2.2 + 52))] → W p l e { frames := 1, cells := 0, slots := 0, locals := 22 } s m args below meth c H locs 0 0 (MQ below (zb_Po g nc (zb_ce g Iq J O) none) args s 0 0 (zb_A g)) (F0 m 95 ls []) := by
    intro H locs ls hP hS hl
    refine lv_aload_n hx hb dX6_weigh_95 rfl (lv_at hl 2 rfl) ?_
    refine lv_iload_n hx hb dX6_weigh_96 rfl (lv_at hl 1 rfl) ?_
    obtain ⟨x12, ht, hf⟩ := pl_e hf
    have K3 : ∀ (H : Heap) (locs : List Loc) (ls : Array Slot), va_P g.1 vwCl (zb_ws g nc (zb_ce g I11 J O)) H → va_S (zb_A g) s.heap H locs → lv_has ls 6 [(4, .int x9), (3, .int x10), (0, .ref (g.2.2 + 52))] → W p l e { frames := 1, cells := 0, slots := 0, locals := 22 } s m args below meth c H locs 0 0 (MQ below (zb_Po g nc (zb_ce g Iq J O) none) args s 0 0 (zb_A g)) (F0 m 115 ls [.int x12, .ref (g.2.2 + 52)]) := by
      intro H locs ls hP hS hl
      obtain ⟨I13, hI13, hf⟩ := ob_e hf
      refine pf_X6_15 X hnI hP hS zk_52 hI13 dX6_weigh_115 (fun H locs hP hS => ?_)
      refine lv_aload_n hx hb dX6_weigh_118 rfl (lv_at hl 2 rfl) ?_
      refine lv_aload_n hx hb dX6_weigh_119 rfl (lv_at hl 2 rfl) ?_
      refine gf_X6_15 X hnI hP zk_52 dX6_weigh_120 ?_
      obtain ⟨x15, ht, hf⟩ := ob_e hf
      have K4 : ∀ (H : Heap) (locs : List Loc) (ls : Array Slot), va_P g.1 vwCl (zb_ws g nc (zb_ce g I13 J O)) H → va_S (zb_A g) s.heap H locs → lv_has ls 6 [] → W p l e { frames := 1, cells := 0, slots := 0, locals := 22 } s m args below meth c H locs 0 0 (MQ below (zb_Po g nc (zb_ce g Iq J O) none) args s 0 0 (zb_A g)) (F0 m 136 ls [.int x15, .ref (g.2.2 + 52)]) := by
        intro H locs ls hP hS hl
        refine pf_X6_19 X hnI hP hS zk_52 dX6_weigh_136 (fun H locs hP hS => ?_)
        cases hf
        exact zr_vret X hr hP hS rfl dX6_weigh_139
      have hf := ht
      refine lv_if_eq (tgt := 135) hx hb dX6_weigh_123 (by decide) (fun hc => ?_) (fun hc => ?_)
      · have hf := if_t hc hf
        refine lv_iconst (v := (0 : Int32)) hx hb dX6_weigh_135 (by decide) ?_
        cases hf
        exact K4 H locs ls hP hS (lv_sub hl [] rfl)
      · have hf := if_f hc hf
        refine lv_iload hx hb dX6_weigh_126 (lv_at hl 0 rfl) ?_
        refine lv_iload_n hx hb dX6_weigh_128 rfl (lv_at hl 1 rfl) ?_
        obtain ⟨x14, hx14, hf⟩ := ob_e hf
        refine zr_cSi (rest := [.ref (g.2.2 + 52)]) (As := [.int x9, .int x10]) X hP hS (ct_J9_floorDiv_7cf53 (g := g) (nc := nc) (I := I13) (J := J) (O := O)  l  hx14) cw_X6_51  rfl hl.1 (Nat.le_of_ble_eq_true rfl) ⟨Nat.le_of_ble_eq_true rfl, Nat.le_of_ble_eq_true rfl⟩ ⟨Nat.le_of_ble_eq_true rfl, Nat.le_of_ble_eq_true rfl⟩ dX6_weigh_129 rfl (fun H locs hP hS => ?_)
        refine lv_goto (tgt := 136) hx hb dX6_weigh_132 (by decide) ?_
        cases hf
        exact K4 H locs ls hP hS (lv_sub hl [] rfl)
    have hf := ht
    refine lv_if_le (tgt := 114) hx hb dX6_weigh_97 (by decide) (fun hc => ?_) (fun hc => ?_)
    · have hf := if_t hc hf
      refine lv_iconst (v := (0 : Int32)) hx hb dX6_weigh_114 (by decide) ?_
      cases hf
      exact K3 H locs ls hP hS (lv_sub hl [0, 1, 2] rfl)
    · have hf := if_f hc hf
      refine lv_iconst (v := (2 : Int32)) hx hb dX6_weigh_100 (by decide) ?_
      refine lv_iload_n hx hb dX6_weigh_101 rfl (lv_at hl 1 rfl) ?_
      refine lv_imul hx hb dX6_weigh_102 ?_
      refine lv_aload_n hx hb dX6_weigh_103 rfl (lv_at hl 2 rfl) ?_
      refine gf_X6_29 X hnI hP zk_52 dX6_weigh_104 ?_
      refine lv_icmp_le (tgt := 114) hx hb dX6_weigh_107 (by decide) (fun hc => ?_) (fun hc => ?_)
      · have hf := if_t hc hf
        refine lv_iconst (v := (0 : Int32)) hx hb dX6_weigh_114 (by decide) ?_
        cases hf
        exact K3 H locs ls hP hS (lv_sub hl [0, 1, 2] rfl)
      · have hf := if_f hc hf
        refine lv_iconst (v := (1 : Int32)) hx hb dX6_weigh_110 (by decide) ?_
        refine lv_goto (tgt := 115) hx hb dX6_weigh_111 (by decide) ?_
        cases hf
        exact K3 H locs ls hP hS (lv_sub hl [0, 1, 2] rfl)
  exact lpX6_weigh_L13 hnI l  X hx9_x10_I11 K2 hP hS (lv_sub hl [0, 1, 2, 3, 4, 5] rfl)
set_option maxHeartbeats 4000000 in
set_option maxRecDepth 100000 in
theorem lpX6_count_L8 {g : zb_G} {nc : Nat} (hnI : 306 ≤ nc) (l : Launch) {k2 : Nat} {k3 : Nat} (hk2 : zb_IK k2 10 (zb_ln k2)) (hk3 : zb_IK k3 10 (zb_ln k3)) {a1 : Int32} {a4 : Int32} {a5 : Int32} {J O : Mem} {p : Program} {e : Env} {s : State} {m : MethodId} {args : Array Value} {below : List Frame} {meth : Method} {c : Code} {Q : State → Prop} (X : zb_X g p m c cX6_count 8 s args RX6 meth) : ∀ {n9 : Nat} {a6 : Int32} {I : Mem} {Iz : Mem} {H : Heap} {locs : List Loc} {ls : Array Slot}, fX6_count_L8 k2 k3 a1 a4 a5 n9 a6 I = some Iz → (∀ (H : Heap) (locs : List Loc) (ls : Array Slot), va_P g.1 vwCl (zb_ws g nc (zb_ce g Iz J O)) H → va_S (zb_A g) s.heap H locs → lv_has ls 8 [(0, .ref (g.2.2 + 52)), (5, .int a5)] → W p l e { frames := 2, cells := 0, slots := 0, locals := 47 } s m args below meth c H locs 0 0 Q (F0 m 118 ls [])) → va_P g.1 vwCl (zb_ws g nc (zb_ce g I J O)) H → va_S (zb_A g) s.heap H locs → lv_has ls 8 [(6, .int a6), (0, .ref (g.2.2 + 52)), (1, .int a1), (2, .ref (g.2.2 + k2)), (3, .ref (g.2.2 + k3)), (4, .int a4), (5, .int a5)] → W p l e { frames := 2, cells := 0, slots := 0, locals := 47 } s m args below meth c H locs 0 0 Q (F0 m 8 ls []) := by
  have hx := X.1.1
  have hb := X.1.2.1
  have ho := X.1.2.2.2.1
  have hts := X.1.2.2.2.2
  have hZ := X.2.2.2
  intro n9
  induction n9 with
  | zero =>
    intro a6 I Iz H locs ls hf
    exact nomatch hf
  | succ n9 ih =>
    intro a6 I Iz H locs ls hf KK hP hS hl
    rw [fX6_count_L8] at hf
    refine lv_iload hx hb dX6_count_8 (lv_at hl 0 rfl) ?_
    refine lv_bipush (v := (10 : Int32)) hx hb dX6_count_10 (by decide) ?_
    refine lv_icmp_ge (tgt := 118) hx hb dX6_count_12 (by decide) (fun hc => ?_) (fun hc => ?_)
    · have hf := if_t hc hf
      cases hf
      exact KK H locs ls hP hS (lv_sub hl [1, 6] rfl)
    · have hf := if_f hc hf
      refine lv_iload_n hx hb dX6_count_15 rfl (lv_at hl 2 rfl) ?_
      refine lv_iload hx hb dX6_count_16 (lv_at hl 0 rfl) ?_
      obtain ⟨x1, hx1, hf⟩ := ob_e hf
      refine zr_cNi (rest := []) (As := [.int a1, .int a6]) X hP hS (ct_X7_has (g := g) (nc := nc) (I := I) (J := J) (O := O)  l  hx1) cw_X6_32  rfl hl.1 (Nat.le_of_ble_eq_true rfl) ⟨Nat.le_of_ble_eq_true rfl, Nat.le_of_ble_eq_true rfl⟩ ⟨Nat.le_of_ble_eq_true rfl, Nat.le_of_ble_eq_true rfl⟩ dX6_count_18 rfl (fun H locs hP hS => ?_)
      obtain ⟨x2, ht, hf⟩ := pl_e hf
      have K1 : ∀ (H : Heap) (locs : List Loc) (ls : Array Slot), va_P g.1 vwCl (zb_ws g nc (zb_ce g I J O)) H → va_S (zb_A g) s.heap H locs → lv_has ls 8 [(6, .int a6), (0, .ref (g.2.2 + 52)), (1, .int a1), (2, .ref (g.2.2 + k2)), (3, .ref (g.2.2 + k3)), (4, .int a4), (5, .int a5)] → W p l e { frames := 2, cells := 0, slots := 0, locals := 47 } s m args below meth c H locs 0 0 Q (F0 m 51 ls [.int x2]) := by
        intro H locs ls hP hS hl
        refine lv_istore (lv' := [(7, .int x2), (6, .int a6), (0, .ref (g.2.2 + 52)), (1, .int a1), (2, .ref (g.2.2 + k2)), (3, .ref (g.2.2 + k3)), (4, .int a4), (5, .int a5)]) hx hb dX6_count_51 hl (by decide) rfl (fun ls hl => ?_)
        refine lv_aload_n hx hb dX6_count_53 rfl (lv_at hl 2 rfl) ?_
        refine gf_X6_22 X hnI hP zk_52 dX6_count_54 ?_
        refine lv_iload hx hb dX6_count_57 (lv_at hl 1 rfl) ?_
        refine lv_iload hx hb dX6_count_59 (lv_at hl 0 rfl) ?_
        obtain ⟨x4, ht, hf⟩ := ob_e hf
        have K2 : ∀ (H : Heap) (locs : List Loc) (ls : Array Slot), va_P g.1 vwCl (zb_ws g nc (zb_ce g I J O)) H → va_S (zb_A g) s.heap H locs → lv_has ls 8 [(7, .int x2), (6, .int a6), (0, .ref (g.2.2 + 52)), (1, .int a1), (2, .ref (g.2.2 + k2)), (3, .ref (g.2.2 + k3)), (4, .int a4), (5, .int a5)] → W p l e { frames := 2, cells := 0, slots := 0, locals := 47 } s m args below meth c H locs 0 0 Q (F0 m 72 ls [.int x4, .int a6, .ref (g.2.2 + 53)]) := by
          intro H locs ls hP hS hl
          obtain ⟨I5, hI5, hf⟩ := ob_e hf
          refine zr_astI X hP hS hnI zk_53 hI5 dX6_count_72 (fun H locs hP hS => ?_)
          refine lv_aload_n hx hb dX6_count_73 rfl (lv_at hl 2 rfl) ?_
          refine gf_X6_26 X hnI hP zk_52 dX6_count_74 ?_
          refine lv_iload hx hb dX6_count_77 (lv_at hl 1 rfl) ?_
          refine lv_iload hx hb dX6_count_79 (lv_at hl 0 rfl) ?_
          obtain ⟨x7, ht, hf⟩ := ob_e hf
          have K3 : ∀ (H : Heap) (locs : List Loc) (ls : Array Slot), va_P g.1 vwCl (zb_ws g nc (zb_ce g I5 J O)) H → va_S (zb_A g) s.heap H locs → lv_has ls 8 [(6, .int a6), (0, .ref (g.2.2 + 52)), (1, .int a1), (2, .ref (g.2.2 + k2)), (3, .ref (g.2.2 + k3)), (4, .int a4), (5, .int a5)] → W p l e { frames := 2, cells := 0, slots := 0, locals := 47 } s m args below meth c H locs 0 0 Q (F0 m 95 ls [.int x7, .int a6, .ref (g.2.2 + 54)]) := by
            intro H locs ls hP hS hl
            obtain ⟨I8, hI8, hf⟩ := ob_e hf
            refine zr_astI X hP hS hnI zk_54 hI8 dX6_count_95 (fun H locs hP hS => ?_)
            refine lv_aload_n hx hb dX6_count_96 rfl (lv_at hl 1 rfl) ?_
            refine lv_dup hx hb dX6_count_97 rfl ?_
            refine gf_X6_29 X hnI hP zk_52 dX6_count_98 ?_
            refine lv_aload_n hx hb dX6_count_101 rfl (lv_at hl 1 rfl) ?_
            refine gf_X6_22 X hnI hP zk_52 dX6_count_102 ?_
            refine lv_iload hx hb dX6_count_105 (lv_at hl 0 rfl) ?_
            obtain ⟨x9, hx9, hf⟩ := ob_e hf
            refine zr_aldI X hP hnI zk_53 hx9 dX6_count_107 ?_
            refine lv_iadd hx hb dX6_count_108 ?_
            refine pf_X6_29 X hnI hP hS zk_52 dX6_count_109 (fun H locs hP hS => ?_)
            refine lv_iinc (v := (a6 + (1 : Int32))) (lv' := [(6, .int (a6 + (1 : Int32))), (0, .ref (g.2.2 + 52)), (1, .int a1), (2, .ref (g.2.2 + k2)), (3, .ref (g.2.2 + k3)), (4, .int a4), (5, .int a5)]) hx hb dX6_count_112 hl (k := 0) rfl rfl (by decide) rfl (fun ls hl => ?_)
            refine lv_goto (tgt := 8) hx hb dX6_count_115 (by decide) ?_
            exact ih hf KK hP hS (lv_sub hl [0, 1, 2, 3, 4, 5, 6] rfl)
          have hf := ht
          refine lv_if_eq (tgt := 94) hx hb dX6_count_81 (by decide) (fun hc => ?_) (fun hc => ?_)
          · have hf := if_t hc hf
            refine lv_iconst (v := (0 : Int32)) hx hb dX6_count_94 (by decide) ?_
            cases hf
            exact K3 H locs ls hP hS (lv_sub hl [1, 2, 3, 4, 5, 6, 7] rfl)
          · have hf := if_f hc hf
            refine lv_aload_n hx hb dX6_count_84 rfl (lv_at hl 5 rfl) ?_
            refine lv_iload hx hb dX6_count_85 (lv_at hl 6 rfl) ?_
            refine lv_iload hx hb dX6_count_87 (lv_at hl 1 rfl) ?_
            refine lv_iadd hx hb dX6_count_89 ?_
            obtain ⟨x6, hx6, hf⟩ := ob_e hf
            refine zr_aldI X hP hnI hk3 hx6 dX6_count_90 ?_
            refine lv_goto (tgt := 95) hx hb dX6_count_91 (by decide) ?_
            cases hf
            exact K3 H locs ls hP hS (lv_sub hl [1, 2, 3, 4, 5, 6, 7] rfl)
        have hf := ht
        refine lv_if_eq (tgt := 71) hx hb dX6_count_61 (by decide) (fun hc => ?_) (fun hc => ?_)
        · have hf := if_t hc hf
          refine lv_iconst (v := (0 : Int32)) hx hb dX6_count_71 (by decide) ?_
          cases hf
          exact K2 H locs ls hP hS (lv_sub hl [0, 1, 2, 3, 4, 5, 6, 7] rfl)
        · have hf := if_f hc hf
          refine lv_aload_n hx hb dX6_count_64 rfl (lv_at hl 4 rfl) ?_
          refine lv_iload hx hb dX6_count_65 (lv_at hl 1 rfl) ?_
          obtain ⟨x3, hx3, hf⟩ := ob_e hf
          refine zr_aldI X hP hnI hk2 hx3 dX6_count_67 ?_
          refine lv_goto (tgt := 72) hx hb dX6_count_68 (by decide) ?_
          cases hf
          exact K2 H locs ls hP hS (lv_sub hl [0, 1, 2, 3, 4, 5, 6, 7] rfl)
      have hf := ht
      refine lv_if_eq (tgt := 50) hx hb dX6_count_21 (by decide) (fun hc => ?_) (fun hc => ?_)
      · have hf := if_t hc hf
        refine lv_iconst (v := (0 : Int32)) hx hb dX6_count_50 (by decide) ?_
        cases hf
        exact K1 H locs ls hP hS (lv_sub hl [0, 1, 2, 3, 4, 5, 6] rfl)
      · have hf := if_f hc hf
        refine lv_iload hx hb dX6_count_24 (lv_at hl 0 rfl) ?_
        refine lv_aload_n hx hb dX6_count_26 rfl (lv_at hl 3 rfl) ?_
        refine zr_alenI X hP hnI hk2 dX6_count_27 ?_
        refine lv_icmp_ge (tgt := 50) hx hb dX6_count_28 (by decide) (fun hc => ?_) (fun hc => ?_)
        · have hf := if_t hc hf
          refine lv_iconst (v := (0 : Int32)) hx hb dX6_count_50 (by decide) ?_
          cases hf
          exact K1 H locs ls hP hS (lv_sub hl [0, 1, 2, 3, 4, 5, 6] rfl)
        · have hf := if_f hc hf
          refine lv_iload hx hb dX6_count_31 (lv_at hl 5 rfl) ?_
          refine lv_if_lt (tgt := 50) hx hb dX6_count_33 (by decide) (fun hc => ?_) (fun hc => ?_)
          · have hf := if_t hc hf
            refine lv_iconst (v := (0 : Int32)) hx hb dX6_count_50 (by decide) ?_
            cases hf
            exact K1 H locs ls hP hS (lv_sub hl [0, 1, 2, 3, 4, 5, 6] rfl)
          · have hf := if_f hc hf
            refine lv_iload hx hb dX6_count_36 (lv_at hl 5 rfl) ?_
            refine lv_iload hx hb dX6_count_38 (lv_at hl 0 rfl) ?_
            refine lv_iadd hx hb dX6_count_40 ?_
            refine lv_aload_n hx hb dX6_count_41 rfl (lv_at hl 4 rfl) ?_
            refine zr_alenI X hP hnI hk3 dX6_count_42 ?_
            refine lv_icmp_ge (tgt := 50) hx hb dX6_count_43 (by decide) (fun hc => ?_) (fun hc => ?_)
            · have hf := if_t hc hf
              refine lv_iconst (v := (0 : Int32)) hx hb dX6_count_50 (by decide) ?_
              cases hf
              exact K1 H locs ls hP hS (lv_sub hl [0, 1, 2, 3, 4, 5, 6] rfl)
            · have hf := if_f hc hf
              refine lv_iconst (v := (1 : Int32)) hx hb dX6_count_46 (by decide) ?_
              refine lv_goto (tgt := 51) hx hb dX6_count_47 (by decide) ?_
              cases hf
              exact K1 H locs ls hP hS (lv_sub hl [0, 1, 2, 3, 4, 5, 6] rfl)
set_option maxHeartbeats 4000000 in
set_option maxRecDepth 100000 in
theorem ct_X6_count {g : zb_G} {nc : Nat} (hnI : 306 ≤ nc) (l : Launch) {k2 : Nat} {k3 : Nat} (hk2 : zb_IK k2 10 (zb_ln k2)) (hk3 : zb_IK k3 10 (zb_ln k3)) {a1 : Int32} {a4 : Int32} {a5 : Int32} {I J O : Mem} {Iq : Mem} (hf : fX6_count k2 k3 a1 a4 a5 I = some Iq) : zb_Ct l g nc yX6_count cX6_count 8 none 2 47 [.ref (g.2.2 + 52), .int a1, .ref (g.2.2 + k2), .ref (g.2.2 + k3), .int a4, .int a5] (zb_ce g I J O) none (zb_ce g Iq J O) := by
  refine zb_ofW (own := RX6) (by decide +kernel) rfl (Nat.le_of_ble_eq_true rfl) ?_
  intro p e s m args below meth c ls X hr hP hl
  have hx := X.1.1
  have hb := X.1.2.1
  have ho := X.1.2.2.2.1
  have hts := X.1.2.2.2.2
  have hZ := X.2.2.2
  have hl : lv_has ls 8 [(0, .ref (g.2.2 + 52)), (1, .int a1), (2, .ref (g.2.2 + k2)), (3, .ref (g.2.2 + k3)), (4, .int a4), (5, .int a5)] := hl
  have hS : va_S (zb_A g) s.heap s.heap [] := va_S.rf
  obtain ⟨H, hH⟩ : ∃ H, H = s.heap := ⟨_, rfl⟩
  obtain ⟨locs, hlocs⟩ : ∃ z : List Loc, z = [] := ⟨_, rfl⟩
  rw [← hH] at hP
  have hS : va_S (zb_A g) s.heap H locs := by rw [hH, hlocs]; exact hS
  show W p l e _ s m args below meth c s.heap [] 0 0 _ _
  rw [← hH, ← hlocs]
  rw [fX6_count] at hf
  refine lv_aload_n hx hb dX6_count_0 rfl (lv_at hl 0 rfl) ?_
  refine lv_iconst (v := (0 : Int32)) hx hb dX6_count_1 (by decide) ?_
  refine pf_X6_29 X hnI hP hS zk_52 dX6_count_2 (fun H locs hP hS => ?_)
  refine lv_iconst (v := (0 : Int32)) hx hb dX6_count_5 (by decide) ?_
  refine lv_istore (lv' := [(6, .int (0 : Int32)), (0, .ref (g.2.2 + 52)), (1, .int a1), (2, .ref (g.2.2 + k2)), (3, .ref (g.2.2 + k3)), (4, .int a4), (5, .int a5)]) hx hb dX6_count_6 hl (by decide) rfl (fun ls hl => ?_)
  obtain ⟨I10, hI10, hf⟩ := ob_e hf
  have K4 : ∀ (H : Heap) (locs : List Loc) (ls : Array Slot), va_P g.1 vwCl (zb_ws g nc (zb_ce g I10 J O)) H → va_S (zb_A g) s.heap H locs → lv_has ls 8 [(0, .ref (g.2.2 + 52)), (5, .int a5)] → W p l e { frames := 2, cells := 0, slots := 0, locals := 47 } s m args below meth c H locs 0 0 (MQ below (zb_Po g nc (zb_ce g Iq J O) none) args s 0 0 (zb_A g)) (F0 m 118 ls []) := by
    intro H locs ls hP hS hl
    refine lv_aload_n hx hb dX6_count_118 rfl (lv_at hl 0 rfl) ?_
    refine lv_aload_n hx hb dX6_count_119 rfl (lv_at hl 0 rfl) ?_
    obtain ⟨x11, hx11, hf⟩ := ob_e hf
    refine zr_cVi (rest := [.ref (g.2.2 + 52)]) (As := []) X hP hS (ct_X6_middle (g := g) (nc := nc) (I := I10) (J := J) (O := O) hnI l  hx11) cw_X6_36 (zr_recv X hP (Nat.lt_of_lt_of_le (zk_52).1 hnI) (zb_ceIo zk_52 (by decide)) rfl) rfl hl.1 (Nat.le_of_ble_eq_true rfl) ⟨Nat.le_of_ble_eq_true rfl, Nat.le_of_ble_eq_true rfl⟩ ⟨Nat.le_of_ble_eq_true rfl, Nat.le_of_ble_eq_true rfl⟩ dX6_count_120 rfl (fun H locs hP hS => ?_)
    refine lv_iload hx hb dX6_count_123 (lv_at hl 1 rfl) ?_
    obtain ⟨I12, hI12, hf⟩ := ob_e hf
    refine zr_cVv (rest := []) (As := [.int x11, .int a5]) X hP hS (ct_X6_weigh (g := g) (nc := nc) (I := I10) (J := J) (O := O) hnI l  hI12) cw_X6_40 (zr_recv X hP (Nat.lt_of_lt_of_le (zk_52).1 hnI) (zb_ceIo zk_52 (by decide)) rfl) rfl hl.1 (Nat.le_of_ble_eq_true rfl) ⟨Nat.le_of_ble_eq_true rfl, Nat.le_of_ble_eq_true rfl⟩ ⟨Nat.le_of_ble_eq_true rfl, Nat.le_of_ble_eq_true rfl⟩ dX6_count_125 rfl (fun H locs hP hS => ?_)
    cases hf
    exact zr_vret X hr hP hS rfl dX6_count_128
  exact lpX6_count_L8 hnI l hk2 hk3 X hI10 K4 hP hS (lv_sub hl [0, 1, 2, 3, 4, 5, 6] rfl)
set_option maxHeartbeats 4000000 in
set_option maxRecDepth 100000 in
theorem ct_X5_countRow {g : zb_G} {nc : Nat} (hnI : 306 ≤ nc) (l : Launch) {b : Nat} (hB : zb_isB b) {a1 : Int32} {a2 : Int32} {I J O : Mem} {Iq : Mem} (hf : fX5_countRow b a1 a2 I = some Iq) : zb_Ct l g nc yX5_countRow cX5_countRow 4 none 3 74 [.ref (g.2.2 + b), .int a1, .int a2, .ref (g.2.2 + 52)] (zb_ce g I J O) none (zb_ce g Iq J O) := by
  refine zb_ofW (own := RX5) (by decide +kernel) rfl (Nat.le_of_ble_eq_true rfl) ?_
  intro p e s m args below meth c ls X hr hP hl
  have hx := X.1.1
  have hb := X.1.2.1
  have ho := X.1.2.2.2.1
  have hts := X.1.2.2.2.2
  have hZ := X.2.2.2
  have hl : lv_has ls 4 [(0, .ref (g.2.2 + b)), (1, .int a1), (2, .int a2), (3, .ref (g.2.2 + 52))] := hl
  have hS : va_S (zb_A g) s.heap s.heap [] := va_S.rf
  obtain ⟨H, hH⟩ : ∃ H, H = s.heap := ⟨_, rfl⟩
  obtain ⟨locs, hlocs⟩ : ∃ z : List Loc, z = [] := ⟨_, rfl⟩
  rw [← hH] at hP
  have hS : va_S (zb_A g) s.heap H locs := by rw [hH, hlocs]; exact hS
  show W p l e _ s m args below meth c s.heap [] 0 0 _ _
  rw [← hH, ← hlocs]
  rw [fX5_countRow] at hf
  refine lv_aload_n hx hb dX5_countRow_0 rfl (lv_at hl 3 rfl) ?_
  refine lv_iload_n hx hb dX5_countRow_1 rfl (lv_at hl 2 rfl) ?_
  refine lv_aload_n hx hb dX5_countRow_2 rfl (lv_at hl 0 rfl) ?_
  refine gf_X5_12 X hnI hP (zb_b0 hB) dX5_countRow_3 ?_
  refine gf_X5_88 X hnI hP (zb_bk (j := 1) hB (by decide) rfl) dX5_countRow_6 ?_
  refine lv_aload_n hx hb dX5_countRow_9 rfl (lv_at hl 0 rfl) ?_
  refine gf_X5_28 X hnI hP (zb_b0 hB) dX5_countRow_10 ?_
  refine gf_X5_92 X hnI hP (zb_bk (j := 14) hB (by decide) rfl) dX5_countRow_13 ?_
  refine lv_iload_n hx hb dX5_countRow_16 rfl (lv_at hl 1 rfl) ?_
  refine lv_bipush (v := (10 : Int32)) hx hb dX5_countRow_17 (by decide) ?_
  refine lv_imul hx hb dX5_countRow_19 ?_
  refine lv_aload_n hx hb dX5_countRow_20 rfl (lv_at hl 0 rfl) ?_
  refine gf_X5_32 X hnI hP (zb_b0 hB) dX5_countRow_21 ?_
  obtain ⟨I1, hI1, hf⟩ := ob_e hf
  refine zr_cVv (rest := []) (As := [.int a2, .ref (g.2.2 + (b + 3)), .ref (g.2.2 + (b + 23)), .int (a1 * (10 : Int32)), .int (I b 3)]) X hP hS (ct_X6_count (g := g) (nc := nc) (I := I) (J := J) (O := O) hnI l (zb_bkl (j := 3) hB (by decide) rfl) (zb_bkl (j := 23) hB (by decide) rfl) hI1) cw_X5_95 (zr_recv X hP (Nat.lt_of_lt_of_le (zk_52).1 hnI) (zb_ceIo zk_52 (by decide)) rfl) rfl hl.1 (Nat.le_of_ble_eq_true rfl) ⟨Nat.le_of_ble_eq_true rfl, Nat.le_of_ble_eq_true rfl⟩ ⟨Nat.le_of_ble_eq_true rfl, Nat.le_of_ble_eq_true rfl⟩ dX5_countRow_24 rfl (fun H locs hP hS => ?_)
  cases hf
  exact zr_vret X hr hP hS rfl dX5_countRow_27
set_option maxHeartbeats 4000000 in
set_option maxRecDepth 100000 in
theorem ct_X5_tellLevel {g : zb_G} {nc : Nat} (hnI : 306 ≤ nc) (l : Launch) {b : Nat} (hB : zb_isB b) {a1 : Int32} {I J O : Mem} {Iq : Mem} (hf : fX5_tellLevel b a1 I = some Iq) : zb_Ct l g nc yX5_tellLevel cX5_tellLevel 3 none 3 74 [.ref (g.2.2 + b), .int a1, .ref (g.2.2 + 52)] (zb_ce g I J O) none (zb_ce g Iq J O) := by
  refine zb_ofW (own := RX5) (by decide +kernel) rfl (Nat.le_of_ble_eq_true rfl) ?_
  intro p e s m args below meth c ls X hr hP hl
  have hx := X.1.1
  have hb := X.1.2.1
  have ho := X.1.2.2.2.1
  have hts := X.1.2.2.2.2
  have hZ := X.2.2.2
  have hl : lv_has ls 3 [(0, .ref (g.2.2 + b)), (1, .int a1), (2, .ref (g.2.2 + 52))] := hl
  have hS : va_S (zb_A g) s.heap s.heap [] := va_S.rf
  obtain ⟨H, hH⟩ : ∃ H, H = s.heap := ⟨_, rfl⟩
  obtain ⟨locs, hlocs⟩ : ∃ z : List Loc, z = [] := ⟨_, rfl⟩
  rw [← hH] at hP
  have hS : va_S (zb_A g) s.heap H locs := by rw [hH, hlocs]; exact hS
  show W p l e _ s m args below meth c s.heap [] 0 0 _ _
  rw [← hH, ← hlocs]
  rw [fX5_tellLevel] at hf
  refine lv_aload_n hx hb dX5_tellLevel_0 rfl (lv_at hl 2 rfl) ?_
  refine lv_aload_n hx hb dX5_tellLevel_1 rfl (lv_at hl 0 rfl) ?_
  refine gf_X5_28 X hnI hP (zb_b0 hB) dX5_tellLevel_2 ?_
  refine gf_X5_100 X hnI hP (zb_bk (j := 14) hB (by decide) rfl) dX5_tellLevel_5 ?_
  refine lv_iload_n hx hb dX5_tellLevel_8 rfl (lv_at hl 1 rfl) ?_
  obtain ⟨x1, hx1, hf⟩ := ob_e hf
  refine zr_aldI X hP hnI (zb_bk (j := 15) hB (by decide) rfl) hx1 dX5_tellLevel_9 ?_
  refine lv_aload_n hx hb dX5_tellLevel_10 rfl (lv_at hl 0 rfl) ?_
  refine gf_X5_12 X hnI hP (zb_b0 hB) dX5_tellLevel_11 ?_
  refine gf_X5_88 X hnI hP (zb_bk (j := 1) hB (by decide) rfl) dX5_tellLevel_14 ?_
  refine lv_aload_n hx hb dX5_tellLevel_17 rfl (lv_at hl 0 rfl) ?_
  refine gf_X5_28 X hnI hP (zb_b0 hB) dX5_tellLevel_18 ?_
  refine gf_X5_92 X hnI hP (zb_bk (j := 14) hB (by decide) rfl) dX5_tellLevel_21 ?_
  refine lv_iload_n hx hb dX5_tellLevel_24 rfl (lv_at hl 1 rfl) ?_
  refine lv_bipush (v := (10 : Int32)) hx hb dX5_tellLevel_25 (by decide) ?_
  refine lv_imul hx hb dX5_tellLevel_27 ?_
  refine lv_aload_n hx hb dX5_tellLevel_28 rfl (lv_at hl 0 rfl) ?_
  refine gf_X5_32 X hnI hP (zb_b0 hB) dX5_tellLevel_29 ?_
  obtain ⟨I2, hI2, hf⟩ := ob_e hf
  refine zr_cVv (rest := []) (As := [.int x1, .ref (g.2.2 + (b + 3)), .ref (g.2.2 + (b + 23)), .int (a1 * (10 : Int32)), .int (I b 3)]) X hP hS (ct_X6_count (g := g) (nc := nc) (I := I) (J := J) (O := O) hnI l (zb_bkl (j := 3) hB (by decide) rfl) (zb_bkl (j := 23) hB (by decide) rfl) hI2) cw_X5_95 (zr_recv X hP (Nat.lt_of_lt_of_le (zk_52).1 hnI) (zb_ceIo zk_52 (by decide)) rfl) rfl hl.1 (Nat.le_of_ble_eq_true rfl) ⟨Nat.le_of_ble_eq_true rfl, Nat.le_of_ble_eq_true rfl⟩ ⟨Nat.le_of_ble_eq_true rfl, Nat.le_of_ble_eq_true rfl⟩ dX5_tellLevel_32 rfl (fun H locs hP hS => ?_)
  refine lv_aload_n hx hb dX5_tellLevel_35 rfl (lv_at hl 0 rfl) ?_
  refine gf_X5_28 X hnI hP (zb_b0 hB) dX5_tellLevel_36 ?_
  refine gf_X5_103 X hnI hP (zb_bk (j := 14) hB (by decide) rfl) dX5_tellLevel_39 ?_
  refine lv_iload_n hx hb dX5_tellLevel_42 rfl (lv_at hl 1 rfl) ?_
  refine lv_aload_n hx hb dX5_tellLevel_43 rfl (lv_at hl 2 rfl) ?_
  refine gf_X5_106 X hnI hP zk_52 dX5_tellLevel_44 ?_
  obtain ⟨I3, hI3, hf⟩ := ob_e hf
  refine zr_astI X hP hS hnI (zb_bk (j := 16) hB (by decide) rfl) hI3 dX5_tellLevel_47 (fun H locs hP hS => ?_)
  refine lv_aload_n hx hb dX5_tellLevel_48 rfl (lv_at hl 0 rfl) ?_
  refine gf_X5_28 X hnI hP (zb_b0 hB) dX5_tellLevel_49 ?_
  refine gf_X5_108 X hnI hP (zb_bk (j := 14) hB (by decide) rfl) dX5_tellLevel_52 ?_
  refine lv_iload_n hx hb dX5_tellLevel_55 rfl (lv_at hl 1 rfl) ?_
  refine lv_aload_n hx hb dX5_tellLevel_56 rfl (lv_at hl 2 rfl) ?_
  refine gf_X5_111 X hnI hP zk_52 dX5_tellLevel_57 ?_
  obtain ⟨x4, ht, hf⟩ := pl_e hf
  have K1 : ∀ (H : Heap) (locs : List Loc) (ls : Array Slot), va_P g.1 vwCl (zb_ws g nc (zb_ce g I3 J O)) H → va_S (zb_A g) s.heap H locs → lv_has ls 3 [(0, .ref (g.2.2 + b)), (1, .int a1), (2, .ref (g.2.2 + 52))] → W p l e { frames := 3, cells := 0, slots := 0, locals := 74 } s m args below meth c H locs 0 0 (MQ below (zb_Po g nc (zb_ce g Iq J O) none) args s 0 0 (zb_A g)) (F0 m 68 ls [.int x4, .int a1, .ref (g.2.2 + (b + 17))]) := by
    intro H locs ls hP hS hl
    obtain ⟨I5, hI5, hf⟩ := ob_e hf
    refine zr_astI X hP hS hnI (zb_bk (j := 17) hB (by decide) rfl) hI5 dX5_tellLevel_68 (fun H locs hP hS => ?_)
    refine lv_aload_n hx hb dX5_tellLevel_69 rfl (lv_at hl 0 rfl) ?_
    refine gf_X5_28 X hnI hP (zb_b0 hB) dX5_tellLevel_70 ?_
    refine gf_X5_114 X hnI hP (zb_bk (j := 14) hB (by decide) rfl) dX5_tellLevel_73 ?_
    refine lv_iload_n hx hb dX5_tellLevel_76 rfl (lv_at hl 1 rfl) ?_
    refine lv_aload_n hx hb dX5_tellLevel_77 rfl (lv_at hl 2 rfl) ?_
    refine gf_X5_117 X hnI hP zk_52 dX5_tellLevel_78 ?_
    obtain ⟨I6, hI6, hf⟩ := ob_e hf
    refine zr_astI X hP hS hnI (zb_bk (j := 18) hB (by decide) rfl) hI6 dX5_tellLevel_81 (fun H locs hP hS => ?_)
    cases hf
    exact zr_vret X hr hP hS rfl dX5_tellLevel_82
  have hf := ht
  refine lv_if_eq (tgt := 67) hx hb dX5_tellLevel_60 (by decide) (fun hc => ?_) (fun hc => ?_)
  · have hf := if_t hc hf
    refine lv_iconst (v := (0 : Int32)) hx hb dX5_tellLevel_67 (by decide) ?_
    cases hf
    exact K1 H locs ls hP hS (lv_sub hl [0, 1, 2] rfl)
  · have hf := if_f hc hf
    refine lv_iconst (v := (1 : Int32)) hx hb dX5_tellLevel_63 (by decide) ?_
    refine lv_goto (tgt := 68) hx hb dX5_tellLevel_64 (by decide) ?_
    cases hf
    exact K1 H locs ls hP hS (lv_sub hl [0, 1, 2] rfl)
set_option maxHeartbeats 4000000 in
set_option maxRecDepth 100000 in
theorem ct_X5_openRow {g : zb_G} {nc : Nat} (hnI : 306 ≤ nc) (l : Launch) {b : Nat} (hB : zb_isB b) {I J O : Mem} {r9 : Int32} {Iq : Mem} (hf : fX5_openRow b I = some (r9, Iq)) : zb_Ct l g nc yX5_openRow cX5_openRow 2 (some .int) 2 44 [.ref (g.2.2 + b)] (zb_ce g I J O) (some (.int r9)) (zb_ce g Iq J O) := by
  refine zb_ofW (own := RX5) (by decide +kernel) rfl (Nat.le_of_ble_eq_true rfl) ?_
  intro p e s m args below meth c ls X hr hP hl
  have hx := X.1.1
  have hb := X.1.2.1
  have ho := X.1.2.2.2.1
  have hts := X.1.2.2.2.2
  have hZ := X.2.2.2
  have hl : lv_has ls 2 [(0, .ref (g.2.2 + b))] := hl
  have hS : va_S (zb_A g) s.heap s.heap [] := va_S.rf
  obtain ⟨H, hH⟩ : ∃ H, H = s.heap := ⟨_, rfl⟩
  obtain ⟨locs, hlocs⟩ : ∃ z : List Loc, z = [] := ⟨_, rfl⟩
  rw [← hH] at hP
  have hS : va_S (zb_A g) s.heap H locs := by rw [hH, hlocs]; exact hS
  show W p l e _ s m args below meth c s.heap [] 0 0 _ _
  rw [← hH, ← hlocs]
  rw [fX5_openRow] at hf
  refine lv_aload_n hx hb dX5_openRow_0 rfl (lv_at hl 0 rfl) ?_
  refine lv_aload_n hx hb dX5_openRow_1 rfl (lv_at hl 0 rfl) ?_
  refine gf_X5_45 X hnI hP (zb_b0 hB) dX5_openRow_2 ?_
  obtain ⟨x1, hx1, hf⟩ := ob_e hf
  refine zr_cVi (rest := []) (As := [.int (I b 7)]) X hP hS (ct_X5_rowOf (g := g) (nc := nc) (I := I) (J := J) (O := O)  l hB hx1) cw_X5_120 (zr_recv X hP (Nat.lt_of_lt_of_le ((zb_b0 hB)).1 hnI) (zb_ceIo (zb_b0 hB) (by decide)) rfl) rfl hl.1 (Nat.le_of_ble_eq_true rfl) ⟨Nat.le_of_ble_eq_true rfl, Nat.le_of_ble_eq_true rfl⟩ ⟨Nat.le_of_ble_eq_true rfl, Nat.le_of_ble_eq_true rfl⟩ dX5_openRow_5 rfl (fun H locs hP hS => ?_)
  refine lv_istore_n (lv' := [(1, .int x1), (0, .ref (g.2.2 + b))]) hx hb dX5_openRow_8 rfl hl (by decide) rfl (fun ls hl => ?_)
  refine lv_aload_n hx hb dX5_openRow_9 rfl (lv_at hl 1 rfl) ?_
  refine gf_X5_12 X hnI hP (zb_b0 hB) dX5_openRow_10 ?_
  refine lv_aload_n hx hb dX5_openRow_13 rfl (lv_at hl 1 rfl) ?_
  refine gf_X5_28 X hnI hP (zb_b0 hB) dX5_openRow_14 ?_
  refine gf_X5_92 X hnI hP (zb_bk (j := 14) hB (by decide) rfl) dX5_openRow_17 ?_
  refine lv_iload_n hx hb dX5_openRow_20 rfl (lv_at hl 0 rfl) ?_
  refine lv_bipush (v := (10 : Int32)) hx hb dX5_openRow_21 (by decide) ?_
  refine lv_imul hx hb dX5_openRow_23 ?_
  obtain ⟨I2, hI2, hf⟩ := ob_e hf
  refine zr_cVv (rest := []) (As := [.ref (g.2.2 + (b + 23)), .int (x1 * (10 : Int32))]) X hP hS (ct_X0_tellValues (g := g) (nc := nc) (I := I) (J := J) (O := O) hnI l hB (zb_bkl (j := 23) hB (by decide) rfl) hI2) cw_X5_124 (zr_recv X hP (Nat.lt_of_lt_of_le ((zb_bk (j := 1) hB (by decide) rfl)).1 hnI) (zb_ceIo (zb_bk (j := 1) hB (by decide) rfl) (by decide)) rfl) rfl hl.1 (Nat.le_of_ble_eq_true rfl) ⟨Nat.le_of_ble_eq_true rfl, Nat.le_of_ble_eq_true rfl⟩ ⟨Nat.le_of_ble_eq_true rfl, Nat.le_of_ble_eq_true rfl⟩ dX5_openRow_24 rfl (fun H locs hP hS => ?_)
  refine lv_aload_n hx hb dX5_openRow_27 rfl (lv_at hl 1 rfl) ?_
  refine gf_X5_28 X hnI hP (zb_b0 hB) dX5_openRow_28 ?_
  refine gf_X5_128 X hnI hP (zb_bk (j := 14) hB (by decide) rfl) dX5_openRow_31 ?_
  refine lv_iload_n hx hb dX5_openRow_34 rfl (lv_at hl 0 rfl) ?_
  refine lv_aload_n hx hb dX5_openRow_35 rfl (lv_at hl 1 rfl) ?_
  refine gf_X5_12 X hnI hP (zb_b0 hB) dX5_openRow_36 ?_
  refine gf_X5_131 X hnI hP (zb_bk (j := 1) hB (by decide) rfl) dX5_openRow_39 ?_
  obtain ⟨I3, hI3, hf⟩ := ob_e hf
  refine zr_astI X hP hS hnI (zb_bk (j := 19) hB (by decide) rfl) hI3 dX5_openRow_42 (fun H locs hP hS => ?_)
  refine lv_aload_n hx hb dX5_openRow_43 rfl (lv_at hl 1 rfl) ?_
  refine gf_X5_28 X hnI hP (zb_b0 hB) dX5_openRow_44 ?_
  refine gf_X5_133 X hnI hP (zb_bk (j := 14) hB (by decide) rfl) dX5_openRow_47 ?_
  refine lv_iload_n hx hb dX5_openRow_50 rfl (lv_at hl 0 rfl) ?_
  refine lv_aload_n hx hb dX5_openRow_51 rfl (lv_at hl 1 rfl) ?_
  refine gf_X5_12 X hnI hP (zb_b0 hB) dX5_openRow_52 ?_
  refine lv_iconst (v := (1 : Int32)) hx hb dX5_openRow_55 (by decide) ?_
  obtain ⟨x4, hx4, hf⟩ := ob_e hf
  refine zr_cVi (rest := [.int x1, .ref (g.2.2 + (b + 20))]) (As := [.int (1 : Int32)]) X hP hS (ct_X0_membersIn (g := g) (nc := nc) (I := I3) (J := J) (O := O) hnI l hB hx4) cw_X5_136 (zr_recv X hP (Nat.lt_of_lt_of_le ((zb_bk (j := 1) hB (by decide) rfl)).1 hnI) (zb_ceIo (zb_bk (j := 1) hB (by decide) rfl) (by decide)) rfl) rfl hl.1 (Nat.le_of_ble_eq_true rfl) ⟨Nat.le_of_ble_eq_true rfl, Nat.le_of_ble_eq_true rfl⟩ ⟨Nat.le_of_ble_eq_true rfl, Nat.le_of_ble_eq_true rfl⟩ dX5_openRow_56 rfl (fun H locs hP hS => ?_)
  obtain ⟨I5, hI5, hf⟩ := ob_e hf
  refine zr_astI X hP hS hnI (zb_bk (j := 20) hB (by decide) rfl) hI5 dX5_openRow_59 (fun H locs hP hS => ?_)
  refine lv_aload_n hx hb dX5_openRow_60 rfl (lv_at hl 1 rfl) ?_
  refine gf_X5_28 X hnI hP (zb_b0 hB) dX5_openRow_61 ?_
  refine gf_X5_139 X hnI hP (zb_bk (j := 14) hB (by decide) rfl) dX5_openRow_64 ?_
  refine lv_iload_n hx hb dX5_openRow_67 rfl (lv_at hl 0 rfl) ?_
  refine lv_aload_n hx hb dX5_openRow_68 rfl (lv_at hl 1 rfl) ?_
  refine gf_X5_12 X hnI hP (zb_b0 hB) dX5_openRow_69 ?_
  refine lv_iconst (v := (2 : Int32)) hx hb dX5_openRow_72 (by decide) ?_
  obtain ⟨x6, hx6, hf⟩ := ob_e hf
  refine zr_cVi (rest := [.int x1, .ref (g.2.2 + (b + 21))]) (As := [.int (2 : Int32)]) X hP hS (ct_X0_membersIn (g := g) (nc := nc) (I := I5) (J := J) (O := O) hnI l hB hx6) cw_X5_136 (zr_recv X hP (Nat.lt_of_lt_of_le ((zb_bk (j := 1) hB (by decide) rfl)).1 hnI) (zb_ceIo (zb_bk (j := 1) hB (by decide) rfl) (by decide)) rfl) rfl hl.1 (Nat.le_of_ble_eq_true rfl) ⟨Nat.le_of_ble_eq_true rfl, Nat.le_of_ble_eq_true rfl⟩ ⟨Nat.le_of_ble_eq_true rfl, Nat.le_of_ble_eq_true rfl⟩ dX5_openRow_73 rfl (fun H locs hP hS => ?_)
  obtain ⟨I7, hI7, hf⟩ := ob_e hf
  refine zr_astI X hP hS hnI (zb_bk (j := 21) hB (by decide) rfl) hI7 dX5_openRow_76 (fun H locs hP hS => ?_)
  refine lv_aload_n hx hb dX5_openRow_77 rfl (lv_at hl 1 rfl) ?_
  refine gf_X5_28 X hnI hP (zb_b0 hB) dX5_openRow_78 ?_
  refine gf_X5_100 X hnI hP (zb_bk (j := 14) hB (by decide) rfl) dX5_openRow_81 ?_
  refine lv_iload_n hx hb dX5_openRow_84 rfl (lv_at hl 0 rfl) ?_
  refine lv_aload_n hx hb dX5_openRow_85 rfl (lv_at hl 1 rfl) ?_
  refine gf_X5_12 X hnI hP (zb_b0 hB) dX5_openRow_86 ?_
  refine gf_X5_131 X hnI hP (zb_bk (j := 1) hB (by decide) rfl) dX5_openRow_89 ?_
  refine lv_aload_n hx hb dX5_openRow_92 rfl (lv_at hl 1 rfl) ?_
  refine gf_X5_12 X hnI hP (zb_b0 hB) dX5_openRow_93 ?_
  refine lv_iconst (v := (0 : Int32)) hx hb dX5_openRow_96 (by decide) ?_
  obtain ⟨x8, hx8, hf⟩ := ob_e hf
  refine zr_cVi (rest := [.int (I7 (b + 1) 1), .int x1, .ref (g.2.2 + (b + 15))]) (As := [.int (0 : Int32)]) X hP hS (ct_X0_membersIn (g := g) (nc := nc) (I := I7) (J := J) (O := O) hnI l hB hx8) cw_X5_136 (zr_recv X hP (Nat.lt_of_lt_of_le ((zb_bk (j := 1) hB (by decide) rfl)).1 hnI) (zb_ceIo (zb_bk (j := 1) hB (by decide) rfl) (by decide)) rfl) rfl hl.1 (Nat.le_of_ble_eq_true rfl) ⟨Nat.le_of_ble_eq_true rfl, Nat.le_of_ble_eq_true rfl⟩ ⟨Nat.le_of_ble_eq_true rfl, Nat.le_of_ble_eq_true rfl⟩ dX5_openRow_97 rfl (fun H locs hP hS => ?_)
  refine lv_iand hx hb dX5_openRow_100 ?_
  obtain ⟨I9, hI9, hf⟩ := ob_e hf
  refine zr_astI X hP hS hnI (zb_bk (j := 15) hB (by decide) rfl) hI9 dX5_openRow_101 (fun H locs hP hS => ?_)
  refine lv_aload_n hx hb dX5_openRow_102 rfl (lv_at hl 1 rfl) ?_
  refine gf_X5_28 X hnI hP (zb_b0 hB) dX5_openRow_103 ?_
  refine gf_X5_142 X hnI hP (zb_bk (j := 14) hB (by decide) rfl) dX5_openRow_106 ?_
  refine lv_iload_n hx hb dX5_openRow_109 rfl (lv_at hl 0 rfl) ?_
  refine lv_iconst (v := (0 : Int32)) hx hb dX5_openRow_110 (by decide) ?_
  obtain ⟨I10, hI10, hf⟩ := ob_e hf
  refine zr_astI X hP hS hnI (zb_bk (j := 22) hB (by decide) rfl) hI10 dX5_openRow_111 (fun H locs hP hS => ?_)
  refine lv_iload_n hx hb dX5_openRow_112 rfl (lv_at hl 0 rfl) ?_
  cases hf
  exact zr_iret X hr hP hS dX5_openRow_113
set_option maxHeartbeats 4000000 in
set_option maxRecDepth 100000 in
theorem lpX5_countStrikes_L2 {g : zb_G} {nc : Nat} (hnI : 306 ≤ nc) (l : Launch) {b : Nat} (hB : zb_isB b) {a1 : Int32} {J O : Mem} {p : Program} {e : Env} {s : State} {m : MethodId} {args : Array Value} {below : List Frame} {meth : Method} {c : Code} {Q : State → Prop} (X : zb_X g p m c cX5_countStrikes 3 s args RX5 meth) : ∀ {n9 : Nat} {a2 : Int32} {I : Mem} {Iz : Mem} {H : Heap} {locs : List Loc} {ls : Array Slot}, fX5_countStrikes_L2 b a1 n9 a2 I = some Iz → (∀ (H : Heap) (locs : List Loc) (ls : Array Slot), va_P g.1 vwCl (zb_ws g nc (zb_ce g Iz J O)) H → va_S (zb_A g) s.heap H locs → lv_has ls 3 [] → W p l e { frames := 1, cells := 0, slots := 0, locals := 21 } s m args below meth c H locs 0 0 Q (F0 m 112 ls [])) → va_P g.1 vwCl (zb_ws g nc (zb_ce g I J O)) H → va_S (zb_A g) s.heap H locs → lv_has ls 3 [(2, .int a2), (0, .ref (g.2.2 + b)), (1, .int a1)] → W p l e { frames := 1, cells := 0, slots := 0, locals := 21 } s m args below meth c H locs 0 0 Q (F0 m 2 ls []) := by
  have hx := X.1.1
  have hb := X.1.2.1
  have ho := X.1.2.2.2.1
  have hts := X.1.2.2.2.2
  have hZ := X.2.2.2
  intro n9
  induction n9 with
  | zero =>
    intro a2 I Iz H locs ls hf
    exact nomatch hf
  | succ n9 ih =>
    intro a2 I Iz H locs ls hf KK hP hS hl
    rw [fX5_countStrikes_L2] at hf
    refine lv_iload_n hx hb dX5_countStrikes_2 rfl (lv_at hl 0 rfl) ?_
    refine lv_aload_n hx hb dX5_countStrikes_3 rfl (lv_at hl 1 rfl) ?_
    refine gf_X5_12 X hnI hP (zb_b0 hB) dX5_countStrikes_4 ?_
    refine gf_X5_70 X hnI hP (zb_bk (j := 1) hB (by decide) rfl) dX5_countStrikes_7 ?_
    refine lv_icmp_ge (tgt := 112) hx hb dX5_countStrikes_10 (by decide) (fun hc => ?_) (fun hc => ?_)
    · have hf := if_t hc hf
      cases hf
      exact KK H locs ls hP hS (lv_sub hl [] rfl)
    · have hf := if_f hc hf
      refine lv_aload_n hx hb dX5_countStrikes_13 rfl (lv_at hl 1 rfl) ?_
      refine gf_X5_28 X hnI hP (zb_b0 hB) dX5_countStrikes_14 ?_
      refine gf_X5_103 X hnI hP (zb_bk (j := 14) hB (by decide) rfl) dX5_countStrikes_17 ?_
      refine lv_iload_n hx hb dX5_countStrikes_20 rfl (lv_at hl 2 rfl) ?_
      obtain ⟨x1, hx1, hf⟩ := ob_e hf
      refine zr_aldI X hP hnI (zb_bk (j := 16) hB (by decide) rfl) hx1 dX5_countStrikes_21 ?_
      refine lv_iload_n hx hb dX5_countStrikes_22 rfl (lv_at hl 0 rfl) ?_
      obtain ⟨x2, hx2, hf⟩ := ob_e hf
      refine zr_cNi (rest := []) (As := [.int x1, .int a2]) X hP hS (ct_X7_has (g := g) (nc := nc) (I := I) (J := J) (O := O)  l  hx2) cw_X5_145  rfl hl.1 (Nat.le_of_ble_eq_true rfl) ⟨Nat.le_of_ble_eq_true rfl, Nat.le_of_ble_eq_true rfl⟩ ⟨Nat.le_of_ble_eq_true rfl, Nat.le_of_ble_eq_true rfl⟩ dX5_countStrikes_23 rfl (fun H locs hP hS => ?_)
      obtain ⟨I12, ht, hf⟩ := ob_e hf
      have K1 : ∀ (H : Heap) (locs : List Loc) (ls : Array Slot), va_P g.1 vwCl (zb_ws g nc (zb_ce g I12 J O)) H → va_S (zb_A g) s.heap H locs → lv_has ls 3 [(2, .int a2), (0, .ref (g.2.2 + b)), (1, .int a1)] → W p l e { frames := 1, cells := 0, slots := 0, locals := 21 } s m args below meth c H locs 0 0 Q (F0 m 106 ls []) := by
        intro H locs ls hP hS hl
        refine lv_iinc (v := (a2 + (1 : Int32))) (lv' := [(2, .int (a2 + (1 : Int32))), (0, .ref (g.2.2 + b)), (1, .int a1)]) hx hb dX5_countStrikes_106 hl (k := 0) rfl rfl (by decide) rfl (fun ls hl => ?_)
        refine lv_goto (tgt := 2) hx hb dX5_countStrikes_109 (by decide) ?_
        exact ih hf KK hP hS (lv_sub hl [0, 1, 2] rfl)
      have hf := ht
      refine lv_if_eq (tgt := 52) hx hb dX5_countStrikes_26 (by decide) (fun hc => ?_) (fun hc => ?_)
      · have hf := if_t hc hf
        refine lv_aload_n hx hb dX5_countStrikes_52 rfl (lv_at hl 1 rfl) ?_
        refine gf_X5_28 X hnI hP (zb_b0 hB) dX5_countStrikes_53 ?_
        refine gf_X5_100 X hnI hP (zb_bk (j := 14) hB (by decide) rfl) dX5_countStrikes_56 ?_
        refine lv_iload_n hx hb dX5_countStrikes_59 rfl (lv_at hl 2 rfl) ?_
        obtain ⟨x3, hx3, hf⟩ := ob_e hf
        refine zr_aldI X hP hnI (zb_bk (j := 15) hB (by decide) rfl) hx3 dX5_countStrikes_60 ?_
        refine lv_iload_n hx hb dX5_countStrikes_61 rfl (lv_at hl 0 rfl) ?_
        obtain ⟨x4, hx4, hf⟩ := ob_e hf
        refine zr_cNi (rest := []) (As := [.int x3, .int a2]) X hP hS (ct_X7_has (g := g) (nc := nc) (I := I) (J := J) (O := O)  l  hx4) cw_X5_145  rfl hl.1 (Nat.le_of_ble_eq_true rfl) ⟨Nat.le_of_ble_eq_true rfl, Nat.le_of_ble_eq_true rfl⟩ ⟨Nat.le_of_ble_eq_true rfl, Nat.le_of_ble_eq_true rfl⟩ dX5_countStrikes_62 rfl (fun H locs hP hS => ?_)
        refine lv_if_eq (tgt := 106) hx hb dX5_countStrikes_65 (by decide) (fun hc => ?_) (fun hc => ?_)
        · have hf := if_t hc hf
          cases hf
          exact K1 H locs ls hP hS (lv_sub hl [0, 1, 2] rfl)
        · have hf := if_f hc hf
          refine lv_aload_n hx hb dX5_countStrikes_68 rfl (lv_at hl 1 rfl) ?_
          refine gf_X5_12 X hnI hP (zb_b0 hB) dX5_countStrikes_69 ?_
          refine gf_X5_149 X hnI hP (zb_bk (j := 1) hB (by decide) rfl) dX5_countStrikes_72 ?_
          refine lv_iload_n hx hb dX5_countStrikes_75 rfl (lv_at hl 0 rfl) ?_
          obtain ⟨x5, hx5, hf⟩ := ob_e hf
          refine zr_aldI X hP hnI (zb_bk (j := 7) hB (by decide) rfl) hx5 dX5_countStrikes_76 ?_
          obtain ⟨I7, ht, hf⟩ := ob_e hf
          have K2 : ∀ (H : Heap) (locs : List Loc) (ls : Array Slot), va_P g.1 vwCl (zb_ws g nc (zb_ce g I7 J O)) H → va_S (zb_A g) s.heap H locs → lv_has ls 3 [(2, .int a2), (0, .ref (g.2.2 + b)), (1, .int a1)] → W p l e { frames := 1, cells := 0, slots := 0, locals := 21 } s m args below meth c H locs 0 0 Q (F0 m 93 ls []) := by
            intro H locs ls hP hS hl
            refine lv_aload_n hx hb dX5_countStrikes_93 rfl (lv_at hl 1 rfl) ?_
            refine gf_X5_12 X hnI hP (zb_b0 hB) dX5_countStrikes_94 ?_
            refine gf_X5_149 X hnI hP (zb_bk (j := 1) hB (by decide) rfl) dX5_countStrikes_97 ?_
            refine lv_iload_n hx hb dX5_countStrikes_100 rfl (lv_at hl 0 rfl) ?_
            refine lv_dup2_11 hx hb dX5_countStrikes_101 rfl rfl ?_
            obtain ⟨x8, hx8, hf⟩ := ob_e hf
            refine zr_aldI X hP hnI (zb_bk (j := 7) hB (by decide) rfl) hx8 dX5_countStrikes_102 ?_
            refine lv_iconst (v := (1 : Int32)) hx hb dX5_countStrikes_103 (by decide) ?_
            refine lv_iadd hx hb dX5_countStrikes_104 ?_
            obtain ⟨I9, hI9, hf⟩ := ob_e hf
            refine zr_astI X hP hS hnI (zb_bk (j := 7) hB (by decide) rfl) hI9 dX5_countStrikes_105 (fun H locs hP hS => ?_)
            cases hf
            exact K1 H locs ls hP hS (lv_sub hl [0, 1, 2] rfl)
          have hf := ht
          refine lv_if_ne (tgt := 93) hx hb dX5_countStrikes_77 (by decide) (fun hc => ?_) (fun hc => ?_)
          · have hf := if_f hc hf
            cases hf
            exact K2 H locs ls hP hS (lv_sub hl [0, 1, 2] rfl)
          · have hf := if_t hc hf
            refine lv_aload_n hx hb dX5_countStrikes_80 rfl (lv_at hl 1 rfl) ?_
            refine gf_X5_12 X hnI hP (zb_b0 hB) dX5_countStrikes_81 ?_
            refine gf_X5_152 X hnI hP (zb_bk (j := 1) hB (by decide) rfl) dX5_countStrikes_84 ?_
            refine lv_iload_n hx hb dX5_countStrikes_87 rfl (lv_at hl 0 rfl) ?_
            refine lv_aload_n hx hb dX5_countStrikes_88 rfl (lv_at hl 1 rfl) ?_
            refine gf_X5_45 X hnI hP (zb_b0 hB) dX5_countStrikes_89 ?_
            obtain ⟨I6, hI6, hf⟩ := ob_e hf
            refine zr_astI X hP hS hnI (zb_bk (j := 9) hB (by decide) rfl) hI6 dX5_countStrikes_92 (fun H locs hP hS => ?_)
            cases hf
            exact K2 H locs ls hP hS (lv_sub hl [0, 1, 2] rfl)
      · have hf := if_f hc hf
        refine lv_aload_n hx hb dX5_countStrikes_29 rfl (lv_at hl 1 rfl) ?_
        refine gf_X5_12 X hnI hP (zb_b0 hB) dX5_countStrikes_30 ?_
        refine gf_X5_149 X hnI hP (zb_bk (j := 1) hB (by decide) rfl) dX5_countStrikes_33 ?_
        refine lv_iload_n hx hb dX5_countStrikes_36 rfl (lv_at hl 0 rfl) ?_
        refine lv_iconst (v := (0 : Int32)) hx hb dX5_countStrikes_37 (by decide) ?_
        obtain ⟨I10, hI10, hf⟩ := ob_e hf
        refine zr_astI X hP hS hnI (zb_bk (j := 7) hB (by decide) rfl) hI10 dX5_countStrikes_38 (fun H locs hP hS => ?_)
        refine lv_aload_n hx hb dX5_countStrikes_39 rfl (lv_at hl 1 rfl) ?_
        refine gf_X5_12 X hnI hP (zb_b0 hB) dX5_countStrikes_40 ?_
        refine gf_X5_152 X hnI hP (zb_bk (j := 1) hB (by decide) rfl) dX5_countStrikes_43 ?_
        refine lv_iload_n hx hb dX5_countStrikes_46 rfl (lv_at hl 0 rfl) ?_
        refine lv_iconst (v := (-1 : Int32)) hx hb dX5_countStrikes_47 (by decide) ?_
        obtain ⟨I11, hI11, hf⟩ := ob_e hf
        refine zr_astI X hP hS hnI (zb_bk (j := 9) hB (by decide) rfl) hI11 dX5_countStrikes_48 (fun H locs hP hS => ?_)
        refine lv_goto (tgt := 106) hx hb dX5_countStrikes_49 (by decide) ?_
        cases hf
        exact K1 H locs ls hP hS (lv_sub hl [0, 1, 2] rfl)
set_option maxHeartbeats 4000000 in
set_option maxRecDepth 100000 in
theorem ct_X5_countStrikes {g : zb_G} {nc : Nat} (hnI : 306 ≤ nc) (l : Launch) {b : Nat} (hB : zb_isB b) {a1 : Int32} {I J O : Mem} {Iq : Mem} (hf : fX5_countStrikes b a1 I = some Iq) : zb_Ct l g nc yX5_countStrikes cX5_countStrikes 3 none 1 21 [.ref (g.2.2 + b), .int a1] (zb_ce g I J O) none (zb_ce g Iq J O) := by
  refine zb_ofW (own := RX5) (by decide +kernel) rfl (Nat.le_of_ble_eq_true rfl) ?_
  intro p e s m args below meth c ls X hr hP hl
  have hx := X.1.1
  have hb := X.1.2.1
  have ho := X.1.2.2.2.1
  have hts := X.1.2.2.2.2
  have hZ := X.2.2.2
  have hl : lv_has ls 3 [(0, .ref (g.2.2 + b)), (1, .int a1)] := hl
  have hS : va_S (zb_A g) s.heap s.heap [] := va_S.rf
  obtain ⟨H, hH⟩ : ∃ H, H = s.heap := ⟨_, rfl⟩
  obtain ⟨locs, hlocs⟩ : ∃ z : List Loc, z = [] := ⟨_, rfl⟩
  rw [← hH] at hP
  have hS : va_S (zb_A g) s.heap H locs := by rw [hH, hlocs]; exact hS
  show W p l e _ s m args below meth c s.heap [] 0 0 _ _
  rw [← hH, ← hlocs]
  rw [fX5_countStrikes] at hf
  refine lv_iconst (v := (0 : Int32)) hx hb dX5_countStrikes_0 (by decide) ?_
  refine lv_istore_n (lv' := [(2, .int (0 : Int32)), (0, .ref (g.2.2 + b)), (1, .int a1)]) hx hb dX5_countStrikes_1 rfl hl (by decide) rfl (fun ls hl => ?_)
  obtain ⟨I13, hI13, hf⟩ := ob_e hf
  have K3 : ∀ (H : Heap) (locs : List Loc) (ls : Array Slot), va_P g.1 vwCl (zb_ws g nc (zb_ce g I13 J O)) H → va_S (zb_A g) s.heap H locs → lv_has ls 3 [] → W p l e { frames := 1, cells := 0, slots := 0, locals := 21 } s m args below meth c H locs 0 0 (MQ below (zb_Po g nc (zb_ce g Iq J O) none) args s 0 0 (zb_A g)) (F0 m 112 ls []) := by
    intro H locs ls hP hS hl
    cases hf
    exact zr_vret X hr hP hS rfl dX5_countStrikes_112
  exact lpX5_countStrikes_L2 hnI l hB X hI13 K3 hP hS (lv_sub hl [0, 1, 2] rfl)
