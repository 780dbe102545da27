theorem thr_ne {e : Nat} {A : Type} {a b : A} (he : ¬ e = 0) (h : some (e, a) = some (0, b)) : False := by
  injection h with h
  injection h with h1 h2
  exact he h1
theorem thr_ne1 {e : Nat} (he : ¬ e = 0) (h : some e = some 0) : False := by
  injection h with h
  exact he h

set_option maxHeartbeats 4000000 in
set_option maxRecDepth 100000 in
theorem ct_X0_copyFrom {g : zb_G} {nc : Nat} (hnI : 306 ≤ nc) (l : Launch) {b : Nat} {b1 : Nat} (hB : zb_isB b) (hB1 : zb_isB b1) {I J O : Mem} {I9 : Mem} (hf : fX0_copyFrom b b1 I = some I9) : zb_Ct l g nc yX0_copyFrom cX0_copyFrom 2 none 1 40 [.ref (g.2.2 + (b + 1)), .ref (g.2.2 + (b1 + 1))] (zb_ce g I J O) none (zb_ce g I9 J O) := by
  refine zb_ofW (own := RX0) (by decide +kernel) rfl (Nat.le_of_ble_eq_true rfl) ?_
  intro p e s m args below meth c ls X hr hP hl
  have hx := X.1.1
  have hb := X.1.2.1
  have ho := X.1.2.2.2.1
  have hts := X.1.2.2.2.2
  have hZ := X.2.2.2
  have hl : lv_has ls 2 [(0, .ref (g.2.2 + (b + 1))), (1, .ref (g.2.2 + (b1 + 1)))] := hl
  have hS : va_S (zb_A g) s.heap s.heap [] := va_S.rf
  obtain ⟨H, hH⟩ : ∃ H, H = s.heap := ⟨_, rfl⟩
  obtain ⟨locs, hlocs⟩ : ∃ z : List Loc, z = [] := ⟨_, rfl⟩
  rw [← hH] at hP
  have hS : va_S (zb_A g) s.heap H locs := by rw [hH, hlocs]; exact hS
  show W p l e _ s m args below meth c s.heap [] 0 0 _ _
  rw [← hH, ← hlocs]
  rw [fX0_copyFrom] at hf
  refine lv_aload_n hx hb dX0_copyFrom_0 rfl (lv_at hl 0 rfl) ?_
  refine lv_aload_n hx hb dX0_copyFrom_1 rfl (lv_at hl 1 rfl) ?_
  refine gf_X0_9 X hnI hP (zb_bk (j := 1) hB1 (by decide) rfl) dX0_copyFrom_2 ?_
  refine pf_X0_9 X hnI hP hS (zb_bk (j := 1) hB (by decide) rfl) dX0_copyFrom_5 (fun H locs hP hS => ?_)
  refine lv_aload_n hx hb dX0_copyFrom_8 rfl (lv_at hl 0 rfl) ?_
  refine lv_aload_n hx hb dX0_copyFrom_9 rfl (lv_at hl 1 rfl) ?_
  refine gf_X0_15 X hnI hP (zb_bk (j := 1) hB1 (by decide) rfl) dX0_copyFrom_10 ?_
  refine pf_X0_15 X hnI hP hS (zb_bk (j := 1) hB (by decide) rfl) dX0_copyFrom_13 (fun H locs hP hS => ?_)
  refine lv_aload_n hx hb dX0_copyFrom_16 rfl (lv_at hl 1 rfl) ?_
  refine gf_X0_18 X hnI hP (zb_bk (j := 1) hB1 (by decide) rfl) dX0_copyFrom_17 ?_
  refine lv_iconst (v := (0 : Int32)) hx hb dX0_copyFrom_20 (by decide) ?_
  refine lv_aload_n hx hb dX0_copyFrom_21 rfl (lv_at hl 0 rfl) ?_
  refine gf_X0_18 X hnI hP (zb_bk (j := 1) hB (by decide) rfl) dX0_copyFrom_22 ?_
  refine lv_iconst (v := (0 : Int32)) hx hb dX0_copyFrom_25 (by decide) ?_
  refine lv_bipush (v := (10 : Int32)) hx hb dX0_copyFrom_26 (by decide) ?_
  refine zr_copy (N := 10) X hP hS hnI (zb_bk (j := 2) hB1 (by decide) rfl) (zb_bk (j := 2) hB (by decide) rfl) rfl (Nat.le_of_ble_eq_true rfl) (Nat.le_of_ble_eq_true rfl) (Nat.le_of_ble_eq_true rfl) wk_X0_46 wm_ac1 wm_ac2 wm_ac3 hl.1 (Nat.le_of_ble_eq_true rfl) (Nat.le_of_ble_eq_true rfl) dX0_copyFrom_28 (fun H locs hP hS => ?_)
  refine lv_aload_n hx hb dX0_copyFrom_31 rfl (lv_at hl 1 rfl) ?_
  refine gf_X0_22 X hnI hP (zb_bk (j := 1) hB1 (by decide) rfl) dX0_copyFrom_32 ?_
  refine lv_iconst (v := (0 : Int32)) hx hb dX0_copyFrom_35 (by decide) ?_
  refine lv_aload_n hx hb dX0_copyFrom_36 rfl (lv_at hl 0 rfl) ?_
  refine gf_X0_22 X hnI hP (zb_bk (j := 1) hB (by decide) rfl) dX0_copyFrom_37 ?_
  refine lv_iconst (v := (0 : Int32)) hx hb dX0_copyFrom_40 (by decide) ?_
  refine lv_bipush (v := (10 : Int32)) hx hb dX0_copyFrom_41 (by decide) ?_
  refine zr_copy (N := 10) X hP hS hnI (zb_bk (j := 3) hB1 (by decide) rfl) (zb_bk (j := 3) hB (by decide) rfl) rfl (Nat.le_of_ble_eq_true rfl) (Nat.le_of_ble_eq_true rfl) (Nat.le_of_ble_eq_true rfl) wk_X0_46 wm_ac1 wm_ac2 wm_ac3 hl.1 (Nat.le_of_ble_eq_true rfl) (Nat.le_of_ble_eq_true rfl) dX0_copyFrom_43 (fun H locs hP hS => ?_)
  refine lv_aload_n hx hb dX0_copyFrom_46 rfl (lv_at hl 1 rfl) ?_
  refine gf_X0_25 X hnI hP (zb_bk (j := 1) hB1 (by decide) rfl) dX0_copyFrom_47 ?_
  refine lv_iconst (v := (0 : Int32)) hx hb dX0_copyFrom_50 (by decide) ?_
  refine lv_aload_n hx hb dX0_copyFrom_51 rfl (lv_at hl 0 rfl) ?_
  refine gf_X0_25 X hnI hP (zb_bk (j := 1) hB (by decide) rfl) dX0_copyFrom_52 ?_
  refine lv_iconst (v := (0 : Int32)) hx hb dX0_copyFrom_55 (by decide) ?_
  refine lv_bipush (v := (10 : Int32)) hx hb dX0_copyFrom_56 (by decide) ?_
  refine zr_copy (N := 10) X hP hS hnI (zb_bk (j := 4) hB1 (by decide) rfl) (zb_bk (j := 4) hB (by decide) rfl) rfl (Nat.le_of_ble_eq_true rfl) (Nat.le_of_ble_eq_true rfl) (Nat.le_of_ble_eq_true rfl) wk_X0_46 wm_ac1 wm_ac2 wm_ac3 hl.1 (Nat.le_of_ble_eq_true rfl) (Nat.le_of_ble_eq_true rfl) dX0_copyFrom_58 (fun H locs hP hS => ?_)
  refine lv_aload_n hx hb dX0_copyFrom_61 rfl (lv_at hl 1 rfl) ?_
  refine gf_X0_28 X hnI hP (zb_bk (j := 1) hB1 (by decide) rfl) dX0_copyFrom_62 ?_
  refine lv_iconst (v := (0 : Int32)) hx hb dX0_copyFrom_65 (by decide) ?_
  refine lv_aload_n hx hb dX0_copyFrom_66 rfl (lv_at hl 0 rfl) ?_
  refine gf_X0_28 X hnI hP (zb_bk (j := 1) hB (by decide) rfl) dX0_copyFrom_67 ?_
  refine lv_iconst (v := (0 : Int32)) hx hb dX0_copyFrom_70 (by decide) ?_
  refine lv_bipush (v := (10 : Int32)) hx hb dX0_copyFrom_71 (by decide) ?_
  refine zr_copy (N := 10) X hP hS hnI (zb_bk (j := 5) hB1 (by decide) rfl) (zb_bk (j := 5) hB (by decide) rfl) rfl (Nat.le_of_ble_eq_true rfl) (Nat.le_of_ble_eq_true rfl) (Nat.le_of_ble_eq_true rfl) wk_X0_46 wm_ac1 wm_ac2 wm_ac3 hl.1 (Nat.le_of_ble_eq_true rfl) (Nat.le_of_ble_eq_true rfl) dX0_copyFrom_73 (fun H locs hP hS => ?_)
  refine lv_aload_n hx hb dX0_copyFrom_76 rfl (lv_at hl 1 rfl) ?_
  refine gf_X0_31 X hnI hP (zb_bk (j := 1) hB1 (by decide) rfl) dX0_copyFrom_77 ?_
  refine lv_iconst (v := (0 : Int32)) hx hb dX0_copyFrom_80 (by decide) ?_
  refine lv_aload_n hx hb dX0_copyFrom_81 rfl (lv_at hl 0 rfl) ?_
  refine gf_X0_31 X hnI hP (zb_bk (j := 1) hB (by decide) rfl) dX0_copyFrom_82 ?_
  refine lv_iconst (v := (0 : Int32)) hx hb dX0_copyFrom_85 (by decide) ?_
  refine lv_bipush (v := (10 : Int32)) hx hb dX0_copyFrom_86 (by decide) ?_
  refine zr_copy (N := 10) X hP hS hnI (zb_bk (j := 6) hB1 (by decide) rfl) (zb_bk (j := 6) hB (by decide) rfl) rfl (Nat.le_of_ble_eq_true rfl) (Nat.le_of_ble_eq_true rfl) (Nat.le_of_ble_eq_true rfl) wk_X0_46 wm_ac1 wm_ac2 wm_ac3 hl.1 (Nat.le_of_ble_eq_true rfl) (Nat.le_of_ble_eq_true rfl) dX0_copyFrom_88 (fun H locs hP hS => ?_)
  refine lv_aload_n hx hb dX0_copyFrom_91 rfl (lv_at hl 1 rfl) ?_
  refine gf_X0_34 X hnI hP (zb_bk (j := 1) hB1 (by decide) rfl) dX0_copyFrom_92 ?_
  refine lv_iconst (v := (0 : Int32)) hx hb dX0_copyFrom_95 (by decide) ?_
  refine lv_aload_n hx hb dX0_copyFrom_96 rfl (lv_at hl 0 rfl) ?_
  refine gf_X0_34 X hnI hP (zb_bk (j := 1) hB (by decide) rfl) dX0_copyFrom_97 ?_
  refine lv_iconst (v := (0 : Int32)) hx hb dX0_copyFrom_100 (by decide) ?_
  refine lv_bipush (v := (10 : Int32)) hx hb dX0_copyFrom_101 (by decide) ?_
  refine zr_copy (N := 10) X hP hS hnI (zb_bk (j := 7) hB1 (by decide) rfl) (zb_bk (j := 7) hB (by decide) rfl) rfl (Nat.le_of_ble_eq_true rfl) (Nat.le_of_ble_eq_true rfl) (Nat.le_of_ble_eq_true rfl) wk_X0_46 wm_ac1 wm_ac2 wm_ac3 hl.1 (Nat.le_of_ble_eq_true rfl) (Nat.le_of_ble_eq_true rfl) dX0_copyFrom_103 (fun H locs hP hS => ?_)
  refine lv_aload_n hx hb dX0_copyFrom_106 rfl (lv_at hl 1 rfl) ?_
  refine gf_X0_37 X hnI hP (zb_bk (j := 1) hB1 (by decide) rfl) dX0_copyFrom_107 ?_
  refine lv_iconst (v := (0 : Int32)) hx hb dX0_copyFrom_110 (by decide) ?_
  refine lv_aload_n hx hb dX0_copyFrom_111 rfl (lv_at hl 0 rfl) ?_
  refine gf_X0_37 X hnI hP (zb_bk (j := 1) hB (by decide) rfl) dX0_copyFrom_112 ?_
  refine lv_iconst (v := (0 : Int32)) hx hb dX0_copyFrom_115 (by decide) ?_
  refine lv_bipush (v := (10 : Int32)) hx hb dX0_copyFrom_116 (by decide) ?_
  refine zr_copy (N := 10) X hP hS hnI (zb_bk (j := 8) hB1 (by decide) rfl) (zb_bk (j := 8) hB (by decide) rfl) rfl (Nat.le_of_ble_eq_true rfl) (Nat.le_of_ble_eq_true rfl) (Nat.le_of_ble_eq_true rfl) wk_X0_46 wm_ac1 wm_ac2 wm_ac3 hl.1 (Nat.le_of_ble_eq_true rfl) (Nat.le_of_ble_eq_true rfl) dX0_copyFrom_118 (fun H locs hP hS => ?_)
  refine lv_aload_n hx hb dX0_copyFrom_121 rfl (lv_at hl 1 rfl) ?_
  refine gf_X0_40 X hnI hP (zb_bk (j := 1) hB1 (by decide) rfl) dX0_copyFrom_122 ?_
  refine lv_iconst (v := (0 : Int32)) hx hb dX0_copyFrom_125 (by decide) ?_
  refine lv_aload_n hx hb dX0_copyFrom_126 rfl (lv_at hl 0 rfl) ?_
  refine gf_X0_40 X hnI hP (zb_bk (j := 1) hB (by decide) rfl) dX0_copyFrom_127 ?_
  refine lv_iconst (v := (0 : Int32)) hx hb dX0_copyFrom_130 (by decide) ?_
  refine lv_bipush (v := (10 : Int32)) hx hb dX0_copyFrom_131 (by decide) ?_
  refine zr_copy (N := 10) X hP hS hnI (zb_bk (j := 9) hB1 (by decide) rfl) (zb_bk (j := 9) hB (by decide) rfl) rfl (Nat.le_of_ble_eq_true rfl) (Nat.le_of_ble_eq_true rfl) (Nat.le_of_ble_eq_true rfl) wk_X0_46 wm_ac1 wm_ac2 wm_ac3 hl.1 (Nat.le_of_ble_eq_true rfl) (Nat.le_of_ble_eq_true rfl) dX0_copyFrom_133 (fun H locs hP hS => ?_)
  refine lv_aload_n hx hb dX0_copyFrom_136 rfl (lv_at hl 1 rfl) ?_
  refine gf_X0_43 X hnI hP (zb_bk (j := 1) hB1 (by decide) rfl) dX0_copyFrom_137 ?_
  refine lv_iconst (v := (0 : Int32)) hx hb dX0_copyFrom_140 (by decide) ?_
  refine lv_aload_n hx hb dX0_copyFrom_141 rfl (lv_at hl 0 rfl) ?_
  refine gf_X0_43 X hnI hP (zb_bk (j := 1) hB (by decide) rfl) dX0_copyFrom_142 ?_
  refine lv_iconst (v := (0 : Int32)) hx hb dX0_copyFrom_145 (by decide) ?_
  refine lv_bipush (v := (10 : Int32)) hx hb dX0_copyFrom_146 (by decide) ?_
  refine zr_copy (N := 10) X hP hS hnI (zb_bk (j := 10) hB1 (by decide) rfl) (zb_bk (j := 10) hB (by decide) rfl) rfl (Nat.le_of_ble_eq_true rfl) (Nat.le_of_ble_eq_true rfl) (Nat.le_of_ble_eq_true rfl) wk_X0_46 wm_ac1 wm_ac2 wm_ac3 hl.1 (Nat.le_of_ble_eq_true rfl) (Nat.le_of_ble_eq_true rfl) dX0_copyFrom_148 (fun H locs hP hS => ?_)
  cases hf
  exact zr_vret X hr hP hS rfl dX0_copyFrom_151
set_option maxHeartbeats 4000000 in
set_option maxRecDepth 100000 in
theorem ct_X0_add {g : zb_G} {nc : Nat} (hnI : 306 ≤ nc) (l : Launch) {b : Nat} (hB : zb_isB b) {a1 : Int32} {a2 : Int32} {a3 : Int32} {a4 : Int32} {I J O : Mem} {I9 : Mem} (hf : fX0_add b a1 a2 a3 a4 I = some I9) : zb_Ct l g nc yX0_add cX0_add 5 none 0 0 [.ref (g.2.2 + (b + 1)), .int a1, .int a2, .int a3, .int a4] (zb_ce g I J O) none (zb_ce g I9 J O) := by
  refine zb_ofW (own := RX0) (by decide +kernel) rfl (Nat.le_of_ble_eq_true rfl) ?_
  intro p e s m args below meth c ls X hr hP hl
  have hx := X.1.1
  have hb := X.1.2.1
  have ho := X.1.2.2.2.1
  have hts := X.1.2.2.2.2
  have hZ := X.2.2.2
  have hl : lv_has ls 5 [(0, .ref (g.2.2 + (b + 1))), (1, .int a1), (2, .int a2), (3, .int a3), (4, .int a4)] := hl
  have hS : va_S (zb_A g) s.heap s.heap [] := va_S.rf
  obtain ⟨H, hH⟩ : ∃ H, H = s.heap := ⟨_, rfl⟩
  obtain ⟨locs, hlocs⟩ : ∃ z : List Loc, z = [] := ⟨_, rfl⟩
  rw [← hH] at hP
  have hS : va_S (zb_A g) s.heap H locs := by rw [hH, hlocs]; exact hS
  show W p l e _ s m args below meth c s.heap [] 0 0 _ _
  rw [← hH, ← hlocs]
  rw [fX0_add] at hf
  refine lv_aload_n hx hb dX0_add_0 rfl (lv_at hl 0 rfl) ?_
  refine gf_X0_9 X hnI hP (zb_bk (j := 1) hB (by decide) rfl) dX0_add_1 ?_
  refine lv_bipush (v := (10 : Int32)) hx hb dX0_add_4 (by decide) ?_
  refine lv_icmp_lt (tgt := 10) hx hb dX0_add_6 (by decide) (fun hc => ?_) (fun hc => ?_)
  · have hf := if_t hc hf
    refine lv_aload_n hx hb dX0_add_10 rfl (lv_at hl 0 rfl) ?_
    refine gf_X0_18 X hnI hP (zb_bk (j := 1) hB (by decide) rfl) dX0_add_11 ?_
    refine lv_aload_n hx hb dX0_add_14 rfl (lv_at hl 0 rfl) ?_
    refine gf_X0_9 X hnI hP (zb_bk (j := 1) hB (by decide) rfl) dX0_add_15 ?_
    refine lv_iload_n hx hb dX0_add_18 rfl (lv_at hl 1 rfl) ?_
    obtain ⟨I1, hI1, hf⟩ := ob_e hf
    refine zr_astI X hP hS hnI (zb_bk (j := 2) hB (by decide) rfl) hI1 dX0_add_19 (fun H locs hP hS => ?_)
    refine lv_aload_n hx hb dX0_add_20 rfl (lv_at hl 0 rfl) ?_
    refine gf_X0_22 X hnI hP (zb_bk (j := 1) hB (by decide) rfl) dX0_add_21 ?_
    refine lv_aload_n hx hb dX0_add_24 rfl (lv_at hl 0 rfl) ?_
    refine gf_X0_9 X hnI hP (zb_bk (j := 1) hB (by decide) rfl) dX0_add_25 ?_
    refine lv_iload_n hx hb dX0_add_28 rfl (lv_at hl 2 rfl) ?_
    obtain ⟨I2, hI2, hf⟩ := ob_e hf
    refine zr_astI X hP hS hnI (zb_bk (j := 3) hB (by decide) rfl) hI2 dX0_add_29 (fun H locs hP hS => ?_)
    refine lv_aload_n hx hb dX0_add_30 rfl (lv_at hl 0 rfl) ?_
    refine gf_X0_25 X hnI hP (zb_bk (j := 1) hB (by decide) rfl) dX0_add_31 ?_
    refine lv_aload_n hx hb dX0_add_34 rfl (lv_at hl 0 rfl) ?_
    refine gf_X0_9 X hnI hP (zb_bk (j := 1) hB (by decide) rfl) dX0_add_35 ?_
    refine lv_iload_n hx hb dX0_add_38 rfl (lv_at hl 3 rfl) ?_
    obtain ⟨I3, hI3, hf⟩ := ob_e hf
    refine zr_astI X hP hS hnI (zb_bk (j := 4) hB (by decide) rfl) hI3 dX0_add_39 (fun H locs hP hS => ?_)
    refine lv_aload_n hx hb dX0_add_40 rfl (lv_at hl 0 rfl) ?_
    refine gf_X0_28 X hnI hP (zb_bk (j := 1) hB (by decide) rfl) dX0_add_41 ?_
    refine lv_aload_n hx hb dX0_add_44 rfl (lv_at hl 0 rfl) ?_
    refine gf_X0_9 X hnI hP (zb_bk (j := 1) hB (by decide) rfl) dX0_add_45 ?_
    refine lv_iload hx hb dX0_add_48 (lv_at hl 4 rfl) ?_
    obtain ⟨I4, hI4, hf⟩ := ob_e hf
    refine zr_astI X hP hS hnI (zb_bk (j := 5) hB (by decide) rfl) hI4 dX0_add_50 (fun H locs hP hS => ?_)
    refine lv_aload_n hx hb dX0_add_51 rfl (lv_at hl 0 rfl) ?_
    refine gf_X0_31 X hnI hP (zb_bk (j := 1) hB (by decide) rfl) dX0_add_52 ?_
    refine lv_aload_n hx hb dX0_add_55 rfl (lv_at hl 0 rfl) ?_
    refine gf_X0_9 X hnI hP (zb_bk (j := 1) hB (by decide) rfl) dX0_add_56 ?_
    refine lv_iconst (v := (0 : Int32)) hx hb dX0_add_59 (by decide) ?_
    obtain ⟨I5, hI5, hf⟩ := ob_e hf
    refine zr_astI X hP hS hnI (zb_bk (j := 6) hB (by decide) rfl) hI5 dX0_add_60 (fun H locs hP hS => ?_)
    refine lv_aload_n hx hb dX0_add_61 rfl (lv_at hl 0 rfl) ?_
    refine gf_X0_34 X hnI hP (zb_bk (j := 1) hB (by decide) rfl) dX0_add_62 ?_
    refine lv_aload_n hx hb dX0_add_65 rfl (lv_at hl 0 rfl) ?_
    refine gf_X0_9 X hnI hP (zb_bk (j := 1) hB (by decide) rfl) dX0_add_66 ?_
    refine lv_iconst (v := (0 : Int32)) hx hb dX0_add_69 (by decide) ?_
    obtain ⟨I6, hI6, hf⟩ := ob_e hf
    refine zr_astI X hP hS hnI (zb_bk (j := 7) hB (by decide) rfl) hI6 dX0_add_70 (fun H locs hP hS => ?_)
    refine lv_aload_n hx hb dX0_add_71 rfl (lv_at hl 0 rfl) ?_
    refine gf_X0_37 X hnI hP (zb_bk (j := 1) hB (by decide) rfl) dX0_add_72 ?_
    refine lv_aload_n hx hb dX0_add_75 rfl (lv_at hl 0 rfl) ?_
    refine gf_X0_9 X hnI hP (zb_bk (j := 1) hB (by decide) rfl) dX0_add_76 ?_
    refine lv_iconst (v := (0 : Int32)) hx hb dX0_add_79 (by decide) ?_
    obtain ⟨I7, hI7, hf⟩ := ob_e hf
    refine zr_astI X hP hS hnI (zb_bk (j := 8) hB (by decide) rfl) hI7 dX0_add_80 (fun H locs hP hS => ?_)
    refine lv_aload_n hx hb dX0_add_81 rfl (lv_at hl 0 rfl) ?_
    refine gf_X0_40 X hnI hP (zb_bk (j := 1) hB (by decide) rfl) dX0_add_82 ?_
    refine lv_aload_n hx hb dX0_add_85 rfl (lv_at hl 0 rfl) ?_
    refine gf_X0_9 X hnI hP (zb_bk (j := 1) hB (by decide) rfl) dX0_add_86 ?_
    refine lv_iconst (v := (-1 : Int32)) hx hb dX0_add_89 (by decide) ?_
    obtain ⟨I8, hI8, hf⟩ := ob_e hf
    refine zr_astI X hP hS hnI (zb_bk (j := 9) hB (by decide) rfl) hI8 dX0_add_90 (fun H locs hP hS => ?_)
    refine lv_aload_n hx hb dX0_add_91 rfl (lv_at hl 0 rfl) ?_
    refine gf_X0_43 X hnI hP (zb_bk (j := 1) hB (by decide) rfl) dX0_add_92 ?_
    refine lv_aload_n hx hb dX0_add_95 rfl (lv_at hl 0 rfl) ?_
    refine gf_X0_9 X hnI hP (zb_bk (j := 1) hB (by decide) rfl) dX0_add_96 ?_
    refine lv_iconst (v := (0 : Int32)) hx hb dX0_add_99 (by decide) ?_
    obtain ⟨I9, hI9, hf⟩ := ob_e hf
    refine zr_astI X hP hS hnI (zb_bk (j := 10) hB (by decide) rfl) hI9 dX0_add_100 (fun H locs hP hS => ?_)
    refine lv_aload_n hx hb dX0_add_101 rfl (lv_at hl 0 rfl) ?_
    refine lv_dup hx hb dX0_add_102 rfl ?_
    refine gf_X0_9 X hnI hP (zb_bk (j := 1) hB (by decide) rfl) dX0_add_103 ?_
    refine lv_iconst (v := (1 : Int32)) hx hb dX0_add_106 (by decide) ?_
    refine lv_iadd hx hb dX0_add_107 ?_
    refine pf_X0_9 X hnI hP hS (zb_bk (j := 1) hB (by decide) rfl) dX0_add_108 (fun H locs hP hS => ?_)
    cases hf
    exact zr_vret X hr hP hS rfl dX0_add_111
  · have hf := if_f hc hf
    cases hf
    exact zr_vret X hr hP hS rfl dX0_add_9
set_option maxHeartbeats 4000000 in
set_option maxRecDepth 100000 in
theorem ct_X0_lastHome {g : zb_G} {nc : Nat} (hnI : 306 ≤ nc) (l : Launch) {b : Nat} (hB : zb_isB b) {I J O : Mem} {r9 : Int32} (hf : fX0_lastHome b I = some r9) : zb_Ct l g nc yX0_lastHome cX0_lastHome 1 (some .int) 0 0 [.ref (g.2.2 + (b + 1))] (zb_ce g I J O) (some (.int r9)) (zb_ce g I J O) := by
  refine zb_ofW (own := RX0) (by decide +kernel) rfl (Nat.le_of_ble_eq_true rfl) ?_
  intro p e s m args below meth c ls X hr hP hl
  have hx := X.1.1
  have hb := X.1.2.1
  have ho := X.1.2.2.2.1
  have hts := X.1.2.2.2.2
  have hZ := X.2.2.2
  have hl : lv_has ls 1 [(0, .ref (g.2.2 + (b + 1)))] := hl
  have hS : va_S (zb_A g) s.heap s.heap [] := va_S.rf
  obtain ⟨H, hH⟩ : ∃ H, H = s.heap := ⟨_, rfl⟩
  obtain ⟨locs, hlocs⟩ : ∃ z : List Loc, z = [] := ⟨_, rfl⟩
  rw [← hH] at hP
  have hS : va_S (zb_A g) s.heap H locs := by rw [hH, hlocs]; exact hS
  show W p l e _ s m args below meth c s.heap [] 0 0 _ _
  rw [← hH, ← hlocs]
  rw [fX0_lastHome] at hf
  refine lv_aload_n hx hb dX0_lastHome_0 rfl (lv_at hl 0 rfl) ?_
  refine gf_X0_9 X hnI hP (zb_bk (j := 1) hB (by decide) rfl) dX0_lastHome_1 ?_
  obtain ⟨x2, ht, hf⟩ := ob_e hf
  have K1 : ∀ (H : Heap) (locs : List Loc) (ls : Array Slot), va_P g.1 vwCl (zb_ws g nc (zb_ce g I J O)) H → va_S (zb_A g) s.heap H locs → lv_has ls 1 [] → W p l e { frames := 0, cells := 0, slots := 0, locals := 0 } s m args below meth c H locs 0 0 (MQ below (zb_Po g nc (zb_ce g I J O) (some (.int r9))) args s 0 0 (zb_A g)) (F0 m 22 ls [.int x2]) := by
    intro H locs ls hP hS hl
    cases hf
    exact zr_iret X hr hP hS dX0_lastHome_22
  have hf := ht
  refine lv_if_le (tgt := 21) hx hb dX0_lastHome_4 (by decide) (fun hc => ?_) (fun hc => ?_)
  · have hf := if_t hc hf
    refine lv_iconst (v := (-1 : Int32)) hx hb dX0_lastHome_21 (by decide) ?_
    cases hf
    exact K1 H locs ls hP hS (lv_sub hl [] rfl)
  · have hf := if_f hc hf
    refine lv_aload_n hx hb dX0_lastHome_7 rfl (lv_at hl 0 rfl) ?_
    refine gf_X0_18 X hnI hP (zb_bk (j := 1) hB (by decide) rfl) dX0_lastHome_8 ?_
    refine lv_aload_n hx hb dX0_lastHome_11 rfl (lv_at hl 0 rfl) ?_
    refine gf_X0_9 X hnI hP (zb_bk (j := 1) hB (by decide) rfl) dX0_lastHome_12 ?_
    refine lv_iconst (v := (1 : Int32)) hx hb dX0_lastHome_15 (by decide) ?_
    refine lv_isub hx hb dX0_lastHome_16 ?_
    obtain ⟨x1, hx1, hf⟩ := ob_e hf
    refine zr_aldI X hP hnI (zb_bk (j := 2) hB (by decide) rfl) hx1 dX0_lastHome_17 ?_
    refine lv_goto (tgt := 22) hx hb dX0_lastHome_18 (by decide) ?_
    cases hf
    exact K1 H locs ls hP hS (lv_sub hl [] rfl)
set_option maxHeartbeats 4000000 in
set_option maxRecDepth 100000 in
theorem ct_X0_distanceBehind {g : zb_G} {nc : Nat} (hnI : 306 ≤ nc) (l : Launch) {b : Nat} (hB : zb_isB b) {a1 : Int32} {I J O : Mem} {r9 : Int32} (hf : fX0_distanceBehind b a1 I = some r9) : zb_Ct l g nc yX0_distanceBehind cX0_distanceBehind 2 (some .int) 0 0 [.ref (g.2.2 + (b + 1)), .int a1] (zb_ce g I J O) (some (.int r9)) (zb_ce g I J O) := by
  refine zb_ofW (own := RX0) (by decide +kernel) rfl (Nat.le_of_ble_eq_true rfl) ?_
  intro p e s m args below meth c ls X hr hP hl
  have hx := X.1.1
  have hb := X.1.2.1
  have ho := X.1.2.2.2.1
  have hts := X.1.2.2.2.2
  have hZ := X.2.2.2
  have hl : lv_has ls 2 [(0, .ref (g.2.2 + (b + 1))), (1, .int a1)] := hl
  have hS : va_S (zb_A g) s.heap s.heap [] := va_S.rf
  obtain ⟨H, hH⟩ : ∃ H, H = s.heap := ⟨_, rfl⟩
  obtain ⟨locs, hlocs⟩ : ∃ z : List Loc, z = [] := ⟨_, rfl⟩
  rw [← hH] at hP
  have hS : va_S (zb_A g) s.heap H locs := by rw [hH, hlocs]; exact hS
  show W p l e _ s m args below meth c s.heap [] 0 0 _ _
  rw [← hH, ← hlocs]
  rw [fX0_distanceBehind] at hf
  refine lv_iload_n hx hb dX0_distanceBehind_0 rfl (lv_at hl 1 rfl) ?_
  obtain ⟨x3, ht, hf⟩ := ob_e hf
  have K1 : ∀ (H : Heap) (locs : List Loc) (ls : Array Slot), va_P g.1 vwCl (zb_ws g nc (zb_ce g I J O)) H → va_S (zb_A g) s.heap H locs → lv_has ls 2 [] → W p l e { frames := 0, cells := 0, slots := 0, locals := 0 } s m args below meth c H locs 0 0 (MQ below (zb_Po g nc (zb_ce g I J O) (some (.int r9))) args s 0 0 (zb_A g)) (F0 m 33 ls [.int x3]) := by
    intro H locs ls hP hS hl
    cases hf
    exact zr_iret X hr hP hS dX0_distanceBehind_33
  have hf := ht
  refine lv_if_lt (tgt := 32) hx hb dX0_distanceBehind_1 (by decide) (fun hc => ?_) (fun hc => ?_)
  · have hf := if_t hc hf
    refine lv_iconst (v := (0 : Int32)) hx hb dX0_distanceBehind_32 (by decide) ?_
    cases hf
    exact K1 H locs ls hP hS (lv_sub hl [] rfl)
  · have hf := if_f hc hf
    refine lv_iload_n hx hb dX0_distanceBehind_4 rfl (lv_at hl 1 rfl) ?_
    refine lv_iconst (v := (1 : Int32)) hx hb dX0_distanceBehind_5 (by decide) ?_
    refine lv_iadd hx hb dX0_distanceBehind_6 ?_
    refine lv_aload_n hx hb dX0_distanceBehind_7 rfl (lv_at hl 0 rfl) ?_
    refine gf_X0_9 X hnI hP (zb_bk (j := 1) hB (by decide) rfl) dX0_distanceBehind_8 ?_
    refine lv_icmp_ge (tgt := 32) hx hb dX0_distanceBehind_11 (by decide) (fun hc => ?_) (fun hc => ?_)
    · have hf := if_t hc hf
      refine lv_iconst (v := (0 : Int32)) hx hb dX0_distanceBehind_32 (by decide) ?_
      cases hf
      exact K1 H locs ls hP hS (lv_sub hl [] rfl)
    · have hf := if_f hc hf
      refine lv_aload_n hx hb dX0_distanceBehind_14 rfl (lv_at hl 0 rfl) ?_
      refine gf_X0_18 X hnI hP (zb_bk (j := 1) hB (by decide) rfl) dX0_distanceBehind_15 ?_
      refine lv_iload_n hx hb dX0_distanceBehind_18 rfl (lv_at hl 1 rfl) ?_
      refine lv_iconst (v := (1 : Int32)) hx hb dX0_distanceBehind_19 (by decide) ?_
      refine lv_iadd hx hb dX0_distanceBehind_20 ?_
      obtain ⟨x1, hx1, hf⟩ := ob_e hf
      refine zr_aldI X hP hnI (zb_bk (j := 2) hB (by decide) rfl) hx1 dX0_distanceBehind_21 ?_
      refine lv_aload_n hx hb dX0_distanceBehind_22 rfl (lv_at hl 0 rfl) ?_
      refine gf_X0_18 X hnI hP (zb_bk (j := 1) hB (by decide) rfl) dX0_distanceBehind_23 ?_
      refine lv_iload_n hx hb dX0_distanceBehind_26 rfl (lv_at hl 1 rfl) ?_
      obtain ⟨x2, hx2, hf⟩ := ob_e hf
      refine zr_aldI X hP hnI (zb_bk (j := 2) hB (by decide) rfl) hx2 dX0_distanceBehind_27 ?_
      refine lv_isub hx hb dX0_distanceBehind_28 ?_
      refine lv_goto (tgt := 33) hx hb dX0_distanceBehind_29 (by decide) ?_
      cases hf
      exact K1 H locs ls hP hS (lv_sub hl [] rfl)
set_option maxHeartbeats 4000000 in
set_option maxRecDepth 100000 in
theorem lpX0_membersIn_L4 {g : zb_G} {nc : Nat} (hnI : 306 ≤ nc) (l : Launch) {b : Nat} (hB : zb_isB b) {a1 : Int32} {J O : Mem} {p : Program} {e : Env} {s : State} {m : MethodId} {args : Array Value} {below : List Frame} {meth : Method} {c : Code} {Q : State → Prop} (X : zb_X g p m c cX0_membersIn 4 s args RX0 meth) : ∀ {n9 : Nat} {a3 : Int32} {a2 : Int32} {I : Mem} {z2 : Int32} {H : Heap} {locs : List Loc} {ls : Array Slot}, fX0_membersIn_L4 b a1 n9 a3 a2 I = some z2 → (∀ (H : Heap) (locs : List Loc) (ls : Array Slot), va_P g.1 vwCl (zb_ws g nc (zb_ce g I J O)) H → va_S (zb_A g) s.heap H locs → lv_has ls 4 [(2, .int z2)] → W p l e { frames := 0, cells := 0, slots := 0, locals := 0 } s m args below meth c H locs 0 0 Q (F0 m 34 ls [])) → va_P g.1 vwCl (zb_ws g nc (zb_ce g I J O)) H → va_S (zb_A g) s.heap H locs → lv_has ls 4 [(3, .int a3), (2, .int a2), (0, .ref (g.2.2 + (b + 1))), (1, .int a1)] → W p l e { frames := 0, cells := 0, slots := 0, locals := 0 } s m args below meth c H locs 0 0 Q (F0 m 4 ls []) := by
  have hx := X.1.1
  have hb := X.1.2.1
  have ho := X.1.2.2.2.1
  have hts := X.1.2.2.2.2
  have hZ := X.2.2.2
  intro n9
  induction n9 with
  | zero =>
    intro a3 a2 I z2 H locs ls hf
    exact nomatch hf
  | succ n9 ih =>
    intro a3 a2 I z2 H locs ls hf KK hP hS hl
    rw [fX0_membersIn_L4] at hf
    refine lv_iload_n hx hb dX0_membersIn_4 rfl (lv_at hl 0 rfl) ?_
    refine lv_aload_n hx hb dX0_membersIn_5 rfl (lv_at hl 2 rfl) ?_
    refine gf_X0_9 X hnI hP (zb_bk (j := 1) hB (by decide) rfl) dX0_membersIn_6 ?_
    refine lv_icmp_ge (tgt := 34) hx hb dX0_membersIn_9 (by decide) (fun hc => ?_) (fun hc => ?_)
    · have hf := if_t hc hf
      cases hf
      exact KK H locs ls hP hS (lv_sub hl [1] rfl)
    · have hf := if_f hc hf
      refine lv_aload_n hx hb dX0_membersIn_12 rfl (lv_at hl 2 rfl) ?_
      refine gf_X0_31 X hnI hP (zb_bk (j := 1) hB (by decide) rfl) dX0_membersIn_13 ?_
      refine lv_iload_n hx hb dX0_membersIn_16 rfl (lv_at hl 0 rfl) ?_
      obtain ⟨x1, hx1, hf⟩ := ob_e hf
      refine zr_aldI X hP hnI (zb_bk (j := 6) hB (by decide) rfl) hx1 dX0_membersIn_17 ?_
      refine lv_iload_n hx hb dX0_membersIn_18 rfl (lv_at hl 3 rfl) ?_
      obtain ⟨x2, ht, hf⟩ := pl_e hf
      have K1 : ∀ (H : Heap) (locs : List Loc) (ls : Array Slot), va_P g.1 vwCl (zb_ws g nc (zb_ce g I J O)) H → va_S (zb_A g) s.heap H locs → lv_has ls 4 [(3, .int a3), (2, .int x2), (0, .ref (g.2.2 + (b + 1))), (1, .int a1)] → W p l e { frames := 0, cells := 0, slots := 0, locals := 0 } s m args below meth c H locs 0 0 Q (F0 m 28 ls []) := by
        intro H locs ls hP hS hl
        refine lv_iinc (v := (a3 + (1 : Int32))) (lv' := [(3, .int (a3 + (1 : Int32))), (2, .int x2), (0, .ref (g.2.2 + (b + 1))), (1, .int a1)]) hx hb dX0_membersIn_28 hl (k := 0) rfl rfl (by decide) rfl (fun ls hl => ?_)
        refine lv_goto (tgt := 4) hx hb dX0_membersIn_31 (by decide) ?_
        exact ih hf KK hP hS (lv_sub hl [0, 1, 2, 3] rfl)
      have hf := ht
      refine lv_icmp_ne (tgt := 28) hx hb dX0_membersIn_19 (by decide) (fun hc => ?_) (fun hc => ?_)
      · have hf := if_f hc hf
        cases hf
        exact K1 H locs ls hP hS (lv_sub hl [0, 1, 2, 3] rfl)
      · have hf := if_t hc hf
        refine lv_iload_n hx hb dX0_membersIn_22 rfl (lv_at hl 1 rfl) ?_
        refine lv_iconst (v := (1 : Int32)) hx hb dX0_membersIn_23 (by decide) ?_
        refine lv_iload_n hx hb dX0_membersIn_24 rfl (lv_at hl 0 rfl) ?_
        refine lv_ishl hx hb dX0_membersIn_25 ?_
        refine lv_ior hx hb dX0_membersIn_26 ?_
        refine lv_istore_n (lv' := [(2, .int (a2 ||| ((1 : Int32) <<< (a3 &&& 31)))), (3, .int a3), (0, .ref (g.2.2 + (b + 1))), (1, .int a1)]) hx hb dX0_membersIn_27 rfl hl (by decide) rfl (fun ls hl => ?_)
        cases hf
        exact K1 H locs ls hP hS (lv_sub hl [1, 0, 2, 3] rfl)
set_option maxHeartbeats 4000000 in
set_option maxRecDepth 100000 in
theorem ct_X0_membersIn {g : zb_G} {nc : Nat} (hnI : 306 ≤ nc) (l : Launch) {b : Nat} (hB : zb_isB b) {a1 : Int32} {I J O : Mem} {r9 : Int32} (hf : fX0_membersIn b a1 I = some r9) : zb_Ct l g nc yX0_membersIn cX0_membersIn 4 (some .int) 0 0 [.ref (g.2.2 + (b + 1)), .int a1] (zb_ce g I J O) (some (.int r9)) (zb_ce g I J O) := by
  refine zb_ofW (own := RX0) (by decide +kernel) rfl (Nat.le_of_ble_eq_true rfl) ?_
  intro p e s m args below meth c ls X hr hP hl
  have hx := X.1.1
  have hb := X.1.2.1
  have ho := X.1.2.2.2.1
  have hts := X.1.2.2.2.2
  have hZ := X.2.2.2
  have hl : lv_has ls 4 [(0, .ref (g.2.2 + (b + 1))), (1, .int a1)] := hl
  have hS : va_S (zb_A g) s.heap s.heap [] := va_S.rf
  obtain ⟨H, hH⟩ : ∃ H, H = s.heap := ⟨_, rfl⟩
  obtain ⟨locs, hlocs⟩ : ∃ z : List Loc, z = [] := ⟨_, rfl⟩
  rw [← hH] at hP
  have hS : va_S (zb_A g) s.heap H locs := by rw [hH, hlocs]; exact hS
  show W p l e _ s m args below meth c s.heap [] 0 0 _ _
  rw [← hH, ← hlocs]
  rw [fX0_membersIn] at hf
  refine lv_iconst (v := (0 : Int32)) hx hb dX0_membersIn_0 (by decide) ?_
  refine lv_istore_n (lv' := [(2, .int (0 : Int32)), (0, .ref (g.2.2 + (b + 1))), (1, .int a1)]) hx hb dX0_membersIn_1 rfl hl (by decide) rfl (fun ls hl => ?_)
  refine lv_iconst (v := (0 : Int32)) hx hb dX0_membersIn_2 (by decide) ?_
  refine lv_istore_n (lv' := [(3, .int (0 : Int32)), (2, .int (0 : Int32)), (0, .ref (g.2.2 + (b + 1))), (1, .int a1)]) hx hb dX0_membersIn_3 rfl hl (by decide) rfl (fun ls hl => ?_)
  obtain ⟨x3, hx3, hf⟩ := ob_e hf
  have K2 : ∀ (H : Heap) (locs : List Loc) (ls : Array Slot), va_P g.1 vwCl (zb_ws g nc (zb_ce g I J O)) H → va_S (zb_A g) s.heap H locs → lv_has ls 4 [(2, .int x3)] → W p l e { frames := 0, cells := 0, slots := 0, locals := 0 } s m args below meth c H locs 0 0 (MQ below (zb_Po g nc (zb_ce g I J O) (some (.int r9))) args s 0 0 (zb_A g)) (F0 m 34 ls []) := by
    intro H locs ls hP hS hl
    refine lv_iload_n hx hb dX0_membersIn_34 rfl (lv_at hl 0 rfl) ?_
    cases hf
    exact zr_iret X hr hP hS dX0_membersIn_35
  exact lpX0_membersIn_L4 hnI l hB X hx3 K2 hP hS (lv_sub hl [0, 1, 2, 3] rfl)
set_option maxHeartbeats 4000000 in
set_option maxRecDepth 100000 in
theorem ct_X7_has {g : zb_G} {nc : Nat} (l : Launch) {a0 : Int32} {a1 : Int32} {I J O : Mem} {r9 : Int32} (hf : fX7_has a0 a1 = some r9) : zb_Ct l g nc yX7_has cX7_has 2 (some .boolean) 0 0 [.int a0, .int a1] (zb_ce g I J O) (some (.int r9)) (zb_ce g I J O) := by
  refine zb_ofW (own := RX7) (by decide +kernel) rfl (Nat.le_of_ble_eq_true rfl) ?_
  intro p e s m args below meth c ls X hr hP hl
  have hx := X.1.1
  have hb := X.1.2.1
  have ho := X.1.2.2.2.1
  have hts := X.1.2.2.2.2
  have hZ := X.2.2.2
  have hl : lv_has ls 2 [(0, .int a0), (1, .int a1)] := hl
  have hS : va_S (zb_A g) s.heap s.heap [] := va_S.rf
  obtain ⟨H, hH⟩ : ∃ H, H = s.heap := ⟨_, rfl⟩
  obtain ⟨locs, hlocs⟩ : ∃ z : List Loc, z = [] := ⟨_, rfl⟩
  rw [← hH] at hP
  have hS : va_S (zb_A g) s.heap H locs := by rw [hH, hlocs]; exact hS
  show W p l e _ s m args below meth c s.heap [] 0 0 _ _
  rw [← hH, ← hlocs]
  rw [fX7_has] at hf
  refine lv_iload_n hx hb dX7_has_0 rfl (lv_at hl 0 rfl) ?_
  refine lv_iload_n hx hb dX7_has_1 rfl (lv_at hl 1 rfl) ?_
  refine lv_ishr hx hb dX7_has_2 ?_
  refine lv_iconst (v := (1 : Int32)) hx hb dX7_has_3 (by decide) ?_
  refine lv_iand hx hb dX7_has_4 ?_
  refine lv_iconst (v := (1 : Int32)) hx hb dX7_has_5 (by decide) ?_
  obtain ⟨x1, ht, hf⟩ := pl_e hf
  have K1 : ∀ (H : Heap) (locs : List Loc) (ls : Array Slot), va_P g.1 vwCl (zb_ws g nc (zb_ce g I J O)) H → va_S (zb_A g) s.heap H locs → lv_has ls 2 [] → W p l e { frames := 0, cells := 0, slots := 0, locals := 0 } s m args below meth c H locs 0 0 (MQ below (zb_Po g nc (zb_ce g I J O) (some (.int r9))) args s 0 0 (zb_A g)) (F0 m 14 ls [.int x1]) := by
    intro H locs ls hP hS hl
    obtain ⟨v9, hv9, hf⟩ := ob_e hf
    obtain ⟨hn9, he9⟩ := zbo_e hv9
    cases hf
    cases he9
    exact zr_zret X hr hn9 hP hS dX7_has_14
  have hf := ht
  refine lv_icmp_ne (tgt := 13) hx hb dX7_has_6 (by decide) (fun hc => ?_) (fun hc => ?_)
  · have hf := if_f hc hf
    refine lv_iconst (v := (0 : Int32)) hx hb dX7_has_13 (by decide) ?_
    cases hf
    exact K1 H locs ls hP hS (lv_sub hl [] rfl)
  · have hf := if_t hc hf
    refine lv_iconst (v := (1 : Int32)) hx hb dX7_has_9 (by decide) ?_
    refine lv_goto (tgt := 14) hx hb dX7_has_10 (by decide) ?_
    cases hf
    exact K1 H locs ls hP hS (lv_sub hl [] rfl)
set_option maxHeartbeats 4000000 in
set_option maxRecDepth 100000 in
theorem lpX0_votesOf_L4 {g : zb_G} {nc : Nat} (hnI : 306 ≤ nc) (l : Launch) {b : Nat} (hB : zb_isB b) {a1 : Int32} {J O : Mem} {p : Program} {e : Env} {s : State} {m : MethodId} {args : Array Value} {below : List Frame} {meth : Method} {c : Code} {Q : State → Prop} (X : zb_X g p m c cX0_votesOf 4 s args RX0 meth) : ∀ {n9 : Nat} {a3 : Int32} {a2 : Int32} {I : Mem} {z2 : Int32} {H : Heap} {locs : List Loc} {ls : Array Slot}, fX0_votesOf_L4 b a1 n9 a3 a2 I = some z2 → (∀ (H : Heap) (locs : List Loc) (ls : Array Slot), va_P g.1 vwCl (zb_ws g nc (zb_ce g I J O)) H → va_S (zb_A g) s.heap H locs → lv_has ls 4 [(2, .int z2)] → W p l e { frames := 1, cells := 0, slots := 0, locals := 21 } s m args below meth c H locs 0 0 Q (F0 m 35 ls [])) → va_P g.1 vwCl (zb_ws g nc (zb_ce g I J O)) H → va_S (zb_A g) s.heap H locs → lv_has ls 4 [(3, .int a3), (2, .int a2), (0, .ref (g.2.2 + (b + 1))), (1, .int a1)] → W p l e { frames := 1, cells := 0, slots := 0, locals := 21 } s m args below meth c H locs 0 0 Q (F0 m 4 ls []) := by
  have hx := X.1.1
  have hb := X.1.2.1
  have ho := X.1.2.2.2.1
  have hts := X.1.2.2.2.2
  have hZ := X.2.2.2
  intro n9
  induction n9 with
  | zero =>
    intro a3 a2 I z2 H locs ls hf
    exact nomatch hf
  | succ n9 ih =>
    intro a3 a2 I z2 H locs ls hf KK hP hS hl
    rw [fX0_votesOf_L4] at hf
    refine lv_iload_n hx hb dX0_votesOf_4 rfl (lv_at hl 0 rfl) ?_
    refine lv_aload_n hx hb dX0_votesOf_5 rfl (lv_at hl 2 rfl) ?_
    refine gf_X0_9 X hnI hP (zb_bk (j := 1) hB (by decide) rfl) dX0_votesOf_6 ?_
    refine lv_icmp_ge (tgt := 35) hx hb dX0_votesOf_9 (by decide) (fun hc => ?_) (fun hc => ?_)
    · have hf := if_t hc hf
      cases hf
      exact KK H locs ls hP hS (lv_sub hl [1] rfl)
    · have hf := if_f hc hf
      refine lv_iload_n hx hb dX0_votesOf_12 rfl (lv_at hl 3 rfl) ?_
      refine lv_iload_n hx hb dX0_votesOf_13 rfl (lv_at hl 0 rfl) ?_
      obtain ⟨x1, hx1, hf⟩ := ob_e hf
      refine zr_cSi (rest := []) (As := [.int a1, .int a3]) X hP hS (ct_X7_has (g := g) (nc := nc) (I := I) (J := J) (O := O)  l  hx1) cw_X0_52  rfl hl.1 (Nat.le_of_ble_eq_true rfl) ⟨Nat.le_of_ble_eq_true rfl, Nat.le_of_ble_eq_true rfl⟩ ⟨Nat.le_of_ble_eq_true rfl, Nat.le_of_ble_eq_true rfl⟩ dX0_votesOf_14 rfl (fun H locs hP hS => ?_)
      obtain ⟨x3, ht, hf⟩ := ob_e hf
      have K1 : ∀ (H : Heap) (locs : List Loc) (ls : Array Slot), va_P g.1 vwCl (zb_ws g nc (zb_ce g I J O)) H → va_S (zb_A g) s.heap H locs → lv_has ls 4 [(3, .int a3), (2, .int x3), (0, .ref (g.2.2 + (b + 1))), (1, .int a1)] → W p l e { frames := 1, cells := 0, slots := 0, locals := 21 } s m args below meth c H locs 0 0 Q (F0 m 29 ls []) := by
        intro H locs ls hP hS hl
        refine lv_iinc (v := (a3 + (1 : Int32))) (lv' := [(3, .int (a3 + (1 : Int32))), (2, .int x3), (0, .ref (g.2.2 + (b + 1))), (1, .int a1)]) hx hb dX0_votesOf_29 hl (k := 0) rfl rfl (by decide) rfl (fun ls hl => ?_)
        refine lv_goto (tgt := 4) hx hb dX0_votesOf_32 (by decide) ?_
        exact ih hf KK hP hS (lv_sub hl [0, 1, 2, 3] rfl)
      have hf := ht
      refine lv_if_eq (tgt := 29) hx hb dX0_votesOf_17 (by decide) (fun hc => ?_) (fun hc => ?_)
      · have hf := if_t hc hf
        cases hf
        exact K1 H locs ls hP hS (lv_sub hl [0, 1, 2, 3] rfl)
      · have hf := if_f hc hf
        refine lv_iload_n hx hb dX0_votesOf_20 rfl (lv_at hl 1 rfl) ?_
        refine lv_aload_n hx hb dX0_votesOf_21 rfl (lv_at hl 2 rfl) ?_
        refine gf_X0_22 X hnI hP (zb_bk (j := 1) hB (by decide) rfl) dX0_votesOf_22 ?_
        refine lv_iload_n hx hb dX0_votesOf_25 rfl (lv_at hl 0 rfl) ?_
        obtain ⟨x2, hx2, hf⟩ := ob_e hf
        refine zr_aldI X hP hnI (zb_bk (j := 3) hB (by decide) rfl) hx2 dX0_votesOf_26 ?_
        refine lv_iadd hx hb dX0_votesOf_27 ?_
        refine lv_istore_n (lv' := [(2, .int (a2 + x2)), (3, .int a3), (0, .ref (g.2.2 + (b + 1))), (1, .int a1)]) hx hb dX0_votesOf_28 rfl hl (by decide) rfl (fun ls hl => ?_)
        cases hf
        exact K1 H locs ls hP hS (lv_sub hl [1, 0, 2, 3] rfl)
set_option maxHeartbeats 4000000 in
set_option maxRecDepth 100000 in
theorem ct_X0_votesOf {g : zb_G} {nc : Nat} (hnI : 306 ≤ nc) (l : Launch) {b : Nat} (hB : zb_isB b) {a1 : Int32} {I J O : Mem} {r9 : Int32} (hf : fX0_votesOf b a1 I = some r9) : zb_Ct l g nc yX0_votesOf cX0_votesOf 4 (some .int) 1 21 [.ref (g.2.2 + (b + 1)), .int a1] (zb_ce g I J O) (some (.int r9)) (zb_ce g I J O) := by
  refine zb_ofW (own := RX0) (by decide +kernel) rfl (Nat.le_of_ble_eq_true rfl) ?_
  intro p e s m args below meth c ls X hr hP hl
  have hx := X.1.1
  have hb := X.1.2.1
  have ho := X.1.2.2.2.1
  have hts := X.1.2.2.2.2
  have hZ := X.2.2.2
  have hl : lv_has ls 4 [(0, .ref (g.2.2 + (b + 1))), (1, .int a1)] := hl
  have hS : va_S (zb_A g) s.heap s.heap [] := va_S.rf
  obtain ⟨H, hH⟩ : ∃ H, H = s.heap := ⟨_, rfl⟩
  obtain ⟨locs, hlocs⟩ : ∃ z : List Loc, z = [] := ⟨_, rfl⟩
  rw [← hH] at hP
  have hS : va_S (zb_A g) s.heap H locs := by rw [hH, hlocs]; exact hS
  show W p l e _ s m args below meth c s.heap [] 0 0 _ _
  rw [← hH, ← hlocs]
  rw [fX0_votesOf] at hf
  refine lv_iconst (v := (0 : Int32)) hx hb dX0_votesOf_0 (by decide) ?_
  refine lv_istore_n (lv' := [(2, .int (0 : Int32)), (0, .ref (g.2.2 + (b + 1))), (1, .int a1)]) hx hb dX0_votesOf_1 rfl hl (by decide) rfl (fun ls hl => ?_)
  refine lv_iconst (v := (0 : Int32)) hx hb dX0_votesOf_2 (by decide) ?_
  refine lv_istore_n (lv' := [(3, .int (0 : Int32)), (2, .int (0 : Int32)), (0, .ref (g.2.2 + (b + 1))), (1, .int a1)]) hx hb dX0_votesOf_3 rfl hl (by decide) rfl (fun ls hl => ?_)
  obtain ⟨x4, hx4, hf⟩ := ob_e hf
  have K2 : ∀ (H : Heap) (locs : List Loc) (ls : Array Slot), va_P g.1 vwCl (zb_ws g nc (zb_ce g I J O)) H → va_S (zb_A g) s.heap H locs → lv_has ls 4 [(2, .int x4)] → W p l e { frames := 1, cells := 0, slots := 0, locals := 21 } s m args below meth c H locs 0 0 (MQ below (zb_Po g nc (zb_ce g I J O) (some (.int r9))) args s 0 0 (zb_A g)) (F0 m 35 ls []) := by
    intro H locs ls hP hS hl
    refine lv_iload_n hx hb dX0_votesOf_35 rfl (lv_at hl 0 rfl) ?_
    cases hf
    exact zr_iret X hr hP hS dX0_votesOf_36
  exact lpX0_votesOf_L4 hnI l hB X hx4 K2 hP hS (lv_sub hl [0, 1, 2, 3] rfl)
set_option maxHeartbeats 4000000 in
set_option maxRecDepth 100000 in
theorem lpX0_tellValues_L2 {g : zb_G} {nc : Nat} (hnI : 306 ≤ nc) (l : Launch) {b : Nat} {k1 : Nat} (hB : zb_isB b) (hk1 : zb_IK k1 10 (zb_ln k1)) {a2 : Int32} {J O : Mem} {p : Program} {e : Env} {s : State} {m : MethodId} {args : Array Value} {below : List Frame} {meth : Method} {c : Code} {Q : State → Prop} (X : zb_X g p m c cX0_tellValues 4 s args RX0 meth) : ∀ {n9 : Nat} {a3 : Int32} {I : Mem} {Iz : Mem} {H : Heap} {locs : List Loc} {ls : Array Slot}, fX0_tellValues_L2 b k1 a2 n9 a3 I = some Iz → (∀ (H : Heap) (locs : List Loc) (ls : Array Slot), va_P g.1 vwCl (zb_ws g nc (zb_ce g Iz J O)) H → va_S (zb_A g) s.heap H locs → lv_has ls 4 [] → W p l e { frames := 1, cells := 0, slots := 0, locals := 21 } s m args below meth c H locs 0 0 Q (F0 m 61 ls [])) → va_P g.1 vwCl (zb_ws g nc (zb_ce g I J O)) H → va_S (zb_A g) s.heap H locs → lv_has ls 4 [(3, .int a3), (0, .ref (g.2.2 + (b + 1))), (1, .ref (g.2.2 + k1)), (2, .int a2)] → W p l e { frames := 1, cells := 0, slots := 0, locals := 21 } s m args below meth c H locs 0 0 Q (F0 m 2 ls []) := by
  have hx := X.1.1
  have hb := X.1.2.1
  have ho := X.1.2.2.2.1
  have hts := X.1.2.2.2.2
  have hZ := X.2.2.2
  intro n9
  induction n9 with
  | zero =>
    intro a3 I Iz H locs ls hf
    exact nomatch hf
  | succ n9 ih =>
    intro a3 I Iz H locs ls hf KK hP hS hl
    rw [fX0_tellValues_L2] at hf
    refine lv_iload_n hx hb dX0_tellValues_2 rfl (lv_at hl 0 rfl) ?_
    refine lv_aload_n hx hb dX0_tellValues_3 rfl (lv_at hl 1 rfl) ?_
    refine gf_X0_9 X hnI hP (zb_bk (j := 1) hB (by decide) rfl) dX0_tellValues_4 ?_
    refine lv_icmp_ge (tgt := 61) hx hb dX0_tellValues_7 (by decide) (fun hc => ?_) (fun hc => ?_)
    · have hf := if_t hc hf
      cases hf
      exact KK H locs ls hP hS (lv_sub hl [] rfl)
    · have hf := if_f hc hf
      refine lv_iload_n hx hb dX0_tellValues_10 rfl (lv_at hl 3 rfl) ?_
      obtain ⟨I6, ht, hf⟩ := ob_e hf
      have K1 : ∀ (H : Heap) (locs : List Loc) (ls : Array Slot), va_P g.1 vwCl (zb_ws g nc (zb_ce g I6 J O)) H → va_S (zb_A g) s.heap H locs → lv_has ls 4 [(3, .int a3), (0, .ref (g.2.2 + (b + 1))), (1, .ref (g.2.2 + k1)), (2, .int a2)] → W p l e { frames := 1, cells := 0, slots := 0, locals := 21 } s m args below meth c H locs 0 0 Q (F0 m 55 ls []) := by
        intro H locs ls hP hS hl
        refine lv_iinc (v := (a3 + (1 : Int32))) (lv' := [(3, .int (a3 + (1 : Int32))), (0, .ref (g.2.2 + (b + 1))), (1, .ref (g.2.2 + k1)), (2, .int a2)]) hx hb dX0_tellValues_55 hl (k := 0) rfl rfl (by decide) rfl (fun ls hl => ?_)
        refine lv_goto (tgt := 2) hx hb dX0_tellValues_58 (by decide) ?_
        exact ih hf KK hP hS (lv_sub hl [0, 1, 2, 3] rfl)
      have hf := ht
      refine lv_if_lt (tgt := 55) hx hb dX0_tellValues_11 (by decide) (fun hc => ?_) (fun hc => ?_)
      · have hf := if_t hc hf
        cases hf
        exact K1 H locs ls hP hS (lv_sub hl [0, 1, 2, 3] rfl)
      · have hf := if_f hc hf
        refine lv_iload_n hx hb dX0_tellValues_14 rfl (lv_at hl 3 rfl) ?_
        refine lv_iload_n hx hb dX0_tellValues_15 rfl (lv_at hl 0 rfl) ?_
        refine lv_iadd hx hb dX0_tellValues_16 ?_
        refine lv_aload_n hx hb dX0_tellValues_17 rfl (lv_at hl 2 rfl) ?_
        refine zr_alenI X hP hnI hk1 dX0_tellValues_18 ?_
        refine lv_icmp_ge (tgt := 55) hx hb dX0_tellValues_19 (by decide) (fun hc => ?_) (fun hc => ?_)
        · have hf := if_t hc hf
          cases hf
          exact K1 H locs ls hP hS (lv_sub hl [0, 1, 2, 3] rfl)
        · have hf := if_f hc hf
          refine lv_aload_n hx hb dX0_tellValues_22 rfl (lv_at hl 2 rfl) ?_
          refine lv_iload_n hx hb dX0_tellValues_23 rfl (lv_at hl 3 rfl) ?_
          refine lv_iload_n hx hb dX0_tellValues_24 rfl (lv_at hl 0 rfl) ?_
          refine lv_iadd hx hb dX0_tellValues_25 ?_
          refine lv_aload_n hx hb dX0_tellValues_26 rfl (lv_at hl 1 rfl) ?_
          refine gf_X0_15 X hnI hP (zb_bk (j := 1) hB (by decide) rfl) dX0_tellValues_27 ?_
          refine lv_iload_n hx hb dX0_tellValues_30 rfl (lv_at hl 0 rfl) ?_
          obtain ⟨x1, hx1, hf⟩ := ob_e hf
          refine zr_cSi (rest := [.int (a2 + a3), .ref (g.2.2 + k1)]) (As := [.int (I (b + 1) 1), .int a3]) X hP hS (ct_X7_has (g := g) (nc := nc) (I := I) (J := J) (O := O)  l  hx1) cw_X0_52  rfl hl.1 (Nat.le_of_ble_eq_true rfl) ⟨Nat.le_of_ble_eq_true rfl, Nat.le_of_ble_eq_true rfl⟩ ⟨Nat.le_of_ble_eq_true rfl, Nat.le_of_ble_eq_true rfl⟩ dX0_tellValues_31 rfl (fun H locs hP hS => ?_)
          obtain ⟨x4, ht, hf⟩ := ob_e hf
          have K2 : ∀ (H : Heap) (locs : List Loc) (ls : Array Slot), va_P g.1 vwCl (zb_ws g nc (zb_ce g I J O)) H → va_S (zb_A g) s.heap H locs → lv_has ls 4 [(3, .int a3), (0, .ref (g.2.2 + (b + 1))), (1, .ref (g.2.2 + k1)), (2, .int a2)] → W p l e { frames := 1, cells := 0, slots := 0, locals := 21 } s m args below meth c H locs 0 0 Q (F0 m 54 ls [.int x4, .int (a2 + a3), .ref (g.2.2 + k1)]) := by
            intro H locs ls hP hS hl
            obtain ⟨I5, hI5, hf⟩ := ob_e hf
            refine zr_astI X hP hS hnI hk1 hI5 dX0_tellValues_54 (fun H locs hP hS => ?_)
            cases hf
            exact K1 H locs ls hP hS (lv_sub hl [0, 1, 2, 3] rfl)
          have hf := ht
          refine lv_if_eq (tgt := 53) hx hb dX0_tellValues_34 (by decide) (fun hc => ?_) (fun hc => ?_)
          · have hf := if_t hc hf
            refine lv_iconst (v := (0 : Int32)) hx hb dX0_tellValues_53 (by decide) ?_
            cases hf
            exact K2 H locs ls hP hS (lv_sub hl [0, 1, 2, 3] rfl)
          · have hf := if_f hc hf
            refine lv_aload_n hx hb dX0_tellValues_37 rfl (lv_at hl 1 rfl) ?_
            refine gf_X0_43 X hnI hP (zb_bk (j := 1) hB (by decide) rfl) dX0_tellValues_38 ?_
            refine lv_iload_n hx hb dX0_tellValues_41 rfl (lv_at hl 0 rfl) ?_
            obtain ⟨x2, hx2, hf⟩ := ob_e hf
            refine zr_aldI X hP hnI (zb_bk (j := 10) hB (by decide) rfl) hx2 dX0_tellValues_42 ?_
            refine lv_aload_n hx hb dX0_tellValues_43 rfl (lv_at hl 1 rfl) ?_
            refine gf_X0_28 X hnI hP (zb_bk (j := 1) hB (by decide) rfl) dX0_tellValues_44 ?_
            refine lv_iload_n hx hb dX0_tellValues_47 rfl (lv_at hl 0 rfl) ?_
            obtain ⟨x3, hx3, hf⟩ := ob_e hf
            refine zr_aldI X hP hnI (zb_bk (j := 5) hB (by decide) rfl) hx3 dX0_tellValues_48 ?_
            refine lv_isub hx hb dX0_tellValues_49 ?_
            refine lv_goto (tgt := 54) hx hb dX0_tellValues_50 (by decide) ?_
            cases hf
            exact K2 H locs ls hP hS (lv_sub hl [0, 1, 2, 3] rfl)
set_option maxHeartbeats 4000000 in
set_option maxRecDepth 100000 in
theorem ct_X0_tellValues {g : zb_G} {nc : Nat} (hnI : 306 ≤ nc) (l : Launch) {b : Nat} {k1 : Nat} (hB : zb_isB b) (hk1 : zb_IK k1 10 (zb_ln k1)) {a2 : Int32} {I J O : Mem} {I9 : Mem} (hf : fX0_tellValues b k1 a2 I = some I9) : zb_Ct l g nc yX0_tellValues cX0_tellValues 4 none 1 21 [.ref (g.2.2 + (b + 1)), .ref (g.2.2 + k1), .int a2] (zb_ce g I J O) none (zb_ce g I9 J O) := by
  refine zb_ofW (own := RX0) (by decide +kernel) rfl (Nat.le_of_ble_eq_true rfl) ?_
  intro p e s m args below meth c ls X hr hP hl
  have hx := X.1.1
  have hb := X.1.2.1
  have ho := X.1.2.2.2.1
  have hts := X.1.2.2.2.2
  have hZ := X.2.2.2
  have hl : lv_has ls 4 [(0, .ref (g.2.2 + (b + 1))), (1, .ref (g.2.2 + k1)), (2, .int a2)] := hl
  have hS : va_S (zb_A g) s.heap s.heap [] := va_S.rf
  obtain ⟨H, hH⟩ : ∃ H, H = s.heap := ⟨_, rfl⟩
  obtain ⟨locs, hlocs⟩ : ∃ z : List Loc, z = [] := ⟨_, rfl⟩
  rw [← hH] at hP
  have hS : va_S (zb_A g) s.heap H locs := by rw [hH, hlocs]; exact hS
  show W p l e _ s m args below meth c s.heap [] 0 0 _ _
  rw [← hH, ← hlocs]
  rw [fX0_tellValues] at hf
  refine lv_iconst (v := (0 : Int32)) hx hb dX0_tellValues_0 (by decide) ?_
  refine lv_istore_n (lv' := [(3, .int (0 : Int32)), (0, .ref (g.2.2 + (b + 1))), (1, .ref (g.2.2 + k1)), (2, .int a2)]) hx hb dX0_tellValues_1 rfl hl (by decide) rfl (fun ls hl => ?_)
  obtain ⟨I7, hI7, hf⟩ := ob_e hf
  have K3 : ∀ (H : Heap) (locs : List Loc) (ls : Array Slot), va_P g.1 vwCl (zb_ws g nc (zb_ce g I7 J O)) H → va_S (zb_A g) s.heap H locs → lv_has ls 4 [] → W p l e { frames := 1, cells := 0, slots := 0, locals := 21 } s m args below meth c H locs 0 0 (MQ below (zb_Po g nc (zb_ce g I9 J O) none) args s 0 0 (zb_A g)) (F0 m 61 ls []) := by
    intro H locs ls hP hS hl
    cases hf
    exact zr_vret X hr hP hS rfl dX0_tellValues_61
  exact lpX0_tellValues_L2 hnI l hB hk1 X hI7 K3 hP hS (lv_sub hl [0, 1, 2, 3] rfl)
set_option maxHeartbeats 4000000 in
set_option maxRecDepth 100000 in
theorem lpX0_forgetReports_L7 {g : zb_G} {nc : Nat} (hnI : 306 ≤ nc) (l : Launch) {b : Nat} (hB : zb_isB b) {J O : Mem} {p : Program} {e : Env} {s : State} {m : MethodId} {args : Array Value} {below : List Frame} {meth : Method} {c : Code} {Q : State → Prop} (X : zb_X g p m c cX0_forgetReports 2 s args RX0 meth) : ∀ {n9 : Nat} {a1 : Int32} {I : Mem} {Iz : Mem} {H : Heap} {locs : List Loc} {ls : Array Slot}, fX0_forgetReports_L7 b n9 a1 I = some Iz → (∀ (H : Heap) (locs : List Loc) (ls : Array Slot), va_P g.1 vwCl (zb_ws g nc (zb_ce g Iz J O)) H → va_S (zb_A g) s.heap H locs → lv_has ls 2 [] → W p l e { frames := 0, cells := 0, slots := 0, locals := 0 } s m args below meth c H locs 0 0 Q (F0 m 26 ls [])) → va_P g.1 vwCl (zb_ws g nc (zb_ce g I J O)) H → va_S (zb_A g) s.heap H locs → lv_has ls 2 [(1, .int a1), (0, .ref (g.2.2 + (b + 1)))] → W p l e { frames := 0, cells := 0, slots := 0, locals := 0 } s m args below meth c H locs 0 0 Q (F0 m 7 ls []) := by
  have hx := X.1.1
  have hb := X.1.2.1
  have ho := X.1.2.2.2.1
  have hts := X.1.2.2.2.2
  have hZ := X.2.2.2
  intro n9
  induction n9 with
  | zero =>
    intro a1 I Iz H locs ls hf
    exact nomatch hf
  | succ n9 ih =>
    intro a1 I Iz H locs ls hf KK hP hS hl
    rw [fX0_forgetReports_L7] at hf
    refine lv_iload_n hx hb dX0_forgetReports_7 rfl (lv_at hl 0 rfl) ?_
    refine lv_bipush (v := (10 : Int32)) hx hb dX0_forgetReports_8 (by decide) ?_
    refine lv_icmp_ge (tgt := 26) hx hb dX0_forgetReports_10 (by decide) (fun hc => ?_) (fun hc => ?_)
    · have hf := if_t hc hf
      cases hf
      exact KK H locs ls hP hS (lv_sub hl [] rfl)
    · have hf := if_f hc hf
      refine lv_aload_n hx hb dX0_forgetReports_13 rfl (lv_at hl 1 rfl) ?_
      refine gf_X0_43 X hnI hP (zb_bk (j := 1) hB (by decide) rfl) dX0_forgetReports_14 ?_
      refine lv_iload_n hx hb dX0_forgetReports_17 rfl (lv_at hl 0 rfl) ?_
      refine lv_iconst (v := (0 : Int32)) hx hb dX0_forgetReports_18 (by decide) ?_
      obtain ⟨I1, hI1, hf⟩ := ob_e hf
      refine zr_astI X hP hS hnI (zb_bk (j := 10) hB (by decide) rfl) hI1 dX0_forgetReports_19 (fun H locs hP hS => ?_)
      refine lv_iinc (v := (a1 + (1 : Int32))) (lv' := [(1, .int (a1 + (1 : Int32))), (0, .ref (g.2.2 + (b + 1)))]) hx hb dX0_forgetReports_20 hl (k := 0) rfl rfl (by decide) rfl (fun ls hl => ?_)
      refine lv_goto (tgt := 7) hx hb dX0_forgetReports_23 (by decide) ?_
      exact ih hf KK hP hS (lv_sub hl [0, 1] rfl)
set_option maxHeartbeats 4000000 in
set_option maxRecDepth 100000 in
theorem ct_X0_forgetReports {g : zb_G} {nc : Nat} (hnI : 306 ≤ nc) (l : Launch) {b : Nat} (hB : zb_isB b) {I J O : Mem} {I9 : Mem} (hf : fX0_forgetReports b I = some I9) : zb_Ct l g nc yX0_forgetReports cX0_forgetReports 2 none 0 0 [.ref (g.2.2 + (b + 1))] (zb_ce g I J O) none (zb_ce g I9 J O) := by
  refine zb_ofW (own := RX0) (by decide +kernel) rfl (Nat.le_of_ble_eq_true rfl) ?_
  intro p e s m args below meth c ls X hr hP hl
  have hx := X.1.1
  have hb := X.1.2.1
  have ho := X.1.2.2.2.1
  have hts := X.1.2.2.2.2
  have hZ := X.2.2.2
  have hl : lv_has ls 2 [(0, .ref (g.2.2 + (b + 1)))] := hl
  have hS : va_S (zb_A g) s.heap s.heap [] := va_S.rf
  obtain ⟨H, hH⟩ : ∃ H, H = s.heap := ⟨_, rfl⟩
  obtain ⟨locs, hlocs⟩ : ∃ z : List Loc, z = [] := ⟨_, rfl⟩
  rw [← hH] at hP
  have hS : va_S (zb_A g) s.heap H locs := by rw [hH, hlocs]; exact hS
  show W p l e _ s m args below meth c s.heap [] 0 0 _ _
  rw [← hH, ← hlocs]
  rw [fX0_forgetReports] at hf
  refine lv_aload_n hx hb dX0_forgetReports_0 rfl (lv_at hl 0 rfl) ?_
  refine lv_iconst (v := (0 : Int32)) hx hb dX0_forgetReports_1 (by decide) ?_
  refine pf_X0_15 X hnI hP hS (zb_bk (j := 1) hB (by decide) rfl) dX0_forgetReports_2 (fun H locs hP hS => ?_)
  refine lv_iconst (v := (0 : Int32)) hx hb dX0_forgetReports_5 (by decide) ?_
  refine lv_istore_n (lv' := [(1, .int (0 : Int32)), (0, .ref (g.2.2 + (b + 1)))]) hx hb dX0_forgetReports_6 rfl hl (by decide) rfl (fun ls hl => ?_)
  obtain ⟨I2, hI2, hf⟩ := ob_e hf
  have K1 : ∀ (H : Heap) (locs : List Loc) (ls : Array Slot), va_P g.1 vwCl (zb_ws g nc (zb_ce g I2 J O)) H → va_S (zb_A g) s.heap H locs → lv_has ls 2 [] → W p l e { frames := 0, cells := 0, slots := 0, locals := 0 } s m args below meth c H locs 0 0 (MQ below (zb_Po g nc (zb_ce g I9 J O) none) args s 0 0 (zb_A g)) (F0 m 26 ls []) := by
    intro H locs ls hP hS hl
    cases hf
    exact zr_vret X hr hP hS rfl dX0_forgetReports_26
  exact lpX0_forgetReports_L7 hnI l hB X hI2 K1 hP hS (lv_sub hl [0, 1] rfl)
set_option maxHeartbeats 4000000 in
set_option maxRecDepth 100000 in
theorem ct_X0_putUnderSuspicion {g : zb_G} {nc : Nat} (hnI : 306 ≤ nc) (l : Launch) {b : Nat} (hB : zb_isB b) {a1 : Int32} {I J O : Mem} {I9 : Mem} (hf : fX0_putUnderSuspicion b a1 I = some I9) : zb_Ct l g nc yX0_putUnderSuspicion cX0_putUnderSuspicion 2 none 0 0 [.ref (g.2.2 + (b + 1)), .int a1] (zb_ce g I J O) none (zb_ce g I9 J O) := by
  refine zb_ofW (own := RX0) (by decide +kernel) rfl (Nat.le_of_ble_eq_true rfl) ?_
  intro p e s m args below meth c ls X hr hP hl
  have hx := X.1.1
  have hb := X.1.2.1
  have ho := X.1.2.2.2.1
  have hts := X.1.2.2.2.2
  have hZ := X.2.2.2
  have hl : lv_has ls 2 [(0, .ref (g.2.2 + (b + 1))), (1, .int a1)] := hl
  have hS : va_S (zb_A g) s.heap s.heap [] := va_S.rf
  obtain ⟨H, hH⟩ : ∃ H, H = s.heap := ⟨_, rfl⟩
  obtain ⟨locs, hlocs⟩ : ∃ z : List Loc, z = [] := ⟨_, rfl⟩
  rw [← hH] at hP
  have hS : va_S (zb_A g) s.heap H locs := by rw [hH, hlocs]; exact hS
  show W p l e _ s m args below meth c s.heap [] 0 0 _ _
  rw [← hH, ← hlocs]
  rw [fX0_putUnderSuspicion] at hf
  refine lv_iload_n hx hb dX0_putUnderSuspicion_0 rfl (lv_at hl 1 rfl) ?_
  refine lv_if_lt (tgt := 12) hx hb dX0_putUnderSuspicion_1 (by decide) (fun hc => ?_) (fun hc => ?_)
  · have hf := if_t hc hf
    cases hf
    exact zr_vret X hr hP hS rfl dX0_putUnderSuspicion_12
  · have hf := if_f hc hf
    refine lv_iload_n hx hb dX0_putUnderSuspicion_4 rfl (lv_at hl 1 rfl) ?_
    refine lv_aload_n hx hb dX0_putUnderSuspicion_5 rfl (lv_at hl 0 rfl) ?_
    refine gf_X0_9 X hnI hP (zb_bk (j := 1) hB (by decide) rfl) dX0_putUnderSuspicion_6 ?_
    refine lv_icmp_lt (tgt := 13) hx hb dX0_putUnderSuspicion_9 (by decide) (fun hc => ?_) (fun hc => ?_)
    · have hf := if_t hc hf
      refine lv_aload_n hx hb dX0_putUnderSuspicion_13 rfl (lv_at hl 0 rfl) ?_
      refine gf_X0_31 X hnI hP (zb_bk (j := 1) hB (by decide) rfl) dX0_putUnderSuspicion_14 ?_
      refine lv_iload_n hx hb dX0_putUnderSuspicion_17 rfl (lv_at hl 1 rfl) ?_
      refine lv_iconst (v := (1 : Int32)) hx hb dX0_putUnderSuspicion_18 (by decide) ?_
      obtain ⟨I1, hI1, hf⟩ := ob_e hf
      refine zr_astI X hP hS hnI (zb_bk (j := 6) hB (by decide) rfl) hI1 dX0_putUnderSuspicion_19 (fun H locs hP hS => ?_)
      refine lv_aload_n hx hb dX0_putUnderSuspicion_20 rfl (lv_at hl 0 rfl) ?_
      refine gf_X0_34 X hnI hP (zb_bk (j := 1) hB (by decide) rfl) dX0_putUnderSuspicion_21 ?_
      refine lv_iload_n hx hb dX0_putUnderSuspicion_24 rfl (lv_at hl 1 rfl) ?_
      refine lv_iconst (v := (0 : Int32)) hx hb dX0_putUnderSuspicion_25 (by decide) ?_
      obtain ⟨I2, hI2, hf⟩ := ob_e hf
      refine zr_astI X hP hS hnI (zb_bk (j := 7) hB (by decide) rfl) hI2 dX0_putUnderSuspicion_26 (fun H locs hP hS => ?_)
      refine lv_aload_n hx hb dX0_putUnderSuspicion_27 rfl (lv_at hl 0 rfl) ?_
      refine gf_X0_37 X hnI hP (zb_bk (j := 1) hB (by decide) rfl) dX0_putUnderSuspicion_28 ?_
      refine lv_iload_n hx hb dX0_putUnderSuspicion_31 rfl (lv_at hl 1 rfl) ?_
      refine lv_iconst (v := (0 : Int32)) hx hb dX0_putUnderSuspicion_32 (by decide) ?_
      obtain ⟨I3, hI3, hf⟩ := ob_e hf
      refine zr_astI X hP hS hnI (zb_bk (j := 8) hB (by decide) rfl) hI3 dX0_putUnderSuspicion_33 (fun H locs hP hS => ?_)
      refine lv_aload_n hx hb dX0_putUnderSuspicion_34 rfl (lv_at hl 0 rfl) ?_
      refine gf_X0_40 X hnI hP (zb_bk (j := 1) hB (by decide) rfl) dX0_putUnderSuspicion_35 ?_
      refine lv_iload_n hx hb dX0_putUnderSuspicion_38 rfl (lv_at hl 1 rfl) ?_
      refine lv_iconst (v := (-1 : Int32)) hx hb dX0_putUnderSuspicion_39 (by decide) ?_
      obtain ⟨I4, hI4, hf⟩ := ob_e hf
      refine zr_astI X hP hS hnI (zb_bk (j := 9) hB (by decide) rfl) hI4 dX0_putUnderSuspicion_40 (fun H locs hP hS => ?_)
      cases hf
      exact zr_vret X hr hP hS rfl dX0_putUnderSuspicion_41
    · have hf := if_f hc hf
      cases hf
      exact zr_vret X hr hP hS rfl dX0_putUnderSuspicion_12
set_option maxHeartbeats 4000000 in
set_option maxRecDepth 100000 in
theorem ct_J9_floorMod_7cf53 {g : zb_G} {nc : Nat} (l : Launch) {a0 : Int32} {a1 : Int32} {I J O : Mem} {r9 : Int32} (hf : fJ9_floorMod_7cf53 a0 a1 = some r9) : zb_Ct l g nc yJ9_floorMod_7cf53 cJ9_floorMod_7cf53 3 (some .int) 0 0 [.int a0, .int a1] (zb_ce g I J O) (some (.int r9)) (zb_ce g I J O) := by
  refine zb_ofW (own := RJ9) (by decide +kernel) rfl (Nat.le_of_ble_eq_true rfl) ?_
  intro p e s m args below meth c ls X hr hP hl
  have hx := X.1.1
  have hb := X.1.2.1
  have ho := X.1.2.2.2.1
  have hts := X.1.2.2.2.2
  have hZ := X.2.2.2
  have hl : lv_has ls 3 [(0, .int a0), (1, .int a1)] := hl
  have hS : va_S (zb_A g) s.heap s.heap [] := va_S.rf
  obtain ⟨H, hH⟩ : ∃ H, H = s.heap := ⟨_, rfl⟩
  obtain ⟨locs, hlocs⟩ : ∃ z : List Loc, z = [] := ⟨_, rfl⟩
  rw [← hH] at hP
  have hS : va_S (zb_A g) s.heap H locs := by rw [hH, hlocs]; exact hS
  show W p l e _ s m args below meth c s.heap [] 0 0 _ _
  rw [← hH, ← hlocs]
  rw [fJ9_floorMod_7cf53] at hf
  refine lv_iload_n hx hb dJ9_floorMod_7cf53_0 rfl (lv_at hl 0 rfl) ?_
  refine lv_iload_n hx hb dJ9_floorMod_7cf53_1 rfl (lv_at hl 1 rfl) ?_
  obtain ⟨x1, hx1, hf⟩ := ob_e hf
  refine zr_irem X hx1 dJ9_floorMod_7cf53_2 ?_
  refine lv_istore_n (lv' := [(2, .int x1), (0, .int a0), (1, .int a1)]) hx hb dJ9_floorMod_7cf53_3 rfl hl (by decide) rfl (fun ls hl => ?_)
  refine lv_iload_n hx hb dJ9_floorMod_7cf53_4 rfl (lv_at hl 1 rfl) ?_
  refine lv_iload_n hx hb dJ9_floorMod_7cf53_5 rfl (lv_at hl 2 rfl) ?_
  refine lv_ixor hx hb dJ9_floorMod_7cf53_6 ?_
  refine lv_if_ge (tgt := 18) hx hb dJ9_floorMod_7cf53_7 (by decide) (fun hc => ?_) (fun hc => ?_)
  · have hf := if_t hc hf
    refine lv_iload_n hx hb dJ9_floorMod_7cf53_18 rfl (lv_at hl 0 rfl) ?_
    cases hf
    exact zr_iret X hr hP hS dJ9_floorMod_7cf53_19
  · have hf := if_f hc hf
    refine lv_iload_n hx hb dJ9_floorMod_7cf53_10 rfl (lv_at hl 0 rfl) ?_
    refine lv_if_eq (tgt := 18) hx hb dJ9_floorMod_7cf53_11 (by decide) (fun hc => ?_) (fun hc => ?_)
    · have hf := if_t hc hf
      refine lv_iload_n hx hb dJ9_floorMod_7cf53_18 rfl (lv_at hl 0 rfl) ?_
      cases hf
      exact zr_iret X hr hP hS dJ9_floorMod_7cf53_19
    · have hf := if_f hc hf
      refine lv_iload_n hx hb dJ9_floorMod_7cf53_14 rfl (lv_at hl 0 rfl) ?_
      refine lv_iload_n hx hb dJ9_floorMod_7cf53_15 rfl (lv_at hl 2 rfl) ?_
      refine lv_iadd hx hb dJ9_floorMod_7cf53_16 ?_
      cases hf
      exact zr_iret X hr hP hS dJ9_floorMod_7cf53_17
set_option maxHeartbeats 4000000 in
set_option maxRecDepth 100000 in
theorem ct_J9_floorDiv_7cf53 {g : zb_G} {nc : Nat} (l : Launch) {a0 : Int32} {a1 : Int32} {I J O : Mem} {r9 : Int32} (hf : fJ9_floorDiv_7cf53 a0 a1 = some r9) : zb_Ct l g nc yJ9_floorDiv_7cf53 cJ9_floorDiv_7cf53 3 (some .int) 0 0 [.int a0, .int a1] (zb_ce g I J O) (some (.int r9)) (zb_ce g I J O) := by
  refine zb_ofW (own := RJ9) (by decide +kernel) rfl (Nat.le_of_ble_eq_true rfl) ?_
  intro p e s m args below meth c ls X hr hP hl
  have hx := X.1.1
  have hb := X.1.2.1
  have ho := X.1.2.2.2.1
  have hts := X.1.2.2.2.2
  have hZ := X.2.2.2
  have hl : lv_has ls 3 [(0, .int a0), (1, .int a1)] := hl
  have hS : va_S (zb_A g) s.heap s.heap [] := va_S.rf
  obtain ⟨H, hH⟩ : ∃ H, H = s.heap := ⟨_, rfl⟩
  obtain ⟨locs, hlocs⟩ : ∃ z : List Loc, z = [] := ⟨_, rfl⟩
  rw [← hH] at hP
  have hS : va_S (zb_A g) s.heap H locs := by rw [hH, hlocs]; exact hS
  show W p l e _ s m args below meth c s.heap [] 0 0 _ _
  rw [← hH, ← hlocs]
  rw [fJ9_floorDiv_7cf53] at hf
  refine lv_iload_n hx hb dJ9_floorDiv_7cf53_0 rfl (lv_at hl 0 rfl) ?_
  refine lv_iload_n hx hb dJ9_floorDiv_7cf53_1 rfl (lv_at hl 1 rfl) ?_
  obtain ⟨x1, hx1, hf⟩ := ob_e hf
  refine zr_idiv X hx1 dJ9_floorDiv_7cf53_2 ?_
  refine lv_istore_n (lv' := [(2, .int x1), (0, .int a0), (1, .int a1)]) hx hb dJ9_floorDiv_7cf53_3 rfl hl (by decide) rfl (fun ls hl => ?_)
  refine lv_iload_n hx hb dJ9_floorDiv_7cf53_4 rfl (lv_at hl 1 rfl) ?_
  refine lv_iload_n hx hb dJ9_floorDiv_7cf53_5 rfl (lv_at hl 2 rfl) ?_
  refine lv_ixor hx hb dJ9_floorDiv_7cf53_6 ?_
  refine lv_if_ge (tgt := 21) hx hb dJ9_floorDiv_7cf53_7 (by decide) (fun hc => ?_) (fun hc => ?_)
  · have hf := if_t hc hf
    refine lv_iload_n hx hb dJ9_floorDiv_7cf53_21 rfl (lv_at hl 0 rfl) ?_
    cases hf
    exact zr_iret X hr hP hS dJ9_floorDiv_7cf53_22
  · have hf := if_f hc hf
    refine lv_iload_n hx hb dJ9_floorDiv_7cf53_10 rfl (lv_at hl 0 rfl) ?_
    refine lv_iload_n hx hb dJ9_floorDiv_7cf53_11 rfl (lv_at hl 2 rfl) ?_
    refine lv_imul hx hb dJ9_floorDiv_7cf53_12 ?_
    refine lv_iload_n hx hb dJ9_floorDiv_7cf53_13 rfl (lv_at hl 1 rfl) ?_
    refine lv_icmp_eq (tgt := 21) hx hb dJ9_floorDiv_7cf53_14 (by decide) (fun hc => ?_) (fun hc => ?_)
    · have hf := if_t hc hf
      refine lv_iload_n hx hb dJ9_floorDiv_7cf53_21 rfl (lv_at hl 0 rfl) ?_
      cases hf
      exact zr_iret X hr hP hS dJ9_floorDiv_7cf53_22
    · have hf := if_f hc hf
      refine lv_iload_n hx hb dJ9_floorDiv_7cf53_17 rfl (lv_at hl 0 rfl) ?_
      refine lv_iconst (v := (1 : Int32)) hx hb dJ9_floorDiv_7cf53_18 (by decide) ?_
      refine lv_isub hx hb dJ9_floorDiv_7cf53_19 ?_
      cases hf
      exact zr_iret X hr hP hS dJ9_floorDiv_7cf53_20
set_option maxHeartbeats 4000000 in
set_option maxRecDepth 100000 in
theorem ct_J6_bitCount_0f7a4 {g : zb_G} {nc : Nat} (l : Launch) {a0 : Int32} {I J O : Mem} {r9 : Int32} (hf : fJ6_bitCount_0f7a4 a0 = some r9) : zb_Ct l g nc yJ6_bitCount_0f7a4 cJ6_bitCount_0f7a4 1 (some .int) 0 0 [.int a0] (zb_ce g I J O) (some (.int r9)) (zb_ce g I J O) := by
  refine zb_ofW (own := RJ6) (by decide +kernel) rfl (Nat.le_of_ble_eq_true rfl) ?_
  intro p e s m args below meth c ls X hr hP hl
  have hx := X.1.1
  have hb := X.1.2.1
  have ho := X.1.2.2.2.1
  have hts := X.1.2.2.2.2
  have hZ := X.2.2.2
  have hl : lv_has ls 1 [(0, .int a0)] := hl
  have hS : va_S (zb_A g) s.heap s.heap [] := va_S.rf
  obtain ⟨H, hH⟩ : ∃ H, H = s.heap := ⟨_, rfl⟩
  obtain ⟨locs, hlocs⟩ : ∃ z : List Loc, z = [] := ⟨_, rfl⟩
  rw [← hH] at hP
  have hS : va_S (zb_A g) s.heap H locs := by rw [hH, hlocs]; exact hS
  show W p l e _ s m args below meth c s.heap [] 0 0 _ _
  rw [← hH, ← hlocs]
  rw [fJ6_bitCount_0f7a4] at hf
  refine lv_iload_n hx hb dJ6_bitCount_0f7a4_0 rfl (lv_at hl 0 rfl) ?_
  refine lv_iload_n hx hb dJ6_bitCount_0f7a4_1 rfl (lv_at hl 0 rfl) ?_
  refine lv_iconst (v := (1 : Int32)) hx hb dJ6_bitCount_0f7a4_2 (by decide) ?_
  refine lv_iushr (v := (a0.toUInt32 >>> ((1 : Int32).toUInt32 &&& Int32.toUInt32 31)).toInt32) hx hb dJ6_bitCount_0f7a4_3 rfl ?_
  refine lv_ldcw (v := (1431655765 : Int32)) hx hb ho (hts _ wk_J6_265) dJ6_bitCount_0f7a4_4 ?_
  refine lv_iand hx hb dJ6_bitCount_0f7a4_7 ?_
  refine lv_isub hx hb dJ6_bitCount_0f7a4_8 ?_
  refine lv_istore_n (lv' := [(0, .int (a0 - ((a0.toUInt32 >>> ((1 : Int32).toUInt32 &&& Int32.toUInt32 31)).toInt32 &&& (1431655765 : Int32))))]) hx hb dJ6_bitCount_0f7a4_9 rfl hl (by decide) rfl (fun ls hl => ?_)
  refine lv_iload_n hx hb dJ6_bitCount_0f7a4_10 rfl (lv_at hl 0 rfl) ?_
  refine lv_ldcw (v := (858993459 : Int32)) hx hb ho (hts _ wk_J6_266) dJ6_bitCount_0f7a4_11 ?_
  refine lv_iand hx hb dJ6_bitCount_0f7a4_14 ?_
  refine lv_iload_n hx hb dJ6_bitCount_0f7a4_15 rfl (lv_at hl 0 rfl) ?_
  refine lv_iconst (v := (2 : Int32)) hx hb dJ6_bitCount_0f7a4_16 (by decide) ?_
  refine lv_iushr (v := ((a0 - ((a0.toUInt32 >>> ((1 : Int32).toUInt32 &&& Int32.toUInt32 31)).toInt32 &&& (1431655765 : Int32))).toUInt32 >>> ((2 : Int32).toUInt32 &&& Int32.toUInt32 31)).toInt32) hx hb dJ6_bitCount_0f7a4_17 rfl ?_
  refine lv_ldcw (v := (858993459 : Int32)) hx hb ho (hts _ wk_J6_266) dJ6_bitCount_0f7a4_18 ?_
  refine lv_iand hx hb dJ6_bitCount_0f7a4_21 ?_
  refine lv_iadd hx hb dJ6_bitCount_0f7a4_22 ?_
  refine lv_istore_n (lv' := [(0, .int (((a0 - ((a0.toUInt32 >>> ((1 : Int32).toUInt32 &&& Int32.toUInt32 31)).toInt32 &&& (1431655765 : Int32))) &&& (858993459 : Int32)) + (((a0 - ((a0.toUInt32 >>> ((1 : Int32).toUInt32 &&& Int32.toUInt32 31)).toInt32 &&& (1431655765 : Int32))).toUInt32 >>> ((2 : Int32).toUInt32 &&& Int32.toUInt32 31)).toInt32 &&& (858993459 : Int32))))]) hx hb dJ6_bitCount_0f7a4_23 rfl hl (by decide) rfl (fun ls hl => ?_)
  refine lv_iload_n hx hb dJ6_bitCount_0f7a4_24 rfl (lv_at hl 0 rfl) ?_
  refine lv_iload_n hx hb dJ6_bitCount_0f7a4_25 rfl (lv_at hl 0 rfl) ?_
  refine lv_iconst (v := (4 : Int32)) hx hb dJ6_bitCount_0f7a4_26 (by decide) ?_
  refine lv_iushr (v := ((((a0 - ((a0.toUInt32 >>> ((1 : Int32).toUInt32 &&& Int32.toUInt32 31)).toInt32 &&& (1431655765 : Int32))) &&& (858993459 : Int32)) + (((a0 - ((a0.toUInt32 >>> ((1 : Int32).toUInt32 &&& Int32.toUInt32 31)).toInt32 &&& (1431655765 : Int32))).toUInt32 >>> ((2 : Int32).toUInt32 &&& Int32.toUInt32 31)).toInt32 &&& (858993459 : Int32))).toUInt32 >>> ((4 : Int32).toUInt32 &&& Int32.toUInt32 31)).toInt32) hx hb dJ6_bitCount_0f7a4_27 rfl ?_
  refine lv_iadd hx hb dJ6_bitCount_0f7a4_28 ?_
  refine lv_ldcw (v := (252645135 : Int32)) hx hb ho (hts _ wk_J6_267) dJ6_bitCount_0f7a4_29 ?_
  refine lv_iand hx hb dJ6_bitCount_0f7a4_32 ?_
  refine lv_istore_n (lv' := [(0, .int (((((a0 - ((a0.toUInt32 >>> ((1 : Int32).toUInt32 &&& Int32.toUInt32 31)).toInt32 &&& (1431655765 : Int32))) &&& (858993459 : Int32)) + (((a0 - ((a0.toUInt32 >>> ((1 : Int32).toUInt32 &&& Int32.toUInt32 31)).toInt32 &&& (1431655765 : Int32))).toUInt32 >>> ((2 : Int32).toUInt32 &&& Int32.toUInt32 31)).toInt32 &&& (858993459 : Int32))) + ((((a0 - ((a0.toUInt32 >>> ((1 : Int32).toUInt32 &&& Int32.toUInt32 31)).toInt32 &&& (1431655765 : Int32))) &&& (858993459 : Int32)) + (((a0 - ((a0.toUInt32 >>> ((1 : Int32).toUInt32 &&& Int32.toUInt32 31)).toInt32 &&& (1431655765 : Int32))).toUInt32 >>> ((2 : Int32).toUInt32 &&& Int32.toUInt32 31)).toInt32 &&& (858993459 : Int32))).toUInt32 >>> ((4 : Int32).toUInt32 &&& Int32.toUInt32 31)).toInt32) &&& (252645135 : Int32)))]) hx hb dJ6_bitCount_0f7a4_33 rfl hl (by decide) rfl (fun ls hl => ?_)
  refine lv_iload_n hx hb dJ6_bitCount_0f7a4_34 rfl (lv_at hl 0 rfl) ?_
  refine lv_iload_n hx hb dJ6_bitCount_0f7a4_35 rfl (lv_at hl 0 rfl) ?_
  refine lv_bipush (v := (8 : Int32)) hx hb dJ6_bitCount_0f7a4_36 (by decide) ?_
  refine lv_iushr (v := ((((((a0 - ((a0.toUInt32 >>> ((1 : Int32).toUInt32 &&& Int32.toUInt32 31)).toInt32 &&& (1431655765 : Int32))) &&& (858993459 : Int32)) + (((a0 - ((a0.toUInt32 >>> ((1 : Int32).toUInt32 &&& Int32.toUInt32 31)).toInt32 &&& (1431655765 : Int32))).toUInt32 >>> ((2 : Int32).toUInt32 &&& Int32.toUInt32 31)).toInt32 &&& (858993459 : Int32))) + ((((a0 - ((a0.toUInt32 >>> ((1 : Int32).toUInt32 &&& Int32.toUInt32 31)).toInt32 &&& (1431655765 : Int32))) &&& (858993459 : Int32)) + (((a0 - ((a0.toUInt32 >>> ((1 : Int32).toUInt32 &&& Int32.toUInt32 31)).toInt32 &&& (1431655765 : Int32))).toUInt32 >>> ((2 : Int32).toUInt32 &&& Int32.toUInt32 31)).toInt32 &&& (858993459 : Int32))).toUInt32 >>> ((4 : Int32).toUInt32 &&& Int32.toUInt32 31)).toInt32) &&& (252645135 : Int32)).toUInt32 >>> ((8 : Int32).toUInt32 &&& Int32.toUInt32 31)).toInt32) hx hb dJ6_bitCount_0f7a4_38 rfl ?_
  refine lv_iadd hx hb dJ6_bitCount_0f7a4_39 ?_
  refine lv_istore_n (lv' := [(0, .int ((((((a0 - ((a0.toUInt32 >>> ((1 : Int32).toUInt32 &&& Int32.toUInt32 31)).toInt32 &&& (1431655765 : Int32))) &&& (858993459 : Int32)) + (((a0 - ((a0.toUInt32 >>> ((1 : Int32).toUInt32 &&& Int32.toUInt32 31)).toInt32 &&& (1431655765 : Int32))).toUInt32 >>> ((2 : Int32).toUInt32 &&& Int32.toUInt32 31)).toInt32 &&& (858993459 : Int32))) + ((((a0 - ((a0.toUInt32 >>> ((1 : Int32).toUInt32 &&& Int32.toUInt32 31)).toInt32 &&& (1431655765 : Int32))) &&& (858993459 : Int32)) + (((a0 - ((a0.toUInt32 >>> ((1 : Int32).toUInt32 &&& Int32.toUInt32 31)).toInt32 &&& (1431655765 : Int32))).toUInt32 >>> ((2 : Int32).toUInt32 &&& Int32.toUInt32 31)).toInt32 &&& (858993459 : Int32))).toUInt32 >>> ((4 : Int32).toUInt32 &&& Int32.toUInt32 31)).toInt32) &&& (252645135 : Int32)) + ((((((a0 - ((a0.toUInt32 >>> ((1 : Int32).toUInt32 &&& Int32.toUInt32 31)).toInt32 &&& (1431655765 : Int32))) &&& (858993459 : Int32)) + (((a0 - ((a0.toUInt32 >>> ((1 : Int32).toUInt32 &&& Int32.toUInt32 31)).toInt32 &&& (1431655765 : Int32))).toUInt32 >>> ((2 : Int32).toUInt32 &&& Int32.toUInt32 31)).toInt32 &&& (858993459 : Int32))) + ((((a0 - ((a0.toUInt32 >>> ((1 : Int32).toUInt32 &&& Int32.toUInt32 31)).toInt32 &&& (1431655765 : Int32))) &&& (858993459 : Int32)) + (((a0 - ((a0.toUInt32 >>> ((1 : Int32).toUInt32 &&& Int32.toUInt32 31)).toInt32 &&& (1431655765 : Int32))).toUInt32 >>> ((2 : Int32).toUInt32 &&& Int32.toUInt32 31)).toInt32 &&& (858993459 : Int32))).toUInt32 >>> ((4 : Int32).toUInt32 &&& Int32.toUInt32 31)).toInt32) &&& (252645135 : Int32)).toUInt32 >>> ((8 : Int32).toUInt32 &&& Int32.toUInt32 31)).toInt32))]) hx hb dJ6_bitCount_0f7a4_40 rfl hl (by decide) rfl (fun ls hl => ?_)
  refine lv_iload_n hx hb dJ6_bitCount_0f7a4_41 rfl (lv_at hl 0 rfl) ?_
  refine lv_iload_n hx hb dJ6_bitCount_0f7a4_42 rfl (lv_at hl 0 rfl) ?_
  refine lv_bipush (v := (16 : Int32)) hx hb dJ6_bitCount_0f7a4_43 (by decide) ?_
  refine lv_iushr (v := (((((((a0 - ((a0.toUInt32 >>> ((1 : Int32).toUInt32 &&& Int32.toUInt32 31)).toInt32 &&& (1431655765 : Int32))) &&& (858993459 : Int32)) + (((a0 - ((a0.toUInt32 >>> ((1 : Int32).toUInt32 &&& Int32.toUInt32 31)).toInt32 &&& (1431655765 : Int32))).toUInt32 >>> ((2 : Int32).toUInt32 &&& Int32.toUInt32 31)).toInt32 &&& (858993459 : Int32))) + ((((a0 - ((a0.toUInt32 >>> ((1 : Int32).toUInt32 &&& Int32.toUInt32 31)).toInt32 &&& (1431655765 : Int32))) &&& (858993459 : Int32)) + (((a0 - ((a0.toUInt32 >>> ((1 : Int32).toUInt32 &&& Int32.toUInt32 31)).toInt32 &&& (1431655765 : Int32))).toUInt32 >>> ((2 : Int32).toUInt32 &&& Int32.toUInt32 31)).toInt32 &&& (858993459 : Int32))).toUInt32 >>> ((4 : Int32).toUInt32 &&& Int32.toUInt32 31)).toInt32) &&& (252645135 : Int32)) + ((((((a0 - ((a0.toUInt32 >>> ((1 : Int32).toUInt32 &&& Int32.toUInt32 31)).toInt32 &&& (1431655765 : Int32))) &&& (858993459 : Int32)) + (((a0 - ((a0.toUInt32 >>> ((1 : Int32).toUInt32 &&& Int32.toUInt32 31)).toInt32 &&& (1431655765 : Int32))).toUInt32 >>> ((2 : Int32).toUInt32 &&& Int32.toUInt32 31)).toInt32 &&& (858993459 : Int32))) + ((((a0 - ((a0.toUInt32 >>> ((1 : Int32).toUInt32 &&& Int32.toUInt32 31)).toInt32 &&& (1431655765 : Int32))) &&& (858993459 : Int32)) + (((a0 - ((a0.toUInt32 >>> ((1 : Int32).toUInt32 &&& Int32.toUInt32 31)).toInt32 &&& (1431655765 : Int32))).toUInt32 >>> ((2 : Int32).toUInt32 &&& Int32.toUInt32 31)).toInt32 &&& (858993459 : Int32))).toUInt32 >>> ((4 : Int32).toUInt32 &&& Int32.toUInt32 31)).toInt32) &&& (252645135 : Int32)).toUInt32 >>> ((8 : Int32).toUInt32 &&& Int32.toUInt32 31)).toInt32).toUInt32 >>> ((16 : Int32).toUInt32 &&& Int32.toUInt32 31)).toInt32) hx hb dJ6_bitCount_0f7a4_45 rfl ?_
  refine lv_iadd hx hb dJ6_bitCount_0f7a4_46 ?_
  refine lv_istore_n (lv' := [(0, .int (((((((a0 - ((a0.toUInt32 >>> ((1 : Int32).toUInt32 &&& Int32.toUInt32 31)).toInt32 &&& (1431655765 : Int32))) &&& (858993459 : Int32)) + (((a0 - ((a0.toUInt32 >>> ((1 : Int32).toUInt32 &&& Int32.toUInt32 31)).toInt32 &&& (1431655765 : Int32))).toUInt32 >>> ((2 : Int32).toUInt32 &&& Int32.toUInt32 31)).toInt32 &&& (858993459 : Int32))) + ((((a0 - ((a0.toUInt32 >>> ((1 : Int32).toUInt32 &&& Int32.toUInt32 31)).toInt32 &&& (1431655765 : Int32))) &&& (858993459 : Int32)) + (((a0 - ((a0.toUInt32 >>> ((1 : Int32).toUInt32 &&& Int32.toUInt32 31)).toInt32 &&& (1431655765 : Int32))).toUInt32 >>> ((2 : Int32).toUInt32 &&& Int32.toUInt32 31)).toInt32 &&& (858993459 : Int32))).toUInt32 >>> ((4 : Int32).toUInt32 &&& Int32.toUInt32 31)).toInt32) &&& (252645135 : Int32)) + ((((((a0 - ((a0.toUInt32 >>> ((1 : Int32).toUInt32 &&& Int32.toUInt32 31)).toInt32 &&& (1431655765 : Int32))) &&& (858993459 : Int32)) + (((a0 - ((a0.toUInt32 >>> ((1 : Int32).toUInt32 &&& Int32.toUInt32 31)).toInt32 &&& (1431655765 : Int32))).toUInt32 >>> ((2 : Int32).toUInt32 &&& Int32.toUInt32 31)).toInt32 &&& (858993459 : Int32))) + ((((a0 - ((a0.toUInt32 >>> ((1 : Int32).toUInt32 &&& Int32.toUInt32 31)).toInt32 &&& (1431655765 : Int32))) &&& (858993459 : Int32)) + (((a0 - ((a0.toUInt32 >>> ((1 : Int32).toUInt32 &&& Int32.toUInt32 31)).toInt32 &&& (1431655765 : Int32))).toUInt32 >>> ((2 : Int32).toUInt32 &&& Int32.toUInt32 31)).toInt32 &&& (858993459 : Int32))).toUInt32 >>> ((4 : Int32).toUInt32 &&& Int32.toUInt32 31)).toInt32) &&& (252645135 : Int32)).toUInt32 >>> ((8 : Int32).toUInt32 &&& Int32.toUInt32 31)).toInt32) + (((((((a0 - ((a0.toUInt32 >>> ((1 : Int32).toUInt32 &&& Int32.toUInt32 31)).toInt32 &&& (1431655765 : Int32))) &&& (858993459 : Int32)) + (((a0 - ((a0.toUInt32 >>> ((1 : Int32).toUInt32 &&& Int32.toUInt32 31)).toInt32 &&& (1431655765 : Int32))).toUInt32 >>> ((2 : Int32).toUInt32 &&& Int32.toUInt32 31)).toInt32 &&& (858993459 : Int32))) + ((((a0 - ((a0.toUInt32 >>> ((1 : Int32).toUInt32 &&& Int32.toUInt32 31)).toInt32 &&& (1431655765 : Int32))) &&& (858993459 : Int32)) + (((a0 - ((a0.toUInt32 >>> ((1 : Int32).toUInt32 &&& Int32.toUInt32 31)).toInt32 &&& (1431655765 : Int32))).toUInt32 >>> ((2 : Int32).toUInt32 &&& Int32.toUInt32 31)).toInt32 &&& (858993459 : Int32))).toUInt32 >>> ((4 : Int32).toUInt32 &&& Int32.toUInt32 31)).toInt32) &&& (252645135 : Int32)) + ((((((a0 - ((a0.toUInt32 >>> ((1 : Int32).toUInt32 &&& Int32.toUInt32 31)).toInt32 &&& (1431655765 : Int32))) &&& (858993459 : Int32)) + (((a0 - ((a0.toUInt32 >>> ((1 : Int32).toUInt32 &&& Int32.toUInt32 31)).toInt32 &&& (1431655765 : Int32))).toUInt32 >>> ((2 : Int32).toUInt32 &&& Int32.toUInt32 31)).toInt32 &&& (858993459 : Int32))) + ((((a0 - ((a0.toUInt32 >>> ((1 : Int32).toUInt32 &&& Int32.toUInt32 31)).toInt32 &&& (1431655765 : Int32))) &&& (858993459 : Int32)) + (((a0 - ((a0.toUInt32 >>> ((1 : Int32).toUInt32 &&& Int32.toUInt32 31)).toInt32 &&& (1431655765 : Int32))).toUInt32 >>> ((2 : Int32).toUInt32 &&& Int32.toUInt32 31)).toInt32 &&& (858993459 : Int32))).toUInt32 >>> ((4 : Int32).toUInt32 &&& Int32.toUInt32 31)).toInt32) &&& (252645135 : Int32)).toUInt32 >>> ((8 : Int32).toUInt32 &&& Int32.toUInt32 31)).toInt32).toUInt32 >>> ((16 : Int32).toUInt32 &&& Int32.toUInt32 31)).toInt32))]) hx hb dJ6_bitCount_0f7a4_47 rfl hl (by decide) rfl (fun ls hl => ?_)
  refine lv_iload_n hx hb dJ6_bitCount_0f7a4_48 rfl (lv_at hl 0 rfl) ?_
  refine lv_bipush (v := (63 : Int32)) hx hb dJ6_bitCount_0f7a4_49 (by decide) ?_
  refine lv_iand hx hb dJ6_bitCount_0f7a4_51 ?_
  cases hf
  exact zr_iret X hr hP hS dJ6_bitCount_0f7a4_52
