/-! THE STRING AND THE REFERENCE ARE MADE -/
theorem wo_X7_1 : Cond.methodLink RX7 1 Lib.objectInit ∈ zb_Wd := (zb_in 129 (by decide +kernel) rfl)
theorem wn_X7_7 : Cond.classLink RX7 7 RX5 ∈ zb_Wd := (zb_in 132 (by decide +kernel) rfl)
theorem wt_X5 : Cond.instantiable RX5 12 ∈ zb_Wd := (zb_in 133 (by decide +kernel) rfl)
theorem wu_X5 : Cond.initialized RX5 ∈ zb_Wd := (zb_in 102 (by decide +kernel) rfl)
theorem cj_X7_9 : zb_cwJ RX7 9 "BuoyString" yX5_init cX5_init 1 0 := ⟨⟨zb_inX 134 (by decide +kernel) rfl, (zb_in 135 (by decide +kernel) rfl), (zb_in 102 (by decide +kernel) rfl), (zb_in 136 (by decide +kernel) rfl)⟩, (by decide +kernel), rfl⟩
theorem wn_X7_40 : Cond.classLink RX7 40 RX6 ∈ zb_Wd := (zb_in 322 (by decide +kernel) rfl)
theorem wt_X6 : Cond.instantiable RX6 6 ∈ zb_Wd := (zb_in 323 (by decide +kernel) rfl)
theorem wu_X6 : Cond.initialized RX6 ∈ zb_Wd := (zb_in 106 (by decide +kernel) rfl)
theorem cj_X7_42 : zb_cwJ RX7 42 "BuoyString" yX6_init cX6_init 1 0 := ⟨⟨zb_inX 324 (by decide +kernel) rfl, (zb_in 325 (by decide +kernel) rfl), (zb_in 106 (by decide +kernel) rfl), (zb_in 326 (by decide +kernel) rfl)⟩, (by decide +kernel), rfl⟩
theorem wn_X7_50 : Cond.classLink RX7 50 RX2 ∈ zb_Wd := (zb_in 352 (by decide +kernel) rfl)
theorem wt_X2 : Cond.instantiable RX2 8 ∈ zb_Wd := (zb_in 353 (by decide +kernel) rfl)
theorem wu_X2 : Cond.initialized RX2 ∈ zb_Wd := (zb_in 107 (by decide +kernel) rfl)
theorem cj_X7_52 : zb_cwJ RX7 52 "BuoyString" yX2_init cX2_init 1 0 := ⟨⟨zb_inX 354 (by decide +kernel) rfl, (zb_in 355 (by decide +kernel) rfl), (zb_in 107 (by decide +kernel) rfl), (zb_in 356 (by decide +kernel) rfl)⟩, (by decide +kernel), rfl⟩
theorem wn_X7_57 : Cond.classLink RX7 57 RX4 ∈ zb_Wd := (zb_in 386 (by decide +kernel) rfl)
theorem wt_X4 : Cond.instantiable RX4 4 ∈ zb_Wd := (zb_in 387 (by decide +kernel) rfl)
theorem wu_X4 : Cond.initialized RX4 ∈ zb_Wd := (zb_in 108 (by decide +kernel) rfl)
theorem cj_X7_59 : zb_cwJ RX7 59 "BuoyString" yX4_init cX4_init 1 0 := ⟨⟨zb_inX 388 (by decide +kernel) rfl, (zb_in 389 (by decide +kernel) rfl), (zb_in 108 (by decide +kernel) rfl), (zb_in 390 (by decide +kernel) rfl)⟩, (by decide +kernel), rfl⟩
theorem wo_X8_1 : Cond.methodLink RX8 1 Lib.objectInit ∈ zb_Wd := (zb_in 1318 (by decide +kernel) rfl)
theorem wf_X8_13 : Cond.fieldLink RX8 13 "BuoyStringModel" "aside" "[I" ∈ zb_Wd := (zb_in 1327 (by decide +kernel) rfl)
theorem cw_X8_53 : zb_cwS RX8 53 yX8_lays cX8_lays 6 none 6 := zb_cwS_of (zb_in 1322 (by decide +kernel) rfl) (zb_in 1323 (by decide +kernel) rfl) (zb_in 109 (by decide +kernel) rfl) (zb_in 1324 (by decide +kernel) rfl) (by decide +kernel)
def fX7_initT (I : Mem) : Option Mem :=
  Option.bind (fX5_clear 1 I) fun I1 =>
  Option.bind (fX0_add 1 (0 : Int32) (1 : Int32) (9 : Int32) (0 : Int32) (wr (wr (wr I1 1 3 (20 : Int32)) 1 4 (3 : Int32)) 1 5 (2 : Int32))) fun I2 =>
  Option.bind (fX0_add 1 (100 : Int32) (1 : Int32) (9 : Int32) (0 : Int32) I2) fun I3 =>
  some I3
set_option maxHeartbeats 4000000 in
set_option maxRecDepth 100000 in
theorem ci_X7 {g : zb_G} {C0 : Nat → va_E} {k : Nat} (hk0 : k = 0) (l : Launch) {Iq : Mem} (hf : fX7_initT mem0 = some Iq) (h0 : C0 k = .inr (7, zb_df 7)) : zb_Cn l g yX7_init cX7_init 2 3 52 305 10071 [.ref (g.2.2 + k)] (k + 1) C0 306 (zb_ce g Iq mem0 mem0) := by
  refine zb_ofN (own := RX7) (by decide +kernel) rfl rfl (Nat.le_of_ble_eq_true rfl) ?_
  intro p e s m args below meth c ls X hr hnm hs0 hao hP hl
  have hx := X.1.1
  have hb := X.1.2.1
  have ho := X.1.2.2.2.1
  have hts := X.1.2.2.2.2
  have hZ := X.2.2.2
  have hl : lv_has ls 2 [(0, .ref (g.2.2 + k))] := hl
  have hS : va_S (zb_A g) s.heap s.heap [] := va_S.rf
  obtain ⟨H, hH⟩ : ∃ H, H = s.heap := ⟨_, rfl⟩
  obtain ⟨locs, hlocs⟩ : ∃ z : List Loc, z = [] := ⟨_, rfl⟩
  rw [← hH] at hP
  have hS : va_S (zb_A g) s.heap H locs := by rw [hH, hlocs]; exact hS
  show W p l e _ s m args below meth c s.heap [] 0 0 _ _
  rw [← hH, ← hlocs]
  rw [zb_bstart (F := zb_Fp g (zb_f490 g) (zb_f500 g)) h0] at hP
  refine lv_aload_n hx hb dX7_init_0 rfl (lv_at hl 0 rfl) ?_
  refine zr_oi X wo_X7_1 wo_i wo_c hl.1 (Nat.le_of_ble_eq_true rfl) (Nat.le_of_ble_eq_true rfl) dX7_init_1 ?_
  refine lv_aload_n hx hb dX7_init_4 rfl (lv_at hl 0 rfl) ?_
  refine zr_sz hP (by omega) (by omega) (fun hsz => ?_)
  refine zr_newo (ci := 5) (fs := zb_df 5) X hP hS hsz rfl wi_5 tyX5 tyX5_ok wn_X7_7 wt_X5 wu_X5 (by decide) (Nat.le_of_ble_eq_true rfl) (Nat.le_of_ble_eq_true rfl) dX7_init_5 (fun H hP hS => ?_)
  refine lv_dup hx hb dX7_init_8 rfl ?_
  refine zr_sz hP (by omega) (by omega) (fun hsz => ?_)
  refine zr_cJ X hP hS hsz hao (ci_X5 (g := g) (k := k + 1) l (by rw [hk0]; exact zb_atB zb_isB1) (va_up_self _ _ _)) cj_X7_9 hl.1 (Nat.le_of_ble_eq_true rfl) ⟨Nat.le_of_ble_eq_true rfl, Nat.le_of_ble_eq_true rfl⟩ ⟨Nat.le_of_ble_eq_true rfl, Nat.le_of_ble_eq_true rfl⟩ dX7_init_9 (fun H locs hP hS => ?_)
  rw [zb_bfin (n := 1) (z := 24) (by decide) (by decide) (fun q h1 h2 => (zb_Fp_ne (by omega) (by omega)).symm)] at hP
  simp only [Nat.reduceAdd] at hP
  refine zr_bput (k := k) (n := 25) X hP hS (by decide) rfl wi_7 tyX7 tyX7_ok nmX7 0 (by decide) wf_X7_10 (Or.inr ⟨rfl, hnm, rfl⟩) (ty := tyX7 0) (by decide +kernel) rfl rfl (Nat.le_of_ble_eq_true rfl) dX7_init_12 (fun H locs hP hS => ?_)
  refine lv_aload_n hx hb dX7_init_15 rfl (lv_at hl 0 rfl) ?_
  refine zr_sz hP (by omega) (by omega) (fun hsz => ?_)
  refine zr_newo (ci := 5) (fs := zb_df 5) X hP hS hsz rfl wi_5 tyX5 tyX5_ok wn_X7_7 wt_X5 wu_X5 (by decide) (Nat.le_of_ble_eq_true rfl) (Nat.le_of_ble_eq_true rfl) dX7_init_16 (fun H hP hS => ?_)
  refine lv_dup hx hb dX7_init_19 rfl ?_
  refine zr_sz hP (by omega) (by omega) (fun hsz => ?_)
  refine zr_cJ X hP hS hsz hao (ci_X5 (g := g) (k := k + 25) l (by rw [hk0]; exact zb_atB zb_isB25) (va_up_self _ _ _)) cj_X7_9 hl.1 (Nat.le_of_ble_eq_true rfl) ⟨Nat.le_of_ble_eq_true rfl, Nat.le_of_ble_eq_true rfl⟩ ⟨Nat.le_of_ble_eq_true rfl, Nat.le_of_ble_eq_true rfl⟩ dX7_init_20 (fun H locs hP hS => ?_)
  rw [zb_bfin (n := 25) (z := 24) (by decide) (by decide) (fun q h1 h2 => (zb_Fp_ne (by omega) (by omega)).symm)] at hP
  simp only [Nat.reduceAdd] at hP
  refine zr_bput (k := k) (n := 49) X hP hS (by decide) rfl wi_7 tyX7 tyX7_ok nmX7 1 (by decide) wf_X7_16 (Or.inr ⟨rfl, hnm, rfl⟩) (ty := tyX7 1) (by decide +kernel) rfl rfl (Nat.le_of_ble_eq_true rfl) dX7_init_23 (fun H locs hP hS => ?_)
  refine lv_aload_n hx hb dX7_init_26 rfl (lv_at hl 0 rfl) ?_
  refine lv_bipush (v := (8 : Int32)) hx hb dX7_init_27 (by decide) ?_
  refine zr_sz hP (by omega) (by omega) (fun hsz => ?_)
  refine zr_newq (N := 8) (f := zb_f490 g) X hP hS hsz wn_X7_7 hao (fun j hj => by unfold zb_f490; rw [if_pos hj]) (by decide) (by decide) (by decide) (Nat.le_of_ble_eq_true rfl) (Nat.le_of_ble_eq_true rfl) dX7_init_29 (fun H hP hS => ?_)
  rw [zb_bpush (n := 49) (zb_Fp49 hk0) (by decide)] at hP
  simp only [Nat.reduceAdd] at hP
  refine zr_bput (k := k) (n := 50) X hP hS (by decide) rfl wi_7 tyX7 tyX7_ok nmX7 2 (by decide) wf_X7_19 (Or.inr ⟨rfl, hnm, rfl⟩) (ty := tyX7 2) (by decide +kernel) rfl rfl (Nat.le_of_ble_eq_true rfl) dX7_init_32 (fun H locs hP hS => ?_)
  refine lv_aload_n hx hb dX7_init_35 rfl (lv_at hl 0 rfl) ?_
  refine lv_iconst (v := (0 : Int32)) hx hb dX7_init_36 (by decide) ?_
  refine zr_bput (k := k) (n := 50) X hP hS (by decide) rfl wi_7 tyX7 tyX7_ok nmX7 3 (by decide) wf_X7_23 (Or.inl rfl) (ty := tyX7 3) (by decide +kernel) rfl rfl (Nat.le_of_ble_eq_true rfl) dX7_init_37 (fun H locs hP hS => ?_)
  refine lv_aload_n hx hb dX7_init_40 rfl (lv_at hl 0 rfl) ?_
  refine lv_iconst (v := (0 : Int32)) hx hb dX7_init_41 (by decide) ?_
  refine zr_bput (k := k) (n := 50) X hP hS (by decide) rfl wi_7 tyX7 tyX7_ok nmX7 4 (by decide) wf_X7_27 (Or.inl rfl) (ty := tyX7 4) (by decide +kernel) rfl rfl (Nat.le_of_ble_eq_true rfl) dX7_init_42 (fun H locs hP hS => ?_)
  refine lv_aload_n hx hb dX7_init_45 rfl (lv_at hl 0 rfl) ?_
  refine lv_iconst (v := (2 : Int32)) hx hb dX7_init_46 (by decide) ?_
  refine zr_sz hP (by omega) (by omega) (fun hsz => ?_)
  refine zr_newq (N := 2) (f := zb_f500 g) X hP hS hsz wn_X7_7 hao (fun j hj => by unfold zb_f500; rw [if_pos hj]) (by decide) (by decide) (by decide) (Nat.le_of_ble_eq_true rfl) (Nat.le_of_ble_eq_true rfl) dX7_init_47 (fun H hP hS => ?_)
  rw [zb_bpush (n := 50) (zb_Fp50 hk0) (by decide)] at hP
  simp only [Nat.reduceAdd] at hP
  refine zr_bput (k := k) (n := 51) X hP hS (by decide) rfl wi_7 tyX7 tyX7_ok nmX7 5 (by decide) wf_X7_30 (Or.inr ⟨rfl, hnm, rfl⟩) (ty := tyX7 5) (by decide +kernel) rfl rfl (Nat.le_of_ble_eq_true rfl) dX7_init_50 (fun H locs hP hS => ?_)
  refine lv_aload_n hx hb dX7_init_53 rfl (lv_at hl 0 rfl) ?_
  refine lv_iconst (v := (0 : Int32)) hx hb dX7_init_54 (by decide) ?_
  refine zr_bput (k := k) (n := 51) X hP hS (by decide) rfl wi_7 tyX7 tyX7_ok nmX7 6 (by decide) wf_X7_33 (Or.inl rfl) (ty := tyX7 6) (by decide +kernel) rfl rfl (Nat.le_of_ble_eq_true rfl) dX7_init_55 (fun H locs hP hS => ?_)
  refine lv_aload_n hx hb dX7_init_58 rfl (lv_at hl 0 rfl) ?_
  refine lv_iconst (v := (5 : Int32)) hx hb dX7_init_59 (by decide) ?_
  refine zr_sz hP (by omega) (by omega) (fun hsz => ?_)
  refine zr_newa (N := 5) (a0 := (5, .inl (fun _ => 0))) 0 X hP hS hsz wa_int rfl rfl (fun h => h) (fun _ => rfl) (by decide) (by decide) (by decide) (Nat.le_of_ble_eq_true rfl) (Nat.le_of_ble_eq_true rfl) dX7_init_60 (fun H hP hS => ?_)
  rw [zb_bpush (n := 51) ((zb_Fp_ne (by omega) (by omega)).trans (zb_F10 (show zb_kd (k + 51) = (10, 5) by rw [hk0]; decide))) (by decide)] at hP
  simp only [Nat.reduceAdd] at hP
  refine zr_bput (k := k) (n := 52) X hP hS (by decide) rfl wi_7 tyX7 tyX7_ok nmX7 7 (by decide) wf_X7_36 (Or.inr ⟨rfl, hnm, rfl⟩) (ty := tyX7 7) (by decide +kernel) rfl rfl (Nat.le_of_ble_eq_true rfl) dX7_init_62 (fun H locs hP hS => ?_)
  refine lv_aload_n hx hb dX7_init_65 rfl (lv_at hl 0 rfl) ?_
  refine zr_sz hP (by omega) (by omega) (fun hsz => ?_)
  refine zr_newo (ci := 6) (fs := zb_df 6) X hP hS hsz rfl wi_6 tyX6 tyX6_ok wn_X7_40 wt_X6 wu_X6 (by decide) (Nat.le_of_ble_eq_true rfl) (Nat.le_of_ble_eq_true rfl) dX7_init_66 (fun H hP hS => ?_)
  refine lv_dup hx hb dX7_init_69 rfl ?_
  refine zr_sz hP (by omega) (by omega) (fun hsz => ?_)
  refine zr_cJ X hP hS hsz hao (ci_X6 (g := g) (k := k + 52) l (by rw [hk0]; unfold zb_at; decide) (va_up_self _ _ _)) cj_X7_42 hl.1 (Nat.le_of_ble_eq_true rfl) ⟨Nat.le_of_ble_eq_true rfl, Nat.le_of_ble_eq_true rfl⟩ ⟨Nat.le_of_ble_eq_true rfl, Nat.le_of_ble_eq_true rfl⟩ dX7_init_70 (fun H locs hP hS => ?_)
  rw [zb_bfin (n := 52) (z := 3) (by decide) (by decide) (fun q h1 h2 => (zb_Fp_ne (by omega) (by omega)).symm)] at hP
  simp only [Nat.reduceAdd] at hP
  refine zr_bput (k := k) (n := 55) X hP hS (by decide) rfl wi_7 tyX7 tyX7_ok nmX7 8 (by decide) wf_X7_43 (Or.inr ⟨rfl, hnm, rfl⟩) (ty := tyX7 8) (by decide +kernel) rfl rfl (Nat.le_of_ble_eq_true rfl) dX7_init_73 (fun H locs hP hS => ?_)
  refine lv_aload_n hx hb dX7_init_76 rfl (lv_at hl 0 rfl) ?_
  refine lv_bipush (v := (10 : Int32)) hx hb dX7_init_77 (by decide) ?_
  refine zr_sz hP (by omega) (by omega) (fun hsz => ?_)
  refine zr_newa (N := 10) (a0 := (10, .inl (fun _ => 0))) 0 X hP hS hsz wa_int rfl rfl (fun h => h) (fun _ => rfl) (by decide) (by decide) (by decide) (Nat.le_of_ble_eq_true rfl) (Nat.le_of_ble_eq_true rfl) dX7_init_79 (fun H hP hS => ?_)
  rw [zb_bpush (n := 55) ((zb_Fp_ne (by omega) (by omega)).trans (zb_F10 (show zb_kd (k + 55) = (10, 10) by rw [hk0]; decide))) (by decide)] at hP
  simp only [Nat.reduceAdd] at hP
  refine zr_bput (k := k) (n := 56) X hP hS (by decide) rfl wi_7 tyX7 tyX7_ok nmX7 9 (by decide) wf_X7_47 (Or.inr ⟨rfl, hnm, rfl⟩) (ty := tyX7 9) (by decide +kernel) rfl rfl (Nat.le_of_ble_eq_true rfl) dX7_init_81 (fun H locs hP hS => ?_)
  refine lv_aload_n hx hb dX7_init_84 rfl (lv_at hl 0 rfl) ?_
  refine zr_sz hP (by omega) (by omega) (fun hsz => ?_)
  refine zr_newo (ci := 2) (fs := zb_df 2) X hP hS hsz rfl wi_2 tyX2 tyX2_ok wn_X7_50 wt_X2 wu_X2 (by decide) (Nat.le_of_ble_eq_true rfl) (Nat.le_of_ble_eq_true rfl) dX7_init_85 (fun H hP hS => ?_)
  refine lv_dup hx hb dX7_init_88 rfl ?_
  refine zr_sz hP (by omega) (by omega) (fun hsz => ?_)
  refine zr_cJ X hP hS hsz hao (ci_X2 (g := g) (k := k + 56) l (by rw [hk0]; unfold zb_at; decide) (va_up_self _ _ _)) cj_X7_52 hl.1 (Nat.le_of_ble_eq_true rfl) ⟨Nat.le_of_ble_eq_true rfl, Nat.le_of_ble_eq_true rfl⟩ ⟨Nat.le_of_ble_eq_true rfl, Nat.le_of_ble_eq_true rfl⟩ dX7_init_89 (fun H locs hP hS => ?_)
  rw [zb_bfin (n := 56) (z := 5) (by decide) (by decide) (fun q h1 h2 => (zb_Fp_ne (by omega) (by omega)).symm)] at hP
  simp only [Nat.reduceAdd] at hP
  refine zr_bput (k := k) (n := 61) X hP hS (by decide) rfl wi_7 tyX7 tyX7_ok nmX7 10 (by decide) wf_X7_53 (Or.inr ⟨rfl, hnm, rfl⟩) (ty := tyX7 10) (by decide +kernel) rfl rfl (Nat.le_of_ble_eq_true rfl) dX7_init_92 (fun H locs hP hS => ?_)
  refine lv_aload_n hx hb dX7_init_95 rfl (lv_at hl 0 rfl) ?_
  refine zr_sz hP (by omega) (by omega) (fun hsz => ?_)
  refine zr_newo (ci := 4) (fs := zb_df 4) X hP hS hsz rfl wi_4 tyX4 tyX4_ok wn_X7_57 wt_X4 wu_X4 (by decide) (Nat.le_of_ble_eq_true rfl) (Nat.le_of_ble_eq_true rfl) dX7_init_96 (fun H hP hS => ?_)
  refine lv_dup hx hb dX7_init_99 rfl ?_
  refine zr_sz hP (by omega) (by omega) (fun hsz => ?_)
  refine zr_cJ X hP hS hsz hao (ci_X4 (g := g) (k := k + 61) l (by rw [hk0]; unfold zb_at; decide) (va_up_self _ _ _)) cj_X7_59 hl.1 (Nat.le_of_ble_eq_true rfl) ⟨Nat.le_of_ble_eq_true rfl, Nat.le_of_ble_eq_true rfl⟩ ⟨Nat.le_of_ble_eq_true rfl, Nat.le_of_ble_eq_true rfl⟩ dX7_init_100 (fun H locs hP hS => ?_)
  rw [zb_bfin (n := 61) (z := 4) (by decide) (by decide) (fun q h1 h2 => (zb_Fp_ne (by omega) (by omega)).symm)] at hP
  simp only [Nat.reduceAdd] at hP
  refine zr_bput (k := k) (n := 65) X hP hS (by decide) rfl wi_7 tyX7 tyX7_ok nmX7 11 (by decide) wf_X7_60 (Or.inr ⟨rfl, hnm, rfl⟩) (ty := tyX7 11) (by decide +kernel) rfl rfl (Nat.le_of_ble_eq_true rfl) dX7_init_103 (fun H locs hP hS => ?_)
  refine lv_aload_n hx hb dX7_init_106 rfl (lv_at hl 0 rfl) ?_
  refine lv_iconst (v := (0 : Int32)) hx hb dX7_init_107 (by decide) ?_
  refine zr_bput (k := k) (n := 65) X hP hS (by decide) rfl wi_7 tyX7 tyX7_ok nmX7 12 (by decide) wf_X7_64 (Or.inl rfl) (ty := tyX7 12) (by decide +kernel) rfl rfl (Nat.le_of_ble_eq_true rfl) dX7_init_108 (fun H locs hP hS => ?_)
  refine lv_aload_n hx hb dX7_init_111 rfl (lv_at hl 0 rfl) ?_
  refine lv_iconst (v := (-1 : Int32)) hx hb dX7_init_112 (by decide) ?_
  refine zr_bput (k := k) (n := 65) X hP hS (by decide) rfl wi_7 tyX7 tyX7_ok nmX7 13 (by decide) wf_X7_67 (Or.inl rfl) (ty := tyX7 13) (by decide +kernel) rfl rfl (Nat.le_of_ble_eq_true rfl) dX7_init_113 (fun H locs hP hS => ?_)
  refine lv_aload_n hx hb dX7_init_116 rfl (lv_at hl 0 rfl) ?_
  refine lv_sipush (v := (500 : Int32)) hx hb dX7_init_117 (by decide) ?_
  refine zr_sz hP (by omega) (by omega) (fun hsz => ?_)
  refine zr_newa (N := 500) (a0 := (500, .inl (fun _ => 0))) 0 X hP hS hsz wa_int rfl rfl (fun h => h) (fun _ => rfl) (by decide) (by decide) (by decide) (Nat.le_of_ble_eq_true rfl) (Nat.le_of_ble_eq_true rfl) dX7_init_120 (fun H hP hS => ?_)
  rw [zb_bpush (n := 65) ((zb_Fp_ne (by omega) (by omega)).trans (zb_F10 (show zb_kd (k + 65) = (10, 500) by rw [hk0]; decide))) (by decide)] at hP
  simp only [Nat.reduceAdd] at hP
  refine zr_bput (k := k) (n := 66) X hP hS (by decide) rfl wi_7 tyX7 tyX7_ok nmX7 14 (by decide) wf_X7_70 (Or.inr ⟨rfl, hnm, rfl⟩) (ty := tyX7 14) (by decide +kernel) rfl rfl (Nat.le_of_ble_eq_true rfl) dX7_init_122 (fun H locs hP hS => ?_)
  refine lv_aload_n hx hb dX7_init_125 rfl (lv_at hl 0 rfl) ?_
  refine lv_iconst (v := (0 : Int32)) hx hb dX7_init_126 (by decide) ?_
  refine zr_bput (k := k) (n := 66) X hP hS (by decide) rfl wi_7 tyX7 tyX7_ok nmX7 15 (by decide) wf_X7_73 (Or.inl rfl) (ty := tyX7 15) (by decide +kernel) rfl rfl (Nat.le_of_ble_eq_true rfl) dX7_init_127 (fun H locs hP hS => ?_)
  refine lv_iconst (v := (0 : Int32)) hx hb dX7_init_130 (by decide) ?_
  refine lv_istore_n (lv' := [(1, .int (0 : Int32)), (0, .ref (g.2.2 + k))]) hx hb dX7_init_131 rfl hl (by decide) rfl (fun ls hl => ?_)
  refine lv_iload_n hx hb dX7_init_132 rfl (lv_at hl 0 rfl) ?_
  refine lv_bipush (v := (8 : Int32)) hx hb dX7_init_133 (by decide) ?_
  refine lv_icmp_ge (tgt := 157) hx hb dX7_init_135 (by decide) (fun hc => absurd hc (by decide)) (fun _ => ?_)
  refine lv_aload_n hx hb dX7_init_138 rfl (lv_at hl 1 rfl) ?_
  refine zr_get (C := RX7) (T := TX7) (N := 16) X hP (by omega) zb_bself rfl wi_7 2 (by decide) wf_X7_19 rfl dX7_init_139 ?_
  refine lv_iload_n hx hb dX7_init_142 rfl (lv_at hl 0 rfl) ?_
  refine zr_sz hP (by omega) (by omega) (fun hsz => ?_)
  refine zr_newo (ci := 5) (fs := zb_df 5) X hP hS hsz rfl wi_5 tyX5 tyX5_ok wn_X7_7 wt_X5 wu_X5 (by decide) (Nat.le_of_ble_eq_true rfl) (Nat.le_of_ble_eq_true rfl) dX7_init_143 (fun H hP hS => ?_)
  refine lv_dup hx hb dX7_init_146 rfl ?_
  refine zr_sz hP (by omega) (by omega) (fun hsz => ?_)
  refine zr_cJ X hP hS hsz hao (ci_X5 (g := g) (k := k + 66) l (by rw [hk0]; exact zb_atB (Or.inr (Or.inr ⟨0, by decide, rfl⟩))) (va_up_self _ _ _)) cj_X7_9 hl.1 (Nat.le_of_ble_eq_true rfl) ⟨Nat.le_of_ble_eq_true rfl, Nat.le_of_ble_eq_true rfl⟩ ⟨Nat.le_of_ble_eq_true rfl, Nat.le_of_ble_eq_true rfl⟩ dX7_init_147 (fun H locs hP hS => ?_)
  rw [zb_bfin (n := 66) (z := 24) (by decide) (by decide) (fun q h1 h2 => (zb_Fp_ne (by omega) (by omega)).symm)] at hP
  simp only [Nat.reduceAdd] at hP
  refine zr_aastore49 (k := k) (n := 90) (v := 66) X hP hS hk0 (by decide) (by decide) (by decide) (zb_bldF (by decide) (by decide) (zb_Fp_ne (by omega) (by omega)) (zb_Fo5 (show zb_kd (k + 66) = (5, 12) by rw [hk0]; decide))) (by unfold vp_in; decide) 0 (by decide) dX7_init_150 (fun H locs hP hS => ?_)
  refine lv_iinc (v := (1 : Int32)) (lv' := [(1, .int (1 : Int32)), (0, .ref (g.2.2 + k))]) hx hb dX7_init_151 hl (k := 0) rfl rfl (by decide) rfl (fun ls hl => ?_)
  refine lv_goto (tgt := 132) hx hb dX7_init_154 (by decide) ?_
  refine lv_iload_n hx hb dX7_init_132 rfl (lv_at hl 0 rfl) ?_
  refine lv_bipush (v := (8 : Int32)) hx hb dX7_init_133 (by decide) ?_
  refine lv_icmp_ge (tgt := 157) hx hb dX7_init_135 (by decide) (fun hc => absurd hc (by decide)) (fun _ => ?_)
  refine lv_aload_n hx hb dX7_init_138 rfl (lv_at hl 1 rfl) ?_
  refine zr_get (C := RX7) (T := TX7) (N := 16) X hP (by omega) zb_bself rfl wi_7 2 (by decide) wf_X7_19 rfl dX7_init_139 ?_
  refine lv_iload_n hx hb dX7_init_142 rfl (lv_at hl 0 rfl) ?_
  refine zr_sz hP (by omega) (by omega) (fun hsz => ?_)
  refine zr_newo (ci := 5) (fs := zb_df 5) X hP hS hsz rfl wi_5 tyX5 tyX5_ok wn_X7_7 wt_X5 wu_X5 (by decide) (Nat.le_of_ble_eq_true rfl) (Nat.le_of_ble_eq_true rfl) dX7_init_143 (fun H hP hS => ?_)
  refine lv_dup hx hb dX7_init_146 rfl ?_
  refine zr_sz hP (by omega) (by omega) (fun hsz => ?_)
  refine zr_cJ X hP hS hsz hao (ci_X5 (g := g) (k := k + 90) l (by rw [hk0]; exact zb_atB (Or.inr (Or.inr ⟨1, by decide, rfl⟩))) (va_up_self _ _ _)) cj_X7_9 hl.1 (Nat.le_of_ble_eq_true rfl) ⟨Nat.le_of_ble_eq_true rfl, Nat.le_of_ble_eq_true rfl⟩ ⟨Nat.le_of_ble_eq_true rfl, Nat.le_of_ble_eq_true rfl⟩ dX7_init_147 (fun H locs hP hS => ?_)
  rw [zb_bfin (n := 90) (z := 24) (by decide) (by decide) (fun q h1 h2 => (zb_Fp_ne (by omega) (by omega)).symm)] at hP
  simp only [Nat.reduceAdd] at hP
  refine zr_aastore49 (k := k) (n := 114) (v := 90) X hP hS hk0 (by decide) (by decide) (by decide) (zb_bldF (by decide) (by decide) (zb_Fp_ne (by omega) (by omega)) (zb_Fo5 (show zb_kd (k + 90) = (5, 12) by rw [hk0]; decide))) (by unfold vp_in; decide) 1 (by decide) dX7_init_150 (fun H locs hP hS => ?_)
  refine lv_iinc (v := (2 : Int32)) (lv' := [(1, .int (2 : Int32)), (0, .ref (g.2.2 + k))]) hx hb dX7_init_151 hl (k := 0) rfl rfl (by decide) rfl (fun ls hl => ?_)
  refine lv_goto (tgt := 132) hx hb dX7_init_154 (by decide) ?_
  refine lv_iload_n hx hb dX7_init_132 rfl (lv_at hl 0 rfl) ?_
  refine lv_bipush (v := (8 : Int32)) hx hb dX7_init_133 (by decide) ?_
  refine lv_icmp_ge (tgt := 157) hx hb dX7_init_135 (by decide) (fun hc => absurd hc (by decide)) (fun _ => ?_)
  refine lv_aload_n hx hb dX7_init_138 rfl (lv_at hl 1 rfl) ?_
  refine zr_get (C := RX7) (T := TX7) (N := 16) X hP (by omega) zb_bself rfl wi_7 2 (by decide) wf_X7_19 rfl dX7_init_139 ?_
  refine lv_iload_n hx hb dX7_init_142 rfl (lv_at hl 0 rfl) ?_
  refine zr_sz hP (by omega) (by omega) (fun hsz => ?_)
  refine zr_newo (ci := 5) (fs := zb_df 5) X hP hS hsz rfl wi_5 tyX5 tyX5_ok wn_X7_7 wt_X5 wu_X5 (by decide) (Nat.le_of_ble_eq_true rfl) (Nat.le_of_ble_eq_true rfl) dX7_init_143 (fun H hP hS => ?_)
  refine lv_dup hx hb dX7_init_146 rfl ?_
  refine zr_sz hP (by omega) (by omega) (fun hsz => ?_)
  refine zr_cJ X hP hS hsz hao (ci_X5 (g := g) (k := k + 114) l (by rw [hk0]; exact zb_atB (Or.inr (Or.inr ⟨2, by decide, rfl⟩))) (va_up_self _ _ _)) cj_X7_9 hl.1 (Nat.le_of_ble_eq_true rfl) ⟨Nat.le_of_ble_eq_true rfl, Nat.le_of_ble_eq_true rfl⟩ ⟨Nat.le_of_ble_eq_true rfl, Nat.le_of_ble_eq_true rfl⟩ dX7_init_147 (fun H locs hP hS => ?_)
  rw [zb_bfin (n := 114) (z := 24) (by decide) (by decide) (fun q h1 h2 => (zb_Fp_ne (by omega) (by omega)).symm)] at hP
  simp only [Nat.reduceAdd] at hP
  refine zr_aastore49 (k := k) (n := 138) (v := 114) X hP hS hk0 (by decide) (by decide) (by decide) (zb_bldF (by decide) (by decide) (zb_Fp_ne (by omega) (by omega)) (zb_Fo5 (show zb_kd (k + 114) = (5, 12) by rw [hk0]; decide))) (by unfold vp_in; decide) 2 (by decide) dX7_init_150 (fun H locs hP hS => ?_)
  refine lv_iinc (v := (3 : Int32)) (lv' := [(1, .int (3 : Int32)), (0, .ref (g.2.2 + k))]) hx hb dX7_init_151 hl (k := 0) rfl rfl (by decide) rfl (fun ls hl => ?_)
  refine lv_goto (tgt := 132) hx hb dX7_init_154 (by decide) ?_
  refine lv_iload_n hx hb dX7_init_132 rfl (lv_at hl 0 rfl) ?_
  refine lv_bipush (v := (8 : Int32)) hx hb dX7_init_133 (by decide) ?_
  refine lv_icmp_ge (tgt := 157) hx hb dX7_init_135 (by decide) (fun hc => absurd hc (by decide)) (fun _ => ?_)
  refine lv_aload_n hx hb dX7_init_138 rfl (lv_at hl 1 rfl) ?_
  refine zr_get (C := RX7) (T := TX7) (N := 16) X hP (by omega) zb_bself rfl wi_7 2 (by decide) wf_X7_19 rfl dX7_init_139 ?_
  refine lv_iload_n hx hb dX7_init_142 rfl (lv_at hl 0 rfl) ?_
  refine zr_sz hP (by omega) (by omega) (fun hsz => ?_)
  refine zr_newo (ci := 5) (fs := zb_df 5) X hP hS hsz rfl wi_5 tyX5 tyX5_ok wn_X7_7 wt_X5 wu_X5 (by decide) (Nat.le_of_ble_eq_true rfl) (Nat.le_of_ble_eq_true rfl) dX7_init_143 (fun H hP hS => ?_)
  refine lv_dup hx hb dX7_init_146 rfl ?_
  refine zr_sz hP (by omega) (by omega) (fun hsz => ?_)
  refine zr_cJ X hP hS hsz hao (ci_X5 (g := g) (k := k + 138) l (by rw [hk0]; exact zb_atB (Or.inr (Or.inr ⟨3, by decide, rfl⟩))) (va_up_self _ _ _)) cj_X7_9 hl.1 (Nat.le_of_ble_eq_true rfl) ⟨Nat.le_of_ble_eq_true rfl, Nat.le_of_ble_eq_true rfl⟩ ⟨Nat.le_of_ble_eq_true rfl, Nat.le_of_ble_eq_true rfl⟩ dX7_init_147 (fun H locs hP hS => ?_)
  rw [zb_bfin (n := 138) (z := 24) (by decide) (by decide) (fun q h1 h2 => (zb_Fp_ne (by omega) (by omega)).symm)] at hP
  simp only [Nat.reduceAdd] at hP
  refine zr_aastore49 (k := k) (n := 162) (v := 138) X hP hS hk0 (by decide) (by decide) (by decide) (zb_bldF (by decide) (by decide) (zb_Fp_ne (by omega) (by omega)) (zb_Fo5 (show zb_kd (k + 138) = (5, 12) by rw [hk0]; decide))) (by unfold vp_in; decide) 3 (by decide) dX7_init_150 (fun H locs hP hS => ?_)
  refine lv_iinc (v := (4 : Int32)) (lv' := [(1, .int (4 : Int32)), (0, .ref (g.2.2 + k))]) hx hb dX7_init_151 hl (k := 0) rfl rfl (by decide) rfl (fun ls hl => ?_)
  refine lv_goto (tgt := 132) hx hb dX7_init_154 (by decide) ?_
  refine lv_iload_n hx hb dX7_init_132 rfl (lv_at hl 0 rfl) ?_
  refine lv_bipush (v := (8 : Int32)) hx hb dX7_init_133 (by decide) ?_
  refine lv_icmp_ge (tgt := 157) hx hb dX7_init_135 (by decide) (fun hc => absurd hc (by decide)) (fun _ => ?_)
  refine lv_aload_n hx hb dX7_init_138 rfl (lv_at hl 1 rfl) ?_
  refine zr_get (C := RX7) (T := TX7) (N := 16) X hP (by omega) zb_bself rfl wi_7 2 (by decide) wf_X7_19 rfl dX7_init_139 ?_
  refine lv_iload_n hx hb dX7_init_142 rfl (lv_at hl 0 rfl) ?_
  refine zr_sz hP (by omega) (by omega) (fun hsz => ?_)
  refine zr_newo (ci := 5) (fs := zb_df 5) X hP hS hsz rfl wi_5 tyX5 tyX5_ok wn_X7_7 wt_X5 wu_X5 (by decide) (Nat.le_of_ble_eq_true rfl) (Nat.le_of_ble_eq_true rfl) dX7_init_143 (fun H hP hS => ?_)
  refine lv_dup hx hb dX7_init_146 rfl ?_
  refine zr_sz hP (by omega) (by omega) (fun hsz => ?_)
  refine zr_cJ X hP hS hsz hao (ci_X5 (g := g) (k := k + 162) l (by rw [hk0]; exact zb_atB (Or.inr (Or.inr ⟨4, by decide, rfl⟩))) (va_up_self _ _ _)) cj_X7_9 hl.1 (Nat.le_of_ble_eq_true rfl) ⟨Nat.le_of_ble_eq_true rfl, Nat.le_of_ble_eq_true rfl⟩ ⟨Nat.le_of_ble_eq_true rfl, Nat.le_of_ble_eq_true rfl⟩ dX7_init_147 (fun H locs hP hS => ?_)
  rw [zb_bfin (n := 162) (z := 24) (by decide) (by decide) (fun q h1 h2 => (zb_Fp_ne (by omega) (by omega)).symm)] at hP
  simp only [Nat.reduceAdd] at hP
  refine zr_aastore49 (k := k) (n := 186) (v := 162) X hP hS hk0 (by decide) (by decide) (by decide) (zb_bldF (by decide) (by decide) (zb_Fp_ne (by omega) (by omega)) (zb_Fo5 (show zb_kd (k + 162) = (5, 12) by rw [hk0]; decide))) (by unfold vp_in; decide) 4 (by decide) dX7_init_150 (fun H locs hP hS => ?_)
  refine lv_iinc (v := (5 : Int32)) (lv' := [(1, .int (5 : Int32)), (0, .ref (g.2.2 + k))]) hx hb dX7_init_151 hl (k := 0) rfl rfl (by decide) rfl (fun ls hl => ?_)
  refine lv_goto (tgt := 132) hx hb dX7_init_154 (by decide) ?_
  refine lv_iload_n hx hb dX7_init_132 rfl (lv_at hl 0 rfl) ?_
  refine lv_bipush (v := (8 : Int32)) hx hb dX7_init_133 (by decide) ?_
  refine lv_icmp_ge (tgt := 157) hx hb dX7_init_135 (by decide) (fun hc => absurd hc (by decide)) (fun _ => ?_)
  refine lv_aload_n hx hb dX7_init_138 rfl (lv_at hl 1 rfl) ?_
  refine zr_get (C := RX7) (T := TX7) (N := 16) X hP (by omega) zb_bself rfl wi_7 2 (by decide) wf_X7_19 rfl dX7_init_139 ?_
  refine lv_iload_n hx hb dX7_init_142 rfl (lv_at hl 0 rfl) ?_
  refine zr_sz hP (by omega) (by omega) (fun hsz => ?_)
  refine zr_newo (ci := 5) (fs := zb_df 5) X hP hS hsz rfl wi_5 tyX5 tyX5_ok wn_X7_7 wt_X5 wu_X5 (by decide) (Nat.le_of_ble_eq_true rfl) (Nat.le_of_ble_eq_true rfl) dX7_init_143 (fun H hP hS => ?_)
  refine lv_dup hx hb dX7_init_146 rfl ?_
  refine zr_sz hP (by omega) (by omega) (fun hsz => ?_)
  refine zr_cJ X hP hS hsz hao (ci_X5 (g := g) (k := k + 186) l (by rw [hk0]; exact zb_atB (Or.inr (Or.inr ⟨5, by decide, rfl⟩))) (va_up_self _ _ _)) cj_X7_9 hl.1 (Nat.le_of_ble_eq_true rfl) ⟨Nat.le_of_ble_eq_true rfl, Nat.le_of_ble_eq_true rfl⟩ ⟨Nat.le_of_ble_eq_true rfl, Nat.le_of_ble_eq_true rfl⟩ dX7_init_147 (fun H locs hP hS => ?_)
  rw [zb_bfin (n := 186) (z := 24) (by decide) (by decide) (fun q h1 h2 => (zb_Fp_ne (by omega) (by omega)).symm)] at hP
  simp only [Nat.reduceAdd] at hP
  refine zr_aastore49 (k := k) (n := 210) (v := 186) X hP hS hk0 (by decide) (by decide) (by decide) (zb_bldF (by decide) (by decide) (zb_Fp_ne (by omega) (by omega)) (zb_Fo5 (show zb_kd (k + 186) = (5, 12) by rw [hk0]; decide))) (by unfold vp_in; decide) 5 (by decide) dX7_init_150 (fun H locs hP hS => ?_)
  refine lv_iinc (v := (6 : Int32)) (lv' := [(1, .int (6 : Int32)), (0, .ref (g.2.2 + k))]) hx hb dX7_init_151 hl (k := 0) rfl rfl (by decide) rfl (fun ls hl => ?_)
  refine lv_goto (tgt := 132) hx hb dX7_init_154 (by decide) ?_
  refine lv_iload_n hx hb dX7_init_132 rfl (lv_at hl 0 rfl) ?_
  refine lv_bipush (v := (8 : Int32)) hx hb dX7_init_133 (by decide) ?_
  refine lv_icmp_ge (tgt := 157) hx hb dX7_init_135 (by decide) (fun hc => absurd hc (by decide)) (fun _ => ?_)
  refine lv_aload_n hx hb dX7_init_138 rfl (lv_at hl 1 rfl) ?_
  refine zr_get (C := RX7) (T := TX7) (N := 16) X hP (by omega) zb_bself rfl wi_7 2 (by decide) wf_X7_19 rfl dX7_init_139 ?_
  refine lv_iload_n hx hb dX7_init_142 rfl (lv_at hl 0 rfl) ?_
  refine zr_sz hP (by omega) (by omega) (fun hsz => ?_)
  refine zr_newo (ci := 5) (fs := zb_df 5) X hP hS hsz rfl wi_5 tyX5 tyX5_ok wn_X7_7 wt_X5 wu_X5 (by decide) (Nat.le_of_ble_eq_true rfl) (Nat.le_of_ble_eq_true rfl) dX7_init_143 (fun H hP hS => ?_)
  refine lv_dup hx hb dX7_init_146 rfl ?_
  refine zr_sz hP (by omega) (by omega) (fun hsz => ?_)
  refine zr_cJ X hP hS hsz hao (ci_X5 (g := g) (k := k + 210) l (by rw [hk0]; exact zb_atB (Or.inr (Or.inr ⟨6, by decide, rfl⟩))) (va_up_self _ _ _)) cj_X7_9 hl.1 (Nat.le_of_ble_eq_true rfl) ⟨Nat.le_of_ble_eq_true rfl, Nat.le_of_ble_eq_true rfl⟩ ⟨Nat.le_of_ble_eq_true rfl, Nat.le_of_ble_eq_true rfl⟩ dX7_init_147 (fun H locs hP hS => ?_)
  rw [zb_bfin (n := 210) (z := 24) (by decide) (by decide) (fun q h1 h2 => (zb_Fp_ne (by omega) (by omega)).symm)] at hP
  simp only [Nat.reduceAdd] at hP
  refine zr_aastore49 (k := k) (n := 234) (v := 210) X hP hS hk0 (by decide) (by decide) (by decide) (zb_bldF (by decide) (by decide) (zb_Fp_ne (by omega) (by omega)) (zb_Fo5 (show zb_kd (k + 210) = (5, 12) by rw [hk0]; decide))) (by unfold vp_in; decide) 6 (by decide) dX7_init_150 (fun H locs hP hS => ?_)
  refine lv_iinc (v := (7 : Int32)) (lv' := [(1, .int (7 : Int32)), (0, .ref (g.2.2 + k))]) hx hb dX7_init_151 hl (k := 0) rfl rfl (by decide) rfl (fun ls hl => ?_)
  refine lv_goto (tgt := 132) hx hb dX7_init_154 (by decide) ?_
  refine lv_iload_n hx hb dX7_init_132 rfl (lv_at hl 0 rfl) ?_
  refine lv_bipush (v := (8 : Int32)) hx hb dX7_init_133 (by decide) ?_
  refine lv_icmp_ge (tgt := 157) hx hb dX7_init_135 (by decide) (fun hc => absurd hc (by decide)) (fun _ => ?_)
  refine lv_aload_n hx hb dX7_init_138 rfl (lv_at hl 1 rfl) ?_
  refine zr_get (C := RX7) (T := TX7) (N := 16) X hP (by omega) zb_bself rfl wi_7 2 (by decide) wf_X7_19 rfl dX7_init_139 ?_
  refine lv_iload_n hx hb dX7_init_142 rfl (lv_at hl 0 rfl) ?_
  refine zr_sz hP (by omega) (by omega) (fun hsz => ?_)
  refine zr_newo (ci := 5) (fs := zb_df 5) X hP hS hsz rfl wi_5 tyX5 tyX5_ok wn_X7_7 wt_X5 wu_X5 (by decide) (Nat.le_of_ble_eq_true rfl) (Nat.le_of_ble_eq_true rfl) dX7_init_143 (fun H hP hS => ?_)
  refine lv_dup hx hb dX7_init_146 rfl ?_
  refine zr_sz hP (by omega) (by omega) (fun hsz => ?_)
  refine zr_cJ X hP hS hsz hao (ci_X5 (g := g) (k := k + 234) l (by rw [hk0]; exact zb_atB (Or.inr (Or.inr ⟨7, by decide, rfl⟩))) (va_up_self _ _ _)) cj_X7_9 hl.1 (Nat.le_of_ble_eq_true rfl) ⟨Nat.le_of_ble_eq_true rfl, Nat.le_of_ble_eq_true rfl⟩ ⟨Nat.le_of_ble_eq_true rfl, Nat.le_of_ble_eq_true rfl⟩ dX7_init_147 (fun H locs hP hS => ?_)
  rw [zb_bfin (n := 234) (z := 24) (by decide) (by decide) (fun q h1 h2 => (zb_Fp_ne (by omega) (by omega)).symm)] at hP
  simp only [Nat.reduceAdd] at hP
  refine zr_aastore49 (k := k) (n := 258) (v := 234) X hP hS hk0 (by decide) (by decide) (by decide) (zb_bldF (by decide) (by decide) (zb_Fp_ne (by omega) (by omega)) (zb_Fo5 (show zb_kd (k + 234) = (5, 12) by rw [hk0]; decide))) (by unfold vp_in; decide) 7 (by decide) dX7_init_150 (fun H locs hP hS => ?_)
  refine lv_iinc (v := (8 : Int32)) (lv' := [(1, .int (8 : Int32)), (0, .ref (g.2.2 + k))]) hx hb dX7_init_151 hl (k := 0) rfl rfl (by decide) rfl (fun ls hl => ?_)
  refine lv_goto (tgt := 132) hx hb dX7_init_154 (by decide) ?_
  refine lv_iload_n hx hb dX7_init_132 rfl (lv_at hl 0 rfl) ?_
  refine lv_bipush (v := (8 : Int32)) hx hb dX7_init_133 (by decide) ?_
  refine lv_icmp_ge (tgt := 157) hx hb dX7_init_135 (by decide) (fun _ => ?_) (fun hc => absurd (by decide) hc)
  refine lv_iconst (v := (0 : Int32)) hx hb dX7_init_157 (by decide) ?_
  refine lv_istore_n (lv' := [(1, .int (0 : Int32)), (0, .ref (g.2.2 + k))]) hx hb dX7_init_158 rfl hl (by decide) rfl (fun ls hl => ?_)
  refine lv_iload_n hx hb dX7_init_159 rfl (lv_at hl 0 rfl) ?_
  refine lv_iconst (v := (2 : Int32)) hx hb dX7_init_160 (by decide) ?_
  refine lv_icmp_ge (tgt := 183) hx hb dX7_init_161 (by decide) (fun hc => absurd hc (by decide)) (fun _ => ?_)
  refine lv_aload_n hx hb dX7_init_164 rfl (lv_at hl 1 rfl) ?_
  refine zr_get (C := RX7) (T := TX7) (N := 16) X hP (by omega) zb_bself rfl wi_7 5 (by decide) wf_X7_30 rfl dX7_init_165 ?_
  refine lv_iload_n hx hb dX7_init_168 rfl (lv_at hl 0 rfl) ?_
  refine zr_sz hP (by omega) (by omega) (fun hsz => ?_)
  refine zr_newo (ci := 5) (fs := zb_df 5) X hP hS hsz rfl wi_5 tyX5 tyX5_ok wn_X7_7 wt_X5 wu_X5 (by decide) (Nat.le_of_ble_eq_true rfl) (Nat.le_of_ble_eq_true rfl) dX7_init_169 (fun H hP hS => ?_)
  refine lv_dup hx hb dX7_init_172 rfl ?_
  refine zr_sz hP (by omega) (by omega) (fun hsz => ?_)
  refine zr_cJ X hP hS hsz hao (ci_X5 (g := g) (k := k + 258) l (by rw [hk0]; exact zb_atB (Or.inr (Or.inr ⟨8, by decide, rfl⟩))) (va_up_self _ _ _)) cj_X7_9 hl.1 (Nat.le_of_ble_eq_true rfl) ⟨Nat.le_of_ble_eq_true rfl, Nat.le_of_ble_eq_true rfl⟩ ⟨Nat.le_of_ble_eq_true rfl, Nat.le_of_ble_eq_true rfl⟩ dX7_init_173 (fun H locs hP hS => ?_)
  rw [zb_bfin (n := 258) (z := 24) (by decide) (by decide) (fun q h1 h2 => (zb_Fp_ne (by omega) (by omega)).symm)] at hP
  simp only [Nat.reduceAdd] at hP
  refine zr_aastore50 (k := k) (n := 282) (v := 258) X hP hS hk0 (by decide) (by decide) (by decide) (zb_bldF (by decide) (by decide) (zb_Fp_ne (by omega) (by omega)) (zb_Fo5 (show zb_kd (k + 258) = (5, 12) by rw [hk0]; decide))) (by unfold vp_in; decide) 0 (by decide) dX7_init_176 (fun H locs hP hS => ?_)
  refine lv_iinc (v := (1 : Int32)) (lv' := [(1, .int (1 : Int32)), (0, .ref (g.2.2 + k))]) hx hb dX7_init_177 hl (k := 0) rfl rfl (by decide) rfl (fun ls hl => ?_)
  refine lv_goto (tgt := 159) hx hb dX7_init_180 (by decide) ?_
  refine lv_iload_n hx hb dX7_init_159 rfl (lv_at hl 0 rfl) ?_
  refine lv_iconst (v := (2 : Int32)) hx hb dX7_init_160 (by decide) ?_
  refine lv_icmp_ge (tgt := 183) hx hb dX7_init_161 (by decide) (fun hc => absurd hc (by decide)) (fun _ => ?_)
  refine lv_aload_n hx hb dX7_init_164 rfl (lv_at hl 1 rfl) ?_
  refine zr_get (C := RX7) (T := TX7) (N := 16) X hP (by omega) zb_bself rfl wi_7 5 (by decide) wf_X7_30 rfl dX7_init_165 ?_
  refine lv_iload_n hx hb dX7_init_168 rfl (lv_at hl 0 rfl) ?_
  refine zr_sz hP (by omega) (by omega) (fun hsz => ?_)
  refine zr_newo (ci := 5) (fs := zb_df 5) X hP hS hsz rfl wi_5 tyX5 tyX5_ok wn_X7_7 wt_X5 wu_X5 (by decide) (Nat.le_of_ble_eq_true rfl) (Nat.le_of_ble_eq_true rfl) dX7_init_169 (fun H hP hS => ?_)
  refine lv_dup hx hb dX7_init_172 rfl ?_
  refine zr_sz hP (by omega) (by omega) (fun hsz => ?_)
  refine zr_cJ X hP hS hsz hao (ci_X5 (g := g) (k := k + 282) l (by rw [hk0]; exact zb_atB (Or.inr (Or.inr ⟨9, by decide, rfl⟩))) (va_up_self _ _ _)) cj_X7_9 hl.1 (Nat.le_of_ble_eq_true rfl) ⟨Nat.le_of_ble_eq_true rfl, Nat.le_of_ble_eq_true rfl⟩ ⟨Nat.le_of_ble_eq_true rfl, Nat.le_of_ble_eq_true rfl⟩ dX7_init_173 (fun H locs hP hS => ?_)
  rw [zb_bfin (n := 282) (z := 24) (by decide) (by decide) (fun q h1 h2 => (zb_Fp_ne (by omega) (by omega)).symm)] at hP
  simp only [Nat.reduceAdd] at hP
  refine zr_aastore50 (k := k) (n := 306) (v := 282) X hP hS hk0 (by decide) (by decide) (by decide) (zb_bldF (by decide) (by decide) (zb_Fp_ne (by omega) (by omega)) (zb_Fo5 (show zb_kd (k + 282) = (5, 12) by rw [hk0]; decide))) (by unfold vp_in; decide) 1 (by decide) dX7_init_176 (fun H locs hP hS => ?_)
  refine lv_iinc (v := (2 : Int32)) (lv' := [(1, .int (2 : Int32)), (0, .ref (g.2.2 + k))]) hx hb dX7_init_177 hl (k := 0) rfl rfl (by decide) rfl (fun ls hl => ?_)
  refine lv_goto (tgt := 159) hx hb dX7_init_180 (by decide) ?_
  refine lv_iload_n hx hb dX7_init_159 rfl (lv_at hl 0 rfl) ?_
  refine lv_iconst (v := (2 : Int32)) hx hb dX7_init_160 (by decide) ?_
  refine lv_icmp_ge (tgt := 183) hx hb dX7_init_161 (by decide) (fun _ => ?_) (fun hc => absurd (by decide) hc)
  rw [zb_bend (by decide) (((zb_Fp_ne (by omega) (by omega)).trans (zb_Fo7 (q := k) (show zb_kd k = (7, 16) by rw [hk0]; decide))).trans (by rfl))] at hP
  subst hk0
  rw [zb_x7 (fun i => zb_f8 (B := g.2.2) (f := zb_f490 g) (fun i h => by unfold zb_f490; rw [if_neg (by omega)]) i) (fun i => zb_f2 (B := g.2.2) (f := zb_f500 g) (fun i h => by unfold zb_f500; rw [if_neg (by omega)]) i)] at hP
  have hl : lv_has ls 2 [(1, .int (2 : Int32)), (0, .ref (g.2.2 + 0))] := hl
  have hnI : 306 ≤ 306 := Nat.le_refl _
  rw [fX7_initT] at hf
  refine lv_aload_n hx hb dX7_init_183 rfl (lv_at hl 1 rfl) ?_
  refine gf_X7_10 X hnI hP zk_0 dX7_init_184 ?_
  obtain ⟨I1, hI1, hf⟩ := ob_e hf
  refine zr_cVv (rest := []) (As := []) X hP hS (ct_X5_clear (g := g) (nc := 306) (I := mem0) (J := mem0) (O := mem0) hnI l zb_isB1 hI1) cw_X7_76 (zr_recv X hP (Nat.lt_of_lt_of_le (zk_1).1 hnI) (zb_ceIo zk_1 (by decide)) rfl) rfl hl.1 (Nat.le_of_ble_eq_true rfl) ⟨Nat.le_of_ble_eq_true rfl, Nat.le_of_ble_eq_true rfl⟩ ⟨Nat.le_of_ble_eq_true rfl, Nat.le_of_ble_eq_true rfl⟩ dX7_init_187 rfl (fun H locs hP hS => ?_)
  refine lv_aload_n hx hb dX7_init_190 rfl (lv_at hl 1 rfl) ?_
  refine gf_X7_10 X hnI hP zk_0 dX7_init_191 ?_
  refine lv_bipush (v := (20 : Int32)) hx hb dX7_init_194 (by decide) ?_
  refine pf_X7_79 X hnI hP hS zk_1 dX7_init_196 (fun H locs hP hS => ?_)
  refine lv_aload_n hx hb dX7_init_199 rfl (lv_at hl 1 rfl) ?_
  refine gf_X7_10 X hnI hP zk_0 dX7_init_200 ?_
  refine lv_iconst (v := (3 : Int32)) hx hb dX7_init_203 (by decide) ?_
  refine pf_X7_82 X hnI hP hS zk_1 dX7_init_204 (fun H locs hP hS => ?_)
  refine lv_aload_n hx hb dX7_init_207 rfl (lv_at hl 1 rfl) ?_
  refine gf_X7_10 X hnI hP zk_0 dX7_init_208 ?_
  refine lv_iconst (v := (2 : Int32)) hx hb dX7_init_211 (by decide) ?_
  refine pf_X7_85 X hnI hP hS zk_1 dX7_init_212 (fun H locs hP hS => ?_)
  refine lv_aload_n hx hb dX7_init_215 rfl (lv_at hl 1 rfl) ?_
  refine gf_X7_10 X hnI hP zk_0 dX7_init_216 ?_
  refine gf_X7_88 X hnI hP zk_1 dX7_init_219 ?_
  refine lv_iconst (v := (0 : Int32)) hx hb dX7_init_222 (by decide) ?_
  refine lv_iconst (v := (1 : Int32)) hx hb dX7_init_223 (by decide) ?_
  refine lv_bipush (v := (9 : Int32)) hx hb dX7_init_224 (by decide) ?_
  refine lv_iconst (v := (0 : Int32)) hx hb dX7_init_226 (by decide) ?_
  obtain ⟨I2, hI2, hf⟩ := ob_e hf
  refine zr_cVv (rest := []) (As := [.int (0 : Int32), .int (1 : Int32), .int (9 : Int32), .int (0 : Int32)]) X hP hS (ct_X0_add (g := g) (nc := 306) (I := (wr (wr (wr I1 1 3 (20 : Int32)) 1 4 (3 : Int32)) 1 5 (2 : Int32))) (J := mem0) (O := mem0) hnI l zb_isB1 hI2) cw_X7_92 (zr_recv X hP (Nat.lt_of_lt_of_le (zk_2).1 hnI) (zb_ceIo zk_2 (by decide)) rfl) rfl hl.1 (Nat.le_of_ble_eq_true rfl) ⟨Nat.le_of_ble_eq_true rfl, Nat.le_of_ble_eq_true rfl⟩ ⟨Nat.le_of_ble_eq_true rfl, Nat.le_of_ble_eq_true rfl⟩ dX7_init_227 rfl (fun H locs hP hS => ?_)
  refine lv_aload_n hx hb dX7_init_230 rfl (lv_at hl 1 rfl) ?_
  refine gf_X7_10 X hnI hP zk_0 dX7_init_231 ?_
  refine gf_X7_88 X hnI hP zk_1 dX7_init_234 ?_
  refine lv_bipush (v := (100 : Int32)) hx hb dX7_init_237 (by decide) ?_
  refine lv_iconst (v := (1 : Int32)) hx hb dX7_init_239 (by decide) ?_
  refine lv_bipush (v := (9 : Int32)) hx hb dX7_init_240 (by decide) ?_
  refine lv_iconst (v := (0 : Int32)) hx hb dX7_init_242 (by decide) ?_
  obtain ⟨I3, hI3, hf⟩ := ob_e hf
  refine zr_cVv (rest := []) (As := [.int (100 : Int32), .int (1 : Int32), .int (9 : Int32), .int (0 : Int32)]) X hP hS (ct_X0_add (g := g) (nc := 306) (I := I2) (J := mem0) (O := mem0) hnI l zb_isB1 hI3) cw_X7_92 (zr_recv X hP (Nat.lt_of_lt_of_le (zk_2).1 hnI) (zb_ceIo zk_2 (by decide)) rfl) rfl hl.1 (Nat.le_of_ble_eq_true rfl) ⟨Nat.le_of_ble_eq_true rfl, Nat.le_of_ble_eq_true rfl⟩ ⟨Nat.le_of_ble_eq_true rfl, Nat.le_of_ble_eq_true rfl⟩ dX7_init_243 rfl (fun H locs hP hS => ?_)
  cases hf
  exact zr_vret X hr hP hS rfl dX7_init_246
def fX8_initT (J : Mem) : Option Mem :=
  Option.bind (fX8_empties 307 J) fun J1 =>
  Option.bind (ast J1 307 574 (0 : Int32) (2 : Int32)) fun J2 =>
  Option.bind (ast J2 307 574 (1 : Int32) (20 : Int32)) fun J3 =>
  Option.bind (ast J3 307 574 (2 : Int32) (3 : Int32)) fun J4 =>
  Option.bind (ast J4 307 574 (3 : Int32) (2 : Int32)) fun J5 =>
  Option.bind (fX8_lays 307 (0 : Int32) (0 : Int32) (1 : Int32) (9 : Int32) (0 : Int32) J5) fun J6 =>
  Option.bind (fX8_lays 307 (1 : Int32) (100 : Int32) (1 : Int32) (9 : Int32) (0 : Int32) J6) fun J7 =>
  some J7
set_option maxHeartbeats 4000000 in
set_option maxRecDepth 100000 in
theorem ci_X8 {g : zb_G} {C0 : Nat → va_E} {k : Nat} (hk0 : k = 306) (l : Launch) {I Jq : Mem} (hf : fX8_initT mem0 = some Jq) (h0 : C0 k = .inr (8, zb_df 8)) (h1 : ∀ q, q < 306 → C0 q = zb_ce g I mem0 mem0 q) : zb_Cn l g yX8_init cX8_init 1 1 25 11 8979 [.ref (g.2.2 + k)] (k + 1) C0 318 (zb_ce g I Jq mem0) := by
  refine zb_ofN (own := RX8) (by decide +kernel) rfl rfl (Nat.le_of_ble_eq_true rfl) ?_
  intro p e s m args below meth c ls X hr hnm hs0 hao hP hl
  have hx := X.1.1
  have hb := X.1.2.1
  have ho := X.1.2.2.2.1
  have hts := X.1.2.2.2.2
  have hZ := X.2.2.2
  have hl : lv_has ls 1 [(0, .ref (g.2.2 + k))] := hl
  have hS : va_S (zb_A g) s.heap s.heap [] := va_S.rf
  obtain ⟨H, hH⟩ : ∃ H, H = s.heap := ⟨_, rfl⟩
  obtain ⟨locs, hlocs⟩ : ∃ z : List Loc, z = [] := ⟨_, rfl⟩
  rw [← hH] at hP
  have hS : va_S (zb_A g) s.heap H locs := by rw [hH, hlocs]; exact hS
  show W p l e _ s m args below meth c s.heap [] 0 0 _ _
  rw [← hH, ← hlocs]
  rw [zb_bstart (F := zb_F g) h0] at hP
  refine lv_aload_n hx hb dX8_init_0 rfl (lv_at hl 0 rfl) ?_
  refine zr_oi X wo_X8_1 wo_i wo_c hl.1 (Nat.le_of_ble_eq_true rfl) (Nat.le_of_ble_eq_true rfl) dX8_init_1 ?_
  refine lv_aload_n hx hb dX8_init_4 rfl (lv_at hl 0 rfl) ?_
  refine lv_sipush (v := (574 : Int32)) hx hb dX8_init_5 (by decide) ?_
  refine zr_sz hP (by omega) (by omega) (fun hsz => ?_)
  refine zr_newa (N := 574) (a0 := (574, .inl (fun _ => 0))) 0 X hP hS hsz wa_int rfl rfl (fun h => h) (fun _ => rfl) (by decide) (by decide) (by decide) (Nat.le_of_ble_eq_true rfl) (Nat.le_of_ble_eq_true rfl) dX8_init_8 (fun H hP hS => ?_)
  rw [zb_bpush (n := 1) (zb_F10 (show zb_kd (k + 1) = (10, 574) by rw [hk0]; decide)) (by decide)] at hP
  simp only [Nat.reduceAdd] at hP
  refine zr_bput (k := k) (n := 2) X hP hS (by decide) rfl wi_8 tyX8 tyX8_ok nmX8 1 (by decide) wf_X8_7 (Or.inr ⟨rfl, hnm, rfl⟩) (ty := tyX8 1) (by decide +kernel) rfl rfl (Nat.le_of_ble_eq_true rfl) dX8_init_10 (fun H locs hP hS => ?_)
  refine lv_aload_n hx hb dX8_init_13 rfl (lv_at hl 0 rfl) ?_
  refine lv_sipush (v := (574 : Int32)) hx hb dX8_init_14 (by decide) ?_
  refine zr_sz hP (by omega) (by omega) (fun hsz => ?_)
  refine zr_newa (N := 574) (a0 := (574, .inl (fun _ => 0))) 0 X hP hS hsz wa_int rfl rfl (fun h => h) (fun _ => rfl) (by decide) (by decide) (by decide) (Nat.le_of_ble_eq_true rfl) (Nat.le_of_ble_eq_true rfl) dX8_init_17 (fun H hP hS => ?_)
  rw [zb_bpush (n := 2) (zb_F10 (show zb_kd (k + 2) = (10, 574) by rw [hk0]; decide)) (by decide)] at hP
  simp only [Nat.reduceAdd] at hP
  refine zr_bput (k := k) (n := 3) X hP hS (by decide) rfl wi_8 tyX8 tyX8_ok nmX8 2 (by decide) wf_X8_13 (Or.inr ⟨rfl, hnm, rfl⟩) (ty := tyX8 2) (by decide +kernel) rfl rfl (Nat.le_of_ble_eq_true rfl) dX8_init_19 (fun H locs hP hS => ?_)
  refine lv_aload_n hx hb dX8_init_22 rfl (lv_at hl 0 rfl) ?_
  refine lv_sipush (v := (574 : Int32)) hx hb dX8_init_23 (by decide) ?_
  refine zr_sz hP (by omega) (by omega) (fun hsz => ?_)
  refine zr_newa (N := 574) (a0 := (574, .inl (fun _ => 0))) 0 X hP hS hsz wa_int rfl rfl (fun h => h) (fun _ => rfl) (by decide) (by decide) (by decide) (Nat.le_of_ble_eq_true rfl) (Nat.le_of_ble_eq_true rfl) dX8_init_26 (fun H hP hS => ?_)
  rw [zb_bpush (n := 3) (zb_F10 (show zb_kd (k + 3) = (10, 574) by rw [hk0]; decide)) (by decide)] at hP
  simp only [Nat.reduceAdd] at hP
  refine zr_bput (k := k) (n := 4) X hP hS (by decide) rfl wi_8 tyX8 tyX8_ok nmX8 3 (by decide) wf_X8_16 (Or.inr ⟨rfl, hnm, rfl⟩) (ty := tyX8 3) (by decide +kernel) rfl rfl (Nat.le_of_ble_eq_true rfl) dX8_init_28 (fun H locs hP hS => ?_)
  refine lv_aload_n hx hb dX8_init_31 rfl (lv_at hl 0 rfl) ?_
  refine lv_sipush (v := (4592 : Int32)) hx hb dX8_init_32 (by decide) ?_
  refine zr_sz hP (by omega) (by omega) (fun hsz => ?_)
  refine zr_newa (N := 4592) (a0 := (4592, .inl (fun _ => 0))) 0 X hP hS hsz wa_int rfl rfl (fun h => h) (fun _ => rfl) (by decide) (by decide) (by decide) (Nat.le_of_ble_eq_true rfl) (Nat.le_of_ble_eq_true rfl) dX8_init_35 (fun H hP hS => ?_)
  rw [zb_bpush (n := 4) (zb_F10 (show zb_kd (k + 4) = (10, 4592) by rw [hk0]; decide)) (by decide)] at hP
  simp only [Nat.reduceAdd] at hP
  refine zr_bput (k := k) (n := 5) X hP hS (by decide) rfl wi_8 tyX8 tyX8_ok nmX8 4 (by decide) wf_X8_19 (Or.inr ⟨rfl, hnm, rfl⟩) (ty := tyX8 4) (by decide +kernel) rfl rfl (Nat.le_of_ble_eq_true rfl) dX8_init_37 (fun H locs hP hS => ?_)
  refine lv_aload_n hx hb dX8_init_40 rfl (lv_at hl 0 rfl) ?_
  refine lv_sipush (v := (1148 : Int32)) hx hb dX8_init_41 (by decide) ?_
  refine zr_sz hP (by omega) (by omega) (fun hsz => ?_)
  refine zr_newa (N := 1148) (a0 := (1148, .inl (fun _ => 0))) 0 X hP hS hsz wa_int rfl rfl (fun h => h) (fun _ => rfl) (by decide) (by decide) (by decide) (Nat.le_of_ble_eq_true rfl) (Nat.le_of_ble_eq_true rfl) dX8_init_44 (fun H hP hS => ?_)
  rw [zb_bpush (n := 5) (zb_F10 (show zb_kd (k + 5) = (10, 1148) by rw [hk0]; decide)) (by decide)] at hP
  simp only [Nat.reduceAdd] at hP
  refine zr_bput (k := k) (n := 6) X hP hS (by decide) rfl wi_8 tyX8 tyX8_ok nmX8 5 (by decide) wf_X8_22 (Or.inr ⟨rfl, hnm, rfl⟩) (ty := tyX8 5) (by decide +kernel) rfl rfl (Nat.le_of_ble_eq_true rfl) dX8_init_46 (fun H locs hP hS => ?_)
  refine lv_aload_n hx hb dX8_init_49 rfl (lv_at hl 0 rfl) ?_
  refine lv_iconst (v := (2 : Int32)) hx hb dX8_init_50 (by decide) ?_
  refine zr_sz hP (by omega) (by omega) (fun hsz => ?_)
  refine zr_newa (N := 2) (a0 := (2, .inl (fun _ => 0))) 2 X hP hS hsz wa_boolean rfl rfl (fun h => h) (fun _ => rfl) (by decide) (by decide) (by decide) (Nat.le_of_ble_eq_true rfl) (Nat.le_of_ble_eq_true rfl) dX8_init_51 (fun H hP hS => ?_)
  rw [zb_bpush (n := 6) (zb_F13 (show zb_kd (k + 6) = (13, 2) by rw [hk0]; decide)) (by decide)] at hP
  simp only [Nat.reduceAdd] at hP
  refine zr_bput (k := k) (n := 7) X hP hS (by decide) rfl wi_8 tyX8 tyX8_ok nmX8 6 (by decide) wf_X8_25 (Or.inr ⟨rfl, hnm, rfl⟩) (ty := tyX8 6) (by decide +kernel) rfl rfl (Nat.le_of_ble_eq_true rfl) dX8_init_53 (fun H locs hP hS => ?_)
  refine lv_aload_n hx hb dX8_init_56 rfl (lv_at hl 0 rfl) ?_
  refine lv_iconst (v := (5 : Int32)) hx hb dX8_init_57 (by decide) ?_
  refine zr_sz hP (by omega) (by omega) (fun hsz => ?_)
  refine zr_newa (N := 5) (a0 := (5, .inl (fun _ => 0))) 0 X hP hS hsz wa_int rfl rfl (fun h => h) (fun _ => rfl) (by decide) (by decide) (by decide) (Nat.le_of_ble_eq_true rfl) (Nat.le_of_ble_eq_true rfl) dX8_init_58 (fun H hP hS => ?_)
  rw [zb_bpush (n := 7) (zb_F10 (show zb_kd (k + 7) = (10, 5) by rw [hk0]; decide)) (by decide)] at hP
  simp only [Nat.reduceAdd] at hP
  refine zr_bput (k := k) (n := 8) X hP hS (by decide) rfl wi_8 tyX8 tyX8_ok nmX8 7 (by decide) wf_X8_29 (Or.inr ⟨rfl, hnm, rfl⟩) (ty := tyX8 7) (by decide +kernel) rfl rfl (Nat.le_of_ble_eq_true rfl) dX8_init_60 (fun H locs hP hS => ?_)
  refine lv_aload_n hx hb dX8_init_63 rfl (lv_at hl 0 rfl) ?_
  refine lv_sipush (v := (500 : Int32)) hx hb dX8_init_64 (by decide) ?_
  refine zr_sz hP (by omega) (by omega) (fun hsz => ?_)
  refine zr_newa (N := 500) (a0 := (500, .inl (fun _ => 0))) 1 X hP hS hsz wa_byte rfl rfl (fun h => h) (fun _ => rfl) (by decide) (by decide) (by decide) (Nat.le_of_ble_eq_true rfl) (Nat.le_of_ble_eq_true rfl) dX8_init_67 (fun H hP hS => ?_)
  rw [zb_bpush (n := 8) (zb_F14 (show zb_kd (k + 8) = (14, 500) by rw [hk0]; decide)) (by decide)] at hP
  simp only [Nat.reduceAdd] at hP
  refine zr_bput (k := k) (n := 9) X hP hS (by decide) rfl wi_8 tyX8 tyX8_ok nmX8 9 (by decide) wf_X8_32 (Or.inr ⟨rfl, hnm, rfl⟩) (ty := tyX8 9) (by decide +kernel) rfl rfl (Nat.le_of_ble_eq_true rfl) dX8_init_69 (fun H locs hP hS => ?_)
  refine lv_aload_n hx hb dX8_init_72 rfl (lv_at hl 0 rfl) ?_
  refine lv_iconst (v := (-1 : Int32)) hx hb dX8_init_73 (by decide) ?_
  refine zr_bput (k := k) (n := 9) X hP hS (by decide) rfl wi_8 tyX8 tyX8_ok nmX8 16 (by decide) wf_X8_36 (Or.inl rfl) (ty := tyX8 16) (by decide +kernel) rfl rfl (Nat.le_of_ble_eq_true rfl) dX8_init_74 (fun H locs hP hS => ?_)
  refine lv_aload_n hx hb dX8_init_77 rfl (lv_at hl 0 rfl) ?_
  refine lv_bipush (v := (10 : Int32)) hx hb dX8_init_78 (by decide) ?_
  refine zr_sz hP (by omega) (by omega) (fun hsz => ?_)
  refine zr_newa (N := 10) (a0 := (10, .inl (fun _ => 0))) 0 X hP hS hsz wa_int rfl rfl (fun h => h) (fun _ => rfl) (by decide) (by decide) (by decide) (Nat.le_of_ble_eq_true rfl) (Nat.le_of_ble_eq_true rfl) dX8_init_80 (fun H hP hS => ?_)
  rw [zb_bpush (n := 9) (zb_F10 (show zb_kd (k + 9) = (10, 10) by rw [hk0]; decide)) (by decide)] at hP
  simp only [Nat.reduceAdd] at hP
  refine zr_bput (k := k) (n := 10) X hP hS (by decide) rfl wi_8 tyX8 tyX8_ok nmX8 18 (by decide) wf_X8_40 (Or.inr ⟨rfl, hnm, rfl⟩) (ty := tyX8 18) (by decide +kernel) rfl rfl (Nat.le_of_ble_eq_true rfl) dX8_init_82 (fun H locs hP hS => ?_)
  refine lv_aload_n hx hb dX8_init_85 rfl (lv_at hl 0 rfl) ?_
  refine lv_sipush (v := (600 : Int32)) hx hb dX8_init_86 (by decide) ?_
  refine zr_sz hP (by omega) (by omega) (fun hsz => ?_)
  refine zr_newa (N := 600) (a0 := (600, .inl (fun _ => 0))) 0 X hP hS hsz wa_int rfl rfl (fun h => h) (fun _ => rfl) (by decide) (by decide) (by decide) (Nat.le_of_ble_eq_true rfl) (Nat.le_of_ble_eq_true rfl) dX8_init_89 (fun H hP hS => ?_)
  rw [zb_bpush (n := 10) (zb_F10 (show zb_kd (k + 10) = (10, 600) by rw [hk0]; decide)) (by decide)] at hP
  simp only [Nat.reduceAdd] at hP
  refine zr_bput (k := k) (n := 11) X hP hS (by decide) rfl wi_8 tyX8 tyX8_ok nmX8 22 (by decide) wf_X8_43 (Or.inr ⟨rfl, hnm, rfl⟩) (ty := tyX8 22) (by decide +kernel) rfl rfl (Nat.le_of_ble_eq_true rfl) dX8_init_91 (fun H locs hP hS => ?_)
  refine lv_aload_n hx hb dX8_init_94 rfl (lv_at hl 0 rfl) ?_
  refine lv_sipush (v := (400 : Int32)) hx hb dX8_init_95 (by decide) ?_
  refine zr_sz hP (by omega) (by omega) (fun hsz => ?_)
  refine zr_newa (N := 400) (a0 := (400, .inl (fun _ => 0))) 0 X hP hS hsz wa_int rfl rfl (fun h => h) (fun _ => rfl) (by decide) (by decide) (by decide) (Nat.le_of_ble_eq_true rfl) (Nat.le_of_ble_eq_true rfl) dX8_init_98 (fun H hP hS => ?_)
  rw [zb_bpush (n := 11) (zb_F10 (show zb_kd (k + 11) = (10, 400) by rw [hk0]; decide)) (by decide)] at hP
  simp only [Nat.reduceAdd] at hP
  refine zr_bput (k := k) (n := 12) X hP hS (by decide) rfl wi_8 tyX8 tyX8_ok nmX8 25 (by decide) wf_X8_46 (Or.inr ⟨rfl, hnm, rfl⟩) (ty := tyX8 25) (by decide +kernel) rfl rfl (Nat.le_of_ble_eq_true rfl) dX8_init_100 (fun H locs hP hS => ?_)
  rw [zb_bend (by decide) ((zb_Fo8 (q := k) (show zb_kd k = (8, 27) by rw [hk0]; decide)).trans (by rfl))] at hP
  subst hk0
  rw [zb_x8 h1] at hP
  have hl : lv_has ls 1 [(0, .ref (g.2.2 + 306))] := hl
  have hnJ : 318 ≤ 318 := Nat.le_refl _
  rw [fX8_initT] at hf
  refine lv_aload_n hx hb dX8_init_103 rfl (lv_at hl 0 rfl) ?_
  refine gf_X8_7 X hnJ hP zk_306 dX8_init_104 ?_
  obtain ⟨J1, hJ1, hf⟩ := ob_e hf
  refine zr_cSv (rest := []) (As := [.ref (g.2.2 + 307)]) X hP hS (ct_X8_empties (g := g) (nc := 318) (I := I) (J := mem0) (O := mem0) hnJ l zk_307 hJ1) cw_X8_49  rfl hl.1 (Nat.le_of_ble_eq_true rfl) ⟨Nat.le_of_ble_eq_true rfl, Nat.le_of_ble_eq_true rfl⟩ ⟨Nat.le_of_ble_eq_true rfl, Nat.le_of_ble_eq_true rfl⟩ dX8_init_107 rfl (fun H locs hP hS => ?_)
  refine lv_aload_n hx hb dX8_init_110 rfl (lv_at hl 0 rfl) ?_
  refine gf_X8_7 X hnJ hP zk_306 dX8_init_111 ?_
  refine lv_iconst (v := (0 : Int32)) hx hb dX8_init_114 (by decide) ?_
  refine lv_iconst (v := (2 : Int32)) hx hb dX8_init_115 (by decide) ?_
  obtain ⟨J2, hJ2, hf⟩ := ob_e hf
  refine zr_astJ X hP hS hnJ zk_307 hJ2 dX8_init_116 (fun H locs hP hS => ?_)
  refine lv_aload_n hx hb dX8_init_117 rfl (lv_at hl 0 rfl) ?_
  refine gf_X8_7 X hnJ hP zk_306 dX8_init_118 ?_
  refine lv_iconst (v := (1 : Int32)) hx hb dX8_init_121 (by decide) ?_
  refine lv_bipush (v := (20 : Int32)) hx hb dX8_init_122 (by decide) ?_
  obtain ⟨J3, hJ3, hf⟩ := ob_e hf
  refine zr_astJ X hP hS hnJ zk_307 hJ3 dX8_init_124 (fun H locs hP hS => ?_)
  refine lv_aload_n hx hb dX8_init_125 rfl (lv_at hl 0 rfl) ?_
  refine gf_X8_7 X hnJ hP zk_306 dX8_init_126 ?_
  refine lv_iconst (v := (2 : Int32)) hx hb dX8_init_129 (by decide) ?_
  refine lv_iconst (v := (3 : Int32)) hx hb dX8_init_130 (by decide) ?_
  obtain ⟨J4, hJ4, hf⟩ := ob_e hf
  refine zr_astJ X hP hS hnJ zk_307 hJ4 dX8_init_131 (fun H locs hP hS => ?_)
  refine lv_aload_n hx hb dX8_init_132 rfl (lv_at hl 0 rfl) ?_
  refine gf_X8_7 X hnJ hP zk_306 dX8_init_133 ?_
  refine lv_iconst (v := (3 : Int32)) hx hb dX8_init_136 (by decide) ?_
  refine lv_iconst (v := (2 : Int32)) hx hb dX8_init_137 (by decide) ?_
  obtain ⟨J5, hJ5, hf⟩ := ob_e hf
  refine zr_astJ X hP hS hnJ zk_307 hJ5 dX8_init_138 (fun H locs hP hS => ?_)
  refine lv_aload_n hx hb dX8_init_139 rfl (lv_at hl 0 rfl) ?_
  refine gf_X8_7 X hnJ hP zk_306 dX8_init_140 ?_
  refine lv_iconst (v := (0 : Int32)) hx hb dX8_init_143 (by decide) ?_
  refine lv_iconst (v := (0 : Int32)) hx hb dX8_init_144 (by decide) ?_
  refine lv_iconst (v := (1 : Int32)) hx hb dX8_init_145 (by decide) ?_
  refine lv_bipush (v := (9 : Int32)) hx hb dX8_init_146 (by decide) ?_
  refine lv_iconst (v := (0 : Int32)) hx hb dX8_init_148 (by decide) ?_
  obtain ⟨J6, hJ6, hf⟩ := ob_e hf
  refine zr_cSv (rest := []) (As := [.ref (g.2.2 + 307), .int (0 : Int32), .int (0 : Int32), .int (1 : Int32), .int (9 : Int32), .int (0 : Int32)]) X hP hS (ct_X8_lays (g := g) (nc := 318) (I := I) (J := J5) (O := mem0) hnJ l zk_307 hJ6) cw_X8_53  rfl hl.1 (Nat.le_of_ble_eq_true rfl) ⟨Nat.le_of_ble_eq_true rfl, Nat.le_of_ble_eq_true rfl⟩ ⟨Nat.le_of_ble_eq_true rfl, Nat.le_of_ble_eq_true rfl⟩ dX8_init_149 rfl (fun H locs hP hS => ?_)
  refine lv_aload_n hx hb dX8_init_152 rfl (lv_at hl 0 rfl) ?_
  refine gf_X8_7 X hnJ hP zk_306 dX8_init_153 ?_
  refine lv_iconst (v := (1 : Int32)) hx hb dX8_init_156 (by decide) ?_
  refine lv_bipush (v := (100 : Int32)) hx hb dX8_init_157 (by decide) ?_
  refine lv_iconst (v := (1 : Int32)) hx hb dX8_init_159 (by decide) ?_
  refine lv_bipush (v := (9 : Int32)) hx hb dX8_init_160 (by decide) ?_
  refine lv_iconst (v := (0 : Int32)) hx hb dX8_init_162 (by decide) ?_
  obtain ⟨J7, hJ7, hf⟩ := ob_e hf
  refine zr_cSv (rest := []) (As := [.ref (g.2.2 + 307), .int (1 : Int32), .int (100 : Int32), .int (1 : Int32), .int (9 : Int32), .int (0 : Int32)]) X hP hS (ct_X8_lays (g := g) (nc := 318) (I := I) (J := J6) (O := mem0) hnJ l zk_307 hJ7) cw_X8_53  rfl hl.1 (Nat.le_of_ble_eq_true rfl) ⟨Nat.le_of_ble_eq_true rfl, Nat.le_of_ble_eq_true rfl⟩ ⟨Nat.le_of_ble_eq_true rfl, Nat.le_of_ble_eq_true rfl⟩ dX8_init_163 rfl (fun H locs hP hS => ?_)
  cases hf
  exact zr_vret X hr hP hS rfl dX8_init_166
