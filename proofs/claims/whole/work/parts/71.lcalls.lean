/-! THE LAW'S CALLS, ONE BY ONE -/
def zb_cwH (own : String) (index : Nat) (y : MethodName) (cy : ByteArray) (mY : Nat) (hh : List (Nat × Nat × Nat × Nat)) (nY : Nat) : Prop :=
  Cond.methodLink own index y ∈ zb_Wd ∧ Cond.static y ∈ zb_Wd ∧ Cond.initialized y.cls ∈ zb_Wd ∧ Cond.codeWith y cy mY (some .int) hh ∈ zb_Wd ∧ (y.cls ≠ "java/lang/invoke/MethodHandle" ∧ y.cls ≠ "java/lang/invoke/VarHandle" ∧ (parseMethodDescriptor y.desc).map (fun d => d.parameters.length) = some nY)
theorem dcmp_self {v : UInt64} (h : vf_n64 v) : Op.cmpValue (FP.dcmp v v) .l = 0 := by
  have h1 : v.toNat % 2 ^ 63 ≤ 0x7ff0000000000000 := by
    have h2 : (v &&& 0x7fffffffffffffff).toNat ≤ (0x7ff0000000000000 : UInt64).toNat := UInt64.le_iff_toNat_le.mp h
    rw [UInt64.toNat_and] at h2
    rw [show (0x7fffffffffffffff : UInt64).toNat = 2 ^ 63 - 1 by decide, Nat.and_two_pow_sub_one_eq_mod] at h2
    exact h2
  have h3 : Jvm.FP.Core.decode Jvm.FP.Core.b64 v.toNat ≠ .nan := by
    unfold Jvm.FP.Core.decode Jvm.FP.Core.fieldE Jvm.FP.Core.fieldT
    have e1 : Jvm.FP.Core.Fmt.tails Jvm.FP.Core.b64 = 4503599627370496 := by decide
    have e2 : Jvm.FP.Core.Fmt.exps Jvm.FP.Core.b64 = 2048 := by decide
    rw [e1, e2]
    split
    · next h4 =>
      rw [if_pos (by omega)]
      intro h5
      cases h5
    · split <;> (intro h5; cases h5)
  have h4 : FP.dcmp v v = some .eq := by
    show Jvm.FP.Core.order (Jvm.FP.Core.decode Jvm.FP.Core.b64 v.toNat) (Jvm.FP.Core.decode Jvm.FP.Core.b64 v.toNat) = some .eq
    generalize Jvm.FP.Core.decode Jvm.FP.Core.b64 v.toNat = d at h3
    cases d with
    | nan => exact absurd rfl h3
    | inf s => simp [Jvm.FP.Core.order]
    | fin s c q => simp [Jvm.FP.Core.order]
  rw [h4]
  rfl
section LR
variable {p : Program} {l : Launch} {e : Env} {R : Room} {s : State} {m : MethodId} {args : Array Value} {below : List Frame} {meth : Method} {c : Code} {H : Heap} {locs : List Loc} {cells slots : Nat} {Q : State → Prop}
variable {cc : ByteArray} {nL : Nat} {own : String} {g : zb_G} {nc : Nat} {C0 C1 : Nat → va_E} {I J O : Mem} {pc : Nat} {ls : Array Slot} {rest : List Value}
theorem zr_cH {y : MethodName} {cy : ByteArray} {mY nY fr lo mc ms : Nat} {hh : List (Nat × Nat × Nat × Nat)} {As : List Value} {x : Int32} {index : Nat} (X : zb_X g p m c cc nL s args own meth) (hP : va_P g.1 vwCl (zb_ws g nc C0) H) (hS : va_S (zb_A g) s.heap H locs) (hnc : zb_Nc s)
    (hM : zb_Ch l g nc y cy mY hh fr lo mc ms As C0 (some (.int x)) C1) (cw : zb_cwH own index y cy mY hh nY)
    (hn : As.length = nY) (hsz : ls.size = nL) (hW : (rest.map fun v => v.category).sum ≤ 8) (hR : fr + 1 ≤ R.frames ∧ 8 + (mY + 11) + lo ≤ R.locals) (hcs : cells + mc ≤ R.cells ∧ slots + ms ≤ R.slots) (hdg : decode cc pc = .ok (.invokestatic index, 3)) {st : List Value} (hst : st = As.reverse ++ rest)
    (kk : ∀ (H1 : Heap) (locs1 : List Loc), va_P g.1 vwCl (zb_ws g nc C1) H1 → va_S (zb_A g) s.heap H1 locs1 → W p l e R s m args below meth c H1 locs1 (cells + mc) (slots + ms) Q (F0 m (pc + 3) ls (.int x :: rest))) : W p l e R s m args below meth c H locs cells slots Q (F0 m pc ls st) := by
  subst hst
  obtain ⟨S, hlk, hK, hZ⟩ := id X
  have hts := S.2.2.2.2
  have hin : ∀ w ∈ va_wsS own index y (Cond.codeWith y cy mY (some .int) hh :: zb_Wd), w ∈ zb_Wd := fun w hw => by
    simp only [va_wsS, List.cons_append, List.nil_append, List.mem_cons] at hw
    rcases hw with rfl | rfl | rfl | rfl | hw
    · exact cw.1
    · exact cw.2.1
    · exact cw.2.2.1
    · exact cw.2.2.2.1
    · exact hw
  exact zr_back (v := some (.int x)) rfl (vx_runSW (As := As) (rest := rest) S hM (vx_cwSW nY hts (zb_goodIn hin) rfl rfl rfl cw.2.2.2.2 hR) ⟨zb_blindC, fun U hU hW => ⟨zb_pre hK hZ hP hS U hU hW, hnc.moved hW.alike⟩⟩ rfl hn hsz rfl (lv_room hW) hdg hcs) hS kk
theorem zr_sldc {b L n cn : Nat} {i : Int32} {xs : Nat → Int32} (X : zb_X g p m c cc nL s args own meth) (hX : va_X b L xs s s.heap) (hbl : b < s.heap.size) (hbA : ¬ zb_A g b) (hS : va_S (zb_A g) s.heap H locs) (hn : n + cn < L) (hL : L ≤ 3072) (hi : Int32.ofNat cn = i) (hdg : decode cc pc = .ok (.iaload, 1))
    (kk : W p l e R s m args below meth c H locs cells slots Q (F0 m (pc + 1) ls (.int (xs (n + cn)) :: rest))) : W p l e R s m args below meth c H locs cells slots Q (F0 m pc ls (.int (Int32.ofNat n + i) :: .ref b :: rest)) := by
  subst hi
  have e1 : Int32.ofNat n + Int32.ofNat cn = nI (n + cn) := (Int32.ofNat_add n cn).symm
  rw [e1]
  have e2 := nI_clamp (n := n + cn) (by omega)
  have k2 := va_sld (p := p) (l := l) (e := e) (R := R) (below := below) (cells := cells) (slots := slots) (Q := Q) (args := args) (ls := ls) (rest := rest) X.1.1 X.1.2.1 hX hbl hbA hS (nI_in (c := n + cn) (N := L) hn (by omega)) hdg (meth := meth) (m := m)
  rw [e2] at k2
  exact k2 kk
theorem zr_sld0 {b L n : Nat} {xs : Nat → Int32} (X : zb_X g p m c cc nL s args own meth) (hX : va_X b L xs s s.heap) (hbl : b < s.heap.size) (hbA : ¬ zb_A g b) (hS : va_S (zb_A g) s.heap H locs) (hn : n < L) (hL : L ≤ 3072) (hdg : decode cc pc = .ok (.iaload, 1))
    (kk : W p l e R s m args below meth c H locs cells slots Q (F0 m (pc + 1) ls (.int (xs n) :: rest))) : W p l e R s m args below meth c H locs cells slots Q (F0 m pc ls (.int (Int32.ofNat n) :: .ref b :: rest)) := by
  have e2 := nI_clamp (n := n) (by omega)
  have k2 := va_sld (p := p) (l := l) (e := e) (R := R) (below := below) (cells := cells) (slots := slots) (Q := Q) (args := args) (ls := ls) (rest := rest) X.1.1 X.1.2.1 hX hbl hbA hS (nI_in (c := n) (N := L) hn (by omega)) hdg (meth := meth) (m := m)
  rw [e2] at k2
  exact k2 kk
theorem zr_lald {r : Int32} (X : zb_X g p m c cc nL s args own meth) (hP : va_P g.1 vwCl (zb_ws g nc (zb_ce g I J (wr O 318 0 r))) H) (hnO : 320 ≤ nc) (hdg : decode cc pc = .ok (.laload, 1))
    (kk : W p l e R s m args below meth c H locs cells slots Q (F0 m (pc + 1) ls (.long r.toInt64 :: rest))) : W p l e R s m args below meth c H locs cells slots Q (F0 m pc ls (.int 0 :: .ref (g.2.2 + 318) :: rest)) := by
  obtain ⟨⟨hx, hb, -, ho, hts⟩, -, hK, -⟩ := X
  have he := zb_get (g := g) (C := zb_ce g I J (wr O 318 0 r)) (k := 318) (nc := nc) (by omega)
  rw [zb_ce318] at he
  exact va_lald hx hb hK hP 318 4 he rfl (show vp_in 0 1 by unfold vp_in; decide) hdg kk
theorem zr_dald {r : UInt32} (X : zb_X g p m c cc nL s args own meth) (hP : va_P g.1 vwCl (zb_ws g nc (zb_ce g I J (wr O 319 0 r.toInt32))) H) (hnO : 320 ≤ nc) (hdg : decode cc pc = .ok (.daload, 1))
    (kk : W p l e R s m args below meth c H locs cells slots Q (F0 m (pc + 1) ls (.double (FP.f2d r) :: rest))) : W p l e R s m args below meth c H locs cells slots Q (F0 m pc ls (.int 0 :: .ref (g.2.2 + 319) :: rest)) := by
  obtain ⟨⟨hx, hb, -, ho, hts⟩, -, hK, -⟩ := X
  have he := zb_get (g := g) (C := zb_ce g I J (wr O 319 0 r.toInt32)) (k := 319) (nc := nc) (by omega)
  rw [zb_ce319] at he
  exact va_dald hx hb hK hP 319 5 he rfl (show vp_in 0 1 by unfold vp_in; decide) hdg kk
theorem zr_lcmp0 (hx : p.tables.exec = Jvm.exec) (hb : c.code = cc) {x : Int64} (hdg : decode cc pc = .ok (.lcmp, 1))
    (kk : W p l e R s m args below meth c H locs cells slots Q (F0 m (pc + 1) ls (.int 0 :: rest))) : W p l e R s m args below meth c H locs cells slots Q (F0 m pc ls (.long x :: .long x :: rest)) := by
  refine W.lcmp hx hb hdg ?_
  rw [show lg_cmp x x = 0 by simp [lg_cmp]]
  exact kk
end LR
theorem ch_L_126 : zb_cwH RL 126 yL_append cL_append 8 [(0, 16, 19, 13)] 7 := ⟨(zb_in 1017 (by decide +kernel) rfl), (zb_in 1018 (by decide +kernel) rfl), (zb_in 100 (by decide +kernel) rfl), (zb_in 1019 (by decide +kernel) rfl), by decide +kernel⟩
theorem cw_L_131 : zb_cwV RL 131 yX8_append cX8_append 6 (some .int) 5 := zb_cwV_of (zb_in 1412 (by decide +kernel) rfl) (zb_in 1413 (by decide +kernel) rfl) (zb_in 1414 (by decide +kernel) rfl) (zb_in 109 (by decide +kernel) rfl) (zb_in 1415 (by decide +kernel) rfl) (by decide +kernel)
theorem cw_L_132 : zb_cwV RL 132 yX8_thrown cX8_thrown 1 (some .int) 0 := zb_cwV_of (zb_in 1408 (by decide +kernel) rfl) (zb_in 1409 (by decide +kernel) rfl) (zb_in 1410 (by decide +kernel) rfl) (zb_in 109 (by decide +kernel) rfl) (zb_in 1411 (by decide +kernel) rfl) (by decide +kernel)
theorem cw_L_135 : zb_cwV RL 135 yX7_load cX7_load 1 (some .int) 0 := zb_cwV_of (zb_in 471 (by decide +kernel) rfl) (zb_in 472 (by decide +kernel) rfl) (zb_in 473 (by decide +kernel) rfl) (zb_in 101 (by decide +kernel) rfl) (zb_in 474 (by decide +kernel) rfl) (by decide +kernel)
theorem cw_L_138 : zb_cwV RL 138 yX8_load cX8_load 2 (some .int) 0 := zb_cwV_of (zb_in 1435 (by decide +kernel) rfl) (zb_in 1436 (by decide +kernel) rfl) (zb_in 1437 (by decide +kernel) rfl) (zb_in 109 (by decide +kernel) rfl) (zb_in 1438 (by decide +kernel) rfl) (by decide +kernel)
theorem cw_L_139 : zb_cwV RL 139 yX7_play cX7_play 2 (some .int) 0 := zb_cwV_of (zb_in 636 (by decide +kernel) rfl) (zb_in 637 (by decide +kernel) rfl) (zb_in 638 (by decide +kernel) rfl) (zb_in 101 (by decide +kernel) rfl) (zb_in 639 (by decide +kernel) rfl) (by decide +kernel)
theorem cw_L_142 : zb_cwV RL 142 yX8_play cX8_play 4 (some .int) 0 := zb_cwV_of (zb_in 1844 (by decide +kernel) rfl) (zb_in 1845 (by decide +kernel) rfl) (zb_in 1846 (by decide +kernel) rfl) (zb_in 109 (by decide +kernel) rfl) (zb_in 1847 (by decide +kernel) rfl) (by decide +kernel)
theorem cw_L_143 : zb_cwV RL 143 yX7_errorCode cX7_errorCode 1 (some .int) 0 := zb_cwV_of (zb_in 961 (by decide +kernel) rfl) (zb_in 962 (by decide +kernel) rfl) (zb_in 963 (by decide +kernel) rfl) (zb_in 101 (by decide +kernel) rfl) (zb_in 964 (by decide +kernel) rfl) (by decide +kernel)
theorem cw_L_146 : zb_cwV RL 146 yX8_errorCode cX8_errorCode 1 (some .int) 0 := zb_cwV_of (zb_in 1427 (by decide +kernel) rfl) (zb_in 1428 (by decide +kernel) rfl) (zb_in 1429 (by decide +kernel) rfl) (zb_in 109 (by decide +kernel) rfl) (zb_in 1430 (by decide +kernel) rfl) (by decide +kernel)
theorem cw_L_147 : zb_cwV RL 147 yX7_errorPosition cX7_errorPosition 1 (some .int) 0 := zb_cwV_of (zb_in 965 (by decide +kernel) rfl) (zb_in 966 (by decide +kernel) rfl) (zb_in 967 (by decide +kernel) rfl) (zb_in 101 (by decide +kernel) rfl) (zb_in 968 (by decide +kernel) rfl) (by decide +kernel)
theorem cw_L_150 : zb_cwV RL 150 yX8_errorPosition cX8_errorPosition 1 (some .int) 0 := zb_cwV_of (zb_in 1431 (by decide +kernel) rfl) (zb_in 1432 (by decide +kernel) rfl) (zb_in 1433 (by decide +kernel) rfl) (zb_in 109 (by decide +kernel) rfl) (zb_in 1434 (by decide +kernel) rfl) (by decide +kernel)
theorem ch_L_151 : zb_cwH RL 151 yL_size cL_size 4 [(0, 9, 12, 19)] 3 := ⟨(zb_in 1048 (by decide +kernel) rfl), (zb_in 1049 (by decide +kernel) rfl), (zb_in 100 (by decide +kernel) rfl), (zb_in 1050 (by decide +kernel) rfl), by decide +kernel⟩
theorem cw_L_154 : zb_cwV RL 154 yX8_size cX8_size 2 (some .int) 1 := zb_cwV_of (zb_in 1515 (by decide +kernel) rfl) (zb_in 1516 (by decide +kernel) rfl) (zb_in 1517 (by decide +kernel) rfl) (zb_in 109 (by decide +kernel) rfl) (zb_in 1518 (by decide +kernel) rfl) (by decide +kernel)
theorem ch_L_155 : zb_cwH RL 155 yL_buoy cL_buoy 5 [(0, 10, 13, 25), (0, 10, 17, 19)] 4 := ⟨(zb_in 1057 (by decide +kernel) rfl), (zb_in 1058 (by decide +kernel) rfl), (zb_in 100 (by decide +kernel) rfl), (zb_in 1059 (by decide +kernel) rfl), by decide +kernel⟩
theorem cw_L_158 : zb_cwV RL 158 yX8_buoy cX8_buoy 3 (some .int) 2 := zb_cwV_of (zb_in 1546 (by decide +kernel) rfl) (zb_in 1547 (by decide +kernel) rfl) (zb_in 1548 (by decide +kernel) rfl) (zb_in 109 (by decide +kernel) rfl) (zb_in 1549 (by decide +kernel) rfl) (by decide +kernel)
theorem ch_L_159 : zb_cwH RL 159 yL_rope cL_rope 5 [(0, 10, 13, 25), (0, 10, 17, 19)] 4 := ⟨(zb_in 1065 (by decide +kernel) rfl), (zb_in 1066 (by decide +kernel) rfl), (zb_in 100 (by decide +kernel) rfl), (zb_in 1067 (by decide +kernel) rfl), by decide +kernel⟩
theorem cw_L_161 : zb_cwV RL 161 yX8_rope cX8_rope 3 (some .int) 2 := zb_cwV_of (zb_in 1554 (by decide +kernel) rfl) (zb_in 1555 (by decide +kernel) rfl) (zb_in 1556 (by decide +kernel) rfl) (zb_in 109 (by decide +kernel) rfl) (zb_in 1557 (by decide +kernel) rfl) (by decide +kernel)
theorem ch_L_162 : zb_cwH RL 162 yL_account cL_account 4 [(0, 9, 12, 19)] 3 := ⟨(zb_in 1072 (by decide +kernel) rfl), (zb_in 1073 (by decide +kernel) rfl), (zb_in 100 (by decide +kernel) rfl), (zb_in 1074 (by decide +kernel) rfl), by decide +kernel⟩
theorem cw_L_164 : zb_cwV RL 164 yX8_account cX8_account 2 (some .int) 1 := zb_cwV_of (zb_in 1566 (by decide +kernel) rfl) (zb_in 1567 (by decide +kernel) rfl) (zb_in 1568 (by decide +kernel) rfl) (zb_in 109 (by decide +kernel) rfl) (zb_in 1569 (by decide +kernel) rfl) (by decide +kernel)
theorem ch_L_165 : zb_cwH RL 165 yL_hour cL_hour 5 [(0, 10, 13, 25), (0, 10, 17, 19)] 4 := ⟨(zb_in 1079 (by decide +kernel) rfl), (zb_in 1080 (by decide +kernel) rfl), (zb_in 100 (by decide +kernel) rfl), (zb_in 1081 (by decide +kernel) rfl), by decide +kernel⟩
theorem cw_L_167 : zb_cwV RL 167 yX8_hour cX8_hour 3 (some .int) 2 := zb_cwV_of (zb_in 1570 (by decide +kernel) rfl) (zb_in 1571 (by decide +kernel) rfl) (zb_in 1572 (by decide +kernel) rfl) (zb_in 109 (by decide +kernel) rfl) (zb_in 1573 (by decide +kernel) rfl) (by decide +kernel)
theorem ch_L_168 : zb_cwH RL 168 yL_level cL_level 4 [(0, 9, 12, 25), (0, 9, 15, 39)] 3 := ⟨(zb_in 1091 (by decide +kernel) rfl), (zb_in 1092 (by decide +kernel) rfl), (zb_in 100 (by decide +kernel) rfl), (zb_in 1093 (by decide +kernel) rfl), by decide +kernel⟩
theorem cw_L_170 : zb_cwV RL 170 yX8_level cX8_level 2 (some .int) 1 := zb_cwV_of (zb_in 1578 (by decide +kernel) rfl) (zb_in 1579 (by decide +kernel) rfl) (zb_in 1580 (by decide +kernel) rfl) (zb_in 109 (by decide +kernel) rfl) (zb_in 1581 (by decide +kernel) rfl) (by decide +kernel)
theorem ch_L_171 : zb_cwH RL 171 yL_value cL_value 5 [(0, 10, 13, 25), (0, 10, 17, 39)] 4 := ⟨(zb_in 1115 (by decide +kernel) rfl), (zb_in 1116 (by decide +kernel) rfl), (zb_in 100 (by decide +kernel) rfl), (zb_in 1117 (by decide +kernel) rfl), by decide +kernel⟩
theorem cw_L_173 : zb_cwV RL 173 yX8_value cX8_value 3 (some .int) 2 := zb_cwV_of (zb_in 1582 (by decide +kernel) rfl) (zb_in 1583 (by decide +kernel) rfl) (zb_in 1584 (by decide +kernel) rfl) (zb_in 109 (by decide +kernel) rfl) (zb_in 1585 (by decide +kernel) rfl) (by decide +kernel)
theorem ch_L_174 : zb_cwH RL 174 yL_why cL_why 5 [(0, 10, 13, 25)] 4 := ⟨(zb_in 1123 (by decide +kernel) rfl), (zb_in 1124 (by decide +kernel) rfl), (zb_in 100 (by decide +kernel) rfl), (zb_in 1125 (by decide +kernel) rfl), by decide +kernel⟩
theorem cw_L_176 : zb_cwV RL 176 yX8_why cX8_why 3 (some .int) 2 := zb_cwV_of (zb_in 1589 (by decide +kernel) rfl) (zb_in 1590 (by decide +kernel) rfl) (zb_in 1591 (by decide +kernel) rfl) (zb_in 109 (by decide +kernel) rfl) (zb_in 1592 (by decide +kernel) rfl) (by decide +kernel)
theorem ch_L_177 : zb_cwH RL 177 yL_tide cL_tide 4 [(0, 9, 12, 25), (0, 9, 15, 39)] 3 := ⟨(zb_in 1130 (by decide +kernel) rfl), (zb_in 1131 (by decide +kernel) rfl), (zb_in 100 (by decide +kernel) rfl), (zb_in 1132 (by decide +kernel) rfl), by decide +kernel⟩
theorem cw_L_179 : zb_cwV RL 179 yX8_tide cX8_tide 4 (some .int) 1 := zb_cwV_of (zb_in 1593 (by decide +kernel) rfl) (zb_in 1594 (by decide +kernel) rfl) (zb_in 1595 (by decide +kernel) rfl) (zb_in 109 (by decide +kernel) rfl) (zb_in 1596 (by decide +kernel) rfl) (by decide +kernel)
theorem cw_L_180 : zb_cwV RL 180 yX7_extreme cX7_extreme 7 (some .int) 1 := zb_cwV_of (zb_in 969 (by decide +kernel) rfl) (zb_in 970 (by decide +kernel) rfl) (zb_in 971 (by decide +kernel) rfl) (zb_in 101 (by decide +kernel) rfl) (zb_in 972 (by decide +kernel) rfl) (by decide +kernel)
theorem cw_L_184 : zb_cwV RL 184 yX8_extreme cX8_extreme 5 (some .int) 1 := zb_cwV_of (zb_in 1597 (by decide +kernel) rfl) (zb_in 1598 (by decide +kernel) rfl) (zb_in 1599 (by decide +kernel) rfl) (zb_in 109 (by decide +kernel) rfl) (zb_in 1600 (by decide +kernel) rfl) (by decide +kernel)
theorem cw_L_185 : zb_cwV RL 185 yX7_meanLevel cX7_meanLevel 5 (some .double) 0 := zb_cwV_of (zb_in 975 (by decide +kernel) rfl) (zb_in 976 (by decide +kernel) rfl) (zb_in 977 (by decide +kernel) rfl) (zb_in 101 (by decide +kernel) rfl) (zb_in 978 (by decide +kernel) rfl) (by decide +kernel)
theorem cw_L_189 : zb_cwV RL 189 yX8_meanLevel cX8_meanLevel 3 (some .double) 0 := zb_cwV_of (zb_in 1601 (by decide +kernel) rfl) (zb_in 1602 (by decide +kernel) rfl) (zb_in 1603 (by decide +kernel) rfl) (zb_in 109 (by decide +kernel) rfl) (zb_in 1604 (by decide +kernel) rfl) (by decide +kernel)
theorem ch_L_190 : zb_cwH RL 190 yL_agreement cL_agreement 4 [(0, 9, 12, 25)] 3 := ⟨(zb_in 1142 (by decide +kernel) rfl), (zb_in 1143 (by decide +kernel) rfl), (zb_in 100 (by decide +kernel) rfl), (zb_in 1144 (by decide +kernel) rfl), by decide +kernel⟩
theorem cw_L_193 : zb_cwV RL 193 yX8_agreement cX8_agreement 2 (some .float) 1 := zb_cwV_of (zb_in 1605 (by decide +kernel) rfl) (zb_in 1606 (by decide +kernel) rfl) (zb_in 1607 (by decide +kernel) rfl) (zb_in 109 (by decide +kernel) rfl) (zb_in 1608 (by decide +kernel) rfl) (by decide +kernel)
theorem ch_L_194 : zb_cwH RL 194 yL_levelNow cL_levelNow 3 [(0, 8, 11, 39)] 2 := ⟨(zb_in 1153 (by decide +kernel) rfl), (zb_in 1154 (by decide +kernel) rfl), (zb_in 100 (by decide +kernel) rfl), (zb_in 1155 (by decide +kernel) rfl), by decide +kernel⟩
theorem cw_L_197 : zb_cwV RL 197 yX8_levelNow cX8_levelNow 1 (some .int) 0 := zb_cwV_of (zb_in 1613 (by decide +kernel) rfl) (zb_in 1614 (by decide +kernel) rfl) (zb_in 1615 (by decide +kernel) rfl) (zb_in 109 (by decide +kernel) rfl) (zb_in 1616 (by decide +kernel) rfl) (by decide +kernel)
theorem ch_L_198 : zb_cwH RL 198 yL_levelWithout cL_levelWithout 5 [(0, 10, 13, 25), (0, 10, 17, 39)] 4 := ⟨(zb_in 1163 (by decide +kernel) rfl), (zb_in 1164 (by decide +kernel) rfl), (zb_in 100 (by decide +kernel) rfl), (zb_in 1165 (by decide +kernel) rfl), by decide +kernel⟩
theorem cw_L_200 : zb_cwV RL 200 yX8_levelWithout cX8_levelWithout 3 (some .int) 2 := zb_cwV_of (zb_in 1636 (by decide +kernel) rfl) (zb_in 1637 (by decide +kernel) rfl) (zb_in 1638 (by decide +kernel) rfl) (zb_in 109 (by decide +kernel) rfl) (zb_in 1639 (by decide +kernel) rfl) (by decide +kernel)
theorem ch_L_201 : zb_cwH RL 201 yL_needed cL_needed 4 [(0, 9, 12, 25)] 3 := ⟨(zb_in 1175 (by decide +kernel) rfl), (zb_in 1176 (by decide +kernel) rfl), (zb_in 100 (by decide +kernel) rfl), (zb_in 1177 (by decide +kernel) rfl), by decide +kernel⟩
theorem cw_L_203 : zb_cwV RL 203 yX8_needed cX8_needed 4 (some .int) 1 := zb_cwV_of (zb_in 1644 (by decide +kernel) rfl) (zb_in 1645 (by decide +kernel) rfl) (zb_in 1646 (by decide +kernel) rfl) (zb_in 109 (by decide +kernel) rfl) (zb_in 1647 (by decide +kernel) rfl) (by decide +kernel)
theorem cw_L_204 : zb_cwV RL 204 yX7_segments cX7_segments 1 (some .int) 0 := zb_cwV_of (zb_in 983 (by decide +kernel) rfl) (zb_in 984 (by decide +kernel) rfl) (zb_in 985 (by decide +kernel) rfl) (zb_in 101 (by decide +kernel) rfl) (zb_in 986 (by decide +kernel) rfl) (by decide +kernel)
theorem cw_L_207 : zb_cwV RL 207 yX8_segments cX8_segments 1 (some .int) 0 := zb_cwV_of (zb_in 1648 (by decide +kernel) rfl) (zb_in 1649 (by decide +kernel) rfl) (zb_in 1650 (by decide +kernel) rfl) (zb_in 109 (by decide +kernel) rfl) (zb_in 1651 (by decide +kernel) rfl) (by decide +kernel)
theorem ch_L_208 : zb_cwH RL 208 yL_segmentOf cL_segmentOf 4 [(0, 9, 12, 25)] 3 := ⟨(zb_in 1182 (by decide +kernel) rfl), (zb_in 1183 (by decide +kernel) rfl), (zb_in 100 (by decide +kernel) rfl), (zb_in 1184 (by decide +kernel) rfl), by decide +kernel⟩
theorem cw_L_210 : zb_cwV RL 210 yX8_segmentOf cX8_segmentOf 3 (some .int) 1 := zb_cwV_of (zb_in 1652 (by decide +kernel) rfl) (zb_in 1653 (by decide +kernel) rfl) (zb_in 1654 (by decide +kernel) rfl) (zb_in 109 (by decide +kernel) rfl) (zb_in 1655 (by decide +kernel) rfl) (by decide +kernel)
theorem cw_L_211 : zb_cwV RL 211 yX7_weakest cX7_weakest 5 (some .int) 0 := zb_cwV_of (zb_in 987 (by decide +kernel) rfl) (zb_in 988 (by decide +kernel) rfl) (zb_in 989 (by decide +kernel) rfl) (zb_in 101 (by decide +kernel) rfl) (zb_in 990 (by decide +kernel) rfl) (by decide +kernel)
theorem cw_L_214 : zb_cwV RL 214 yX8_weakest cX8_weakest 3 (some .int) 0 := zb_cwV_of (zb_in 1663 (by decide +kernel) rfl) (zb_in 1664 (by decide +kernel) rfl) (zb_in 1665 (by decide +kernel) rfl) (zb_in 109 (by decide +kernel) rfl) (zb_in 1666 (by decide +kernel) rfl) (by decide +kernel)
theorem ch_L_215 : zb_cwH RL 215 yL_wouldBreak cL_wouldBreak 6 [(0, 12, 15, 25), (0, 12, 19, 19)] 5 := ⟨(zb_in 1190 (by decide +kernel) rfl), (zb_in 1191 (by decide +kernel) rfl), (zb_in 100 (by decide +kernel) rfl), (zb_in 1192 (by decide +kernel) rfl), by decide +kernel⟩
theorem cw_L_218 : zb_cwV RL 218 yX8_wouldBreak cX8_wouldBreak 4 (some .int) 3 := zb_cwV_of (zb_in 1667 (by decide +kernel) rfl) (zb_in 1668 (by decide +kernel) rfl) (zb_in 1669 (by decide +kernel) rfl) (zb_in 109 (by decide +kernel) rfl) (zb_in 1670 (by decide +kernel) rfl) (by decide +kernel)
theorem ch_L_219 : zb_cwH RL 219 yL_wouldDrift cL_wouldDrift 6 [(0, 12, 15, 25), (0, 12, 19, 19)] 5 := ⟨(zb_in 1198 (by decide +kernel) rfl), (zb_in 1199 (by decide +kernel) rfl), (zb_in 100 (by decide +kernel) rfl), (zb_in 1200 (by decide +kernel) rfl), by decide +kernel⟩
theorem cw_L_221 : zb_cwV RL 221 yX8_wouldDrift cX8_wouldDrift 4 (some .int) 3 := zb_cwV_of (zb_in 1679 (by decide +kernel) rfl) (zb_in 1680 (by decide +kernel) rfl) (zb_in 1681 (by decide +kernel) rfl) (zb_in 109 (by decide +kernel) rfl) (zb_in 1682 (by decide +kernel) rfl) (by decide +kernel)
theorem cw_L_222 : zb_cwV RL 222 yX7_leastStorm cX7_leastStorm 2 (some .int) 0 := zb_cwV_of (zb_in 991 (by decide +kernel) rfl) (zb_in 992 (by decide +kernel) rfl) (zb_in 993 (by decide +kernel) rfl) (zb_in 101 (by decide +kernel) rfl) (zb_in 994 (by decide +kernel) rfl) (by decide +kernel)
theorem cw_L_225 : zb_cwV RL 225 yX8_leastStorm cX8_leastStorm 3 (some .int) 0 := zb_cwV_of (zb_in 1691 (by decide +kernel) rfl) (zb_in 1692 (by decide +kernel) rfl) (zb_in 1693 (by decide +kernel) rfl) (zb_in 109 (by decide +kernel) rfl) (zb_in 1694 (by decide +kernel) rfl) (by decide +kernel)
theorem ch_L_226 : zb_cwH RL 226 yL_lacks cL_lacks 4 [(0, 9, 12, 19)] 3 := ⟨(zb_in 1205 (by decide +kernel) rfl), (zb_in 1206 (by decide +kernel) rfl), (zb_in 100 (by decide +kernel) rfl), (zb_in 1207 (by decide +kernel) rfl), by decide +kernel⟩
theorem cw_L_228 : zb_cwV RL 228 yX8_lacks cX8_lacks 2 (some .int) 1 := zb_cwV_of (zb_in 1695 (by decide +kernel) rfl) (zb_in 1696 (by decide +kernel) rfl) (zb_in 1697 (by decide +kernel) rfl) (zb_in 109 (by decide +kernel) rfl) (zb_in 1698 (by decide +kernel) rfl) (by decide +kernel)
theorem ch_L_229 : zb_cwH RL 229 yL_plan cL_plan 4 [(0, 9, 12, 19)] 3 := ⟨(zb_in 1213 (by decide +kernel) rfl), (zb_in 1214 (by decide +kernel) rfl), (zb_in 100 (by decide +kernel) rfl), (zb_in 1215 (by decide +kernel) rfl), by decide +kernel⟩
theorem cw_L_231 : zb_cwV RL 231 yX8_plan cX8_plan 2 (some .int) 1 := zb_cwV_of (zb_in 1708 (by decide +kernel) rfl) (zb_in 1709 (by decide +kernel) rfl) (zb_in 1710 (by decide +kernel) rfl) (zb_in 109 (by decide +kernel) rfl) (zb_in 1711 (by decide +kernel) rfl) (by decide +kernel)
theorem ch_L_232 : zb_cwH RL 232 yL_planLength cL_planLength 4 [(0, 9, 12, 19)] 3 := ⟨(zb_in 1220 (by decide +kernel) rfl), (zb_in 1221 (by decide +kernel) rfl), (zb_in 100 (by decide +kernel) rfl), (zb_in 1222 (by decide +kernel) rfl), by decide +kernel⟩
theorem cw_L_234 : zb_cwV RL 234 yX8_planLength cX8_planLength 3 (some .int) 1 := zb_cwV_of (zb_in 1720 (by decide +kernel) rfl) (zb_in 1721 (by decide +kernel) rfl) (zb_in 1722 (by decide +kernel) rfl) (zb_in 109 (by decide +kernel) rfl) (zb_in 1723 (by decide +kernel) rfl) (by decide +kernel)
theorem ch_L_235 : zb_cwH RL 235 yL_report cL_report 5 [(0, 10, 13, 25), (0, 10, 17, 19)] 4 := ⟨(zb_in 1228 (by decide +kernel) rfl), (zb_in 1229 (by decide +kernel) rfl), (zb_in 100 (by decide +kernel) rfl), (zb_in 1230 (by decide +kernel) rfl), by decide +kernel⟩
theorem cw_L_237 : zb_cwV RL 237 yX8_report cX8_report 3 (some .int) 2 := zb_cwV_of (zb_in 1724 (by decide +kernel) rfl) (zb_in 1725 (by decide +kernel) rfl) (zb_in 1726 (by decide +kernel) rfl) (zb_in 109 (by decide +kernel) rfl) (zb_in 1727 (by decide +kernel) rfl) (by decide +kernel)
theorem cw_L_238 : zb_cwV RL 238 yX7_endHour cX7_endHour 3 (some .int) 0 := zb_cwV_of (zb_in 996 (by decide +kernel) rfl) (zb_in 795 (by decide +kernel) rfl) (zb_in 796 (by decide +kernel) rfl) (zb_in 101 (by decide +kernel) rfl) (zb_in 797 (by decide +kernel) rfl) (by decide +kernel)
theorem cw_L_241 : zb_cwV RL 241 yX8_endHour cX8_endHour 1 (some .int) 0 := zb_cwV_of (zb_in 1736 (by decide +kernel) rfl) (zb_in 1737 (by decide +kernel) rfl) (zb_in 1738 (by decide +kernel) rfl) (zb_in 109 (by decide +kernel) rfl) (zb_in 1739 (by decide +kernel) rfl) (by decide +kernel)
theorem ch_L_242 : zb_cwH RL 242 yL_storm cL_storm 6 [(0, 12, 15, 25), (0, 12, 19, 19)] 5 := ⟨(zb_in 1232 (by decide +kernel) rfl), (zb_in 1233 (by decide +kernel) rfl), (zb_in 100 (by decide +kernel) rfl), (zb_in 1234 (by decide +kernel) rfl), by decide +kernel⟩
theorem cw_L_244 : zb_cwV RL 244 yX8_storm cX8_storm 4 (some .int) 3 := zb_cwV_of (zb_in 1776 (by decide +kernel) rfl) (zb_in 1777 (by decide +kernel) rfl) (zb_in 1778 (by decide +kernel) rfl) (zb_in 109 (by decide +kernel) rfl) (zb_in 1779 (by decide +kernel) rfl) (by decide +kernel)
theorem ch_L_245 : zb_cwH RL 245 yL_remake cL_remake 4 [(0, 9, 12, 25)] 3 := ⟨(zb_in 1236 (by decide +kernel) rfl), (zb_in 1237 (by decide +kernel) rfl), (zb_in 100 (by decide +kernel) rfl), (zb_in 1238 (by decide +kernel) rfl), by decide +kernel⟩
theorem cw_L_247 : zb_cwV RL 247 yX8_remake cX8_remake 2 (some .int) 1 := zb_cwV_of (zb_in 1788 (by decide +kernel) rfl) (zb_in 1789 (by decide +kernel) rfl) (zb_in 1790 (by decide +kernel) rfl) (zb_in 109 (by decide +kernel) rfl) (zb_in 1791 (by decide +kernel) rfl) (by decide +kernel)
theorem ch_L_248 : zb_cwH RL 248 yL_remakeBy cL_remakeBy 4 [(0, 9, 12, 19)] 3 := ⟨(zb_in 1240 (by decide +kernel) rfl), (zb_in 1241 (by decide +kernel) rfl), (zb_in 100 (by decide +kernel) rfl), (zb_in 1242 (by decide +kernel) rfl), by decide +kernel⟩
theorem cw_L_250 : zb_cwV RL 250 yX8_remakeBy cX8_remakeBy 2 (some .int) 1 := zb_cwV_of (zb_in 1804 (by decide +kernel) rfl) (zb_in 1805 (by decide +kernel) rfl) (zb_in 1806 (by decide +kernel) rfl) (zb_in 109 (by decide +kernel) rfl) (zb_in 1807 (by decide +kernel) rfl) (by decide +kernel)
theorem ch_L_251 : zb_cwH RL 251 yL_haul cL_haul 4 [(0, 9, 12, 25)] 3 := ⟨(zb_in 1244 (by decide +kernel) rfl), (zb_in 1245 (by decide +kernel) rfl), (zb_in 100 (by decide +kernel) rfl), (zb_in 1246 (by decide +kernel) rfl), by decide +kernel⟩
theorem cw_L_253 : zb_cwV RL 253 yX8_haul cX8_haul 2 (some .int) 1 := zb_cwV_of (zb_in 1812 (by decide +kernel) rfl) (zb_in 1813 (by decide +kernel) rfl) (zb_in 1814 (by decide +kernel) rfl) (zb_in 109 (by decide +kernel) rfl) (zb_in 1815 (by decide +kernel) rfl) (by decide +kernel)
theorem ch_L_254 : zb_cwH RL 254 yL_addStock cL_addStock 4 [(0, 9, 12, 19)] 3 := ⟨(zb_in 1248 (by decide +kernel) rfl), (zb_in 1249 (by decide +kernel) rfl), (zb_in 100 (by decide +kernel) rfl), (zb_in 1250 (by decide +kernel) rfl), by decide +kernel⟩
theorem cw_L_256 : zb_cwV RL 256 yX8_addStock cX8_addStock 2 (some .int) 1 := zb_cwV_of (zb_in 1820 (by decide +kernel) rfl) (zb_in 1821 (by decide +kernel) rfl) (zb_in 1822 (by decide +kernel) rfl) (zb_in 109 (by decide +kernel) rfl) (zb_in 1823 (by decide +kernel) rfl) (by decide +kernel)
theorem ch_L_257 : zb_cwH RL 257 yL_setOffset cL_setOffset 5 [(0, 10, 13, 25), (0, 10, 17, 19)] 4 := ⟨(zb_in 1252 (by decide +kernel) rfl), (zb_in 1253 (by decide +kernel) rfl), (zb_in 100 (by decide +kernel) rfl), (zb_in 1254 (by decide +kernel) rfl), by decide +kernel⟩
theorem cw_L_259 : zb_cwV RL 259 yX8_setOffset cX8_setOffset 3 (some .int) 2 := zb_cwV_of (zb_in 1828 (by decide +kernel) rfl) (zb_in 1829 (by decide +kernel) rfl) (zb_in 1830 (by decide +kernel) rfl) (zb_in 109 (by decide +kernel) rfl) (zb_in 1831 (by decide +kernel) rfl) (by decide +kernel)
theorem ch_L_260 : zb_cwH RL 260 yL_setHold cL_setHold 5 [(0, 10, 13, 25), (0, 10, 17, 19)] 4 := ⟨(zb_in 1260 (by decide +kernel) rfl), (zb_in 1261 (by decide +kernel) rfl), (zb_in 100 (by decide +kernel) rfl), (zb_in 1262 (by decide +kernel) rfl), by decide +kernel⟩
theorem cw_L_262 : zb_cwV RL 262 yX8_setHold cX8_setHold 3 (some .int) 2 := zb_cwV_of (zb_in 1836 (by decide +kernel) rfl) (zb_in 1837 (by decide +kernel) rfl) (zb_in 1838 (by decide +kernel) rfl) (zb_in 109 (by decide +kernel) rfl) (zb_in 1839 (by decide +kernel) rfl) (by decide +kernel)
theorem ch_L_263 : zb_cwH RL 263 yL_setTerms cL_setTerms 6 [(0, 12, 15, 19)] 5 := ⟨(zb_in 1268 (by decide +kernel) rfl), (zb_in 1269 (by decide +kernel) rfl), (zb_in 100 (by decide +kernel) rfl), (zb_in 1270 (by decide +kernel) rfl), by decide +kernel⟩
theorem cw_L_265 : zb_cwV RL 265 yX8_setTerms cX8_setTerms 5 (some .int) 3 := zb_cwV_of (zb_in 1840 (by decide +kernel) rfl) (zb_in 1841 (by decide +kernel) rfl) (zb_in 1842 (by decide +kernel) rfl) (zb_in 109 (by decide +kernel) rfl) (zb_in 1843 (by decide +kernel) rfl) (by decide +kernel)
theorem cw_L_266 : zb_cwV RL 266 yX7_writeString cX7_writeString 3 (some .int) 0 := zb_cwV_of (zb_in 997 (by decide +kernel) rfl) (zb_in 998 (by decide +kernel) rfl) (zb_in 999 (by decide +kernel) rfl) (zb_in 101 (by decide +kernel) rfl) (zb_in 1000 (by decide +kernel) rfl) (by decide +kernel)
theorem cw_L_269 : zb_cwV RL 269 yX8_writeString cX8_writeString 2 (some .int) 0 := zb_cwV_of (zb_in 1893 (by decide +kernel) rfl) (zb_in 1894 (by decide +kernel) rfl) (zb_in 1895 (by decide +kernel) rfl) (zb_in 109 (by decide +kernel) rfl) (zb_in 1896 (by decide +kernel) rfl) (by decide +kernel)
theorem cw_L_270 : zb_cwV RL 270 yX7_writeHours cX7_writeHours 3 (some .int) 0 := zb_cwV_of (zb_in 1013 (by decide +kernel) rfl) (zb_in 1014 (by decide +kernel) rfl) (zb_in 1015 (by decide +kernel) rfl) (zb_in 101 (by decide +kernel) rfl) (zb_in 1016 (by decide +kernel) rfl) (by decide +kernel)
theorem cw_L_273 : zb_cwV RL 273 yX8_writeHours cX8_writeHours 2 (some .int) 0 := zb_cwV_of (zb_in 1905 (by decide +kernel) rfl) (zb_in 1906 (by decide +kernel) rfl) (zb_in 1907 (by decide +kernel) rfl) (zb_in 109 (by decide +kernel) rfl) (zb_in 1908 (by decide +kernel) rfl) (by decide +kernel)
theorem ch_L_274 : zb_cwH RL 274 yL_output cL_output 4 [(0, 9, 12, 25)] 3 := ⟨(zb_in 1276 (by decide +kernel) rfl), (zb_in 1277 (by decide +kernel) rfl), (zb_in 100 (by decide +kernel) rfl), (zb_in 1278 (by decide +kernel) rfl), by decide +kernel⟩
theorem cw_L_276 : zb_cwV RL 276 yX8_output cX8_output 2 (some .int) 1 := zb_cwV_of (zb_in 1909 (by decide +kernel) rfl) (zb_in 1910 (by decide +kernel) rfl) (zb_in 1911 (by decide +kernel) rfl) (zb_in 109 (by decide +kernel) rfl) (zb_in 1912 (by decide +kernel) rfl) (by decide +kernel)
theorem ch_L_277 : zb_cwH RL 277 yL_undo cL_undo 3 [(0, 8, 11, 13)] 2 := ⟨(zb_in 1284 (by decide +kernel) rfl), (zb_in 1285 (by decide +kernel) rfl), (zb_in 100 (by decide +kernel) rfl), (zb_in 1286 (by decide +kernel) rfl), by decide +kernel⟩
theorem cw_L_279 : zb_cwV RL 279 yX8_undo cX8_undo 1 (some .int) 0 := zb_cwV_of (zb_in 1913 (by decide +kernel) rfl) (zb_in 1914 (by decide +kernel) rfl) (zb_in 1915 (by decide +kernel) rfl) (zb_in 109 (by decide +kernel) rfl) (zb_in 1916 (by decide +kernel) rfl) (by decide +kernel)
theorem ch_L_280 : zb_cwH RL 280 yL_save cL_save 4 [(0, 9, 12, 25)] 3 := ⟨(zb_in 1293 (by decide +kernel) rfl), (zb_in 1294 (by decide +kernel) rfl), (zb_in 100 (by decide +kernel) rfl), (zb_in 1295 (by decide +kernel) rfl), by decide +kernel⟩
theorem cw_L_282 : zb_cwV RL 282 yX8_save cX8_save 2 (some .int) 1 := zb_cwV_of (zb_in 1917 (by decide +kernel) rfl) (zb_in 1918 (by decide +kernel) rfl) (zb_in 1919 (by decide +kernel) rfl) (zb_in 109 (by decide +kernel) rfl) (zb_in 1920 (by decide +kernel) rfl) (by decide +kernel)
theorem ch_L_283 : zb_cwH RL 283 yL_restore cL_restore 4 [(0, 9, 12, 25), (0, 9, 15, 13)] 3 := ⟨(zb_in 1305 (by decide +kernel) rfl), (zb_in 1306 (by decide +kernel) rfl), (zb_in 100 (by decide +kernel) rfl), (zb_in 1307 (by decide +kernel) rfl), by decide +kernel⟩
theorem cw_L_285 : zb_cwV RL 285 yX8_restore cX8_restore 2 (some .int) 1 := zb_cwV_of (zb_in 1925 (by decide +kernel) rfl) (zb_in 1926 (by decide +kernel) rfl) (zb_in 1927 (by decide +kernel) rfl) (zb_in 109 (by decide +kernel) rfl) (zb_in 1928 (by decide +kernel) rfl) (by decide +kernel)
set_option maxHeartbeats 1000000 in
theorem lw_c0 {p : Program} {l : Launch} {e : Env} {R : Room} {s : State} {m : MethodId} {args : Array Value} {below : List Frame} {meth : Method} {c : Code} {H : Heap} {locs : List Loc} {cells slots : Nat} {Q : State → Prop} {g : zb_G} {ls : Array Slot} {b L n : Nat} {xs : Nat → Int32} {Rel : Nat → Mem → Mem → Prop} (hq : eqP_0 Rel) {I J O : Mem} (hRel : Rel n I J) (hlT : l.stackTraces = false) (X : zb_X g p m c cL_law 10 s args RL meth) (hnc : zb_Nc s) (hX : va_X b L xs s s.heap) (hbl : b < s.heap.size) (hbA : ¬ zb_A g b) (hn : n + 6 ≤ L) (hL : L ≤ 3072)
    (hP : va_P g.1 vwCl (zb_ws g 320 (zb_ce g I J O)) H) (hS : va_S (zb_A g) s.heap H locs) (hl : lv_has ls 10 [(5, .int (Int32.ofNat n)), (4, .ref (g.2.2 + 319)), (3, .ref (g.2.2 + 318)), (2, .ref (g.2.2 + 306)), (1, .ref (g.2.2 + 0)), (0, .ref b)]) (h1 : 13 ≤ R.frames) (h2 : 472 ≤ R.locals) (h3 : cells + 1 ≤ R.cells) (h4 : slots + 6 ≤ R.slots)
    (kk : ∀ (I J O : Mem) (H : Heap) (locs : List Loc) (ls : Array Slot), Rel (n + 6) I J → va_P g.1 vwCl (zb_ws g 320 (zb_ce g I J O)) H → va_S (zb_A g) s.heap H locs → lv_has ls 10 [(5, .int (Int32.ofNat n)), (4, .ref (g.2.2 + 319)), (3, .ref (g.2.2 + 318)), (2, .ref (g.2.2 + 306)), (1, .ref (g.2.2 + 0)), (0, .ref b)] → W p l e R s m args below meth c H locs (cells + 1) (slots + 6) Q (F0 m 2550 ls [])) : W p l e R s m args below meth c H locs cells slots Q (F0 m 240 ls []) := by
  have hx := X.1.1
  have hb := X.1.2.1
  have hnI : 306 ≤ 320 := by decide
  have hnJ : 318 ≤ 320 := by decide
  have hnO : 320 ≤ 320 := by decide
  obtain ⟨E, r, Iq, rb, Jq, hf, hj, hr9, hd9⟩ := hq n I J (by omega) hRel (xs (n + 1)) (xs (n + 2)) (xs (n + 3)) (xs (n + 4)) (xs (n + 5))
  rcases hd9 with ⟨rfl, ht, rfl⟩ | ⟨rfl, ht⟩
  · refine lv_aload_n hx hb dL_law_240 rfl (lv_at hl 4 rfl) ?_
    refine lv_aload_n hx hb dL_law_241 rfl (lv_at hl 5 rfl) ?_
    refine lv_iload hx hb dL_law_242 (lv_at hl 0 rfl) ?_
    refine lv_iconst (v := (1 : Int32)) hx hb dL_law_244 (by decide) ?_
    refine lv_iadd hx hb dL_law_245 ?_
    refine zr_sldc (cn := 1) X hX hbl hbA hS (by omega) (by omega) rfl dL_law_246 ?_
    refine lv_aload_n hx hb dL_law_247 rfl (lv_at hl 5 rfl) ?_
    refine lv_iload hx hb dL_law_248 (lv_at hl 0 rfl) ?_
    refine lv_iconst (v := (2 : Int32)) hx hb dL_law_250 (by decide) ?_
    refine lv_iadd hx hb dL_law_251 ?_
    refine zr_sldc (cn := 2) X hX hbl hbA hS (by omega) (by omega) rfl dL_law_252 ?_
    refine lv_aload_n hx hb dL_law_253 rfl (lv_at hl 5 rfl) ?_
    refine lv_iload hx hb dL_law_254 (lv_at hl 0 rfl) ?_
    refine lv_iconst (v := (3 : Int32)) hx hb dL_law_256 (by decide) ?_
    refine lv_iadd hx hb dL_law_257 ?_
    refine zr_sldc (cn := 3) X hX hbl hbA hS (by omega) (by omega) rfl dL_law_258 ?_
    refine lv_aload_n hx hb dL_law_259 rfl (lv_at hl 5 rfl) ?_
    refine lv_iload hx hb dL_law_260 (lv_at hl 0 rfl) ?_
    refine lv_iconst (v := (4 : Int32)) hx hb dL_law_262 (by decide) ?_
    refine lv_iadd hx hb dL_law_263 ?_
    refine zr_sldc (cn := 4) X hX hbl hbA hS (by omega) (by omega) rfl dL_law_264 ?_
    refine lv_aload_n hx hb dL_law_265 rfl (lv_at hl 5 rfl) ?_
    refine lv_iload hx hb dL_law_266 (lv_at hl 0 rfl) ?_
    refine lv_iconst (v := (5 : Int32)) hx hb dL_law_268 (by decide) ?_
    refine lv_iadd hx hb dL_law_269 ?_
    refine zr_sldc (cn := 5) X hX hbl hbA hS (by omega) (by omega) rfl dL_law_270 ?_
    refine lv_aload_n hx hb dL_law_271 rfl (lv_at hl 2 rfl) ?_
    refine zr_cH (rest := []) (As := [.ref (g.2.2 + 0), .int (xs (n + 1)), .int (xs (n + 2)), .int (xs (n + 3)), .int (xs (n + 4)), .int (xs (n + 5)), .ref (g.2.2 + 318)]) X hP hS hnc (hn_L_append (g := g) (nc := 320) (I := I) (J := J) (O := O) hnI hnO l hf) ch_L_126 rfl hl.1 (Nat.le_of_ble_eq_true rfl) ⟨by omega, by omega⟩ ⟨by omega, by omega⟩ dL_law_272 rfl (fun H locs hP hS => ?_)
    refine lv_istore (lv' := [(6, .int (0 : Int32)), (5, .int (Int32.ofNat n)), (4, .ref (g.2.2 + 319)), (3, .ref (g.2.2 + 318)), (2, .ref (g.2.2 + 306)), (1, .ref (g.2.2 + 0)), (0, .ref b)]) hx hb dL_law_275 hl (by decide) rfl (fun ls hl => ?_)
    refine lv_aload_n hx hb dL_law_277 rfl (lv_at hl 4 rfl) ?_
    refine lv_aload_n hx hb dL_law_278 rfl (lv_at hl 6 rfl) ?_
    refine lv_iload hx hb dL_law_279 (lv_at hl 1 rfl) ?_
    refine lv_iconst (v := (1 : Int32)) hx hb dL_law_281 (by decide) ?_
    refine lv_iadd hx hb dL_law_282 ?_
    refine zr_sldc (cn := 1) X hX hbl hbA hS (by omega) (by omega) rfl dL_law_283 ?_
    refine lv_aload_n hx hb dL_law_284 rfl (lv_at hl 6 rfl) ?_
    refine lv_iload hx hb dL_law_285 (lv_at hl 1 rfl) ?_
    refine lv_iconst (v := (2 : Int32)) hx hb dL_law_287 (by decide) ?_
    refine lv_iadd hx hb dL_law_288 ?_
    refine zr_sldc (cn := 2) X hX hbl hbA hS (by omega) (by omega) rfl dL_law_289 ?_
    refine lv_aload_n hx hb dL_law_290 rfl (lv_at hl 6 rfl) ?_
    refine lv_iload hx hb dL_law_291 (lv_at hl 1 rfl) ?_
    refine lv_iconst (v := (3 : Int32)) hx hb dL_law_293 (by decide) ?_
    refine lv_iadd hx hb dL_law_294 ?_
    refine zr_sldc (cn := 3) X hX hbl hbA hS (by omega) (by omega) rfl dL_law_295 ?_
    refine lv_aload_n hx hb dL_law_296 rfl (lv_at hl 6 rfl) ?_
    refine lv_iload hx hb dL_law_297 (lv_at hl 1 rfl) ?_
    refine lv_iconst (v := (4 : Int32)) hx hb dL_law_299 (by decide) ?_
    refine lv_iadd hx hb dL_law_300 ?_
    refine zr_sldc (cn := 4) X hX hbl hbA hS (by omega) (by omega) rfl dL_law_301 ?_
    refine lv_aload_n hx hb dL_law_302 rfl (lv_at hl 6 rfl) ?_
    refine lv_iload hx hb dL_law_303 (lv_at hl 1 rfl) ?_
    refine lv_iconst (v := (5 : Int32)) hx hb dL_law_305 (by decide) ?_
    refine lv_iadd hx hb dL_law_306 ?_
    refine zr_sldc (cn := 5) X hX hbl hbA hS (by omega) (by omega) rfl dL_law_307 ?_
    refine zr_cVi (rest := []) (As := [.int (xs (n + 1)), .int (xs (n + 2)), .int (xs (n + 3)), .int (xs (n + 4)), .int (xs (n + 5))]) X hP hS (ct_X8_append (g := g) (nc := 320) (I := Iq) (J := J) (O := (wr O 318 0 r)) hnJ l hj) cw_L_131 (zr_recv X hP (by omega) (zb_ceJo zk_306 (by decide)) rfl) rfl hl.1 (Nat.le_of_ble_eq_true rfl) ⟨by omega, by omega⟩ ⟨by omega, by omega⟩ dL_law_308 rfl (fun H locs hP hS => ?_)
    refine lv_istore (lv' := [(7, .int r), (6, .int (0 : Int32)), (5, .int (Int32.ofNat n)), (4, .ref (g.2.2 + 319)), (3, .ref (g.2.2 + 318)), (2, .ref (g.2.2 + 306)), (1, .ref (g.2.2 + 0)), (0, .ref b)]) hx hb dL_law_311 hl (by decide) rfl (fun ls hl => ?_)
    refine lv_aload_n hx hb dL_law_313 rfl (lv_at hl 5 rfl) ?_
    refine zr_cVi (rest := []) (As := []) X hP hS (ct_X8_thrown (g := g) (nc := 320) (I := Iq) (J := Jq) (O := (wr O 318 0 r)) hnJ l rfl) cw_L_132 (zr_recv X hP (by omega) (zb_ceJo zk_306 (by decide)) rfl) rfl hl.1 (Nat.le_of_ble_eq_true rfl) ⟨by omega, by omega⟩ ⟨by omega, by omega⟩ dL_law_314 rfl (fun H locs hP hS => ?_)
    refine lv_iload hx hb dL_law_317 (lv_at hl 1 rfl) ?_
    refine lv_icmp_eq (tgt := 324) hx hb dL_law_319 (by decide) (fun _ => ?_) (fun hc => absurd ht hc)
    refine lv_iload hx hb dL_law_324 (lv_at hl 1 rfl) ?_
    refine lv_if_ne (tgt := 341) hx hb dL_law_326 (by decide) (fun hc => absurd rfl hc) (fun _ => ?_)
    refine lv_aload_n hx hb dL_law_329 rfl (lv_at hl 4 rfl) ?_
    refine lv_iconst (v := (0 : Int32)) hx hb dL_law_330 (by decide) ?_
    refine zr_lald X hP hnO dL_law_331 ?_
    refine lv_iload hx hb dL_law_332 (lv_at hl 0 rfl) ?_
    refine lv_i2l hx hb dL_law_334 rfl ?_
    refine zr_lcmp0 hx hb dL_law_335 ?_
    refine lv_if_eq (tgt := 341) hx hb dL_law_336 (by decide) (fun _ => ?_) (fun hc => absurd rfl hc)
    refine lv_goto (tgt := 2550) hx hb dL_law_341 (by decide) ?_
    exact W.widen (Nat.le_succ _) (Nat.le_add_right _ 6) (kk _ _ _ _ _ _ hr9 hP hS (lv_sub hl [2, 3, 4, 5, 6, 7] rfl))
  · refine lv_aload_n hx hb dL_law_240 rfl (lv_at hl 4 rfl) ?_
    refine lv_aload_n hx hb dL_law_241 rfl (lv_at hl 5 rfl) ?_
    refine lv_iload hx hb dL_law_242 (lv_at hl 0 rfl) ?_
    refine lv_iconst (v := (1 : Int32)) hx hb dL_law_244 (by decide) ?_
    refine lv_iadd hx hb dL_law_245 ?_
    refine zr_sldc (cn := 1) X hX hbl hbA hS (by omega) (by omega) rfl dL_law_246 ?_
    refine lv_aload_n hx hb dL_law_247 rfl (lv_at hl 5 rfl) ?_
    refine lv_iload hx hb dL_law_248 (lv_at hl 0 rfl) ?_
    refine lv_iconst (v := (2 : Int32)) hx hb dL_law_250 (by decide) ?_
    refine lv_iadd hx hb dL_law_251 ?_
    refine zr_sldc (cn := 2) X hX hbl hbA hS (by omega) (by omega) rfl dL_law_252 ?_
    refine lv_aload_n hx hb dL_law_253 rfl (lv_at hl 5 rfl) ?_
    refine lv_iload hx hb dL_law_254 (lv_at hl 0 rfl) ?_
    refine lv_iconst (v := (3 : Int32)) hx hb dL_law_256 (by decide) ?_
    refine lv_iadd hx hb dL_law_257 ?_
    refine zr_sldc (cn := 3) X hX hbl hbA hS (by omega) (by omega) rfl dL_law_258 ?_
    refine lv_aload_n hx hb dL_law_259 rfl (lv_at hl 5 rfl) ?_
    refine lv_iload hx hb dL_law_260 (lv_at hl 0 rfl) ?_
    refine lv_iconst (v := (4 : Int32)) hx hb dL_law_262 (by decide) ?_
    refine lv_iadd hx hb dL_law_263 ?_
    refine zr_sldc (cn := 4) X hX hbl hbA hS (by omega) (by omega) rfl dL_law_264 ?_
    refine lv_aload_n hx hb dL_law_265 rfl (lv_at hl 5 rfl) ?_
    refine lv_iload hx hb dL_law_266 (lv_at hl 0 rfl) ?_
    refine lv_iconst (v := (5 : Int32)) hx hb dL_law_268 (by decide) ?_
    refine lv_iadd hx hb dL_law_269 ?_
    refine zr_sldc (cn := 5) X hX hbl hbA hS (by omega) (by omega) rfl dL_law_270 ?_
    refine lv_aload_n hx hb dL_law_271 rfl (lv_at hl 2 rfl) ?_
    refine zr_cH (rest := []) (As := [.ref (g.2.2 + 0), .int (xs (n + 1)), .int (xs (n + 2)), .int (xs (n + 3)), .int (xs (n + 4)), .int (xs (n + 5)), .ref (g.2.2 + 318)]) X hP hS hnc (hc1_L_append (g := g) (nc := 320) (I := I) (J := J) (O := O) hnI hnO l hlT hf) ch_L_126 rfl hl.1 (Nat.le_of_ble_eq_true rfl) ⟨by omega, by omega⟩ ⟨by omega, by omega⟩ dL_law_272 rfl (fun H locs hP hS => ?_)
    refine lv_istore (lv' := [(6, .int (1 : Int32)), (5, .int (Int32.ofNat n)), (4, .ref (g.2.2 + 319)), (3, .ref (g.2.2 + 318)), (2, .ref (g.2.2 + 306)), (1, .ref (g.2.2 + 0)), (0, .ref b)]) hx hb dL_law_275 hl (by decide) rfl (fun ls hl => ?_)
    refine lv_aload_n hx hb dL_law_277 rfl (lv_at hl 4 rfl) ?_
    refine lv_aload_n hx hb dL_law_278 rfl (lv_at hl 6 rfl) ?_
    refine lv_iload hx hb dL_law_279 (lv_at hl 1 rfl) ?_
    refine lv_iconst (v := (1 : Int32)) hx hb dL_law_281 (by decide) ?_
    refine lv_iadd hx hb dL_law_282 ?_
    refine zr_sldc (cn := 1) X hX hbl hbA hS (by omega) (by omega) rfl dL_law_283 ?_
    refine lv_aload_n hx hb dL_law_284 rfl (lv_at hl 6 rfl) ?_
    refine lv_iload hx hb dL_law_285 (lv_at hl 1 rfl) ?_
    refine lv_iconst (v := (2 : Int32)) hx hb dL_law_287 (by decide) ?_
    refine lv_iadd hx hb dL_law_288 ?_
    refine zr_sldc (cn := 2) X hX hbl hbA hS (by omega) (by omega) rfl dL_law_289 ?_
    refine lv_aload_n hx hb dL_law_290 rfl (lv_at hl 6 rfl) ?_
    refine lv_iload hx hb dL_law_291 (lv_at hl 1 rfl) ?_
    refine lv_iconst (v := (3 : Int32)) hx hb dL_law_293 (by decide) ?_
    refine lv_iadd hx hb dL_law_294 ?_
    refine zr_sldc (cn := 3) X hX hbl hbA hS (by omega) (by omega) rfl dL_law_295 ?_
    refine lv_aload_n hx hb dL_law_296 rfl (lv_at hl 6 rfl) ?_
    refine lv_iload hx hb dL_law_297 (lv_at hl 1 rfl) ?_
    refine lv_iconst (v := (4 : Int32)) hx hb dL_law_299 (by decide) ?_
    refine lv_iadd hx hb dL_law_300 ?_
    refine zr_sldc (cn := 4) X hX hbl hbA hS (by omega) (by omega) rfl dL_law_301 ?_
    refine lv_aload_n hx hb dL_law_302 rfl (lv_at hl 6 rfl) ?_
    refine lv_iload hx hb dL_law_303 (lv_at hl 1 rfl) ?_
    refine lv_iconst (v := (5 : Int32)) hx hb dL_law_305 (by decide) ?_
    refine lv_iadd hx hb dL_law_306 ?_
    refine zr_sldc (cn := 5) X hX hbl hbA hS (by omega) (by omega) rfl dL_law_307 ?_
    refine zr_cVi (rest := []) (As := [.int (xs (n + 1)), .int (xs (n + 2)), .int (xs (n + 3)), .int (xs (n + 4)), .int (xs (n + 5))]) X hP hS (ct_X8_append (g := g) (nc := 320) (I := Iq) (J := J) (O := O) hnJ l hj) cw_L_131 (zr_recv X hP (by omega) (zb_ceJo zk_306 (by decide)) rfl) rfl hl.1 (Nat.le_of_ble_eq_true rfl) ⟨by omega, by omega⟩ ⟨by omega, by omega⟩ dL_law_308 rfl (fun H locs hP hS => ?_)
    refine lv_istore (lv' := [(7, .int rb), (6, .int (1 : Int32)), (5, .int (Int32.ofNat n)), (4, .ref (g.2.2 + 319)), (3, .ref (g.2.2 + 318)), (2, .ref (g.2.2 + 306)), (1, .ref (g.2.2 + 0)), (0, .ref b)]) hx hb dL_law_311 hl (by decide) rfl (fun ls hl => ?_)
    refine lv_aload_n hx hb dL_law_313 rfl (lv_at hl 5 rfl) ?_
    refine zr_cVi (rest := []) (As := []) X hP hS (ct_X8_thrown (g := g) (nc := 320) (I := Iq) (J := Jq) (O := O) hnJ l rfl) cw_L_132 (zr_recv X hP (by omega) (zb_ceJo zk_306 (by decide)) rfl) rfl hl.1 (Nat.le_of_ble_eq_true rfl) ⟨by omega, by omega⟩ ⟨by omega, by omega⟩ dL_law_314 rfl (fun H locs hP hS => ?_)
    refine lv_iload hx hb dL_law_317 (lv_at hl 1 rfl) ?_
    refine lv_icmp_eq (tgt := 324) hx hb dL_law_319 (by decide) (fun _ => ?_) (fun hc => absurd ht hc)
    refine lv_iload hx hb dL_law_324 (lv_at hl 1 rfl) ?_
    refine lv_if_ne (tgt := 341) hx hb dL_law_326 (by decide) (fun _ => ?_) (fun hc => absurd hc (by decide))
    refine lv_goto (tgt := 2550) hx hb dL_law_341 (by decide) ?_
    exact kk _ _ _ _ _ _ hr9 hP hS (lv_sub hl [2, 3, 4, 5, 6, 7] rfl)

set_option maxHeartbeats 1000000 in
theorem lw_c1 {p : Program} {l : Launch} {e : Env} {R : Room} {s : State} {m : MethodId} {args : Array Value} {below : List Frame} {meth : Method} {c : Code} {H : Heap} {locs : List Loc} {cells slots : Nat} {Q : State → Prop} {g : zb_G} {ls : Array Slot} {b L n : Nat} {xs : Nat → Int32} {Rel : Nat → Mem → Mem → Prop} (hq : eqP_1 Rel) {I J O : Mem} (hRel : Rel n I J) (hlT : l.stackTraces = false) (X : zb_X g p m c cL_law 10 s args RL meth) (hnc : zb_Nc s) (hX : va_X b L xs s s.heap) (hbl : b < s.heap.size) (hbA : ¬ zb_A g b) (hn : n + 6 ≤ L) (hL : L ≤ 3072)
    (hP : va_P g.1 vwCl (zb_ws g 320 (zb_ce g I J O)) H) (hS : va_S (zb_A g) s.heap H locs) (hl : lv_has ls 10 [(5, .int (Int32.ofNat n)), (4, .ref (g.2.2 + 319)), (3, .ref (g.2.2 + 318)), (2, .ref (g.2.2 + 306)), (1, .ref (g.2.2 + 0)), (0, .ref b)]) (h1 : 13 ≤ R.frames) (h2 : 472 ≤ R.locals) (h3 : cells + 1 ≤ R.cells) (h4 : slots + 6 ≤ R.slots)
    (kk : ∀ (I J O : Mem) (H : Heap) (locs : List Loc) (ls : Array Slot), Rel (n + 6) I J → va_P g.1 vwCl (zb_ws g 320 (zb_ce g I J O)) H → va_S (zb_A g) s.heap H locs → lv_has ls 10 [(5, .int (Int32.ofNat n)), (4, .ref (g.2.2 + 319)), (3, .ref (g.2.2 + 318)), (2, .ref (g.2.2 + 306)), (1, .ref (g.2.2 + 0)), (0, .ref b)] → W p l e R s m args below meth c H locs (cells + 1) (slots + 6) Q (F0 m 2550 ls [])) : W p l e R s m args below meth c H locs cells slots Q (F0 m 344 ls []) := by
  have hx := X.1.1
  have hb := X.1.2.1
  have hnI : 306 ≤ 320 := by decide
  have hnJ : 318 ≤ 320 := by decide
  have hnO : 320 ≤ 320 := by decide
  obtain ⟨r, Iq, Jq, hf, hj, hr9⟩ := hq n I J (by omega) hRel ()
  refine lv_aload_n hx hb dL_law_344 rfl (lv_at hl 4 rfl) ?_
  refine zr_cVi (rest := []) (As := []) X hP hS (ct_X7_load (g := g) (nc := 320) (I := I) (J := J) (O := O) hnI l hf) cw_L_135 (zr_recv X hP (by omega) (zb_ceIo zk_0 (by decide)) rfl) rfl hl.1 (Nat.le_of_ble_eq_true rfl) ⟨by omega, by omega⟩ ⟨by omega, by omega⟩ dL_law_345 rfl (fun H locs hP hS => ?_)
  refine lv_aload_n hx hb dL_law_348 rfl (lv_at hl 3 rfl) ?_
  refine zr_cVi (rest := [.int r]) (As := []) X hP hS (ct_X8_load (g := g) (nc := 320) (I := Iq) (J := J) (O := O) hnJ l hj) cw_L_138 (zr_recv X hP (by omega) (zb_ceJo zk_306 (by decide)) rfl) rfl hl.1 (Nat.le_of_ble_eq_true rfl) ⟨by omega, by omega⟩ ⟨by omega, by omega⟩ dL_law_349 rfl (fun H locs hP hS => ?_)
  refine lv_icmp_eq (tgt := 2550) hx hb dL_law_352 (by decide) (fun _ => ?_) (fun hc => absurd rfl hc)
  exact W.widen (Nat.le_succ _) (Nat.le_add_right _ 6) (kk _ _ _ _ _ _ hr9 hP hS (lv_sub hl [0, 1, 2, 3, 4, 5] rfl))

set_option maxHeartbeats 1000000 in
theorem lw_c2 {p : Program} {l : Launch} {e : Env} {R : Room} {s : State} {m : MethodId} {args : Array Value} {below : List Frame} {meth : Method} {c : Code} {H : Heap} {locs : List Loc} {cells slots : Nat} {Q : State → Prop} {g : zb_G} {ls : Array Slot} {b L n : Nat} {xs : Nat → Int32} {Rel : Nat → Mem → Mem → Prop} (hq : eqP_2 Rel) {I J O : Mem} (hRel : Rel n I J) (hlT : l.stackTraces = false) (X : zb_X g p m c cL_law 10 s args RL meth) (hnc : zb_Nc s) (hX : va_X b L xs s s.heap) (hbl : b < s.heap.size) (hbA : ¬ zb_A g b) (hn : n + 6 ≤ L) (hL : L ≤ 3072)
    (hP : va_P g.1 vwCl (zb_ws g 320 (zb_ce g I J O)) H) (hS : va_S (zb_A g) s.heap H locs) (hl : lv_has ls 10 [(5, .int (Int32.ofNat n)), (4, .ref (g.2.2 + 319)), (3, .ref (g.2.2 + 318)), (2, .ref (g.2.2 + 306)), (1, .ref (g.2.2 + 0)), (0, .ref b)]) (h1 : 13 ≤ R.frames) (h2 : 472 ≤ R.locals) (h3 : cells + 1 ≤ R.cells) (h4 : slots + 6 ≤ R.slots)
    (kk : ∀ (I J O : Mem) (H : Heap) (locs : List Loc) (ls : Array Slot), Rel (n + 6) I J → va_P g.1 vwCl (zb_ws g 320 (zb_ce g I J O)) H → va_S (zb_A g) s.heap H locs → lv_has ls 10 [(5, .int (Int32.ofNat n)), (4, .ref (g.2.2 + 319)), (3, .ref (g.2.2 + 318)), (2, .ref (g.2.2 + 306)), (1, .ref (g.2.2 + 0)), (0, .ref b)] → W p l e R s m args below meth c H locs (cells + 1) (slots + 6) Q (F0 m 2550 ls [])) : W p l e R s m args below meth c H locs cells slots Q (F0 m 357 ls []) := by
  have hx := X.1.1
  have hb := X.1.2.1
  have hnI : 306 ≤ 320 := by decide
  have hnJ : 318 ≤ 320 := by decide
  have hnO : 320 ≤ 320 := by decide
  obtain ⟨r, Iq, Jq, hf, hj, hr9⟩ := hq n I J (by omega) hRel ()
  refine lv_aload_n hx hb dL_law_357 rfl (lv_at hl 4 rfl) ?_
  refine zr_cVi (rest := []) (As := []) X hP hS (ct_X7_play (g := g) (nc := 320) (I := I) (J := J) (O := O) hnI l hf) cw_L_139 (zr_recv X hP (by omega) (zb_ceIo zk_0 (by decide)) rfl) rfl hl.1 (Nat.le_of_ble_eq_true rfl) ⟨by omega, by omega⟩ ⟨by omega, by omega⟩ dL_law_358 rfl (fun H locs hP hS => ?_)
  refine lv_aload_n hx hb dL_law_361 rfl (lv_at hl 3 rfl) ?_
  refine zr_cVi (rest := [.int r]) (As := []) X hP hS (ct_X8_play (g := g) (nc := 320) (I := Iq) (J := J) (O := O) hnJ l hj) cw_L_142 (zr_recv X hP (by omega) (zb_ceJo zk_306 (by decide)) rfl) rfl hl.1 (Nat.le_of_ble_eq_true rfl) ⟨by omega, by omega⟩ ⟨by omega, by omega⟩ dL_law_362 rfl (fun H locs hP hS => ?_)
  refine lv_icmp_eq (tgt := 2550) hx hb dL_law_365 (by decide) (fun _ => ?_) (fun hc => absurd rfl hc)
  exact W.widen (Nat.le_succ _) (Nat.le_add_right _ 6) (kk _ _ _ _ _ _ hr9 hP hS (lv_sub hl [0, 1, 2, 3, 4, 5] rfl))

set_option maxHeartbeats 1000000 in
theorem lw_c3 {p : Program} {l : Launch} {e : Env} {R : Room} {s : State} {m : MethodId} {args : Array Value} {below : List Frame} {meth : Method} {c : Code} {H : Heap} {locs : List Loc} {cells slots : Nat} {Q : State → Prop} {g : zb_G} {ls : Array Slot} {b L n : Nat} {xs : Nat → Int32} {Rel : Nat → Mem → Mem → Prop} (hq : eqP_3 Rel) {I J O : Mem} (hRel : Rel n I J) (hlT : l.stackTraces = false) (X : zb_X g p m c cL_law 10 s args RL meth) (hnc : zb_Nc s) (hX : va_X b L xs s s.heap) (hbl : b < s.heap.size) (hbA : ¬ zb_A g b) (hn : n + 6 ≤ L) (hL : L ≤ 3072)
    (hP : va_P g.1 vwCl (zb_ws g 320 (zb_ce g I J O)) H) (hS : va_S (zb_A g) s.heap H locs) (hl : lv_has ls 10 [(5, .int (Int32.ofNat n)), (4, .ref (g.2.2 + 319)), (3, .ref (g.2.2 + 318)), (2, .ref (g.2.2 + 306)), (1, .ref (g.2.2 + 0)), (0, .ref b)]) (h1 : 13 ≤ R.frames) (h2 : 472 ≤ R.locals) (h3 : cells + 1 ≤ R.cells) (h4 : slots + 6 ≤ R.slots)
    (kk : ∀ (I J O : Mem) (H : Heap) (locs : List Loc) (ls : Array Slot), Rel (n + 6) I J → va_P g.1 vwCl (zb_ws g 320 (zb_ce g I J O)) H → va_S (zb_A g) s.heap H locs → lv_has ls 10 [(5, .int (Int32.ofNat n)), (4, .ref (g.2.2 + 319)), (3, .ref (g.2.2 + 318)), (2, .ref (g.2.2 + 306)), (1, .ref (g.2.2 + 0)), (0, .ref b)] → W p l e R s m args below meth c H locs (cells + 1) (slots + 6) Q (F0 m 2550 ls [])) : W p l e R s m args below meth c H locs cells slots Q (F0 m 370 ls []) := by
  have hx := X.1.1
  have hb := X.1.2.1
  have hnI : 306 ≤ 320 := by decide
  have hnJ : 318 ≤ 320 := by decide
  have hnO : 320 ≤ 320 := by decide
  obtain ⟨r, Jq, hf, hj, hr9⟩ := hq n I J (by omega) hRel ()
  refine lv_aload_n hx hb dL_law_370 rfl (lv_at hl 4 rfl) ?_
  refine zr_cVi (rest := []) (As := []) X hP hS (ct_X7_errorCode (g := g) (nc := 320) (I := I) (J := J) (O := O) hnI l hf) cw_L_143 (zr_recv X hP (by omega) (zb_ceIo zk_0 (by decide)) rfl) rfl hl.1 (Nat.le_of_ble_eq_true rfl) ⟨by omega, by omega⟩ ⟨by omega, by omega⟩ dL_law_371 rfl (fun H locs hP hS => ?_)
  refine lv_aload_n hx hb dL_law_374 rfl (lv_at hl 3 rfl) ?_
  refine zr_cVi (rest := [.int r]) (As := []) X hP hS (ct_X8_errorCode (g := g) (nc := 320) (I := I) (J := J) (O := O) hnJ l hj) cw_L_146 (zr_recv X hP (by omega) (zb_ceJo zk_306 (by decide)) rfl) rfl hl.1 (Nat.le_of_ble_eq_true rfl) ⟨by omega, by omega⟩ ⟨by omega, by omega⟩ dL_law_375 rfl (fun H locs hP hS => ?_)
  refine lv_icmp_eq (tgt := 2550) hx hb dL_law_378 (by decide) (fun _ => ?_) (fun hc => absurd rfl hc)
  exact W.widen (Nat.le_succ _) (Nat.le_add_right _ 6) (kk _ _ _ _ _ _ hr9 hP hS (lv_sub hl [0, 1, 2, 3, 4, 5] rfl))

set_option maxHeartbeats 1000000 in
theorem lw_c4 {p : Program} {l : Launch} {e : Env} {R : Room} {s : State} {m : MethodId} {args : Array Value} {below : List Frame} {meth : Method} {c : Code} {H : Heap} {locs : List Loc} {cells slots : Nat} {Q : State → Prop} {g : zb_G} {ls : Array Slot} {b L n : Nat} {xs : Nat → Int32} {Rel : Nat → Mem → Mem → Prop} (hq : eqP_4 Rel) {I J O : Mem} (hRel : Rel n I J) (hlT : l.stackTraces = false) (X : zb_X g p m c cL_law 10 s args RL meth) (hnc : zb_Nc s) (hX : va_X b L xs s s.heap) (hbl : b < s.heap.size) (hbA : ¬ zb_A g b) (hn : n + 6 ≤ L) (hL : L ≤ 3072)
    (hP : va_P g.1 vwCl (zb_ws g 320 (zb_ce g I J O)) H) (hS : va_S (zb_A g) s.heap H locs) (hl : lv_has ls 10 [(5, .int (Int32.ofNat n)), (4, .ref (g.2.2 + 319)), (3, .ref (g.2.2 + 318)), (2, .ref (g.2.2 + 306)), (1, .ref (g.2.2 + 0)), (0, .ref b)]) (h1 : 13 ≤ R.frames) (h2 : 472 ≤ R.locals) (h3 : cells + 1 ≤ R.cells) (h4 : slots + 6 ≤ R.slots)
    (kk : ∀ (I J O : Mem) (H : Heap) (locs : List Loc) (ls : Array Slot), Rel (n + 6) I J → va_P g.1 vwCl (zb_ws g 320 (zb_ce g I J O)) H → va_S (zb_A g) s.heap H locs → lv_has ls 10 [(5, .int (Int32.ofNat n)), (4, .ref (g.2.2 + 319)), (3, .ref (g.2.2 + 318)), (2, .ref (g.2.2 + 306)), (1, .ref (g.2.2 + 0)), (0, .ref b)] → W p l e R s m args below meth c H locs (cells + 1) (slots + 6) Q (F0 m 2550 ls [])) : W p l e R s m args below meth c H locs cells slots Q (F0 m 383 ls []) := by
  have hx := X.1.1
  have hb := X.1.2.1
  have hnI : 306 ≤ 320 := by decide
  have hnJ : 318 ≤ 320 := by decide
  have hnO : 320 ≤ 320 := by decide
  obtain ⟨r, Jq, hf, hj, hr9⟩ := hq n I J (by omega) hRel ()
  refine lv_aload_n hx hb dL_law_383 rfl (lv_at hl 4 rfl) ?_
  refine zr_cVi (rest := []) (As := []) X hP hS (ct_X7_errorPosition (g := g) (nc := 320) (I := I) (J := J) (O := O) hnI l hf) cw_L_147 (zr_recv X hP (by omega) (zb_ceIo zk_0 (by decide)) rfl) rfl hl.1 (Nat.le_of_ble_eq_true rfl) ⟨by omega, by omega⟩ ⟨by omega, by omega⟩ dL_law_384 rfl (fun H locs hP hS => ?_)
  refine lv_aload_n hx hb dL_law_387 rfl (lv_at hl 3 rfl) ?_
  refine zr_cVi (rest := [.int r]) (As := []) X hP hS (ct_X8_errorPosition (g := g) (nc := 320) (I := I) (J := J) (O := O) hnJ l hj) cw_L_150 (zr_recv X hP (by omega) (zb_ceJo zk_306 (by decide)) rfl) rfl hl.1 (Nat.le_of_ble_eq_true rfl) ⟨by omega, by omega⟩ ⟨by omega, by omega⟩ dL_law_388 rfl (fun H locs hP hS => ?_)
  refine lv_icmp_eq (tgt := 2550) hx hb dL_law_391 (by decide) (fun _ => ?_) (fun hc => absurd rfl hc)
  exact W.widen (Nat.le_succ _) (Nat.le_add_right _ 6) (kk _ _ _ _ _ _ hr9 hP hS (lv_sub hl [0, 1, 2, 3, 4, 5] rfl))

set_option maxHeartbeats 1000000 in
theorem lw_c5 {p : Program} {l : Launch} {e : Env} {R : Room} {s : State} {m : MethodId} {args : Array Value} {below : List Frame} {meth : Method} {c : Code} {H : Heap} {locs : List Loc} {cells slots : Nat} {Q : State → Prop} {g : zb_G} {ls : Array Slot} {b L n : Nat} {xs : Nat → Int32} {Rel : Nat → Mem → Mem → Prop} (hq : eqP_5 Rel) {I J O : Mem} (hRel : Rel n I J) (hlT : l.stackTraces = false) (X : zb_X g p m c cL_law 10 s args RL meth) (hnc : zb_Nc s) (hX : va_X b L xs s s.heap) (hbl : b < s.heap.size) (hbA : ¬ zb_A g b) (hn : n + 6 ≤ L) (hL : L ≤ 3072)
    (hP : va_P g.1 vwCl (zb_ws g 320 (zb_ce g I J O)) H) (hS : va_S (zb_A g) s.heap H locs) (hl : lv_has ls 10 [(5, .int (Int32.ofNat n)), (4, .ref (g.2.2 + 319)), (3, .ref (g.2.2 + 318)), (2, .ref (g.2.2 + 306)), (1, .ref (g.2.2 + 0)), (0, .ref b)]) (h1 : 13 ≤ R.frames) (h2 : 472 ≤ R.locals) (h3 : cells + 1 ≤ R.cells) (h4 : slots + 6 ≤ R.slots)
    (kk : ∀ (I J O : Mem) (H : Heap) (locs : List Loc) (ls : Array Slot), Rel (n + 6) I J → va_P g.1 vwCl (zb_ws g 320 (zb_ce g I J O)) H → va_S (zb_A g) s.heap H locs → lv_has ls 10 [(5, .int (Int32.ofNat n)), (4, .ref (g.2.2 + 319)), (3, .ref (g.2.2 + 318)), (2, .ref (g.2.2 + 306)), (1, .ref (g.2.2 + 0)), (0, .ref b)] → W p l e R s m args below meth c H locs (cells + 1) (slots + 6) Q (F0 m 2550 ls [])) : W p l e R s m args below meth c H locs cells slots Q (F0 m 396 ls []) := by
  have hx := X.1.1
  have hb := X.1.2.1
  have hnI : 306 ≤ 320 := by decide
  have hnJ : 318 ≤ 320 := by decide
  have hnO : 320 ≤ 320 := by decide
  obtain ⟨E, r, rb, Jq, hf, hj, hr9, hd9⟩ := hq n I J (by omega) hRel (xs (n + 1))
  rcases hd9 with ⟨rfl, ht, rfl⟩ | ⟨rfl, ht⟩
  · refine lv_aload_n hx hb dL_law_396 rfl (lv_at hl 4 rfl) ?_
    refine lv_aload_n hx hb dL_law_397 rfl (lv_at hl 5 rfl) ?_
    refine lv_iload hx hb dL_law_398 (lv_at hl 0 rfl) ?_
    refine lv_iconst (v := (1 : Int32)) hx hb dL_law_400 (by decide) ?_
    refine lv_iadd hx hb dL_law_401 ?_
    refine zr_sldc (cn := 1) X hX hbl hbA hS (by omega) (by omega) rfl dL_law_402 ?_
    refine lv_aload_n hx hb dL_law_403 rfl (lv_at hl 2 rfl) ?_
    refine zr_cH (rest := []) (As := [.ref (g.2.2 + 0), .int (xs (n + 1)), .ref (g.2.2 + 318)]) X hP hS hnc (hn_L_size (g := g) (nc := 320) (I := I) (J := J) (O := O) hnI hnO l hf) ch_L_151 rfl hl.1 (Nat.le_of_ble_eq_true rfl) ⟨by omega, by omega⟩ ⟨by omega, by omega⟩ dL_law_404 rfl (fun H locs hP hS => ?_)
    refine lv_istore (lv' := [(6, .int (0 : Int32)), (5, .int (Int32.ofNat n)), (4, .ref (g.2.2 + 319)), (3, .ref (g.2.2 + 318)), (2, .ref (g.2.2 + 306)), (1, .ref (g.2.2 + 0)), (0, .ref b)]) hx hb dL_law_407 hl (by decide) rfl (fun ls hl => ?_)
    refine lv_aload_n hx hb dL_law_409 rfl (lv_at hl 4 rfl) ?_
    refine lv_aload_n hx hb dL_law_410 rfl (lv_at hl 6 rfl) ?_
    refine lv_iload hx hb dL_law_411 (lv_at hl 1 rfl) ?_
    refine lv_iconst (v := (1 : Int32)) hx hb dL_law_413 (by decide) ?_
    refine lv_iadd hx hb dL_law_414 ?_
    refine zr_sldc (cn := 1) X hX hbl hbA hS (by omega) (by omega) rfl dL_law_415 ?_
    refine zr_cVi (rest := []) (As := [.int (xs (n + 1))]) X hP hS (ct_X8_size (g := g) (nc := 320) (I := I) (J := J) (O := (wr O 318 0 r)) hnJ l hj) cw_L_154 (zr_recv X hP (by omega) (zb_ceJo zk_306 (by decide)) rfl) rfl hl.1 (Nat.le_of_ble_eq_true rfl) ⟨by omega, by omega⟩ ⟨by omega, by omega⟩ dL_law_416 rfl (fun H locs hP hS => ?_)
    refine lv_istore (lv' := [(7, .int r), (6, .int (0 : Int32)), (5, .int (Int32.ofNat n)), (4, .ref (g.2.2 + 319)), (3, .ref (g.2.2 + 318)), (2, .ref (g.2.2 + 306)), (1, .ref (g.2.2 + 0)), (0, .ref b)]) hx hb dL_law_419 hl (by decide) rfl (fun ls hl => ?_)
    refine lv_aload_n hx hb dL_law_421 rfl (lv_at hl 5 rfl) ?_
    refine zr_cVi (rest := []) (As := []) X hP hS (ct_X8_thrown (g := g) (nc := 320) (I := I) (J := Jq) (O := (wr O 318 0 r)) hnJ l rfl) cw_L_132 (zr_recv X hP (by omega) (zb_ceJo zk_306 (by decide)) rfl) rfl hl.1 (Nat.le_of_ble_eq_true rfl) ⟨by omega, by omega⟩ ⟨by omega, by omega⟩ dL_law_422 rfl (fun H locs hP hS => ?_)
    refine lv_iload hx hb dL_law_425 (lv_at hl 1 rfl) ?_
    refine lv_icmp_eq (tgt := 432) hx hb dL_law_427 (by decide) (fun _ => ?_) (fun hc => absurd ht hc)
    refine lv_iload hx hb dL_law_432 (lv_at hl 1 rfl) ?_
    refine lv_if_ne (tgt := 449) hx hb dL_law_434 (by decide) (fun hc => absurd rfl hc) (fun _ => ?_)
    refine lv_aload_n hx hb dL_law_437 rfl (lv_at hl 4 rfl) ?_
    refine lv_iconst (v := (0 : Int32)) hx hb dL_law_438 (by decide) ?_
    refine zr_lald X hP hnO dL_law_439 ?_
    refine lv_iload hx hb dL_law_440 (lv_at hl 0 rfl) ?_
    refine lv_i2l hx hb dL_law_442 rfl ?_
    refine zr_lcmp0 hx hb dL_law_443 ?_
    refine lv_if_eq (tgt := 449) hx hb dL_law_444 (by decide) (fun _ => ?_) (fun hc => absurd rfl hc)
    refine lv_goto (tgt := 2550) hx hb dL_law_449 (by decide) ?_
    exact W.widen (Nat.le_succ _) (Nat.le_add_right _ 6) (kk _ _ _ _ _ _ hr9 hP hS (lv_sub hl [2, 3, 4, 5, 6, 7] rfl))
  · refine lv_aload_n hx hb dL_law_396 rfl (lv_at hl 4 rfl) ?_
    refine lv_aload_n hx hb dL_law_397 rfl (lv_at hl 5 rfl) ?_
    refine lv_iload hx hb dL_law_398 (lv_at hl 0 rfl) ?_
    refine lv_iconst (v := (1 : Int32)) hx hb dL_law_400 (by decide) ?_
    refine lv_iadd hx hb dL_law_401 ?_
    refine zr_sldc (cn := 1) X hX hbl hbA hS (by omega) (by omega) rfl dL_law_402 ?_
    refine lv_aload_n hx hb dL_law_403 rfl (lv_at hl 2 rfl) ?_
    refine zr_cH (rest := []) (As := [.ref (g.2.2 + 0), .int (xs (n + 1)), .ref (g.2.2 + 318)]) X hP hS hnc (hc1_L_size (g := g) (nc := 320) (I := I) (J := J) (O := O) hnI hnO l hlT hf) ch_L_151 rfl hl.1 (Nat.le_of_ble_eq_true rfl) ⟨by omega, by omega⟩ ⟨by omega, by omega⟩ dL_law_404 rfl (fun H locs hP hS => ?_)
    refine lv_istore (lv' := [(6, .int (1 : Int32)), (5, .int (Int32.ofNat n)), (4, .ref (g.2.2 + 319)), (3, .ref (g.2.2 + 318)), (2, .ref (g.2.2 + 306)), (1, .ref (g.2.2 + 0)), (0, .ref b)]) hx hb dL_law_407 hl (by decide) rfl (fun ls hl => ?_)
    refine lv_aload_n hx hb dL_law_409 rfl (lv_at hl 4 rfl) ?_
    refine lv_aload_n hx hb dL_law_410 rfl (lv_at hl 6 rfl) ?_
    refine lv_iload hx hb dL_law_411 (lv_at hl 1 rfl) ?_
    refine lv_iconst (v := (1 : Int32)) hx hb dL_law_413 (by decide) ?_
    refine lv_iadd hx hb dL_law_414 ?_
    refine zr_sldc (cn := 1) X hX hbl hbA hS (by omega) (by omega) rfl dL_law_415 ?_
    refine zr_cVi (rest := []) (As := [.int (xs (n + 1))]) X hP hS (ct_X8_size (g := g) (nc := 320) (I := I) (J := J) (O := O) hnJ l hj) cw_L_154 (zr_recv X hP (by omega) (zb_ceJo zk_306 (by decide)) rfl) rfl hl.1 (Nat.le_of_ble_eq_true rfl) ⟨by omega, by omega⟩ ⟨by omega, by omega⟩ dL_law_416 rfl (fun H locs hP hS => ?_)
    refine lv_istore (lv' := [(7, .int rb), (6, .int (1 : Int32)), (5, .int (Int32.ofNat n)), (4, .ref (g.2.2 + 319)), (3, .ref (g.2.2 + 318)), (2, .ref (g.2.2 + 306)), (1, .ref (g.2.2 + 0)), (0, .ref b)]) hx hb dL_law_419 hl (by decide) rfl (fun ls hl => ?_)
    refine lv_aload_n hx hb dL_law_421 rfl (lv_at hl 5 rfl) ?_
    refine zr_cVi (rest := []) (As := []) X hP hS (ct_X8_thrown (g := g) (nc := 320) (I := I) (J := Jq) (O := O) hnJ l rfl) cw_L_132 (zr_recv X hP (by omega) (zb_ceJo zk_306 (by decide)) rfl) rfl hl.1 (Nat.le_of_ble_eq_true rfl) ⟨by omega, by omega⟩ ⟨by omega, by omega⟩ dL_law_422 rfl (fun H locs hP hS => ?_)
    refine lv_iload hx hb dL_law_425 (lv_at hl 1 rfl) ?_
    refine lv_icmp_eq (tgt := 432) hx hb dL_law_427 (by decide) (fun _ => ?_) (fun hc => absurd ht hc)
    refine lv_iload hx hb dL_law_432 (lv_at hl 1 rfl) ?_
    refine lv_if_ne (tgt := 449) hx hb dL_law_434 (by decide) (fun _ => ?_) (fun hc => absurd hc (by decide))
    refine lv_goto (tgt := 2550) hx hb dL_law_449 (by decide) ?_
    exact kk _ _ _ _ _ _ hr9 hP hS (lv_sub hl [2, 3, 4, 5, 6, 7] rfl)

set_option maxHeartbeats 1000000 in
theorem lw_c6 {p : Program} {l : Launch} {e : Env} {R : Room} {s : State} {m : MethodId} {args : Array Value} {below : List Frame} {meth : Method} {c : Code} {H : Heap} {locs : List Loc} {cells slots : Nat} {Q : State → Prop} {g : zb_G} {ls : Array Slot} {b L n : Nat} {xs : Nat → Int32} {Rel : Nat → Mem → Mem → Prop} (hq : eqP_6 Rel) {I J O : Mem} (hRel : Rel n I J) (hlT : l.stackTraces = false) (X : zb_X g p m c cL_law 10 s args RL meth) (hnc : zb_Nc s) (hX : va_X b L xs s s.heap) (hbl : b < s.heap.size) (hbA : ¬ zb_A g b) (hn : n + 6 ≤ L) (hL : L ≤ 3072)
    (hP : va_P g.1 vwCl (zb_ws g 320 (zb_ce g I J O)) H) (hS : va_S (zb_A g) s.heap H locs) (hl : lv_has ls 10 [(5, .int (Int32.ofNat n)), (4, .ref (g.2.2 + 319)), (3, .ref (g.2.2 + 318)), (2, .ref (g.2.2 + 306)), (1, .ref (g.2.2 + 0)), (0, .ref b)]) (h1 : 13 ≤ R.frames) (h2 : 472 ≤ R.locals) (h3 : cells + 1 ≤ R.cells) (h4 : slots + 6 ≤ R.slots)
    (kk : ∀ (I J O : Mem) (H : Heap) (locs : List Loc) (ls : Array Slot), Rel (n + 6) I J → va_P g.1 vwCl (zb_ws g 320 (zb_ce g I J O)) H → va_S (zb_A g) s.heap H locs → lv_has ls 10 [(5, .int (Int32.ofNat n)), (4, .ref (g.2.2 + 319)), (3, .ref (g.2.2 + 318)), (2, .ref (g.2.2 + 306)), (1, .ref (g.2.2 + 0)), (0, .ref b)] → W p l e R s m args below meth c H locs (cells + 1) (slots + 6) Q (F0 m 2550 ls [])) : W p l e R s m args below meth c H locs cells slots Q (F0 m 452 ls []) := by
  have hx := X.1.1
  have hb := X.1.2.1
  have hnI : 306 ≤ 320 := by decide
  have hnJ : 318 ≤ 320 := by decide
  have hnO : 320 ≤ 320 := by decide
  obtain ⟨E, r, rb, Jq, hf, hj, hr9, hd9⟩ := hq n I J (by omega) hRel (xs (n + 1)) (xs (n + 2))
  rcases hd9 with ⟨rfl, ht, rfl⟩ | ⟨rfl, ht⟩ | ⟨rfl, ht⟩
  · refine lv_aload_n hx hb dL_law_452 rfl (lv_at hl 4 rfl) ?_
    refine lv_aload_n hx hb dL_law_453 rfl (lv_at hl 5 rfl) ?_
    refine lv_iload hx hb dL_law_454 (lv_at hl 0 rfl) ?_
    refine lv_iconst (v := (1 : Int32)) hx hb dL_law_456 (by decide) ?_
    refine lv_iadd hx hb dL_law_457 ?_
    refine zr_sldc (cn := 1) X hX hbl hbA hS (by omega) (by omega) rfl dL_law_458 ?_
    refine lv_aload_n hx hb dL_law_459 rfl (lv_at hl 5 rfl) ?_
    refine lv_iload hx hb dL_law_460 (lv_at hl 0 rfl) ?_
    refine lv_iconst (v := (2 : Int32)) hx hb dL_law_462 (by decide) ?_
    refine lv_iadd hx hb dL_law_463 ?_
    refine zr_sldc (cn := 2) X hX hbl hbA hS (by omega) (by omega) rfl dL_law_464 ?_
    refine lv_aload_n hx hb dL_law_465 rfl (lv_at hl 2 rfl) ?_
    refine zr_cH (rest := []) (As := [.ref (g.2.2 + 0), .int (xs (n + 1)), .int (xs (n + 2)), .ref (g.2.2 + 318)]) X hP hS hnc (hn_L_buoy (g := g) (nc := 320) (I := I) (J := J) (O := O) hnI hnO l hf) ch_L_155 rfl hl.1 (Nat.le_of_ble_eq_true rfl) ⟨by omega, by omega⟩ ⟨by omega, by omega⟩ dL_law_466 rfl (fun H locs hP hS => ?_)
    refine lv_istore (lv' := [(6, .int (0 : Int32)), (5, .int (Int32.ofNat n)), (4, .ref (g.2.2 + 319)), (3, .ref (g.2.2 + 318)), (2, .ref (g.2.2 + 306)), (1, .ref (g.2.2 + 0)), (0, .ref b)]) hx hb dL_law_469 hl (by decide) rfl (fun ls hl => ?_)
    refine lv_aload_n hx hb dL_law_471 rfl (lv_at hl 4 rfl) ?_
    refine lv_aload_n hx hb dL_law_472 rfl (lv_at hl 6 rfl) ?_
    refine lv_iload hx hb dL_law_473 (lv_at hl 1 rfl) ?_
    refine lv_iconst (v := (1 : Int32)) hx hb dL_law_475 (by decide) ?_
    refine lv_iadd hx hb dL_law_476 ?_
    refine zr_sldc (cn := 1) X hX hbl hbA hS (by omega) (by omega) rfl dL_law_477 ?_
    refine lv_aload_n hx hb dL_law_478 rfl (lv_at hl 6 rfl) ?_
    refine lv_iload hx hb dL_law_479 (lv_at hl 1 rfl) ?_
    refine lv_iconst (v := (2 : Int32)) hx hb dL_law_481 (by decide) ?_
    refine lv_iadd hx hb dL_law_482 ?_
    refine zr_sldc (cn := 2) X hX hbl hbA hS (by omega) (by omega) rfl dL_law_483 ?_
    refine zr_cVi (rest := []) (As := [.int (xs (n + 1)), .int (xs (n + 2))]) X hP hS (ct_X8_buoy (g := g) (nc := 320) (I := I) (J := J) (O := (wr O 318 0 r)) hnJ l hj) cw_L_158 (zr_recv X hP (by omega) (zb_ceJo zk_306 (by decide)) rfl) rfl hl.1 (Nat.le_of_ble_eq_true rfl) ⟨by omega, by omega⟩ ⟨by omega, by omega⟩ dL_law_484 rfl (fun H locs hP hS => ?_)
    refine lv_istore (lv' := [(7, .int r), (6, .int (0 : Int32)), (5, .int (Int32.ofNat n)), (4, .ref (g.2.2 + 319)), (3, .ref (g.2.2 + 318)), (2, .ref (g.2.2 + 306)), (1, .ref (g.2.2 + 0)), (0, .ref b)]) hx hb dL_law_487 hl (by decide) rfl (fun ls hl => ?_)
    refine lv_aload_n hx hb dL_law_489 rfl (lv_at hl 5 rfl) ?_
    refine zr_cVi (rest := []) (As := []) X hP hS (ct_X8_thrown (g := g) (nc := 320) (I := I) (J := Jq) (O := (wr O 318 0 r)) hnJ l rfl) cw_L_132 (zr_recv X hP (by omega) (zb_ceJo zk_306 (by decide)) rfl) rfl hl.1 (Nat.le_of_ble_eq_true rfl) ⟨by omega, by omega⟩ ⟨by omega, by omega⟩ dL_law_490 rfl (fun H locs hP hS => ?_)
    refine lv_iload hx hb dL_law_493 (lv_at hl 1 rfl) ?_
    refine lv_icmp_eq (tgt := 500) hx hb dL_law_495 (by decide) (fun _ => ?_) (fun hc => absurd ht hc)
    refine lv_iload hx hb dL_law_500 (lv_at hl 1 rfl) ?_
    refine lv_if_ne (tgt := 517) hx hb dL_law_502 (by decide) (fun hc => absurd rfl hc) (fun _ => ?_)
    refine lv_aload_n hx hb dL_law_505 rfl (lv_at hl 4 rfl) ?_
    refine lv_iconst (v := (0 : Int32)) hx hb dL_law_506 (by decide) ?_
    refine zr_lald X hP hnO dL_law_507 ?_
    refine lv_iload hx hb dL_law_508 (lv_at hl 0 rfl) ?_
    refine lv_i2l hx hb dL_law_510 rfl ?_
    refine zr_lcmp0 hx hb dL_law_511 ?_
    refine lv_if_eq (tgt := 517) hx hb dL_law_512 (by decide) (fun _ => ?_) (fun hc => absurd rfl hc)
    refine lv_goto (tgt := 2550) hx hb dL_law_517 (by decide) ?_
    exact W.widen (Nat.le_succ _) (Nat.le_add_right _ 6) (kk _ _ _ _ _ _ hr9 hP hS (lv_sub hl [2, 3, 4, 5, 6, 7] rfl))
  · refine lv_aload_n hx hb dL_law_452 rfl (lv_at hl 4 rfl) ?_
    refine lv_aload_n hx hb dL_law_453 rfl (lv_at hl 5 rfl) ?_
    refine lv_iload hx hb dL_law_454 (lv_at hl 0 rfl) ?_
    refine lv_iconst (v := (1 : Int32)) hx hb dL_law_456 (by decide) ?_
    refine lv_iadd hx hb dL_law_457 ?_
    refine zr_sldc (cn := 1) X hX hbl hbA hS (by omega) (by omega) rfl dL_law_458 ?_
    refine lv_aload_n hx hb dL_law_459 rfl (lv_at hl 5 rfl) ?_
    refine lv_iload hx hb dL_law_460 (lv_at hl 0 rfl) ?_
    refine lv_iconst (v := (2 : Int32)) hx hb dL_law_462 (by decide) ?_
    refine lv_iadd hx hb dL_law_463 ?_
    refine zr_sldc (cn := 2) X hX hbl hbA hS (by omega) (by omega) rfl dL_law_464 ?_
    refine lv_aload_n hx hb dL_law_465 rfl (lv_at hl 2 rfl) ?_
    refine zr_cH (rest := []) (As := [.ref (g.2.2 + 0), .int (xs (n + 1)), .int (xs (n + 2)), .ref (g.2.2 + 318)]) X hP hS hnc (hc1_L_buoy (g := g) (nc := 320) (I := I) (J := J) (O := O) hnI hnO l hlT hf) ch_L_155 rfl hl.1 (Nat.le_of_ble_eq_true rfl) ⟨by omega, by omega⟩ ⟨by omega, by omega⟩ dL_law_466 rfl (fun H locs hP hS => ?_)
    refine lv_istore (lv' := [(6, .int (1 : Int32)), (5, .int (Int32.ofNat n)), (4, .ref (g.2.2 + 319)), (3, .ref (g.2.2 + 318)), (2, .ref (g.2.2 + 306)), (1, .ref (g.2.2 + 0)), (0, .ref b)]) hx hb dL_law_469 hl (by decide) rfl (fun ls hl => ?_)
    refine lv_aload_n hx hb dL_law_471 rfl (lv_at hl 4 rfl) ?_
    refine lv_aload_n hx hb dL_law_472 rfl (lv_at hl 6 rfl) ?_
    refine lv_iload hx hb dL_law_473 (lv_at hl 1 rfl) ?_
    refine lv_iconst (v := (1 : Int32)) hx hb dL_law_475 (by decide) ?_
    refine lv_iadd hx hb dL_law_476 ?_
    refine zr_sldc (cn := 1) X hX hbl hbA hS (by omega) (by omega) rfl dL_law_477 ?_
    refine lv_aload_n hx hb dL_law_478 rfl (lv_at hl 6 rfl) ?_
    refine lv_iload hx hb dL_law_479 (lv_at hl 1 rfl) ?_
    refine lv_iconst (v := (2 : Int32)) hx hb dL_law_481 (by decide) ?_
    refine lv_iadd hx hb dL_law_482 ?_
    refine zr_sldc (cn := 2) X hX hbl hbA hS (by omega) (by omega) rfl dL_law_483 ?_
    refine zr_cVi (rest := []) (As := [.int (xs (n + 1)), .int (xs (n + 2))]) X hP hS (ct_X8_buoy (g := g) (nc := 320) (I := I) (J := J) (O := O) hnJ l hj) cw_L_158 (zr_recv X hP (by omega) (zb_ceJo zk_306 (by decide)) rfl) rfl hl.1 (Nat.le_of_ble_eq_true rfl) ⟨by omega, by omega⟩ ⟨by omega, by omega⟩ dL_law_484 rfl (fun H locs hP hS => ?_)
    refine lv_istore (lv' := [(7, .int rb), (6, .int (1 : Int32)), (5, .int (Int32.ofNat n)), (4, .ref (g.2.2 + 319)), (3, .ref (g.2.2 + 318)), (2, .ref (g.2.2 + 306)), (1, .ref (g.2.2 + 0)), (0, .ref b)]) hx hb dL_law_487 hl (by decide) rfl (fun ls hl => ?_)
    refine lv_aload_n hx hb dL_law_489 rfl (lv_at hl 5 rfl) ?_
    refine zr_cVi (rest := []) (As := []) X hP hS (ct_X8_thrown (g := g) (nc := 320) (I := I) (J := Jq) (O := O) hnJ l rfl) cw_L_132 (zr_recv X hP (by omega) (zb_ceJo zk_306 (by decide)) rfl) rfl hl.1 (Nat.le_of_ble_eq_true rfl) ⟨by omega, by omega⟩ ⟨by omega, by omega⟩ dL_law_490 rfl (fun H locs hP hS => ?_)
    refine lv_iload hx hb dL_law_493 (lv_at hl 1 rfl) ?_
    refine lv_icmp_eq (tgt := 500) hx hb dL_law_495 (by decide) (fun _ => ?_) (fun hc => absurd ht hc)
    refine lv_iload hx hb dL_law_500 (lv_at hl 1 rfl) ?_
    refine lv_if_ne (tgt := 517) hx hb dL_law_502 (by decide) (fun _ => ?_) (fun hc => absurd hc (by decide))
    refine lv_goto (tgt := 2550) hx hb dL_law_517 (by decide) ?_
    exact kk _ _ _ _ _ _ hr9 hP hS (lv_sub hl [2, 3, 4, 5, 6, 7] rfl)
  · refine lv_aload_n hx hb dL_law_452 rfl (lv_at hl 4 rfl) ?_
    refine lv_aload_n hx hb dL_law_453 rfl (lv_at hl 5 rfl) ?_
    refine lv_iload hx hb dL_law_454 (lv_at hl 0 rfl) ?_
    refine lv_iconst (v := (1 : Int32)) hx hb dL_law_456 (by decide) ?_
    refine lv_iadd hx hb dL_law_457 ?_
    refine zr_sldc (cn := 1) X hX hbl hbA hS (by omega) (by omega) rfl dL_law_458 ?_
    refine lv_aload_n hx hb dL_law_459 rfl (lv_at hl 5 rfl) ?_
    refine lv_iload hx hb dL_law_460 (lv_at hl 0 rfl) ?_
    refine lv_iconst (v := (2 : Int32)) hx hb dL_law_462 (by decide) ?_
    refine lv_iadd hx hb dL_law_463 ?_
    refine zr_sldc (cn := 2) X hX hbl hbA hS (by omega) (by omega) rfl dL_law_464 ?_
    refine lv_aload_n hx hb dL_law_465 rfl (lv_at hl 2 rfl) ?_
    refine zr_cH (rest := []) (As := [.ref (g.2.2 + 0), .int (xs (n + 1)), .int (xs (n + 2)), .ref (g.2.2 + 318)]) X hP hS hnc (hc2_L_buoy (g := g) (nc := 320) (I := I) (J := J) (O := O) hnI hnO l hlT hf) ch_L_155 rfl hl.1 (Nat.le_of_ble_eq_true rfl) ⟨by omega, by omega⟩ ⟨by omega, by omega⟩ dL_law_466 rfl (fun H locs hP hS => ?_)
    refine lv_istore (lv' := [(6, .int (2 : Int32)), (5, .int (Int32.ofNat n)), (4, .ref (g.2.2 + 319)), (3, .ref (g.2.2 + 318)), (2, .ref (g.2.2 + 306)), (1, .ref (g.2.2 + 0)), (0, .ref b)]) hx hb dL_law_469 hl (by decide) rfl (fun ls hl => ?_)
    refine lv_aload_n hx hb dL_law_471 rfl (lv_at hl 4 rfl) ?_
    refine lv_aload_n hx hb dL_law_472 rfl (lv_at hl 6 rfl) ?_
    refine lv_iload hx hb dL_law_473 (lv_at hl 1 rfl) ?_
    refine lv_iconst (v := (1 : Int32)) hx hb dL_law_475 (by decide) ?_
    refine lv_iadd hx hb dL_law_476 ?_
    refine zr_sldc (cn := 1) X hX hbl hbA hS (by omega) (by omega) rfl dL_law_477 ?_
    refine lv_aload_n hx hb dL_law_478 rfl (lv_at hl 6 rfl) ?_
    refine lv_iload hx hb dL_law_479 (lv_at hl 1 rfl) ?_
    refine lv_iconst (v := (2 : Int32)) hx hb dL_law_481 (by decide) ?_
    refine lv_iadd hx hb dL_law_482 ?_
    refine zr_sldc (cn := 2) X hX hbl hbA hS (by omega) (by omega) rfl dL_law_483 ?_
    refine zr_cVi (rest := []) (As := [.int (xs (n + 1)), .int (xs (n + 2))]) X hP hS (ct_X8_buoy (g := g) (nc := 320) (I := I) (J := J) (O := O) hnJ l hj) cw_L_158 (zr_recv X hP (by omega) (zb_ceJo zk_306 (by decide)) rfl) rfl hl.1 (Nat.le_of_ble_eq_true rfl) ⟨by omega, by omega⟩ ⟨by omega, by omega⟩ dL_law_484 rfl (fun H locs hP hS => ?_)
    refine lv_istore (lv' := [(7, .int rb), (6, .int (2 : Int32)), (5, .int (Int32.ofNat n)), (4, .ref (g.2.2 + 319)), (3, .ref (g.2.2 + 318)), (2, .ref (g.2.2 + 306)), (1, .ref (g.2.2 + 0)), (0, .ref b)]) hx hb dL_law_487 hl (by decide) rfl (fun ls hl => ?_)
    refine lv_aload_n hx hb dL_law_489 rfl (lv_at hl 5 rfl) ?_
    refine zr_cVi (rest := []) (As := []) X hP hS (ct_X8_thrown (g := g) (nc := 320) (I := I) (J := Jq) (O := O) hnJ l rfl) cw_L_132 (zr_recv X hP (by omega) (zb_ceJo zk_306 (by decide)) rfl) rfl hl.1 (Nat.le_of_ble_eq_true rfl) ⟨by omega, by omega⟩ ⟨by omega, by omega⟩ dL_law_490 rfl (fun H locs hP hS => ?_)
    refine lv_iload hx hb dL_law_493 (lv_at hl 1 rfl) ?_
    refine lv_icmp_eq (tgt := 500) hx hb dL_law_495 (by decide) (fun _ => ?_) (fun hc => absurd ht hc)
    refine lv_iload hx hb dL_law_500 (lv_at hl 1 rfl) ?_
    refine lv_if_ne (tgt := 517) hx hb dL_law_502 (by decide) (fun _ => ?_) (fun hc => absurd hc (by decide))
    refine lv_goto (tgt := 2550) hx hb dL_law_517 (by decide) ?_
    exact kk _ _ _ _ _ _ hr9 hP hS (lv_sub hl [2, 3, 4, 5, 6, 7] rfl)

set_option maxHeartbeats 1000000 in
theorem lw_c7 {p : Program} {l : Launch} {e : Env} {R : Room} {s : State} {m : MethodId} {args : Array Value} {below : List Frame} {meth : Method} {c : Code} {H : Heap} {locs : List Loc} {cells slots : Nat} {Q : State → Prop} {g : zb_G} {ls : Array Slot} {b L n : Nat} {xs : Nat → Int32} {Rel : Nat → Mem → Mem → Prop} (hq : eqP_7 Rel) {I J O : Mem} (hRel : Rel n I J) (hlT : l.stackTraces = false) (X : zb_X g p m c cL_law 10 s args RL meth) (hnc : zb_Nc s) (hX : va_X b L xs s s.heap) (hbl : b < s.heap.size) (hbA : ¬ zb_A g b) (hn : n + 6 ≤ L) (hL : L ≤ 3072)
    (hP : va_P g.1 vwCl (zb_ws g 320 (zb_ce g I J O)) H) (hS : va_S (zb_A g) s.heap H locs) (hl : lv_has ls 10 [(5, .int (Int32.ofNat n)), (4, .ref (g.2.2 + 319)), (3, .ref (g.2.2 + 318)), (2, .ref (g.2.2 + 306)), (1, .ref (g.2.2 + 0)), (0, .ref b)]) (h1 : 13 ≤ R.frames) (h2 : 472 ≤ R.locals) (h3 : cells + 1 ≤ R.cells) (h4 : slots + 6 ≤ R.slots)
    (kk : ∀ (I J O : Mem) (H : Heap) (locs : List Loc) (ls : Array Slot), Rel (n + 6) I J → va_P g.1 vwCl (zb_ws g 320 (zb_ce g I J O)) H → va_S (zb_A g) s.heap H locs → lv_has ls 10 [(5, .int (Int32.ofNat n)), (4, .ref (g.2.2 + 319)), (3, .ref (g.2.2 + 318)), (2, .ref (g.2.2 + 306)), (1, .ref (g.2.2 + 0)), (0, .ref b)] → W p l e R s m args below meth c H locs (cells + 1) (slots + 6) Q (F0 m 2550 ls [])) : W p l e R s m args below meth c H locs cells slots Q (F0 m 520 ls []) := by
  have hx := X.1.1
  have hb := X.1.2.1
  have hnI : 306 ≤ 320 := by decide
  have hnJ : 318 ≤ 320 := by decide
  have hnO : 320 ≤ 320 := by decide
  obtain ⟨E, r, rb, Jq, hf, hj, hr9, hd9⟩ := hq n I J (by omega) hRel (xs (n + 1)) (xs (n + 2))
  rcases hd9 with ⟨rfl, ht, rfl⟩ | ⟨rfl, ht⟩ | ⟨rfl, ht⟩
  · refine lv_aload_n hx hb dL_law_520 rfl (lv_at hl 4 rfl) ?_
    refine lv_aload_n hx hb dL_law_521 rfl (lv_at hl 5 rfl) ?_
    refine lv_iload hx hb dL_law_522 (lv_at hl 0 rfl) ?_
    refine lv_iconst (v := (1 : Int32)) hx hb dL_law_524 (by decide) ?_
    refine lv_iadd hx hb dL_law_525 ?_
    refine zr_sldc (cn := 1) X hX hbl hbA hS (by omega) (by omega) rfl dL_law_526 ?_
    refine lv_aload_n hx hb dL_law_527 rfl (lv_at hl 5 rfl) ?_
    refine lv_iload hx hb dL_law_528 (lv_at hl 0 rfl) ?_
    refine lv_iconst (v := (2 : Int32)) hx hb dL_law_530 (by decide) ?_
    refine lv_iadd hx hb dL_law_531 ?_
    refine zr_sldc (cn := 2) X hX hbl hbA hS (by omega) (by omega) rfl dL_law_532 ?_
    refine lv_aload_n hx hb dL_law_533 rfl (lv_at hl 2 rfl) ?_
    refine zr_cH (rest := []) (As := [.ref (g.2.2 + 0), .int (xs (n + 1)), .int (xs (n + 2)), .ref (g.2.2 + 318)]) X hP hS hnc (hn_L_rope (g := g) (nc := 320) (I := I) (J := J) (O := O) hnI hnO l hf) ch_L_159 rfl hl.1 (Nat.le_of_ble_eq_true rfl) ⟨by omega, by omega⟩ ⟨by omega, by omega⟩ dL_law_534 rfl (fun H locs hP hS => ?_)
    refine lv_istore (lv' := [(6, .int (0 : Int32)), (5, .int (Int32.ofNat n)), (4, .ref (g.2.2 + 319)), (3, .ref (g.2.2 + 318)), (2, .ref (g.2.2 + 306)), (1, .ref (g.2.2 + 0)), (0, .ref b)]) hx hb dL_law_537 hl (by decide) rfl (fun ls hl => ?_)
    refine lv_aload_n hx hb dL_law_539 rfl (lv_at hl 4 rfl) ?_
    refine lv_aload_n hx hb dL_law_540 rfl (lv_at hl 6 rfl) ?_
    refine lv_iload hx hb dL_law_541 (lv_at hl 1 rfl) ?_
    refine lv_iconst (v := (1 : Int32)) hx hb dL_law_543 (by decide) ?_
    refine lv_iadd hx hb dL_law_544 ?_
    refine zr_sldc (cn := 1) X hX hbl hbA hS (by omega) (by omega) rfl dL_law_545 ?_
    refine lv_aload_n hx hb dL_law_546 rfl (lv_at hl 6 rfl) ?_
    refine lv_iload hx hb dL_law_547 (lv_at hl 1 rfl) ?_
    refine lv_iconst (v := (2 : Int32)) hx hb dL_law_549 (by decide) ?_
    refine lv_iadd hx hb dL_law_550 ?_
    refine zr_sldc (cn := 2) X hX hbl hbA hS (by omega) (by omega) rfl dL_law_551 ?_
    refine zr_cVi (rest := []) (As := [.int (xs (n + 1)), .int (xs (n + 2))]) X hP hS (ct_X8_rope (g := g) (nc := 320) (I := I) (J := J) (O := (wr O 318 0 r)) hnJ l hj) cw_L_161 (zr_recv X hP (by omega) (zb_ceJo zk_306 (by decide)) rfl) rfl hl.1 (Nat.le_of_ble_eq_true rfl) ⟨by omega, by omega⟩ ⟨by omega, by omega⟩ dL_law_552 rfl (fun H locs hP hS => ?_)
    refine lv_istore (lv' := [(7, .int r), (6, .int (0 : Int32)), (5, .int (Int32.ofNat n)), (4, .ref (g.2.2 + 319)), (3, .ref (g.2.2 + 318)), (2, .ref (g.2.2 + 306)), (1, .ref (g.2.2 + 0)), (0, .ref b)]) hx hb dL_law_555 hl (by decide) rfl (fun ls hl => ?_)
    refine lv_aload_n hx hb dL_law_557 rfl (lv_at hl 5 rfl) ?_
    refine zr_cVi (rest := []) (As := []) X hP hS (ct_X8_thrown (g := g) (nc := 320) (I := I) (J := Jq) (O := (wr O 318 0 r)) hnJ l rfl) cw_L_132 (zr_recv X hP (by omega) (zb_ceJo zk_306 (by decide)) rfl) rfl hl.1 (Nat.le_of_ble_eq_true rfl) ⟨by omega, by omega⟩ ⟨by omega, by omega⟩ dL_law_558 rfl (fun H locs hP hS => ?_)
    refine lv_iload hx hb dL_law_561 (lv_at hl 1 rfl) ?_
    refine lv_icmp_eq (tgt := 568) hx hb dL_law_563 (by decide) (fun _ => ?_) (fun hc => absurd ht hc)
    refine lv_iload hx hb dL_law_568 (lv_at hl 1 rfl) ?_
    refine lv_if_ne (tgt := 585) hx hb dL_law_570 (by decide) (fun hc => absurd rfl hc) (fun _ => ?_)
    refine lv_aload_n hx hb dL_law_573 rfl (lv_at hl 4 rfl) ?_
    refine lv_iconst (v := (0 : Int32)) hx hb dL_law_574 (by decide) ?_
    refine zr_lald X hP hnO dL_law_575 ?_
    refine lv_iload hx hb dL_law_576 (lv_at hl 0 rfl) ?_
    refine lv_i2l hx hb dL_law_578 rfl ?_
    refine zr_lcmp0 hx hb dL_law_579 ?_
    refine lv_if_eq (tgt := 585) hx hb dL_law_580 (by decide) (fun _ => ?_) (fun hc => absurd rfl hc)
    refine lv_goto (tgt := 2550) hx hb dL_law_585 (by decide) ?_
    exact W.widen (Nat.le_succ _) (Nat.le_add_right _ 6) (kk _ _ _ _ _ _ hr9 hP hS (lv_sub hl [2, 3, 4, 5, 6, 7] rfl))
  · refine lv_aload_n hx hb dL_law_520 rfl (lv_at hl 4 rfl) ?_
    refine lv_aload_n hx hb dL_law_521 rfl (lv_at hl 5 rfl) ?_
    refine lv_iload hx hb dL_law_522 (lv_at hl 0 rfl) ?_
    refine lv_iconst (v := (1 : Int32)) hx hb dL_law_524 (by decide) ?_
    refine lv_iadd hx hb dL_law_525 ?_
    refine zr_sldc (cn := 1) X hX hbl hbA hS (by omega) (by omega) rfl dL_law_526 ?_
    refine lv_aload_n hx hb dL_law_527 rfl (lv_at hl 5 rfl) ?_
    refine lv_iload hx hb dL_law_528 (lv_at hl 0 rfl) ?_
    refine lv_iconst (v := (2 : Int32)) hx hb dL_law_530 (by decide) ?_
    refine lv_iadd hx hb dL_law_531 ?_
    refine zr_sldc (cn := 2) X hX hbl hbA hS (by omega) (by omega) rfl dL_law_532 ?_
    refine lv_aload_n hx hb dL_law_533 rfl (lv_at hl 2 rfl) ?_
    refine zr_cH (rest := []) (As := [.ref (g.2.2 + 0), .int (xs (n + 1)), .int (xs (n + 2)), .ref (g.2.2 + 318)]) X hP hS hnc (hc1_L_rope (g := g) (nc := 320) (I := I) (J := J) (O := O) hnI hnO l hlT hf) ch_L_159 rfl hl.1 (Nat.le_of_ble_eq_true rfl) ⟨by omega, by omega⟩ ⟨by omega, by omega⟩ dL_law_534 rfl (fun H locs hP hS => ?_)
    refine lv_istore (lv' := [(6, .int (1 : Int32)), (5, .int (Int32.ofNat n)), (4, .ref (g.2.2 + 319)), (3, .ref (g.2.2 + 318)), (2, .ref (g.2.2 + 306)), (1, .ref (g.2.2 + 0)), (0, .ref b)]) hx hb dL_law_537 hl (by decide) rfl (fun ls hl => ?_)
    refine lv_aload_n hx hb dL_law_539 rfl (lv_at hl 4 rfl) ?_
    refine lv_aload_n hx hb dL_law_540 rfl (lv_at hl 6 rfl) ?_
    refine lv_iload hx hb dL_law_541 (lv_at hl 1 rfl) ?_
    refine lv_iconst (v := (1 : Int32)) hx hb dL_law_543 (by decide) ?_
    refine lv_iadd hx hb dL_law_544 ?_
    refine zr_sldc (cn := 1) X hX hbl hbA hS (by omega) (by omega) rfl dL_law_545 ?_
    refine lv_aload_n hx hb dL_law_546 rfl (lv_at hl 6 rfl) ?_
    refine lv_iload hx hb dL_law_547 (lv_at hl 1 rfl) ?_
    refine lv_iconst (v := (2 : Int32)) hx hb dL_law_549 (by decide) ?_
    refine lv_iadd hx hb dL_law_550 ?_
    refine zr_sldc (cn := 2) X hX hbl hbA hS (by omega) (by omega) rfl dL_law_551 ?_
    refine zr_cVi (rest := []) (As := [.int (xs (n + 1)), .int (xs (n + 2))]) X hP hS (ct_X8_rope (g := g) (nc := 320) (I := I) (J := J) (O := O) hnJ l hj) cw_L_161 (zr_recv X hP (by omega) (zb_ceJo zk_306 (by decide)) rfl) rfl hl.1 (Nat.le_of_ble_eq_true rfl) ⟨by omega, by omega⟩ ⟨by omega, by omega⟩ dL_law_552 rfl (fun H locs hP hS => ?_)
    refine lv_istore (lv' := [(7, .int rb), (6, .int (1 : Int32)), (5, .int (Int32.ofNat n)), (4, .ref (g.2.2 + 319)), (3, .ref (g.2.2 + 318)), (2, .ref (g.2.2 + 306)), (1, .ref (g.2.2 + 0)), (0, .ref b)]) hx hb dL_law_555 hl (by decide) rfl (fun ls hl => ?_)
    refine lv_aload_n hx hb dL_law_557 rfl (lv_at hl 5 rfl) ?_
    refine zr_cVi (rest := []) (As := []) X hP hS (ct_X8_thrown (g := g) (nc := 320) (I := I) (J := Jq) (O := O) hnJ l rfl) cw_L_132 (zr_recv X hP (by omega) (zb_ceJo zk_306 (by decide)) rfl) rfl hl.1 (Nat.le_of_ble_eq_true rfl) ⟨by omega, by omega⟩ ⟨by omega, by omega⟩ dL_law_558 rfl (fun H locs hP hS => ?_)
    refine lv_iload hx hb dL_law_561 (lv_at hl 1 rfl) ?_
    refine lv_icmp_eq (tgt := 568) hx hb dL_law_563 (by decide) (fun _ => ?_) (fun hc => absurd ht hc)
    refine lv_iload hx hb dL_law_568 (lv_at hl 1 rfl) ?_
    refine lv_if_ne (tgt := 585) hx hb dL_law_570 (by decide) (fun _ => ?_) (fun hc => absurd hc (by decide))
    refine lv_goto (tgt := 2550) hx hb dL_law_585 (by decide) ?_
    exact kk _ _ _ _ _ _ hr9 hP hS (lv_sub hl [2, 3, 4, 5, 6, 7] rfl)
  · refine lv_aload_n hx hb dL_law_520 rfl (lv_at hl 4 rfl) ?_
    refine lv_aload_n hx hb dL_law_521 rfl (lv_at hl 5 rfl) ?_
    refine lv_iload hx hb dL_law_522 (lv_at hl 0 rfl) ?_
    refine lv_iconst (v := (1 : Int32)) hx hb dL_law_524 (by decide) ?_
    refine lv_iadd hx hb dL_law_525 ?_
    refine zr_sldc (cn := 1) X hX hbl hbA hS (by omega) (by omega) rfl dL_law_526 ?_
    refine lv_aload_n hx hb dL_law_527 rfl (lv_at hl 5 rfl) ?_
    refine lv_iload hx hb dL_law_528 (lv_at hl 0 rfl) ?_
    refine lv_iconst (v := (2 : Int32)) hx hb dL_law_530 (by decide) ?_
    refine lv_iadd hx hb dL_law_531 ?_
    refine zr_sldc (cn := 2) X hX hbl hbA hS (by omega) (by omega) rfl dL_law_532 ?_
    refine lv_aload_n hx hb dL_law_533 rfl (lv_at hl 2 rfl) ?_
    refine zr_cH (rest := []) (As := [.ref (g.2.2 + 0), .int (xs (n + 1)), .int (xs (n + 2)), .ref (g.2.2 + 318)]) X hP hS hnc (hc2_L_rope (g := g) (nc := 320) (I := I) (J := J) (O := O) hnI hnO l hlT hf) ch_L_159 rfl hl.1 (Nat.le_of_ble_eq_true rfl) ⟨by omega, by omega⟩ ⟨by omega, by omega⟩ dL_law_534 rfl (fun H locs hP hS => ?_)
    refine lv_istore (lv' := [(6, .int (2 : Int32)), (5, .int (Int32.ofNat n)), (4, .ref (g.2.2 + 319)), (3, .ref (g.2.2 + 318)), (2, .ref (g.2.2 + 306)), (1, .ref (g.2.2 + 0)), (0, .ref b)]) hx hb dL_law_537 hl (by decide) rfl (fun ls hl => ?_)
    refine lv_aload_n hx hb dL_law_539 rfl (lv_at hl 4 rfl) ?_
    refine lv_aload_n hx hb dL_law_540 rfl (lv_at hl 6 rfl) ?_
    refine lv_iload hx hb dL_law_541 (lv_at hl 1 rfl) ?_
    refine lv_iconst (v := (1 : Int32)) hx hb dL_law_543 (by decide) ?_
    refine lv_iadd hx hb dL_law_544 ?_
    refine zr_sldc (cn := 1) X hX hbl hbA hS (by omega) (by omega) rfl dL_law_545 ?_
    refine lv_aload_n hx hb dL_law_546 rfl (lv_at hl 6 rfl) ?_
    refine lv_iload hx hb dL_law_547 (lv_at hl 1 rfl) ?_
    refine lv_iconst (v := (2 : Int32)) hx hb dL_law_549 (by decide) ?_
    refine lv_iadd hx hb dL_law_550 ?_
    refine zr_sldc (cn := 2) X hX hbl hbA hS (by omega) (by omega) rfl dL_law_551 ?_
    refine zr_cVi (rest := []) (As := [.int (xs (n + 1)), .int (xs (n + 2))]) X hP hS (ct_X8_rope (g := g) (nc := 320) (I := I) (J := J) (O := O) hnJ l hj) cw_L_161 (zr_recv X hP (by omega) (zb_ceJo zk_306 (by decide)) rfl) rfl hl.1 (Nat.le_of_ble_eq_true rfl) ⟨by omega, by omega⟩ ⟨by omega, by omega⟩ dL_law_552 rfl (fun H locs hP hS => ?_)
    refine lv_istore (lv' := [(7, .int rb), (6, .int (2 : Int32)), (5, .int (Int32.ofNat n)), (4, .ref (g.2.2 + 319)), (3, .ref (g.2.2 + 318)), (2, .ref (g.2.2 + 306)), (1, .ref (g.2.2 + 0)), (0, .ref b)]) hx hb dL_law_555 hl (by decide) rfl (fun ls hl => ?_)
    refine lv_aload_n hx hb dL_law_557 rfl (lv_at hl 5 rfl) ?_
    refine zr_cVi (rest := []) (As := []) X hP hS (ct_X8_thrown (g := g) (nc := 320) (I := I) (J := Jq) (O := O) hnJ l rfl) cw_L_132 (zr_recv X hP (by omega) (zb_ceJo zk_306 (by decide)) rfl) rfl hl.1 (Nat.le_of_ble_eq_true rfl) ⟨by omega, by omega⟩ ⟨by omega, by omega⟩ dL_law_558 rfl (fun H locs hP hS => ?_)
    refine lv_iload hx hb dL_law_561 (lv_at hl 1 rfl) ?_
    refine lv_icmp_eq (tgt := 568) hx hb dL_law_563 (by decide) (fun _ => ?_) (fun hc => absurd ht hc)
    refine lv_iload hx hb dL_law_568 (lv_at hl 1 rfl) ?_
    refine lv_if_ne (tgt := 585) hx hb dL_law_570 (by decide) (fun _ => ?_) (fun hc => absurd hc (by decide))
    refine lv_goto (tgt := 2550) hx hb dL_law_585 (by decide) ?_
    exact kk _ _ _ _ _ _ hr9 hP hS (lv_sub hl [2, 3, 4, 5, 6, 7] rfl)

set_option maxHeartbeats 1000000 in
theorem lw_c8 {p : Program} {l : Launch} {e : Env} {R : Room} {s : State} {m : MethodId} {args : Array Value} {below : List Frame} {meth : Method} {c : Code} {H : Heap} {locs : List Loc} {cells slots : Nat} {Q : State → Prop} {g : zb_G} {ls : Array Slot} {b L n : Nat} {xs : Nat → Int32} {Rel : Nat → Mem → Mem → Prop} (hq : eqP_8 Rel) {I J O : Mem} (hRel : Rel n I J) (hlT : l.stackTraces = false) (X : zb_X g p m c cL_law 10 s args RL meth) (hnc : zb_Nc s) (hX : va_X b L xs s s.heap) (hbl : b < s.heap.size) (hbA : ¬ zb_A g b) (hn : n + 6 ≤ L) (hL : L ≤ 3072)
    (hP : va_P g.1 vwCl (zb_ws g 320 (zb_ce g I J O)) H) (hS : va_S (zb_A g) s.heap H locs) (hl : lv_has ls 10 [(5, .int (Int32.ofNat n)), (4, .ref (g.2.2 + 319)), (3, .ref (g.2.2 + 318)), (2, .ref (g.2.2 + 306)), (1, .ref (g.2.2 + 0)), (0, .ref b)]) (h1 : 13 ≤ R.frames) (h2 : 472 ≤ R.locals) (h3 : cells + 1 ≤ R.cells) (h4 : slots + 6 ≤ R.slots)
    (kk : ∀ (I J O : Mem) (H : Heap) (locs : List Loc) (ls : Array Slot), Rel (n + 6) I J → va_P g.1 vwCl (zb_ws g 320 (zb_ce g I J O)) H → va_S (zb_A g) s.heap H locs → lv_has ls 10 [(5, .int (Int32.ofNat n)), (4, .ref (g.2.2 + 319)), (3, .ref (g.2.2 + 318)), (2, .ref (g.2.2 + 306)), (1, .ref (g.2.2 + 0)), (0, .ref b)] → W p l e R s m args below meth c H locs (cells + 1) (slots + 6) Q (F0 m 2550 ls [])) : W p l e R s m args below meth c H locs cells slots Q (F0 m 588 ls []) := by
  have hx := X.1.1
  have hb := X.1.2.1
  have hnI : 306 ≤ 320 := by decide
  have hnJ : 318 ≤ 320 := by decide
  have hnO : 320 ≤ 320 := by decide
  obtain ⟨E, r, rb, Jq, hf, hj, hr9, hd9⟩ := hq n I J (by omega) hRel (xs (n + 1))
  rcases hd9 with ⟨rfl, ht, rfl⟩ | ⟨rfl, ht⟩
  · refine lv_aload_n hx hb dL_law_588 rfl (lv_at hl 4 rfl) ?_
    refine lv_aload_n hx hb dL_law_589 rfl (lv_at hl 5 rfl) ?_
    refine lv_iload hx hb dL_law_590 (lv_at hl 0 rfl) ?_
    refine lv_iconst (v := (1 : Int32)) hx hb dL_law_592 (by decide) ?_
    refine lv_iadd hx hb dL_law_593 ?_
    refine zr_sldc (cn := 1) X hX hbl hbA hS (by omega) (by omega) rfl dL_law_594 ?_
    refine lv_aload_n hx hb dL_law_595 rfl (lv_at hl 2 rfl) ?_
    refine zr_cH (rest := []) (As := [.ref (g.2.2 + 0), .int (xs (n + 1)), .ref (g.2.2 + 318)]) X hP hS hnc (hn_L_account (g := g) (nc := 320) (I := I) (J := J) (O := O) hnI hnO l hf) ch_L_162 rfl hl.1 (Nat.le_of_ble_eq_true rfl) ⟨by omega, by omega⟩ ⟨by omega, by omega⟩ dL_law_596 rfl (fun H locs hP hS => ?_)
    refine lv_istore (lv' := [(6, .int (0 : Int32)), (5, .int (Int32.ofNat n)), (4, .ref (g.2.2 + 319)), (3, .ref (g.2.2 + 318)), (2, .ref (g.2.2 + 306)), (1, .ref (g.2.2 + 0)), (0, .ref b)]) hx hb dL_law_599 hl (by decide) rfl (fun ls hl => ?_)
    refine lv_aload_n hx hb dL_law_601 rfl (lv_at hl 4 rfl) ?_
    refine lv_aload_n hx hb dL_law_602 rfl (lv_at hl 6 rfl) ?_
    refine lv_iload hx hb dL_law_603 (lv_at hl 1 rfl) ?_
    refine lv_iconst (v := (1 : Int32)) hx hb dL_law_605 (by decide) ?_
    refine lv_iadd hx hb dL_law_606 ?_
    refine zr_sldc (cn := 1) X hX hbl hbA hS (by omega) (by omega) rfl dL_law_607 ?_
    refine zr_cVi (rest := []) (As := [.int (xs (n + 1))]) X hP hS (ct_X8_account (g := g) (nc := 320) (I := I) (J := J) (O := (wr O 318 0 r)) hnJ l hj) cw_L_164 (zr_recv X hP (by omega) (zb_ceJo zk_306 (by decide)) rfl) rfl hl.1 (Nat.le_of_ble_eq_true rfl) ⟨by omega, by omega⟩ ⟨by omega, by omega⟩ dL_law_608 rfl (fun H locs hP hS => ?_)
    refine lv_istore (lv' := [(7, .int r), (6, .int (0 : Int32)), (5, .int (Int32.ofNat n)), (4, .ref (g.2.2 + 319)), (3, .ref (g.2.2 + 318)), (2, .ref (g.2.2 + 306)), (1, .ref (g.2.2 + 0)), (0, .ref b)]) hx hb dL_law_611 hl (by decide) rfl (fun ls hl => ?_)
    refine lv_aload_n hx hb dL_law_613 rfl (lv_at hl 5 rfl) ?_
    refine zr_cVi (rest := []) (As := []) X hP hS (ct_X8_thrown (g := g) (nc := 320) (I := I) (J := Jq) (O := (wr O 318 0 r)) hnJ l rfl) cw_L_132 (zr_recv X hP (by omega) (zb_ceJo zk_306 (by decide)) rfl) rfl hl.1 (Nat.le_of_ble_eq_true rfl) ⟨by omega, by omega⟩ ⟨by omega, by omega⟩ dL_law_614 rfl (fun H locs hP hS => ?_)
    refine lv_iload hx hb dL_law_617 (lv_at hl 1 rfl) ?_
    refine lv_icmp_eq (tgt := 624) hx hb dL_law_619 (by decide) (fun _ => ?_) (fun hc => absurd ht hc)
    refine lv_iload hx hb dL_law_624 (lv_at hl 1 rfl) ?_
    refine lv_if_ne (tgt := 641) hx hb dL_law_626 (by decide) (fun hc => absurd rfl hc) (fun _ => ?_)
    refine lv_aload_n hx hb dL_law_629 rfl (lv_at hl 4 rfl) ?_
    refine lv_iconst (v := (0 : Int32)) hx hb dL_law_630 (by decide) ?_
    refine zr_lald X hP hnO dL_law_631 ?_
    refine lv_iload hx hb dL_law_632 (lv_at hl 0 rfl) ?_
    refine lv_i2l hx hb dL_law_634 rfl ?_
    refine zr_lcmp0 hx hb dL_law_635 ?_
    refine lv_if_eq (tgt := 641) hx hb dL_law_636 (by decide) (fun _ => ?_) (fun hc => absurd rfl hc)
    refine lv_goto (tgt := 2550) hx hb dL_law_641 (by decide) ?_
    exact W.widen (Nat.le_succ _) (Nat.le_add_right _ 6) (kk _ _ _ _ _ _ hr9 hP hS (lv_sub hl [2, 3, 4, 5, 6, 7] rfl))
  · refine lv_aload_n hx hb dL_law_588 rfl (lv_at hl 4 rfl) ?_
    refine lv_aload_n hx hb dL_law_589 rfl (lv_at hl 5 rfl) ?_
    refine lv_iload hx hb dL_law_590 (lv_at hl 0 rfl) ?_
    refine lv_iconst (v := (1 : Int32)) hx hb dL_law_592 (by decide) ?_
    refine lv_iadd hx hb dL_law_593 ?_
    refine zr_sldc (cn := 1) X hX hbl hbA hS (by omega) (by omega) rfl dL_law_594 ?_
    refine lv_aload_n hx hb dL_law_595 rfl (lv_at hl 2 rfl) ?_
    refine zr_cH (rest := []) (As := [.ref (g.2.2 + 0), .int (xs (n + 1)), .ref (g.2.2 + 318)]) X hP hS hnc (hc1_L_account (g := g) (nc := 320) (I := I) (J := J) (O := O) hnI hnO l hlT hf) ch_L_162 rfl hl.1 (Nat.le_of_ble_eq_true rfl) ⟨by omega, by omega⟩ ⟨by omega, by omega⟩ dL_law_596 rfl (fun H locs hP hS => ?_)
    refine lv_istore (lv' := [(6, .int (1 : Int32)), (5, .int (Int32.ofNat n)), (4, .ref (g.2.2 + 319)), (3, .ref (g.2.2 + 318)), (2, .ref (g.2.2 + 306)), (1, .ref (g.2.2 + 0)), (0, .ref b)]) hx hb dL_law_599 hl (by decide) rfl (fun ls hl => ?_)
    refine lv_aload_n hx hb dL_law_601 rfl (lv_at hl 4 rfl) ?_
    refine lv_aload_n hx hb dL_law_602 rfl (lv_at hl 6 rfl) ?_
    refine lv_iload hx hb dL_law_603 (lv_at hl 1 rfl) ?_
    refine lv_iconst (v := (1 : Int32)) hx hb dL_law_605 (by decide) ?_
    refine lv_iadd hx hb dL_law_606 ?_
    refine zr_sldc (cn := 1) X hX hbl hbA hS (by omega) (by omega) rfl dL_law_607 ?_
    refine zr_cVi (rest := []) (As := [.int (xs (n + 1))]) X hP hS (ct_X8_account (g := g) (nc := 320) (I := I) (J := J) (O := O) hnJ l hj) cw_L_164 (zr_recv X hP (by omega) (zb_ceJo zk_306 (by decide)) rfl) rfl hl.1 (Nat.le_of_ble_eq_true rfl) ⟨by omega, by omega⟩ ⟨by omega, by omega⟩ dL_law_608 rfl (fun H locs hP hS => ?_)
    refine lv_istore (lv' := [(7, .int rb), (6, .int (1 : Int32)), (5, .int (Int32.ofNat n)), (4, .ref (g.2.2 + 319)), (3, .ref (g.2.2 + 318)), (2, .ref (g.2.2 + 306)), (1, .ref (g.2.2 + 0)), (0, .ref b)]) hx hb dL_law_611 hl (by decide) rfl (fun ls hl => ?_)
    refine lv_aload_n hx hb dL_law_613 rfl (lv_at hl 5 rfl) ?_
    refine zr_cVi (rest := []) (As := []) X hP hS (ct_X8_thrown (g := g) (nc := 320) (I := I) (J := Jq) (O := O) hnJ l rfl) cw_L_132 (zr_recv X hP (by omega) (zb_ceJo zk_306 (by decide)) rfl) rfl hl.1 (Nat.le_of_ble_eq_true rfl) ⟨by omega, by omega⟩ ⟨by omega, by omega⟩ dL_law_614 rfl (fun H locs hP hS => ?_)
    refine lv_iload hx hb dL_law_617 (lv_at hl 1 rfl) ?_
    refine lv_icmp_eq (tgt := 624) hx hb dL_law_619 (by decide) (fun _ => ?_) (fun hc => absurd ht hc)
    refine lv_iload hx hb dL_law_624 (lv_at hl 1 rfl) ?_
    refine lv_if_ne (tgt := 641) hx hb dL_law_626 (by decide) (fun _ => ?_) (fun hc => absurd hc (by decide))
    refine lv_goto (tgt := 2550) hx hb dL_law_641 (by decide) ?_
    exact kk _ _ _ _ _ _ hr9 hP hS (lv_sub hl [2, 3, 4, 5, 6, 7] rfl)

set_option maxHeartbeats 1000000 in
theorem lw_c9 {p : Program} {l : Launch} {e : Env} {R : Room} {s : State} {m : MethodId} {args : Array Value} {below : List Frame} {meth : Method} {c : Code} {H : Heap} {locs : List Loc} {cells slots : Nat} {Q : State → Prop} {g : zb_G} {ls : Array Slot} {b L n : Nat} {xs : Nat → Int32} {Rel : Nat → Mem → Mem → Prop} (hq : eqP_9 Rel) {I J O : Mem} (hRel : Rel n I J) (hlT : l.stackTraces = false) (X : zb_X g p m c cL_law 10 s args RL meth) (hnc : zb_Nc s) (hX : va_X b L xs s s.heap) (hbl : b < s.heap.size) (hbA : ¬ zb_A g b) (hn : n + 6 ≤ L) (hL : L ≤ 3072)
    (hP : va_P g.1 vwCl (zb_ws g 320 (zb_ce g I J O)) H) (hS : va_S (zb_A g) s.heap H locs) (hl : lv_has ls 10 [(5, .int (Int32.ofNat n)), (4, .ref (g.2.2 + 319)), (3, .ref (g.2.2 + 318)), (2, .ref (g.2.2 + 306)), (1, .ref (g.2.2 + 0)), (0, .ref b)]) (h1 : 13 ≤ R.frames) (h2 : 472 ≤ R.locals) (h3 : cells + 1 ≤ R.cells) (h4 : slots + 6 ≤ R.slots)
    (kk : ∀ (I J O : Mem) (H : Heap) (locs : List Loc) (ls : Array Slot), Rel (n + 6) I J → va_P g.1 vwCl (zb_ws g 320 (zb_ce g I J O)) H → va_S (zb_A g) s.heap H locs → lv_has ls 10 [(5, .int (Int32.ofNat n)), (4, .ref (g.2.2 + 319)), (3, .ref (g.2.2 + 318)), (2, .ref (g.2.2 + 306)), (1, .ref (g.2.2 + 0)), (0, .ref b)] → W p l e R s m args below meth c H locs (cells + 1) (slots + 6) Q (F0 m 2550 ls [])) : W p l e R s m args below meth c H locs cells slots Q (F0 m 644 ls []) := by
  have hx := X.1.1
  have hb := X.1.2.1
  have hnI : 306 ≤ 320 := by decide
  have hnJ : 318 ≤ 320 := by decide
  have hnO : 320 ≤ 320 := by decide
  obtain ⟨E, r, rb, Jq, hf, hj, hr9, hd9⟩ := hq n I J (by omega) hRel (xs (n + 1)) (xs (n + 2))
  rcases hd9 with ⟨rfl, ht, rfl⟩ | ⟨rfl, ht⟩ | ⟨rfl, ht⟩
  · refine lv_aload_n hx hb dL_law_644 rfl (lv_at hl 4 rfl) ?_
    refine lv_aload_n hx hb dL_law_645 rfl (lv_at hl 5 rfl) ?_
    refine lv_iload hx hb dL_law_646 (lv_at hl 0 rfl) ?_
    refine lv_iconst (v := (1 : Int32)) hx hb dL_law_648 (by decide) ?_
    refine lv_iadd hx hb dL_law_649 ?_
    refine zr_sldc (cn := 1) X hX hbl hbA hS (by omega) (by omega) rfl dL_law_650 ?_
    refine lv_aload_n hx hb dL_law_651 rfl (lv_at hl 5 rfl) ?_
    refine lv_iload hx hb dL_law_652 (lv_at hl 0 rfl) ?_
    refine lv_iconst (v := (2 : Int32)) hx hb dL_law_654 (by decide) ?_
    refine lv_iadd hx hb dL_law_655 ?_
    refine zr_sldc (cn := 2) X hX hbl hbA hS (by omega) (by omega) rfl dL_law_656 ?_
    refine lv_aload_n hx hb dL_law_657 rfl (lv_at hl 2 rfl) ?_
    refine zr_cH (rest := []) (As := [.ref (g.2.2 + 0), .int (xs (n + 1)), .int (xs (n + 2)), .ref (g.2.2 + 318)]) X hP hS hnc (hn_L_hour (g := g) (nc := 320) (I := I) (J := J) (O := O) hnI hnO l hf) ch_L_165 rfl hl.1 (Nat.le_of_ble_eq_true rfl) ⟨by omega, by omega⟩ ⟨by omega, by omega⟩ dL_law_658 rfl (fun H locs hP hS => ?_)
    refine lv_istore (lv' := [(6, .int (0 : Int32)), (5, .int (Int32.ofNat n)), (4, .ref (g.2.2 + 319)), (3, .ref (g.2.2 + 318)), (2, .ref (g.2.2 + 306)), (1, .ref (g.2.2 + 0)), (0, .ref b)]) hx hb dL_law_661 hl (by decide) rfl (fun ls hl => ?_)
    refine lv_aload_n hx hb dL_law_663 rfl (lv_at hl 4 rfl) ?_
    refine lv_aload_n hx hb dL_law_664 rfl (lv_at hl 6 rfl) ?_
    refine lv_iload hx hb dL_law_665 (lv_at hl 1 rfl) ?_
    refine lv_iconst (v := (1 : Int32)) hx hb dL_law_667 (by decide) ?_
    refine lv_iadd hx hb dL_law_668 ?_
    refine zr_sldc (cn := 1) X hX hbl hbA hS (by omega) (by omega) rfl dL_law_669 ?_
    refine lv_aload_n hx hb dL_law_670 rfl (lv_at hl 6 rfl) ?_
    refine lv_iload hx hb dL_law_671 (lv_at hl 1 rfl) ?_
    refine lv_iconst (v := (2 : Int32)) hx hb dL_law_673 (by decide) ?_
    refine lv_iadd hx hb dL_law_674 ?_
    refine zr_sldc (cn := 2) X hX hbl hbA hS (by omega) (by omega) rfl dL_law_675 ?_
    refine zr_cVi (rest := []) (As := [.int (xs (n + 1)), .int (xs (n + 2))]) X hP hS (ct_X8_hour (g := g) (nc := 320) (I := I) (J := J) (O := (wr O 318 0 r)) hnJ l hj) cw_L_167 (zr_recv X hP (by omega) (zb_ceJo zk_306 (by decide)) rfl) rfl hl.1 (Nat.le_of_ble_eq_true rfl) ⟨by omega, by omega⟩ ⟨by omega, by omega⟩ dL_law_676 rfl (fun H locs hP hS => ?_)
    refine lv_istore (lv' := [(7, .int r), (6, .int (0 : Int32)), (5, .int (Int32.ofNat n)), (4, .ref (g.2.2 + 319)), (3, .ref (g.2.2 + 318)), (2, .ref (g.2.2 + 306)), (1, .ref (g.2.2 + 0)), (0, .ref b)]) hx hb dL_law_679 hl (by decide) rfl (fun ls hl => ?_)
    refine lv_aload_n hx hb dL_law_681 rfl (lv_at hl 5 rfl) ?_
    refine zr_cVi (rest := []) (As := []) X hP hS (ct_X8_thrown (g := g) (nc := 320) (I := I) (J := Jq) (O := (wr O 318 0 r)) hnJ l rfl) cw_L_132 (zr_recv X hP (by omega) (zb_ceJo zk_306 (by decide)) rfl) rfl hl.1 (Nat.le_of_ble_eq_true rfl) ⟨by omega, by omega⟩ ⟨by omega, by omega⟩ dL_law_682 rfl (fun H locs hP hS => ?_)
    refine lv_iload hx hb dL_law_685 (lv_at hl 1 rfl) ?_
    refine lv_icmp_eq (tgt := 692) hx hb dL_law_687 (by decide) (fun _ => ?_) (fun hc => absurd ht hc)
    refine lv_iload hx hb dL_law_692 (lv_at hl 1 rfl) ?_
    refine lv_if_ne (tgt := 709) hx hb dL_law_694 (by decide) (fun hc => absurd rfl hc) (fun _ => ?_)
    refine lv_aload_n hx hb dL_law_697 rfl (lv_at hl 4 rfl) ?_
    refine lv_iconst (v := (0 : Int32)) hx hb dL_law_698 (by decide) ?_
    refine zr_lald X hP hnO dL_law_699 ?_
    refine lv_iload hx hb dL_law_700 (lv_at hl 0 rfl) ?_
    refine lv_i2l hx hb dL_law_702 rfl ?_
    refine zr_lcmp0 hx hb dL_law_703 ?_
    refine lv_if_eq (tgt := 709) hx hb dL_law_704 (by decide) (fun _ => ?_) (fun hc => absurd rfl hc)
    refine lv_goto (tgt := 2550) hx hb dL_law_709 (by decide) ?_
    exact W.widen (Nat.le_succ _) (Nat.le_add_right _ 6) (kk _ _ _ _ _ _ hr9 hP hS (lv_sub hl [2, 3, 4, 5, 6, 7] rfl))
  · refine lv_aload_n hx hb dL_law_644 rfl (lv_at hl 4 rfl) ?_
    refine lv_aload_n hx hb dL_law_645 rfl (lv_at hl 5 rfl) ?_
    refine lv_iload hx hb dL_law_646 (lv_at hl 0 rfl) ?_
    refine lv_iconst (v := (1 : Int32)) hx hb dL_law_648 (by decide) ?_
    refine lv_iadd hx hb dL_law_649 ?_
    refine zr_sldc (cn := 1) X hX hbl hbA hS (by omega) (by omega) rfl dL_law_650 ?_
    refine lv_aload_n hx hb dL_law_651 rfl (lv_at hl 5 rfl) ?_
    refine lv_iload hx hb dL_law_652 (lv_at hl 0 rfl) ?_
    refine lv_iconst (v := (2 : Int32)) hx hb dL_law_654 (by decide) ?_
    refine lv_iadd hx hb dL_law_655 ?_
    refine zr_sldc (cn := 2) X hX hbl hbA hS (by omega) (by omega) rfl dL_law_656 ?_
    refine lv_aload_n hx hb dL_law_657 rfl (lv_at hl 2 rfl) ?_
    refine zr_cH (rest := []) (As := [.ref (g.2.2 + 0), .int (xs (n + 1)), .int (xs (n + 2)), .ref (g.2.2 + 318)]) X hP hS hnc (hc1_L_hour (g := g) (nc := 320) (I := I) (J := J) (O := O) hnI hnO l hlT hf) ch_L_165 rfl hl.1 (Nat.le_of_ble_eq_true rfl) ⟨by omega, by omega⟩ ⟨by omega, by omega⟩ dL_law_658 rfl (fun H locs hP hS => ?_)
    refine lv_istore (lv' := [(6, .int (1 : Int32)), (5, .int (Int32.ofNat n)), (4, .ref (g.2.2 + 319)), (3, .ref (g.2.2 + 318)), (2, .ref (g.2.2 + 306)), (1, .ref (g.2.2 + 0)), (0, .ref b)]) hx hb dL_law_661 hl (by decide) rfl (fun ls hl => ?_)
    refine lv_aload_n hx hb dL_law_663 rfl (lv_at hl 4 rfl) ?_
    refine lv_aload_n hx hb dL_law_664 rfl (lv_at hl 6 rfl) ?_
    refine lv_iload hx hb dL_law_665 (lv_at hl 1 rfl) ?_
    refine lv_iconst (v := (1 : Int32)) hx hb dL_law_667 (by decide) ?_
    refine lv_iadd hx hb dL_law_668 ?_
    refine zr_sldc (cn := 1) X hX hbl hbA hS (by omega) (by omega) rfl dL_law_669 ?_
    refine lv_aload_n hx hb dL_law_670 rfl (lv_at hl 6 rfl) ?_
    refine lv_iload hx hb dL_law_671 (lv_at hl 1 rfl) ?_
    refine lv_iconst (v := (2 : Int32)) hx hb dL_law_673 (by decide) ?_
    refine lv_iadd hx hb dL_law_674 ?_
    refine zr_sldc (cn := 2) X hX hbl hbA hS (by omega) (by omega) rfl dL_law_675 ?_
    refine zr_cVi (rest := []) (As := [.int (xs (n + 1)), .int (xs (n + 2))]) X hP hS (ct_X8_hour (g := g) (nc := 320) (I := I) (J := J) (O := O) hnJ l hj) cw_L_167 (zr_recv X hP (by omega) (zb_ceJo zk_306 (by decide)) rfl) rfl hl.1 (Nat.le_of_ble_eq_true rfl) ⟨by omega, by omega⟩ ⟨by omega, by omega⟩ dL_law_676 rfl (fun H locs hP hS => ?_)
    refine lv_istore (lv' := [(7, .int rb), (6, .int (1 : Int32)), (5, .int (Int32.ofNat n)), (4, .ref (g.2.2 + 319)), (3, .ref (g.2.2 + 318)), (2, .ref (g.2.2 + 306)), (1, .ref (g.2.2 + 0)), (0, .ref b)]) hx hb dL_law_679 hl (by decide) rfl (fun ls hl => ?_)
    refine lv_aload_n hx hb dL_law_681 rfl (lv_at hl 5 rfl) ?_
    refine zr_cVi (rest := []) (As := []) X hP hS (ct_X8_thrown (g := g) (nc := 320) (I := I) (J := Jq) (O := O) hnJ l rfl) cw_L_132 (zr_recv X hP (by omega) (zb_ceJo zk_306 (by decide)) rfl) rfl hl.1 (Nat.le_of_ble_eq_true rfl) ⟨by omega, by omega⟩ ⟨by omega, by omega⟩ dL_law_682 rfl (fun H locs hP hS => ?_)
    refine lv_iload hx hb dL_law_685 (lv_at hl 1 rfl) ?_
    refine lv_icmp_eq (tgt := 692) hx hb dL_law_687 (by decide) (fun _ => ?_) (fun hc => absurd ht hc)
    refine lv_iload hx hb dL_law_692 (lv_at hl 1 rfl) ?_
    refine lv_if_ne (tgt := 709) hx hb dL_law_694 (by decide) (fun _ => ?_) (fun hc => absurd hc (by decide))
    refine lv_goto (tgt := 2550) hx hb dL_law_709 (by decide) ?_
    exact kk _ _ _ _ _ _ hr9 hP hS (lv_sub hl [2, 3, 4, 5, 6, 7] rfl)
  · refine lv_aload_n hx hb dL_law_644 rfl (lv_at hl 4 rfl) ?_
    refine lv_aload_n hx hb dL_law_645 rfl (lv_at hl 5 rfl) ?_
    refine lv_iload hx hb dL_law_646 (lv_at hl 0 rfl) ?_
    refine lv_iconst (v := (1 : Int32)) hx hb dL_law_648 (by decide) ?_
    refine lv_iadd hx hb dL_law_649 ?_
    refine zr_sldc (cn := 1) X hX hbl hbA hS (by omega) (by omega) rfl dL_law_650 ?_
    refine lv_aload_n hx hb dL_law_651 rfl (lv_at hl 5 rfl) ?_
    refine lv_iload hx hb dL_law_652 (lv_at hl 0 rfl) ?_
    refine lv_iconst (v := (2 : Int32)) hx hb dL_law_654 (by decide) ?_
    refine lv_iadd hx hb dL_law_655 ?_
    refine zr_sldc (cn := 2) X hX hbl hbA hS (by omega) (by omega) rfl dL_law_656 ?_
    refine lv_aload_n hx hb dL_law_657 rfl (lv_at hl 2 rfl) ?_
    refine zr_cH (rest := []) (As := [.ref (g.2.2 + 0), .int (xs (n + 1)), .int (xs (n + 2)), .ref (g.2.2 + 318)]) X hP hS hnc (hc2_L_hour (g := g) (nc := 320) (I := I) (J := J) (O := O) hnI hnO l hlT hf) ch_L_165 rfl hl.1 (Nat.le_of_ble_eq_true rfl) ⟨by omega, by omega⟩ ⟨by omega, by omega⟩ dL_law_658 rfl (fun H locs hP hS => ?_)
    refine lv_istore (lv' := [(6, .int (2 : Int32)), (5, .int (Int32.ofNat n)), (4, .ref (g.2.2 + 319)), (3, .ref (g.2.2 + 318)), (2, .ref (g.2.2 + 306)), (1, .ref (g.2.2 + 0)), (0, .ref b)]) hx hb dL_law_661 hl (by decide) rfl (fun ls hl => ?_)
    refine lv_aload_n hx hb dL_law_663 rfl (lv_at hl 4 rfl) ?_
    refine lv_aload_n hx hb dL_law_664 rfl (lv_at hl 6 rfl) ?_
    refine lv_iload hx hb dL_law_665 (lv_at hl 1 rfl) ?_
    refine lv_iconst (v := (1 : Int32)) hx hb dL_law_667 (by decide) ?_
    refine lv_iadd hx hb dL_law_668 ?_
    refine zr_sldc (cn := 1) X hX hbl hbA hS (by omega) (by omega) rfl dL_law_669 ?_
    refine lv_aload_n hx hb dL_law_670 rfl (lv_at hl 6 rfl) ?_
    refine lv_iload hx hb dL_law_671 (lv_at hl 1 rfl) ?_
    refine lv_iconst (v := (2 : Int32)) hx hb dL_law_673 (by decide) ?_
    refine lv_iadd hx hb dL_law_674 ?_
    refine zr_sldc (cn := 2) X hX hbl hbA hS (by omega) (by omega) rfl dL_law_675 ?_
    refine zr_cVi (rest := []) (As := [.int (xs (n + 1)), .int (xs (n + 2))]) X hP hS (ct_X8_hour (g := g) (nc := 320) (I := I) (J := J) (O := O) hnJ l hj) cw_L_167 (zr_recv X hP (by omega) (zb_ceJo zk_306 (by decide)) rfl) rfl hl.1 (Nat.le_of_ble_eq_true rfl) ⟨by omega, by omega⟩ ⟨by omega, by omega⟩ dL_law_676 rfl (fun H locs hP hS => ?_)
    refine lv_istore (lv' := [(7, .int rb), (6, .int (2 : Int32)), (5, .int (Int32.ofNat n)), (4, .ref (g.2.2 + 319)), (3, .ref (g.2.2 + 318)), (2, .ref (g.2.2 + 306)), (1, .ref (g.2.2 + 0)), (0, .ref b)]) hx hb dL_law_679 hl (by decide) rfl (fun ls hl => ?_)
    refine lv_aload_n hx hb dL_law_681 rfl (lv_at hl 5 rfl) ?_
    refine zr_cVi (rest := []) (As := []) X hP hS (ct_X8_thrown (g := g) (nc := 320) (I := I) (J := Jq) (O := O) hnJ l rfl) cw_L_132 (zr_recv X hP (by omega) (zb_ceJo zk_306 (by decide)) rfl) rfl hl.1 (Nat.le_of_ble_eq_true rfl) ⟨by omega, by omega⟩ ⟨by omega, by omega⟩ dL_law_682 rfl (fun H locs hP hS => ?_)
    refine lv_iload hx hb dL_law_685 (lv_at hl 1 rfl) ?_
    refine lv_icmp_eq (tgt := 692) hx hb dL_law_687 (by decide) (fun _ => ?_) (fun hc => absurd ht hc)
    refine lv_iload hx hb dL_law_692 (lv_at hl 1 rfl) ?_
    refine lv_if_ne (tgt := 709) hx hb dL_law_694 (by decide) (fun _ => ?_) (fun hc => absurd hc (by decide))
    refine lv_goto (tgt := 2550) hx hb dL_law_709 (by decide) ?_
    exact kk _ _ _ _ _ _ hr9 hP hS (lv_sub hl [2, 3, 4, 5, 6, 7] rfl)

set_option maxHeartbeats 1000000 in
theorem lw_c10 {p : Program} {l : Launch} {e : Env} {R : Room} {s : State} {m : MethodId} {args : Array Value} {below : List Frame} {meth : Method} {c : Code} {H : Heap} {locs : List Loc} {cells slots : Nat} {Q : State → Prop} {g : zb_G} {ls : Array Slot} {b L n : Nat} {xs : Nat → Int32} {Rel : Nat → Mem → Mem → Prop} (hq : eqP_10 Rel) {I J O : Mem} (hRel : Rel n I J) (hlT : l.stackTraces = false) (X : zb_X g p m c cL_law 10 s args RL meth) (hnc : zb_Nc s) (hX : va_X b L xs s s.heap) (hbl : b < s.heap.size) (hbA : ¬ zb_A g b) (hn : n + 6 ≤ L) (hL : L ≤ 3072)
    (hP : va_P g.1 vwCl (zb_ws g 320 (zb_ce g I J O)) H) (hS : va_S (zb_A g) s.heap H locs) (hl : lv_has ls 10 [(5, .int (Int32.ofNat n)), (4, .ref (g.2.2 + 319)), (3, .ref (g.2.2 + 318)), (2, .ref (g.2.2 + 306)), (1, .ref (g.2.2 + 0)), (0, .ref b)]) (h1 : 13 ≤ R.frames) (h2 : 472 ≤ R.locals) (h3 : cells + 1 ≤ R.cells) (h4 : slots + 6 ≤ R.slots)
    (kk : ∀ (I J O : Mem) (H : Heap) (locs : List Loc) (ls : Array Slot), Rel (n + 6) I J → va_P g.1 vwCl (zb_ws g 320 (zb_ce g I J O)) H → va_S (zb_A g) s.heap H locs → lv_has ls 10 [(5, .int (Int32.ofNat n)), (4, .ref (g.2.2 + 319)), (3, .ref (g.2.2 + 318)), (2, .ref (g.2.2 + 306)), (1, .ref (g.2.2 + 0)), (0, .ref b)] → W p l e R s m args below meth c H locs (cells + 1) (slots + 6) Q (F0 m 2550 ls [])) : W p l e R s m args below meth c H locs cells slots Q (F0 m 712 ls []) := by
  have hx := X.1.1
  have hb := X.1.2.1
  have hnI : 306 ≤ 320 := by decide
  have hnJ : 318 ≤ 320 := by decide
  have hnO : 320 ≤ 320 := by decide
  obtain ⟨E, r, rb, Jq, hf, hj, hr9, hd9⟩ := hq n I J (by omega) hRel (xs (n + 1))
  rcases hd9 with ⟨rfl, ht, rfl⟩ | ⟨rfl, ht⟩ | ⟨rfl, ht⟩
  · refine lv_aload_n hx hb dL_law_712 rfl (lv_at hl 4 rfl) ?_
    refine lv_aload_n hx hb dL_law_713 rfl (lv_at hl 5 rfl) ?_
    refine lv_iload hx hb dL_law_714 (lv_at hl 0 rfl) ?_
    refine lv_iconst (v := (1 : Int32)) hx hb dL_law_716 (by decide) ?_
    refine lv_iadd hx hb dL_law_717 ?_
    refine zr_sldc (cn := 1) X hX hbl hbA hS (by omega) (by omega) rfl dL_law_718 ?_
    refine lv_aload_n hx hb dL_law_719 rfl (lv_at hl 2 rfl) ?_
    refine zr_cH (rest := []) (As := [.ref (g.2.2 + 0), .int (xs (n + 1)), .ref (g.2.2 + 318)]) X hP hS hnc (hn_L_level (g := g) (nc := 320) (I := I) (J := J) (O := O) hnI hnO l hf) ch_L_168 rfl hl.1 (Nat.le_of_ble_eq_true rfl) ⟨by omega, by omega⟩ ⟨by omega, by omega⟩ dL_law_720 rfl (fun H locs hP hS => ?_)
    refine lv_istore (lv' := [(6, .int (0 : Int32)), (5, .int (Int32.ofNat n)), (4, .ref (g.2.2 + 319)), (3, .ref (g.2.2 + 318)), (2, .ref (g.2.2 + 306)), (1, .ref (g.2.2 + 0)), (0, .ref b)]) hx hb dL_law_723 hl (by decide) rfl (fun ls hl => ?_)
    refine lv_aload_n hx hb dL_law_725 rfl (lv_at hl 4 rfl) ?_
    refine lv_aload_n hx hb dL_law_726 rfl (lv_at hl 6 rfl) ?_
    refine lv_iload hx hb dL_law_727 (lv_at hl 1 rfl) ?_
    refine lv_iconst (v := (1 : Int32)) hx hb dL_law_729 (by decide) ?_
    refine lv_iadd hx hb dL_law_730 ?_
    refine zr_sldc (cn := 1) X hX hbl hbA hS (by omega) (by omega) rfl dL_law_731 ?_
    refine zr_cVi (rest := []) (As := [.int (xs (n + 1))]) X hP hS (ct_X8_level (g := g) (nc := 320) (I := I) (J := J) (O := (wr O 318 0 r)) hnJ l hj) cw_L_170 (zr_recv X hP (by omega) (zb_ceJo zk_306 (by decide)) rfl) rfl hl.1 (Nat.le_of_ble_eq_true rfl) ⟨by omega, by omega⟩ ⟨by omega, by omega⟩ dL_law_732 rfl (fun H locs hP hS => ?_)
    refine lv_istore (lv' := [(7, .int r), (6, .int (0 : Int32)), (5, .int (Int32.ofNat n)), (4, .ref (g.2.2 + 319)), (3, .ref (g.2.2 + 318)), (2, .ref (g.2.2 + 306)), (1, .ref (g.2.2 + 0)), (0, .ref b)]) hx hb dL_law_735 hl (by decide) rfl (fun ls hl => ?_)
    refine lv_aload_n hx hb dL_law_737 rfl (lv_at hl 5 rfl) ?_
    refine zr_cVi (rest := []) (As := []) X hP hS (ct_X8_thrown (g := g) (nc := 320) (I := I) (J := Jq) (O := (wr O 318 0 r)) hnJ l rfl) cw_L_132 (zr_recv X hP (by omega) (zb_ceJo zk_306 (by decide)) rfl) rfl hl.1 (Nat.le_of_ble_eq_true rfl) ⟨by omega, by omega⟩ ⟨by omega, by omega⟩ dL_law_738 rfl (fun H locs hP hS => ?_)
    refine lv_iload hx hb dL_law_741 (lv_at hl 1 rfl) ?_
    refine lv_icmp_eq (tgt := 748) hx hb dL_law_743 (by decide) (fun _ => ?_) (fun hc => absurd ht hc)
    refine lv_iload hx hb dL_law_748 (lv_at hl 1 rfl) ?_
    refine lv_if_ne (tgt := 765) hx hb dL_law_750 (by decide) (fun hc => absurd rfl hc) (fun _ => ?_)
    refine lv_aload_n hx hb dL_law_753 rfl (lv_at hl 4 rfl) ?_
    refine lv_iconst (v := (0 : Int32)) hx hb dL_law_754 (by decide) ?_
    refine zr_lald X hP hnO dL_law_755 ?_
    refine lv_iload hx hb dL_law_756 (lv_at hl 0 rfl) ?_
    refine lv_i2l hx hb dL_law_758 rfl ?_
    refine zr_lcmp0 hx hb dL_law_759 ?_
    refine lv_if_eq (tgt := 765) hx hb dL_law_760 (by decide) (fun _ => ?_) (fun hc => absurd rfl hc)
    refine lv_goto (tgt := 2550) hx hb dL_law_765 (by decide) ?_
    exact W.widen (Nat.le_succ _) (Nat.le_add_right _ 6) (kk _ _ _ _ _ _ hr9 hP hS (lv_sub hl [2, 3, 4, 5, 6, 7] rfl))
  · refine lv_aload_n hx hb dL_law_712 rfl (lv_at hl 4 rfl) ?_
    refine lv_aload_n hx hb dL_law_713 rfl (lv_at hl 5 rfl) ?_
    refine lv_iload hx hb dL_law_714 (lv_at hl 0 rfl) ?_
    refine lv_iconst (v := (1 : Int32)) hx hb dL_law_716 (by decide) ?_
    refine lv_iadd hx hb dL_law_717 ?_
    refine zr_sldc (cn := 1) X hX hbl hbA hS (by omega) (by omega) rfl dL_law_718 ?_
    refine lv_aload_n hx hb dL_law_719 rfl (lv_at hl 2 rfl) ?_
    refine zr_cH (rest := []) (As := [.ref (g.2.2 + 0), .int (xs (n + 1)), .ref (g.2.2 + 318)]) X hP hS hnc (hc1_L_level (g := g) (nc := 320) (I := I) (J := J) (O := O) hnI hnO l hlT hf) ch_L_168 rfl hl.1 (Nat.le_of_ble_eq_true rfl) ⟨by omega, by omega⟩ ⟨by omega, by omega⟩ dL_law_720 rfl (fun H locs hP hS => ?_)
    refine lv_istore (lv' := [(6, .int (1 : Int32)), (5, .int (Int32.ofNat n)), (4, .ref (g.2.2 + 319)), (3, .ref (g.2.2 + 318)), (2, .ref (g.2.2 + 306)), (1, .ref (g.2.2 + 0)), (0, .ref b)]) hx hb dL_law_723 hl (by decide) rfl (fun ls hl => ?_)
    refine lv_aload_n hx hb dL_law_725 rfl (lv_at hl 4 rfl) ?_
    refine lv_aload_n hx hb dL_law_726 rfl (lv_at hl 6 rfl) ?_
    refine lv_iload hx hb dL_law_727 (lv_at hl 1 rfl) ?_
    refine lv_iconst (v := (1 : Int32)) hx hb dL_law_729 (by decide) ?_
    refine lv_iadd hx hb dL_law_730 ?_
    refine zr_sldc (cn := 1) X hX hbl hbA hS (by omega) (by omega) rfl dL_law_731 ?_
    refine zr_cVi (rest := []) (As := [.int (xs (n + 1))]) X hP hS (ct_X8_level (g := g) (nc := 320) (I := I) (J := J) (O := O) hnJ l hj) cw_L_170 (zr_recv X hP (by omega) (zb_ceJo zk_306 (by decide)) rfl) rfl hl.1 (Nat.le_of_ble_eq_true rfl) ⟨by omega, by omega⟩ ⟨by omega, by omega⟩ dL_law_732 rfl (fun H locs hP hS => ?_)
    refine lv_istore (lv' := [(7, .int rb), (6, .int (1 : Int32)), (5, .int (Int32.ofNat n)), (4, .ref (g.2.2 + 319)), (3, .ref (g.2.2 + 318)), (2, .ref (g.2.2 + 306)), (1, .ref (g.2.2 + 0)), (0, .ref b)]) hx hb dL_law_735 hl (by decide) rfl (fun ls hl => ?_)
    refine lv_aload_n hx hb dL_law_737 rfl (lv_at hl 5 rfl) ?_
    refine zr_cVi (rest := []) (As := []) X hP hS (ct_X8_thrown (g := g) (nc := 320) (I := I) (J := Jq) (O := O) hnJ l rfl) cw_L_132 (zr_recv X hP (by omega) (zb_ceJo zk_306 (by decide)) rfl) rfl hl.1 (Nat.le_of_ble_eq_true rfl) ⟨by omega, by omega⟩ ⟨by omega, by omega⟩ dL_law_738 rfl (fun H locs hP hS => ?_)
    refine lv_iload hx hb dL_law_741 (lv_at hl 1 rfl) ?_
    refine lv_icmp_eq (tgt := 748) hx hb dL_law_743 (by decide) (fun _ => ?_) (fun hc => absurd ht hc)
    refine lv_iload hx hb dL_law_748 (lv_at hl 1 rfl) ?_
    refine lv_if_ne (tgt := 765) hx hb dL_law_750 (by decide) (fun _ => ?_) (fun hc => absurd hc (by decide))
    refine lv_goto (tgt := 2550) hx hb dL_law_765 (by decide) ?_
    exact kk _ _ _ _ _ _ hr9 hP hS (lv_sub hl [2, 3, 4, 5, 6, 7] rfl)
  · refine lv_aload_n hx hb dL_law_712 rfl (lv_at hl 4 rfl) ?_
    refine lv_aload_n hx hb dL_law_713 rfl (lv_at hl 5 rfl) ?_
    refine lv_iload hx hb dL_law_714 (lv_at hl 0 rfl) ?_
    refine lv_iconst (v := (1 : Int32)) hx hb dL_law_716 (by decide) ?_
    refine lv_iadd hx hb dL_law_717 ?_
    refine zr_sldc (cn := 1) X hX hbl hbA hS (by omega) (by omega) rfl dL_law_718 ?_
    refine lv_aload_n hx hb dL_law_719 rfl (lv_at hl 2 rfl) ?_
    refine zr_cH (rest := []) (As := [.ref (g.2.2 + 0), .int (xs (n + 1)), .ref (g.2.2 + 318)]) X hP hS hnc (hc2_L_level (g := g) (nc := 320) (I := I) (J := J) (O := O) hnI hnO l hlT hf) ch_L_168 rfl hl.1 (Nat.le_of_ble_eq_true rfl) ⟨by omega, by omega⟩ ⟨by omega, by omega⟩ dL_law_720 rfl (fun H locs hP hS => ?_)
    refine lv_istore (lv' := [(6, .int (2 : Int32)), (5, .int (Int32.ofNat n)), (4, .ref (g.2.2 + 319)), (3, .ref (g.2.2 + 318)), (2, .ref (g.2.2 + 306)), (1, .ref (g.2.2 + 0)), (0, .ref b)]) hx hb dL_law_723 hl (by decide) rfl (fun ls hl => ?_)
    refine lv_aload_n hx hb dL_law_725 rfl (lv_at hl 4 rfl) ?_
    refine lv_aload_n hx hb dL_law_726 rfl (lv_at hl 6 rfl) ?_
    refine lv_iload hx hb dL_law_727 (lv_at hl 1 rfl) ?_
    refine lv_iconst (v := (1 : Int32)) hx hb dL_law_729 (by decide) ?_
    refine lv_iadd hx hb dL_law_730 ?_
    refine zr_sldc (cn := 1) X hX hbl hbA hS (by omega) (by omega) rfl dL_law_731 ?_
    refine zr_cVi (rest := []) (As := [.int (xs (n + 1))]) X hP hS (ct_X8_level (g := g) (nc := 320) (I := I) (J := J) (O := O) hnJ l hj) cw_L_170 (zr_recv X hP (by omega) (zb_ceJo zk_306 (by decide)) rfl) rfl hl.1 (Nat.le_of_ble_eq_true rfl) ⟨by omega, by omega⟩ ⟨by omega, by omega⟩ dL_law_732 rfl (fun H locs hP hS => ?_)
    refine lv_istore (lv' := [(7, .int rb), (6, .int (2 : Int32)), (5, .int (Int32.ofNat n)), (4, .ref (g.2.2 + 319)), (3, .ref (g.2.2 + 318)), (2, .ref (g.2.2 + 306)), (1, .ref (g.2.2 + 0)), (0, .ref b)]) hx hb dL_law_735 hl (by decide) rfl (fun ls hl => ?_)
    refine lv_aload_n hx hb dL_law_737 rfl (lv_at hl 5 rfl) ?_
    refine zr_cVi (rest := []) (As := []) X hP hS (ct_X8_thrown (g := g) (nc := 320) (I := I) (J := Jq) (O := O) hnJ l rfl) cw_L_132 (zr_recv X hP (by omega) (zb_ceJo zk_306 (by decide)) rfl) rfl hl.1 (Nat.le_of_ble_eq_true rfl) ⟨by omega, by omega⟩ ⟨by omega, by omega⟩ dL_law_738 rfl (fun H locs hP hS => ?_)
    refine lv_iload hx hb dL_law_741 (lv_at hl 1 rfl) ?_
    refine lv_icmp_eq (tgt := 748) hx hb dL_law_743 (by decide) (fun _ => ?_) (fun hc => absurd ht hc)
    refine lv_iload hx hb dL_law_748 (lv_at hl 1 rfl) ?_
    refine lv_if_ne (tgt := 765) hx hb dL_law_750 (by decide) (fun _ => ?_) (fun hc => absurd hc (by decide))
    refine lv_goto (tgt := 2550) hx hb dL_law_765 (by decide) ?_
    exact kk _ _ _ _ _ _ hr9 hP hS (lv_sub hl [2, 3, 4, 5, 6, 7] rfl)

set_option maxHeartbeats 1000000 in
theorem lw_c11 {p : Program} {l : Launch} {e : Env} {R : Room} {s : State} {m : MethodId} {args : Array Value} {below : List Frame} {meth : Method} {c : Code} {H : Heap} {locs : List Loc} {cells slots : Nat} {Q : State → Prop} {g : zb_G} {ls : Array Slot} {b L n : Nat} {xs : Nat → Int32} {Rel : Nat → Mem → Mem → Prop} (hq : eqP_11 Rel) {I J O : Mem} (hRel : Rel n I J) (hlT : l.stackTraces = false) (X : zb_X g p m c cL_law 10 s args RL meth) (hnc : zb_Nc s) (hX : va_X b L xs s s.heap) (hbl : b < s.heap.size) (hbA : ¬ zb_A g b) (hn : n + 6 ≤ L) (hL : L ≤ 3072)
    (hP : va_P g.1 vwCl (zb_ws g 320 (zb_ce g I J O)) H) (hS : va_S (zb_A g) s.heap H locs) (hl : lv_has ls 10 [(5, .int (Int32.ofNat n)), (4, .ref (g.2.2 + 319)), (3, .ref (g.2.2 + 318)), (2, .ref (g.2.2 + 306)), (1, .ref (g.2.2 + 0)), (0, .ref b)]) (h1 : 13 ≤ R.frames) (h2 : 472 ≤ R.locals) (h3 : cells + 1 ≤ R.cells) (h4 : slots + 6 ≤ R.slots)
    (kk : ∀ (I J O : Mem) (H : Heap) (locs : List Loc) (ls : Array Slot), Rel (n + 6) I J → va_P g.1 vwCl (zb_ws g 320 (zb_ce g I J O)) H → va_S (zb_A g) s.heap H locs → lv_has ls 10 [(5, .int (Int32.ofNat n)), (4, .ref (g.2.2 + 319)), (3, .ref (g.2.2 + 318)), (2, .ref (g.2.2 + 306)), (1, .ref (g.2.2 + 0)), (0, .ref b)] → W p l e R s m args below meth c H locs (cells + 1) (slots + 6) Q (F0 m 2550 ls [])) : W p l e R s m args below meth c H locs cells slots Q (F0 m 768 ls []) := by
  have hx := X.1.1
  have hb := X.1.2.1
  have hnI : 306 ≤ 320 := by decide
  have hnJ : 318 ≤ 320 := by decide
  have hnO : 320 ≤ 320 := by decide
  obtain ⟨E, r, rb, Jq, hf, hj, hr9, hd9⟩ := hq n I J (by omega) hRel (xs (n + 1)) (xs (n + 2))
  rcases hd9 with ⟨rfl, ht, rfl⟩ | ⟨rfl, ht⟩ | ⟨rfl, ht⟩
  · refine lv_aload_n hx hb dL_law_768 rfl (lv_at hl 4 rfl) ?_
    refine lv_aload_n hx hb dL_law_769 rfl (lv_at hl 5 rfl) ?_
    refine lv_iload hx hb dL_law_770 (lv_at hl 0 rfl) ?_
    refine lv_iconst (v := (1 : Int32)) hx hb dL_law_772 (by decide) ?_
    refine lv_iadd hx hb dL_law_773 ?_
    refine zr_sldc (cn := 1) X hX hbl hbA hS (by omega) (by omega) rfl dL_law_774 ?_
    refine lv_aload_n hx hb dL_law_775 rfl (lv_at hl 5 rfl) ?_
    refine lv_iload hx hb dL_law_776 (lv_at hl 0 rfl) ?_
    refine lv_iconst (v := (2 : Int32)) hx hb dL_law_778 (by decide) ?_
    refine lv_iadd hx hb dL_law_779 ?_
    refine zr_sldc (cn := 2) X hX hbl hbA hS (by omega) (by omega) rfl dL_law_780 ?_
    refine lv_aload_n hx hb dL_law_781 rfl (lv_at hl 2 rfl) ?_
    refine zr_cH (rest := []) (As := [.ref (g.2.2 + 0), .int (xs (n + 1)), .int (xs (n + 2)), .ref (g.2.2 + 318)]) X hP hS hnc (hn_L_value (g := g) (nc := 320) (I := I) (J := J) (O := O) hnI hnO l hf) ch_L_171 rfl hl.1 (Nat.le_of_ble_eq_true rfl) ⟨by omega, by omega⟩ ⟨by omega, by omega⟩ dL_law_782 rfl (fun H locs hP hS => ?_)
    refine lv_istore (lv' := [(6, .int (0 : Int32)), (5, .int (Int32.ofNat n)), (4, .ref (g.2.2 + 319)), (3, .ref (g.2.2 + 318)), (2, .ref (g.2.2 + 306)), (1, .ref (g.2.2 + 0)), (0, .ref b)]) hx hb dL_law_785 hl (by decide) rfl (fun ls hl => ?_)
    refine lv_aload_n hx hb dL_law_787 rfl (lv_at hl 4 rfl) ?_
    refine lv_aload_n hx hb dL_law_788 rfl (lv_at hl 6 rfl) ?_
    refine lv_iload hx hb dL_law_789 (lv_at hl 1 rfl) ?_
    refine lv_iconst (v := (1 : Int32)) hx hb dL_law_791 (by decide) ?_
    refine lv_iadd hx hb dL_law_792 ?_
    refine zr_sldc (cn := 1) X hX hbl hbA hS (by omega) (by omega) rfl dL_law_793 ?_
    refine lv_aload_n hx hb dL_law_794 rfl (lv_at hl 6 rfl) ?_
    refine lv_iload hx hb dL_law_795 (lv_at hl 1 rfl) ?_
    refine lv_iconst (v := (2 : Int32)) hx hb dL_law_797 (by decide) ?_
    refine lv_iadd hx hb dL_law_798 ?_
    refine zr_sldc (cn := 2) X hX hbl hbA hS (by omega) (by omega) rfl dL_law_799 ?_
    refine zr_cVi (rest := []) (As := [.int (xs (n + 1)), .int (xs (n + 2))]) X hP hS (ct_X8_value (g := g) (nc := 320) (I := I) (J := J) (O := (wr O 318 0 r)) hnJ l hj) cw_L_173 (zr_recv X hP (by omega) (zb_ceJo zk_306 (by decide)) rfl) rfl hl.1 (Nat.le_of_ble_eq_true rfl) ⟨by omega, by omega⟩ ⟨by omega, by omega⟩ dL_law_800 rfl (fun H locs hP hS => ?_)
    refine lv_istore (lv' := [(7, .int r), (6, .int (0 : Int32)), (5, .int (Int32.ofNat n)), (4, .ref (g.2.2 + 319)), (3, .ref (g.2.2 + 318)), (2, .ref (g.2.2 + 306)), (1, .ref (g.2.2 + 0)), (0, .ref b)]) hx hb dL_law_803 hl (by decide) rfl (fun ls hl => ?_)
    refine lv_aload_n hx hb dL_law_805 rfl (lv_at hl 5 rfl) ?_
    refine zr_cVi (rest := []) (As := []) X hP hS (ct_X8_thrown (g := g) (nc := 320) (I := I) (J := Jq) (O := (wr O 318 0 r)) hnJ l rfl) cw_L_132 (zr_recv X hP (by omega) (zb_ceJo zk_306 (by decide)) rfl) rfl hl.1 (Nat.le_of_ble_eq_true rfl) ⟨by omega, by omega⟩ ⟨by omega, by omega⟩ dL_law_806 rfl (fun H locs hP hS => ?_)
    refine lv_iload hx hb dL_law_809 (lv_at hl 1 rfl) ?_
    refine lv_icmp_eq (tgt := 816) hx hb dL_law_811 (by decide) (fun _ => ?_) (fun hc => absurd ht hc)
    refine lv_iload hx hb dL_law_816 (lv_at hl 1 rfl) ?_
    refine lv_if_ne (tgt := 833) hx hb dL_law_818 (by decide) (fun hc => absurd rfl hc) (fun _ => ?_)
    refine lv_aload_n hx hb dL_law_821 rfl (lv_at hl 4 rfl) ?_
    refine lv_iconst (v := (0 : Int32)) hx hb dL_law_822 (by decide) ?_
    refine zr_lald X hP hnO dL_law_823 ?_
    refine lv_iload hx hb dL_law_824 (lv_at hl 0 rfl) ?_
    refine lv_i2l hx hb dL_law_826 rfl ?_
    refine zr_lcmp0 hx hb dL_law_827 ?_
    refine lv_if_eq (tgt := 833) hx hb dL_law_828 (by decide) (fun _ => ?_) (fun hc => absurd rfl hc)
    refine lv_goto (tgt := 2550) hx hb dL_law_833 (by decide) ?_
    exact W.widen (Nat.le_succ _) (Nat.le_add_right _ 6) (kk _ _ _ _ _ _ hr9 hP hS (lv_sub hl [2, 3, 4, 5, 6, 7] rfl))
  · refine lv_aload_n hx hb dL_law_768 rfl (lv_at hl 4 rfl) ?_
    refine lv_aload_n hx hb dL_law_769 rfl (lv_at hl 5 rfl) ?_
    refine lv_iload hx hb dL_law_770 (lv_at hl 0 rfl) ?_
    refine lv_iconst (v := (1 : Int32)) hx hb dL_law_772 (by decide) ?_
    refine lv_iadd hx hb dL_law_773 ?_
    refine zr_sldc (cn := 1) X hX hbl hbA hS (by omega) (by omega) rfl dL_law_774 ?_
    refine lv_aload_n hx hb dL_law_775 rfl (lv_at hl 5 rfl) ?_
    refine lv_iload hx hb dL_law_776 (lv_at hl 0 rfl) ?_
    refine lv_iconst (v := (2 : Int32)) hx hb dL_law_778 (by decide) ?_
    refine lv_iadd hx hb dL_law_779 ?_
    refine zr_sldc (cn := 2) X hX hbl hbA hS (by omega) (by omega) rfl dL_law_780 ?_
    refine lv_aload_n hx hb dL_law_781 rfl (lv_at hl 2 rfl) ?_
    refine zr_cH (rest := []) (As := [.ref (g.2.2 + 0), .int (xs (n + 1)), .int (xs (n + 2)), .ref (g.2.2 + 318)]) X hP hS hnc (hc1_L_value (g := g) (nc := 320) (I := I) (J := J) (O := O) hnI hnO l hlT hf) ch_L_171 rfl hl.1 (Nat.le_of_ble_eq_true rfl) ⟨by omega, by omega⟩ ⟨by omega, by omega⟩ dL_law_782 rfl (fun H locs hP hS => ?_)
    refine lv_istore (lv' := [(6, .int (1 : Int32)), (5, .int (Int32.ofNat n)), (4, .ref (g.2.2 + 319)), (3, .ref (g.2.2 + 318)), (2, .ref (g.2.2 + 306)), (1, .ref (g.2.2 + 0)), (0, .ref b)]) hx hb dL_law_785 hl (by decide) rfl (fun ls hl => ?_)
    refine lv_aload_n hx hb dL_law_787 rfl (lv_at hl 4 rfl) ?_
    refine lv_aload_n hx hb dL_law_788 rfl (lv_at hl 6 rfl) ?_
    refine lv_iload hx hb dL_law_789 (lv_at hl 1 rfl) ?_
    refine lv_iconst (v := (1 : Int32)) hx hb dL_law_791 (by decide) ?_
    refine lv_iadd hx hb dL_law_792 ?_
    refine zr_sldc (cn := 1) X hX hbl hbA hS (by omega) (by omega) rfl dL_law_793 ?_
    refine lv_aload_n hx hb dL_law_794 rfl (lv_at hl 6 rfl) ?_
    refine lv_iload hx hb dL_law_795 (lv_at hl 1 rfl) ?_
    refine lv_iconst (v := (2 : Int32)) hx hb dL_law_797 (by decide) ?_
    refine lv_iadd hx hb dL_law_798 ?_
    refine zr_sldc (cn := 2) X hX hbl hbA hS (by omega) (by omega) rfl dL_law_799 ?_
    refine zr_cVi (rest := []) (As := [.int (xs (n + 1)), .int (xs (n + 2))]) X hP hS (ct_X8_value (g := g) (nc := 320) (I := I) (J := J) (O := O) hnJ l hj) cw_L_173 (zr_recv X hP (by omega) (zb_ceJo zk_306 (by decide)) rfl) rfl hl.1 (Nat.le_of_ble_eq_true rfl) ⟨by omega, by omega⟩ ⟨by omega, by omega⟩ dL_law_800 rfl (fun H locs hP hS => ?_)
    refine lv_istore (lv' := [(7, .int rb), (6, .int (1 : Int32)), (5, .int (Int32.ofNat n)), (4, .ref (g.2.2 + 319)), (3, .ref (g.2.2 + 318)), (2, .ref (g.2.2 + 306)), (1, .ref (g.2.2 + 0)), (0, .ref b)]) hx hb dL_law_803 hl (by decide) rfl (fun ls hl => ?_)
    refine lv_aload_n hx hb dL_law_805 rfl (lv_at hl 5 rfl) ?_
    refine zr_cVi (rest := []) (As := []) X hP hS (ct_X8_thrown (g := g) (nc := 320) (I := I) (J := Jq) (O := O) hnJ l rfl) cw_L_132 (zr_recv X hP (by omega) (zb_ceJo zk_306 (by decide)) rfl) rfl hl.1 (Nat.le_of_ble_eq_true rfl) ⟨by omega, by omega⟩ ⟨by omega, by omega⟩ dL_law_806 rfl (fun H locs hP hS => ?_)
    refine lv_iload hx hb dL_law_809 (lv_at hl 1 rfl) ?_
    refine lv_icmp_eq (tgt := 816) hx hb dL_law_811 (by decide) (fun _ => ?_) (fun hc => absurd ht hc)
    refine lv_iload hx hb dL_law_816 (lv_at hl 1 rfl) ?_
    refine lv_if_ne (tgt := 833) hx hb dL_law_818 (by decide) (fun _ => ?_) (fun hc => absurd hc (by decide))
    refine lv_goto (tgt := 2550) hx hb dL_law_833 (by decide) ?_
    exact kk _ _ _ _ _ _ hr9 hP hS (lv_sub hl [2, 3, 4, 5, 6, 7] rfl)
  · refine lv_aload_n hx hb dL_law_768 rfl (lv_at hl 4 rfl) ?_
    refine lv_aload_n hx hb dL_law_769 rfl (lv_at hl 5 rfl) ?_
    refine lv_iload hx hb dL_law_770 (lv_at hl 0 rfl) ?_
    refine lv_iconst (v := (1 : Int32)) hx hb dL_law_772 (by decide) ?_
    refine lv_iadd hx hb dL_law_773 ?_
    refine zr_sldc (cn := 1) X hX hbl hbA hS (by omega) (by omega) rfl dL_law_774 ?_
    refine lv_aload_n hx hb dL_law_775 rfl (lv_at hl 5 rfl) ?_
    refine lv_iload hx hb dL_law_776 (lv_at hl 0 rfl) ?_
    refine lv_iconst (v := (2 : Int32)) hx hb dL_law_778 (by decide) ?_
    refine lv_iadd hx hb dL_law_779 ?_
    refine zr_sldc (cn := 2) X hX hbl hbA hS (by omega) (by omega) rfl dL_law_780 ?_
    refine lv_aload_n hx hb dL_law_781 rfl (lv_at hl 2 rfl) ?_
    refine zr_cH (rest := []) (As := [.ref (g.2.2 + 0), .int (xs (n + 1)), .int (xs (n + 2)), .ref (g.2.2 + 318)]) X hP hS hnc (hc2_L_value (g := g) (nc := 320) (I := I) (J := J) (O := O) hnI hnO l hlT hf) ch_L_171 rfl hl.1 (Nat.le_of_ble_eq_true rfl) ⟨by omega, by omega⟩ ⟨by omega, by omega⟩ dL_law_782 rfl (fun H locs hP hS => ?_)
    refine lv_istore (lv' := [(6, .int (2 : Int32)), (5, .int (Int32.ofNat n)), (4, .ref (g.2.2 + 319)), (3, .ref (g.2.2 + 318)), (2, .ref (g.2.2 + 306)), (1, .ref (g.2.2 + 0)), (0, .ref b)]) hx hb dL_law_785 hl (by decide) rfl (fun ls hl => ?_)
    refine lv_aload_n hx hb dL_law_787 rfl (lv_at hl 4 rfl) ?_
    refine lv_aload_n hx hb dL_law_788 rfl (lv_at hl 6 rfl) ?_
    refine lv_iload hx hb dL_law_789 (lv_at hl 1 rfl) ?_
    refine lv_iconst (v := (1 : Int32)) hx hb dL_law_791 (by decide) ?_
    refine lv_iadd hx hb dL_law_792 ?_
    refine zr_sldc (cn := 1) X hX hbl hbA hS (by omega) (by omega) rfl dL_law_793 ?_
    refine lv_aload_n hx hb dL_law_794 rfl (lv_at hl 6 rfl) ?_
    refine lv_iload hx hb dL_law_795 (lv_at hl 1 rfl) ?_
    refine lv_iconst (v := (2 : Int32)) hx hb dL_law_797 (by decide) ?_
    refine lv_iadd hx hb dL_law_798 ?_
    refine zr_sldc (cn := 2) X hX hbl hbA hS (by omega) (by omega) rfl dL_law_799 ?_
    refine zr_cVi (rest := []) (As := [.int (xs (n + 1)), .int (xs (n + 2))]) X hP hS (ct_X8_value (g := g) (nc := 320) (I := I) (J := J) (O := O) hnJ l hj) cw_L_173 (zr_recv X hP (by omega) (zb_ceJo zk_306 (by decide)) rfl) rfl hl.1 (Nat.le_of_ble_eq_true rfl) ⟨by omega, by omega⟩ ⟨by omega, by omega⟩ dL_law_800 rfl (fun H locs hP hS => ?_)
    refine lv_istore (lv' := [(7, .int rb), (6, .int (2 : Int32)), (5, .int (Int32.ofNat n)), (4, .ref (g.2.2 + 319)), (3, .ref (g.2.2 + 318)), (2, .ref (g.2.2 + 306)), (1, .ref (g.2.2 + 0)), (0, .ref b)]) hx hb dL_law_803 hl (by decide) rfl (fun ls hl => ?_)
    refine lv_aload_n hx hb dL_law_805 rfl (lv_at hl 5 rfl) ?_
    refine zr_cVi (rest := []) (As := []) X hP hS (ct_X8_thrown (g := g) (nc := 320) (I := I) (J := Jq) (O := O) hnJ l rfl) cw_L_132 (zr_recv X hP (by omega) (zb_ceJo zk_306 (by decide)) rfl) rfl hl.1 (Nat.le_of_ble_eq_true rfl) ⟨by omega, by omega⟩ ⟨by omega, by omega⟩ dL_law_806 rfl (fun H locs hP hS => ?_)
    refine lv_iload hx hb dL_law_809 (lv_at hl 1 rfl) ?_
    refine lv_icmp_eq (tgt := 816) hx hb dL_law_811 (by decide) (fun _ => ?_) (fun hc => absurd ht hc)
    refine lv_iload hx hb dL_law_816 (lv_at hl 1 rfl) ?_
    refine lv_if_ne (tgt := 833) hx hb dL_law_818 (by decide) (fun _ => ?_) (fun hc => absurd hc (by decide))
    refine lv_goto (tgt := 2550) hx hb dL_law_833 (by decide) ?_
    exact kk _ _ _ _ _ _ hr9 hP hS (lv_sub hl [2, 3, 4, 5, 6, 7] rfl)

set_option maxHeartbeats 1000000 in
theorem lw_c12 {p : Program} {l : Launch} {e : Env} {R : Room} {s : State} {m : MethodId} {args : Array Value} {below : List Frame} {meth : Method} {c : Code} {H : Heap} {locs : List Loc} {cells slots : Nat} {Q : State → Prop} {g : zb_G} {ls : Array Slot} {b L n : Nat} {xs : Nat → Int32} {Rel : Nat → Mem → Mem → Prop} (hq : eqP_12 Rel) {I J O : Mem} (hRel : Rel n I J) (hlT : l.stackTraces = false) (X : zb_X g p m c cL_law 10 s args RL meth) (hnc : zb_Nc s) (hX : va_X b L xs s s.heap) (hbl : b < s.heap.size) (hbA : ¬ zb_A g b) (hn : n + 6 ≤ L) (hL : L ≤ 3072)
    (hP : va_P g.1 vwCl (zb_ws g 320 (zb_ce g I J O)) H) (hS : va_S (zb_A g) s.heap H locs) (hl : lv_has ls 10 [(5, .int (Int32.ofNat n)), (4, .ref (g.2.2 + 319)), (3, .ref (g.2.2 + 318)), (2, .ref (g.2.2 + 306)), (1, .ref (g.2.2 + 0)), (0, .ref b)]) (h1 : 13 ≤ R.frames) (h2 : 472 ≤ R.locals) (h3 : cells + 1 ≤ R.cells) (h4 : slots + 6 ≤ R.slots)
    (kk : ∀ (I J O : Mem) (H : Heap) (locs : List Loc) (ls : Array Slot), Rel (n + 6) I J → va_P g.1 vwCl (zb_ws g 320 (zb_ce g I J O)) H → va_S (zb_A g) s.heap H locs → lv_has ls 10 [(5, .int (Int32.ofNat n)), (4, .ref (g.2.2 + 319)), (3, .ref (g.2.2 + 318)), (2, .ref (g.2.2 + 306)), (1, .ref (g.2.2 + 0)), (0, .ref b)] → W p l e R s m args below meth c H locs (cells + 1) (slots + 6) Q (F0 m 2550 ls [])) : W p l e R s m args below meth c H locs cells slots Q (F0 m 836 ls []) := by
  have hx := X.1.1
  have hb := X.1.2.1
  have hnI : 306 ≤ 320 := by decide
  have hnJ : 318 ≤ 320 := by decide
  have hnO : 320 ≤ 320 := by decide
  obtain ⟨E, r, rb, Jq, hf, hj, hr9, hd9⟩ := hq n I J (by omega) hRel (xs (n + 1)) (xs (n + 2))
  rcases hd9 with ⟨rfl, ht, rfl⟩ | ⟨rfl, ht⟩
  · refine lv_aload_n hx hb dL_law_836 rfl (lv_at hl 4 rfl) ?_
    refine lv_aload_n hx hb dL_law_837 rfl (lv_at hl 5 rfl) ?_
    refine lv_iload hx hb dL_law_838 (lv_at hl 0 rfl) ?_
    refine lv_iconst (v := (1 : Int32)) hx hb dL_law_840 (by decide) ?_
    refine lv_iadd hx hb dL_law_841 ?_
    refine zr_sldc (cn := 1) X hX hbl hbA hS (by omega) (by omega) rfl dL_law_842 ?_
    refine lv_aload_n hx hb dL_law_843 rfl (lv_at hl 5 rfl) ?_
    refine lv_iload hx hb dL_law_844 (lv_at hl 0 rfl) ?_
    refine lv_iconst (v := (2 : Int32)) hx hb dL_law_846 (by decide) ?_
    refine lv_iadd hx hb dL_law_847 ?_
    refine zr_sldc (cn := 2) X hX hbl hbA hS (by omega) (by omega) rfl dL_law_848 ?_
    refine lv_aload_n hx hb dL_law_849 rfl (lv_at hl 2 rfl) ?_
    refine zr_cH (rest := []) (As := [.ref (g.2.2 + 0), .int (xs (n + 1)), .int (xs (n + 2)), .ref (g.2.2 + 318)]) X hP hS hnc (hn_L_why (g := g) (nc := 320) (I := I) (J := J) (O := O) hnI hnO l hf) ch_L_174 rfl hl.1 (Nat.le_of_ble_eq_true rfl) ⟨by omega, by omega⟩ ⟨by omega, by omega⟩ dL_law_850 rfl (fun H locs hP hS => ?_)
    refine lv_istore (lv' := [(6, .int (0 : Int32)), (5, .int (Int32.ofNat n)), (4, .ref (g.2.2 + 319)), (3, .ref (g.2.2 + 318)), (2, .ref (g.2.2 + 306)), (1, .ref (g.2.2 + 0)), (0, .ref b)]) hx hb dL_law_853 hl (by decide) rfl (fun ls hl => ?_)
    refine lv_aload_n hx hb dL_law_855 rfl (lv_at hl 4 rfl) ?_
    refine lv_aload_n hx hb dL_law_856 rfl (lv_at hl 6 rfl) ?_
    refine lv_iload hx hb dL_law_857 (lv_at hl 1 rfl) ?_
    refine lv_iconst (v := (1 : Int32)) hx hb dL_law_859 (by decide) ?_
    refine lv_iadd hx hb dL_law_860 ?_
    refine zr_sldc (cn := 1) X hX hbl hbA hS (by omega) (by omega) rfl dL_law_861 ?_
    refine lv_aload_n hx hb dL_law_862 rfl (lv_at hl 6 rfl) ?_
    refine lv_iload hx hb dL_law_863 (lv_at hl 1 rfl) ?_
    refine lv_iconst (v := (2 : Int32)) hx hb dL_law_865 (by decide) ?_
    refine lv_iadd hx hb dL_law_866 ?_
    refine zr_sldc (cn := 2) X hX hbl hbA hS (by omega) (by omega) rfl dL_law_867 ?_
    refine zr_cVi (rest := []) (As := [.int (xs (n + 1)), .int (xs (n + 2))]) X hP hS (ct_X8_why (g := g) (nc := 320) (I := I) (J := J) (O := (wr O 318 0 r)) hnJ l hj) cw_L_176 (zr_recv X hP (by omega) (zb_ceJo zk_306 (by decide)) rfl) rfl hl.1 (Nat.le_of_ble_eq_true rfl) ⟨by omega, by omega⟩ ⟨by omega, by omega⟩ dL_law_868 rfl (fun H locs hP hS => ?_)
    refine lv_istore (lv' := [(7, .int r), (6, .int (0 : Int32)), (5, .int (Int32.ofNat n)), (4, .ref (g.2.2 + 319)), (3, .ref (g.2.2 + 318)), (2, .ref (g.2.2 + 306)), (1, .ref (g.2.2 + 0)), (0, .ref b)]) hx hb dL_law_871 hl (by decide) rfl (fun ls hl => ?_)
    refine lv_aload_n hx hb dL_law_873 rfl (lv_at hl 5 rfl) ?_
    refine zr_cVi (rest := []) (As := []) X hP hS (ct_X8_thrown (g := g) (nc := 320) (I := I) (J := Jq) (O := (wr O 318 0 r)) hnJ l rfl) cw_L_132 (zr_recv X hP (by omega) (zb_ceJo zk_306 (by decide)) rfl) rfl hl.1 (Nat.le_of_ble_eq_true rfl) ⟨by omega, by omega⟩ ⟨by omega, by omega⟩ dL_law_874 rfl (fun H locs hP hS => ?_)
    refine lv_iload hx hb dL_law_877 (lv_at hl 1 rfl) ?_
    refine lv_icmp_eq (tgt := 884) hx hb dL_law_879 (by decide) (fun _ => ?_) (fun hc => absurd ht hc)
    refine lv_iload hx hb dL_law_884 (lv_at hl 1 rfl) ?_
    refine lv_if_ne (tgt := 901) hx hb dL_law_886 (by decide) (fun hc => absurd rfl hc) (fun _ => ?_)
    refine lv_aload_n hx hb dL_law_889 rfl (lv_at hl 4 rfl) ?_
    refine lv_iconst (v := (0 : Int32)) hx hb dL_law_890 (by decide) ?_
    refine zr_lald X hP hnO dL_law_891 ?_
    refine lv_iload hx hb dL_law_892 (lv_at hl 0 rfl) ?_
    refine lv_i2l hx hb dL_law_894 rfl ?_
    refine zr_lcmp0 hx hb dL_law_895 ?_
    refine lv_if_eq (tgt := 901) hx hb dL_law_896 (by decide) (fun _ => ?_) (fun hc => absurd rfl hc)
    refine lv_goto (tgt := 2550) hx hb dL_law_901 (by decide) ?_
    exact W.widen (Nat.le_succ _) (Nat.le_add_right _ 6) (kk _ _ _ _ _ _ hr9 hP hS (lv_sub hl [2, 3, 4, 5, 6, 7] rfl))
  · refine lv_aload_n hx hb dL_law_836 rfl (lv_at hl 4 rfl) ?_
    refine lv_aload_n hx hb dL_law_837 rfl (lv_at hl 5 rfl) ?_
    refine lv_iload hx hb dL_law_838 (lv_at hl 0 rfl) ?_
    refine lv_iconst (v := (1 : Int32)) hx hb dL_law_840 (by decide) ?_
    refine lv_iadd hx hb dL_law_841 ?_
    refine zr_sldc (cn := 1) X hX hbl hbA hS (by omega) (by omega) rfl dL_law_842 ?_
    refine lv_aload_n hx hb dL_law_843 rfl (lv_at hl 5 rfl) ?_
    refine lv_iload hx hb dL_law_844 (lv_at hl 0 rfl) ?_
    refine lv_iconst (v := (2 : Int32)) hx hb dL_law_846 (by decide) ?_
    refine lv_iadd hx hb dL_law_847 ?_
    refine zr_sldc (cn := 2) X hX hbl hbA hS (by omega) (by omega) rfl dL_law_848 ?_
    refine lv_aload_n hx hb dL_law_849 rfl (lv_at hl 2 rfl) ?_
    refine zr_cH (rest := []) (As := [.ref (g.2.2 + 0), .int (xs (n + 1)), .int (xs (n + 2)), .ref (g.2.2 + 318)]) X hP hS hnc (hc1_L_why (g := g) (nc := 320) (I := I) (J := J) (O := O) hnI hnO l hlT hf) ch_L_174 rfl hl.1 (Nat.le_of_ble_eq_true rfl) ⟨by omega, by omega⟩ ⟨by omega, by omega⟩ dL_law_850 rfl (fun H locs hP hS => ?_)
    refine lv_istore (lv' := [(6, .int (1 : Int32)), (5, .int (Int32.ofNat n)), (4, .ref (g.2.2 + 319)), (3, .ref (g.2.2 + 318)), (2, .ref (g.2.2 + 306)), (1, .ref (g.2.2 + 0)), (0, .ref b)]) hx hb dL_law_853 hl (by decide) rfl (fun ls hl => ?_)
    refine lv_aload_n hx hb dL_law_855 rfl (lv_at hl 4 rfl) ?_
    refine lv_aload_n hx hb dL_law_856 rfl (lv_at hl 6 rfl) ?_
    refine lv_iload hx hb dL_law_857 (lv_at hl 1 rfl) ?_
    refine lv_iconst (v := (1 : Int32)) hx hb dL_law_859 (by decide) ?_
    refine lv_iadd hx hb dL_law_860 ?_
    refine zr_sldc (cn := 1) X hX hbl hbA hS (by omega) (by omega) rfl dL_law_861 ?_
    refine lv_aload_n hx hb dL_law_862 rfl (lv_at hl 6 rfl) ?_
    refine lv_iload hx hb dL_law_863 (lv_at hl 1 rfl) ?_
    refine lv_iconst (v := (2 : Int32)) hx hb dL_law_865 (by decide) ?_
    refine lv_iadd hx hb dL_law_866 ?_
    refine zr_sldc (cn := 2) X hX hbl hbA hS (by omega) (by omega) rfl dL_law_867 ?_
    refine zr_cVi (rest := []) (As := [.int (xs (n + 1)), .int (xs (n + 2))]) X hP hS (ct_X8_why (g := g) (nc := 320) (I := I) (J := J) (O := O) hnJ l hj) cw_L_176 (zr_recv X hP (by omega) (zb_ceJo zk_306 (by decide)) rfl) rfl hl.1 (Nat.le_of_ble_eq_true rfl) ⟨by omega, by omega⟩ ⟨by omega, by omega⟩ dL_law_868 rfl (fun H locs hP hS => ?_)
    refine lv_istore (lv' := [(7, .int rb), (6, .int (1 : Int32)), (5, .int (Int32.ofNat n)), (4, .ref (g.2.2 + 319)), (3, .ref (g.2.2 + 318)), (2, .ref (g.2.2 + 306)), (1, .ref (g.2.2 + 0)), (0, .ref b)]) hx hb dL_law_871 hl (by decide) rfl (fun ls hl => ?_)
    refine lv_aload_n hx hb dL_law_873 rfl (lv_at hl 5 rfl) ?_
    refine zr_cVi (rest := []) (As := []) X hP hS (ct_X8_thrown (g := g) (nc := 320) (I := I) (J := Jq) (O := O) hnJ l rfl) cw_L_132 (zr_recv X hP (by omega) (zb_ceJo zk_306 (by decide)) rfl) rfl hl.1 (Nat.le_of_ble_eq_true rfl) ⟨by omega, by omega⟩ ⟨by omega, by omega⟩ dL_law_874 rfl (fun H locs hP hS => ?_)
    refine lv_iload hx hb dL_law_877 (lv_at hl 1 rfl) ?_
    refine lv_icmp_eq (tgt := 884) hx hb dL_law_879 (by decide) (fun _ => ?_) (fun hc => absurd ht hc)
    refine lv_iload hx hb dL_law_884 (lv_at hl 1 rfl) ?_
    refine lv_if_ne (tgt := 901) hx hb dL_law_886 (by decide) (fun _ => ?_) (fun hc => absurd hc (by decide))
    refine lv_goto (tgt := 2550) hx hb dL_law_901 (by decide) ?_
    exact kk _ _ _ _ _ _ hr9 hP hS (lv_sub hl [2, 3, 4, 5, 6, 7] rfl)

set_option maxHeartbeats 1000000 in
theorem lw_c13 {p : Program} {l : Launch} {e : Env} {R : Room} {s : State} {m : MethodId} {args : Array Value} {below : List Frame} {meth : Method} {c : Code} {H : Heap} {locs : List Loc} {cells slots : Nat} {Q : State → Prop} {g : zb_G} {ls : Array Slot} {b L n : Nat} {xs : Nat → Int32} {Rel : Nat → Mem → Mem → Prop} (hq : eqP_13 Rel) {I J O : Mem} (hRel : Rel n I J) (hlT : l.stackTraces = false) (X : zb_X g p m c cL_law 10 s args RL meth) (hnc : zb_Nc s) (hX : va_X b L xs s s.heap) (hbl : b < s.heap.size) (hbA : ¬ zb_A g b) (hn : n + 6 ≤ L) (hL : L ≤ 3072)
    (hP : va_P g.1 vwCl (zb_ws g 320 (zb_ce g I J O)) H) (hS : va_S (zb_A g) s.heap H locs) (hl : lv_has ls 10 [(5, .int (Int32.ofNat n)), (4, .ref (g.2.2 + 319)), (3, .ref (g.2.2 + 318)), (2, .ref (g.2.2 + 306)), (1, .ref (g.2.2 + 0)), (0, .ref b)]) (h1 : 13 ≤ R.frames) (h2 : 472 ≤ R.locals) (h3 : cells + 1 ≤ R.cells) (h4 : slots + 6 ≤ R.slots)
    (kk : ∀ (I J O : Mem) (H : Heap) (locs : List Loc) (ls : Array Slot), Rel (n + 6) I J → va_P g.1 vwCl (zb_ws g 320 (zb_ce g I J O)) H → va_S (zb_A g) s.heap H locs → lv_has ls 10 [(5, .int (Int32.ofNat n)), (4, .ref (g.2.2 + 319)), (3, .ref (g.2.2 + 318)), (2, .ref (g.2.2 + 306)), (1, .ref (g.2.2 + 0)), (0, .ref b)] → W p l e R s m args below meth c H locs (cells + 1) (slots + 6) Q (F0 m 2550 ls [])) : W p l e R s m args below meth c H locs cells slots Q (F0 m 904 ls []) := by
  have hx := X.1.1
  have hb := X.1.2.1
  have hnI : 306 ≤ 320 := by decide
  have hnJ : 318 ≤ 320 := by decide
  have hnO : 320 ≤ 320 := by decide
  obtain ⟨E, r, rb, Jq, hf, hj, hr9, hd9⟩ := hq n I J (by omega) hRel (xs (n + 1))
  rcases hd9 with ⟨rfl, ht, rfl⟩ | ⟨rfl, ht⟩ | ⟨rfl, ht⟩
  · refine lv_aload_n hx hb dL_law_904 rfl (lv_at hl 4 rfl) ?_
    refine lv_aload_n hx hb dL_law_905 rfl (lv_at hl 5 rfl) ?_
    refine lv_iload hx hb dL_law_906 (lv_at hl 0 rfl) ?_
    refine lv_iconst (v := (1 : Int32)) hx hb dL_law_908 (by decide) ?_
    refine lv_iadd hx hb dL_law_909 ?_
    refine zr_sldc (cn := 1) X hX hbl hbA hS (by omega) (by omega) rfl dL_law_910 ?_
    refine lv_aload_n hx hb dL_law_911 rfl (lv_at hl 2 rfl) ?_
    refine zr_cH (rest := []) (As := [.ref (g.2.2 + 0), .int (xs (n + 1)), .ref (g.2.2 + 318)]) X hP hS hnc (hn_L_tide (g := g) (nc := 320) (I := I) (J := J) (O := O) hnI hnO l hf) ch_L_177 rfl hl.1 (Nat.le_of_ble_eq_true rfl) ⟨by omega, by omega⟩ ⟨by omega, by omega⟩ dL_law_912 rfl (fun H locs hP hS => ?_)
    refine lv_istore (lv' := [(6, .int (0 : Int32)), (5, .int (Int32.ofNat n)), (4, .ref (g.2.2 + 319)), (3, .ref (g.2.2 + 318)), (2, .ref (g.2.2 + 306)), (1, .ref (g.2.2 + 0)), (0, .ref b)]) hx hb dL_law_915 hl (by decide) rfl (fun ls hl => ?_)
    refine lv_aload_n hx hb dL_law_917 rfl (lv_at hl 4 rfl) ?_
    refine lv_aload_n hx hb dL_law_918 rfl (lv_at hl 6 rfl) ?_
    refine lv_iload hx hb dL_law_919 (lv_at hl 1 rfl) ?_
    refine lv_iconst (v := (1 : Int32)) hx hb dL_law_921 (by decide) ?_
    refine lv_iadd hx hb dL_law_922 ?_
    refine zr_sldc (cn := 1) X hX hbl hbA hS (by omega) (by omega) rfl dL_law_923 ?_
    refine zr_cVi (rest := []) (As := [.int (xs (n + 1))]) X hP hS (ct_X8_tide (g := g) (nc := 320) (I := I) (J := J) (O := (wr O 318 0 r)) hnJ l hj) cw_L_179 (zr_recv X hP (by omega) (zb_ceJo zk_306 (by decide)) rfl) rfl hl.1 (Nat.le_of_ble_eq_true rfl) ⟨by omega, by omega⟩ ⟨by omega, by omega⟩ dL_law_924 rfl (fun H locs hP hS => ?_)
    refine lv_istore (lv' := [(7, .int r), (6, .int (0 : Int32)), (5, .int (Int32.ofNat n)), (4, .ref (g.2.2 + 319)), (3, .ref (g.2.2 + 318)), (2, .ref (g.2.2 + 306)), (1, .ref (g.2.2 + 0)), (0, .ref b)]) hx hb dL_law_927 hl (by decide) rfl (fun ls hl => ?_)
    refine lv_aload_n hx hb dL_law_929 rfl (lv_at hl 5 rfl) ?_
    refine zr_cVi (rest := []) (As := []) X hP hS (ct_X8_thrown (g := g) (nc := 320) (I := I) (J := Jq) (O := (wr O 318 0 r)) hnJ l rfl) cw_L_132 (zr_recv X hP (by omega) (zb_ceJo zk_306 (by decide)) rfl) rfl hl.1 (Nat.le_of_ble_eq_true rfl) ⟨by omega, by omega⟩ ⟨by omega, by omega⟩ dL_law_930 rfl (fun H locs hP hS => ?_)
    refine lv_iload hx hb dL_law_933 (lv_at hl 1 rfl) ?_
    refine lv_icmp_eq (tgt := 940) hx hb dL_law_935 (by decide) (fun _ => ?_) (fun hc => absurd ht hc)
    refine lv_iload hx hb dL_law_940 (lv_at hl 1 rfl) ?_
    refine lv_if_ne (tgt := 957) hx hb dL_law_942 (by decide) (fun hc => absurd rfl hc) (fun _ => ?_)
    refine lv_aload_n hx hb dL_law_945 rfl (lv_at hl 4 rfl) ?_
    refine lv_iconst (v := (0 : Int32)) hx hb dL_law_946 (by decide) ?_
    refine zr_lald X hP hnO dL_law_947 ?_
    refine lv_iload hx hb dL_law_948 (lv_at hl 0 rfl) ?_
    refine lv_i2l hx hb dL_law_950 rfl ?_
    refine zr_lcmp0 hx hb dL_law_951 ?_
    refine lv_if_eq (tgt := 957) hx hb dL_law_952 (by decide) (fun _ => ?_) (fun hc => absurd rfl hc)
    refine lv_goto (tgt := 2550) hx hb dL_law_957 (by decide) ?_
    exact W.widen (Nat.le_succ _) (Nat.le_add_right _ 6) (kk _ _ _ _ _ _ hr9 hP hS (lv_sub hl [2, 3, 4, 5, 6, 7] rfl))
  · refine lv_aload_n hx hb dL_law_904 rfl (lv_at hl 4 rfl) ?_
    refine lv_aload_n hx hb dL_law_905 rfl (lv_at hl 5 rfl) ?_
    refine lv_iload hx hb dL_law_906 (lv_at hl 0 rfl) ?_
    refine lv_iconst (v := (1 : Int32)) hx hb dL_law_908 (by decide) ?_
    refine lv_iadd hx hb dL_law_909 ?_
    refine zr_sldc (cn := 1) X hX hbl hbA hS (by omega) (by omega) rfl dL_law_910 ?_
    refine lv_aload_n hx hb dL_law_911 rfl (lv_at hl 2 rfl) ?_
    refine zr_cH (rest := []) (As := [.ref (g.2.2 + 0), .int (xs (n + 1)), .ref (g.2.2 + 318)]) X hP hS hnc (hc1_L_tide (g := g) (nc := 320) (I := I) (J := J) (O := O) hnI hnO l hlT hf) ch_L_177 rfl hl.1 (Nat.le_of_ble_eq_true rfl) ⟨by omega, by omega⟩ ⟨by omega, by omega⟩ dL_law_912 rfl (fun H locs hP hS => ?_)
    refine lv_istore (lv' := [(6, .int (1 : Int32)), (5, .int (Int32.ofNat n)), (4, .ref (g.2.2 + 319)), (3, .ref (g.2.2 + 318)), (2, .ref (g.2.2 + 306)), (1, .ref (g.2.2 + 0)), (0, .ref b)]) hx hb dL_law_915 hl (by decide) rfl (fun ls hl => ?_)
    refine lv_aload_n hx hb dL_law_917 rfl (lv_at hl 4 rfl) ?_
    refine lv_aload_n hx hb dL_law_918 rfl (lv_at hl 6 rfl) ?_
    refine lv_iload hx hb dL_law_919 (lv_at hl 1 rfl) ?_
    refine lv_iconst (v := (1 : Int32)) hx hb dL_law_921 (by decide) ?_
    refine lv_iadd hx hb dL_law_922 ?_
    refine zr_sldc (cn := 1) X hX hbl hbA hS (by omega) (by omega) rfl dL_law_923 ?_
    refine zr_cVi (rest := []) (As := [.int (xs (n + 1))]) X hP hS (ct_X8_tide (g := g) (nc := 320) (I := I) (J := J) (O := O) hnJ l hj) cw_L_179 (zr_recv X hP (by omega) (zb_ceJo zk_306 (by decide)) rfl) rfl hl.1 (Nat.le_of_ble_eq_true rfl) ⟨by omega, by omega⟩ ⟨by omega, by omega⟩ dL_law_924 rfl (fun H locs hP hS => ?_)
    refine lv_istore (lv' := [(7, .int rb), (6, .int (1 : Int32)), (5, .int (Int32.ofNat n)), (4, .ref (g.2.2 + 319)), (3, .ref (g.2.2 + 318)), (2, .ref (g.2.2 + 306)), (1, .ref (g.2.2 + 0)), (0, .ref b)]) hx hb dL_law_927 hl (by decide) rfl (fun ls hl => ?_)
    refine lv_aload_n hx hb dL_law_929 rfl (lv_at hl 5 rfl) ?_
    refine zr_cVi (rest := []) (As := []) X hP hS (ct_X8_thrown (g := g) (nc := 320) (I := I) (J := Jq) (O := O) hnJ l rfl) cw_L_132 (zr_recv X hP (by omega) (zb_ceJo zk_306 (by decide)) rfl) rfl hl.1 (Nat.le_of_ble_eq_true rfl) ⟨by omega, by omega⟩ ⟨by omega, by omega⟩ dL_law_930 rfl (fun H locs hP hS => ?_)
    refine lv_iload hx hb dL_law_933 (lv_at hl 1 rfl) ?_
    refine lv_icmp_eq (tgt := 940) hx hb dL_law_935 (by decide) (fun _ => ?_) (fun hc => absurd ht hc)
    refine lv_iload hx hb dL_law_940 (lv_at hl 1 rfl) ?_
    refine lv_if_ne (tgt := 957) hx hb dL_law_942 (by decide) (fun _ => ?_) (fun hc => absurd hc (by decide))
    refine lv_goto (tgt := 2550) hx hb dL_law_957 (by decide) ?_
    exact kk _ _ _ _ _ _ hr9 hP hS (lv_sub hl [2, 3, 4, 5, 6, 7] rfl)
  · refine lv_aload_n hx hb dL_law_904 rfl (lv_at hl 4 rfl) ?_
    refine lv_aload_n hx hb dL_law_905 rfl (lv_at hl 5 rfl) ?_
    refine lv_iload hx hb dL_law_906 (lv_at hl 0 rfl) ?_
    refine lv_iconst (v := (1 : Int32)) hx hb dL_law_908 (by decide) ?_
    refine lv_iadd hx hb dL_law_909 ?_
    refine zr_sldc (cn := 1) X hX hbl hbA hS (by omega) (by omega) rfl dL_law_910 ?_
    refine lv_aload_n hx hb dL_law_911 rfl (lv_at hl 2 rfl) ?_
    refine zr_cH (rest := []) (As := [.ref (g.2.2 + 0), .int (xs (n + 1)), .ref (g.2.2 + 318)]) X hP hS hnc (hc2_L_tide (g := g) (nc := 320) (I := I) (J := J) (O := O) hnI hnO l hlT hf) ch_L_177 rfl hl.1 (Nat.le_of_ble_eq_true rfl) ⟨by omega, by omega⟩ ⟨by omega, by omega⟩ dL_law_912 rfl (fun H locs hP hS => ?_)
    refine lv_istore (lv' := [(6, .int (2 : Int32)), (5, .int (Int32.ofNat n)), (4, .ref (g.2.2 + 319)), (3, .ref (g.2.2 + 318)), (2, .ref (g.2.2 + 306)), (1, .ref (g.2.2 + 0)), (0, .ref b)]) hx hb dL_law_915 hl (by decide) rfl (fun ls hl => ?_)
    refine lv_aload_n hx hb dL_law_917 rfl (lv_at hl 4 rfl) ?_
    refine lv_aload_n hx hb dL_law_918 rfl (lv_at hl 6 rfl) ?_
    refine lv_iload hx hb dL_law_919 (lv_at hl 1 rfl) ?_
    refine lv_iconst (v := (1 : Int32)) hx hb dL_law_921 (by decide) ?_
    refine lv_iadd hx hb dL_law_922 ?_
    refine zr_sldc (cn := 1) X hX hbl hbA hS (by omega) (by omega) rfl dL_law_923 ?_
    refine zr_cVi (rest := []) (As := [.int (xs (n + 1))]) X hP hS (ct_X8_tide (g := g) (nc := 320) (I := I) (J := J) (O := O) hnJ l hj) cw_L_179 (zr_recv X hP (by omega) (zb_ceJo zk_306 (by decide)) rfl) rfl hl.1 (Nat.le_of_ble_eq_true rfl) ⟨by omega, by omega⟩ ⟨by omega, by omega⟩ dL_law_924 rfl (fun H locs hP hS => ?_)
    refine lv_istore (lv' := [(7, .int rb), (6, .int (2 : Int32)), (5, .int (Int32.ofNat n)), (4, .ref (g.2.2 + 319)), (3, .ref (g.2.2 + 318)), (2, .ref (g.2.2 + 306)), (1, .ref (g.2.2 + 0)), (0, .ref b)]) hx hb dL_law_927 hl (by decide) rfl (fun ls hl => ?_)
    refine lv_aload_n hx hb dL_law_929 rfl (lv_at hl 5 rfl) ?_
    refine zr_cVi (rest := []) (As := []) X hP hS (ct_X8_thrown (g := g) (nc := 320) (I := I) (J := Jq) (O := O) hnJ l rfl) cw_L_132 (zr_recv X hP (by omega) (zb_ceJo zk_306 (by decide)) rfl) rfl hl.1 (Nat.le_of_ble_eq_true rfl) ⟨by omega, by omega⟩ ⟨by omega, by omega⟩ dL_law_930 rfl (fun H locs hP hS => ?_)
    refine lv_iload hx hb dL_law_933 (lv_at hl 1 rfl) ?_
    refine lv_icmp_eq (tgt := 940) hx hb dL_law_935 (by decide) (fun _ => ?_) (fun hc => absurd ht hc)
    refine lv_iload hx hb dL_law_940 (lv_at hl 1 rfl) ?_
    refine lv_if_ne (tgt := 957) hx hb dL_law_942 (by decide) (fun _ => ?_) (fun hc => absurd hc (by decide))
    refine lv_goto (tgt := 2550) hx hb dL_law_957 (by decide) ?_
    exact kk _ _ _ _ _ _ hr9 hP hS (lv_sub hl [2, 3, 4, 5, 6, 7] rfl)

set_option maxHeartbeats 1000000 in
theorem lw_c14 {p : Program} {l : Launch} {e : Env} {R : Room} {s : State} {m : MethodId} {args : Array Value} {below : List Frame} {meth : Method} {c : Code} {H : Heap} {locs : List Loc} {cells slots : Nat} {Q : State → Prop} {g : zb_G} {ls : Array Slot} {b L n : Nat} {xs : Nat → Int32} {Rel : Nat → Mem → Mem → Prop} (hq : eqP_14 Rel) {I J O : Mem} (hRel : Rel n I J) (hlT : l.stackTraces = false) (X : zb_X g p m c cL_law 10 s args RL meth) (hnc : zb_Nc s) (hX : va_X b L xs s s.heap) (hbl : b < s.heap.size) (hbA : ¬ zb_A g b) (hn : n + 6 ≤ L) (hL : L ≤ 3072)
    (hP : va_P g.1 vwCl (zb_ws g 320 (zb_ce g I J O)) H) (hS : va_S (zb_A g) s.heap H locs) (hl : lv_has ls 10 [(5, .int (Int32.ofNat n)), (4, .ref (g.2.2 + 319)), (3, .ref (g.2.2 + 318)), (2, .ref (g.2.2 + 306)), (1, .ref (g.2.2 + 0)), (0, .ref b)]) (h1 : 13 ≤ R.frames) (h2 : 472 ≤ R.locals) (h3 : cells + 1 ≤ R.cells) (h4 : slots + 6 ≤ R.slots)
    (kk : ∀ (I J O : Mem) (H : Heap) (locs : List Loc) (ls : Array Slot), Rel (n + 6) I J → va_P g.1 vwCl (zb_ws g 320 (zb_ce g I J O)) H → va_S (zb_A g) s.heap H locs → lv_has ls 10 [(5, .int (Int32.ofNat n)), (4, .ref (g.2.2 + 319)), (3, .ref (g.2.2 + 318)), (2, .ref (g.2.2 + 306)), (1, .ref (g.2.2 + 0)), (0, .ref b)] → W p l e R s m args below meth c H locs (cells + 1) (slots + 6) Q (F0 m 2550 ls [])) : W p l e R s m args below meth c H locs cells slots Q (F0 m 960 ls []) := by
  have hx := X.1.1
  have hb := X.1.2.1
  have hnI : 306 ≤ 320 := by decide
  have hnJ : 318 ≤ 320 := by decide
  have hnO : 320 ≤ 320 := by decide
  rcases Classical.em (xs (n + 1) = 0) with hz | hz
  · obtain ⟨r, Jq, hf, hj, hr9⟩ := hq n I J (by omega) hRel 0 (Or.inl rfl)
    refine lv_aload_n hx hb dL_law_960 rfl (lv_at hl 4 rfl) ?_
    refine lv_aload_n hx hb dL_law_961 rfl (lv_at hl 5 rfl) ?_
    refine lv_iload hx hb dL_law_962 (lv_at hl 0 rfl) ?_
    refine lv_iconst (v := (1 : Int32)) hx hb dL_law_964 (by decide) ?_
    refine lv_iadd hx hb dL_law_965 ?_
    refine zr_sldc (cn := 1) X hX hbl hbA hS (by omega) (by omega) rfl dL_law_966 ?_
    refine lv_if_eq (tgt := 974) hx hb dL_law_967 (by decide) (fun _ => ?_) (fun hc => absurd hz hc)
    refine lv_iconst (v := (0 : Int32)) hx hb dL_law_974 (by decide) ?_
    refine zr_cVi (rest := []) (As := [.int (0 : Int32)]) X hP hS (ct_X7_extreme (g := g) (nc := 320) (I := I) (J := J) (O := O) hnI l hf) cw_L_180 (zr_recv X hP (by omega) (zb_ceIo zk_0 (by decide)) rfl) rfl hl.1 (Nat.le_of_ble_eq_true rfl) ⟨by omega, by omega⟩ ⟨by omega, by omega⟩ dL_law_975 rfl (fun H locs hP hS => ?_)
    refine lv_aload_n hx hb dL_law_978 rfl (lv_at hl 3 rfl) ?_
    refine lv_aload_n hx hb dL_law_979 rfl (lv_at hl 5 rfl) ?_
    refine lv_iload hx hb dL_law_980 (lv_at hl 0 rfl) ?_
    refine lv_iconst (v := (1 : Int32)) hx hb dL_law_982 (by decide) ?_
    refine lv_iadd hx hb dL_law_983 ?_
    refine zr_sldc (cn := 1) X hX hbl hbA hS (by omega) (by omega) rfl dL_law_984 ?_
    refine lv_if_eq (tgt := 992) hx hb dL_law_985 (by decide) (fun _ => ?_) (fun hc => absurd hz hc)
    refine lv_iconst (v := (0 : Int32)) hx hb dL_law_992 (by decide) ?_
    refine zr_cVi (rest := [.int r]) (As := [.int (0 : Int32)]) X hP hS (ct_X8_extreme (g := g) (nc := 320) (I := I) (J := J) (O := O) hnJ l hj) cw_L_184 (zr_recv X hP (by omega) (zb_ceJo zk_306 (by decide)) rfl) rfl hl.1 (Nat.le_of_ble_eq_true rfl) ⟨by omega, by omega⟩ ⟨by omega, by omega⟩ dL_law_993 rfl (fun H locs hP hS => ?_)
    refine lv_icmp_eq (tgt := 2550) hx hb dL_law_996 (by decide) (fun _ => ?_) (fun hc => absurd rfl hc)
    exact W.widen (Nat.le_succ _) (Nat.le_add_right _ 6) (kk _ _ _ _ _ _ hr9 hP hS (lv_sub hl [0, 1, 2, 3, 4, 5] rfl))
  · obtain ⟨r, Jq, hf, hj, hr9⟩ := hq n I J (by omega) hRel 1 (Or.inr rfl)
    refine lv_aload_n hx hb dL_law_960 rfl (lv_at hl 4 rfl) ?_
    refine lv_aload_n hx hb dL_law_961 rfl (lv_at hl 5 rfl) ?_
    refine lv_iload hx hb dL_law_962 (lv_at hl 0 rfl) ?_
    refine lv_iconst (v := (1 : Int32)) hx hb dL_law_964 (by decide) ?_
    refine lv_iadd hx hb dL_law_965 ?_
    refine zr_sldc (cn := 1) X hX hbl hbA hS (by omega) (by omega) rfl dL_law_966 ?_
    refine lv_if_eq (tgt := 974) hx hb dL_law_967 (by decide) (fun hc => absurd hc hz) (fun _ => ?_)
    refine lv_iconst (v := (1 : Int32)) hx hb dL_law_970 (by decide) ?_
    refine lv_goto (tgt := 975) hx hb dL_law_971 (by decide) ?_
    refine zr_cVi (rest := []) (As := [.int (1 : Int32)]) X hP hS (ct_X7_extreme (g := g) (nc := 320) (I := I) (J := J) (O := O) hnI l hf) cw_L_180 (zr_recv X hP (by omega) (zb_ceIo zk_0 (by decide)) rfl) rfl hl.1 (Nat.le_of_ble_eq_true rfl) ⟨by omega, by omega⟩ ⟨by omega, by omega⟩ dL_law_975 rfl (fun H locs hP hS => ?_)
    refine lv_aload_n hx hb dL_law_978 rfl (lv_at hl 3 rfl) ?_
    refine lv_aload_n hx hb dL_law_979 rfl (lv_at hl 5 rfl) ?_
    refine lv_iload hx hb dL_law_980 (lv_at hl 0 rfl) ?_
    refine lv_iconst (v := (1 : Int32)) hx hb dL_law_982 (by decide) ?_
    refine lv_iadd hx hb dL_law_983 ?_
    refine zr_sldc (cn := 1) X hX hbl hbA hS (by omega) (by omega) rfl dL_law_984 ?_
    refine lv_if_eq (tgt := 992) hx hb dL_law_985 (by decide) (fun hc => absurd hc hz) (fun _ => ?_)
    refine lv_iconst (v := (1 : Int32)) hx hb dL_law_988 (by decide) ?_
    refine lv_goto (tgt := 993) hx hb dL_law_989 (by decide) ?_
    refine zr_cVi (rest := [.int r]) (As := [.int (1 : Int32)]) X hP hS (ct_X8_extreme (g := g) (nc := 320) (I := I) (J := J) (O := O) hnJ l hj) cw_L_184 (zr_recv X hP (by omega) (zb_ceJo zk_306 (by decide)) rfl) rfl hl.1 (Nat.le_of_ble_eq_true rfl) ⟨by omega, by omega⟩ ⟨by omega, by omega⟩ dL_law_993 rfl (fun H locs hP hS => ?_)
    refine lv_icmp_eq (tgt := 2550) hx hb dL_law_996 (by decide) (fun _ => ?_) (fun hc => absurd rfl hc)
    exact W.widen (Nat.le_succ _) (Nat.le_add_right _ 6) (kk _ _ _ _ _ _ hr9 hP hS (lv_sub hl [0, 1, 2, 3, 4, 5] rfl))

set_option maxHeartbeats 1000000 in
theorem lw_c15 {p : Program} {l : Launch} {e : Env} {R : Room} {s : State} {m : MethodId} {args : Array Value} {below : List Frame} {meth : Method} {c : Code} {H : Heap} {locs : List Loc} {cells slots : Nat} {Q : State → Prop} {g : zb_G} {ls : Array Slot} {b L n : Nat} {xs : Nat → Int32} {Rel : Nat → Mem → Mem → Prop} (hq : eqP_15 Rel) {I J O : Mem} (hRel : Rel n I J) (hlT : l.stackTraces = false) (X : zb_X g p m c cL_law 10 s args RL meth) (hnc : zb_Nc s) (hX : va_X b L xs s s.heap) (hbl : b < s.heap.size) (hbA : ¬ zb_A g b) (hn : n + 6 ≤ L) (hL : L ≤ 3072)
    (hP : va_P g.1 vwCl (zb_ws g 320 (zb_ce g I J O)) H) (hS : va_S (zb_A g) s.heap H locs) (hl : lv_has ls 10 [(5, .int (Int32.ofNat n)), (4, .ref (g.2.2 + 319)), (3, .ref (g.2.2 + 318)), (2, .ref (g.2.2 + 306)), (1, .ref (g.2.2 + 0)), (0, .ref b)]) (h1 : 13 ≤ R.frames) (h2 : 472 ≤ R.locals) (h3 : cells + 1 ≤ R.cells) (h4 : slots + 6 ≤ R.slots)
    (kk : ∀ (I J O : Mem) (H : Heap) (locs : List Loc) (ls : Array Slot), Rel (n + 6) I J → va_P g.1 vwCl (zb_ws g 320 (zb_ce g I J O)) H → va_S (zb_A g) s.heap H locs → lv_has ls 10 [(5, .int (Int32.ofNat n)), (4, .ref (g.2.2 + 319)), (3, .ref (g.2.2 + 318)), (2, .ref (g.2.2 + 306)), (1, .ref (g.2.2 + 0)), (0, .ref b)] → W p l e R s m args below meth c H locs (cells + 1) (slots + 6) Q (F0 m 2550 ls [])) : W p l e R s m args below meth c H locs cells slots Q (F0 m 1001 ls []) := by
  have hx := X.1.1
  have hb := X.1.2.1
  have hnI : 306 ≤ 320 := by decide
  have hnJ : 318 ≤ 320 := by decide
  have hnO : 320 ≤ 320 := by decide
  obtain ⟨r, Jq, hf, hj, hr9⟩ := hq n I J (by omega) hRel ()
  rcases Classical.em (Op.cmpValue (FP.dcmp r r) .l = 0) with hd | hd
  · refine lv_aload_n hx hb dL_law_1001 rfl (lv_at hl 4 rfl) ?_
    refine zr_cVd (rest := []) (As := []) X hP hS (ct_X7_meanLevel (g := g) (nc := 320) (I := I) (J := J) (O := O) hnI l hf) cw_L_185 (zr_recv X hP (by omega) (zb_ceIo zk_0 (by decide)) rfl) rfl hl.1 (Nat.le_of_ble_eq_true rfl) ⟨by omega, by omega⟩ ⟨by omega, by omega⟩ dL_law_1002 rfl (fun H locs hP hS => ?_)
    refine lv_dstore (lv' := [(6, .double r), (5, .int (Int32.ofNat n)), (4, .ref (g.2.2 + 319)), (3, .ref (g.2.2 + 318)), (2, .ref (g.2.2 + 306)), (1, .ref (g.2.2 + 0)), (0, .ref b)]) hx hb dL_law_1005 hl (by decide) rfl (fun ls hl => ?_)
    refine lv_aload_n hx hb dL_law_1007 rfl (lv_at hl 4 rfl) ?_
    refine zr_cVd (rest := []) (As := []) X hP hS (ct_X8_meanLevel (g := g) (nc := 320) (I := I) (J := J) (O := O) hnJ l hj) cw_L_189 (zr_recv X hP (by omega) (zb_ceJo zk_306 (by decide)) rfl) rfl hl.1 (Nat.le_of_ble_eq_true rfl) ⟨by omega, by omega⟩ ⟨by omega, by omega⟩ dL_law_1008 rfl (fun H locs hP hS => ?_)
    refine lv_dstore (lv' := [(8, .double r), (6, .double r), (5, .int (Int32.ofNat n)), (4, .ref (g.2.2 + 319)), (3, .ref (g.2.2 + 318)), (2, .ref (g.2.2 + 306)), (1, .ref (g.2.2 + 0)), (0, .ref b)]) hx hb dL_law_1011 hl (by decide) rfl (fun ls hl => ?_)
    refine lv_dload hx hb dL_law_1013 (lv_at hl 1 rfl) ?_
    refine lv_dload hx hb dL_law_1015 (lv_at hl 0 rfl) ?_
    refine lv_dcmp hx hb dL_law_1017 ?_
    refine lv_if_eq (tgt := 1039) hx hb dL_law_1018 (by decide) (fun _ => ?_) (fun hc => absurd hd hc)
    refine lv_goto (tgt := 2550) hx hb dL_law_1039 (by decide) ?_
    exact W.widen (Nat.le_succ _) (Nat.le_add_right _ 6) (kk _ _ _ _ _ _ hr9 hP hS (lv_sub hl [2, 3, 4, 5, 6, 7] rfl))
  · refine lv_aload_n hx hb dL_law_1001 rfl (lv_at hl 4 rfl) ?_
    refine zr_cVd (rest := []) (As := []) X hP hS (ct_X7_meanLevel (g := g) (nc := 320) (I := I) (J := J) (O := O) hnI l hf) cw_L_185 (zr_recv X hP (by omega) (zb_ceIo zk_0 (by decide)) rfl) rfl hl.1 (Nat.le_of_ble_eq_true rfl) ⟨by omega, by omega⟩ ⟨by omega, by omega⟩ dL_law_1002 rfl (fun H locs hP hS => ?_)
    refine lv_dstore (lv' := [(6, .double r), (5, .int (Int32.ofNat n)), (4, .ref (g.2.2 + 319)), (3, .ref (g.2.2 + 318)), (2, .ref (g.2.2 + 306)), (1, .ref (g.2.2 + 0)), (0, .ref b)]) hx hb dL_law_1005 hl (by decide) rfl (fun ls hl => ?_)
    refine lv_aload_n hx hb dL_law_1007 rfl (lv_at hl 4 rfl) ?_
    refine zr_cVd (rest := []) (As := []) X hP hS (ct_X8_meanLevel (g := g) (nc := 320) (I := I) (J := J) (O := O) hnJ l hj) cw_L_189 (zr_recv X hP (by omega) (zb_ceJo zk_306 (by decide)) rfl) rfl hl.1 (Nat.le_of_ble_eq_true rfl) ⟨by omega, by omega⟩ ⟨by omega, by omega⟩ dL_law_1008 rfl (fun H locs hP hS => ?_)
    refine lv_dstore (lv' := [(8, .double r), (6, .double r), (5, .int (Int32.ofNat n)), (4, .ref (g.2.2 + 319)), (3, .ref (g.2.2 + 318)), (2, .ref (g.2.2 + 306)), (1, .ref (g.2.2 + 0)), (0, .ref b)]) hx hb dL_law_1011 hl (by decide) rfl (fun ls hl => ?_)
    refine lv_dload hx hb dL_law_1013 (lv_at hl 1 rfl) ?_
    refine lv_dload hx hb dL_law_1015 (lv_at hl 0 rfl) ?_
    refine lv_dcmp hx hb dL_law_1017 ?_
    refine lv_if_eq (tgt := 1039) hx hb dL_law_1018 (by decide) (fun hc => absurd hc hd) (fun _ => ?_)
    refine lv_dload hx hb dL_law_1021 (lv_at hl 1 rfl) ?_
    refine lv_dload hx hb dL_law_1023 (lv_at hl 1 rfl) ?_
    refine lv_dcmp hx hb dL_law_1025 ?_
    refine lv_if_eq (tgt := 1037) hx hb dL_law_1026 (by decide) (fun hc => absurd hc hd) (fun _ => ?_)
    refine lv_dload hx hb dL_law_1029 (lv_at hl 0 rfl) ?_
    refine lv_dload hx hb dL_law_1031 (lv_at hl 0 rfl) ?_
    refine lv_dcmp hx hb dL_law_1033 ?_
    refine lv_if_ne (tgt := 1039) hx hb dL_law_1034 (by decide) (fun _ => ?_) (fun hc => absurd hc hd)
    refine lv_goto (tgt := 2550) hx hb dL_law_1039 (by decide) ?_
    exact W.widen (Nat.le_succ _) (Nat.le_add_right _ 6) (kk _ _ _ _ _ _ hr9 hP hS (lv_sub hl [2, 3, 4, 5, 6, 7] rfl))

set_option maxHeartbeats 1000000 in
theorem lw_c16 {p : Program} {l : Launch} {e : Env} {R : Room} {s : State} {m : MethodId} {args : Array Value} {below : List Frame} {meth : Method} {c : Code} {H : Heap} {locs : List Loc} {cells slots : Nat} {Q : State → Prop} {g : zb_G} {ls : Array Slot} {b L n : Nat} {xs : Nat → Int32} {Rel : Nat → Mem → Mem → Prop} (hq : eqP_16 Rel) {I J O : Mem} (hRel : Rel n I J) (hlT : l.stackTraces = false) (X : zb_X g p m c cL_law 10 s args RL meth) (hnc : zb_Nc s) (hX : va_X b L xs s s.heap) (hbl : b < s.heap.size) (hbA : ¬ zb_A g b) (hn : n + 6 ≤ L) (hL : L ≤ 3072)
    (hP : va_P g.1 vwCl (zb_ws g 320 (zb_ce g I J O)) H) (hS : va_S (zb_A g) s.heap H locs) (hl : lv_has ls 10 [(5, .int (Int32.ofNat n)), (4, .ref (g.2.2 + 319)), (3, .ref (g.2.2 + 318)), (2, .ref (g.2.2 + 306)), (1, .ref (g.2.2 + 0)), (0, .ref b)]) (h1 : 13 ≤ R.frames) (h2 : 472 ≤ R.locals) (h3 : cells + 1 ≤ R.cells) (h4 : slots + 6 ≤ R.slots)
    (kk : ∀ (I J O : Mem) (H : Heap) (locs : List Loc) (ls : Array Slot), Rel (n + 6) I J → va_P g.1 vwCl (zb_ws g 320 (zb_ce g I J O)) H → va_S (zb_A g) s.heap H locs → lv_has ls 10 [(5, .int (Int32.ofNat n)), (4, .ref (g.2.2 + 319)), (3, .ref (g.2.2 + 318)), (2, .ref (g.2.2 + 306)), (1, .ref (g.2.2 + 0)), (0, .ref b)] → W p l e R s m args below meth c H locs (cells + 1) (slots + 6) Q (F0 m 2550 ls [])) : W p l e R s m args below meth c H locs cells slots Q (F0 m 1042 ls []) := by
  have hx := X.1.1
  have hb := X.1.2.1
  have hnI : 306 ≤ 320 := by decide
  have hnJ : 318 ≤ 320 := by decide
  have hnO : 320 ≤ 320 := by decide
  obtain ⟨E, r, rb, Jq, hf, hj, hr9, hd9⟩ := hq n I J (by omega) hRel (xs (n + 1))
  rcases hd9 with ⟨rfl, ht, rfl, hq9⟩ | ⟨rfl, ht⟩
  · refine lv_aload_n hx hb dL_law_1042 rfl (lv_at hl 4 rfl) ?_
    refine lv_aload_n hx hb dL_law_1043 rfl (lv_at hl 5 rfl) ?_
    refine lv_iload hx hb dL_law_1044 (lv_at hl 0 rfl) ?_
    refine lv_iconst (v := (1 : Int32)) hx hb dL_law_1046 (by decide) ?_
    refine lv_iadd hx hb dL_law_1047 ?_
    refine zr_sldc (cn := 1) X hX hbl hbA hS (by omega) (by omega) rfl dL_law_1048 ?_
    refine lv_aload hx hb dL_law_1049 (lv_at hl 1 rfl) ?_
    refine zr_cH (rest := []) (As := [.ref (g.2.2 + 0), .int (xs (n + 1)), .ref (g.2.2 + 319)]) X hP hS hnc (hn_L_agreement (g := g) (nc := 320) (I := I) (J := J) (O := O) hnI hnO l hq9 hf) ch_L_190 rfl hl.1 (Nat.le_of_ble_eq_true rfl) ⟨by omega, by omega⟩ ⟨by omega, by omega⟩ dL_law_1051 rfl (fun H locs hP hS => ?_)
    refine lv_istore (lv' := [(6, .int (0 : Int32)), (5, .int (Int32.ofNat n)), (4, .ref (g.2.2 + 319)), (3, .ref (g.2.2 + 318)), (2, .ref (g.2.2 + 306)), (1, .ref (g.2.2 + 0)), (0, .ref b)]) hx hb dL_law_1054 hl (by decide) rfl (fun ls hl => ?_)
    refine lv_aload_n hx hb dL_law_1056 rfl (lv_at hl 4 rfl) ?_
    refine lv_aload_n hx hb dL_law_1057 rfl (lv_at hl 6 rfl) ?_
    refine lv_iload hx hb dL_law_1058 (lv_at hl 1 rfl) ?_
    refine lv_iconst (v := (1 : Int32)) hx hb dL_law_1060 (by decide) ?_
    refine lv_iadd hx hb dL_law_1061 ?_
    refine zr_sldc (cn := 1) X hX hbl hbA hS (by omega) (by omega) rfl dL_law_1062 ?_
    refine zr_cVf (rest := []) (As := [.int (xs (n + 1))]) X hP hS (ct_X8_agreement (g := g) (nc := 320) (I := I) (J := J) (O := (wr O 319 0 r.toInt32)) hnJ l hj) cw_L_193 (zr_recv X hP (by omega) (zb_ceJo zk_306 (by decide)) rfl) rfl hl.1 (Nat.le_of_ble_eq_true rfl) ⟨by omega, by omega⟩ ⟨by omega, by omega⟩ dL_law_1063 rfl (fun H locs hP hS => ?_)
    refine lv_fstore (lv' := [(7, .float r), (6, .int (0 : Int32)), (5, .int (Int32.ofNat n)), (4, .ref (g.2.2 + 319)), (3, .ref (g.2.2 + 318)), (2, .ref (g.2.2 + 306)), (1, .ref (g.2.2 + 0)), (0, .ref b)]) hx hb dL_law_1066 hl (by decide) rfl (fun ls hl => ?_)
    refine lv_aload_n hx hb dL_law_1068 rfl (lv_at hl 5 rfl) ?_
    refine zr_cVi (rest := []) (As := []) X hP hS (ct_X8_thrown (g := g) (nc := 320) (I := I) (J := Jq) (O := (wr O 319 0 r.toInt32)) hnJ l rfl) cw_L_132 (zr_recv X hP (by omega) (zb_ceJo zk_306 (by decide)) rfl) rfl hl.1 (Nat.le_of_ble_eq_true rfl) ⟨by omega, by omega⟩ ⟨by omega, by omega⟩ dL_law_1069 rfl (fun H locs hP hS => ?_)
    refine lv_iload hx hb dL_law_1072 (lv_at hl 1 rfl) ?_
    refine lv_icmp_eq (tgt := 1079) hx hb dL_law_1074 (by decide) (fun _ => ?_) (fun hc => absurd ht hc)
    refine lv_iload hx hb dL_law_1079 (lv_at hl 1 rfl) ?_
    refine lv_if_ne (tgt := 1117) hx hb dL_law_1081 (by decide) (fun hc => absurd rfl hc) (fun _ => ?_)
    refine lv_aload hx hb dL_law_1084 (lv_at hl 3 rfl) ?_
    refine lv_iconst (v := (0 : Int32)) hx hb dL_law_1086 (by decide) ?_
    refine zr_dald X hP hnO dL_law_1087 ?_
    refine lv_fload hx hb dL_law_1088 (lv_at hl 0 rfl) ?_
    refine lv_f2d hx hb dL_law_1090 hq9 ?_
    refine lv_dcmp hx hb dL_law_1091 ?_
    rw [dcmp_self hq9]
    refine lv_if_eq (tgt := 1117) hx hb dL_law_1092 (by decide) (fun _ => ?_) (fun hc => absurd rfl hc)
    refine lv_goto (tgt := 2550) hx hb dL_law_1117 (by decide) ?_
    exact W.widen (Nat.le_succ _) (Nat.le_add_right _ 6) (kk _ _ _ _ _ _ hr9 hP hS (lv_sub hl [2, 3, 4, 5, 6, 7] rfl))
  · refine lv_aload_n hx hb dL_law_1042 rfl (lv_at hl 4 rfl) ?_
    refine lv_aload_n hx hb dL_law_1043 rfl (lv_at hl 5 rfl) ?_
    refine lv_iload hx hb dL_law_1044 (lv_at hl 0 rfl) ?_
    refine lv_iconst (v := (1 : Int32)) hx hb dL_law_1046 (by decide) ?_
    refine lv_iadd hx hb dL_law_1047 ?_
    refine zr_sldc (cn := 1) X hX hbl hbA hS (by omega) (by omega) rfl dL_law_1048 ?_
    refine lv_aload hx hb dL_law_1049 (lv_at hl 1 rfl) ?_
    refine zr_cH (rest := []) (As := [.ref (g.2.2 + 0), .int (xs (n + 1)), .ref (g.2.2 + 319)]) X hP hS hnc (hc1_L_agreement (g := g) (nc := 320) (I := I) (J := J) (O := O) hnI hnO l hlT hf) ch_L_190 rfl hl.1 (Nat.le_of_ble_eq_true rfl) ⟨by omega, by omega⟩ ⟨by omega, by omega⟩ dL_law_1051 rfl (fun H locs hP hS => ?_)
    refine lv_istore (lv' := [(6, .int (1 : Int32)), (5, .int (Int32.ofNat n)), (4, .ref (g.2.2 + 319)), (3, .ref (g.2.2 + 318)), (2, .ref (g.2.2 + 306)), (1, .ref (g.2.2 + 0)), (0, .ref b)]) hx hb dL_law_1054 hl (by decide) rfl (fun ls hl => ?_)
    refine lv_aload_n hx hb dL_law_1056 rfl (lv_at hl 4 rfl) ?_
    refine lv_aload_n hx hb dL_law_1057 rfl (lv_at hl 6 rfl) ?_
    refine lv_iload hx hb dL_law_1058 (lv_at hl 1 rfl) ?_
    refine lv_iconst (v := (1 : Int32)) hx hb dL_law_1060 (by decide) ?_
    refine lv_iadd hx hb dL_law_1061 ?_
    refine zr_sldc (cn := 1) X hX hbl hbA hS (by omega) (by omega) rfl dL_law_1062 ?_
    refine zr_cVf (rest := []) (As := [.int (xs (n + 1))]) X hP hS (ct_X8_agreement (g := g) (nc := 320) (I := I) (J := J) (O := O) hnJ l hj) cw_L_193 (zr_recv X hP (by omega) (zb_ceJo zk_306 (by decide)) rfl) rfl hl.1 (Nat.le_of_ble_eq_true rfl) ⟨by omega, by omega⟩ ⟨by omega, by omega⟩ dL_law_1063 rfl (fun H locs hP hS => ?_)
    refine lv_fstore (lv' := [(7, .float rb), (6, .int (1 : Int32)), (5, .int (Int32.ofNat n)), (4, .ref (g.2.2 + 319)), (3, .ref (g.2.2 + 318)), (2, .ref (g.2.2 + 306)), (1, .ref (g.2.2 + 0)), (0, .ref b)]) hx hb dL_law_1066 hl (by decide) rfl (fun ls hl => ?_)
    refine lv_aload_n hx hb dL_law_1068 rfl (lv_at hl 5 rfl) ?_
    refine zr_cVi (rest := []) (As := []) X hP hS (ct_X8_thrown (g := g) (nc := 320) (I := I) (J := Jq) (O := O) hnJ l rfl) cw_L_132 (zr_recv X hP (by omega) (zb_ceJo zk_306 (by decide)) rfl) rfl hl.1 (Nat.le_of_ble_eq_true rfl) ⟨by omega, by omega⟩ ⟨by omega, by omega⟩ dL_law_1069 rfl (fun H locs hP hS => ?_)
    refine lv_iload hx hb dL_law_1072 (lv_at hl 1 rfl) ?_
    refine lv_icmp_eq (tgt := 1079) hx hb dL_law_1074 (by decide) (fun _ => ?_) (fun hc => absurd ht hc)
    refine lv_iload hx hb dL_law_1079 (lv_at hl 1 rfl) ?_
    refine lv_if_ne (tgt := 1117) hx hb dL_law_1081 (by decide) (fun _ => ?_) (fun hc => absurd hc (by decide))
    refine lv_goto (tgt := 2550) hx hb dL_law_1117 (by decide) ?_
    exact kk _ _ _ _ _ _ hr9 hP hS (lv_sub hl [2, 3, 4, 5, 6, 7] rfl)

set_option maxHeartbeats 1000000 in
theorem lw_c17 {p : Program} {l : Launch} {e : Env} {R : Room} {s : State} {m : MethodId} {args : Array Value} {below : List Frame} {meth : Method} {c : Code} {H : Heap} {locs : List Loc} {cells slots : Nat} {Q : State → Prop} {g : zb_G} {ls : Array Slot} {b L n : Nat} {xs : Nat → Int32} {Rel : Nat → Mem → Mem → Prop} (hq : eqP_17 Rel) {I J O : Mem} (hRel : Rel n I J) (hlT : l.stackTraces = false) (X : zb_X g p m c cL_law 10 s args RL meth) (hnc : zb_Nc s) (hX : va_X b L xs s s.heap) (hbl : b < s.heap.size) (hbA : ¬ zb_A g b) (hn : n + 6 ≤ L) (hL : L ≤ 3072)
    (hP : va_P g.1 vwCl (zb_ws g 320 (zb_ce g I J O)) H) (hS : va_S (zb_A g) s.heap H locs) (hl : lv_has ls 10 [(5, .int (Int32.ofNat n)), (4, .ref (g.2.2 + 319)), (3, .ref (g.2.2 + 318)), (2, .ref (g.2.2 + 306)), (1, .ref (g.2.2 + 0)), (0, .ref b)]) (h1 : 13 ≤ R.frames) (h2 : 472 ≤ R.locals) (h3 : cells + 1 ≤ R.cells) (h4 : slots + 6 ≤ R.slots)
    (kk : ∀ (I J O : Mem) (H : Heap) (locs : List Loc) (ls : Array Slot), Rel (n + 6) I J → va_P g.1 vwCl (zb_ws g 320 (zb_ce g I J O)) H → va_S (zb_A g) s.heap H locs → lv_has ls 10 [(5, .int (Int32.ofNat n)), (4, .ref (g.2.2 + 319)), (3, .ref (g.2.2 + 318)), (2, .ref (g.2.2 + 306)), (1, .ref (g.2.2 + 0)), (0, .ref b)] → W p l e R s m args below meth c H locs (cells + 1) (slots + 6) Q (F0 m 2550 ls [])) : W p l e R s m args below meth c H locs cells slots Q (F0 m 1120 ls []) := by
  have hx := X.1.1
  have hb := X.1.2.1
  have hnI : 306 ≤ 320 := by decide
  have hnJ : 318 ≤ 320 := by decide
  have hnO : 320 ≤ 320 := by decide
  obtain ⟨E, r, Iq, rb, Jq, hf, hj, hr9, hd9⟩ := hq n I J (by omega) hRel ()
  rcases hd9 with ⟨rfl, ht, rfl⟩ | ⟨rfl, ht⟩
  · refine lv_aload_n hx hb dL_law_1120 rfl (lv_at hl 4 rfl) ?_
    refine lv_aload_n hx hb dL_law_1121 rfl (lv_at hl 2 rfl) ?_
    refine zr_cH (rest := []) (As := [.ref (g.2.2 + 0), .ref (g.2.2 + 318)]) X hP hS hnc (hn_L_levelNow (g := g) (nc := 320) (I := I) (J := J) (O := O) hnI hnO l hf) ch_L_194 rfl hl.1 (Nat.le_of_ble_eq_true rfl) ⟨by omega, by omega⟩ ⟨by omega, by omega⟩ dL_law_1122 rfl (fun H locs hP hS => ?_)
    refine lv_istore (lv' := [(6, .int (0 : Int32)), (5, .int (Int32.ofNat n)), (4, .ref (g.2.2 + 319)), (3, .ref (g.2.2 + 318)), (2, .ref (g.2.2 + 306)), (1, .ref (g.2.2 + 0)), (0, .ref b)]) hx hb dL_law_1125 hl (by decide) rfl (fun ls hl => ?_)
    refine lv_aload_n hx hb dL_law_1127 rfl (lv_at hl 4 rfl) ?_
    refine zr_cVi (rest := []) (As := []) X hP hS (ct_X8_levelNow (g := g) (nc := 320) (I := Iq) (J := J) (O := (wr O 318 0 r)) hnJ l hj) cw_L_197 (zr_recv X hP (by omega) (zb_ceJo zk_306 (by decide)) rfl) rfl hl.1 (Nat.le_of_ble_eq_true rfl) ⟨by omega, by omega⟩ ⟨by omega, by omega⟩ dL_law_1128 rfl (fun H locs hP hS => ?_)
    refine lv_istore (lv' := [(7, .int r), (6, .int (0 : Int32)), (5, .int (Int32.ofNat n)), (4, .ref (g.2.2 + 319)), (3, .ref (g.2.2 + 318)), (2, .ref (g.2.2 + 306)), (1, .ref (g.2.2 + 0)), (0, .ref b)]) hx hb dL_law_1131 hl (by decide) rfl (fun ls hl => ?_)
    refine lv_aload_n hx hb dL_law_1133 rfl (lv_at hl 5 rfl) ?_
    refine zr_cVi (rest := []) (As := []) X hP hS (ct_X8_thrown (g := g) (nc := 320) (I := Iq) (J := Jq) (O := (wr O 318 0 r)) hnJ l rfl) cw_L_132 (zr_recv X hP (by omega) (zb_ceJo zk_306 (by decide)) rfl) rfl hl.1 (Nat.le_of_ble_eq_true rfl) ⟨by omega, by omega⟩ ⟨by omega, by omega⟩ dL_law_1134 rfl (fun H locs hP hS => ?_)
    refine lv_iload hx hb dL_law_1137 (lv_at hl 1 rfl) ?_
    refine lv_icmp_eq (tgt := 1144) hx hb dL_law_1139 (by decide) (fun _ => ?_) (fun hc => absurd ht hc)
    refine lv_iload hx hb dL_law_1144 (lv_at hl 1 rfl) ?_
    refine lv_if_ne (tgt := 1161) hx hb dL_law_1146 (by decide) (fun hc => absurd rfl hc) (fun _ => ?_)
    refine lv_aload_n hx hb dL_law_1149 rfl (lv_at hl 4 rfl) ?_
    refine lv_iconst (v := (0 : Int32)) hx hb dL_law_1150 (by decide) ?_
    refine zr_lald X hP hnO dL_law_1151 ?_
    refine lv_iload hx hb dL_law_1152 (lv_at hl 0 rfl) ?_
    refine lv_i2l hx hb dL_law_1154 rfl ?_
    refine zr_lcmp0 hx hb dL_law_1155 ?_
    refine lv_if_eq (tgt := 1161) hx hb dL_law_1156 (by decide) (fun _ => ?_) (fun hc => absurd rfl hc)
    refine lv_goto (tgt := 2550) hx hb dL_law_1161 (by decide) ?_
    exact W.widen (Nat.le_succ _) (Nat.le_add_right _ 6) (kk _ _ _ _ _ _ hr9 hP hS (lv_sub hl [2, 3, 4, 5, 6, 7] rfl))
  · refine lv_aload_n hx hb dL_law_1120 rfl (lv_at hl 4 rfl) ?_
    refine lv_aload_n hx hb dL_law_1121 rfl (lv_at hl 2 rfl) ?_
    refine zr_cH (rest := []) (As := [.ref (g.2.2 + 0), .ref (g.2.2 + 318)]) X hP hS hnc (hc1_L_levelNow (g := g) (nc := 320) (I := I) (J := J) (O := O) hnI hnO l hlT hf) ch_L_194 rfl hl.1 (Nat.le_of_ble_eq_true rfl) ⟨by omega, by omega⟩ ⟨by omega, by omega⟩ dL_law_1122 rfl (fun H locs hP hS => ?_)
    refine lv_istore (lv' := [(6, .int (1 : Int32)), (5, .int (Int32.ofNat n)), (4, .ref (g.2.2 + 319)), (3, .ref (g.2.2 + 318)), (2, .ref (g.2.2 + 306)), (1, .ref (g.2.2 + 0)), (0, .ref b)]) hx hb dL_law_1125 hl (by decide) rfl (fun ls hl => ?_)
    refine lv_aload_n hx hb dL_law_1127 rfl (lv_at hl 4 rfl) ?_
    refine zr_cVi (rest := []) (As := []) X hP hS (ct_X8_levelNow (g := g) (nc := 320) (I := Iq) (J := J) (O := O) hnJ l hj) cw_L_197 (zr_recv X hP (by omega) (zb_ceJo zk_306 (by decide)) rfl) rfl hl.1 (Nat.le_of_ble_eq_true rfl) ⟨by omega, by omega⟩ ⟨by omega, by omega⟩ dL_law_1128 rfl (fun H locs hP hS => ?_)
    refine lv_istore (lv' := [(7, .int rb), (6, .int (1 : Int32)), (5, .int (Int32.ofNat n)), (4, .ref (g.2.2 + 319)), (3, .ref (g.2.2 + 318)), (2, .ref (g.2.2 + 306)), (1, .ref (g.2.2 + 0)), (0, .ref b)]) hx hb dL_law_1131 hl (by decide) rfl (fun ls hl => ?_)
    refine lv_aload_n hx hb dL_law_1133 rfl (lv_at hl 5 rfl) ?_
    refine zr_cVi (rest := []) (As := []) X hP hS (ct_X8_thrown (g := g) (nc := 320) (I := Iq) (J := Jq) (O := O) hnJ l rfl) cw_L_132 (zr_recv X hP (by omega) (zb_ceJo zk_306 (by decide)) rfl) rfl hl.1 (Nat.le_of_ble_eq_true rfl) ⟨by omega, by omega⟩ ⟨by omega, by omega⟩ dL_law_1134 rfl (fun H locs hP hS => ?_)
    refine lv_iload hx hb dL_law_1137 (lv_at hl 1 rfl) ?_
    refine lv_icmp_eq (tgt := 1144) hx hb dL_law_1139 (by decide) (fun _ => ?_) (fun hc => absurd ht hc)
    refine lv_iload hx hb dL_law_1144 (lv_at hl 1 rfl) ?_
    refine lv_if_ne (tgt := 1161) hx hb dL_law_1146 (by decide) (fun _ => ?_) (fun hc => absurd hc (by decide))
    refine lv_goto (tgt := 2550) hx hb dL_law_1161 (by decide) ?_
    exact kk _ _ _ _ _ _ hr9 hP hS (lv_sub hl [2, 3, 4, 5, 6, 7] rfl)

set_option maxHeartbeats 1000000 in
theorem lw_c18 {p : Program} {l : Launch} {e : Env} {R : Room} {s : State} {m : MethodId} {args : Array Value} {below : List Frame} {meth : Method} {c : Code} {H : Heap} {locs : List Loc} {cells slots : Nat} {Q : State → Prop} {g : zb_G} {ls : Array Slot} {b L n : Nat} {xs : Nat → Int32} {Rel : Nat → Mem → Mem → Prop} (hq : eqP_18 Rel) {I J O : Mem} (hRel : Rel n I J) (hlT : l.stackTraces = false) (X : zb_X g p m c cL_law 10 s args RL meth) (hnc : zb_Nc s) (hX : va_X b L xs s s.heap) (hbl : b < s.heap.size) (hbA : ¬ zb_A g b) (hn : n + 6 ≤ L) (hL : L ≤ 3072)
    (hP : va_P g.1 vwCl (zb_ws g 320 (zb_ce g I J O)) H) (hS : va_S (zb_A g) s.heap H locs) (hl : lv_has ls 10 [(5, .int (Int32.ofNat n)), (4, .ref (g.2.2 + 319)), (3, .ref (g.2.2 + 318)), (2, .ref (g.2.2 + 306)), (1, .ref (g.2.2 + 0)), (0, .ref b)]) (h1 : 13 ≤ R.frames) (h2 : 472 ≤ R.locals) (h3 : cells + 1 ≤ R.cells) (h4 : slots + 6 ≤ R.slots)
    (kk : ∀ (I J O : Mem) (H : Heap) (locs : List Loc) (ls : Array Slot), Rel (n + 6) I J → va_P g.1 vwCl (zb_ws g 320 (zb_ce g I J O)) H → va_S (zb_A g) s.heap H locs → lv_has ls 10 [(5, .int (Int32.ofNat n)), (4, .ref (g.2.2 + 319)), (3, .ref (g.2.2 + 318)), (2, .ref (g.2.2 + 306)), (1, .ref (g.2.2 + 0)), (0, .ref b)] → W p l e R s m args below meth c H locs (cells + 1) (slots + 6) Q (F0 m 2550 ls [])) : W p l e R s m args below meth c H locs cells slots Q (F0 m 1164 ls []) := by
  have hx := X.1.1
  have hb := X.1.2.1
  have hnI : 306 ≤ 320 := by decide
  have hnJ : 318 ≤ 320 := by decide
  have hnO : 320 ≤ 320 := by decide
  obtain ⟨E, r, Iq, rb, Jq, hf, hj, hr9, hd9⟩ := hq n I J (by omega) hRel (xs (n + 1)) (xs (n + 2))
  rcases hd9 with ⟨rfl, ht, rfl⟩ | ⟨rfl, ht⟩ | ⟨rfl, ht⟩
  · refine lv_aload_n hx hb dL_law_1164 rfl (lv_at hl 4 rfl) ?_
    refine lv_aload_n hx hb dL_law_1165 rfl (lv_at hl 5 rfl) ?_
    refine lv_iload hx hb dL_law_1166 (lv_at hl 0 rfl) ?_
    refine lv_iconst (v := (1 : Int32)) hx hb dL_law_1168 (by decide) ?_
    refine lv_iadd hx hb dL_law_1169 ?_
    refine zr_sldc (cn := 1) X hX hbl hbA hS (by omega) (by omega) rfl dL_law_1170 ?_
    refine lv_aload_n hx hb dL_law_1171 rfl (lv_at hl 5 rfl) ?_
    refine lv_iload hx hb dL_law_1172 (lv_at hl 0 rfl) ?_
    refine lv_iconst (v := (2 : Int32)) hx hb dL_law_1174 (by decide) ?_
    refine lv_iadd hx hb dL_law_1175 ?_
    refine zr_sldc (cn := 2) X hX hbl hbA hS (by omega) (by omega) rfl dL_law_1176 ?_
    refine lv_aload_n hx hb dL_law_1177 rfl (lv_at hl 2 rfl) ?_
    refine zr_cH (rest := []) (As := [.ref (g.2.2 + 0), .int (xs (n + 1)), .int (xs (n + 2)), .ref (g.2.2 + 318)]) X hP hS hnc (hn_L_levelWithout (g := g) (nc := 320) (I := I) (J := J) (O := O) hnI hnO l hf) ch_L_198 rfl hl.1 (Nat.le_of_ble_eq_true rfl) ⟨by omega, by omega⟩ ⟨by omega, by omega⟩ dL_law_1178 rfl (fun H locs hP hS => ?_)
    refine lv_istore (lv' := [(6, .int (0 : Int32)), (5, .int (Int32.ofNat n)), (4, .ref (g.2.2 + 319)), (3, .ref (g.2.2 + 318)), (2, .ref (g.2.2 + 306)), (1, .ref (g.2.2 + 0)), (0, .ref b)]) hx hb dL_law_1181 hl (by decide) rfl (fun ls hl => ?_)
    refine lv_aload_n hx hb dL_law_1183 rfl (lv_at hl 4 rfl) ?_
    refine lv_aload_n hx hb dL_law_1184 rfl (lv_at hl 6 rfl) ?_
    refine lv_iload hx hb dL_law_1185 (lv_at hl 1 rfl) ?_
    refine lv_iconst (v := (1 : Int32)) hx hb dL_law_1187 (by decide) ?_
    refine lv_iadd hx hb dL_law_1188 ?_
    refine zr_sldc (cn := 1) X hX hbl hbA hS (by omega) (by omega) rfl dL_law_1189 ?_
    refine lv_aload_n hx hb dL_law_1190 rfl (lv_at hl 6 rfl) ?_
    refine lv_iload hx hb dL_law_1191 (lv_at hl 1 rfl) ?_
    refine lv_iconst (v := (2 : Int32)) hx hb dL_law_1193 (by decide) ?_
    refine lv_iadd hx hb dL_law_1194 ?_
    refine zr_sldc (cn := 2) X hX hbl hbA hS (by omega) (by omega) rfl dL_law_1195 ?_
    refine zr_cVi (rest := []) (As := [.int (xs (n + 1)), .int (xs (n + 2))]) X hP hS (ct_X8_levelWithout (g := g) (nc := 320) (I := Iq) (J := J) (O := (wr O 318 0 r)) hnJ l hj) cw_L_200 (zr_recv X hP (by omega) (zb_ceJo zk_306 (by decide)) rfl) rfl hl.1 (Nat.le_of_ble_eq_true rfl) ⟨by omega, by omega⟩ ⟨by omega, by omega⟩ dL_law_1196 rfl (fun H locs hP hS => ?_)
    refine lv_istore (lv' := [(7, .int r), (6, .int (0 : Int32)), (5, .int (Int32.ofNat n)), (4, .ref (g.2.2 + 319)), (3, .ref (g.2.2 + 318)), (2, .ref (g.2.2 + 306)), (1, .ref (g.2.2 + 0)), (0, .ref b)]) hx hb dL_law_1199 hl (by decide) rfl (fun ls hl => ?_)
    refine lv_aload_n hx hb dL_law_1201 rfl (lv_at hl 5 rfl) ?_
    refine zr_cVi (rest := []) (As := []) X hP hS (ct_X8_thrown (g := g) (nc := 320) (I := Iq) (J := Jq) (O := (wr O 318 0 r)) hnJ l rfl) cw_L_132 (zr_recv X hP (by omega) (zb_ceJo zk_306 (by decide)) rfl) rfl hl.1 (Nat.le_of_ble_eq_true rfl) ⟨by omega, by omega⟩ ⟨by omega, by omega⟩ dL_law_1202 rfl (fun H locs hP hS => ?_)
    refine lv_iload hx hb dL_law_1205 (lv_at hl 1 rfl) ?_
    refine lv_icmp_eq (tgt := 1212) hx hb dL_law_1207 (by decide) (fun _ => ?_) (fun hc => absurd ht hc)
    refine lv_iload hx hb dL_law_1212 (lv_at hl 1 rfl) ?_
    refine lv_if_ne (tgt := 1229) hx hb dL_law_1214 (by decide) (fun hc => absurd rfl hc) (fun _ => ?_)
    refine lv_aload_n hx hb dL_law_1217 rfl (lv_at hl 4 rfl) ?_
    refine lv_iconst (v := (0 : Int32)) hx hb dL_law_1218 (by decide) ?_
    refine zr_lald X hP hnO dL_law_1219 ?_
    refine lv_iload hx hb dL_law_1220 (lv_at hl 0 rfl) ?_
    refine lv_i2l hx hb dL_law_1222 rfl ?_
    refine zr_lcmp0 hx hb dL_law_1223 ?_
    refine lv_if_eq (tgt := 1229) hx hb dL_law_1224 (by decide) (fun _ => ?_) (fun hc => absurd rfl hc)
    refine lv_goto (tgt := 2550) hx hb dL_law_1229 (by decide) ?_
    exact W.widen (Nat.le_succ _) (Nat.le_add_right _ 6) (kk _ _ _ _ _ _ hr9 hP hS (lv_sub hl [2, 3, 4, 5, 6, 7] rfl))
  · refine lv_aload_n hx hb dL_law_1164 rfl (lv_at hl 4 rfl) ?_
    refine lv_aload_n hx hb dL_law_1165 rfl (lv_at hl 5 rfl) ?_
    refine lv_iload hx hb dL_law_1166 (lv_at hl 0 rfl) ?_
    refine lv_iconst (v := (1 : Int32)) hx hb dL_law_1168 (by decide) ?_
    refine lv_iadd hx hb dL_law_1169 ?_
    refine zr_sldc (cn := 1) X hX hbl hbA hS (by omega) (by omega) rfl dL_law_1170 ?_
    refine lv_aload_n hx hb dL_law_1171 rfl (lv_at hl 5 rfl) ?_
    refine lv_iload hx hb dL_law_1172 (lv_at hl 0 rfl) ?_
    refine lv_iconst (v := (2 : Int32)) hx hb dL_law_1174 (by decide) ?_
    refine lv_iadd hx hb dL_law_1175 ?_
    refine zr_sldc (cn := 2) X hX hbl hbA hS (by omega) (by omega) rfl dL_law_1176 ?_
    refine lv_aload_n hx hb dL_law_1177 rfl (lv_at hl 2 rfl) ?_
    refine zr_cH (rest := []) (As := [.ref (g.2.2 + 0), .int (xs (n + 1)), .int (xs (n + 2)), .ref (g.2.2 + 318)]) X hP hS hnc (hc1_L_levelWithout (g := g) (nc := 320) (I := I) (J := J) (O := O) hnI hnO l hlT hf) ch_L_198 rfl hl.1 (Nat.le_of_ble_eq_true rfl) ⟨by omega, by omega⟩ ⟨by omega, by omega⟩ dL_law_1178 rfl (fun H locs hP hS => ?_)
    refine lv_istore (lv' := [(6, .int (1 : Int32)), (5, .int (Int32.ofNat n)), (4, .ref (g.2.2 + 319)), (3, .ref (g.2.2 + 318)), (2, .ref (g.2.2 + 306)), (1, .ref (g.2.2 + 0)), (0, .ref b)]) hx hb dL_law_1181 hl (by decide) rfl (fun ls hl => ?_)
    refine lv_aload_n hx hb dL_law_1183 rfl (lv_at hl 4 rfl) ?_
    refine lv_aload_n hx hb dL_law_1184 rfl (lv_at hl 6 rfl) ?_
    refine lv_iload hx hb dL_law_1185 (lv_at hl 1 rfl) ?_
    refine lv_iconst (v := (1 : Int32)) hx hb dL_law_1187 (by decide) ?_
    refine lv_iadd hx hb dL_law_1188 ?_
    refine zr_sldc (cn := 1) X hX hbl hbA hS (by omega) (by omega) rfl dL_law_1189 ?_
    refine lv_aload_n hx hb dL_law_1190 rfl (lv_at hl 6 rfl) ?_
    refine lv_iload hx hb dL_law_1191 (lv_at hl 1 rfl) ?_
    refine lv_iconst (v := (2 : Int32)) hx hb dL_law_1193 (by decide) ?_
    refine lv_iadd hx hb dL_law_1194 ?_
    refine zr_sldc (cn := 2) X hX hbl hbA hS (by omega) (by omega) rfl dL_law_1195 ?_
    refine zr_cVi (rest := []) (As := [.int (xs (n + 1)), .int (xs (n + 2))]) X hP hS (ct_X8_levelWithout (g := g) (nc := 320) (I := Iq) (J := J) (O := O) hnJ l hj) cw_L_200 (zr_recv X hP (by omega) (zb_ceJo zk_306 (by decide)) rfl) rfl hl.1 (Nat.le_of_ble_eq_true rfl) ⟨by omega, by omega⟩ ⟨by omega, by omega⟩ dL_law_1196 rfl (fun H locs hP hS => ?_)
    refine lv_istore (lv' := [(7, .int rb), (6, .int (1 : Int32)), (5, .int (Int32.ofNat n)), (4, .ref (g.2.2 + 319)), (3, .ref (g.2.2 + 318)), (2, .ref (g.2.2 + 306)), (1, .ref (g.2.2 + 0)), (0, .ref b)]) hx hb dL_law_1199 hl (by decide) rfl (fun ls hl => ?_)
    refine lv_aload_n hx hb dL_law_1201 rfl (lv_at hl 5 rfl) ?_
    refine zr_cVi (rest := []) (As := []) X hP hS (ct_X8_thrown (g := g) (nc := 320) (I := Iq) (J := Jq) (O := O) hnJ l rfl) cw_L_132 (zr_recv X hP (by omega) (zb_ceJo zk_306 (by decide)) rfl) rfl hl.1 (Nat.le_of_ble_eq_true rfl) ⟨by omega, by omega⟩ ⟨by omega, by omega⟩ dL_law_1202 rfl (fun H locs hP hS => ?_)
    refine lv_iload hx hb dL_law_1205 (lv_at hl 1 rfl) ?_
    refine lv_icmp_eq (tgt := 1212) hx hb dL_law_1207 (by decide) (fun _ => ?_) (fun hc => absurd ht hc)
    refine lv_iload hx hb dL_law_1212 (lv_at hl 1 rfl) ?_
    refine lv_if_ne (tgt := 1229) hx hb dL_law_1214 (by decide) (fun _ => ?_) (fun hc => absurd hc (by decide))
    refine lv_goto (tgt := 2550) hx hb dL_law_1229 (by decide) ?_
    exact kk _ _ _ _ _ _ hr9 hP hS (lv_sub hl [2, 3, 4, 5, 6, 7] rfl)
  · refine lv_aload_n hx hb dL_law_1164 rfl (lv_at hl 4 rfl) ?_
    refine lv_aload_n hx hb dL_law_1165 rfl (lv_at hl 5 rfl) ?_
    refine lv_iload hx hb dL_law_1166 (lv_at hl 0 rfl) ?_
    refine lv_iconst (v := (1 : Int32)) hx hb dL_law_1168 (by decide) ?_
    refine lv_iadd hx hb dL_law_1169 ?_
    refine zr_sldc (cn := 1) X hX hbl hbA hS (by omega) (by omega) rfl dL_law_1170 ?_
    refine lv_aload_n hx hb dL_law_1171 rfl (lv_at hl 5 rfl) ?_
    refine lv_iload hx hb dL_law_1172 (lv_at hl 0 rfl) ?_
    refine lv_iconst (v := (2 : Int32)) hx hb dL_law_1174 (by decide) ?_
    refine lv_iadd hx hb dL_law_1175 ?_
    refine zr_sldc (cn := 2) X hX hbl hbA hS (by omega) (by omega) rfl dL_law_1176 ?_
    refine lv_aload_n hx hb dL_law_1177 rfl (lv_at hl 2 rfl) ?_
    refine zr_cH (rest := []) (As := [.ref (g.2.2 + 0), .int (xs (n + 1)), .int (xs (n + 2)), .ref (g.2.2 + 318)]) X hP hS hnc (hc2_L_levelWithout (g := g) (nc := 320) (I := I) (J := J) (O := O) hnI hnO l hlT hf) ch_L_198 rfl hl.1 (Nat.le_of_ble_eq_true rfl) ⟨by omega, by omega⟩ ⟨by omega, by omega⟩ dL_law_1178 rfl (fun H locs hP hS => ?_)
    refine lv_istore (lv' := [(6, .int (2 : Int32)), (5, .int (Int32.ofNat n)), (4, .ref (g.2.2 + 319)), (3, .ref (g.2.2 + 318)), (2, .ref (g.2.2 + 306)), (1, .ref (g.2.2 + 0)), (0, .ref b)]) hx hb dL_law_1181 hl (by decide) rfl (fun ls hl => ?_)
    refine lv_aload_n hx hb dL_law_1183 rfl (lv_at hl 4 rfl) ?_
    refine lv_aload_n hx hb dL_law_1184 rfl (lv_at hl 6 rfl) ?_
    refine lv_iload hx hb dL_law_1185 (lv_at hl 1 rfl) ?_
    refine lv_iconst (v := (1 : Int32)) hx hb dL_law_1187 (by decide) ?_
    refine lv_iadd hx hb dL_law_1188 ?_
    refine zr_sldc (cn := 1) X hX hbl hbA hS (by omega) (by omega) rfl dL_law_1189 ?_
    refine lv_aload_n hx hb dL_law_1190 rfl (lv_at hl 6 rfl) ?_
    refine lv_iload hx hb dL_law_1191 (lv_at hl 1 rfl) ?_
    refine lv_iconst (v := (2 : Int32)) hx hb dL_law_1193 (by decide) ?_
    refine lv_iadd hx hb dL_law_1194 ?_
    refine zr_sldc (cn := 2) X hX hbl hbA hS (by omega) (by omega) rfl dL_law_1195 ?_
    refine zr_cVi (rest := []) (As := [.int (xs (n + 1)), .int (xs (n + 2))]) X hP hS (ct_X8_levelWithout (g := g) (nc := 320) (I := Iq) (J := J) (O := O) hnJ l hj) cw_L_200 (zr_recv X hP (by omega) (zb_ceJo zk_306 (by decide)) rfl) rfl hl.1 (Nat.le_of_ble_eq_true rfl) ⟨by omega, by omega⟩ ⟨by omega, by omega⟩ dL_law_1196 rfl (fun H locs hP hS => ?_)
    refine lv_istore (lv' := [(7, .int rb), (6, .int (2 : Int32)), (5, .int (Int32.ofNat n)), (4, .ref (g.2.2 + 319)), (3, .ref (g.2.2 + 318)), (2, .ref (g.2.2 + 306)), (1, .ref (g.2.2 + 0)), (0, .ref b)]) hx hb dL_law_1199 hl (by decide) rfl (fun ls hl => ?_)
    refine lv_aload_n hx hb dL_law_1201 rfl (lv_at hl 5 rfl) ?_
    refine zr_cVi (rest := []) (As := []) X hP hS (ct_X8_thrown (g := g) (nc := 320) (I := Iq) (J := Jq) (O := O) hnJ l rfl) cw_L_132 (zr_recv X hP (by omega) (zb_ceJo zk_306 (by decide)) rfl) rfl hl.1 (Nat.le_of_ble_eq_true rfl) ⟨by omega, by omega⟩ ⟨by omega, by omega⟩ dL_law_1202 rfl (fun H locs hP hS => ?_)
    refine lv_iload hx hb dL_law_1205 (lv_at hl 1 rfl) ?_
    refine lv_icmp_eq (tgt := 1212) hx hb dL_law_1207 (by decide) (fun _ => ?_) (fun hc => absurd ht hc)
    refine lv_iload hx hb dL_law_1212 (lv_at hl 1 rfl) ?_
    refine lv_if_ne (tgt := 1229) hx hb dL_law_1214 (by decide) (fun _ => ?_) (fun hc => absurd hc (by decide))
    refine lv_goto (tgt := 2550) hx hb dL_law_1229 (by decide) ?_
    exact kk _ _ _ _ _ _ hr9 hP hS (lv_sub hl [2, 3, 4, 5, 6, 7] rfl)

set_option maxHeartbeats 1000000 in
theorem lw_c19 {p : Program} {l : Launch} {e : Env} {R : Room} {s : State} {m : MethodId} {args : Array Value} {below : List Frame} {meth : Method} {c : Code} {H : Heap} {locs : List Loc} {cells slots : Nat} {Q : State → Prop} {g : zb_G} {ls : Array Slot} {b L n : Nat} {xs : Nat → Int32} {Rel : Nat → Mem → Mem → Prop} (hq : eqP_19 Rel) {I J O : Mem} (hRel : Rel n I J) (hlT : l.stackTraces = false) (X : zb_X g p m c cL_law 10 s args RL meth) (hnc : zb_Nc s) (hX : va_X b L xs s s.heap) (hbl : b < s.heap.size) (hbA : ¬ zb_A g b) (hn : n + 6 ≤ L) (hL : L ≤ 3072)
    (hP : va_P g.1 vwCl (zb_ws g 320 (zb_ce g I J O)) H) (hS : va_S (zb_A g) s.heap H locs) (hl : lv_has ls 10 [(5, .int (Int32.ofNat n)), (4, .ref (g.2.2 + 319)), (3, .ref (g.2.2 + 318)), (2, .ref (g.2.2 + 306)), (1, .ref (g.2.2 + 0)), (0, .ref b)]) (h1 : 13 ≤ R.frames) (h2 : 472 ≤ R.locals) (h3 : cells + 1 ≤ R.cells) (h4 : slots + 6 ≤ R.slots)
    (kk : ∀ (I J O : Mem) (H : Heap) (locs : List Loc) (ls : Array Slot), Rel (n + 6) I J → va_P g.1 vwCl (zb_ws g 320 (zb_ce g I J O)) H → va_S (zb_A g) s.heap H locs → lv_has ls 10 [(5, .int (Int32.ofNat n)), (4, .ref (g.2.2 + 319)), (3, .ref (g.2.2 + 318)), (2, .ref (g.2.2 + 306)), (1, .ref (g.2.2 + 0)), (0, .ref b)] → W p l e R s m args below meth c H locs (cells + 1) (slots + 6) Q (F0 m 2550 ls [])) : W p l e R s m args below meth c H locs cells slots Q (F0 m 1232 ls []) := by
  have hx := X.1.1
  have hb := X.1.2.1
  have hnI : 306 ≤ 320 := by decide
  have hnJ : 318 ≤ 320 := by decide
  have hnO : 320 ≤ 320 := by decide
  obtain ⟨E, r, Iq, rb, Jq, hf, hj, hr9, hd9⟩ := hq n I J (by omega) hRel (xs (n + 1))
  rcases hd9 with ⟨rfl, ht, rfl⟩ | ⟨rfl, ht⟩
  · refine lv_aload_n hx hb dL_law_1232 rfl (lv_at hl 4 rfl) ?_
    refine lv_aload_n hx hb dL_law_1233 rfl (lv_at hl 5 rfl) ?_
    refine lv_iload hx hb dL_law_1234 (lv_at hl 0 rfl) ?_
    refine lv_iconst (v := (1 : Int32)) hx hb dL_law_1236 (by decide) ?_
    refine lv_iadd hx hb dL_law_1237 ?_
    refine zr_sldc (cn := 1) X hX hbl hbA hS (by omega) (by omega) rfl dL_law_1238 ?_
    refine lv_aload_n hx hb dL_law_1239 rfl (lv_at hl 2 rfl) ?_
    refine zr_cH (rest := []) (As := [.ref (g.2.2 + 0), .int (xs (n + 1)), .ref (g.2.2 + 318)]) X hP hS hnc (hn_L_needed (g := g) (nc := 320) (I := I) (J := J) (O := O) hnI hnO l hf) ch_L_201 rfl hl.1 (Nat.le_of_ble_eq_true rfl) ⟨by omega, by omega⟩ ⟨by omega, by omega⟩ dL_law_1240 rfl (fun H locs hP hS => ?_)
    refine lv_istore (lv' := [(6, .int (0 : Int32)), (5, .int (Int32.ofNat n)), (4, .ref (g.2.2 + 319)), (3, .ref (g.2.2 + 318)), (2, .ref (g.2.2 + 306)), (1, .ref (g.2.2 + 0)), (0, .ref b)]) hx hb dL_law_1243 hl (by decide) rfl (fun ls hl => ?_)
    refine lv_aload_n hx hb dL_law_1245 rfl (lv_at hl 4 rfl) ?_
    refine lv_aload_n hx hb dL_law_1246 rfl (lv_at hl 6 rfl) ?_
    refine lv_iload hx hb dL_law_1247 (lv_at hl 1 rfl) ?_
    refine lv_iconst (v := (1 : Int32)) hx hb dL_law_1249 (by decide) ?_
    refine lv_iadd hx hb dL_law_1250 ?_
    refine zr_sldc (cn := 1) X hX hbl hbA hS (by omega) (by omega) rfl dL_law_1251 ?_
    refine zr_cVi (rest := []) (As := [.int (xs (n + 1))]) X hP hS (ct_X8_needed (g := g) (nc := 320) (I := Iq) (J := J) (O := (wr O 318 0 r)) hnJ l hj) cw_L_203 (zr_recv X hP (by omega) (zb_ceJo zk_306 (by decide)) rfl) rfl hl.1 (Nat.le_of_ble_eq_true rfl) ⟨by omega, by omega⟩ ⟨by omega, by omega⟩ dL_law_1252 rfl (fun H locs hP hS => ?_)
    refine lv_istore (lv' := [(7, .int r), (6, .int (0 : Int32)), (5, .int (Int32.ofNat n)), (4, .ref (g.2.2 + 319)), (3, .ref (g.2.2 + 318)), (2, .ref (g.2.2 + 306)), (1, .ref (g.2.2 + 0)), (0, .ref b)]) hx hb dL_law_1255 hl (by decide) rfl (fun ls hl => ?_)
    refine lv_aload_n hx hb dL_law_1257 rfl (lv_at hl 5 rfl) ?_
    refine zr_cVi (rest := []) (As := []) X hP hS (ct_X8_thrown (g := g) (nc := 320) (I := Iq) (J := Jq) (O := (wr O 318 0 r)) hnJ l rfl) cw_L_132 (zr_recv X hP (by omega) (zb_ceJo zk_306 (by decide)) rfl) rfl hl.1 (Nat.le_of_ble_eq_true rfl) ⟨by omega, by omega⟩ ⟨by omega, by omega⟩ dL_law_1258 rfl (fun H locs hP hS => ?_)
    refine lv_iload hx hb dL_law_1261 (lv_at hl 1 rfl) ?_
    refine lv_icmp_eq (tgt := 1268) hx hb dL_law_1263 (by decide) (fun _ => ?_) (fun hc => absurd ht hc)
    refine lv_iload hx hb dL_law_1268 (lv_at hl 1 rfl) ?_
    refine lv_if_ne (tgt := 1285) hx hb dL_law_1270 (by decide) (fun hc => absurd rfl hc) (fun _ => ?_)
    refine lv_aload_n hx hb dL_law_1273 rfl (lv_at hl 4 rfl) ?_
    refine lv_iconst (v := (0 : Int32)) hx hb dL_law_1274 (by decide) ?_
    refine zr_lald X hP hnO dL_law_1275 ?_
    refine lv_iload hx hb dL_law_1276 (lv_at hl 0 rfl) ?_
    refine lv_i2l hx hb dL_law_1278 rfl ?_
    refine zr_lcmp0 hx hb dL_law_1279 ?_
    refine lv_if_eq (tgt := 1285) hx hb dL_law_1280 (by decide) (fun _ => ?_) (fun hc => absurd rfl hc)
    refine lv_goto (tgt := 2550) hx hb dL_law_1285 (by decide) ?_
    exact W.widen (Nat.le_succ _) (Nat.le_add_right _ 6) (kk _ _ _ _ _ _ hr9 hP hS (lv_sub hl [2, 3, 4, 5, 6, 7] rfl))
  · refine lv_aload_n hx hb dL_law_1232 rfl (lv_at hl 4 rfl) ?_
    refine lv_aload_n hx hb dL_law_1233 rfl (lv_at hl 5 rfl) ?_
    refine lv_iload hx hb dL_law_1234 (lv_at hl 0 rfl) ?_
    refine lv_iconst (v := (1 : Int32)) hx hb dL_law_1236 (by decide) ?_
    refine lv_iadd hx hb dL_law_1237 ?_
    refine zr_sldc (cn := 1) X hX hbl hbA hS (by omega) (by omega) rfl dL_law_1238 ?_
    refine lv_aload_n hx hb dL_law_1239 rfl (lv_at hl 2 rfl) ?_
    refine zr_cH (rest := []) (As := [.ref (g.2.2 + 0), .int (xs (n + 1)), .ref (g.2.2 + 318)]) X hP hS hnc (hc1_L_needed (g := g) (nc := 320) (I := I) (J := J) (O := O) hnI hnO l hlT hf) ch_L_201 rfl hl.1 (Nat.le_of_ble_eq_true rfl) ⟨by omega, by omega⟩ ⟨by omega, by omega⟩ dL_law_1240 rfl (fun H locs hP hS => ?_)
    refine lv_istore (lv' := [(6, .int (1 : Int32)), (5, .int (Int32.ofNat n)), (4, .ref (g.2.2 + 319)), (3, .ref (g.2.2 + 318)), (2, .ref (g.2.2 + 306)), (1, .ref (g.2.2 + 0)), (0, .ref b)]) hx hb dL_law_1243 hl (by decide) rfl (fun ls hl => ?_)
    refine lv_aload_n hx hb dL_law_1245 rfl (lv_at hl 4 rfl) ?_
    refine lv_aload_n hx hb dL_law_1246 rfl (lv_at hl 6 rfl) ?_
    refine lv_iload hx hb dL_law_1247 (lv_at hl 1 rfl) ?_
    refine lv_iconst (v := (1 : Int32)) hx hb dL_law_1249 (by decide) ?_
    refine lv_iadd hx hb dL_law_1250 ?_
    refine zr_sldc (cn := 1) X hX hbl hbA hS (by omega) (by omega) rfl dL_law_1251 ?_
    refine zr_cVi (rest := []) (As := [.int (xs (n + 1))]) X hP hS (ct_X8_needed (g := g) (nc := 320) (I := Iq) (J := J) (O := O) hnJ l hj) cw_L_203 (zr_recv X hP (by omega) (zb_ceJo zk_306 (by decide)) rfl) rfl hl.1 (Nat.le_of_ble_eq_true rfl) ⟨by omega, by omega⟩ ⟨by omega, by omega⟩ dL_law_1252 rfl (fun H locs hP hS => ?_)
    refine lv_istore (lv' := [(7, .int rb), (6, .int (1 : Int32)), (5, .int (Int32.ofNat n)), (4, .ref (g.2.2 + 319)), (3, .ref (g.2.2 + 318)), (2, .ref (g.2.2 + 306)), (1, .ref (g.2.2 + 0)), (0, .ref b)]) hx hb dL_law_1255 hl (by decide) rfl (fun ls hl => ?_)
    refine lv_aload_n hx hb dL_law_1257 rfl (lv_at hl 5 rfl) ?_
    refine zr_cVi (rest := []) (As := []) X hP hS (ct_X8_thrown (g := g) (nc := 320) (I := Iq) (J := Jq) (O := O) hnJ l rfl) cw_L_132 (zr_recv X hP (by omega) (zb_ceJo zk_306 (by decide)) rfl) rfl hl.1 (Nat.le_of_ble_eq_true rfl) ⟨by omega, by omega⟩ ⟨by omega, by omega⟩ dL_law_1258 rfl (fun H locs hP hS => ?_)
    refine lv_iload hx hb dL_law_1261 (lv_at hl 1 rfl) ?_
    refine lv_icmp_eq (tgt := 1268) hx hb dL_law_1263 (by decide) (fun _ => ?_) (fun hc => absurd ht hc)
    refine lv_iload hx hb dL_law_1268 (lv_at hl 1 rfl) ?_
    refine lv_if_ne (tgt := 1285) hx hb dL_law_1270 (by decide) (fun _ => ?_) (fun hc => absurd hc (by decide))
    refine lv_goto (tgt := 2550) hx hb dL_law_1285 (by decide) ?_
    exact kk _ _ _ _ _ _ hr9 hP hS (lv_sub hl [2, 3, 4, 5, 6, 7] rfl)

set_option maxHeartbeats 1000000 in
theorem lw_c20 {p : Program} {l : Launch} {e : Env} {R : Room} {s : State} {m : MethodId} {args : Array Value} {below : List Frame} {meth : Method} {c : Code} {H : Heap} {locs : List Loc} {cells slots : Nat} {Q : State → Prop} {g : zb_G} {ls : Array Slot} {b L n : Nat} {xs : Nat → Int32} {Rel : Nat → Mem → Mem → Prop} (hq : eqP_20 Rel) {I J O : Mem} (hRel : Rel n I J) (hlT : l.stackTraces = false) (X : zb_X g p m c cL_law 10 s args RL meth) (hnc : zb_Nc s) (hX : va_X b L xs s s.heap) (hbl : b < s.heap.size) (hbA : ¬ zb_A g b) (hn : n + 6 ≤ L) (hL : L ≤ 3072)
    (hP : va_P g.1 vwCl (zb_ws g 320 (zb_ce g I J O)) H) (hS : va_S (zb_A g) s.heap H locs) (hl : lv_has ls 10 [(5, .int (Int32.ofNat n)), (4, .ref (g.2.2 + 319)), (3, .ref (g.2.2 + 318)), (2, .ref (g.2.2 + 306)), (1, .ref (g.2.2 + 0)), (0, .ref b)]) (h1 : 13 ≤ R.frames) (h2 : 472 ≤ R.locals) (h3 : cells + 1 ≤ R.cells) (h4 : slots + 6 ≤ R.slots)
    (kk : ∀ (I J O : Mem) (H : Heap) (locs : List Loc) (ls : Array Slot), Rel (n + 6) I J → va_P g.1 vwCl (zb_ws g 320 (zb_ce g I J O)) H → va_S (zb_A g) s.heap H locs → lv_has ls 10 [(5, .int (Int32.ofNat n)), (4, .ref (g.2.2 + 319)), (3, .ref (g.2.2 + 318)), (2, .ref (g.2.2 + 306)), (1, .ref (g.2.2 + 0)), (0, .ref b)] → W p l e R s m args below meth c H locs (cells + 1) (slots + 6) Q (F0 m 2550 ls [])) : W p l e R s m args below meth c H locs cells slots Q (F0 m 1288 ls []) := by
  have hx := X.1.1
  have hb := X.1.2.1
  have hnI : 306 ≤ 320 := by decide
  have hnJ : 318 ≤ 320 := by decide
  have hnO : 320 ≤ 320 := by decide
  obtain ⟨r, Jq, hf, hj, hr9⟩ := hq n I J (by omega) hRel ()
  refine lv_aload_n hx hb dL_law_1288 rfl (lv_at hl 4 rfl) ?_
  refine zr_cVi (rest := []) (As := []) X hP hS (ct_X7_segments (g := g) (nc := 320) (I := I) (J := J) (O := O) hnI l hf) cw_L_204 (zr_recv X hP (by omega) (zb_ceIo zk_0 (by decide)) rfl) rfl hl.1 (Nat.le_of_ble_eq_true rfl) ⟨by omega, by omega⟩ ⟨by omega, by omega⟩ dL_law_1289 rfl (fun H locs hP hS => ?_)
  refine lv_aload_n hx hb dL_law_1292 rfl (lv_at hl 3 rfl) ?_
  refine zr_cVi (rest := [.int r]) (As := []) X hP hS (ct_X8_segments (g := g) (nc := 320) (I := I) (J := J) (O := O) hnJ l hj) cw_L_207 (zr_recv X hP (by omega) (zb_ceJo zk_306 (by decide)) rfl) rfl hl.1 (Nat.le_of_ble_eq_true rfl) ⟨by omega, by omega⟩ ⟨by omega, by omega⟩ dL_law_1293 rfl (fun H locs hP hS => ?_)
  refine lv_icmp_eq (tgt := 2550) hx hb dL_law_1296 (by decide) (fun _ => ?_) (fun hc => absurd rfl hc)
  exact W.widen (Nat.le_succ _) (Nat.le_add_right _ 6) (kk _ _ _ _ _ _ hr9 hP hS (lv_sub hl [0, 1, 2, 3, 4, 5] rfl))

set_option maxHeartbeats 1000000 in
theorem lw_c21 {p : Program} {l : Launch} {e : Env} {R : Room} {s : State} {m : MethodId} {args : Array Value} {below : List Frame} {meth : Method} {c : Code} {H : Heap} {locs : List Loc} {cells slots : Nat} {Q : State → Prop} {g : zb_G} {ls : Array Slot} {b L n : Nat} {xs : Nat → Int32} {Rel : Nat → Mem → Mem → Prop} (hq : eqP_21 Rel) {I J O : Mem} (hRel : Rel n I J) (hlT : l.stackTraces = false) (X : zb_X g p m c cL_law 10 s args RL meth) (hnc : zb_Nc s) (hX : va_X b L xs s s.heap) (hbl : b < s.heap.size) (hbA : ¬ zb_A g b) (hn : n + 6 ≤ L) (hL : L ≤ 3072)
    (hP : va_P g.1 vwCl (zb_ws g 320 (zb_ce g I J O)) H) (hS : va_S (zb_A g) s.heap H locs) (hl : lv_has ls 10 [(5, .int (Int32.ofNat n)), (4, .ref (g.2.2 + 319)), (3, .ref (g.2.2 + 318)), (2, .ref (g.2.2 + 306)), (1, .ref (g.2.2 + 0)), (0, .ref b)]) (h1 : 13 ≤ R.frames) (h2 : 472 ≤ R.locals) (h3 : cells + 1 ≤ R.cells) (h4 : slots + 6 ≤ R.slots)
    (kk : ∀ (I J O : Mem) (H : Heap) (locs : List Loc) (ls : Array Slot), Rel (n + 6) I J → va_P g.1 vwCl (zb_ws g 320 (zb_ce g I J O)) H → va_S (zb_A g) s.heap H locs → lv_has ls 10 [(5, .int (Int32.ofNat n)), (4, .ref (g.2.2 + 319)), (3, .ref (g.2.2 + 318)), (2, .ref (g.2.2 + 306)), (1, .ref (g.2.2 + 0)), (0, .ref b)] → W p l e R s m args below meth c H locs (cells + 1) (slots + 6) Q (F0 m 2550 ls [])) : W p l e R s m args below meth c H locs cells slots Q (F0 m 1301 ls []) := by
  have hx := X.1.1
  have hb := X.1.2.1
  have hnI : 306 ≤ 320 := by decide
  have hnJ : 318 ≤ 320 := by decide
  have hnO : 320 ≤ 320 := by decide
  obtain ⟨E, r, rb, Jq, hf, hj, hr9, hd9⟩ := hq n I J (by omega) hRel (xs (n + 1))
  rcases hd9 with ⟨rfl, ht, rfl⟩ | ⟨rfl, ht⟩
  · refine lv_aload_n hx hb dL_law_1301 rfl (lv_at hl 4 rfl) ?_
    refine lv_aload_n hx hb dL_law_1302 rfl (lv_at hl 5 rfl) ?_
    refine lv_iload hx hb dL_law_1303 (lv_at hl 0 rfl) ?_
    refine lv_iconst (v := (1 : Int32)) hx hb dL_law_1305 (by decide) ?_
    refine lv_iadd hx hb dL_law_1306 ?_
    refine zr_sldc (cn := 1) X hX hbl hbA hS (by omega) (by omega) rfl dL_law_1307 ?_
    refine lv_aload_n hx hb dL_law_1308 rfl (lv_at hl 2 rfl) ?_
    refine zr_cH (rest := []) (As := [.ref (g.2.2 + 0), .int (xs (n + 1)), .ref (g.2.2 + 318)]) X hP hS hnc (hn_L_segmentOf (g := g) (nc := 320) (I := I) (J := J) (O := O) hnI hnO l hf) ch_L_208 rfl hl.1 (Nat.le_of_ble_eq_true rfl) ⟨by omega, by omega⟩ ⟨by omega, by omega⟩ dL_law_1309 rfl (fun H locs hP hS => ?_)
    refine lv_istore (lv' := [(6, .int (0 : Int32)), (5, .int (Int32.ofNat n)), (4, .ref (g.2.2 + 319)), (3, .ref (g.2.2 + 318)), (2, .ref (g.2.2 + 306)), (1, .ref (g.2.2 + 0)), (0, .ref b)]) hx hb dL_law_1312 hl (by decide) rfl (fun ls hl => ?_)
    refine lv_aload_n hx hb dL_law_1314 rfl (lv_at hl 4 rfl) ?_
    refine lv_aload_n hx hb dL_law_1315 rfl (lv_at hl 6 rfl) ?_
    refine lv_iload hx hb dL_law_1316 (lv_at hl 1 rfl) ?_
    refine lv_iconst (v := (1 : Int32)) hx hb dL_law_1318 (by decide) ?_
    refine lv_iadd hx hb dL_law_1319 ?_
    refine zr_sldc (cn := 1) X hX hbl hbA hS (by omega) (by omega) rfl dL_law_1320 ?_
    refine zr_cVi (rest := []) (As := [.int (xs (n + 1))]) X hP hS (ct_X8_segmentOf (g := g) (nc := 320) (I := I) (J := J) (O := (wr O 318 0 r)) hnJ l hj) cw_L_210 (zr_recv X hP (by omega) (zb_ceJo zk_306 (by decide)) rfl) rfl hl.1 (Nat.le_of_ble_eq_true rfl) ⟨by omega, by omega⟩ ⟨by omega, by omega⟩ dL_law_1321 rfl (fun H locs hP hS => ?_)
    refine lv_istore (lv' := [(7, .int r), (6, .int (0 : Int32)), (5, .int (Int32.ofNat n)), (4, .ref (g.2.2 + 319)), (3, .ref (g.2.2 + 318)), (2, .ref (g.2.2 + 306)), (1, .ref (g.2.2 + 0)), (0, .ref b)]) hx hb dL_law_1324 hl (by decide) rfl (fun ls hl => ?_)
    refine lv_aload_n hx hb dL_law_1326 rfl (lv_at hl 5 rfl) ?_
    refine zr_cVi (rest := []) (As := []) X hP hS (ct_X8_thrown (g := g) (nc := 320) (I := I) (J := Jq) (O := (wr O 318 0 r)) hnJ l rfl) cw_L_132 (zr_recv X hP (by omega) (zb_ceJo zk_306 (by decide)) rfl) rfl hl.1 (Nat.le_of_ble_eq_true rfl) ⟨by omega, by omega⟩ ⟨by omega, by omega⟩ dL_law_1327 rfl (fun H locs hP hS => ?_)
    refine lv_iload hx hb dL_law_1330 (lv_at hl 1 rfl) ?_
    refine lv_icmp_eq (tgt := 1337) hx hb dL_law_1332 (by decide) (fun _ => ?_) (fun hc => absurd ht hc)
    refine lv_iload hx hb dL_law_1337 (lv_at hl 1 rfl) ?_
    refine lv_if_ne (tgt := 1354) hx hb dL_law_1339 (by decide) (fun hc => absurd rfl hc) (fun _ => ?_)
    refine lv_aload_n hx hb dL_law_1342 rfl (lv_at hl 4 rfl) ?_
    refine lv_iconst (v := (0 : Int32)) hx hb dL_law_1343 (by decide) ?_
    refine zr_lald X hP hnO dL_law_1344 ?_
    refine lv_iload hx hb dL_law_1345 (lv_at hl 0 rfl) ?_
    refine lv_i2l hx hb dL_law_1347 rfl ?_
    refine zr_lcmp0 hx hb dL_law_1348 ?_
    refine lv_if_eq (tgt := 1354) hx hb dL_law_1349 (by decide) (fun _ => ?_) (fun hc => absurd rfl hc)
    refine lv_goto (tgt := 2550) hx hb dL_law_1354 (by decide) ?_
    exact W.widen (Nat.le_succ _) (Nat.le_add_right _ 6) (kk _ _ _ _ _ _ hr9 hP hS (lv_sub hl [2, 3, 4, 5, 6, 7] rfl))
  · refine lv_aload_n hx hb dL_law_1301 rfl (lv_at hl 4 rfl) ?_
    refine lv_aload_n hx hb dL_law_1302 rfl (lv_at hl 5 rfl) ?_
    refine lv_iload hx hb dL_law_1303 (lv_at hl 0 rfl) ?_
    refine lv_iconst (v := (1 : Int32)) hx hb dL_law_1305 (by decide) ?_
    refine lv_iadd hx hb dL_law_1306 ?_
    refine zr_sldc (cn := 1) X hX hbl hbA hS (by omega) (by omega) rfl dL_law_1307 ?_
    refine lv_aload_n hx hb dL_law_1308 rfl (lv_at hl 2 rfl) ?_
    refine zr_cH (rest := []) (As := [.ref (g.2.2 + 0), .int (xs (n + 1)), .ref (g.2.2 + 318)]) X hP hS hnc (hc1_L_segmentOf (g := g) (nc := 320) (I := I) (J := J) (O := O) hnI hnO l hlT hf) ch_L_208 rfl hl.1 (Nat.le_of_ble_eq_true rfl) ⟨by omega, by omega⟩ ⟨by omega, by omega⟩ dL_law_1309 rfl (fun H locs hP hS => ?_)
    refine lv_istore (lv' := [(6, .int (1 : Int32)), (5, .int (Int32.ofNat n)), (4, .ref (g.2.2 + 319)), (3, .ref (g.2.2 + 318)), (2, .ref (g.2.2 + 306)), (1, .ref (g.2.2 + 0)), (0, .ref b)]) hx hb dL_law_1312 hl (by decide) rfl (fun ls hl => ?_)
    refine lv_aload_n hx hb dL_law_1314 rfl (lv_at hl 4 rfl) ?_
    refine lv_aload_n hx hb dL_law_1315 rfl (lv_at hl 6 rfl) ?_
    refine lv_iload hx hb dL_law_1316 (lv_at hl 1 rfl) ?_
    refine lv_iconst (v := (1 : Int32)) hx hb dL_law_1318 (by decide) ?_
    refine lv_iadd hx hb dL_law_1319 ?_
    refine zr_sldc (cn := 1) X hX hbl hbA hS (by omega) (by omega) rfl dL_law_1320 ?_
    refine zr_cVi (rest := []) (As := [.int (xs (n + 1))]) X hP hS (ct_X8_segmentOf (g := g) (nc := 320) (I := I) (J := J) (O := O) hnJ l hj) cw_L_210 (zr_recv X hP (by omega) (zb_ceJo zk_306 (by decide)) rfl) rfl hl.1 (Nat.le_of_ble_eq_true rfl) ⟨by omega, by omega⟩ ⟨by omega, by omega⟩ dL_law_1321 rfl (fun H locs hP hS => ?_)
    refine lv_istore (lv' := [(7, .int rb), (6, .int (1 : Int32)), (5, .int (Int32.ofNat n)), (4, .ref (g.2.2 + 319)), (3, .ref (g.2.2 + 318)), (2, .ref (g.2.2 + 306)), (1, .ref (g.2.2 + 0)), (0, .ref b)]) hx hb dL_law_1324 hl (by decide) rfl (fun ls hl => ?_)
    refine lv_aload_n hx hb dL_law_1326 rfl (lv_at hl 5 rfl) ?_
    refine zr_cVi (rest := []) (As := []) X hP hS (ct_X8_thrown (g := g) (nc := 320) (I := I) (J := Jq) (O := O) hnJ l rfl) cw_L_132 (zr_recv X hP (by omega) (zb_ceJo zk_306 (by decide)) rfl) rfl hl.1 (Nat.le_of_ble_eq_true rfl) ⟨by omega, by omega⟩ ⟨by omega, by omega⟩ dL_law_1327 rfl (fun H locs hP hS => ?_)
    refine lv_iload hx hb dL_law_1330 (lv_at hl 1 rfl) ?_
    refine lv_icmp_eq (tgt := 1337) hx hb dL_law_1332 (by decide) (fun _ => ?_) (fun hc => absurd ht hc)
    refine lv_iload hx hb dL_law_1337 (lv_at hl 1 rfl) ?_
    refine lv_if_ne (tgt := 1354) hx hb dL_law_1339 (by decide) (fun _ => ?_) (fun hc => absurd hc (by decide))
    refine lv_goto (tgt := 2550) hx hb dL_law_1354 (by decide) ?_
    exact kk _ _ _ _ _ _ hr9 hP hS (lv_sub hl [2, 3, 4, 5, 6, 7] rfl)

set_option maxHeartbeats 1000000 in
theorem lw_c22 {p : Program} {l : Launch} {e : Env} {R : Room} {s : State} {m : MethodId} {args : Array Value} {below : List Frame} {meth : Method} {c : Code} {H : Heap} {locs : List Loc} {cells slots : Nat} {Q : State → Prop} {g : zb_G} {ls : Array Slot} {b L n : Nat} {xs : Nat → Int32} {Rel : Nat → Mem → Mem → Prop} (hq : eqP_22 Rel) {I J O : Mem} (hRel : Rel n I J) (hlT : l.stackTraces = false) (X : zb_X g p m c cL_law 10 s args RL meth) (hnc : zb_Nc s) (hX : va_X b L xs s s.heap) (hbl : b < s.heap.size) (hbA : ¬ zb_A g b) (hn : n + 6 ≤ L) (hL : L ≤ 3072)
    (hP : va_P g.1 vwCl (zb_ws g 320 (zb_ce g I J O)) H) (hS : va_S (zb_A g) s.heap H locs) (hl : lv_has ls 10 [(5, .int (Int32.ofNat n)), (4, .ref (g.2.2 + 319)), (3, .ref (g.2.2 + 318)), (2, .ref (g.2.2 + 306)), (1, .ref (g.2.2 + 0)), (0, .ref b)]) (h1 : 13 ≤ R.frames) (h2 : 472 ≤ R.locals) (h3 : cells + 1 ≤ R.cells) (h4 : slots + 6 ≤ R.slots)
    (kk : ∀ (I J O : Mem) (H : Heap) (locs : List Loc) (ls : Array Slot), Rel (n + 6) I J → va_P g.1 vwCl (zb_ws g 320 (zb_ce g I J O)) H → va_S (zb_A g) s.heap H locs → lv_has ls 10 [(5, .int (Int32.ofNat n)), (4, .ref (g.2.2 + 319)), (3, .ref (g.2.2 + 318)), (2, .ref (g.2.2 + 306)), (1, .ref (g.2.2 + 0)), (0, .ref b)] → W p l e R s m args below meth c H locs (cells + 1) (slots + 6) Q (F0 m 2550 ls [])) : W p l e R s m args below meth c H locs cells slots Q (F0 m 1357 ls []) := by
  have hx := X.1.1
  have hb := X.1.2.1
  have hnI : 306 ≤ 320 := by decide
  have hnJ : 318 ≤ 320 := by decide
  have hnO : 320 ≤ 320 := by decide
  obtain ⟨r, Jq, hf, hj, hr9⟩ := hq n I J (by omega) hRel ()
  refine lv_aload_n hx hb dL_law_1357 rfl (lv_at hl 4 rfl) ?_
  refine zr_cVi (rest := []) (As := []) X hP hS (ct_X7_weakest (g := g) (nc := 320) (I := I) (J := J) (O := O) hnI l hf) cw_L_211 (zr_recv X hP (by omega) (zb_ceIo zk_0 (by decide)) rfl) rfl hl.1 (Nat.le_of_ble_eq_true rfl) ⟨by omega, by omega⟩ ⟨by omega, by omega⟩ dL_law_1358 rfl (fun H locs hP hS => ?_)
  refine lv_aload_n hx hb dL_law_1361 rfl (lv_at hl 3 rfl) ?_
  refine zr_cVi (rest := [.int r]) (As := []) X hP hS (ct_X8_weakest (g := g) (nc := 320) (I := I) (J := J) (O := O) hnJ l hj) cw_L_214 (zr_recv X hP (by omega) (zb_ceJo zk_306 (by decide)) rfl) rfl hl.1 (Nat.le_of_ble_eq_true rfl) ⟨by omega, by omega⟩ ⟨by omega, by omega⟩ dL_law_1362 rfl (fun H locs hP hS => ?_)
  refine lv_icmp_eq (tgt := 2550) hx hb dL_law_1365 (by decide) (fun _ => ?_) (fun hc => absurd rfl hc)
  exact W.widen (Nat.le_succ _) (Nat.le_add_right _ 6) (kk _ _ _ _ _ _ hr9 hP hS (lv_sub hl [0, 1, 2, 3, 4, 5] rfl))

set_option maxHeartbeats 1000000 in
theorem lw_c23 {p : Program} {l : Launch} {e : Env} {R : Room} {s : State} {m : MethodId} {args : Array Value} {below : List Frame} {meth : Method} {c : Code} {H : Heap} {locs : List Loc} {cells slots : Nat} {Q : State → Prop} {g : zb_G} {ls : Array Slot} {b L n : Nat} {xs : Nat → Int32} {Rel : Nat → Mem → Mem → Prop} (hq : eqP_23 Rel) {I J O : Mem} (hRel : Rel n I J) (hlT : l.stackTraces = false) (X : zb_X g p m c cL_law 10 s args RL meth) (hnc : zb_Nc s) (hX : va_X b L xs s s.heap) (hbl : b < s.heap.size) (hbA : ¬ zb_A g b) (hn : n + 6 ≤ L) (hL : L ≤ 3072)
    (hP : va_P g.1 vwCl (zb_ws g 320 (zb_ce g I J O)) H) (hS : va_S (zb_A g) s.heap H locs) (hl : lv_has ls 10 [(5, .int (Int32.ofNat n)), (4, .ref (g.2.2 + 319)), (3, .ref (g.2.2 + 318)), (2, .ref (g.2.2 + 306)), (1, .ref (g.2.2 + 0)), (0, .ref b)]) (h1 : 13 ≤ R.frames) (h2 : 472 ≤ R.locals) (h3 : cells + 1 ≤ R.cells) (h4 : slots + 6 ≤ R.slots)
    (kk : ∀ (I J O : Mem) (H : Heap) (locs : List Loc) (ls : Array Slot), Rel (n + 6) I J → va_P g.1 vwCl (zb_ws g 320 (zb_ce g I J O)) H → va_S (zb_A g) s.heap H locs → lv_has ls 10 [(5, .int (Int32.ofNat n)), (4, .ref (g.2.2 + 319)), (3, .ref (g.2.2 + 318)), (2, .ref (g.2.2 + 306)), (1, .ref (g.2.2 + 0)), (0, .ref b)] → W p l e R s m args below meth c H locs (cells + 1) (slots + 6) Q (F0 m 2550 ls [])) : W p l e R s m args below meth c H locs cells slots Q (F0 m 1370 ls []) := by
  have hx := X.1.1
  have hb := X.1.2.1
  have hnI : 306 ≤ 320 := by decide
  have hnJ : 318 ≤ 320 := by decide
  have hnO : 320 ≤ 320 := by decide
  obtain ⟨E, r, rb, Jq, hf, hj, hr9, hd9⟩ := hq n I J (by omega) hRel (xs (n + 1)) (xs (n + 2)) (xs (n + 3))
  rcases hd9 with ⟨rfl, ht, rfl⟩ | ⟨rfl, ht⟩ | ⟨rfl, ht⟩
  · refine lv_aload_n hx hb dL_law_1370 rfl (lv_at hl 4 rfl) ?_
    refine lv_aload_n hx hb dL_law_1371 rfl (lv_at hl 5 rfl) ?_
    refine lv_iload hx hb dL_law_1372 (lv_at hl 0 rfl) ?_
    refine lv_iconst (v := (1 : Int32)) hx hb dL_law_1374 (by decide) ?_
    refine lv_iadd hx hb dL_law_1375 ?_
    refine zr_sldc (cn := 1) X hX hbl hbA hS (by omega) (by omega) rfl dL_law_1376 ?_
    refine lv_aload_n hx hb dL_law_1377 rfl (lv_at hl 5 rfl) ?_
    refine lv_iload hx hb dL_law_1378 (lv_at hl 0 rfl) ?_
    refine lv_iconst (v := (2 : Int32)) hx hb dL_law_1380 (by decide) ?_
    refine lv_iadd hx hb dL_law_1381 ?_
    refine zr_sldc (cn := 2) X hX hbl hbA hS (by omega) (by omega) rfl dL_law_1382 ?_
    refine lv_aload_n hx hb dL_law_1383 rfl (lv_at hl 5 rfl) ?_
    refine lv_iload hx hb dL_law_1384 (lv_at hl 0 rfl) ?_
    refine lv_iconst (v := (3 : Int32)) hx hb dL_law_1386 (by decide) ?_
    refine lv_iadd hx hb dL_law_1387 ?_
    refine zr_sldc (cn := 3) X hX hbl hbA hS (by omega) (by omega) rfl dL_law_1388 ?_
    refine lv_aload_n hx hb dL_law_1389 rfl (lv_at hl 2 rfl) ?_
    refine zr_cH (rest := []) (As := [.ref (g.2.2 + 0), .int (xs (n + 1)), .int (xs (n + 2)), .int (xs (n + 3)), .ref (g.2.2 + 318)]) X hP hS hnc (hn_L_wouldBreak (g := g) (nc := 320) (I := I) (J := J) (O := O) hnI hnO l hf) ch_L_215 rfl hl.1 (Nat.le_of_ble_eq_true rfl) ⟨by omega, by omega⟩ ⟨by omega, by omega⟩ dL_law_1390 rfl (fun H locs hP hS => ?_)
    refine lv_istore (lv' := [(6, .int (0 : Int32)), (5, .int (Int32.ofNat n)), (4, .ref (g.2.2 + 319)), (3, .ref (g.2.2 + 318)), (2, .ref (g.2.2 + 306)), (1, .ref (g.2.2 + 0)), (0, .ref b)]) hx hb dL_law_1393 hl (by decide) rfl (fun ls hl => ?_)
    refine lv_aload_n hx hb dL_law_1395 rfl (lv_at hl 4 rfl) ?_
    refine lv_aload_n hx hb dL_law_1396 rfl (lv_at hl 6 rfl) ?_
    refine lv_iload hx hb dL_law_1397 (lv_at hl 1 rfl) ?_
    refine lv_iconst (v := (1 : Int32)) hx hb dL_law_1399 (by decide) ?_
    refine lv_iadd hx hb dL_law_1400 ?_
    refine zr_sldc (cn := 1) X hX hbl hbA hS (by omega) (by omega) rfl dL_law_1401 ?_
    refine lv_aload_n hx hb dL_law_1402 rfl (lv_at hl 6 rfl) ?_
    refine lv_iload hx hb dL_law_1403 (lv_at hl 1 rfl) ?_
    refine lv_iconst (v := (2 : Int32)) hx hb dL_law_1405 (by decide) ?_
    refine lv_iadd hx hb dL_law_1406 ?_
    refine zr_sldc (cn := 2) X hX hbl hbA hS (by omega) (by omega) rfl dL_law_1407 ?_
    refine lv_aload_n hx hb dL_law_1408 rfl (lv_at hl 6 rfl) ?_
    refine lv_iload hx hb dL_law_1409 (lv_at hl 1 rfl) ?_
    refine lv_iconst (v := (3 : Int32)) hx hb dL_law_1411 (by decide) ?_
    refine lv_iadd hx hb dL_law_1412 ?_
    refine zr_sldc (cn := 3) X hX hbl hbA hS (by omega) (by omega) rfl dL_law_1413 ?_
    refine zr_cVi (rest := []) (As := [.int (xs (n + 1)), .int (xs (n + 2)), .int (xs (n + 3))]) X hP hS (ct_X8_wouldBreak (g := g) (nc := 320) (I := I) (J := J) (O := (wr O 318 0 r)) hnJ l hj) cw_L_218 (zr_recv X hP (by omega) (zb_ceJo zk_306 (by decide)) rfl) rfl hl.1 (Nat.le_of_ble_eq_true rfl) ⟨by omega, by omega⟩ ⟨by omega, by omega⟩ dL_law_1414 rfl (fun H locs hP hS => ?_)
    refine lv_istore (lv' := [(7, .int r), (6, .int (0 : Int32)), (5, .int (Int32.ofNat n)), (4, .ref (g.2.2 + 319)), (3, .ref (g.2.2 + 318)), (2, .ref (g.2.2 + 306)), (1, .ref (g.2.2 + 0)), (0, .ref b)]) hx hb dL_law_1417 hl (by decide) rfl (fun ls hl => ?_)
    refine lv_aload_n hx hb dL_law_1419 rfl (lv_at hl 5 rfl) ?_
    refine zr_cVi (rest := []) (As := []) X hP hS (ct_X8_thrown (g := g) (nc := 320) (I := I) (J := Jq) (O := (wr O 318 0 r)) hnJ l rfl) cw_L_132 (zr_recv X hP (by omega) (zb_ceJo zk_306 (by decide)) rfl) rfl hl.1 (Nat.le_of_ble_eq_true rfl) ⟨by omega, by omega⟩ ⟨by omega, by omega⟩ dL_law_1420 rfl (fun H locs hP hS => ?_)
    refine lv_iload hx hb dL_law_1423 (lv_at hl 1 rfl) ?_
    refine lv_icmp_eq (tgt := 1430) hx hb dL_law_1425 (by decide) (fun _ => ?_) (fun hc => absurd ht hc)
    refine lv_iload hx hb dL_law_1430 (lv_at hl 1 rfl) ?_
    refine lv_if_ne (tgt := 1447) hx hb dL_law_1432 (by decide) (fun hc => absurd rfl hc) (fun _ => ?_)
    refine lv_aload_n hx hb dL_law_1435 rfl (lv_at hl 4 rfl) ?_
    refine lv_iconst (v := (0 : Int32)) hx hb dL_law_1436 (by decide) ?_
    refine zr_lald X hP hnO dL_law_1437 ?_
    refine lv_iload hx hb dL_law_1438 (lv_at hl 0 rfl) ?_
    refine lv_i2l hx hb dL_law_1440 rfl ?_
    refine zr_lcmp0 hx hb dL_law_1441 ?_
    refine lv_if_eq (tgt := 1447) hx hb dL_law_1442 (by decide) (fun _ => ?_) (fun hc => absurd rfl hc)
    refine lv_goto (tgt := 2550) hx hb dL_law_1447 (by decide) ?_
    exact W.widen (Nat.le_succ _) (Nat.le_add_right _ 6) (kk _ _ _ _ _ _ hr9 hP hS (lv_sub hl [2, 3, 4, 5, 6, 7] rfl))
  · refine lv_aload_n hx hb dL_law_1370 rfl (lv_at hl 4 rfl) ?_
    refine lv_aload_n hx hb dL_law_1371 rfl (lv_at hl 5 rfl) ?_
    refine lv_iload hx hb dL_law_1372 (lv_at hl 0 rfl) ?_
    refine lv_iconst (v := (1 : Int32)) hx hb dL_law_1374 (by decide) ?_
    refine lv_iadd hx hb dL_law_1375 ?_
    refine zr_sldc (cn := 1) X hX hbl hbA hS (by omega) (by omega) rfl dL_law_1376 ?_
    refine lv_aload_n hx hb dL_law_1377 rfl (lv_at hl 5 rfl) ?_
    refine lv_iload hx hb dL_law_1378 (lv_at hl 0 rfl) ?_
    refine lv_iconst (v := (2 : Int32)) hx hb dL_law_1380 (by decide) ?_
    refine lv_iadd hx hb dL_law_1381 ?_
    refine zr_sldc (cn := 2) X hX hbl hbA hS (by omega) (by omega) rfl dL_law_1382 ?_
    refine lv_aload_n hx hb dL_law_1383 rfl (lv_at hl 5 rfl) ?_
    refine lv_iload hx hb dL_law_1384 (lv_at hl 0 rfl) ?_
    refine lv_iconst (v := (3 : Int32)) hx hb dL_law_1386 (by decide) ?_
    refine lv_iadd hx hb dL_law_1387 ?_
    refine zr_sldc (cn := 3) X hX hbl hbA hS (by omega) (by omega) rfl dL_law_1388 ?_
    refine lv_aload_n hx hb dL_law_1389 rfl (lv_at hl 2 rfl) ?_
    refine zr_cH (rest := []) (As := [.ref (g.2.2 + 0), .int (xs (n + 1)), .int (xs (n + 2)), .int (xs (n + 3)), .ref (g.2.2 + 318)]) X hP hS hnc (hc1_L_wouldBreak (g := g) (nc := 320) (I := I) (J := J) (O := O) hnI hnO l hlT hf) ch_L_215 rfl hl.1 (Nat.le_of_ble_eq_true rfl) ⟨by omega, by omega⟩ ⟨by omega, by omega⟩ dL_law_1390 rfl (fun H locs hP hS => ?_)
    refine lv_istore (lv' := [(6, .int (1 : Int32)), (5, .int (Int32.ofNat n)), (4, .ref (g.2.2 + 319)), (3, .ref (g.2.2 + 318)), (2, .ref (g.2.2 + 306)), (1, .ref (g.2.2 + 0)), (0, .ref b)]) hx hb dL_law_1393 hl (by decide) rfl (fun ls hl => ?_)
    refine lv_aload_n hx hb dL_law_1395 rfl (lv_at hl 4 rfl) ?_
    refine lv_aload_n hx hb dL_law_1396 rfl (lv_at hl 6 rfl) ?_
    refine lv_iload hx hb dL_law_1397 (lv_at hl 1 rfl) ?_
    refine lv_iconst (v := (1 : Int32)) hx hb dL_law_1399 (by decide) ?_
    refine lv_iadd hx hb dL_law_1400 ?_
    refine zr_sldc (cn := 1) X hX hbl hbA hS (by omega) (by omega) rfl dL_law_1401 ?_
    refine lv_aload_n hx hb dL_law_1402 rfl (lv_at hl 6 rfl) ?_
    refine lv_iload hx hb dL_law_1403 (lv_at hl 1 rfl) ?_
    refine lv_iconst (v := (2 : Int32)) hx hb dL_law_1405 (by decide) ?_
    refine lv_iadd hx hb dL_law_1406 ?_
    refine zr_sldc (cn := 2) X hX hbl hbA hS (by omega) (by omega) rfl dL_law_1407 ?_
    refine lv_aload_n hx hb dL_law_1408 rfl (lv_at hl 6 rfl) ?_
    refine lv_iload hx hb dL_law_1409 (lv_at hl 1 rfl) ?_
    refine lv_iconst (v := (3 : Int32)) hx hb dL_law_1411 (by decide) ?_
    refine lv_iadd hx hb dL_law_1412 ?_
    refine zr_sldc (cn := 3) X hX hbl hbA hS (by omega) (by omega) rfl dL_law_1413 ?_
    refine zr_cVi (rest := []) (As := [.int (xs (n + 1)), .int (xs (n + 2)), .int (xs (n + 3))]) X hP hS (ct_X8_wouldBreak (g := g) (nc := 320) (I := I) (J := J) (O := O) hnJ l hj) cw_L_218 (zr_recv X hP (by omega) (zb_ceJo zk_306 (by decide)) rfl) rfl hl.1 (Nat.le_of_ble_eq_true rfl) ⟨by omega, by omega⟩ ⟨by omega, by omega⟩ dL_law_1414 rfl (fun H locs hP hS => ?_)
    refine lv_istore (lv' := [(7, .int rb), (6, .int (1 : Int32)), (5, .int (Int32.ofNat n)), (4, .ref (g.2.2 + 319)), (3, .ref (g.2.2 + 318)), (2, .ref (g.2.2 + 306)), (1, .ref (g.2.2 + 0)), (0, .ref b)]) hx hb dL_law_1417 hl (by decide) rfl (fun ls hl => ?_)
    refine lv_aload_n hx hb dL_law_1419 rfl (lv_at hl 5 rfl) ?_
    refine zr_cVi (rest := []) (As := []) X hP hS (ct_X8_thrown (g := g) (nc := 320) (I := I) (J := Jq) (O := O) hnJ l rfl) cw_L_132 (zr_recv X hP (by omega) (zb_ceJo zk_306 (by decide)) rfl) rfl hl.1 (Nat.le_of_ble_eq_true rfl) ⟨by omega, by omega⟩ ⟨by omega, by omega⟩ dL_law_1420 rfl (fun H locs hP hS => ?_)
    refine lv_iload hx hb dL_law_1423 (lv_at hl 1 rfl) ?_
    refine lv_icmp_eq (tgt := 1430) hx hb dL_law_1425 (by decide) (fun _ => ?_) (fun hc => absurd ht hc)
    refine lv_iload hx hb dL_law_1430 (lv_at hl 1 rfl) ?_
    refine lv_if_ne (tgt := 1447) hx hb dL_law_1432 (by decide) (fun _ => ?_) (fun hc => absurd hc (by decide))
    refine lv_goto (tgt := 2550) hx hb dL_law_1447 (by decide) ?_
    exact kk _ _ _ _ _ _ hr9 hP hS (lv_sub hl [2, 3, 4, 5, 6, 7] rfl)
  · refine lv_aload_n hx hb dL_law_1370 rfl (lv_at hl 4 rfl) ?_
    refine lv_aload_n hx hb dL_law_1371 rfl (lv_at hl 5 rfl) ?_
    refine lv_iload hx hb dL_law_1372 (lv_at hl 0 rfl) ?_
    refine lv_iconst (v := (1 : Int32)) hx hb dL_law_1374 (by decide) ?_
    refine lv_iadd hx hb dL_law_1375 ?_
    refine zr_sldc (cn := 1) X hX hbl hbA hS (by omega) (by omega) rfl dL_law_1376 ?_
    refine lv_aload_n hx hb dL_law_1377 rfl (lv_at hl 5 rfl) ?_
    refine lv_iload hx hb dL_law_1378 (lv_at hl 0 rfl) ?_
    refine lv_iconst (v := (2 : Int32)) hx hb dL_law_1380 (by decide) ?_
    refine lv_iadd hx hb dL_law_1381 ?_
    refine zr_sldc (cn := 2) X hX hbl hbA hS (by omega) (by omega) rfl dL_law_1382 ?_
    refine lv_aload_n hx hb dL_law_1383 rfl (lv_at hl 5 rfl) ?_
    refine lv_iload hx hb dL_law_1384 (lv_at hl 0 rfl) ?_
    refine lv_iconst (v := (3 : Int32)) hx hb dL_law_1386 (by decide) ?_
    refine lv_iadd hx hb dL_law_1387 ?_
    refine zr_sldc (cn := 3) X hX hbl hbA hS (by omega) (by omega) rfl dL_law_1388 ?_
    refine lv_aload_n hx hb dL_law_1389 rfl (lv_at hl 2 rfl) ?_
    refine zr_cH (rest := []) (As := [.ref (g.2.2 + 0), .int (xs (n + 1)), .int (xs (n + 2)), .int (xs (n + 3)), .ref (g.2.2 + 318)]) X hP hS hnc (hc2_L_wouldBreak (g := g) (nc := 320) (I := I) (J := J) (O := O) hnI hnO l hlT hf) ch_L_215 rfl hl.1 (Nat.le_of_ble_eq_true rfl) ⟨by omega, by omega⟩ ⟨by omega, by omega⟩ dL_law_1390 rfl (fun H locs hP hS => ?_)
    refine lv_istore (lv' := [(6, .int (2 : Int32)), (5, .int (Int32.ofNat n)), (4, .ref (g.2.2 + 319)), (3, .ref (g.2.2 + 318)), (2, .ref (g.2.2 + 306)), (1, .ref (g.2.2 + 0)), (0, .ref b)]) hx hb dL_law_1393 hl (by decide) rfl (fun ls hl => ?_)
    refine lv_aload_n hx hb dL_law_1395 rfl (lv_at hl 4 rfl) ?_
    refine lv_aload_n hx hb dL_law_1396 rfl (lv_at hl 6 rfl) ?_
    refine lv_iload hx hb dL_law_1397 (lv_at hl 1 rfl) ?_
    refine lv_iconst (v := (1 : Int32)) hx hb dL_law_1399 (by decide) ?_
    refine lv_iadd hx hb dL_law_1400 ?_
    refine zr_sldc (cn := 1) X hX hbl hbA hS (by omega) (by omega) rfl dL_law_1401 ?_
    refine lv_aload_n hx hb dL_law_1402 rfl (lv_at hl 6 rfl) ?_
    refine lv_iload hx hb dL_law_1403 (lv_at hl 1 rfl) ?_
    refine lv_iconst (v := (2 : Int32)) hx hb dL_law_1405 (by decide) ?_
    refine lv_iadd hx hb dL_law_1406 ?_
    refine zr_sldc (cn := 2) X hX hbl hbA hS (by omega) (by omega) rfl dL_law_1407 ?_
    refine lv_aload_n hx hb dL_law_1408 rfl (lv_at hl 6 rfl) ?_
    refine lv_iload hx hb dL_law_1409 (lv_at hl 1 rfl) ?_
    refine lv_iconst (v := (3 : Int32)) hx hb dL_law_1411 (by decide) ?_
    refine lv_iadd hx hb dL_law_1412 ?_
    refine zr_sldc (cn := 3) X hX hbl hbA hS (by omega) (by omega) rfl dL_law_1413 ?_
    refine zr_cVi (rest := []) (As := [.int (xs (n + 1)), .int (xs (n + 2)), .int (xs (n + 3))]) X hP hS (ct_X8_wouldBreak (g := g) (nc := 320) (I := I) (J := J) (O := O) hnJ l hj) cw_L_218 (zr_recv X hP (by omega) (zb_ceJo zk_306 (by decide)) rfl) rfl hl.1 (Nat.le_of_ble_eq_true rfl) ⟨by omega, by omega⟩ ⟨by omega, by omega⟩ dL_law_1414 rfl (fun H locs hP hS => ?_)
    refine lv_istore (lv' := [(7, .int rb), (6, .int (2 : Int32)), (5, .int (Int32.ofNat n)), (4, .ref (g.2.2 + 319)), (3, .ref (g.2.2 + 318)), (2, .ref (g.2.2 + 306)), (1, .ref (g.2.2 + 0)), (0, .ref b)]) hx hb dL_law_1417 hl (by decide) rfl (fun ls hl => ?_)
    refine lv_aload_n hx hb dL_law_1419 rfl (lv_at hl 5 rfl) ?_
    refine zr_cVi (rest := []) (As := []) X hP hS (ct_X8_thrown (g := g) (nc := 320) (I := I) (J := Jq) (O := O) hnJ l rfl) cw_L_132 (zr_recv X hP (by omega) (zb_ceJo zk_306 (by decide)) rfl) rfl hl.1 (Nat.le_of_ble_eq_true rfl) ⟨by omega, by omega⟩ ⟨by omega, by omega⟩ dL_law_1420 rfl (fun H locs hP hS => ?_)
    refine lv_iload hx hb dL_law_1423 (lv_at hl 1 rfl) ?_
    refine lv_icmp_eq (tgt := 1430) hx hb dL_law_1425 (by decide) (fun _ => ?_) (fun hc => absurd ht hc)
    refine lv_iload hx hb dL_law_1430 (lv_at hl 1 rfl) ?_
    refine lv_if_ne (tgt := 1447) hx hb dL_law_1432 (by decide) (fun _ => ?_) (fun hc => absurd hc (by decide))
    refine lv_goto (tgt := 2550) hx hb dL_law_1447 (by decide) ?_
    exact kk _ _ _ _ _ _ hr9 hP hS (lv_sub hl [2, 3, 4, 5, 6, 7] rfl)

set_option maxHeartbeats 1000000 in
theorem lw_c24 {p : Program} {l : Launch} {e : Env} {R : Room} {s : State} {m : MethodId} {args : Array Value} {below : List Frame} {meth : Method} {c : Code} {H : Heap} {locs : List Loc} {cells slots : Nat} {Q : State → Prop} {g : zb_G} {ls : Array Slot} {b L n : Nat} {xs : Nat → Int32} {Rel : Nat → Mem → Mem → Prop} (hq : eqP_24 Rel) {I J O : Mem} (hRel : Rel n I J) (hlT : l.stackTraces = false) (X : zb_X g p m c cL_law 10 s args RL meth) (hnc : zb_Nc s) (hX : va_X b L xs s s.heap) (hbl : b < s.heap.size) (hbA : ¬ zb_A g b) (hn : n + 6 ≤ L) (hL : L ≤ 3072)
    (hP : va_P g.1 vwCl (zb_ws g 320 (zb_ce g I J O)) H) (hS : va_S (zb_A g) s.heap H locs) (hl : lv_has ls 10 [(5, .int (Int32.ofNat n)), (4, .ref (g.2.2 + 319)), (3, .ref (g.2.2 + 318)), (2, .ref (g.2.2 + 306)), (1, .ref (g.2.2 + 0)), (0, .ref b)]) (h1 : 13 ≤ R.frames) (h2 : 472 ≤ R.locals) (h3 : cells + 1 ≤ R.cells) (h4 : slots + 6 ≤ R.slots)
    (kk : ∀ (I J O : Mem) (H : Heap) (locs : List Loc) (ls : Array Slot), Rel (n + 6) I J → va_P g.1 vwCl (zb_ws g 320 (zb_ce g I J O)) H → va_S (zb_A g) s.heap H locs → lv_has ls 10 [(5, .int (Int32.ofNat n)), (4, .ref (g.2.2 + 319)), (3, .ref (g.2.2 + 318)), (2, .ref (g.2.2 + 306)), (1, .ref (g.2.2 + 0)), (0, .ref b)] → W p l e R s m args below meth c H locs (cells + 1) (slots + 6) Q (F0 m 2550 ls [])) : W p l e R s m args below meth c H locs cells slots Q (F0 m 1450 ls []) := by
  have hx := X.1.1
  have hb := X.1.2.1
  have hnI : 306 ≤ 320 := by decide
  have hnJ : 318 ≤ 320 := by decide
  have hnO : 320 ≤ 320 := by decide
  obtain ⟨E, r, rb, Jq, hf, hj, hr9, hd9⟩ := hq n I J (by omega) hRel (xs (n + 1)) (xs (n + 2)) (xs (n + 3))
  rcases hd9 with ⟨rfl, ht, rfl⟩ | ⟨rfl, ht⟩ | ⟨rfl, ht⟩
  · refine lv_aload_n hx hb dL_law_1450 rfl (lv_at hl 4 rfl) ?_
    refine lv_aload_n hx hb dL_law_1451 rfl (lv_at hl 5 rfl) ?_
    refine lv_iload hx hb dL_law_1452 (lv_at hl 0 rfl) ?_
    refine lv_iconst (v := (1 : Int32)) hx hb dL_law_1454 (by decide) ?_
    refine lv_iadd hx hb dL_law_1455 ?_
    refine zr_sldc (cn := 1) X hX hbl hbA hS (by omega) (by omega) rfl dL_law_1456 ?_
    refine lv_aload_n hx hb dL_law_1457 rfl (lv_at hl 5 rfl) ?_
    refine lv_iload hx hb dL_law_1458 (lv_at hl 0 rfl) ?_
    refine lv_iconst (v := (2 : Int32)) hx hb dL_law_1460 (by decide) ?_
    refine lv_iadd hx hb dL_law_1461 ?_
    refine zr_sldc (cn := 2) X hX hbl hbA hS (by omega) (by omega) rfl dL_law_1462 ?_
    refine lv_aload_n hx hb dL_law_1463 rfl (lv_at hl 5 rfl) ?_
    refine lv_iload hx hb dL_law_1464 (lv_at hl 0 rfl) ?_
    refine lv_iconst (v := (3 : Int32)) hx hb dL_law_1466 (by decide) ?_
    refine lv_iadd hx hb dL_law_1467 ?_
    refine zr_sldc (cn := 3) X hX hbl hbA hS (by omega) (by omega) rfl dL_law_1468 ?_
    refine lv_aload_n hx hb dL_law_1469 rfl (lv_at hl 2 rfl) ?_
    refine zr_cH (rest := []) (As := [.ref (g.2.2 + 0), .int (xs (n + 1)), .int (xs (n + 2)), .int (xs (n + 3)), .ref (g.2.2 + 318)]) X hP hS hnc (hn_L_wouldDrift (g := g) (nc := 320) (I := I) (J := J) (O := O) hnI hnO l hf) ch_L_219 rfl hl.1 (Nat.le_of_ble_eq_true rfl) ⟨by omega, by omega⟩ ⟨by omega, by omega⟩ dL_law_1470 rfl (fun H locs hP hS => ?_)
    refine lv_istore (lv' := [(6, .int (0 : Int32)), (5, .int (Int32.ofNat n)), (4, .ref (g.2.2 + 319)), (3, .ref (g.2.2 + 318)), (2, .ref (g.2.2 + 306)), (1, .ref (g.2.2 + 0)), (0, .ref b)]) hx hb dL_law_1473 hl (by decide) rfl (fun ls hl => ?_)
    refine lv_aload_n hx hb dL_law_1475 rfl (lv_at hl 4 rfl) ?_
    refine lv_aload_n hx hb dL_law_1476 rfl (lv_at hl 6 rfl) ?_
    refine lv_iload hx hb dL_law_1477 (lv_at hl 1 rfl) ?_
    refine lv_iconst (v := (1 : Int32)) hx hb dL_law_1479 (by decide) ?_
    refine lv_iadd hx hb dL_law_1480 ?_
    refine zr_sldc (cn := 1) X hX hbl hbA hS (by omega) (by omega) rfl dL_law_1481 ?_
    refine lv_aload_n hx hb dL_law_1482 rfl (lv_at hl 6 rfl) ?_
    refine lv_iload hx hb dL_law_1483 (lv_at hl 1 rfl) ?_
    refine lv_iconst (v := (2 : Int32)) hx hb dL_law_1485 (by decide) ?_
    refine lv_iadd hx hb dL_law_1486 ?_
    refine zr_sldc (cn := 2) X hX hbl hbA hS (by omega) (by omega) rfl dL_law_1487 ?_
    refine lv_aload_n hx hb dL_law_1488 rfl (lv_at hl 6 rfl) ?_
    refine lv_iload hx hb dL_law_1489 (lv_at hl 1 rfl) ?_
    refine lv_iconst (v := (3 : Int32)) hx hb dL_law_1491 (by decide) ?_
    refine lv_iadd hx hb dL_law_1492 ?_
    refine zr_sldc (cn := 3) X hX hbl hbA hS (by omega) (by omega) rfl dL_law_1493 ?_
    refine zr_cVi (rest := []) (As := [.int (xs (n + 1)), .int (xs (n + 2)), .int (xs (n + 3))]) X hP hS (ct_X8_wouldDrift (g := g) (nc := 320) (I := I) (J := J) (O := (wr O 318 0 r)) hnJ l hj) cw_L_221 (zr_recv X hP (by omega) (zb_ceJo zk_306 (by decide)) rfl) rfl hl.1 (Nat.le_of_ble_eq_true rfl) ⟨by omega, by omega⟩ ⟨by omega, by omega⟩ dL_law_1494 rfl (fun H locs hP hS => ?_)
    refine lv_istore (lv' := [(7, .int r), (6, .int (0 : Int32)), (5, .int (Int32.ofNat n)), (4, .ref (g.2.2 + 319)), (3, .ref (g.2.2 + 318)), (2, .ref (g.2.2 + 306)), (1, .ref (g.2.2 + 0)), (0, .ref b)]) hx hb dL_law_1497 hl (by decide) rfl (fun ls hl => ?_)
    refine lv_aload_n hx hb dL_law_1499 rfl (lv_at hl 5 rfl) ?_
    refine zr_cVi (rest := []) (As := []) X hP hS (ct_X8_thrown (g := g) (nc := 320) (I := I) (J := Jq) (O := (wr O 318 0 r)) hnJ l rfl) cw_L_132 (zr_recv X hP (by omega) (zb_ceJo zk_306 (by decide)) rfl) rfl hl.1 (Nat.le_of_ble_eq_true rfl) ⟨by omega, by omega⟩ ⟨by omega, by omega⟩ dL_law_1500 rfl (fun H locs hP hS => ?_)
    refine lv_iload hx hb dL_law_1503 (lv_at hl 1 rfl) ?_
    refine lv_icmp_eq (tgt := 1510) hx hb dL_law_1505 (by decide) (fun _ => ?_) (fun hc => absurd ht hc)
    refine lv_iload hx hb dL_law_1510 (lv_at hl 1 rfl) ?_
    refine lv_if_ne (tgt := 1527) hx hb dL_law_1512 (by decide) (fun hc => absurd rfl hc) (fun _ => ?_)
    refine lv_aload_n hx hb dL_law_1515 rfl (lv_at hl 4 rfl) ?_
    refine lv_iconst (v := (0 : Int32)) hx hb dL_law_1516 (by decide) ?_
    refine zr_lald X hP hnO dL_law_1517 ?_
    refine lv_iload hx hb dL_law_1518 (lv_at hl 0 rfl) ?_
    refine lv_i2l hx hb dL_law_1520 rfl ?_
    refine zr_lcmp0 hx hb dL_law_1521 ?_
    refine lv_if_eq (tgt := 1527) hx hb dL_law_1522 (by decide) (fun _ => ?_) (fun hc => absurd rfl hc)
    refine lv_goto (tgt := 2550) hx hb dL_law_1527 (by decide) ?_
    exact W.widen (Nat.le_succ _) (Nat.le_add_right _ 6) (kk _ _ _ _ _ _ hr9 hP hS (lv_sub hl [2, 3, 4, 5, 6, 7] rfl))
  · refine lv_aload_n hx hb dL_law_1450 rfl (lv_at hl 4 rfl) ?_
    refine lv_aload_n hx hb dL_law_1451 rfl (lv_at hl 5 rfl) ?_
    refine lv_iload hx hb dL_law_1452 (lv_at hl 0 rfl) ?_
    refine lv_iconst (v := (1 : Int32)) hx hb dL_law_1454 (by decide) ?_
    refine lv_iadd hx hb dL_law_1455 ?_
    refine zr_sldc (cn := 1) X hX hbl hbA hS (by omega) (by omega) rfl dL_law_1456 ?_
    refine lv_aload_n hx hb dL_law_1457 rfl (lv_at hl 5 rfl) ?_
    refine lv_iload hx hb dL_law_1458 (lv_at hl 0 rfl) ?_
    refine lv_iconst (v := (2 : Int32)) hx hb dL_law_1460 (by decide) ?_
    refine lv_iadd hx hb dL_law_1461 ?_
    refine zr_sldc (cn := 2) X hX hbl hbA hS (by omega) (by omega) rfl dL_law_1462 ?_
    refine lv_aload_n hx hb dL_law_1463 rfl (lv_at hl 5 rfl) ?_
    refine lv_iload hx hb dL_law_1464 (lv_at hl 0 rfl) ?_
    refine lv_iconst (v := (3 : Int32)) hx hb dL_law_1466 (by decide) ?_
    refine lv_iadd hx hb dL_law_1467 ?_
    refine zr_sldc (cn := 3) X hX hbl hbA hS (by omega) (by omega) rfl dL_law_1468 ?_
    refine lv_aload_n hx hb dL_law_1469 rfl (lv_at hl 2 rfl) ?_
    refine zr_cH (rest := []) (As := [.ref (g.2.2 + 0), .int (xs (n + 1)), .int (xs (n + 2)), .int (xs (n + 3)), .ref (g.2.2 + 318)]) X hP hS hnc (hc1_L_wouldDrift (g := g) (nc := 320) (I := I) (J := J) (O := O) hnI hnO l hlT hf) ch_L_219 rfl hl.1 (Nat.le_of_ble_eq_true rfl) ⟨by omega, by omega⟩ ⟨by omega, by omega⟩ dL_law_1470 rfl (fun H locs hP hS => ?_)
    refine lv_istore (lv' := [(6, .int (1 : Int32)), (5, .int (Int32.ofNat n)), (4, .ref (g.2.2 + 319)), (3, .ref (g.2.2 + 318)), (2, .ref (g.2.2 + 306)), (1, .ref (g.2.2 + 0)), (0, .ref b)]) hx hb dL_law_1473 hl (by decide) rfl (fun ls hl => ?_)
    refine lv_aload_n hx hb dL_law_1475 rfl (lv_at hl 4 rfl) ?_
    refine lv_aload_n hx hb dL_law_1476 rfl (lv_at hl 6 rfl) ?_
    refine lv_iload hx hb dL_law_1477 (lv_at hl 1 rfl) ?_
    refine lv_iconst (v := (1 : Int32)) hx hb dL_law_1479 (by decide) ?_
    refine lv_iadd hx hb dL_law_1480 ?_
    refine zr_sldc (cn := 1) X hX hbl hbA hS (by omega) (by omega) rfl dL_law_1481 ?_
    refine lv_aload_n hx hb dL_law_1482 rfl (lv_at hl 6 rfl) ?_
    refine lv_iload hx hb dL_law_1483 (lv_at hl 1 rfl) ?_
    refine lv_iconst (v := (2 : Int32)) hx hb dL_law_1485 (by decide) ?_
    refine lv_iadd hx hb dL_law_1486 ?_
    refine zr_sldc (cn := 2) X hX hbl hbA hS (by omega) (by omega) rfl dL_law_1487 ?_
    refine lv_aload_n hx hb dL_law_1488 rfl (lv_at hl 6 rfl) ?_
    refine lv_iload hx hb dL_law_1489 (lv_at hl 1 rfl) ?_
    refine lv_iconst (v := (3 : Int32)) hx hb dL_law_1491 (by decide) ?_
    refine lv_iadd hx hb dL_law_1492 ?_
    refine zr_sldc (cn := 3) X hX hbl hbA hS (by omega) (by omega) rfl dL_law_1493 ?_
    refine zr_cVi (rest := []) (As := [.int (xs (n + 1)), .int (xs (n + 2)), .int (xs (n + 3))]) X hP hS (ct_X8_wouldDrift (g := g) (nc := 320) (I := I) (J := J) (O := O) hnJ l hj) cw_L_221 (zr_recv X hP (by omega) (zb_ceJo zk_306 (by decide)) rfl) rfl hl.1 (Nat.le_of_ble_eq_true rfl) ⟨by omega, by omega⟩ ⟨by omega, by omega⟩ dL_law_1494 rfl (fun H locs hP hS => ?_)
    refine lv_istore (lv' := [(7, .int rb), (6, .int (1 : Int32)), (5, .int (Int32.ofNat n)), (4, .ref (g.2.2 + 319)), (3, .ref (g.2.2 + 318)), (2, .ref (g.2.2 + 306)), (1, .ref (g.2.2 + 0)), (0, .ref b)]) hx hb dL_law_1497 hl (by decide) rfl (fun ls hl => ?_)
    refine lv_aload_n hx hb dL_law_1499 rfl (lv_at hl 5 rfl) ?_
    refine zr_cVi (rest := []) (As := []) X hP hS (ct_X8_thrown (g := g) (nc := 320) (I := I) (J := Jq) (O := O) hnJ l rfl) cw_L_132 (zr_recv X hP (by omega) (zb_ceJo zk_306 (by decide)) rfl) rfl hl.1 (Nat.le_of_ble_eq_true rfl) ⟨by omega, by omega⟩ ⟨by omega, by omega⟩ dL_law_1500 rfl (fun H locs hP hS => ?_)
    refine lv_iload hx hb dL_law_1503 (lv_at hl 1 rfl) ?_
    refine lv_icmp_eq (tgt := 1510) hx hb dL_law_1505 (by decide) (fun _ => ?_) (fun hc => absurd ht hc)
    refine lv_iload hx hb dL_law_1510 (lv_at hl 1 rfl) ?_
    refine lv_if_ne (tgt := 1527) hx hb dL_law_1512 (by decide) (fun _ => ?_) (fun hc => absurd hc (by decide))
    refine lv_goto (tgt := 2550) hx hb dL_law_1527 (by decide) ?_
    exact kk _ _ _ _ _ _ hr9 hP hS (lv_sub hl [2, 3, 4, 5, 6, 7] rfl)
  · refine lv_aload_n hx hb dL_law_1450 rfl (lv_at hl 4 rfl) ?_
    refine lv_aload_n hx hb dL_law_1451 rfl (lv_at hl 5 rfl) ?_
    refine lv_iload hx hb dL_law_1452 (lv_at hl 0 rfl) ?_
    refine lv_iconst (v := (1 : Int32)) hx hb dL_law_1454 (by decide) ?_
    refine lv_iadd hx hb dL_law_1455 ?_
    refine zr_sldc (cn := 1) X hX hbl hbA hS (by omega) (by omega) rfl dL_law_1456 ?_
    refine lv_aload_n hx hb dL_law_1457 rfl (lv_at hl 5 rfl) ?_
    refine lv_iload hx hb dL_law_1458 (lv_at hl 0 rfl) ?_
    refine lv_iconst (v := (2 : Int32)) hx hb dL_law_1460 (by decide) ?_
    refine lv_iadd hx hb dL_law_1461 ?_
    refine zr_sldc (cn := 2) X hX hbl hbA hS (by omega) (by omega) rfl dL_law_1462 ?_
    refine lv_aload_n hx hb dL_law_1463 rfl (lv_at hl 5 rfl) ?_
    refine lv_iload hx hb dL_law_1464 (lv_at hl 0 rfl) ?_
    refine lv_iconst (v := (3 : Int32)) hx hb dL_law_1466 (by decide) ?_
    refine lv_iadd hx hb dL_law_1467 ?_
    refine zr_sldc (cn := 3) X hX hbl hbA hS (by omega) (by omega) rfl dL_law_1468 ?_
    refine lv_aload_n hx hb dL_law_1469 rfl (lv_at hl 2 rfl) ?_
    refine zr_cH (rest := []) (As := [.ref (g.2.2 + 0), .int (xs (n + 1)), .int (xs (n + 2)), .int (xs (n + 3)), .ref (g.2.2 + 318)]) X hP hS hnc (hc2_L_wouldDrift (g := g) (nc := 320) (I := I) (J := J) (O := O) hnI hnO l hlT hf) ch_L_219 rfl hl.1 (Nat.le_of_ble_eq_true rfl) ⟨by omega, by omega⟩ ⟨by omega, by omega⟩ dL_law_1470 rfl (fun H locs hP hS => ?_)
    refine lv_istore (lv' := [(6, .int (2 : Int32)), (5, .int (Int32.ofNat n)), (4, .ref (g.2.2 + 319)), (3, .ref (g.2.2 + 318)), (2, .ref (g.2.2 + 306)), (1, .ref (g.2.2 + 0)), (0, .ref b)]) hx hb dL_law_1473 hl (by decide) rfl (fun ls hl => ?_)
    refine lv_aload_n hx hb dL_law_1475 rfl (lv_at hl 4 rfl) ?_
    refine lv_aload_n hx hb dL_law_1476 rfl (lv_at hl 6 rfl) ?_
    refine lv_iload hx hb dL_law_1477 (lv_at hl 1 rfl) ?_
    refine lv_iconst (v := (1 : Int32)) hx hb dL_law_1479 (by decide) ?_
    refine lv_iadd hx hb dL_law_1480 ?_
    refine zr_sldc (cn := 1) X hX hbl hbA hS (by omega) (by omega) rfl dL_law_1481 ?_
    refine lv_aload_n hx hb dL_law_1482 rfl (lv_at hl 6 rfl) ?_
    refine lv_iload hx hb dL_law_1483 (lv_at hl 1 rfl) ?_
    refine lv_iconst (v := (2 : Int32)) hx hb dL_law_1485 (by decide) ?_
    refine lv_iadd hx hb dL_law_1486 ?_
    refine zr_sldc (cn := 2) X hX hbl hbA hS (by omega) (by omega) rfl dL_law_1487 ?_
    refine lv_aload_n hx hb dL_law_1488 rfl (lv_at hl 6 rfl) ?_
    refine lv_iload hx hb dL_law_1489 (lv_at hl 1 rfl) ?_
    refine lv_iconst (v := (3 : Int32)) hx hb dL_law_1491 (by decide) ?_
    refine lv_iadd hx hb dL_law_1492 ?_
    refine zr_sldc (cn := 3) X hX hbl hbA hS (by omega) (by omega) rfl dL_law_1493 ?_
    refine zr_cVi (rest := []) (As := [.int (xs (n + 1)), .int (xs (n + 2)), .int (xs (n + 3))]) X hP hS (ct_X8_wouldDrift (g := g) (nc := 320) (I := I) (J := J) (O := O) hnJ l hj) cw_L_221 (zr_recv X hP (by omega) (zb_ceJo zk_306 (by decide)) rfl) rfl hl.1 (Nat.le_of_ble_eq_true rfl) ⟨by omega, by omega⟩ ⟨by omega, by omega⟩ dL_law_1494 rfl (fun H locs hP hS => ?_)
    refine lv_istore (lv' := [(7, .int rb), (6, .int (2 : Int32)), (5, .int (Int32.ofNat n)), (4, .ref (g.2.2 + 319)), (3, .ref (g.2.2 + 318)), (2, .ref (g.2.2 + 306)), (1, .ref (g.2.2 + 0)), (0, .ref b)]) hx hb dL_law_1497 hl (by decide) rfl (fun ls hl => ?_)
    refine lv_aload_n hx hb dL_law_1499 rfl (lv_at hl 5 rfl) ?_
    refine zr_cVi (rest := []) (As := []) X hP hS (ct_X8_thrown (g := g) (nc := 320) (I := I) (J := Jq) (O := O) hnJ l rfl) cw_L_132 (zr_recv X hP (by omega) (zb_ceJo zk_306 (by decide)) rfl) rfl hl.1 (Nat.le_of_ble_eq_true rfl) ⟨by omega, by omega⟩ ⟨by omega, by omega⟩ dL_law_1500 rfl (fun H locs hP hS => ?_)
    refine lv_iload hx hb dL_law_1503 (lv_at hl 1 rfl) ?_
    refine lv_icmp_eq (tgt := 1510) hx hb dL_law_1505 (by decide) (fun _ => ?_) (fun hc => absurd ht hc)
    refine lv_iload hx hb dL_law_1510 (lv_at hl 1 rfl) ?_
    refine lv_if_ne (tgt := 1527) hx hb dL_law_1512 (by decide) (fun _ => ?_) (fun hc => absurd hc (by decide))
    refine lv_goto (tgt := 2550) hx hb dL_law_1527 (by decide) ?_
    exact kk _ _ _ _ _ _ hr9 hP hS (lv_sub hl [2, 3, 4, 5, 6, 7] rfl)

set_option maxHeartbeats 1000000 in
theorem lw_c25 {p : Program} {l : Launch} {e : Env} {R : Room} {s : State} {m : MethodId} {args : Array Value} {below : List Frame} {meth : Method} {c : Code} {H : Heap} {locs : List Loc} {cells slots : Nat} {Q : State → Prop} {g : zb_G} {ls : Array Slot} {b L n : Nat} {xs : Nat → Int32} {Rel : Nat → Mem → Mem → Prop} (hq : eqP_25 Rel) {I J O : Mem} (hRel : Rel n I J) (hlT : l.stackTraces = false) (X : zb_X g p m c cL_law 10 s args RL meth) (hnc : zb_Nc s) (hX : va_X b L xs s s.heap) (hbl : b < s.heap.size) (hbA : ¬ zb_A g b) (hn : n + 6 ≤ L) (hL : L ≤ 3072)
    (hP : va_P g.1 vwCl (zb_ws g 320 (zb_ce g I J O)) H) (hS : va_S (zb_A g) s.heap H locs) (hl : lv_has ls 10 [(5, .int (Int32.ofNat n)), (4, .ref (g.2.2 + 319)), (3, .ref (g.2.2 + 318)), (2, .ref (g.2.2 + 306)), (1, .ref (g.2.2 + 0)), (0, .ref b)]) (h1 : 13 ≤ R.frames) (h2 : 472 ≤ R.locals) (h3 : cells + 1 ≤ R.cells) (h4 : slots + 6 ≤ R.slots)
    (kk : ∀ (I J O : Mem) (H : Heap) (locs : List Loc) (ls : Array Slot), Rel (n + 6) I J → va_P g.1 vwCl (zb_ws g 320 (zb_ce g I J O)) H → va_S (zb_A g) s.heap H locs → lv_has ls 10 [(5, .int (Int32.ofNat n)), (4, .ref (g.2.2 + 319)), (3, .ref (g.2.2 + 318)), (2, .ref (g.2.2 + 306)), (1, .ref (g.2.2 + 0)), (0, .ref b)] → W p l e R s m args below meth c H locs (cells + 1) (slots + 6) Q (F0 m 2550 ls [])) : W p l e R s m args below meth c H locs cells slots Q (F0 m 1530 ls []) := by
  have hx := X.1.1
  have hb := X.1.2.1
  have hnI : 306 ≤ 320 := by decide
  have hnJ : 318 ≤ 320 := by decide
  have hnO : 320 ≤ 320 := by decide
  obtain ⟨r, Jq, hf, hj, hr9⟩ := hq n I J (by omega) hRel ()
  refine lv_aload_n hx hb dL_law_1530 rfl (lv_at hl 4 rfl) ?_
  refine zr_cVi (rest := []) (As := []) X hP hS (ct_X7_leastStorm (g := g) (nc := 320) (I := I) (J := J) (O := O) hnI l hf) cw_L_222 (zr_recv X hP (by omega) (zb_ceIo zk_0 (by decide)) rfl) rfl hl.1 (Nat.le_of_ble_eq_true rfl) ⟨by omega, by omega⟩ ⟨by omega, by omega⟩ dL_law_1531 rfl (fun H locs hP hS => ?_)
  refine lv_aload_n hx hb dL_law_1534 rfl (lv_at hl 3 rfl) ?_
  refine zr_cVi (rest := [.int r]) (As := []) X hP hS (ct_X8_leastStorm (g := g) (nc := 320) (I := I) (J := J) (O := O) hnJ l hj) cw_L_225 (zr_recv X hP (by omega) (zb_ceJo zk_306 (by decide)) rfl) rfl hl.1 (Nat.le_of_ble_eq_true rfl) ⟨by omega, by omega⟩ ⟨by omega, by omega⟩ dL_law_1535 rfl (fun H locs hP hS => ?_)
  refine lv_icmp_eq (tgt := 2550) hx hb dL_law_1538 (by decide) (fun _ => ?_) (fun hc => absurd rfl hc)
  exact W.widen (Nat.le_succ _) (Nat.le_add_right _ 6) (kk _ _ _ _ _ _ hr9 hP hS (lv_sub hl [0, 1, 2, 3, 4, 5] rfl))

set_option maxHeartbeats 1000000 in
theorem lw_c26 {p : Program} {l : Launch} {e : Env} {R : Room} {s : State} {m : MethodId} {args : Array Value} {below : List Frame} {meth : Method} {c : Code} {H : Heap} {locs : List Loc} {cells slots : Nat} {Q : State → Prop} {g : zb_G} {ls : Array Slot} {b L n : Nat} {xs : Nat → Int32} {Rel : Nat → Mem → Mem → Prop} (hq : eqP_26 Rel) {I J O : Mem} (hRel : Rel n I J) (hlT : l.stackTraces = false) (X : zb_X g p m c cL_law 10 s args RL meth) (hnc : zb_Nc s) (hX : va_X b L xs s s.heap) (hbl : b < s.heap.size) (hbA : ¬ zb_A g b) (hn : n + 6 ≤ L) (hL : L ≤ 3072)
    (hP : va_P g.1 vwCl (zb_ws g 320 (zb_ce g I J O)) H) (hS : va_S (zb_A g) s.heap H locs) (hl : lv_has ls 10 [(5, .int (Int32.ofNat n)), (4, .ref (g.2.2 + 319)), (3, .ref (g.2.2 + 318)), (2, .ref (g.2.2 + 306)), (1, .ref (g.2.2 + 0)), (0, .ref b)]) (h1 : 13 ≤ R.frames) (h2 : 472 ≤ R.locals) (h3 : cells + 1 ≤ R.cells) (h4 : slots + 6 ≤ R.slots)
    (kk : ∀ (I J O : Mem) (H : Heap) (locs : List Loc) (ls : Array Slot), Rel (n + 6) I J → va_P g.1 vwCl (zb_ws g 320 (zb_ce g I J O)) H → va_S (zb_A g) s.heap H locs → lv_has ls 10 [(5, .int (Int32.ofNat n)), (4, .ref (g.2.2 + 319)), (3, .ref (g.2.2 + 318)), (2, .ref (g.2.2 + 306)), (1, .ref (g.2.2 + 0)), (0, .ref b)] → W p l e R s m args below meth c H locs (cells + 1) (slots + 6) Q (F0 m 2550 ls [])) : W p l e R s m args below meth c H locs cells slots Q (F0 m 1543 ls []) := by
  have hx := X.1.1
  have hb := X.1.2.1
  have hnI : 306 ≤ 320 := by decide
  have hnJ : 318 ≤ 320 := by decide
  have hnO : 320 ≤ 320 := by decide
  obtain ⟨E, r, rb, Jq, hf, hj, hr9, hd9⟩ := hq n I J (by omega) hRel (xs (n + 1))
  rcases hd9 with ⟨rfl, ht, rfl⟩ | ⟨rfl, ht⟩
  · refine lv_aload_n hx hb dL_law_1543 rfl (lv_at hl 4 rfl) ?_
    refine lv_aload_n hx hb dL_law_1544 rfl (lv_at hl 5 rfl) ?_
    refine lv_iload hx hb dL_law_1545 (lv_at hl 0 rfl) ?_
    refine lv_iconst (v := (1 : Int32)) hx hb dL_law_1547 (by decide) ?_
    refine lv_iadd hx hb dL_law_1548 ?_
    refine zr_sldc (cn := 1) X hX hbl hbA hS (by omega) (by omega) rfl dL_law_1549 ?_
    refine lv_aload_n hx hb dL_law_1550 rfl (lv_at hl 2 rfl) ?_
    refine zr_cH (rest := []) (As := [.ref (g.2.2 + 0), .int (xs (n + 1)), .ref (g.2.2 + 318)]) X hP hS hnc (hn_L_lacks (g := g) (nc := 320) (I := I) (J := J) (O := O) hnI hnO l hf) ch_L_226 rfl hl.1 (Nat.le_of_ble_eq_true rfl) ⟨by omega, by omega⟩ ⟨by omega, by omega⟩ dL_law_1551 rfl (fun H locs hP hS => ?_)
    refine lv_istore (lv' := [(6, .int (0 : Int32)), (5, .int (Int32.ofNat n)), (4, .ref (g.2.2 + 319)), (3, .ref (g.2.2 + 318)), (2, .ref (g.2.2 + 306)), (1, .ref (g.2.2 + 0)), (0, .ref b)]) hx hb dL_law_1554 hl (by decide) rfl (fun ls hl => ?_)
    refine lv_aload_n hx hb dL_law_1556 rfl (lv_at hl 4 rfl) ?_
    refine lv_aload_n hx hb dL_law_1557 rfl (lv_at hl 6 rfl) ?_
    refine lv_iload hx hb dL_law_1558 (lv_at hl 1 rfl) ?_
    refine lv_iconst (v := (1 : Int32)) hx hb dL_law_1560 (by decide) ?_
    refine lv_iadd hx hb dL_law_1561 ?_
    refine zr_sldc (cn := 1) X hX hbl hbA hS (by omega) (by omega) rfl dL_law_1562 ?_
    refine zr_cVi (rest := []) (As := [.int (xs (n + 1))]) X hP hS (ct_X8_lacks (g := g) (nc := 320) (I := I) (J := J) (O := (wr O 318 0 r)) hnJ l hj) cw_L_228 (zr_recv X hP (by omega) (zb_ceJo zk_306 (by decide)) rfl) rfl hl.1 (Nat.le_of_ble_eq_true rfl) ⟨by omega, by omega⟩ ⟨by omega, by omega⟩ dL_law_1563 rfl (fun H locs hP hS => ?_)
    refine lv_istore (lv' := [(7, .int r), (6, .int (0 : Int32)), (5, .int (Int32.ofNat n)), (4, .ref (g.2.2 + 319)), (3, .ref (g.2.2 + 318)), (2, .ref (g.2.2 + 306)), (1, .ref (g.2.2 + 0)), (0, .ref b)]) hx hb dL_law_1566 hl (by decide) rfl (fun ls hl => ?_)
    refine lv_aload_n hx hb dL_law_1568 rfl (lv_at hl 5 rfl) ?_
    refine zr_cVi (rest := []) (As := []) X hP hS (ct_X8_thrown (g := g) (nc := 320) (I := I) (J := Jq) (O := (wr O 318 0 r)) hnJ l rfl) cw_L_132 (zr_recv X hP (by omega) (zb_ceJo zk_306 (by decide)) rfl) rfl hl.1 (Nat.le_of_ble_eq_true rfl) ⟨by omega, by omega⟩ ⟨by omega, by omega⟩ dL_law_1569 rfl (fun H locs hP hS => ?_)
    refine lv_iload hx hb dL_law_1572 (lv_at hl 1 rfl) ?_
    refine lv_icmp_eq (tgt := 1579) hx hb dL_law_1574 (by decide) (fun _ => ?_) (fun hc => absurd ht hc)
    refine lv_iload hx hb dL_law_1579 (lv_at hl 1 rfl) ?_
    refine lv_if_ne (tgt := 1596) hx hb dL_law_1581 (by decide) (fun hc => absurd rfl hc) (fun _ => ?_)
    refine lv_aload_n hx hb dL_law_1584 rfl (lv_at hl 4 rfl) ?_
    refine lv_iconst (v := (0 : Int32)) hx hb dL_law_1585 (by decide) ?_
    refine zr_lald X hP hnO dL_law_1586 ?_
    refine lv_iload hx hb dL_law_1587 (lv_at hl 0 rfl) ?_
    refine lv_i2l hx hb dL_law_1589 rfl ?_
    refine zr_lcmp0 hx hb dL_law_1590 ?_
    refine lv_if_eq (tgt := 1596) hx hb dL_law_1591 (by decide) (fun _ => ?_) (fun hc => absurd rfl hc)
    refine lv_goto (tgt := 2550) hx hb dL_law_1596 (by decide) ?_
    exact W.widen (Nat.le_succ _) (Nat.le_add_right _ 6) (kk _ _ _ _ _ _ hr9 hP hS (lv_sub hl [2, 3, 4, 5, 6, 7] rfl))
  · refine lv_aload_n hx hb dL_law_1543 rfl (lv_at hl 4 rfl) ?_
    refine lv_aload_n hx hb dL_law_1544 rfl (lv_at hl 5 rfl) ?_
    refine lv_iload hx hb dL_law_1545 (lv_at hl 0 rfl) ?_
    refine lv_iconst (v := (1 : Int32)) hx hb dL_law_1547 (by decide) ?_
    refine lv_iadd hx hb dL_law_1548 ?_
    refine zr_sldc (cn := 1) X hX hbl hbA hS (by omega) (by omega) rfl dL_law_1549 ?_
    refine lv_aload_n hx hb dL_law_1550 rfl (lv_at hl 2 rfl) ?_
    refine zr_cH (rest := []) (As := [.ref (g.2.2 + 0), .int (xs (n + 1)), .ref (g.2.2 + 318)]) X hP hS hnc (hc1_L_lacks (g := g) (nc := 320) (I := I) (J := J) (O := O) hnI hnO l hlT hf) ch_L_226 rfl hl.1 (Nat.le_of_ble_eq_true rfl) ⟨by omega, by omega⟩ ⟨by omega, by omega⟩ dL_law_1551 rfl (fun H locs hP hS => ?_)
    refine lv_istore (lv' := [(6, .int (1 : Int32)), (5, .int (Int32.ofNat n)), (4, .ref (g.2.2 + 319)), (3, .ref (g.2.2 + 318)), (2, .ref (g.2.2 + 306)), (1, .ref (g.2.2 + 0)), (0, .ref b)]) hx hb dL_law_1554 hl (by decide) rfl (fun ls hl => ?_)
    refine lv_aload_n hx hb dL_law_1556 rfl (lv_at hl 4 rfl) ?_
    refine lv_aload_n hx hb dL_law_1557 rfl (lv_at hl 6 rfl) ?_
    refine lv_iload hx hb dL_law_1558 (lv_at hl 1 rfl) ?_
    refine lv_iconst (v := (1 : Int32)) hx hb dL_law_1560 (by decide) ?_
    refine lv_iadd hx hb dL_law_1561 ?_
    refine zr_sldc (cn := 1) X hX hbl hbA hS (by omega) (by omega) rfl dL_law_1562 ?_
    refine zr_cVi (rest := []) (As := [.int (xs (n + 1))]) X hP hS (ct_X8_lacks (g := g) (nc := 320) (I := I) (J := J) (O := O) hnJ l hj) cw_L_228 (zr_recv X hP (by omega) (zb_ceJo zk_306 (by decide)) rfl) rfl hl.1 (Nat.le_of_ble_eq_true rfl) ⟨by omega, by omega⟩ ⟨by omega, by omega⟩ dL_law_1563 rfl (fun H locs hP hS => ?_)
    refine lv_istore (lv' := [(7, .int rb), (6, .int (1 : Int32)), (5, .int (Int32.ofNat n)), (4, .ref (g.2.2 + 319)), (3, .ref (g.2.2 + 318)), (2, .ref (g.2.2 + 306)), (1, .ref (g.2.2 + 0)), (0, .ref b)]) hx hb dL_law_1566 hl (by decide) rfl (fun ls hl => ?_)
    refine lv_aload_n hx hb dL_law_1568 rfl (lv_at hl 5 rfl) ?_
    refine zr_cVi (rest := []) (As := []) X hP hS (ct_X8_thrown (g := g) (nc := 320) (I := I) (J := Jq) (O := O) hnJ l rfl) cw_L_132 (zr_recv X hP (by omega) (zb_ceJo zk_306 (by decide)) rfl) rfl hl.1 (Nat.le_of_ble_eq_true rfl) ⟨by omega, by omega⟩ ⟨by omega, by omega⟩ dL_law_1569 rfl (fun H locs hP hS => ?_)
    refine lv_iload hx hb dL_law_1572 (lv_at hl 1 rfl) ?_
    refine lv_icmp_eq (tgt := 1579) hx hb dL_law_1574 (by decide) (fun _ => ?_) (fun hc => absurd ht hc)
    refine lv_iload hx hb dL_law_1579 (lv_at hl 1 rfl) ?_
    refine lv_if_ne (tgt := 1596) hx hb dL_law_1581 (by decide) (fun _ => ?_) (fun hc => absurd hc (by decide))
    refine lv_goto (tgt := 2550) hx hb dL_law_1596 (by decide) ?_
    exact kk _ _ _ _ _ _ hr9 hP hS (lv_sub hl [2, 3, 4, 5, 6, 7] rfl)

set_option maxHeartbeats 1000000 in
theorem lw_c27 {p : Program} {l : Launch} {e : Env} {R : Room} {s : State} {m : MethodId} {args : Array Value} {below : List Frame} {meth : Method} {c : Code} {H : Heap} {locs : List Loc} {cells slots : Nat} {Q : State → Prop} {g : zb_G} {ls : Array Slot} {b L n : Nat} {xs : Nat → Int32} {Rel : Nat → Mem → Mem → Prop} (hq : eqP_27 Rel) {I J O : Mem} (hRel : Rel n I J) (hlT : l.stackTraces = false) (X : zb_X g p m c cL_law 10 s args RL meth) (hnc : zb_Nc s) (hX : va_X b L xs s s.heap) (hbl : b < s.heap.size) (hbA : ¬ zb_A g b) (hn : n + 6 ≤ L) (hL : L ≤ 3072)
    (hP : va_P g.1 vwCl (zb_ws g 320 (zb_ce g I J O)) H) (hS : va_S (zb_A g) s.heap H locs) (hl : lv_has ls 10 [(5, .int (Int32.ofNat n)), (4, .ref (g.2.2 + 319)), (3, .ref (g.2.2 + 318)), (2, .ref (g.2.2 + 306)), (1, .ref (g.2.2 + 0)), (0, .ref b)]) (h1 : 13 ≤ R.frames) (h2 : 472 ≤ R.locals) (h3 : cells + 1 ≤ R.cells) (h4 : slots + 6 ≤ R.slots)
    (kk : ∀ (I J O : Mem) (H : Heap) (locs : List Loc) (ls : Array Slot), Rel (n + 6) I J → va_P g.1 vwCl (zb_ws g 320 (zb_ce g I J O)) H → va_S (zb_A g) s.heap H locs → lv_has ls 10 [(5, .int (Int32.ofNat n)), (4, .ref (g.2.2 + 319)), (3, .ref (g.2.2 + 318)), (2, .ref (g.2.2 + 306)), (1, .ref (g.2.2 + 0)), (0, .ref b)] → W p l e R s m args below meth c H locs (cells + 1) (slots + 6) Q (F0 m 2550 ls [])) : W p l e R s m args below meth c H locs cells slots Q (F0 m 1599 ls []) := by
  have hx := X.1.1
  have hb := X.1.2.1
  have hnI : 306 ≤ 320 := by decide
  have hnJ : 318 ≤ 320 := by decide
  have hnO : 320 ≤ 320 := by decide
  obtain ⟨E, r, rb, Jq, hf, hj, hr9, hd9⟩ := hq n I J (by omega) hRel (xs (n + 1))
  rcases hd9 with ⟨rfl, ht, rfl⟩ | ⟨rfl, ht⟩
  · refine lv_aload_n hx hb dL_law_1599 rfl (lv_at hl 4 rfl) ?_
    refine lv_aload_n hx hb dL_law_1600 rfl (lv_at hl 5 rfl) ?_
    refine lv_iload hx hb dL_law_1601 (lv_at hl 0 rfl) ?_
    refine lv_iconst (v := (1 : Int32)) hx hb dL_law_1603 (by decide) ?_
    refine lv_iadd hx hb dL_law_1604 ?_
    refine zr_sldc (cn := 1) X hX hbl hbA hS (by omega) (by omega) rfl dL_law_1605 ?_
    refine lv_aload_n hx hb dL_law_1606 rfl (lv_at hl 2 rfl) ?_
    refine zr_cH (rest := []) (As := [.ref (g.2.2 + 0), .int (xs (n + 1)), .ref (g.2.2 + 318)]) X hP hS hnc (hn_L_plan (g := g) (nc := 320) (I := I) (J := J) (O := O) hnI hnO l hf) ch_L_229 rfl hl.1 (Nat.le_of_ble_eq_true rfl) ⟨by omega, by omega⟩ ⟨by omega, by omega⟩ dL_law_1607 rfl (fun H locs hP hS => ?_)
    refine lv_istore (lv' := [(6, .int (0 : Int32)), (5, .int (Int32.ofNat n)), (4, .ref (g.2.2 + 319)), (3, .ref (g.2.2 + 318)), (2, .ref (g.2.2 + 306)), (1, .ref (g.2.2 + 0)), (0, .ref b)]) hx hb dL_law_1610 hl (by decide) rfl (fun ls hl => ?_)
    refine lv_aload_n hx hb dL_law_1612 rfl (lv_at hl 4 rfl) ?_
    refine lv_aload_n hx hb dL_law_1613 rfl (lv_at hl 6 rfl) ?_
    refine lv_iload hx hb dL_law_1614 (lv_at hl 1 rfl) ?_
    refine lv_iconst (v := (1 : Int32)) hx hb dL_law_1616 (by decide) ?_
    refine lv_iadd hx hb dL_law_1617 ?_
    refine zr_sldc (cn := 1) X hX hbl hbA hS (by omega) (by omega) rfl dL_law_1618 ?_
    refine zr_cVi (rest := []) (As := [.int (xs (n + 1))]) X hP hS (ct_X8_plan (g := g) (nc := 320) (I := I) (J := J) (O := (wr O 318 0 r)) hnJ l hj) cw_L_231 (zr_recv X hP (by omega) (zb_ceJo zk_306 (by decide)) rfl) rfl hl.1 (Nat.le_of_ble_eq_true rfl) ⟨by omega, by omega⟩ ⟨by omega, by omega⟩ dL_law_1619 rfl (fun H locs hP hS => ?_)
    refine lv_istore (lv' := [(7, .int r), (6, .int (0 : Int32)), (5, .int (Int32.ofNat n)), (4, .ref (g.2.2 + 319)), (3, .ref (g.2.2 + 318)), (2, .ref (g.2.2 + 306)), (1, .ref (g.2.2 + 0)), (0, .ref b)]) hx hb dL_law_1622 hl (by decide) rfl (fun ls hl => ?_)
    refine lv_aload_n hx hb dL_law_1624 rfl (lv_at hl 5 rfl) ?_
    refine zr_cVi (rest := []) (As := []) X hP hS (ct_X8_thrown (g := g) (nc := 320) (I := I) (J := Jq) (O := (wr O 318 0 r)) hnJ l rfl) cw_L_132 (zr_recv X hP (by omega) (zb_ceJo zk_306 (by decide)) rfl) rfl hl.1 (Nat.le_of_ble_eq_true rfl) ⟨by omega, by omega⟩ ⟨by omega, by omega⟩ dL_law_1625 rfl (fun H locs hP hS => ?_)
    refine lv_iload hx hb dL_law_1628 (lv_at hl 1 rfl) ?_
    refine lv_icmp_eq (tgt := 1635) hx hb dL_law_1630 (by decide) (fun _ => ?_) (fun hc => absurd ht hc)
    refine lv_iload hx hb dL_law_1635 (lv_at hl 1 rfl) ?_
    refine lv_if_ne (tgt := 1652) hx hb dL_law_1637 (by decide) (fun hc => absurd rfl hc) (fun _ => ?_)
    refine lv_aload_n hx hb dL_law_1640 rfl (lv_at hl 4 rfl) ?_
    refine lv_iconst (v := (0 : Int32)) hx hb dL_law_1641 (by decide) ?_
    refine zr_lald X hP hnO dL_law_1642 ?_
    refine lv_iload hx hb dL_law_1643 (lv_at hl 0 rfl) ?_
    refine lv_i2l hx hb dL_law_1645 rfl ?_
    refine zr_lcmp0 hx hb dL_law_1646 ?_
    refine lv_if_eq (tgt := 1652) hx hb dL_law_1647 (by decide) (fun _ => ?_) (fun hc => absurd rfl hc)
    refine lv_goto (tgt := 2550) hx hb dL_law_1652 (by decide) ?_
    exact W.widen (Nat.le_succ _) (Nat.le_add_right _ 6) (kk _ _ _ _ _ _ hr9 hP hS (lv_sub hl [2, 3, 4, 5, 6, 7] rfl))
  · refine lv_aload_n hx hb dL_law_1599 rfl (lv_at hl 4 rfl) ?_
    refine lv_aload_n hx hb dL_law_1600 rfl (lv_at hl 5 rfl) ?_
    refine lv_iload hx hb dL_law_1601 (lv_at hl 0 rfl) ?_
    refine lv_iconst (v := (1 : Int32)) hx hb dL_law_1603 (by decide) ?_
    refine lv_iadd hx hb dL_law_1604 ?_
    refine zr_sldc (cn := 1) X hX hbl hbA hS (by omega) (by omega) rfl dL_law_1605 ?_
    refine lv_aload_n hx hb dL_law_1606 rfl (lv_at hl 2 rfl) ?_
    refine zr_cH (rest := []) (As := [.ref (g.2.2 + 0), .int (xs (n + 1)), .ref (g.2.2 + 318)]) X hP hS hnc (hc1_L_plan (g := g) (nc := 320) (I := I) (J := J) (O := O) hnI hnO l hlT hf) ch_L_229 rfl hl.1 (Nat.le_of_ble_eq_true rfl) ⟨by omega, by omega⟩ ⟨by omega, by omega⟩ dL_law_1607 rfl (fun H locs hP hS => ?_)
    refine lv_istore (lv' := [(6, .int (1 : Int32)), (5, .int (Int32.ofNat n)), (4, .ref (g.2.2 + 319)), (3, .ref (g.2.2 + 318)), (2, .ref (g.2.2 + 306)), (1, .ref (g.2.2 + 0)), (0, .ref b)]) hx hb dL_law_1610 hl (by decide) rfl (fun ls hl => ?_)
    refine lv_aload_n hx hb dL_law_1612 rfl (lv_at hl 4 rfl) ?_
    refine lv_aload_n hx hb dL_law_1613 rfl (lv_at hl 6 rfl) ?_
    refine lv_iload hx hb dL_law_1614 (lv_at hl 1 rfl) ?_
    refine lv_iconst (v := (1 : Int32)) hx hb dL_law_1616 (by decide) ?_
    refine lv_iadd hx hb dL_law_1617 ?_
    refine zr_sldc (cn := 1) X hX hbl hbA hS (by omega) (by omega) rfl dL_law_1618 ?_
    refine zr_cVi (rest := []) (As := [.int (xs (n + 1))]) X hP hS (ct_X8_plan (g := g) (nc := 320) (I := I) (J := J) (O := O) hnJ l hj) cw_L_231 (zr_recv X hP (by omega) (zb_ceJo zk_306 (by decide)) rfl) rfl hl.1 (Nat.le_of_ble_eq_true rfl) ⟨by omega, by omega⟩ ⟨by omega, by omega⟩ dL_law_1619 rfl (fun H locs hP hS => ?_)
    refine lv_istore (lv' := [(7, .int rb), (6, .int (1 : Int32)), (5, .int (Int32.ofNat n)), (4, .ref (g.2.2 + 319)), (3, .ref (g.2.2 + 318)), (2, .ref (g.2.2 + 306)), (1, .ref (g.2.2 + 0)), (0, .ref b)]) hx hb dL_law_1622 hl (by decide) rfl (fun ls hl => ?_)
    refine lv_aload_n hx hb dL_law_1624 rfl (lv_at hl 5 rfl) ?_
    refine zr_cVi (rest := []) (As := []) X hP hS (ct_X8_thrown (g := g) (nc := 320) (I := I) (J := Jq) (O := O) hnJ l rfl) cw_L_132 (zr_recv X hP (by omega) (zb_ceJo zk_306 (by decide)) rfl) rfl hl.1 (Nat.le_of_ble_eq_true rfl) ⟨by omega, by omega⟩ ⟨by omega, by omega⟩ dL_law_1625 rfl (fun H locs hP hS => ?_)
    refine lv_iload hx hb dL_law_1628 (lv_at hl 1 rfl) ?_
    refine lv_icmp_eq (tgt := 1635) hx hb dL_law_1630 (by decide) (fun _ => ?_) (fun hc => absurd ht hc)
    refine lv_iload hx hb dL_law_1635 (lv_at hl 1 rfl) ?_
    refine lv_if_ne (tgt := 1652) hx hb dL_law_1637 (by decide) (fun _ => ?_) (fun hc => absurd hc (by decide))
    refine lv_goto (tgt := 2550) hx hb dL_law_1652 (by decide) ?_
    exact kk _ _ _ _ _ _ hr9 hP hS (lv_sub hl [2, 3, 4, 5, 6, 7] rfl)

set_option maxHeartbeats 1000000 in
theorem lw_c28 {p : Program} {l : Launch} {e : Env} {R : Room} {s : State} {m : MethodId} {args : Array Value} {below : List Frame} {meth : Method} {c : Code} {H : Heap} {locs : List Loc} {cells slots : Nat} {Q : State → Prop} {g : zb_G} {ls : Array Slot} {b L n : Nat} {xs : Nat → Int32} {Rel : Nat → Mem → Mem → Prop} (hq : eqP_28 Rel) {I J O : Mem} (hRel : Rel n I J) (hlT : l.stackTraces = false) (X : zb_X g p m c cL_law 10 s args RL meth) (hnc : zb_Nc s) (hX : va_X b L xs s s.heap) (hbl : b < s.heap.size) (hbA : ¬ zb_A g b) (hn : n + 6 ≤ L) (hL : L ≤ 3072)
    (hP : va_P g.1 vwCl (zb_ws g 320 (zb_ce g I J O)) H) (hS : va_S (zb_A g) s.heap H locs) (hl : lv_has ls 10 [(5, .int (Int32.ofNat n)), (4, .ref (g.2.2 + 319)), (3, .ref (g.2.2 + 318)), (2, .ref (g.2.2 + 306)), (1, .ref (g.2.2 + 0)), (0, .ref b)]) (h1 : 13 ≤ R.frames) (h2 : 472 ≤ R.locals) (h3 : cells + 1 ≤ R.cells) (h4 : slots + 6 ≤ R.slots)
    (kk : ∀ (I J O : Mem) (H : Heap) (locs : List Loc) (ls : Array Slot), Rel (n + 6) I J → va_P g.1 vwCl (zb_ws g 320 (zb_ce g I J O)) H → va_S (zb_A g) s.heap H locs → lv_has ls 10 [(5, .int (Int32.ofNat n)), (4, .ref (g.2.2 + 319)), (3, .ref (g.2.2 + 318)), (2, .ref (g.2.2 + 306)), (1, .ref (g.2.2 + 0)), (0, .ref b)] → W p l e R s m args below meth c H locs (cells + 1) (slots + 6) Q (F0 m 2550 ls [])) : W p l e R s m args below meth c H locs cells slots Q (F0 m 1655 ls []) := by
  have hx := X.1.1
  have hb := X.1.2.1
  have hnI : 306 ≤ 320 := by decide
  have hnJ : 318 ≤ 320 := by decide
  have hnO : 320 ≤ 320 := by decide
  obtain ⟨E, r, rb, Jq, hf, hj, hr9, hd9⟩ := hq n I J (by omega) hRel (xs (n + 1))
  rcases hd9 with ⟨rfl, ht, rfl⟩ | ⟨rfl, ht⟩
  · refine lv_aload_n hx hb dL_law_1655 rfl (lv_at hl 4 rfl) ?_
    refine lv_aload_n hx hb dL_law_1656 rfl (lv_at hl 5 rfl) ?_
    refine lv_iload hx hb dL_law_1657 (lv_at hl 0 rfl) ?_
    refine lv_iconst (v := (1 : Int32)) hx hb dL_law_1659 (by decide) ?_
    refine lv_iadd hx hb dL_law_1660 ?_
    refine zr_sldc (cn := 1) X hX hbl hbA hS (by omega) (by omega) rfl dL_law_1661 ?_
    refine lv_aload_n hx hb dL_law_1662 rfl (lv_at hl 2 rfl) ?_
    refine zr_cH (rest := []) (As := [.ref (g.2.2 + 0), .int (xs (n + 1)), .ref (g.2.2 + 318)]) X hP hS hnc (hn_L_planLength (g := g) (nc := 320) (I := I) (J := J) (O := O) hnI hnO l hf) ch_L_232 rfl hl.1 (Nat.le_of_ble_eq_true rfl) ⟨by omega, by omega⟩ ⟨by omega, by omega⟩ dL_law_1663 rfl (fun H locs hP hS => ?_)
    refine lv_istore (lv' := [(6, .int (0 : Int32)), (5, .int (Int32.ofNat n)), (4, .ref (g.2.2 + 319)), (3, .ref (g.2.2 + 318)), (2, .ref (g.2.2 + 306)), (1, .ref (g.2.2 + 0)), (0, .ref b)]) hx hb dL_law_1666 hl (by decide) rfl (fun ls hl => ?_)
    refine lv_aload_n hx hb dL_law_1668 rfl (lv_at hl 4 rfl) ?_
    refine lv_aload_n hx hb dL_law_1669 rfl (lv_at hl 6 rfl) ?_
    refine lv_iload hx hb dL_law_1670 (lv_at hl 1 rfl) ?_
    refine lv_iconst (v := (1 : Int32)) hx hb dL_law_1672 (by decide) ?_
    refine lv_iadd hx hb dL_law_1673 ?_
    refine zr_sldc (cn := 1) X hX hbl hbA hS (by omega) (by omega) rfl dL_law_1674 ?_
    refine zr_cVi (rest := []) (As := [.int (xs (n + 1))]) X hP hS (ct_X8_planLength (g := g) (nc := 320) (I := I) (J := J) (O := (wr O 318 0 r)) hnJ l hj) cw_L_234 (zr_recv X hP (by omega) (zb_ceJo zk_306 (by decide)) rfl) rfl hl.1 (Nat.le_of_ble_eq_true rfl) ⟨by omega, by omega⟩ ⟨by omega, by omega⟩ dL_law_1675 rfl (fun H locs hP hS => ?_)
    refine lv_istore (lv' := [(7, .int r), (6, .int (0 : Int32)), (5, .int (Int32.ofNat n)), (4, .ref (g.2.2 + 319)), (3, .ref (g.2.2 + 318)), (2, .ref (g.2.2 + 306)), (1, .ref (g.2.2 + 0)), (0, .ref b)]) hx hb dL_law_1678 hl (by decide) rfl (fun ls hl => ?_)
    refine lv_aload_n hx hb dL_law_1680 rfl (lv_at hl 5 rfl) ?_
    refine zr_cVi (rest := []) (As := []) X hP hS (ct_X8_thrown (g := g) (nc := 320) (I := I) (J := Jq) (O := (wr O 318 0 r)) hnJ l rfl) cw_L_132 (zr_recv X hP (by omega) (zb_ceJo zk_306 (by decide)) rfl) rfl hl.1 (Nat.le_of_ble_eq_true rfl) ⟨by omega, by omega⟩ ⟨by omega, by omega⟩ dL_law_1681 rfl (fun H locs hP hS => ?_)
    refine lv_iload hx hb dL_law_1684 (lv_at hl 1 rfl) ?_
    refine lv_icmp_eq (tgt := 1691) hx hb dL_law_1686 (by decide) (fun _ => ?_) (fun hc => absurd ht hc)
    refine lv_iload hx hb dL_law_1691 (lv_at hl 1 rfl) ?_
    refine lv_if_ne (tgt := 1708) hx hb dL_law_1693 (by decide) (fun hc => absurd rfl hc) (fun _ => ?_)
    refine lv_aload_n hx hb dL_law_1696 rfl (lv_at hl 4 rfl) ?_
    refine lv_iconst (v := (0 : Int32)) hx hb dL_law_1697 (by decide) ?_
    refine zr_lald X hP hnO dL_law_1698 ?_
    refine lv_iload hx hb dL_law_1699 (lv_at hl 0 rfl) ?_
    refine lv_i2l hx hb dL_law_1701 rfl ?_
    refine zr_lcmp0 hx hb dL_law_1702 ?_
    refine lv_if_eq (tgt := 1708) hx hb dL_law_1703 (by decide) (fun _ => ?_) (fun hc => absurd rfl hc)
    refine lv_goto (tgt := 2550) hx hb dL_law_1708 (by decide) ?_
    exact W.widen (Nat.le_succ _) (Nat.le_add_right _ 6) (kk _ _ _ _ _ _ hr9 hP hS (lv_sub hl [2, 3, 4, 5, 6, 7] rfl))
  · refine lv_aload_n hx hb dL_law_1655 rfl (lv_at hl 4 rfl) ?_
    refine lv_aload_n hx hb dL_law_1656 rfl (lv_at hl 5 rfl) ?_
    refine lv_iload hx hb dL_law_1657 (lv_at hl 0 rfl) ?_
    refine lv_iconst (v := (1 : Int32)) hx hb dL_law_1659 (by decide) ?_
    refine lv_iadd hx hb dL_law_1660 ?_
    refine zr_sldc (cn := 1) X hX hbl hbA hS (by omega) (by omega) rfl dL_law_1661 ?_
    refine lv_aload_n hx hb dL_law_1662 rfl (lv_at hl 2 rfl) ?_
    refine zr_cH (rest := []) (As := [.ref (g.2.2 + 0), .int (xs (n + 1)), .ref (g.2.2 + 318)]) X hP hS hnc (hc1_L_planLength (g := g) (nc := 320) (I := I) (J := J) (O := O) hnI hnO l hlT hf) ch_L_232 rfl hl.1 (Nat.le_of_ble_eq_true rfl) ⟨by omega, by omega⟩ ⟨by omega, by omega⟩ dL_law_1663 rfl (fun H locs hP hS => ?_)
    refine lv_istore (lv' := [(6, .int (1 : Int32)), (5, .int (Int32.ofNat n)), (4, .ref (g.2.2 + 319)), (3, .ref (g.2.2 + 318)), (2, .ref (g.2.2 + 306)), (1, .ref (g.2.2 + 0)), (0, .ref b)]) hx hb dL_law_1666 hl (by decide) rfl (fun ls hl => ?_)
    refine lv_aload_n hx hb dL_law_1668 rfl (lv_at hl 4 rfl) ?_
    refine lv_aload_n hx hb dL_law_1669 rfl (lv_at hl 6 rfl) ?_
    refine lv_iload hx hb dL_law_1670 (lv_at hl 1 rfl) ?_
    refine lv_iconst (v := (1 : Int32)) hx hb dL_law_1672 (by decide) ?_
    refine lv_iadd hx hb dL_law_1673 ?_
    refine zr_sldc (cn := 1) X hX hbl hbA hS (by omega) (by omega) rfl dL_law_1674 ?_
    refine zr_cVi (rest := []) (As := [.int (xs (n + 1))]) X hP hS (ct_X8_planLength (g := g) (nc := 320) (I := I) (J := J) (O := O) hnJ l hj) cw_L_234 (zr_recv X hP (by omega) (zb_ceJo zk_306 (by decide)) rfl) rfl hl.1 (Nat.le_of_ble_eq_true rfl) ⟨by omega, by omega⟩ ⟨by omega, by omega⟩ dL_law_1675 rfl (fun H locs hP hS => ?_)
    refine lv_istore (lv' := [(7, .int rb), (6, .int (1 : Int32)), (5, .int (Int32.ofNat n)), (4, .ref (g.2.2 + 319)), (3, .ref (g.2.2 + 318)), (2, .ref (g.2.2 + 306)), (1, .ref (g.2.2 + 0)), (0, .ref b)]) hx hb dL_law_1678 hl (by decide) rfl (fun ls hl => ?_)
    refine lv_aload_n hx hb dL_law_1680 rfl (lv_at hl 5 rfl) ?_
    refine zr_cVi (rest := []) (As := []) X hP hS (ct_X8_thrown (g := g) (nc := 320) (I := I) (J := Jq) (O := O) hnJ l rfl) cw_L_132 (zr_recv X hP (by omega) (zb_ceJo zk_306 (by decide)) rfl) rfl hl.1 (Nat.le_of_ble_eq_true rfl) ⟨by omega, by omega⟩ ⟨by omega, by omega⟩ dL_law_1681 rfl (fun H locs hP hS => ?_)
    refine lv_iload hx hb dL_law_1684 (lv_at hl 1 rfl) ?_
    refine lv_icmp_eq (tgt := 1691) hx hb dL_law_1686 (by decide) (fun _ => ?_) (fun hc => absurd ht hc)
    refine lv_iload hx hb dL_law_1691 (lv_at hl 1 rfl) ?_
    refine lv_if_ne (tgt := 1708) hx hb dL_law_1693 (by decide) (fun _ => ?_) (fun hc => absurd hc (by decide))
    refine lv_goto (tgt := 2550) hx hb dL_law_1708 (by decide) ?_
    exact kk _ _ _ _ _ _ hr9 hP hS (lv_sub hl [2, 3, 4, 5, 6, 7] rfl)

set_option maxHeartbeats 1000000 in
theorem lw_c29 {p : Program} {l : Launch} {e : Env} {R : Room} {s : State} {m : MethodId} {args : Array Value} {below : List Frame} {meth : Method} {c : Code} {H : Heap} {locs : List Loc} {cells slots : Nat} {Q : State → Prop} {g : zb_G} {ls : Array Slot} {b L n : Nat} {xs : Nat → Int32} {Rel : Nat → Mem → Mem → Prop} (hq : eqP_29 Rel) {I J O : Mem} (hRel : Rel n I J) (hlT : l.stackTraces = false) (X : zb_X g p m c cL_law 10 s args RL meth) (hnc : zb_Nc s) (hX : va_X b L xs s s.heap) (hbl : b < s.heap.size) (hbA : ¬ zb_A g b) (hn : n + 6 ≤ L) (hL : L ≤ 3072)
    (hP : va_P g.1 vwCl (zb_ws g 320 (zb_ce g I J O)) H) (hS : va_S (zb_A g) s.heap H locs) (hl : lv_has ls 10 [(5, .int (Int32.ofNat n)), (4, .ref (g.2.2 + 319)), (3, .ref (g.2.2 + 318)), (2, .ref (g.2.2 + 306)), (1, .ref (g.2.2 + 0)), (0, .ref b)]) (h1 : 13 ≤ R.frames) (h2 : 472 ≤ R.locals) (h3 : cells + 1 ≤ R.cells) (h4 : slots + 6 ≤ R.slots)
    (kk : ∀ (I J O : Mem) (H : Heap) (locs : List Loc) (ls : Array Slot), Rel (n + 6) I J → va_P g.1 vwCl (zb_ws g 320 (zb_ce g I J O)) H → va_S (zb_A g) s.heap H locs → lv_has ls 10 [(5, .int (Int32.ofNat n)), (4, .ref (g.2.2 + 319)), (3, .ref (g.2.2 + 318)), (2, .ref (g.2.2 + 306)), (1, .ref (g.2.2 + 0)), (0, .ref b)] → W p l e R s m args below meth c H locs (cells + 1) (slots + 6) Q (F0 m 2550 ls [])) : W p l e R s m args below meth c H locs cells slots Q (F0 m 1711 ls []) := by
  have hx := X.1.1
  have hb := X.1.2.1
  have hnI : 306 ≤ 320 := by decide
  have hnJ : 318 ≤ 320 := by decide
  have hnO : 320 ≤ 320 := by decide
  obtain ⟨E, r, Iq, rb, Jq, hf, hj, hr9, hd9⟩ := hq n I J (by omega) hRel (xs (n + 1)) (xs (n + 2))
  rcases hd9 with ⟨rfl, ht, rfl⟩ | ⟨rfl, ht⟩ | ⟨rfl, ht⟩
  · refine lv_aload_n hx hb dL_law_1711 rfl (lv_at hl 4 rfl) ?_
    refine lv_aload_n hx hb dL_law_1712 rfl (lv_at hl 5 rfl) ?_
    refine lv_iload hx hb dL_law_1713 (lv_at hl 0 rfl) ?_
    refine lv_iconst (v := (1 : Int32)) hx hb dL_law_1715 (by decide) ?_
    refine lv_iadd hx hb dL_law_1716 ?_
    refine zr_sldc (cn := 1) X hX hbl hbA hS (by omega) (by omega) rfl dL_law_1717 ?_
    refine lv_aload_n hx hb dL_law_1718 rfl (lv_at hl 5 rfl) ?_
    refine lv_iload hx hb dL_law_1719 (lv_at hl 0 rfl) ?_
    refine lv_iconst (v := (2 : Int32)) hx hb dL_law_1721 (by decide) ?_
    refine lv_iadd hx hb dL_law_1722 ?_
    refine zr_sldc (cn := 2) X hX hbl hbA hS (by omega) (by omega) rfl dL_law_1723 ?_
    refine lv_aload_n hx hb dL_law_1724 rfl (lv_at hl 2 rfl) ?_
    refine zr_cH (rest := []) (As := [.ref (g.2.2 + 0), .int (xs (n + 1)), .int (xs (n + 2)), .ref (g.2.2 + 318)]) X hP hS hnc (hn_L_report (g := g) (nc := 320) (I := I) (J := J) (O := O) hnI hnO l hf) ch_L_235 rfl hl.1 (Nat.le_of_ble_eq_true rfl) ⟨by omega, by omega⟩ ⟨by omega, by omega⟩ dL_law_1725 rfl (fun H locs hP hS => ?_)
    refine lv_istore (lv' := [(6, .int (0 : Int32)), (5, .int (Int32.ofNat n)), (4, .ref (g.2.2 + 319)), (3, .ref (g.2.2 + 318)), (2, .ref (g.2.2 + 306)), (1, .ref (g.2.2 + 0)), (0, .ref b)]) hx hb dL_law_1728 hl (by decide) rfl (fun ls hl => ?_)
    refine lv_aload_n hx hb dL_law_1730 rfl (lv_at hl 4 rfl) ?_
    refine lv_aload_n hx hb dL_law_1731 rfl (lv_at hl 6 rfl) ?_
    refine lv_iload hx hb dL_law_1732 (lv_at hl 1 rfl) ?_
    refine lv_iconst (v := (1 : Int32)) hx hb dL_law_1734 (by decide) ?_
    refine lv_iadd hx hb dL_law_1735 ?_
    refine zr_sldc (cn := 1) X hX hbl hbA hS (by omega) (by omega) rfl dL_law_1736 ?_
    refine lv_aload_n hx hb dL_law_1737 rfl (lv_at hl 6 rfl) ?_
    refine lv_iload hx hb dL_law_1738 (lv_at hl 1 rfl) ?_
    refine lv_iconst (v := (2 : Int32)) hx hb dL_law_1740 (by decide) ?_
    refine lv_iadd hx hb dL_law_1741 ?_
    refine zr_sldc (cn := 2) X hX hbl hbA hS (by omega) (by omega) rfl dL_law_1742 ?_
    refine zr_cVi (rest := []) (As := [.int (xs (n + 1)), .int (xs (n + 2))]) X hP hS (ct_X8_report (g := g) (nc := 320) (I := Iq) (J := J) (O := (wr O 318 0 r)) hnJ l hj) cw_L_237 (zr_recv X hP (by omega) (zb_ceJo zk_306 (by decide)) rfl) rfl hl.1 (Nat.le_of_ble_eq_true rfl) ⟨by omega, by omega⟩ ⟨by omega, by omega⟩ dL_law_1743 rfl (fun H locs hP hS => ?_)
    refine lv_istore (lv' := [(7, .int r), (6, .int (0 : Int32)), (5, .int (Int32.ofNat n)), (4, .ref (g.2.2 + 319)), (3, .ref (g.2.2 + 318)), (2, .ref (g.2.2 + 306)), (1, .ref (g.2.2 + 0)), (0, .ref b)]) hx hb dL_law_1746 hl (by decide) rfl (fun ls hl => ?_)
    refine lv_aload_n hx hb dL_law_1748 rfl (lv_at hl 5 rfl) ?_
    refine zr_cVi (rest := []) (As := []) X hP hS (ct_X8_thrown (g := g) (nc := 320) (I := Iq) (J := Jq) (O := (wr O 318 0 r)) hnJ l rfl) cw_L_132 (zr_recv X hP (by omega) (zb_ceJo zk_306 (by decide)) rfl) rfl hl.1 (Nat.le_of_ble_eq_true rfl) ⟨by omega, by omega⟩ ⟨by omega, by omega⟩ dL_law_1749 rfl (fun H locs hP hS => ?_)
    refine lv_iload hx hb dL_law_1752 (lv_at hl 1 rfl) ?_
    refine lv_icmp_eq (tgt := 1759) hx hb dL_law_1754 (by decide) (fun _ => ?_) (fun hc => absurd ht hc)
    refine lv_iload hx hb dL_law_1759 (lv_at hl 1 rfl) ?_
    refine lv_if_ne (tgt := 1776) hx hb dL_law_1761 (by decide) (fun hc => absurd rfl hc) (fun _ => ?_)
    refine lv_aload_n hx hb dL_law_1764 rfl (lv_at hl 4 rfl) ?_
    refine lv_iconst (v := (0 : Int32)) hx hb dL_law_1765 (by decide) ?_
    refine zr_lald X hP hnO dL_law_1766 ?_
    refine lv_iload hx hb dL_law_1767 (lv_at hl 0 rfl) ?_
    refine lv_i2l hx hb dL_law_1769 rfl ?_
    refine zr_lcmp0 hx hb dL_law_1770 ?_
    refine lv_if_eq (tgt := 1776) hx hb dL_law_1771 (by decide) (fun _ => ?_) (fun hc => absurd rfl hc)
    refine lv_goto (tgt := 2550) hx hb dL_law_1776 (by decide) ?_
    exact W.widen (Nat.le_succ _) (Nat.le_add_right _ 6) (kk _ _ _ _ _ _ hr9 hP hS (lv_sub hl [2, 3, 4, 5, 6, 7] rfl))
  · refine lv_aload_n hx hb dL_law_1711 rfl (lv_at hl 4 rfl) ?_
    refine lv_aload_n hx hb dL_law_1712 rfl (lv_at hl 5 rfl) ?_
    refine lv_iload hx hb dL_law_1713 (lv_at hl 0 rfl) ?_
    refine lv_iconst (v := (1 : Int32)) hx hb dL_law_1715 (by decide) ?_
    refine lv_iadd hx hb dL_law_1716 ?_
    refine zr_sldc (cn := 1) X hX hbl hbA hS (by omega) (by omega) rfl dL_law_1717 ?_
    refine lv_aload_n hx hb dL_law_1718 rfl (lv_at hl 5 rfl) ?_
    refine lv_iload hx hb dL_law_1719 (lv_at hl 0 rfl) ?_
    refine lv_iconst (v := (2 : Int32)) hx hb dL_law_1721 (by decide) ?_
    refine lv_iadd hx hb dL_law_1722 ?_
    refine zr_sldc (cn := 2) X hX hbl hbA hS (by omega) (by omega) rfl dL_law_1723 ?_
    refine lv_aload_n hx hb dL_law_1724 rfl (lv_at hl 2 rfl) ?_
    refine zr_cH (rest := []) (As := [.ref (g.2.2 + 0), .int (xs (n + 1)), .int (xs (n + 2)), .ref (g.2.2 + 318)]) X hP hS hnc (hc1_L_report (g := g) (nc := 320) (I := I) (J := J) (O := O) hnI hnO l hlT hf) ch_L_235 rfl hl.1 (Nat.le_of_ble_eq_true rfl) ⟨by omega, by omega⟩ ⟨by omega, by omega⟩ dL_law_1725 rfl (fun H locs hP hS => ?_)
    refine lv_istore (lv' := [(6, .int (1 : Int32)), (5, .int (Int32.ofNat n)), (4, .ref (g.2.2 + 319)), (3, .ref (g.2.2 + 318)), (2, .ref (g.2.2 + 306)), (1, .ref (g.2.2 + 0)), (0, .ref b)]) hx hb dL_law_1728 hl (by decide) rfl (fun ls hl => ?_)
    refine lv_aload_n hx hb dL_law_1730 rfl (lv_at hl 4 rfl) ?_
    refine lv_aload_n hx hb dL_law_1731 rfl (lv_at hl 6 rfl) ?_
    refine lv_iload hx hb dL_law_1732 (lv_at hl 1 rfl) ?_
    refine lv_iconst (v := (1 : Int32)) hx hb dL_law_1734 (by decide) ?_
    refine lv_iadd hx hb dL_law_1735 ?_
    refine zr_sldc (cn := 1) X hX hbl hbA hS (by omega) (by omega) rfl dL_law_1736 ?_
    refine lv_aload_n hx hb dL_law_1737 rfl (lv_at hl 6 rfl) ?_
    refine lv_iload hx hb dL_law_1738 (lv_at hl 1 rfl) ?_
    refine lv_iconst (v := (2 : Int32)) hx hb dL_law_1740 (by decide) ?_
    refine lv_iadd hx hb dL_law_1741 ?_
    refine zr_sldc (cn := 2) X hX hbl hbA hS (by omega) (by omega) rfl dL_law_1742 ?_
    refine zr_cVi (rest := []) (As := [.int (xs (n + 1)), .int (xs (n + 2))]) X hP hS (ct_X8_report (g := g) (nc := 320) (I := Iq) (J := J) (O := O) hnJ l hj) cw_L_237 (zr_recv X hP (by omega) (zb_ceJo zk_306 (by decide)) rfl) rfl hl.1 (Nat.le_of_ble_eq_true rfl) ⟨by omega, by omega⟩ ⟨by omega, by omega⟩ dL_law_1743 rfl (fun H locs hP hS => ?_)
    refine lv_istore (lv' := [(7, .int rb), (6, .int (1 : Int32)), (5, .int (Int32.ofNat n)), (4, .ref (g.2.2 + 319)), (3, .ref (g.2.2 + 318)), (2, .ref (g.2.2 + 306)), (1, .ref (g.2.2 + 0)), (0, .ref b)]) hx hb dL_law_1746 hl (by decide) rfl (fun ls hl => ?_)
    refine lv_aload_n hx hb dL_law_1748 rfl (lv_at hl 5 rfl) ?_
    refine zr_cVi (rest := []) (As := []) X hP hS (ct_X8_thrown (g := g) (nc := 320) (I := Iq) (J := Jq) (O := O) hnJ l rfl) cw_L_132 (zr_recv X hP (by omega) (zb_ceJo zk_306 (by decide)) rfl) rfl hl.1 (Nat.le_of_ble_eq_true rfl) ⟨by omega, by omega⟩ ⟨by omega, by omega⟩ dL_law_1749 rfl (fun H locs hP hS => ?_)
    refine lv_iload hx hb dL_law_1752 (lv_at hl 1 rfl) ?_
    refine lv_icmp_eq (tgt := 1759) hx hb dL_law_1754 (by decide) (fun _ => ?_) (fun hc => absurd ht hc)
    refine lv_iload hx hb dL_law_1759 (lv_at hl 1 rfl) ?_
    refine lv_if_ne (tgt := 1776) hx hb dL_law_1761 (by decide) (fun _ => ?_) (fun hc => absurd hc (by decide))
    refine lv_goto (tgt := 2550) hx hb dL_law_1776 (by decide) ?_
    exact kk _ _ _ _ _ _ hr9 hP hS (lv_sub hl [2, 3, 4, 5, 6, 7] rfl)
  · refine lv_aload_n hx hb dL_law_1711 rfl (lv_at hl 4 rfl) ?_
    refine lv_aload_n hx hb dL_law_1712 rfl (lv_at hl 5 rfl) ?_
    refine lv_iload hx hb dL_law_1713 (lv_at hl 0 rfl) ?_
    refine lv_iconst (v := (1 : Int32)) hx hb dL_law_1715 (by decide) ?_
    refine lv_iadd hx hb dL_law_1716 ?_
    refine zr_sldc (cn := 1) X hX hbl hbA hS (by omega) (by omega) rfl dL_law_1717 ?_
    refine lv_aload_n hx hb dL_law_1718 rfl (lv_at hl 5 rfl) ?_
    refine lv_iload hx hb dL_law_1719 (lv_at hl 0 rfl) ?_
    refine lv_iconst (v := (2 : Int32)) hx hb dL_law_1721 (by decide) ?_
    refine lv_iadd hx hb dL_law_1722 ?_
    refine zr_sldc (cn := 2) X hX hbl hbA hS (by omega) (by omega) rfl dL_law_1723 ?_
    refine lv_aload_n hx hb dL_law_1724 rfl (lv_at hl 2 rfl) ?_
    refine zr_cH (rest := []) (As := [.ref (g.2.2 + 0), .int (xs (n + 1)), .int (xs (n + 2)), .ref (g.2.2 + 318)]) X hP hS hnc (hc2_L_report (g := g) (nc := 320) (I := I) (J := J) (O := O) hnI hnO l hlT hf) ch_L_235 rfl hl.1 (Nat.le_of_ble_eq_true rfl) ⟨by omega, by omega⟩ ⟨by omega, by omega⟩ dL_law_1725 rfl (fun H locs hP hS => ?_)
    refine lv_istore (lv' := [(6, .int (2 : Int32)), (5, .int (Int32.ofNat n)), (4, .ref (g.2.2 + 319)), (3, .ref (g.2.2 + 318)), (2, .ref (g.2.2 + 306)), (1, .ref (g.2.2 + 0)), (0, .ref b)]) hx hb dL_law_1728 hl (by decide) rfl (fun ls hl => ?_)
    refine lv_aload_n hx hb dL_law_1730 rfl (lv_at hl 4 rfl) ?_
    refine lv_aload_n hx hb dL_law_1731 rfl (lv_at hl 6 rfl) ?_
    refine lv_iload hx hb dL_law_1732 (lv_at hl 1 rfl) ?_
    refine lv_iconst (v := (1 : Int32)) hx hb dL_law_1734 (by decide) ?_
    refine lv_iadd hx hb dL_law_1735 ?_
    refine zr_sldc (cn := 1) X hX hbl hbA hS (by omega) (by omega) rfl dL_law_1736 ?_
    refine lv_aload_n hx hb dL_law_1737 rfl (lv_at hl 6 rfl) ?_
    refine lv_iload hx hb dL_law_1738 (lv_at hl 1 rfl) ?_
    refine lv_iconst (v := (2 : Int32)) hx hb dL_law_1740 (by decide) ?_
    refine lv_iadd hx hb dL_law_1741 ?_
    refine zr_sldc (cn := 2) X hX hbl hbA hS (by omega) (by omega) rfl dL_law_1742 ?_
    refine zr_cVi (rest := []) (As := [.int (xs (n + 1)), .int (xs (n + 2))]) X hP hS (ct_X8_report (g := g) (nc := 320) (I := Iq) (J := J) (O := O) hnJ l hj) cw_L_237 (zr_recv X hP (by omega) (zb_ceJo zk_306 (by decide)) rfl) rfl hl.1 (Nat.le_of_ble_eq_true rfl) ⟨by omega, by omega⟩ ⟨by omega, by omega⟩ dL_law_1743 rfl (fun H locs hP hS => ?_)
    refine lv_istore (lv' := [(7, .int rb), (6, .int (2 : Int32)), (5, .int (Int32.ofNat n)), (4, .ref (g.2.2 + 319)), (3, .ref (g.2.2 + 318)), (2, .ref (g.2.2 + 306)), (1, .ref (g.2.2 + 0)), (0, .ref b)]) hx hb dL_law_1746 hl (by decide) rfl (fun ls hl => ?_)
    refine lv_aload_n hx hb dL_law_1748 rfl (lv_at hl 5 rfl) ?_
    refine zr_cVi (rest := []) (As := []) X hP hS (ct_X8_thrown (g := g) (nc := 320) (I := Iq) (J := Jq) (O := O) hnJ l rfl) cw_L_132 (zr_recv X hP (by omega) (zb_ceJo zk_306 (by decide)) rfl) rfl hl.1 (Nat.le_of_ble_eq_true rfl) ⟨by omega, by omega⟩ ⟨by omega, by omega⟩ dL_law_1749 rfl (fun H locs hP hS => ?_)
    refine lv_iload hx hb dL_law_1752 (lv_at hl 1 rfl) ?_
    refine lv_icmp_eq (tgt := 1759) hx hb dL_law_1754 (by decide) (fun _ => ?_) (fun hc => absurd ht hc)
    refine lv_iload hx hb dL_law_1759 (lv_at hl 1 rfl) ?_
    refine lv_if_ne (tgt := 1776) hx hb dL_law_1761 (by decide) (fun _ => ?_) (fun hc => absurd hc (by decide))
    refine lv_goto (tgt := 2550) hx hb dL_law_1776 (by decide) ?_
    exact kk _ _ _ _ _ _ hr9 hP hS (lv_sub hl [2, 3, 4, 5, 6, 7] rfl)

set_option maxHeartbeats 1000000 in
theorem lw_c30 {p : Program} {l : Launch} {e : Env} {R : Room} {s : State} {m : MethodId} {args : Array Value} {below : List Frame} {meth : Method} {c : Code} {H : Heap} {locs : List Loc} {cells slots : Nat} {Q : State → Prop} {g : zb_G} {ls : Array Slot} {b L n : Nat} {xs : Nat → Int32} {Rel : Nat → Mem → Mem → Prop} (hq : eqP_30 Rel) {I J O : Mem} (hRel : Rel n I J) (hlT : l.stackTraces = false) (X : zb_X g p m c cL_law 10 s args RL meth) (hnc : zb_Nc s) (hX : va_X b L xs s s.heap) (hbl : b < s.heap.size) (hbA : ¬ zb_A g b) (hn : n + 6 ≤ L) (hL : L ≤ 3072)
    (hP : va_P g.1 vwCl (zb_ws g 320 (zb_ce g I J O)) H) (hS : va_S (zb_A g) s.heap H locs) (hl : lv_has ls 10 [(5, .int (Int32.ofNat n)), (4, .ref (g.2.2 + 319)), (3, .ref (g.2.2 + 318)), (2, .ref (g.2.2 + 306)), (1, .ref (g.2.2 + 0)), (0, .ref b)]) (h1 : 13 ≤ R.frames) (h2 : 472 ≤ R.locals) (h3 : cells + 1 ≤ R.cells) (h4 : slots + 6 ≤ R.slots)
    (kk : ∀ (I J O : Mem) (H : Heap) (locs : List Loc) (ls : Array Slot), Rel (n + 6) I J → va_P g.1 vwCl (zb_ws g 320 (zb_ce g I J O)) H → va_S (zb_A g) s.heap H locs → lv_has ls 10 [(5, .int (Int32.ofNat n)), (4, .ref (g.2.2 + 319)), (3, .ref (g.2.2 + 318)), (2, .ref (g.2.2 + 306)), (1, .ref (g.2.2 + 0)), (0, .ref b)] → W p l e R s m args below meth c H locs (cells + 1) (slots + 6) Q (F0 m 2550 ls [])) : W p l e R s m args below meth c H locs cells slots Q (F0 m 1779 ls []) := by
  have hx := X.1.1
  have hb := X.1.2.1
  have hnI : 306 ≤ 320 := by decide
  have hnJ : 318 ≤ 320 := by decide
  have hnO : 320 ≤ 320 := by decide
  obtain ⟨r, Iq, Jq, hf, hj, hr9⟩ := hq n I J (by omega) hRel ()
  refine lv_aload_n hx hb dL_law_1779 rfl (lv_at hl 4 rfl) ?_
  refine zr_cVi (rest := []) (As := []) X hP hS (ct_X7_endHour (g := g) (nc := 320) (I := I) (J := J) (O := O) hnI l hf) cw_L_238 (zr_recv X hP (by omega) (zb_ceIo zk_0 (by decide)) rfl) rfl hl.1 (Nat.le_of_ble_eq_true rfl) ⟨by omega, by omega⟩ ⟨by omega, by omega⟩ dL_law_1780 rfl (fun H locs hP hS => ?_)
  refine lv_aload_n hx hb dL_law_1783 rfl (lv_at hl 3 rfl) ?_
  refine zr_cVi (rest := [.int r]) (As := []) X hP hS (ct_X8_endHour (g := g) (nc := 320) (I := Iq) (J := J) (O := O) hnJ l hj) cw_L_241 (zr_recv X hP (by omega) (zb_ceJo zk_306 (by decide)) rfl) rfl hl.1 (Nat.le_of_ble_eq_true rfl) ⟨by omega, by omega⟩ ⟨by omega, by omega⟩ dL_law_1784 rfl (fun H locs hP hS => ?_)
  refine lv_icmp_eq (tgt := 2550) hx hb dL_law_1787 (by decide) (fun _ => ?_) (fun hc => absurd rfl hc)
  exact W.widen (Nat.le_succ _) (Nat.le_add_right _ 6) (kk _ _ _ _ _ _ hr9 hP hS (lv_sub hl [0, 1, 2, 3, 4, 5] rfl))

set_option maxHeartbeats 1000000 in
theorem lw_c31 {p : Program} {l : Launch} {e : Env} {R : Room} {s : State} {m : MethodId} {args : Array Value} {below : List Frame} {meth : Method} {c : Code} {H : Heap} {locs : List Loc} {cells slots : Nat} {Q : State → Prop} {g : zb_G} {ls : Array Slot} {b L n : Nat} {xs : Nat → Int32} {Rel : Nat → Mem → Mem → Prop} (hq : eqP_31 Rel) {I J O : Mem} (hRel : Rel n I J) (hlT : l.stackTraces = false) (X : zb_X g p m c cL_law 10 s args RL meth) (hnc : zb_Nc s) (hX : va_X b L xs s s.heap) (hbl : b < s.heap.size) (hbA : ¬ zb_A g b) (hn : n + 6 ≤ L) (hL : L ≤ 3072)
    (hP : va_P g.1 vwCl (zb_ws g 320 (zb_ce g I J O)) H) (hS : va_S (zb_A g) s.heap H locs) (hl : lv_has ls 10 [(5, .int (Int32.ofNat n)), (4, .ref (g.2.2 + 319)), (3, .ref (g.2.2 + 318)), (2, .ref (g.2.2 + 306)), (1, .ref (g.2.2 + 0)), (0, .ref b)]) (h1 : 13 ≤ R.frames) (h2 : 472 ≤ R.locals) (h3 : cells + 1 ≤ R.cells) (h4 : slots + 6 ≤ R.slots)
    (kk : ∀ (I J O : Mem) (H : Heap) (locs : List Loc) (ls : Array Slot), Rel (n + 6) I J → va_P g.1 vwCl (zb_ws g 320 (zb_ce g I J O)) H → va_S (zb_A g) s.heap H locs → lv_has ls 10 [(5, .int (Int32.ofNat n)), (4, .ref (g.2.2 + 319)), (3, .ref (g.2.2 + 318)), (2, .ref (g.2.2 + 306)), (1, .ref (g.2.2 + 0)), (0, .ref b)] → W p l e R s m args below meth c H locs (cells + 1) (slots + 6) Q (F0 m 2550 ls [])) : W p l e R s m args below meth c H locs cells slots Q (F0 m 1792 ls []) := by
  have hx := X.1.1
  have hb := X.1.2.1
  have hnI : 306 ≤ 320 := by decide
  have hnJ : 318 ≤ 320 := by decide
  have hnO : 320 ≤ 320 := by decide
  obtain ⟨E, r, Iq, rb, Jq, hf, hj, hr9, hd9⟩ := hq n I J (by omega) hRel (xs (n + 1)) (xs (n + 2)) (xs (n + 3))
  rcases hd9 with ⟨rfl, ht, rfl⟩ | ⟨rfl, ht⟩ | ⟨rfl, ht⟩
  · refine lv_aload_n hx hb dL_law_1792 rfl (lv_at hl 4 rfl) ?_
    refine lv_aload_n hx hb dL_law_1793 rfl (lv_at hl 5 rfl) ?_
    refine lv_iload hx hb dL_law_1794 (lv_at hl 0 rfl) ?_
    refine lv_iconst (v := (1 : Int32)) hx hb dL_law_1796 (by decide) ?_
    refine lv_iadd hx hb dL_law_1797 ?_
    refine zr_sldc (cn := 1) X hX hbl hbA hS (by omega) (by omega) rfl dL_law_1798 ?_
    refine lv_aload_n hx hb dL_law_1799 rfl (lv_at hl 5 rfl) ?_
    refine lv_iload hx hb dL_law_1800 (lv_at hl 0 rfl) ?_
    refine lv_iconst (v := (2 : Int32)) hx hb dL_law_1802 (by decide) ?_
    refine lv_iadd hx hb dL_law_1803 ?_
    refine zr_sldc (cn := 2) X hX hbl hbA hS (by omega) (by omega) rfl dL_law_1804 ?_
    refine lv_aload_n hx hb dL_law_1805 rfl (lv_at hl 5 rfl) ?_
    refine lv_iload hx hb dL_law_1806 (lv_at hl 0 rfl) ?_
    refine lv_iconst (v := (3 : Int32)) hx hb dL_law_1808 (by decide) ?_
    refine lv_iadd hx hb dL_law_1809 ?_
    refine zr_sldc (cn := 3) X hX hbl hbA hS (by omega) (by omega) rfl dL_law_1810 ?_
    refine lv_aload_n hx hb dL_law_1811 rfl (lv_at hl 2 rfl) ?_
    refine zr_cH (rest := []) (As := [.ref (g.2.2 + 0), .int (xs (n + 1)), .int (xs (n + 2)), .int (xs (n + 3)), .ref (g.2.2 + 318)]) X hP hS hnc (hn_L_storm (g := g) (nc := 320) (I := I) (J := J) (O := O) hnI hnO l hf) ch_L_242 rfl hl.1 (Nat.le_of_ble_eq_true rfl) ⟨by omega, by omega⟩ ⟨by omega, by omega⟩ dL_law_1812 rfl (fun H locs hP hS => ?_)
    refine lv_istore (lv' := [(6, .int (0 : Int32)), (5, .int (Int32.ofNat n)), (4, .ref (g.2.2 + 319)), (3, .ref (g.2.2 + 318)), (2, .ref (g.2.2 + 306)), (1, .ref (g.2.2 + 0)), (0, .ref b)]) hx hb dL_law_1815 hl (by decide) rfl (fun ls hl => ?_)
    refine lv_aload_n hx hb dL_law_1817 rfl (lv_at hl 4 rfl) ?_
    refine lv_aload_n hx hb dL_law_1818 rfl (lv_at hl 6 rfl) ?_
    refine lv_iload hx hb dL_law_1819 (lv_at hl 1 rfl) ?_
    refine lv_iconst (v := (1 : Int32)) hx hb dL_law_1821 (by decide) ?_
    refine lv_iadd hx hb dL_law_1822 ?_
    refine zr_sldc (cn := 1) X hX hbl hbA hS (by omega) (by omega) rfl dL_law_1823 ?_
    refine lv_aload_n hx hb dL_law_1824 rfl (lv_at hl 6 rfl) ?_
    refine lv_iload hx hb dL_law_1825 (lv_at hl 1 rfl) ?_
    refine lv_iconst (v := (2 : Int32)) hx hb dL_law_1827 (by decide) ?_
    refine lv_iadd hx hb dL_law_1828 ?_
    refine zr_sldc (cn := 2) X hX hbl hbA hS (by omega) (by omega) rfl dL_law_1829 ?_
    refine lv_aload_n hx hb dL_law_1830 rfl (lv_at hl 6 rfl) ?_
    refine lv_iload hx hb dL_law_1831 (lv_at hl 1 rfl) ?_
    refine lv_iconst (v := (3 : Int32)) hx hb dL_law_1833 (by decide) ?_
    refine lv_iadd hx hb dL_law_1834 ?_
    refine zr_sldc (cn := 3) X hX hbl hbA hS (by omega) (by omega) rfl dL_law_1835 ?_
    refine zr_cVi (rest := []) (As := [.int (xs (n + 1)), .int (xs (n + 2)), .int (xs (n + 3))]) X hP hS (ct_X8_storm (g := g) (nc := 320) (I := Iq) (J := J) (O := (wr O 318 0 r)) hnJ l hj) cw_L_244 (zr_recv X hP (by omega) (zb_ceJo zk_306 (by decide)) rfl) rfl hl.1 (Nat.le_of_ble_eq_true rfl) ⟨by omega, by omega⟩ ⟨by omega, by omega⟩ dL_law_1836 rfl (fun H locs hP hS => ?_)
    refine lv_istore (lv' := [(7, .int r), (6, .int (0 : Int32)), (5, .int (Int32.ofNat n)), (4, .ref (g.2.2 + 319)), (3, .ref (g.2.2 + 318)), (2, .ref (g.2.2 + 306)), (1, .ref (g.2.2 + 0)), (0, .ref b)]) hx hb dL_law_1839 hl (by decide) rfl (fun ls hl => ?_)
    refine lv_aload_n hx hb dL_law_1841 rfl (lv_at hl 5 rfl) ?_
    refine zr_cVi (rest := []) (As := []) X hP hS (ct_X8_thrown (g := g) (nc := 320) (I := Iq) (J := Jq) (O := (wr O 318 0 r)) hnJ l rfl) cw_L_132 (zr_recv X hP (by omega) (zb_ceJo zk_306 (by decide)) rfl) rfl hl.1 (Nat.le_of_ble_eq_true rfl) ⟨by omega, by omega⟩ ⟨by omega, by omega⟩ dL_law_1842 rfl (fun H locs hP hS => ?_)
    refine lv_iload hx hb dL_law_1845 (lv_at hl 1 rfl) ?_
    refine lv_icmp_eq (tgt := 1852) hx hb dL_law_1847 (by decide) (fun _ => ?_) (fun hc => absurd ht hc)
    refine lv_iload hx hb dL_law_1852 (lv_at hl 1 rfl) ?_
    refine lv_if_ne (tgt := 1869) hx hb dL_law_1854 (by decide) (fun hc => absurd rfl hc) (fun _ => ?_)
    refine lv_aload_n hx hb dL_law_1857 rfl (lv_at hl 4 rfl) ?_
    refine lv_iconst (v := (0 : Int32)) hx hb dL_law_1858 (by decide) ?_
    refine zr_lald X hP hnO dL_law_1859 ?_
    refine lv_iload hx hb dL_law_1860 (lv_at hl 0 rfl) ?_
    refine lv_i2l hx hb dL_law_1862 rfl ?_
    refine zr_lcmp0 hx hb dL_law_1863 ?_
    refine lv_if_eq (tgt := 1869) hx hb dL_law_1864 (by decide) (fun _ => ?_) (fun hc => absurd rfl hc)
    refine lv_goto (tgt := 2550) hx hb dL_law_1869 (by decide) ?_
    exact W.widen (Nat.le_succ _) (Nat.le_add_right _ 6) (kk _ _ _ _ _ _ hr9 hP hS (lv_sub hl [2, 3, 4, 5, 6, 7] rfl))
  · refine lv_aload_n hx hb dL_law_1792 rfl (lv_at hl 4 rfl) ?_
    refine lv_aload_n hx hb dL_law_1793 rfl (lv_at hl 5 rfl) ?_
    refine lv_iload hx hb dL_law_1794 (lv_at hl 0 rfl) ?_
    refine lv_iconst (v := (1 : Int32)) hx hb dL_law_1796 (by decide) ?_
    refine lv_iadd hx hb dL_law_1797 ?_
    refine zr_sldc (cn := 1) X hX hbl hbA hS (by omega) (by omega) rfl dL_law_1798 ?_
    refine lv_aload_n hx hb dL_law_1799 rfl (lv_at hl 5 rfl) ?_
    refine lv_iload hx hb dL_law_1800 (lv_at hl 0 rfl) ?_
    refine lv_iconst (v := (2 : Int32)) hx hb dL_law_1802 (by decide) ?_
    refine lv_iadd hx hb dL_law_1803 ?_
    refine zr_sldc (cn := 2) X hX hbl hbA hS (by omega) (by omega) rfl dL_law_1804 ?_
    refine lv_aload_n hx hb dL_law_1805 rfl (lv_at hl 5 rfl) ?_
    refine lv_iload hx hb dL_law_1806 (lv_at hl 0 rfl) ?_
    refine lv_iconst (v := (3 : Int32)) hx hb dL_law_1808 (by decide) ?_
    refine lv_iadd hx hb dL_law_1809 ?_
    refine zr_sldc (cn := 3) X hX hbl hbA hS (by omega) (by omega) rfl dL_law_1810 ?_
    refine lv_aload_n hx hb dL_law_1811 rfl (lv_at hl 2 rfl) ?_
    refine zr_cH (rest := []) (As := [.ref (g.2.2 + 0), .int (xs (n + 1)), .int (xs (n + 2)), .int (xs (n + 3)), .ref (g.2.2 + 318)]) X hP hS hnc (hc1_L_storm (g := g) (nc := 320) (I := I) (J := J) (O := O) hnI hnO l hlT hf) ch_L_242 rfl hl.1 (Nat.le_of_ble_eq_true rfl) ⟨by omega, by omega⟩ ⟨by omega, by omega⟩ dL_law_1812 rfl (fun H locs hP hS => ?_)
    refine lv_istore (lv' := [(6, .int (1 : Int32)), (5, .int (Int32.ofNat n)), (4, .ref (g.2.2 + 319)), (3, .ref (g.2.2 + 318)), (2, .ref (g.2.2 + 306)), (1, .ref (g.2.2 + 0)), (0, .ref b)]) hx hb dL_law_1815 hl (by decide) rfl (fun ls hl => ?_)
    refine lv_aload_n hx hb dL_law_1817 rfl (lv_at hl 4 rfl) ?_
    refine lv_aload_n hx hb dL_law_1818 rfl (lv_at hl 6 rfl) ?_
    refine lv_iload hx hb dL_law_1819 (lv_at hl 1 rfl) ?_
    refine lv_iconst (v := (1 : Int32)) hx hb dL_law_1821 (by decide) ?_
    refine lv_iadd hx hb dL_law_1822 ?_
    refine zr_sldc (cn := 1) X hX hbl hbA hS (by omega) (by omega) rfl dL_law_1823 ?_
    refine lv_aload_n hx hb dL_law_1824 rfl (lv_at hl 6 rfl) ?_
    refine lv_iload hx hb dL_law_1825 (lv_at hl 1 rfl) ?_
    refine lv_iconst (v := (2 : Int32)) hx hb dL_law_1827 (by decide) ?_
    refine lv_iadd hx hb dL_law_1828 ?_
    refine zr_sldc (cn := 2) X hX hbl hbA hS (by omega) (by omega) rfl dL_law_1829 ?_
    refine lv_aload_n hx hb dL_law_1830 rfl (lv_at hl 6 rfl) ?_
    refine lv_iload hx hb dL_law_1831 (lv_at hl 1 rfl) ?_
    refine lv_iconst (v := (3 : Int32)) hx hb dL_law_1833 (by decide) ?_
    refine lv_iadd hx hb dL_law_1834 ?_
    refine zr_sldc (cn := 3) X hX hbl hbA hS (by omega) (by omega) rfl dL_law_1835 ?_
    refine zr_cVi (rest := []) (As := [.int (xs (n + 1)), .int (xs (n + 2)), .int (xs (n + 3))]) X hP hS (ct_X8_storm (g := g) (nc := 320) (I := Iq) (J := J) (O := O) hnJ l hj) cw_L_244 (zr_recv X hP (by omega) (zb_ceJo zk_306 (by decide)) rfl) rfl hl.1 (Nat.le_of_ble_eq_true rfl) ⟨by omega, by omega⟩ ⟨by omega, by omega⟩ dL_law_1836 rfl (fun H locs hP hS => ?_)
    refine lv_istore (lv' := [(7, .int rb), (6, .int (1 : Int32)), (5, .int (Int32.ofNat n)), (4, .ref (g.2.2 + 319)), (3, .ref (g.2.2 + 318)), (2, .ref (g.2.2 + 306)), (1, .ref (g.2.2 + 0)), (0, .ref b)]) hx hb dL_law_1839 hl (by decide) rfl (fun ls hl => ?_)
    refine lv_aload_n hx hb dL_law_1841 rfl (lv_at hl 5 rfl) ?_
    refine zr_cVi (rest := []) (As := []) X hP hS (ct_X8_thrown (g := g) (nc := 320) (I := Iq) (J := Jq) (O := O) hnJ l rfl) cw_L_132 (zr_recv X hP (by omega) (zb_ceJo zk_306 (by decide)) rfl) rfl hl.1 (Nat.le_of_ble_eq_true rfl) ⟨by omega, by omega⟩ ⟨by omega, by omega⟩ dL_law_1842 rfl (fun H locs hP hS => ?_)
    refine lv_iload hx hb dL_law_1845 (lv_at hl 1 rfl) ?_
    refine lv_icmp_eq (tgt := 1852) hx hb dL_law_1847 (by decide) (fun _ => ?_) (fun hc => absurd ht hc)
    refine lv_iload hx hb dL_law_1852 (lv_at hl 1 rfl) ?_
    refine lv_if_ne (tgt := 1869) hx hb dL_law_1854 (by decide) (fun _ => ?_) (fun hc => absurd hc (by decide))
    refine lv_goto (tgt := 2550) hx hb dL_law_1869 (by decide) ?_
    exact kk _ _ _ _ _ _ hr9 hP hS (lv_sub hl [2, 3, 4, 5, 6, 7] rfl)
  · refine lv_aload_n hx hb dL_law_1792 rfl (lv_at hl 4 rfl) ?_
    refine lv_aload_n hx hb dL_law_1793 rfl (lv_at hl 5 rfl) ?_
    refine lv_iload hx hb dL_law_1794 (lv_at hl 0 rfl) ?_
    refine lv_iconst (v := (1 : Int32)) hx hb dL_law_1796 (by decide) ?_
    refine lv_iadd hx hb dL_law_1797 ?_
    refine zr_sldc (cn := 1) X hX hbl hbA hS (by omega) (by omega) rfl dL_law_1798 ?_
    refine lv_aload_n hx hb dL_law_1799 rfl (lv_at hl 5 rfl) ?_
    refine lv_iload hx hb dL_law_1800 (lv_at hl 0 rfl) ?_
    refine lv_iconst (v := (2 : Int32)) hx hb dL_law_1802 (by decide) ?_
    refine lv_iadd hx hb dL_law_1803 ?_
    refine zr_sldc (cn := 2) X hX hbl hbA hS (by omega) (by omega) rfl dL_law_1804 ?_
    refine lv_aload_n hx hb dL_law_1805 rfl (lv_at hl 5 rfl) ?_
    refine lv_iload hx hb dL_law_1806 (lv_at hl 0 rfl) ?_
    refine lv_iconst (v := (3 : Int32)) hx hb dL_law_1808 (by decide) ?_
    refine lv_iadd hx hb dL_law_1809 ?_
    refine zr_sldc (cn := 3) X hX hbl hbA hS (by omega) (by omega) rfl dL_law_1810 ?_
    refine lv_aload_n hx hb dL_law_1811 rfl (lv_at hl 2 rfl) ?_
    refine zr_cH (rest := []) (As := [.ref (g.2.2 + 0), .int (xs (n + 1)), .int (xs (n + 2)), .int (xs (n + 3)), .ref (g.2.2 + 318)]) X hP hS hnc (hc2_L_storm (g := g) (nc := 320) (I := I) (J := J) (O := O) hnI hnO l hlT hf) ch_L_242 rfl hl.1 (Nat.le_of_ble_eq_true rfl) ⟨by omega, by omega⟩ ⟨by omega, by omega⟩ dL_law_1812 rfl (fun H locs hP hS => ?_)
    refine lv_istore (lv' := [(6, .int (2 : Int32)), (5, .int (Int32.ofNat n)), (4, .ref (g.2.2 + 319)), (3, .ref (g.2.2 + 318)), (2, .ref (g.2.2 + 306)), (1, .ref (g.2.2 + 0)), (0, .ref b)]) hx hb dL_law_1815 hl (by decide) rfl (fun ls hl => ?_)
    refine lv_aload_n hx hb dL_law_1817 rfl (lv_at hl 4 rfl) ?_
    refine lv_aload_n hx hb dL_law_1818 rfl (lv_at hl 6 rfl) ?_
    refine lv_iload hx hb dL_law_1819 (lv_at hl 1 rfl) ?_
    refine lv_iconst (v := (1 : Int32)) hx hb dL_law_1821 (by decide) ?_
    refine lv_iadd hx hb dL_law_1822 ?_
    refine zr_sldc (cn := 1) X hX hbl hbA hS (by omega) (by omega) rfl dL_law_1823 ?_
    refine lv_aload_n hx hb dL_law_1824 rfl (lv_at hl 6 rfl) ?_
    refine lv_iload hx hb dL_law_1825 (lv_at hl 1 rfl) ?_
    refine lv_iconst (v := (2 : Int32)) hx hb dL_law_1827 (by decide) ?_
    refine lv_iadd hx hb dL_law_1828 ?_
    refine zr_sldc (cn := 2) X hX hbl hbA hS (by omega) (by omega) rfl dL_law_1829 ?_
    refine lv_aload_n hx hb dL_law_1830 rfl (lv_at hl 6 rfl) ?_
    refine lv_iload hx hb dL_law_1831 (lv_at hl 1 rfl) ?_
    refine lv_iconst (v := (3 : Int32)) hx hb dL_law_1833 (by decide) ?_
    refine lv_iadd hx hb dL_law_1834 ?_
    refine zr_sldc (cn := 3) X hX hbl hbA hS (by omega) (by omega) rfl dL_law_1835 ?_
    refine zr_cVi (rest := []) (As := [.int (xs (n + 1)), .int (xs (n + 2)), .int (xs (n + 3))]) X hP hS (ct_X8_storm (g := g) (nc := 320) (I := Iq) (J := J) (O := O) hnJ l hj) cw_L_244 (zr_recv X hP (by omega) (zb_ceJo zk_306 (by decide)) rfl) rfl hl.1 (Nat.le_of_ble_eq_true rfl) ⟨by omega, by omega⟩ ⟨by omega, by omega⟩ dL_law_1836 rfl (fun H locs hP hS => ?_)
    refine lv_istore (lv' := [(7, .int rb), (6, .int (2 : Int32)), (5, .int (Int32.ofNat n)), (4, .ref (g.2.2 + 319)), (3, .ref (g.2.2 + 318)), (2, .ref (g.2.2 + 306)), (1, .ref (g.2.2 + 0)), (0, .ref b)]) hx hb dL_law_1839 hl (by decide) rfl (fun ls hl => ?_)
    refine lv_aload_n hx hb dL_law_1841 rfl (lv_at hl 5 rfl) ?_
    refine zr_cVi (rest := []) (As := []) X hP hS (ct_X8_thrown (g := g) (nc := 320) (I := Iq) (J := Jq) (O := O) hnJ l rfl) cw_L_132 (zr_recv X hP (by omega) (zb_ceJo zk_306 (by decide)) rfl) rfl hl.1 (Nat.le_of_ble_eq_true rfl) ⟨by omega, by omega⟩ ⟨by omega, by omega⟩ dL_law_1842 rfl (fun H locs hP hS => ?_)
    refine lv_iload hx hb dL_law_1845 (lv_at hl 1 rfl) ?_
    refine lv_icmp_eq (tgt := 1852) hx hb dL_law_1847 (by decide) (fun _ => ?_) (fun hc => absurd ht hc)
    refine lv_iload hx hb dL_law_1852 (lv_at hl 1 rfl) ?_
    refine lv_if_ne (tgt := 1869) hx hb dL_law_1854 (by decide) (fun _ => ?_) (fun hc => absurd hc (by decide))
    refine lv_goto (tgt := 2550) hx hb dL_law_1869 (by decide) ?_
    exact kk _ _ _ _ _ _ hr9 hP hS (lv_sub hl [2, 3, 4, 5, 6, 7] rfl)

set_option maxHeartbeats 1000000 in
theorem lw_c32 {p : Program} {l : Launch} {e : Env} {R : Room} {s : State} {m : MethodId} {args : Array Value} {below : List Frame} {meth : Method} {c : Code} {H : Heap} {locs : List Loc} {cells slots : Nat} {Q : State → Prop} {g : zb_G} {ls : Array Slot} {b L n : Nat} {xs : Nat → Int32} {Rel : Nat → Mem → Mem → Prop} (hq : eqP_32 Rel) {I J O : Mem} (hRel : Rel n I J) (hlT : l.stackTraces = false) (X : zb_X g p m c cL_law 10 s args RL meth) (hnc : zb_Nc s) (hX : va_X b L xs s s.heap) (hbl : b < s.heap.size) (hbA : ¬ zb_A g b) (hn : n + 6 ≤ L) (hL : L ≤ 3072)
    (hP : va_P g.1 vwCl (zb_ws g 320 (zb_ce g I J O)) H) (hS : va_S (zb_A g) s.heap H locs) (hl : lv_has ls 10 [(5, .int (Int32.ofNat n)), (4, .ref (g.2.2 + 319)), (3, .ref (g.2.2 + 318)), (2, .ref (g.2.2 + 306)), (1, .ref (g.2.2 + 0)), (0, .ref b)]) (h1 : 13 ≤ R.frames) (h2 : 472 ≤ R.locals) (h3 : cells + 1 ≤ R.cells) (h4 : slots + 6 ≤ R.slots)
    (kk : ∀ (I J O : Mem) (H : Heap) (locs : List Loc) (ls : Array Slot), Rel (n + 6) I J → va_P g.1 vwCl (zb_ws g 320 (zb_ce g I J O)) H → va_S (zb_A g) s.heap H locs → lv_has ls 10 [(5, .int (Int32.ofNat n)), (4, .ref (g.2.2 + 319)), (3, .ref (g.2.2 + 318)), (2, .ref (g.2.2 + 306)), (1, .ref (g.2.2 + 0)), (0, .ref b)] → W p l e R s m args below meth c H locs (cells + 1) (slots + 6) Q (F0 m 2550 ls [])) : W p l e R s m args below meth c H locs cells slots Q (F0 m 1872 ls []) := by
  have hx := X.1.1
  have hb := X.1.2.1
  have hnI : 306 ≤ 320 := by decide
  have hnJ : 318 ≤ 320 := by decide
  have hnO : 320 ≤ 320 := by decide
  obtain ⟨E, r, Iq, rb, Jq, hf, hj, hr9, hd9⟩ := hq n I J (by omega) hRel (xs (n + 1))
  rcases hd9 with ⟨rfl, ht, rfl⟩ | ⟨rfl, ht⟩
  · refine lv_aload_n hx hb dL_law_1872 rfl (lv_at hl 4 rfl) ?_
    refine lv_aload_n hx hb dL_law_1873 rfl (lv_at hl 5 rfl) ?_
    refine lv_iload hx hb dL_law_1874 (lv_at hl 0 rfl) ?_
    refine lv_iconst (v := (1 : Int32)) hx hb dL_law_1876 (by decide) ?_
    refine lv_iadd hx hb dL_law_1877 ?_
    refine zr_sldc (cn := 1) X hX hbl hbA hS (by omega) (by omega) rfl dL_law_1878 ?_
    refine lv_aload_n hx hb dL_law_1879 rfl (lv_at hl 2 rfl) ?_
    refine zr_cH (rest := []) (As := [.ref (g.2.2 + 0), .int (xs (n + 1)), .ref (g.2.2 + 318)]) X hP hS hnc (hn_L_remake (g := g) (nc := 320) (I := I) (J := J) (O := O) hnI hnO l hf) ch_L_245 rfl hl.1 (Nat.le_of_ble_eq_true rfl) ⟨by omega, by omega⟩ ⟨by omega, by omega⟩ dL_law_1880 rfl (fun H locs hP hS => ?_)
    refine lv_istore (lv' := [(6, .int (0 : Int32)), (5, .int (Int32.ofNat n)), (4, .ref (g.2.2 + 319)), (3, .ref (g.2.2 + 318)), (2, .ref (g.2.2 + 306)), (1, .ref (g.2.2 + 0)), (0, .ref b)]) hx hb dL_law_1883 hl (by decide) rfl (fun ls hl => ?_)
    refine lv_aload_n hx hb dL_law_1885 rfl (lv_at hl 4 rfl) ?_
    refine lv_aload_n hx hb dL_law_1886 rfl (lv_at hl 6 rfl) ?_
    refine lv_iload hx hb dL_law_1887 (lv_at hl 1 rfl) ?_
    refine lv_iconst (v := (1 : Int32)) hx hb dL_law_1889 (by decide) ?_
    refine lv_iadd hx hb dL_law_1890 ?_
    refine zr_sldc (cn := 1) X hX hbl hbA hS (by omega) (by omega) rfl dL_law_1891 ?_
    refine zr_cVi (rest := []) (As := [.int (xs (n + 1))]) X hP hS (ct_X8_remake (g := g) (nc := 320) (I := Iq) (J := J) (O := (wr O 318 0 r)) hnJ l hj) cw_L_247 (zr_recv X hP (by omega) (zb_ceJo zk_306 (by decide)) rfl) rfl hl.1 (Nat.le_of_ble_eq_true rfl) ⟨by omega, by omega⟩ ⟨by omega, by omega⟩ dL_law_1892 rfl (fun H locs hP hS => ?_)
    refine lv_istore (lv' := [(7, .int r), (6, .int (0 : Int32)), (5, .int (Int32.ofNat n)), (4, .ref (g.2.2 + 319)), (3, .ref (g.2.2 + 318)), (2, .ref (g.2.2 + 306)), (1, .ref (g.2.2 + 0)), (0, .ref b)]) hx hb dL_law_1895 hl (by decide) rfl (fun ls hl => ?_)
    refine lv_aload_n hx hb dL_law_1897 rfl (lv_at hl 5 rfl) ?_
    refine zr_cVi (rest := []) (As := []) X hP hS (ct_X8_thrown (g := g) (nc := 320) (I := Iq) (J := Jq) (O := (wr O 318 0 r)) hnJ l rfl) cw_L_132 (zr_recv X hP (by omega) (zb_ceJo zk_306 (by decide)) rfl) rfl hl.1 (Nat.le_of_ble_eq_true rfl) ⟨by omega, by omega⟩ ⟨by omega, by omega⟩ dL_law_1898 rfl (fun H locs hP hS => ?_)
    refine lv_iload hx hb dL_law_1901 (lv_at hl 1 rfl) ?_
    refine lv_icmp_eq (tgt := 1908) hx hb dL_law_1903 (by decide) (fun _ => ?_) (fun hc => absurd ht hc)
    refine lv_iload hx hb dL_law_1908 (lv_at hl 1 rfl) ?_
    refine lv_if_ne (tgt := 1925) hx hb dL_law_1910 (by decide) (fun hc => absurd rfl hc) (fun _ => ?_)
    refine lv_aload_n hx hb dL_law_1913 rfl (lv_at hl 4 rfl) ?_
    refine lv_iconst (v := (0 : Int32)) hx hb dL_law_1914 (by decide) ?_
    refine zr_lald X hP hnO dL_law_1915 ?_
    refine lv_iload hx hb dL_law_1916 (lv_at hl 0 rfl) ?_
    refine lv_i2l hx hb dL_law_1918 rfl ?_
    refine zr_lcmp0 hx hb dL_law_1919 ?_
    refine lv_if_eq (tgt := 1925) hx hb dL_law_1920 (by decide) (fun _ => ?_) (fun hc => absurd rfl hc)
    refine lv_goto (tgt := 2550) hx hb dL_law_1925 (by decide) ?_
    exact W.widen (Nat.le_succ _) (Nat.le_add_right _ 6) (kk _ _ _ _ _ _ hr9 hP hS (lv_sub hl [2, 3, 4, 5, 6, 7] rfl))
  · refine lv_aload_n hx hb dL_law_1872 rfl (lv_at hl 4 rfl) ?_
    refine lv_aload_n hx hb dL_law_1873 rfl (lv_at hl 5 rfl) ?_
    refine lv_iload hx hb dL_law_1874 (lv_at hl 0 rfl) ?_
    refine lv_iconst (v := (1 : Int32)) hx hb dL_law_1876 (by decide) ?_
    refine lv_iadd hx hb dL_law_1877 ?_
    refine zr_sldc (cn := 1) X hX hbl hbA hS (by omega) (by omega) rfl dL_law_1878 ?_
    refine lv_aload_n hx hb dL_law_1879 rfl (lv_at hl 2 rfl) ?_
    refine zr_cH (rest := []) (As := [.ref (g.2.2 + 0), .int (xs (n + 1)), .ref (g.2.2 + 318)]) X hP hS hnc (hc1_L_remake (g := g) (nc := 320) (I := I) (J := J) (O := O) hnI hnO l hlT hf) ch_L_245 rfl hl.1 (Nat.le_of_ble_eq_true rfl) ⟨by omega, by omega⟩ ⟨by omega, by omega⟩ dL_law_1880 rfl (fun H locs hP hS => ?_)
    refine lv_istore (lv' := [(6, .int (1 : Int32)), (5, .int (Int32.ofNat n)), (4, .ref (g.2.2 + 319)), (3, .ref (g.2.2 + 318)), (2, .ref (g.2.2 + 306)), (1, .ref (g.2.2 + 0)), (0, .ref b)]) hx hb dL_law_1883 hl (by decide) rfl (fun ls hl => ?_)
    refine lv_aload_n hx hb dL_law_1885 rfl (lv_at hl 4 rfl) ?_
    refine lv_aload_n hx hb dL_law_1886 rfl (lv_at hl 6 rfl) ?_
    refine lv_iload hx hb dL_law_1887 (lv_at hl 1 rfl) ?_
    refine lv_iconst (v := (1 : Int32)) hx hb dL_law_1889 (by decide) ?_
    refine lv_iadd hx hb dL_law_1890 ?_
    refine zr_sldc (cn := 1) X hX hbl hbA hS (by omega) (by omega) rfl dL_law_1891 ?_
    refine zr_cVi (rest := []) (As := [.int (xs (n + 1))]) X hP hS (ct_X8_remake (g := g) (nc := 320) (I := Iq) (J := J) (O := O) hnJ l hj) cw_L_247 (zr_recv X hP (by omega) (zb_ceJo zk_306 (by decide)) rfl) rfl hl.1 (Nat.le_of_ble_eq_true rfl) ⟨by omega, by omega⟩ ⟨by omega, by omega⟩ dL_law_1892 rfl (fun H locs hP hS => ?_)
    refine lv_istore (lv' := [(7, .int rb), (6, .int (1 : Int32)), (5, .int (Int32.ofNat n)), (4, .ref (g.2.2 + 319)), (3, .ref (g.2.2 + 318)), (2, .ref (g.2.2 + 306)), (1, .ref (g.2.2 + 0)), (0, .ref b)]) hx hb dL_law_1895 hl (by decide) rfl (fun ls hl => ?_)
    refine lv_aload_n hx hb dL_law_1897 rfl (lv_at hl 5 rfl) ?_
    refine zr_cVi (rest := []) (As := []) X hP hS (ct_X8_thrown (g := g) (nc := 320) (I := Iq) (J := Jq) (O := O) hnJ l rfl) cw_L_132 (zr_recv X hP (by omega) (zb_ceJo zk_306 (by decide)) rfl) rfl hl.1 (Nat.le_of_ble_eq_true rfl) ⟨by omega, by omega⟩ ⟨by omega, by omega⟩ dL_law_1898 rfl (fun H locs hP hS => ?_)
    refine lv_iload hx hb dL_law_1901 (lv_at hl 1 rfl) ?_
    refine lv_icmp_eq (tgt := 1908) hx hb dL_law_1903 (by decide) (fun _ => ?_) (fun hc => absurd ht hc)
    refine lv_iload hx hb dL_law_1908 (lv_at hl 1 rfl) ?_
    refine lv_if_ne (tgt := 1925) hx hb dL_law_1910 (by decide) (fun _ => ?_) (fun hc => absurd hc (by decide))
    refine lv_goto (tgt := 2550) hx hb dL_law_1925 (by decide) ?_
    exact kk _ _ _ _ _ _ hr9 hP hS (lv_sub hl [2, 3, 4, 5, 6, 7] rfl)

set_option maxHeartbeats 1000000 in
theorem lw_c33 {p : Program} {l : Launch} {e : Env} {R : Room} {s : State} {m : MethodId} {args : Array Value} {below : List Frame} {meth : Method} {c : Code} {H : Heap} {locs : List Loc} {cells slots : Nat} {Q : State → Prop} {g : zb_G} {ls : Array Slot} {b L n : Nat} {xs : Nat → Int32} {Rel : Nat → Mem → Mem → Prop} (hq : eqP_33 Rel) {I J O : Mem} (hRel : Rel n I J) (hlT : l.stackTraces = false) (X : zb_X g p m c cL_law 10 s args RL meth) (hnc : zb_Nc s) (hX : va_X b L xs s s.heap) (hbl : b < s.heap.size) (hbA : ¬ zb_A g b) (hn : n + 6 ≤ L) (hL : L ≤ 3072)
    (hP : va_P g.1 vwCl (zb_ws g 320 (zb_ce g I J O)) H) (hS : va_S (zb_A g) s.heap H locs) (hl : lv_has ls 10 [(5, .int (Int32.ofNat n)), (4, .ref (g.2.2 + 319)), (3, .ref (g.2.2 + 318)), (2, .ref (g.2.2 + 306)), (1, .ref (g.2.2 + 0)), (0, .ref b)]) (h1 : 13 ≤ R.frames) (h2 : 472 ≤ R.locals) (h3 : cells + 1 ≤ R.cells) (h4 : slots + 6 ≤ R.slots)
    (kk : ∀ (I J O : Mem) (H : Heap) (locs : List Loc) (ls : Array Slot), Rel (n + 6) I J → va_P g.1 vwCl (zb_ws g 320 (zb_ce g I J O)) H → va_S (zb_A g) s.heap H locs → lv_has ls 10 [(5, .int (Int32.ofNat n)), (4, .ref (g.2.2 + 319)), (3, .ref (g.2.2 + 318)), (2, .ref (g.2.2 + 306)), (1, .ref (g.2.2 + 0)), (0, .ref b)] → W p l e R s m args below meth c H locs (cells + 1) (slots + 6) Q (F0 m 2550 ls [])) : W p l e R s m args below meth c H locs cells slots Q (F0 m 1928 ls []) := by
  have hx := X.1.1
  have hb := X.1.2.1
  have hnI : 306 ≤ 320 := by decide
  have hnJ : 318 ≤ 320 := by decide
  have hnO : 320 ≤ 320 := by decide
  obtain ⟨E, r, Iq, rb, Jq, hf, hj, hr9, hd9⟩ := hq n I J (by omega) hRel (xs (n + 1))
  rcases hd9 with ⟨rfl, ht, rfl⟩ | ⟨rfl, ht⟩
  · refine lv_aload_n hx hb dL_law_1928 rfl (lv_at hl 4 rfl) ?_
    refine lv_aload_n hx hb dL_law_1929 rfl (lv_at hl 5 rfl) ?_
    refine lv_iload hx hb dL_law_1930 (lv_at hl 0 rfl) ?_
    refine lv_iconst (v := (1 : Int32)) hx hb dL_law_1932 (by decide) ?_
    refine lv_iadd hx hb dL_law_1933 ?_
    refine zr_sldc (cn := 1) X hX hbl hbA hS (by omega) (by omega) rfl dL_law_1934 ?_
    refine lv_aload_n hx hb dL_law_1935 rfl (lv_at hl 2 rfl) ?_
    refine zr_cH (rest := []) (As := [.ref (g.2.2 + 0), .int (xs (n + 1)), .ref (g.2.2 + 318)]) X hP hS hnc (hn_L_remakeBy (g := g) (nc := 320) (I := I) (J := J) (O := O) hnI hnO l hf) ch_L_248 rfl hl.1 (Nat.le_of_ble_eq_true rfl) ⟨by omega, by omega⟩ ⟨by omega, by omega⟩ dL_law_1936 rfl (fun H locs hP hS => ?_)
    refine lv_istore (lv' := [(6, .int (0 : Int32)), (5, .int (Int32.ofNat n)), (4, .ref (g.2.2 + 319)), (3, .ref (g.2.2 + 318)), (2, .ref (g.2.2 + 306)), (1, .ref (g.2.2 + 0)), (0, .ref b)]) hx hb dL_law_1939 hl (by decide) rfl (fun ls hl => ?_)
    refine lv_aload_n hx hb dL_law_1941 rfl (lv_at hl 4 rfl) ?_
    refine lv_aload_n hx hb dL_law_1942 rfl (lv_at hl 6 rfl) ?_
    refine lv_iload hx hb dL_law_1943 (lv_at hl 1 rfl) ?_
    refine lv_iconst (v := (1 : Int32)) hx hb dL_law_1945 (by decide) ?_
    refine lv_iadd hx hb dL_law_1946 ?_
    refine zr_sldc (cn := 1) X hX hbl hbA hS (by omega) (by omega) rfl dL_law_1947 ?_
    refine zr_cVi (rest := []) (As := [.int (xs (n + 1))]) X hP hS (ct_X8_remakeBy (g := g) (nc := 320) (I := Iq) (J := J) (O := (wr O 318 0 r)) hnJ l hj) cw_L_250 (zr_recv X hP (by omega) (zb_ceJo zk_306 (by decide)) rfl) rfl hl.1 (Nat.le_of_ble_eq_true rfl) ⟨by omega, by omega⟩ ⟨by omega, by omega⟩ dL_law_1948 rfl (fun H locs hP hS => ?_)
    refine lv_istore (lv' := [(7, .int r), (6, .int (0 : Int32)), (5, .int (Int32.ofNat n)), (4, .ref (g.2.2 + 319)), (3, .ref (g.2.2 + 318)), (2, .ref (g.2.2 + 306)), (1, .ref (g.2.2 + 0)), (0, .ref b)]) hx hb dL_law_1951 hl (by decide) rfl (fun ls hl => ?_)
    refine lv_aload_n hx hb dL_law_1953 rfl (lv_at hl 5 rfl) ?_
    refine zr_cVi (rest := []) (As := []) X hP hS (ct_X8_thrown (g := g) (nc := 320) (I := Iq) (J := Jq) (O := (wr O 318 0 r)) hnJ l rfl) cw_L_132 (zr_recv X hP (by omega) (zb_ceJo zk_306 (by decide)) rfl) rfl hl.1 (Nat.le_of_ble_eq_true rfl) ⟨by omega, by omega⟩ ⟨by omega, by omega⟩ dL_law_1954 rfl (fun H locs hP hS => ?_)
    refine lv_iload hx hb dL_law_1957 (lv_at hl 1 rfl) ?_
    refine lv_icmp_eq (tgt := 1964) hx hb dL_law_1959 (by decide) (fun _ => ?_) (fun hc => absurd ht hc)
    refine lv_iload hx hb dL_law_1964 (lv_at hl 1 rfl) ?_
    refine lv_if_ne (tgt := 1981) hx hb dL_law_1966 (by decide) (fun hc => absurd rfl hc) (fun _ => ?_)
    refine lv_aload_n hx hb dL_law_1969 rfl (lv_at hl 4 rfl) ?_
    refine lv_iconst (v := (0 : Int32)) hx hb dL_law_1970 (by decide) ?_
    refine zr_lald X hP hnO dL_law_1971 ?_
    refine lv_iload hx hb dL_law_1972 (lv_at hl 0 rfl) ?_
    refine lv_i2l hx hb dL_law_1974 rfl ?_
    refine zr_lcmp0 hx hb dL_law_1975 ?_
    refine lv_if_eq (tgt := 1981) hx hb dL_law_1976 (by decide) (fun _ => ?_) (fun hc => absurd rfl hc)
    refine lv_goto (tgt := 2550) hx hb dL_law_1981 (by decide) ?_
    exact W.widen (Nat.le_succ _) (Nat.le_add_right _ 6) (kk _ _ _ _ _ _ hr9 hP hS (lv_sub hl [2, 3, 4, 5, 6, 7] rfl))
  · refine lv_aload_n hx hb dL_law_1928 rfl (lv_at hl 4 rfl) ?_
    refine lv_aload_n hx hb dL_law_1929 rfl (lv_at hl 5 rfl) ?_
    refine lv_iload hx hb dL_law_1930 (lv_at hl 0 rfl) ?_
    refine lv_iconst (v := (1 : Int32)) hx hb dL_law_1932 (by decide) ?_
    refine lv_iadd hx hb dL_law_1933 ?_
    refine zr_sldc (cn := 1) X hX hbl hbA hS (by omega) (by omega) rfl dL_law_1934 ?_
    refine lv_aload_n hx hb dL_law_1935 rfl (lv_at hl 2 rfl) ?_
    refine zr_cH (rest := []) (As := [.ref (g.2.2 + 0), .int (xs (n + 1)), .ref (g.2.2 + 318)]) X hP hS hnc (hc1_L_remakeBy (g := g) (nc := 320) (I := I) (J := J) (O := O) hnI hnO l hlT hf) ch_L_248 rfl hl.1 (Nat.le_of_ble_eq_true rfl) ⟨by omega, by omega⟩ ⟨by omega, by omega⟩ dL_law_1936 rfl (fun H locs hP hS => ?_)
    refine lv_istore (lv' := [(6, .int (1 : Int32)), (5, .int (Int32.ofNat n)), (4, .ref (g.2.2 + 319)), (3, .ref (g.2.2 + 318)), (2, .ref (g.2.2 + 306)), (1, .ref (g.2.2 + 0)), (0, .ref b)]) hx hb dL_law_1939 hl (by decide) rfl (fun ls hl => ?_)
    refine lv_aload_n hx hb dL_law_1941 rfl (lv_at hl 4 rfl) ?_
    refine lv_aload_n hx hb dL_law_1942 rfl (lv_at hl 6 rfl) ?_
    refine lv_iload hx hb dL_law_1943 (lv_at hl 1 rfl) ?_
    refine lv_iconst (v := (1 : Int32)) hx hb dL_law_1945 (by decide) ?_
    refine lv_iadd hx hb dL_law_1946 ?_
    refine zr_sldc (cn := 1) X hX hbl hbA hS (by omega) (by omega) rfl dL_law_1947 ?_
    refine zr_cVi (rest := []) (As := [.int (xs (n + 1))]) X hP hS (ct_X8_remakeBy (g := g) (nc := 320) (I := Iq) (J := J) (O := O) hnJ l hj) cw_L_250 (zr_recv X hP (by omega) (zb_ceJo zk_306 (by decide)) rfl) rfl hl.1 (Nat.le_of_ble_eq_true rfl) ⟨by omega, by omega⟩ ⟨by omega, by omega⟩ dL_law_1948 rfl (fun H locs hP hS => ?_)
    refine lv_istore (lv' := [(7, .int rb), (6, .int (1 : Int32)), (5, .int (Int32.ofNat n)), (4, .ref (g.2.2 + 319)), (3, .ref (g.2.2 + 318)), (2, .ref (g.2.2 + 306)), (1, .ref (g.2.2 + 0)), (0, .ref b)]) hx hb dL_law_1951 hl (by decide) rfl (fun ls hl => ?_)
    refine lv_aload_n hx hb dL_law_1953 rfl (lv_at hl 5 rfl) ?_
    refine zr_cVi (rest := []) (As := []) X hP hS (ct_X8_thrown (g := g) (nc := 320) (I := Iq) (J := Jq) (O := O) hnJ l rfl) cw_L_132 (zr_recv X hP (by omega) (zb_ceJo zk_306 (by decide)) rfl) rfl hl.1 (Nat.le_of_ble_eq_true rfl) ⟨by omega, by omega⟩ ⟨by omega, by omega⟩ dL_law_1954 rfl (fun H locs hP hS => ?_)
    refine lv_iload hx hb dL_law_1957 (lv_at hl 1 rfl) ?_
    refine lv_icmp_eq (tgt := 1964) hx hb dL_law_1959 (by decide) (fun _ => ?_) (fun hc => absurd ht hc)
    refine lv_iload hx hb dL_law_1964 (lv_at hl 1 rfl) ?_
    refine lv_if_ne (tgt := 1981) hx hb dL_law_1966 (by decide) (fun _ => ?_) (fun hc => absurd hc (by decide))
    refine lv_goto (tgt := 2550) hx hb dL_law_1981 (by decide) ?_
    exact kk _ _ _ _ _ _ hr9 hP hS (lv_sub hl [2, 3, 4, 5, 6, 7] rfl)

set_option maxHeartbeats 1000000 in
theorem lw_c34 {p : Program} {l : Launch} {e : Env} {R : Room} {s : State} {m : MethodId} {args : Array Value} {below : List Frame} {meth : Method} {c : Code} {H : Heap} {locs : List Loc} {cells slots : Nat} {Q : State → Prop} {g : zb_G} {ls : Array Slot} {b L n : Nat} {xs : Nat → Int32} {Rel : Nat → Mem → Mem → Prop} (hq : eqP_34 Rel) {I J O : Mem} (hRel : Rel n I J) (hlT : l.stackTraces = false) (X : zb_X g p m c cL_law 10 s args RL meth) (hnc : zb_Nc s) (hX : va_X b L xs s s.heap) (hbl : b < s.heap.size) (hbA : ¬ zb_A g b) (hn : n + 6 ≤ L) (hL : L ≤ 3072)
    (hP : va_P g.1 vwCl (zb_ws g 320 (zb_ce g I J O)) H) (hS : va_S (zb_A g) s.heap H locs) (hl : lv_has ls 10 [(5, .int (Int32.ofNat n)), (4, .ref (g.2.2 + 319)), (3, .ref (g.2.2 + 318)), (2, .ref (g.2.2 + 306)), (1, .ref (g.2.2 + 0)), (0, .ref b)]) (h1 : 13 ≤ R.frames) (h2 : 472 ≤ R.locals) (h3 : cells + 1 ≤ R.cells) (h4 : slots + 6 ≤ R.slots)
    (kk : ∀ (I J O : Mem) (H : Heap) (locs : List Loc) (ls : Array Slot), Rel (n + 6) I J → va_P g.1 vwCl (zb_ws g 320 (zb_ce g I J O)) H → va_S (zb_A g) s.heap H locs → lv_has ls 10 [(5, .int (Int32.ofNat n)), (4, .ref (g.2.2 + 319)), (3, .ref (g.2.2 + 318)), (2, .ref (g.2.2 + 306)), (1, .ref (g.2.2 + 0)), (0, .ref b)] → W p l e R s m args below meth c H locs (cells + 1) (slots + 6) Q (F0 m 2550 ls [])) : W p l e R s m args below meth c H locs cells slots Q (F0 m 1984 ls []) := by
  have hx := X.1.1
  have hb := X.1.2.1
  have hnI : 306 ≤ 320 := by decide
  have hnJ : 318 ≤ 320 := by decide
  have hnO : 320 ≤ 320 := by decide
  obtain ⟨E, r, Iq, rb, Jq, hf, hj, hr9, hd9⟩ := hq n I J (by omega) hRel (xs (n + 1))
  rcases hd9 with ⟨rfl, ht, rfl⟩ | ⟨rfl, ht⟩
  · refine lv_aload_n hx hb dL_law_1984 rfl (lv_at hl 4 rfl) ?_
    refine lv_aload_n hx hb dL_law_1985 rfl (lv_at hl 5 rfl) ?_
    refine lv_iload hx hb dL_law_1986 (lv_at hl 0 rfl) ?_
    refine lv_iconst (v := (1 : Int32)) hx hb dL_law_1988 (by decide) ?_
    refine lv_iadd hx hb dL_law_1989 ?_
    refine zr_sldc (cn := 1) X hX hbl hbA hS (by omega) (by omega) rfl dL_law_1990 ?_
    refine lv_aload_n hx hb dL_law_1991 rfl (lv_at hl 2 rfl) ?_
    refine zr_cH (rest := []) (As := [.ref (g.2.2 + 0), .int (xs (n + 1)), .ref (g.2.2 + 318)]) X hP hS hnc (hn_L_haul (g := g) (nc := 320) (I := I) (J := J) (O := O) hnI hnO l hf) ch_L_251 rfl hl.1 (Nat.le_of_ble_eq_true rfl) ⟨by omega, by omega⟩ ⟨by omega, by omega⟩ dL_law_1992 rfl (fun H locs hP hS => ?_)
    refine lv_istore (lv' := [(6, .int (0 : Int32)), (5, .int (Int32.ofNat n)), (4, .ref (g.2.2 + 319)), (3, .ref (g.2.2 + 318)), (2, .ref (g.2.2 + 306)), (1, .ref (g.2.2 + 0)), (0, .ref b)]) hx hb dL_law_1995 hl (by decide) rfl (fun ls hl => ?_)
    refine lv_aload_n hx hb dL_law_1997 rfl (lv_at hl 4 rfl) ?_
    refine lv_aload_n hx hb dL_law_1998 rfl (lv_at hl 6 rfl) ?_
    refine lv_iload hx hb dL_law_1999 (lv_at hl 1 rfl) ?_
    refine lv_iconst (v := (1 : Int32)) hx hb dL_law_2001 (by decide) ?_
    refine lv_iadd hx hb dL_law_2002 ?_
    refine zr_sldc (cn := 1) X hX hbl hbA hS (by omega) (by omega) rfl dL_law_2003 ?_
    refine zr_cVi (rest := []) (As := [.int (xs (n + 1))]) X hP hS (ct_X8_haul (g := g) (nc := 320) (I := Iq) (J := J) (O := (wr O 318 0 r)) hnJ l hj) cw_L_253 (zr_recv X hP (by omega) (zb_ceJo zk_306 (by decide)) rfl) rfl hl.1 (Nat.le_of_ble_eq_true rfl) ⟨by omega, by omega⟩ ⟨by omega, by omega⟩ dL_law_2004 rfl (fun H locs hP hS => ?_)
    refine lv_istore (lv' := [(7, .int r), (6, .int (0 : Int32)), (5, .int (Int32.ofNat n)), (4, .ref (g.2.2 + 319)), (3, .ref (g.2.2 + 318)), (2, .ref (g.2.2 + 306)), (1, .ref (g.2.2 + 0)), (0, .ref b)]) hx hb dL_law_2007 hl (by decide) rfl (fun ls hl => ?_)
    refine lv_aload_n hx hb dL_law_2009 rfl (lv_at hl 5 rfl) ?_
    refine zr_cVi (rest := []) (As := []) X hP hS (ct_X8_thrown (g := g) (nc := 320) (I := Iq) (J := Jq) (O := (wr O 318 0 r)) hnJ l rfl) cw_L_132 (zr_recv X hP (by omega) (zb_ceJo zk_306 (by decide)) rfl) rfl hl.1 (Nat.le_of_ble_eq_true rfl) ⟨by omega, by omega⟩ ⟨by omega, by omega⟩ dL_law_2010 rfl (fun H locs hP hS => ?_)
    refine lv_iload hx hb dL_law_2013 (lv_at hl 1 rfl) ?_
    refine lv_icmp_eq (tgt := 2020) hx hb dL_law_2015 (by decide) (fun _ => ?_) (fun hc => absurd ht hc)
    refine lv_iload hx hb dL_law_2020 (lv_at hl 1 rfl) ?_
    refine lv_if_ne (tgt := 2037) hx hb dL_law_2022 (by decide) (fun hc => absurd rfl hc) (fun _ => ?_)
    refine lv_aload_n hx hb dL_law_2025 rfl (lv_at hl 4 rfl) ?_
    refine lv_iconst (v := (0 : Int32)) hx hb dL_law_2026 (by decide) ?_
    refine zr_lald X hP hnO dL_law_2027 ?_
    refine lv_iload hx hb dL_law_2028 (lv_at hl 0 rfl) ?_
    refine lv_i2l hx hb dL_law_2030 rfl ?_
    refine zr_lcmp0 hx hb dL_law_2031 ?_
    refine lv_if_eq (tgt := 2037) hx hb dL_law_2032 (by decide) (fun _ => ?_) (fun hc => absurd rfl hc)
    refine lv_goto (tgt := 2550) hx hb dL_law_2037 (by decide) ?_
    exact W.widen (Nat.le_succ _) (Nat.le_add_right _ 6) (kk _ _ _ _ _ _ hr9 hP hS (lv_sub hl [2, 3, 4, 5, 6, 7] rfl))
  · refine lv_aload_n hx hb dL_law_1984 rfl (lv_at hl 4 rfl) ?_
    refine lv_aload_n hx hb dL_law_1985 rfl (lv_at hl 5 rfl) ?_
    refine lv_iload hx hb dL_law_1986 (lv_at hl 0 rfl) ?_
    refine lv_iconst (v := (1 : Int32)) hx hb dL_law_1988 (by decide) ?_
    refine lv_iadd hx hb dL_law_1989 ?_
    refine zr_sldc (cn := 1) X hX hbl hbA hS (by omega) (by omega) rfl dL_law_1990 ?_
    refine lv_aload_n hx hb dL_law_1991 rfl (lv_at hl 2 rfl) ?_
    refine zr_cH (rest := []) (As := [.ref (g.2.2 + 0), .int (xs (n + 1)), .ref (g.2.2 + 318)]) X hP hS hnc (hc1_L_haul (g := g) (nc := 320) (I := I) (J := J) (O := O) hnI hnO l hlT hf) ch_L_251 rfl hl.1 (Nat.le_of_ble_eq_true rfl) ⟨by omega, by omega⟩ ⟨by omega, by omega⟩ dL_law_1992 rfl (fun H locs hP hS => ?_)
    refine lv_istore (lv' := [(6, .int (1 : Int32)), (5, .int (Int32.ofNat n)), (4, .ref (g.2.2 + 319)), (3, .ref (g.2.2 + 318)), (2, .ref (g.2.2 + 306)), (1, .ref (g.2.2 + 0)), (0, .ref b)]) hx hb dL_law_1995 hl (by decide) rfl (fun ls hl => ?_)
    refine lv_aload_n hx hb dL_law_1997 rfl (lv_at hl 4 rfl) ?_
    refine lv_aload_n hx hb dL_law_1998 rfl (lv_at hl 6 rfl) ?_
    refine lv_iload hx hb dL_law_1999 (lv_at hl 1 rfl) ?_
    refine lv_iconst (v := (1 : Int32)) hx hb dL_law_2001 (by decide) ?_
    refine lv_iadd hx hb dL_law_2002 ?_
    refine zr_sldc (cn := 1) X hX hbl hbA hS (by omega) (by omega) rfl dL_law_2003 ?_
    refine zr_cVi (rest := []) (As := [.int (xs (n + 1))]) X hP hS (ct_X8_haul (g := g) (nc := 320) (I := Iq) (J := J) (O := O) hnJ l hj) cw_L_253 (zr_recv X hP (by omega) (zb_ceJo zk_306 (by decide)) rfl) rfl hl.1 (Nat.le_of_ble_eq_true rfl) ⟨by omega, by omega⟩ ⟨by omega, by omega⟩ dL_law_2004 rfl (fun H locs hP hS => ?_)
    refine lv_istore (lv' := [(7, .int rb), (6, .int (1 : Int32)), (5, .int (Int32.ofNat n)), (4, .ref (g.2.2 + 319)), (3, .ref (g.2.2 + 318)), (2, .ref (g.2.2 + 306)), (1, .ref (g.2.2 + 0)), (0, .ref b)]) hx hb dL_law_2007 hl (by decide) rfl (fun ls hl => ?_)
    refine lv_aload_n hx hb dL_law_2009 rfl (lv_at hl 5 rfl) ?_
    refine zr_cVi (rest := []) (As := []) X hP hS (ct_X8_thrown (g := g) (nc := 320) (I := Iq) (J := Jq) (O := O) hnJ l rfl) cw_L_132 (zr_recv X hP (by omega) (zb_ceJo zk_306 (by decide)) rfl) rfl hl.1 (Nat.le_of_ble_eq_true rfl) ⟨by omega, by omega⟩ ⟨by omega, by omega⟩ dL_law_2010 rfl (fun H locs hP hS => ?_)
    refine lv_iload hx hb dL_law_2013 (lv_at hl 1 rfl) ?_
    refine lv_icmp_eq (tgt := 2020) hx hb dL_law_2015 (by decide) (fun _ => ?_) (fun hc => absurd ht hc)
    refine lv_iload hx hb dL_law_2020 (lv_at hl 1 rfl) ?_
    refine lv_if_ne (tgt := 2037) hx hb dL_law_2022 (by decide) (fun _ => ?_) (fun hc => absurd hc (by decide))
    refine lv_goto (tgt := 2550) hx hb dL_law_2037 (by decide) ?_
    exact kk _ _ _ _ _ _ hr9 hP hS (lv_sub hl [2, 3, 4, 5, 6, 7] rfl)

set_option maxHeartbeats 1000000 in
theorem lw_c35 {p : Program} {l : Launch} {e : Env} {R : Room} {s : State} {m : MethodId} {args : Array Value} {below : List Frame} {meth : Method} {c : Code} {H : Heap} {locs : List Loc} {cells slots : Nat} {Q : State → Prop} {g : zb_G} {ls : Array Slot} {b L n : Nat} {xs : Nat → Int32} {Rel : Nat → Mem → Mem → Prop} (hq : eqP_35 Rel) {I J O : Mem} (hRel : Rel n I J) (hlT : l.stackTraces = false) (X : zb_X g p m c cL_law 10 s args RL meth) (hnc : zb_Nc s) (hX : va_X b L xs s s.heap) (hbl : b < s.heap.size) (hbA : ¬ zb_A g b) (hn : n + 6 ≤ L) (hL : L ≤ 3072)
    (hP : va_P g.1 vwCl (zb_ws g 320 (zb_ce g I J O)) H) (hS : va_S (zb_A g) s.heap H locs) (hl : lv_has ls 10 [(5, .int (Int32.ofNat n)), (4, .ref (g.2.2 + 319)), (3, .ref (g.2.2 + 318)), (2, .ref (g.2.2 + 306)), (1, .ref (g.2.2 + 0)), (0, .ref b)]) (h1 : 13 ≤ R.frames) (h2 : 472 ≤ R.locals) (h3 : cells + 1 ≤ R.cells) (h4 : slots + 6 ≤ R.slots)
    (kk : ∀ (I J O : Mem) (H : Heap) (locs : List Loc) (ls : Array Slot), Rel (n + 6) I J → va_P g.1 vwCl (zb_ws g 320 (zb_ce g I J O)) H → va_S (zb_A g) s.heap H locs → lv_has ls 10 [(5, .int (Int32.ofNat n)), (4, .ref (g.2.2 + 319)), (3, .ref (g.2.2 + 318)), (2, .ref (g.2.2 + 306)), (1, .ref (g.2.2 + 0)), (0, .ref b)] → W p l e R s m args below meth c H locs (cells + 1) (slots + 6) Q (F0 m 2550 ls [])) : W p l e R s m args below meth c H locs cells slots Q (F0 m 2040 ls []) := by
  have hx := X.1.1
  have hb := X.1.2.1
  have hnI : 306 ≤ 320 := by decide
  have hnJ : 318 ≤ 320 := by decide
  have hnO : 320 ≤ 320 := by decide
  obtain ⟨E, r, Iq, rb, Jq, hf, hj, hr9, hd9⟩ := hq n I J (by omega) hRel (xs (n + 1))
  rcases hd9 with ⟨rfl, ht, rfl⟩ | ⟨rfl, ht⟩
  · refine lv_aload_n hx hb dL_law_2040 rfl (lv_at hl 4 rfl) ?_
    refine lv_aload_n hx hb dL_law_2041 rfl (lv_at hl 5 rfl) ?_
    refine lv_iload hx hb dL_law_2042 (lv_at hl 0 rfl) ?_
    refine lv_iconst (v := (1 : Int32)) hx hb dL_law_2044 (by decide) ?_
    refine lv_iadd hx hb dL_law_2045 ?_
    refine zr_sldc (cn := 1) X hX hbl hbA hS (by omega) (by omega) rfl dL_law_2046 ?_
    refine lv_aload_n hx hb dL_law_2047 rfl (lv_at hl 2 rfl) ?_
    refine zr_cH (rest := []) (As := [.ref (g.2.2 + 0), .int (xs (n + 1)), .ref (g.2.2 + 318)]) X hP hS hnc (hn_L_addStock (g := g) (nc := 320) (I := I) (J := J) (O := O) hnI hnO l hf) ch_L_254 rfl hl.1 (Nat.le_of_ble_eq_true rfl) ⟨by omega, by omega⟩ ⟨by omega, by omega⟩ dL_law_2048 rfl (fun H locs hP hS => ?_)
    refine lv_istore (lv' := [(6, .int (0 : Int32)), (5, .int (Int32.ofNat n)), (4, .ref (g.2.2 + 319)), (3, .ref (g.2.2 + 318)), (2, .ref (g.2.2 + 306)), (1, .ref (g.2.2 + 0)), (0, .ref b)]) hx hb dL_law_2051 hl (by decide) rfl (fun ls hl => ?_)
    refine lv_aload_n hx hb dL_law_2053 rfl (lv_at hl 4 rfl) ?_
    refine lv_aload_n hx hb dL_law_2054 rfl (lv_at hl 6 rfl) ?_
    refine lv_iload hx hb dL_law_2055 (lv_at hl 1 rfl) ?_
    refine lv_iconst (v := (1 : Int32)) hx hb dL_law_2057 (by decide) ?_
    refine lv_iadd hx hb dL_law_2058 ?_
    refine zr_sldc (cn := 1) X hX hbl hbA hS (by omega) (by omega) rfl dL_law_2059 ?_
    refine zr_cVi (rest := []) (As := [.int (xs (n + 1))]) X hP hS (ct_X8_addStock (g := g) (nc := 320) (I := Iq) (J := J) (O := (wr O 318 0 r)) hnJ l hj) cw_L_256 (zr_recv X hP (by omega) (zb_ceJo zk_306 (by decide)) rfl) rfl hl.1 (Nat.le_of_ble_eq_true rfl) ⟨by omega, by omega⟩ ⟨by omega, by omega⟩ dL_law_2060 rfl (fun H locs hP hS => ?_)
    refine lv_istore (lv' := [(7, .int r), (6, .int (0 : Int32)), (5, .int (Int32.ofNat n)), (4, .ref (g.2.2 + 319)), (3, .ref (g.2.2 + 318)), (2, .ref (g.2.2 + 306)), (1, .ref (g.2.2 + 0)), (0, .ref b)]) hx hb dL_law_2063 hl (by decide) rfl (fun ls hl => ?_)
    refine lv_aload_n hx hb dL_law_2065 rfl (lv_at hl 5 rfl) ?_
    refine zr_cVi (rest := []) (As := []) X hP hS (ct_X8_thrown (g := g) (nc := 320) (I := Iq) (J := Jq) (O := (wr O 318 0 r)) hnJ l rfl) cw_L_132 (zr_recv X hP (by omega) (zb_ceJo zk_306 (by decide)) rfl) rfl hl.1 (Nat.le_of_ble_eq_true rfl) ⟨by omega, by omega⟩ ⟨by omega, by omega⟩ dL_law_2066 rfl (fun H locs hP hS => ?_)
    refine lv_iload hx hb dL_law_2069 (lv_at hl 1 rfl) ?_
    refine lv_icmp_eq (tgt := 2076) hx hb dL_law_2071 (by decide) (fun _ => ?_) (fun hc => absurd ht hc)
    refine lv_iload hx hb dL_law_2076 (lv_at hl 1 rfl) ?_
    refine lv_if_ne (tgt := 2093) hx hb dL_law_2078 (by decide) (fun hc => absurd rfl hc) (fun _ => ?_)
    refine lv_aload_n hx hb dL_law_2081 rfl (lv_at hl 4 rfl) ?_
    refine lv_iconst (v := (0 : Int32)) hx hb dL_law_2082 (by decide) ?_
    refine zr_lald X hP hnO dL_law_2083 ?_
    refine lv_iload hx hb dL_law_2084 (lv_at hl 0 rfl) ?_
    refine lv_i2l hx hb dL_law_2086 rfl ?_
    refine zr_lcmp0 hx hb dL_law_2087 ?_
    refine lv_if_eq (tgt := 2093) hx hb dL_law_2088 (by decide) (fun _ => ?_) (fun hc => absurd rfl hc)
    refine lv_goto (tgt := 2550) hx hb dL_law_2093 (by decide) ?_
    exact W.widen (Nat.le_succ _) (Nat.le_add_right _ 6) (kk _ _ _ _ _ _ hr9 hP hS (lv_sub hl [2, 3, 4, 5, 6, 7] rfl))
  · refine lv_aload_n hx hb dL_law_2040 rfl (lv_at hl 4 rfl) ?_
    refine lv_aload_n hx hb dL_law_2041 rfl (lv_at hl 5 rfl) ?_
    refine lv_iload hx hb dL_law_2042 (lv_at hl 0 rfl) ?_
    refine lv_iconst (v := (1 : Int32)) hx hb dL_law_2044 (by decide) ?_
    refine lv_iadd hx hb dL_law_2045 ?_
    refine zr_sldc (cn := 1) X hX hbl hbA hS (by omega) (by omega) rfl dL_law_2046 ?_
    refine lv_aload_n hx hb dL_law_2047 rfl (lv_at hl 2 rfl) ?_
    refine zr_cH (rest := []) (As := [.ref (g.2.2 + 0), .int (xs (n + 1)), .ref (g.2.2 + 318)]) X hP hS hnc (hc1_L_addStock (g := g) (nc := 320) (I := I) (J := J) (O := O) hnI hnO l hlT hf) ch_L_254 rfl hl.1 (Nat.le_of_ble_eq_true rfl) ⟨by omega, by omega⟩ ⟨by omega, by omega⟩ dL_law_2048 rfl (fun H locs hP hS => ?_)
    refine lv_istore (lv' := [(6, .int (1 : Int32)), (5, .int (Int32.ofNat n)), (4, .ref (g.2.2 + 319)), (3, .ref (g.2.2 + 318)), (2, .ref (g.2.2 + 306)), (1, .ref (g.2.2 + 0)), (0, .ref b)]) hx hb dL_law_2051 hl (by decide) rfl (fun ls hl => ?_)
    refine lv_aload_n hx hb dL_law_2053 rfl (lv_at hl 4 rfl) ?_
    refine lv_aload_n hx hb dL_law_2054 rfl (lv_at hl 6 rfl) ?_
    refine lv_iload hx hb dL_law_2055 (lv_at hl 1 rfl) ?_
    refine lv_iconst (v := (1 : Int32)) hx hb dL_law_2057 (by decide) ?_
    refine lv_iadd hx hb dL_law_2058 ?_
    refine zr_sldc (cn := 1) X hX hbl hbA hS (by omega) (by omega) rfl dL_law_2059 ?_
    refine zr_cVi (rest := []) (As := [.int (xs (n + 1))]) X hP hS (ct_X8_addStock (g := g) (nc := 320) (I := Iq) (J := J) (O := O) hnJ l hj) cw_L_256 (zr_recv X hP (by omega) (zb_ceJo zk_306 (by decide)) rfl) rfl hl.1 (Nat.le_of_ble_eq_true rfl) ⟨by omega, by omega⟩ ⟨by omega, by omega⟩ dL_law_2060 rfl (fun H locs hP hS => ?_)
    refine lv_istore (lv' := [(7, .int rb), (6, .int (1 : Int32)), (5, .int (Int32.ofNat n)), (4, .ref (g.2.2 + 319)), (3, .ref (g.2.2 + 318)), (2, .ref (g.2.2 + 306)), (1, .ref (g.2.2 + 0)), (0, .ref b)]) hx hb dL_law_2063 hl (by decide) rfl (fun ls hl => ?_)
    refine lv_aload_n hx hb dL_law_2065 rfl (lv_at hl 5 rfl) ?_
    refine zr_cVi (rest := []) (As := []) X hP hS (ct_X8_thrown (g := g) (nc := 320) (I := Iq) (J := Jq) (O := O) hnJ l rfl) cw_L_132 (zr_recv X hP (by omega) (zb_ceJo zk_306 (by decide)) rfl) rfl hl.1 (Nat.le_of_ble_eq_true rfl) ⟨by omega, by omega⟩ ⟨by omega, by omega⟩ dL_law_2066 rfl (fun H locs hP hS => ?_)
    refine lv_iload hx hb dL_law_2069 (lv_at hl 1 rfl) ?_
    refine lv_icmp_eq (tgt := 2076) hx hb dL_law_2071 (by decide) (fun _ => ?_) (fun hc => absurd ht hc)
    refine lv_iload hx hb dL_law_2076 (lv_at hl 1 rfl) ?_
    refine lv_if_ne (tgt := 2093) hx hb dL_law_2078 (by decide) (fun _ => ?_) (fun hc => absurd hc (by decide))
    refine lv_goto (tgt := 2550) hx hb dL_law_2093 (by decide) ?_
    exact kk _ _ _ _ _ _ hr9 hP hS (lv_sub hl [2, 3, 4, 5, 6, 7] rfl)

set_option maxHeartbeats 1000000 in
theorem lw_c36 {p : Program} {l : Launch} {e : Env} {R : Room} {s : State} {m : MethodId} {args : Array Value} {below : List Frame} {meth : Method} {c : Code} {H : Heap} {locs : List Loc} {cells slots : Nat} {Q : State → Prop} {g : zb_G} {ls : Array Slot} {b L n : Nat} {xs : Nat → Int32} {Rel : Nat → Mem → Mem → Prop} (hq : eqP_36 Rel) {I J O : Mem} (hRel : Rel n I J) (hlT : l.stackTraces = false) (X : zb_X g p m c cL_law 10 s args RL meth) (hnc : zb_Nc s) (hX : va_X b L xs s s.heap) (hbl : b < s.heap.size) (hbA : ¬ zb_A g b) (hn : n + 6 ≤ L) (hL : L ≤ 3072)
    (hP : va_P g.1 vwCl (zb_ws g 320 (zb_ce g I J O)) H) (hS : va_S (zb_A g) s.heap H locs) (hl : lv_has ls 10 [(5, .int (Int32.ofNat n)), (4, .ref (g.2.2 + 319)), (3, .ref (g.2.2 + 318)), (2, .ref (g.2.2 + 306)), (1, .ref (g.2.2 + 0)), (0, .ref b)]) (h1 : 13 ≤ R.frames) (h2 : 472 ≤ R.locals) (h3 : cells + 1 ≤ R.cells) (h4 : slots + 6 ≤ R.slots)
    (kk : ∀ (I J O : Mem) (H : Heap) (locs : List Loc) (ls : Array Slot), Rel (n + 6) I J → va_P g.1 vwCl (zb_ws g 320 (zb_ce g I J O)) H → va_S (zb_A g) s.heap H locs → lv_has ls 10 [(5, .int (Int32.ofNat n)), (4, .ref (g.2.2 + 319)), (3, .ref (g.2.2 + 318)), (2, .ref (g.2.2 + 306)), (1, .ref (g.2.2 + 0)), (0, .ref b)] → W p l e R s m args below meth c H locs (cells + 1) (slots + 6) Q (F0 m 2550 ls [])) : W p l e R s m args below meth c H locs cells slots Q (F0 m 2096 ls []) := by
  have hx := X.1.1
  have hb := X.1.2.1
  have hnI : 306 ≤ 320 := by decide
  have hnJ : 318 ≤ 320 := by decide
  have hnO : 320 ≤ 320 := by decide
  obtain ⟨E, r, Iq, rb, Jq, hf, hj, hr9, hd9⟩ := hq n I J (by omega) hRel (xs (n + 1)) (xs (n + 2))
  rcases hd9 with ⟨rfl, ht, rfl⟩ | ⟨rfl, ht⟩ | ⟨rfl, ht⟩
  · refine lv_aload_n hx hb dL_law_2096 rfl (lv_at hl 4 rfl) ?_
    refine lv_aload_n hx hb dL_law_2097 rfl (lv_at hl 5 rfl) ?_
    refine lv_iload hx hb dL_law_2098 (lv_at hl 0 rfl) ?_
    refine lv_iconst (v := (1 : Int32)) hx hb dL_law_2100 (by decide) ?_
    refine lv_iadd hx hb dL_law_2101 ?_
    refine zr_sldc (cn := 1) X hX hbl hbA hS (by omega) (by omega) rfl dL_law_2102 ?_
    refine lv_aload_n hx hb dL_law_2103 rfl (lv_at hl 5 rfl) ?_
    refine lv_iload hx hb dL_law_2104 (lv_at hl 0 rfl) ?_
    refine lv_iconst (v := (2 : Int32)) hx hb dL_law_2106 (by decide) ?_
    refine lv_iadd hx hb dL_law_2107 ?_
    refine zr_sldc (cn := 2) X hX hbl hbA hS (by omega) (by omega) rfl dL_law_2108 ?_
    refine lv_aload_n hx hb dL_law_2109 rfl (lv_at hl 2 rfl) ?_
    refine zr_cH (rest := []) (As := [.ref (g.2.2 + 0), .int (xs (n + 1)), .int (xs (n + 2)), .ref (g.2.2 + 318)]) X hP hS hnc (hn_L_setOffset (g := g) (nc := 320) (I := I) (J := J) (O := O) hnI hnO l hf) ch_L_257 rfl hl.1 (Nat.le_of_ble_eq_true rfl) ⟨by omega, by omega⟩ ⟨by omega, by omega⟩ dL_law_2110 rfl (fun H locs hP hS => ?_)
    refine lv_istore (lv' := [(6, .int (0 : Int32)), (5, .int (Int32.ofNat n)), (4, .ref (g.2.2 + 319)), (3, .ref (g.2.2 + 318)), (2, .ref (g.2.2 + 306)), (1, .ref (g.2.2 + 0)), (0, .ref b)]) hx hb dL_law_2113 hl (by decide) rfl (fun ls hl => ?_)
    refine lv_aload_n hx hb dL_law_2115 rfl (lv_at hl 4 rfl) ?_
    refine lv_aload_n hx hb dL_law_2116 rfl (lv_at hl 6 rfl) ?_
    refine lv_iload hx hb dL_law_2117 (lv_at hl 1 rfl) ?_
    refine lv_iconst (v := (1 : Int32)) hx hb dL_law_2119 (by decide) ?_
    refine lv_iadd hx hb dL_law_2120 ?_
    refine zr_sldc (cn := 1) X hX hbl hbA hS (by omega) (by omega) rfl dL_law_2121 ?_
    refine lv_aload_n hx hb dL_law_2122 rfl (lv_at hl 6 rfl) ?_
    refine lv_iload hx hb dL_law_2123 (lv_at hl 1 rfl) ?_
    refine lv_iconst (v := (2 : Int32)) hx hb dL_law_2125 (by decide) ?_
    refine lv_iadd hx hb dL_law_2126 ?_
    refine zr_sldc (cn := 2) X hX hbl hbA hS (by omega) (by omega) rfl dL_law_2127 ?_
    refine zr_cVi (rest := []) (As := [.int (xs (n + 1)), .int (xs (n + 2))]) X hP hS (ct_X8_setOffset (g := g) (nc := 320) (I := Iq) (J := J) (O := (wr O 318 0 r)) hnJ l hj) cw_L_259 (zr_recv X hP (by omega) (zb_ceJo zk_306 (by decide)) rfl) rfl hl.1 (Nat.le_of_ble_eq_true rfl) ⟨by omega, by omega⟩ ⟨by omega, by omega⟩ dL_law_2128 rfl (fun H locs hP hS => ?_)
    refine lv_istore (lv' := [(7, .int r), (6, .int (0 : Int32)), (5, .int (Int32.ofNat n)), (4, .ref (g.2.2 + 319)), (3, .ref (g.2.2 + 318)), (2, .ref (g.2.2 + 306)), (1, .ref (g.2.2 + 0)), (0, .ref b)]) hx hb dL_law_2131 hl (by decide) rfl (fun ls hl => ?_)
    refine lv_aload_n hx hb dL_law_2133 rfl (lv_at hl 5 rfl) ?_
    refine zr_cVi (rest := []) (As := []) X hP hS (ct_X8_thrown (g := g) (nc := 320) (I := Iq) (J := Jq) (O := (wr O 318 0 r)) hnJ l rfl) cw_L_132 (zr_recv X hP (by omega) (zb_ceJo zk_306 (by decide)) rfl) rfl hl.1 (Nat.le_of_ble_eq_true rfl) ⟨by omega, by omega⟩ ⟨by omega, by omega⟩ dL_law_2134 rfl (fun H locs hP hS => ?_)
    refine lv_iload hx hb dL_law_2137 (lv_at hl 1 rfl) ?_
    refine lv_icmp_eq (tgt := 2144) hx hb dL_law_2139 (by decide) (fun _ => ?_) (fun hc => absurd ht hc)
    refine lv_iload hx hb dL_law_2144 (lv_at hl 1 rfl) ?_
    refine lv_if_ne (tgt := 2161) hx hb dL_law_2146 (by decide) (fun hc => absurd rfl hc) (fun _ => ?_)
    refine lv_aload_n hx hb dL_law_2149 rfl (lv_at hl 4 rfl) ?_
    refine lv_iconst (v := (0 : Int32)) hx hb dL_law_2150 (by decide) ?_
    refine zr_lald X hP hnO dL_law_2151 ?_
    refine lv_iload hx hb dL_law_2152 (lv_at hl 0 rfl) ?_
    refine lv_i2l hx hb dL_law_2154 rfl ?_
    refine zr_lcmp0 hx hb dL_law_2155 ?_
    refine lv_if_eq (tgt := 2161) hx hb dL_law_2156 (by decide) (fun _ => ?_) (fun hc => absurd rfl hc)
    refine lv_goto (tgt := 2550) hx hb dL_law_2161 (by decide) ?_
    exact W.widen (Nat.le_succ _) (Nat.le_add_right _ 6) (kk _ _ _ _ _ _ hr9 hP hS (lv_sub hl [2, 3, 4, 5, 6, 7] rfl))
  · refine lv_aload_n hx hb dL_law_2096 rfl (lv_at hl 4 rfl) ?_
    refine lv_aload_n hx hb dL_law_2097 rfl (lv_at hl 5 rfl) ?_
    refine lv_iload hx hb dL_law_2098 (lv_at hl 0 rfl) ?_
    refine lv_iconst (v := (1 : Int32)) hx hb dL_law_2100 (by decide) ?_
    refine lv_iadd hx hb dL_law_2101 ?_
    refine zr_sldc (cn := 1) X hX hbl hbA hS (by omega) (by omega) rfl dL_law_2102 ?_
    refine lv_aload_n hx hb dL_law_2103 rfl (lv_at hl 5 rfl) ?_
    refine lv_iload hx hb dL_law_2104 (lv_at hl 0 rfl) ?_
    refine lv_iconst (v := (2 : Int32)) hx hb dL_law_2106 (by decide) ?_
    refine lv_iadd hx hb dL_law_2107 ?_
    refine zr_sldc (cn := 2) X hX hbl hbA hS (by omega) (by omega) rfl dL_law_2108 ?_
    refine lv_aload_n hx hb dL_law_2109 rfl (lv_at hl 2 rfl) ?_
    refine zr_cH (rest := []) (As := [.ref (g.2.2 + 0), .int (xs (n + 1)), .int (xs (n + 2)), .ref (g.2.2 + 318)]) X hP hS hnc (hc1_L_setOffset (g := g) (nc := 320) (I := I) (J := J) (O := O) hnI hnO l hlT hf) ch_L_257 rfl hl.1 (Nat.le_of_ble_eq_true rfl) ⟨by omega, by omega⟩ ⟨by omega, by omega⟩ dL_law_2110 rfl (fun H locs hP hS => ?_)
    refine lv_istore (lv' := [(6, .int (1 : Int32)), (5, .int (Int32.ofNat n)), (4, .ref (g.2.2 + 319)), (3, .ref (g.2.2 + 318)), (2, .ref (g.2.2 + 306)), (1, .ref (g.2.2 + 0)), (0, .ref b)]) hx hb dL_law_2113 hl (by decide) rfl (fun ls hl => ?_)
    refine lv_aload_n hx hb dL_law_2115 rfl (lv_at hl 4 rfl) ?_
    refine lv_aload_n hx hb dL_law_2116 rfl (lv_at hl 6 rfl) ?_
    refine lv_iload hx hb dL_law_2117 (lv_at hl 1 rfl) ?_
    refine lv_iconst (v := (1 : Int32)) hx hb dL_law_2119 (by decide) ?_
    refine lv_iadd hx hb dL_law_2120 ?_
    refine zr_sldc (cn := 1) X hX hbl hbA hS (by omega) (by omega) rfl dL_law_2121 ?_
    refine lv_aload_n hx hb dL_law_2122 rfl (lv_at hl 6 rfl) ?_
    refine lv_iload hx hb dL_law_2123 (lv_at hl 1 rfl) ?_
    refine lv_iconst (v := (2 : Int32)) hx hb dL_law_2125 (by decide) ?_
    refine lv_iadd hx hb dL_law_2126 ?_
    refine zr_sldc (cn := 2) X hX hbl hbA hS (by omega) (by omega) rfl dL_law_2127 ?_
    refine zr_cVi (rest := []) (As := [.int (xs (n + 1)), .int (xs (n + 2))]) X hP hS (ct_X8_setOffset (g := g) (nc := 320) (I := Iq) (J := J) (O := O) hnJ l hj) cw_L_259 (zr_recv X hP (by omega) (zb_ceJo zk_306 (by decide)) rfl) rfl hl.1 (Nat.le_of_ble_eq_true rfl) ⟨by omega, by omega⟩ ⟨by omega, by omega⟩ dL_law_2128 rfl (fun H locs hP hS => ?_)
    refine lv_istore (lv' := [(7, .int rb), (6, .int (1 : Int32)), (5, .int (Int32.ofNat n)), (4, .ref (g.2.2 + 319)), (3, .ref (g.2.2 + 318)), (2, .ref (g.2.2 + 306)), (1, .ref (g.2.2 + 0)), (0, .ref b)]) hx hb dL_law_2131 hl (by decide) rfl (fun ls hl => ?_)
    refine lv_aload_n hx hb dL_law_2133 rfl (lv_at hl 5 rfl) ?_
    refine zr_cVi (rest := []) (As := []) X hP hS (ct_X8_thrown (g := g) (nc := 320) (I := Iq) (J := Jq) (O := O) hnJ l rfl) cw_L_132 (zr_recv X hP (by omega) (zb_ceJo zk_306 (by decide)) rfl) rfl hl.1 (Nat.le_of_ble_eq_true rfl) ⟨by omega, by omega⟩ ⟨by omega, by omega⟩ dL_law_2134 rfl (fun H locs hP hS => ?_)
    refine lv_iload hx hb dL_law_2137 (lv_at hl 1 rfl) ?_
    refine lv_icmp_eq (tgt := 2144) hx hb dL_law_2139 (by decide) (fun _ => ?_) (fun hc => absurd ht hc)
    refine lv_iload hx hb dL_law_2144 (lv_at hl 1 rfl) ?_
    refine lv_if_ne (tgt := 2161) hx hb dL_law_2146 (by decide) (fun _ => ?_) (fun hc => absurd hc (by decide))
    refine lv_goto (tgt := 2550) hx hb dL_law_2161 (by decide) ?_
    exact kk _ _ _ _ _ _ hr9 hP hS (lv_sub hl [2, 3, 4, 5, 6, 7] rfl)
  · refine lv_aload_n hx hb dL_law_2096 rfl (lv_at hl 4 rfl) ?_
    refine lv_aload_n hx hb dL_law_2097 rfl (lv_at hl 5 rfl) ?_
    refine lv_iload hx hb dL_law_2098 (lv_at hl 0 rfl) ?_
    refine lv_iconst (v := (1 : Int32)) hx hb dL_law_2100 (by decide) ?_
    refine lv_iadd hx hb dL_law_2101 ?_
    refine zr_sldc (cn := 1) X hX hbl hbA hS (by omega) (by omega) rfl dL_law_2102 ?_
    refine lv_aload_n hx hb dL_law_2103 rfl (lv_at hl 5 rfl) ?_
    refine lv_iload hx hb dL_law_2104 (lv_at hl 0 rfl) ?_
    refine lv_iconst (v := (2 : Int32)) hx hb dL_law_2106 (by decide) ?_
    refine lv_iadd hx hb dL_law_2107 ?_
    refine zr_sldc (cn := 2) X hX hbl hbA hS (by omega) (by omega) rfl dL_law_2108 ?_
    refine lv_aload_n hx hb dL_law_2109 rfl (lv_at hl 2 rfl) ?_
    refine zr_cH (rest := []) (As := [.ref (g.2.2 + 0), .int (xs (n + 1)), .int (xs (n + 2)), .ref (g.2.2 + 318)]) X hP hS hnc (hc2_L_setOffset (g := g) (nc := 320) (I := I) (J := J) (O := O) hnI hnO l hlT hf) ch_L_257 rfl hl.1 (Nat.le_of_ble_eq_true rfl) ⟨by omega, by omega⟩ ⟨by omega, by omega⟩ dL_law_2110 rfl (fun H locs hP hS => ?_)
    refine lv_istore (lv' := [(6, .int (2 : Int32)), (5, .int (Int32.ofNat n)), (4, .ref (g.2.2 + 319)), (3, .ref (g.2.2 + 318)), (2, .ref (g.2.2 + 306)), (1, .ref (g.2.2 + 0)), (0, .ref b)]) hx hb dL_law_2113 hl (by decide) rfl (fun ls hl => ?_)
    refine lv_aload_n hx hb dL_law_2115 rfl (lv_at hl 4 rfl) ?_
    refine lv_aload_n hx hb dL_law_2116 rfl (lv_at hl 6 rfl) ?_
    refine lv_iload hx hb dL_law_2117 (lv_at hl 1 rfl) ?_
    refine lv_iconst (v := (1 : Int32)) hx hb dL_law_2119 (by decide) ?_
    refine lv_iadd hx hb dL_law_2120 ?_
    refine zr_sldc (cn := 1) X hX hbl hbA hS (by omega) (by omega) rfl dL_law_2121 ?_
    refine lv_aload_n hx hb dL_law_2122 rfl (lv_at hl 6 rfl) ?_
    refine lv_iload hx hb dL_law_2123 (lv_at hl 1 rfl) ?_
    refine lv_iconst (v := (2 : Int32)) hx hb dL_law_2125 (by decide) ?_
    refine lv_iadd hx hb dL_law_2126 ?_
    refine zr_sldc (cn := 2) X hX hbl hbA hS (by omega) (by omega) rfl dL_law_2127 ?_
    refine zr_cVi (rest := []) (As := [.int (xs (n + 1)), .int (xs (n + 2))]) X hP hS (ct_X8_setOffset (g := g) (nc := 320) (I := Iq) (J := J) (O := O) hnJ l hj) cw_L_259 (zr_recv X hP (by omega) (zb_ceJo zk_306 (by decide)) rfl) rfl hl.1 (Nat.le_of_ble_eq_true rfl) ⟨by omega, by omega⟩ ⟨by omega, by omega⟩ dL_law_2128 rfl (fun H locs hP hS => ?_)
    refine lv_istore (lv' := [(7, .int rb), (6, .int (2 : Int32)), (5, .int (Int32.ofNat n)), (4, .ref (g.2.2 + 319)), (3, .ref (g.2.2 + 318)), (2, .ref (g.2.2 + 306)), (1, .ref (g.2.2 + 0)), (0, .ref b)]) hx hb dL_law_2131 hl (by decide) rfl (fun ls hl => ?_)
    refine lv_aload_n hx hb dL_law_2133 rfl (lv_at hl 5 rfl) ?_
    refine zr_cVi (rest := []) (As := []) X hP hS (ct_X8_thrown (g := g) (nc := 320) (I := Iq) (J := Jq) (O := O) hnJ l rfl) cw_L_132 (zr_recv X hP (by omega) (zb_ceJo zk_306 (by decide)) rfl) rfl hl.1 (Nat.le_of_ble_eq_true rfl) ⟨by omega, by omega⟩ ⟨by omega, by omega⟩ dL_law_2134 rfl (fun H locs hP hS => ?_)
    refine lv_iload hx hb dL_law_2137 (lv_at hl 1 rfl) ?_
    refine lv_icmp_eq (tgt := 2144) hx hb dL_law_2139 (by decide) (fun _ => ?_) (fun hc => absurd ht hc)
    refine lv_iload hx hb dL_law_2144 (lv_at hl 1 rfl) ?_
    refine lv_if_ne (tgt := 2161) hx hb dL_law_2146 (by decide) (fun _ => ?_) (fun hc => absurd hc (by decide))
    refine lv_goto (tgt := 2550) hx hb dL_law_2161 (by decide) ?_
    exact kk _ _ _ _ _ _ hr9 hP hS (lv_sub hl [2, 3, 4, 5, 6, 7] rfl)

set_option maxHeartbeats 1000000 in
theorem lw_c37 {p : Program} {l : Launch} {e : Env} {R : Room} {s : State} {m : MethodId} {args : Array Value} {below : List Frame} {meth : Method} {c : Code} {H : Heap} {locs : List Loc} {cells slots : Nat} {Q : State → Prop} {g : zb_G} {ls : Array Slot} {b L n : Nat} {xs : Nat → Int32} {Rel : Nat → Mem → Mem → Prop} (hq : eqP_37 Rel) {I J O : Mem} (hRel : Rel n I J) (hlT : l.stackTraces = false) (X : zb_X g p m c cL_law 10 s args RL meth) (hnc : zb_Nc s) (hX : va_X b L xs s s.heap) (hbl : b < s.heap.size) (hbA : ¬ zb_A g b) (hn : n + 6 ≤ L) (hL : L ≤ 3072)
    (hP : va_P g.1 vwCl (zb_ws g 320 (zb_ce g I J O)) H) (hS : va_S (zb_A g) s.heap H locs) (hl : lv_has ls 10 [(5, .int (Int32.ofNat n)), (4, .ref (g.2.2 + 319)), (3, .ref (g.2.2 + 318)), (2, .ref (g.2.2 + 306)), (1, .ref (g.2.2 + 0)), (0, .ref b)]) (h1 : 13 ≤ R.frames) (h2 : 472 ≤ R.locals) (h3 : cells + 1 ≤ R.cells) (h4 : slots + 6 ≤ R.slots)
    (kk : ∀ (I J O : Mem) (H : Heap) (locs : List Loc) (ls : Array Slot), Rel (n + 6) I J → va_P g.1 vwCl (zb_ws g 320 (zb_ce g I J O)) H → va_S (zb_A g) s.heap H locs → lv_has ls 10 [(5, .int (Int32.ofNat n)), (4, .ref (g.2.2 + 319)), (3, .ref (g.2.2 + 318)), (2, .ref (g.2.2 + 306)), (1, .ref (g.2.2 + 0)), (0, .ref b)] → W p l e R s m args below meth c H locs (cells + 1) (slots + 6) Q (F0 m 2550 ls [])) : W p l e R s m args below meth c H locs cells slots Q (F0 m 2164 ls []) := by
  have hx := X.1.1
  have hb := X.1.2.1
  have hnI : 306 ≤ 320 := by decide
  have hnJ : 318 ≤ 320 := by decide
  have hnO : 320 ≤ 320 := by decide
  obtain ⟨E, r, Iq, rb, Jq, hf, hj, hr9, hd9⟩ := hq n I J (by omega) hRel (xs (n + 1)) (xs (n + 2))
  rcases hd9 with ⟨rfl, ht, rfl⟩ | ⟨rfl, ht⟩ | ⟨rfl, ht⟩
  · refine lv_aload_n hx hb dL_law_2164 rfl (lv_at hl 4 rfl) ?_
    refine lv_aload_n hx hb dL_law_2165 rfl (lv_at hl 5 rfl) ?_
    refine lv_iload hx hb dL_law_2166 (lv_at hl 0 rfl) ?_
    refine lv_iconst (v := (1 : Int32)) hx hb dL_law_2168 (by decide) ?_
    refine lv_iadd hx hb dL_law_2169 ?_
    refine zr_sldc (cn := 1) X hX hbl hbA hS (by omega) (by omega) rfl dL_law_2170 ?_
    refine lv_aload_n hx hb dL_law_2171 rfl (lv_at hl 5 rfl) ?_
    refine lv_iload hx hb dL_law_2172 (lv_at hl 0 rfl) ?_
    refine lv_iconst (v := (2 : Int32)) hx hb dL_law_2174 (by decide) ?_
    refine lv_iadd hx hb dL_law_2175 ?_
    refine zr_sldc (cn := 2) X hX hbl hbA hS (by omega) (by omega) rfl dL_law_2176 ?_
    refine lv_aload_n hx hb dL_law_2177 rfl (lv_at hl 2 rfl) ?_
    refine zr_cH (rest := []) (As := [.ref (g.2.2 + 0), .int (xs (n + 1)), .int (xs (n + 2)), .ref (g.2.2 + 318)]) X hP hS hnc (hn_L_setHold (g := g) (nc := 320) (I := I) (J := J) (O := O) hnI hnO l hf) ch_L_260 rfl hl.1 (Nat.le_of_ble_eq_true rfl) ⟨by omega, by omega⟩ ⟨by omega, by omega⟩ dL_law_2178 rfl (fun H locs hP hS => ?_)
    refine lv_istore (lv' := [(6, .int (0 : Int32)), (5, .int (Int32.ofNat n)), (4, .ref (g.2.2 + 319)), (3, .ref (g.2.2 + 318)), (2, .ref (g.2.2 + 306)), (1, .ref (g.2.2 + 0)), (0, .ref b)]) hx hb dL_law_2181 hl (by decide) rfl (fun ls hl => ?_)
    refine lv_aload_n hx hb dL_law_2183 rfl (lv_at hl 4 rfl) ?_
    refine lv_aload_n hx hb dL_law_2184 rfl (lv_at hl 6 rfl) ?_
    refine lv_iload hx hb dL_law_2185 (lv_at hl 1 rfl) ?_
    refine lv_iconst (v := (1 : Int32)) hx hb dL_law_2187 (by decide) ?_
    refine lv_iadd hx hb dL_law_2188 ?_
    refine zr_sldc (cn := 1) X hX hbl hbA hS (by omega) (by omega) rfl dL_law_2189 ?_
    refine lv_aload_n hx hb dL_law_2190 rfl (lv_at hl 6 rfl) ?_
    refine lv_iload hx hb dL_law_2191 (lv_at hl 1 rfl) ?_
    refine lv_iconst (v := (2 : Int32)) hx hb dL_law_2193 (by decide) ?_
    refine lv_iadd hx hb dL_law_2194 ?_
    refine zr_sldc (cn := 2) X hX hbl hbA hS (by omega) (by omega) rfl dL_law_2195 ?_
    refine zr_cVi (rest := []) (As := [.int (xs (n + 1)), .int (xs (n + 2))]) X hP hS (ct_X8_setHold (g := g) (nc := 320) (I := Iq) (J := J) (O := (wr O 318 0 r)) hnJ l hj) cw_L_262 (zr_recv X hP (by omega) (zb_ceJo zk_306 (by decide)) rfl) rfl hl.1 (Nat.le_of_ble_eq_true rfl) ⟨by omega, by omega⟩ ⟨by omega, by omega⟩ dL_law_2196 rfl (fun H locs hP hS => ?_)
    refine lv_istore (lv' := [(7, .int r), (6, .int (0 : Int32)), (5, .int (Int32.ofNat n)), (4, .ref (g.2.2 + 319)), (3, .ref (g.2.2 + 318)), (2, .ref (g.2.2 + 306)), (1, .ref (g.2.2 + 0)), (0, .ref b)]) hx hb dL_law_2199 hl (by decide) rfl (fun ls hl => ?_)
    refine lv_aload_n hx hb dL_law_2201 rfl (lv_at hl 5 rfl) ?_
    refine zr_cVi (rest := []) (As := []) X hP hS (ct_X8_thrown (g := g) (nc := 320) (I := Iq) (J := Jq) (O := (wr O 318 0 r)) hnJ l rfl) cw_L_132 (zr_recv X hP (by omega) (zb_ceJo zk_306 (by decide)) rfl) rfl hl.1 (Nat.le_of_ble_eq_true rfl) ⟨by omega, by omega⟩ ⟨by omega, by omega⟩ dL_law_2202 rfl (fun H locs hP hS => ?_)
    refine lv_iload hx hb dL_law_2205 (lv_at hl 1 rfl) ?_
    refine lv_icmp_eq (tgt := 2212) hx hb dL_law_2207 (by decide) (fun _ => ?_) (fun hc => absurd ht hc)
    refine lv_iload hx hb dL_law_2212 (lv_at hl 1 rfl) ?_
    refine lv_if_ne (tgt := 2229) hx hb dL_law_2214 (by decide) (fun hc => absurd rfl hc) (fun _ => ?_)
    refine lv_aload_n hx hb dL_law_2217 rfl (lv_at hl 4 rfl) ?_
    refine lv_iconst (v := (0 : Int32)) hx hb dL_law_2218 (by decide) ?_
    refine zr_lald X hP hnO dL_law_2219 ?_
    refine lv_iload hx hb dL_law_2220 (lv_at hl 0 rfl) ?_
    refine lv_i2l hx hb dL_law_2222 rfl ?_
    refine zr_lcmp0 hx hb dL_law_2223 ?_
    refine lv_if_eq (tgt := 2229) hx hb dL_law_2224 (by decide) (fun _ => ?_) (fun hc => absurd rfl hc)
    refine lv_goto (tgt := 2550) hx hb dL_law_2229 (by decide) ?_
    exact W.widen (Nat.le_succ _) (Nat.le_add_right _ 6) (kk _ _ _ _ _ _ hr9 hP hS (lv_sub hl [2, 3, 4, 5, 6, 7] rfl))
  · refine lv_aload_n hx hb dL_law_2164 rfl (lv_at hl 4 rfl) ?_
    refine lv_aload_n hx hb dL_law_2165 rfl (lv_at hl 5 rfl) ?_
    refine lv_iload hx hb dL_law_2166 (lv_at hl 0 rfl) ?_
    refine lv_iconst (v := (1 : Int32)) hx hb dL_law_2168 (by decide) ?_
    refine lv_iadd hx hb dL_law_2169 ?_
    refine zr_sldc (cn := 1) X hX hbl hbA hS (by omega) (by omega) rfl dL_law_2170 ?_
    refine lv_aload_n hx hb dL_law_2171 rfl (lv_at hl 5 rfl) ?_
    refine lv_iload hx hb dL_law_2172 (lv_at hl 0 rfl) ?_
    refine lv_iconst (v := (2 : Int32)) hx hb dL_law_2174 (by decide) ?_
    refine lv_iadd hx hb dL_law_2175 ?_
    refine zr_sldc (cn := 2) X hX hbl hbA hS (by omega) (by omega) rfl dL_law_2176 ?_
    refine lv_aload_n hx hb dL_law_2177 rfl (lv_at hl 2 rfl) ?_
    refine zr_cH (rest := []) (As := [.ref (g.2.2 + 0), .int (xs (n + 1)), .int (xs (n + 2)), .ref (g.2.2 + 318)]) X hP hS hnc (hc1_L_setHold (g := g) (nc := 320) (I := I) (J := J) (O := O) hnI hnO l hlT hf) ch_L_260 rfl hl.1 (Nat.le_of_ble_eq_true rfl) ⟨by omega, by omega⟩ ⟨by omega, by omega⟩ dL_law_2178 rfl (fun H locs hP hS => ?_)
    refine lv_istore (lv' := [(6, .int (1 : Int32)), (5, .int (Int32.ofNat n)), (4, .ref (g.2.2 + 319)), (3, .ref (g.2.2 + 318)), (2, .ref (g.2.2 + 306)), (1, .ref (g.2.2 + 0)), (0, .ref b)]) hx hb dL_law_2181 hl (by decide) rfl (fun ls hl => ?_)
    refine lv_aload_n hx hb dL_law_2183 rfl (lv_at hl 4 rfl) ?_
    refine lv_aload_n hx hb dL_law_2184 rfl (lv_at hl 6 rfl) ?_
    refine lv_iload hx hb dL_law_2185 (lv_at hl 1 rfl) ?_
    refine lv_iconst (v := (1 : Int32)) hx hb dL_law_2187 (by decide) ?_
    refine lv_iadd hx hb dL_law_2188 ?_
    refine zr_sldc (cn := 1) X hX hbl hbA hS (by omega) (by omega) rfl dL_law_2189 ?_
    refine lv_aload_n hx hb dL_law_2190 rfl (lv_at hl 6 rfl) ?_
    refine lv_iload hx hb dL_law_2191 (lv_at hl 1 rfl) ?_
    refine lv_iconst (v := (2 : Int32)) hx hb dL_law_2193 (by decide) ?_
    refine lv_iadd hx hb dL_law_2194 ?_
    refine zr_sldc (cn := 2) X hX hbl hbA hS (by omega) (by omega) rfl dL_law_2195 ?_
    refine zr_cVi (rest := []) (As := [.int (xs (n + 1)), .int (xs (n + 2))]) X hP hS (ct_X8_setHold (g := g) (nc := 320) (I := Iq) (J := J) (O := O) hnJ l hj) cw_L_262 (zr_recv X hP (by omega) (zb_ceJo zk_306 (by decide)) rfl) rfl hl.1 (Nat.le_of_ble_eq_true rfl) ⟨by omega, by omega⟩ ⟨by omega, by omega⟩ dL_law_2196 rfl (fun H locs hP hS => ?_)
    refine lv_istore (lv' := [(7, .int rb), (6, .int (1 : Int32)), (5, .int (Int32.ofNat n)), (4, .ref (g.2.2 + 319)), (3, .ref (g.2.2 + 318)), (2, .ref (g.2.2 + 306)), (1, .ref (g.2.2 + 0)), (0, .ref b)]) hx hb dL_law_2199 hl (by decide) rfl (fun ls hl => ?_)
    refine lv_aload_n hx hb dL_law_2201 rfl (lv_at hl 5 rfl) ?_
    refine zr_cVi (rest := []) (As := []) X hP hS (ct_X8_thrown (g := g) (nc := 320) (I := Iq) (J := Jq) (O := O) hnJ l rfl) cw_L_132 (zr_recv X hP (by omega) (zb_ceJo zk_306 (by decide)) rfl) rfl hl.1 (Nat.le_of_ble_eq_true rfl) ⟨by omega, by omega⟩ ⟨by omega, by omega⟩ dL_law_2202 rfl (fun H locs hP hS => ?_)
    refine lv_iload hx hb dL_law_2205 (lv_at hl 1 rfl) ?_
    refine lv_icmp_eq (tgt := 2212) hx hb dL_law_2207 (by decide) (fun _ => ?_) (fun hc => absurd ht hc)
    refine lv_iload hx hb dL_law_2212 (lv_at hl 1 rfl) ?_
    refine lv_if_ne (tgt := 2229) hx hb dL_law_2214 (by decide) (fun _ => ?_) (fun hc => absurd hc (by decide))
    refine lv_goto (tgt := 2550) hx hb dL_law_2229 (by decide) ?_
    exact kk _ _ _ _ _ _ hr9 hP hS (lv_sub hl [2, 3, 4, 5, 6, 7] rfl)
  · refine lv_aload_n hx hb dL_law_2164 rfl (lv_at hl 4 rfl) ?_
    refine lv_aload_n hx hb dL_law_2165 rfl (lv_at hl 5 rfl) ?_
    refine lv_iload hx hb dL_law_2166 (lv_at hl 0 rfl) ?_
    refine lv_iconst (v := (1 : Int32)) hx hb dL_law_2168 (by decide) ?_
    refine lv_iadd hx hb dL_law_2169 ?_
    refine zr_sldc (cn := 1) X hX hbl hbA hS (by omega) (by omega) rfl dL_law_2170 ?_
    refine lv_aload_n hx hb dL_law_2171 rfl (lv_at hl 5 rfl) ?_
    refine lv_iload hx hb dL_law_2172 (lv_at hl 0 rfl) ?_
    refine lv_iconst (v := (2 : Int32)) hx hb dL_law_2174 (by decide) ?_
    refine lv_iadd hx hb dL_law_2175 ?_
    refine zr_sldc (cn := 2) X hX hbl hbA hS (by omega) (by omega) rfl dL_law_2176 ?_
    refine lv_aload_n hx hb dL_law_2177 rfl (lv_at hl 2 rfl) ?_
    refine zr_cH (rest := []) (As := [.ref (g.2.2 + 0), .int (xs (n + 1)), .int (xs (n + 2)), .ref (g.2.2 + 318)]) X hP hS hnc (hc2_L_setHold (g := g) (nc := 320) (I := I) (J := J) (O := O) hnI hnO l hlT hf) ch_L_260 rfl hl.1 (Nat.le_of_ble_eq_true rfl) ⟨by omega, by omega⟩ ⟨by omega, by omega⟩ dL_law_2178 rfl (fun H locs hP hS => ?_)
    refine lv_istore (lv' := [(6, .int (2 : Int32)), (5, .int (Int32.ofNat n)), (4, .ref (g.2.2 + 319)), (3, .ref (g.2.2 + 318)), (2, .ref (g.2.2 + 306)), (1, .ref (g.2.2 + 0)), (0, .ref b)]) hx hb dL_law_2181 hl (by decide) rfl (fun ls hl => ?_)
    refine lv_aload_n hx hb dL_law_2183 rfl (lv_at hl 4 rfl) ?_
    refine lv_aload_n hx hb dL_law_2184 rfl (lv_at hl 6 rfl) ?_
    refine lv_iload hx hb dL_law_2185 (lv_at hl 1 rfl) ?_
    refine lv_iconst (v := (1 : Int32)) hx hb dL_law_2187 (by decide) ?_
    refine lv_iadd hx hb dL_law_2188 ?_
    refine zr_sldc (cn := 1) X hX hbl hbA hS (by omega) (by omega) rfl dL_law_2189 ?_
    refine lv_aload_n hx hb dL_law_2190 rfl (lv_at hl 6 rfl) ?_
    refine lv_iload hx hb dL_law_2191 (lv_at hl 1 rfl) ?_
    refine lv_iconst (v := (2 : Int32)) hx hb dL_law_2193 (by decide) ?_
    refine lv_iadd hx hb dL_law_2194 ?_
    refine zr_sldc (cn := 2) X hX hbl hbA hS (by omega) (by omega) rfl dL_law_2195 ?_
    refine zr_cVi (rest := []) (As := [.int (xs (n + 1)), .int (xs (n + 2))]) X hP hS (ct_X8_setHold (g := g) (nc := 320) (I := Iq) (J := J) (O := O) hnJ l hj) cw_L_262 (zr_recv X hP (by omega) (zb_ceJo zk_306 (by decide)) rfl) rfl hl.1 (Nat.le_of_ble_eq_true rfl) ⟨by omega, by omega⟩ ⟨by omega, by omega⟩ dL_law_2196 rfl (fun H locs hP hS => ?_)
    refine lv_istore (lv' := [(7, .int rb), (6, .int (2 : Int32)), (5, .int (Int32.ofNat n)), (4, .ref (g.2.2 + 319)), (3, .ref (g.2.2 + 318)), (2, .ref (g.2.2 + 306)), (1, .ref (g.2.2 + 0)), (0, .ref b)]) hx hb dL_law_2199 hl (by decide) rfl (fun ls hl => ?_)
    refine lv_aload_n hx hb dL_law_2201 rfl (lv_at hl 5 rfl) ?_
    refine zr_cVi (rest := []) (As := []) X hP hS (ct_X8_thrown (g := g) (nc := 320) (I := Iq) (J := Jq) (O := O) hnJ l rfl) cw_L_132 (zr_recv X hP (by omega) (zb_ceJo zk_306 (by decide)) rfl) rfl hl.1 (Nat.le_of_ble_eq_true rfl) ⟨by omega, by omega⟩ ⟨by omega, by omega⟩ dL_law_2202 rfl (fun H locs hP hS => ?_)
    refine lv_iload hx hb dL_law_2205 (lv_at hl 1 rfl) ?_
    refine lv_icmp_eq (tgt := 2212) hx hb dL_law_2207 (by decide) (fun _ => ?_) (fun hc => absurd ht hc)
    refine lv_iload hx hb dL_law_2212 (lv_at hl 1 rfl) ?_
    refine lv_if_ne (tgt := 2229) hx hb dL_law_2214 (by decide) (fun _ => ?_) (fun hc => absurd hc (by decide))
    refine lv_goto (tgt := 2550) hx hb dL_law_2229 (by decide) ?_
    exact kk _ _ _ _ _ _ hr9 hP hS (lv_sub hl [2, 3, 4, 5, 6, 7] rfl)

set_option maxHeartbeats 1000000 in
theorem lw_c38 {p : Program} {l : Launch} {e : Env} {R : Room} {s : State} {m : MethodId} {args : Array Value} {below : List Frame} {meth : Method} {c : Code} {H : Heap} {locs : List Loc} {cells slots : Nat} {Q : State → Prop} {g : zb_G} {ls : Array Slot} {b L n : Nat} {xs : Nat → Int32} {Rel : Nat → Mem → Mem → Prop} (hq : eqP_38 Rel) {I J O : Mem} (hRel : Rel n I J) (hlT : l.stackTraces = false) (X : zb_X g p m c cL_law 10 s args RL meth) (hnc : zb_Nc s) (hX : va_X b L xs s s.heap) (hbl : b < s.heap.size) (hbA : ¬ zb_A g b) (hn : n + 6 ≤ L) (hL : L ≤ 3072)
    (hP : va_P g.1 vwCl (zb_ws g 320 (zb_ce g I J O)) H) (hS : va_S (zb_A g) s.heap H locs) (hl : lv_has ls 10 [(5, .int (Int32.ofNat n)), (4, .ref (g.2.2 + 319)), (3, .ref (g.2.2 + 318)), (2, .ref (g.2.2 + 306)), (1, .ref (g.2.2 + 0)), (0, .ref b)]) (h1 : 13 ≤ R.frames) (h2 : 472 ≤ R.locals) (h3 : cells + 1 ≤ R.cells) (h4 : slots + 6 ≤ R.slots)
    (kk : ∀ (I J O : Mem) (H : Heap) (locs : List Loc) (ls : Array Slot), Rel (n + 6) I J → va_P g.1 vwCl (zb_ws g 320 (zb_ce g I J O)) H → va_S (zb_A g) s.heap H locs → lv_has ls 10 [(5, .int (Int32.ofNat n)), (4, .ref (g.2.2 + 319)), (3, .ref (g.2.2 + 318)), (2, .ref (g.2.2 + 306)), (1, .ref (g.2.2 + 0)), (0, .ref b)] → W p l e R s m args below meth c H locs (cells + 1) (slots + 6) Q (F0 m 2550 ls [])) : W p l e R s m args below meth c H locs cells slots Q (F0 m 2232 ls []) := by
  have hx := X.1.1
  have hb := X.1.2.1
  have hnI : 306 ≤ 320 := by decide
  have hnJ : 318 ≤ 320 := by decide
  have hnO : 320 ≤ 320 := by decide
  obtain ⟨E, r, Iq, rb, Jq, hf, hj, hr9, hd9⟩ := hq n I J (by omega) hRel (xs (n + 1)) (xs (n + 2)) (xs (n + 3))
  rcases hd9 with ⟨rfl, ht, rfl⟩ | ⟨rfl, ht⟩
  · refine lv_aload_n hx hb dL_law_2232 rfl (lv_at hl 4 rfl) ?_
    refine lv_aload_n hx hb dL_law_2233 rfl (lv_at hl 5 rfl) ?_
    refine lv_iload hx hb dL_law_2234 (lv_at hl 0 rfl) ?_
    refine lv_iconst (v := (1 : Int32)) hx hb dL_law_2236 (by decide) ?_
    refine lv_iadd hx hb dL_law_2237 ?_
    refine zr_sldc (cn := 1) X hX hbl hbA hS (by omega) (by omega) rfl dL_law_2238 ?_
    refine lv_aload_n hx hb dL_law_2239 rfl (lv_at hl 5 rfl) ?_
    refine lv_iload hx hb dL_law_2240 (lv_at hl 0 rfl) ?_
    refine lv_iconst (v := (2 : Int32)) hx hb dL_law_2242 (by decide) ?_
    refine lv_iadd hx hb dL_law_2243 ?_
    refine zr_sldc (cn := 2) X hX hbl hbA hS (by omega) (by omega) rfl dL_law_2244 ?_
    refine lv_aload_n hx hb dL_law_2245 rfl (lv_at hl 5 rfl) ?_
    refine lv_iload hx hb dL_law_2246 (lv_at hl 0 rfl) ?_
    refine lv_iconst (v := (3 : Int32)) hx hb dL_law_2248 (by decide) ?_
    refine lv_iadd hx hb dL_law_2249 ?_
    refine zr_sldc (cn := 3) X hX hbl hbA hS (by omega) (by omega) rfl dL_law_2250 ?_
    refine lv_aload_n hx hb dL_law_2251 rfl (lv_at hl 2 rfl) ?_
    refine zr_cH (rest := []) (As := [.ref (g.2.2 + 0), .int (xs (n + 1)), .int (xs (n + 2)), .int (xs (n + 3)), .ref (g.2.2 + 318)]) X hP hS hnc (hn_L_setTerms (g := g) (nc := 320) (I := I) (J := J) (O := O) hnI hnO l hf) ch_L_263 rfl hl.1 (Nat.le_of_ble_eq_true rfl) ⟨by omega, by omega⟩ ⟨by omega, by omega⟩ dL_law_2252 rfl (fun H locs hP hS => ?_)
    refine lv_istore (lv' := [(6, .int (0 : Int32)), (5, .int (Int32.ofNat n)), (4, .ref (g.2.2 + 319)), (3, .ref (g.2.2 + 318)), (2, .ref (g.2.2 + 306)), (1, .ref (g.2.2 + 0)), (0, .ref b)]) hx hb dL_law_2255 hl (by decide) rfl (fun ls hl => ?_)
    refine lv_aload_n hx hb dL_law_2257 rfl (lv_at hl 4 rfl) ?_
    refine lv_aload_n hx hb dL_law_2258 rfl (lv_at hl 6 rfl) ?_
    refine lv_iload hx hb dL_law_2259 (lv_at hl 1 rfl) ?_
    refine lv_iconst (v := (1 : Int32)) hx hb dL_law_2261 (by decide) ?_
    refine lv_iadd hx hb dL_law_2262 ?_
    refine zr_sldc (cn := 1) X hX hbl hbA hS (by omega) (by omega) rfl dL_law_2263 ?_
    refine lv_aload_n hx hb dL_law_2264 rfl (lv_at hl 6 rfl) ?_
    refine lv_iload hx hb dL_law_2265 (lv_at hl 1 rfl) ?_
    refine lv_iconst (v := (2 : Int32)) hx hb dL_law_2267 (by decide) ?_
    refine lv_iadd hx hb dL_law_2268 ?_
    refine zr_sldc (cn := 2) X hX hbl hbA hS (by omega) (by omega) rfl dL_law_2269 ?_
    refine lv_aload_n hx hb dL_law_2270 rfl (lv_at hl 6 rfl) ?_
    refine lv_iload hx hb dL_law_2271 (lv_at hl 1 rfl) ?_
    refine lv_iconst (v := (3 : Int32)) hx hb dL_law_2273 (by decide) ?_
    refine lv_iadd hx hb dL_law_2274 ?_
    refine zr_sldc (cn := 3) X hX hbl hbA hS (by omega) (by omega) rfl dL_law_2275 ?_
    refine zr_cVi (rest := []) (As := [.int (xs (n + 1)), .int (xs (n + 2)), .int (xs (n + 3))]) X hP hS (ct_X8_setTerms (g := g) (nc := 320) (I := Iq) (J := J) (O := (wr O 318 0 r)) hnJ l hj) cw_L_265 (zr_recv X hP (by omega) (zb_ceJo zk_306 (by decide)) rfl) rfl hl.1 (Nat.le_of_ble_eq_true rfl) ⟨by omega, by omega⟩ ⟨by omega, by omega⟩ dL_law_2276 rfl (fun H locs hP hS => ?_)
    refine lv_istore (lv' := [(7, .int r), (6, .int (0 : Int32)), (5, .int (Int32.ofNat n)), (4, .ref (g.2.2 + 319)), (3, .ref (g.2.2 + 318)), (2, .ref (g.2.2 + 306)), (1, .ref (g.2.2 + 0)), (0, .ref b)]) hx hb dL_law_2279 hl (by decide) rfl (fun ls hl => ?_)
    refine lv_aload_n hx hb dL_law_2281 rfl (lv_at hl 5 rfl) ?_
    refine zr_cVi (rest := []) (As := []) X hP hS (ct_X8_thrown (g := g) (nc := 320) (I := Iq) (J := Jq) (O := (wr O 318 0 r)) hnJ l rfl) cw_L_132 (zr_recv X hP (by omega) (zb_ceJo zk_306 (by decide)) rfl) rfl hl.1 (Nat.le_of_ble_eq_true rfl) ⟨by omega, by omega⟩ ⟨by omega, by omega⟩ dL_law_2282 rfl (fun H locs hP hS => ?_)
    refine lv_iload hx hb dL_law_2285 (lv_at hl 1 rfl) ?_
    refine lv_icmp_eq (tgt := 2292) hx hb dL_law_2287 (by decide) (fun _ => ?_) (fun hc => absurd ht hc)
    refine lv_iload hx hb dL_law_2292 (lv_at hl 1 rfl) ?_
    refine lv_if_ne (tgt := 2309) hx hb dL_law_2294 (by decide) (fun hc => absurd rfl hc) (fun _ => ?_)
    refine lv_aload_n hx hb dL_law_2297 rfl (lv_at hl 4 rfl) ?_
    refine lv_iconst (v := (0 : Int32)) hx hb dL_law_2298 (by decide) ?_
    refine zr_lald X hP hnO dL_law_2299 ?_
    refine lv_iload hx hb dL_law_2300 (lv_at hl 0 rfl) ?_
    refine lv_i2l hx hb dL_law_2302 rfl ?_
    refine zr_lcmp0 hx hb dL_law_2303 ?_
    refine lv_if_eq (tgt := 2309) hx hb dL_law_2304 (by decide) (fun _ => ?_) (fun hc => absurd rfl hc)
    refine lv_goto (tgt := 2550) hx hb dL_law_2309 (by decide) ?_
    exact W.widen (Nat.le_succ _) (Nat.le_add_right _ 6) (kk _ _ _ _ _ _ hr9 hP hS (lv_sub hl [2, 3, 4, 5, 6, 7] rfl))
  · refine lv_aload_n hx hb dL_law_2232 rfl (lv_at hl 4 rfl) ?_
    refine lv_aload_n hx hb dL_law_2233 rfl (lv_at hl 5 rfl) ?_
    refine lv_iload hx hb dL_law_2234 (lv_at hl 0 rfl) ?_
    refine lv_iconst (v := (1 : Int32)) hx hb dL_law_2236 (by decide) ?_
    refine lv_iadd hx hb dL_law_2237 ?_
    refine zr_sldc (cn := 1) X hX hbl hbA hS (by omega) (by omega) rfl dL_law_2238 ?_
    refine lv_aload_n hx hb dL_law_2239 rfl (lv_at hl 5 rfl) ?_
    refine lv_iload hx hb dL_law_2240 (lv_at hl 0 rfl) ?_
    refine lv_iconst (v := (2 : Int32)) hx hb dL_law_2242 (by decide) ?_
    refine lv_iadd hx hb dL_law_2243 ?_
    refine zr_sldc (cn := 2) X hX hbl hbA hS (by omega) (by omega) rfl dL_law_2244 ?_
    refine lv_aload_n hx hb dL_law_2245 rfl (lv_at hl 5 rfl) ?_
    refine lv_iload hx hb dL_law_2246 (lv_at hl 0 rfl) ?_
    refine lv_iconst (v := (3 : Int32)) hx hb dL_law_2248 (by decide) ?_
    refine lv_iadd hx hb dL_law_2249 ?_
    refine zr_sldc (cn := 3) X hX hbl hbA hS (by omega) (by omega) rfl dL_law_2250 ?_
    refine lv_aload_n hx hb dL_law_2251 rfl (lv_at hl 2 rfl) ?_
    refine zr_cH (rest := []) (As := [.ref (g.2.2 + 0), .int (xs (n + 1)), .int (xs (n + 2)), .int (xs (n + 3)), .ref (g.2.2 + 318)]) X hP hS hnc (hc1_L_setTerms (g := g) (nc := 320) (I := I) (J := J) (O := O) hnI hnO l hlT hf) ch_L_263 rfl hl.1 (Nat.le_of_ble_eq_true rfl) ⟨by omega, by omega⟩ ⟨by omega, by omega⟩ dL_law_2252 rfl (fun H locs hP hS => ?_)
    refine lv_istore (lv' := [(6, .int (1 : Int32)), (5, .int (Int32.ofNat n)), (4, .ref (g.2.2 + 319)), (3, .ref (g.2.2 + 318)), (2, .ref (g.2.2 + 306)), (1, .ref (g.2.2 + 0)), (0, .ref b)]) hx hb dL_law_2255 hl (by decide) rfl (fun ls hl => ?_)
    refine lv_aload_n hx hb dL_law_2257 rfl (lv_at hl 4 rfl) ?_
    refine lv_aload_n hx hb dL_law_2258 rfl (lv_at hl 6 rfl) ?_
    refine lv_iload hx hb dL_law_2259 (lv_at hl 1 rfl) ?_
    refine lv_iconst (v := (1 : Int32)) hx hb dL_law_2261 (by decide) ?_
    refine lv_iadd hx hb dL_law_2262 ?_
    refine zr_sldc (cn := 1) X hX hbl hbA hS (by omega) (by omega) rfl dL_law_2263 ?_
    refine lv_aload_n hx hb dL_law_2264 rfl (lv_at hl 6 rfl) ?_
    refine lv_iload hx hb dL_law_2265 (lv_at hl 1 rfl) ?_
    refine lv_iconst (v := (2 : Int32)) hx hb dL_law_2267 (by decide) ?_
    refine lv_iadd hx hb dL_law_2268 ?_
    refine zr_sldc (cn := 2) X hX hbl hbA hS (by omega) (by omega) rfl dL_law_2269 ?_
    refine lv_aload_n hx hb dL_law_2270 rfl (lv_at hl 6 rfl) ?_
    refine lv_iload hx hb dL_law_2271 (lv_at hl 1 rfl) ?_
    refine lv_iconst (v := (3 : Int32)) hx hb dL_law_2273 (by decide) ?_
    refine lv_iadd hx hb dL_law_2274 ?_
    refine zr_sldc (cn := 3) X hX hbl hbA hS (by omega) (by omega) rfl dL_law_2275 ?_
    refine zr_cVi (rest := []) (As := [.int (xs (n + 1)), .int (xs (n + 2)), .int (xs (n + 3))]) X hP hS (ct_X8_setTerms (g := g) (nc := 320) (I := Iq) (J := J) (O := O) hnJ l hj) cw_L_265 (zr_recv X hP (by omega) (zb_ceJo zk_306 (by decide)) rfl) rfl hl.1 (Nat.le_of_ble_eq_true rfl) ⟨by omega, by omega⟩ ⟨by omega, by omega⟩ dL_law_2276 rfl (fun H locs hP hS => ?_)
    refine lv_istore (lv' := [(7, .int rb), (6, .int (1 : Int32)), (5, .int (Int32.ofNat n)), (4, .ref (g.2.2 + 319)), (3, .ref (g.2.2 + 318)), (2, .ref (g.2.2 + 306)), (1, .ref (g.2.2 + 0)), (0, .ref b)]) hx hb dL_law_2279 hl (by decide) rfl (fun ls hl => ?_)
    refine lv_aload_n hx hb dL_law_2281 rfl (lv_at hl 5 rfl) ?_
    refine zr_cVi (rest := []) (As := []) X hP hS (ct_X8_thrown (g := g) (nc := 320) (I := Iq) (J := Jq) (O := O) hnJ l rfl) cw_L_132 (zr_recv X hP (by omega) (zb_ceJo zk_306 (by decide)) rfl) rfl hl.1 (Nat.le_of_ble_eq_true rfl) ⟨by omega, by omega⟩ ⟨by omega, by omega⟩ dL_law_2282 rfl (fun H locs hP hS => ?_)
    refine lv_iload hx hb dL_law_2285 (lv_at hl 1 rfl) ?_
    refine lv_icmp_eq (tgt := 2292) hx hb dL_law_2287 (by decide) (fun _ => ?_) (fun hc => absurd ht hc)
    refine lv_iload hx hb dL_law_2292 (lv_at hl 1 rfl) ?_
    refine lv_if_ne (tgt := 2309) hx hb dL_law_2294 (by decide) (fun _ => ?_) (fun hc => absurd hc (by decide))
    refine lv_goto (tgt := 2550) hx hb dL_law_2309 (by decide) ?_
    exact kk _ _ _ _ _ _ hr9 hP hS (lv_sub hl [2, 3, 4, 5, 6, 7] rfl)

set_option maxHeartbeats 1000000 in
theorem lw_c39 {p : Program} {l : Launch} {e : Env} {R : Room} {s : State} {m : MethodId} {args : Array Value} {below : List Frame} {meth : Method} {c : Code} {H : Heap} {locs : List Loc} {cells slots : Nat} {Q : State → Prop} {g : zb_G} {ls : Array Slot} {b L n : Nat} {xs : Nat → Int32} {Rel : Nat → Mem → Mem → Prop} (hq : eqP_39 Rel) {I J O : Mem} (hRel : Rel n I J) (hlT : l.stackTraces = false) (X : zb_X g p m c cL_law 10 s args RL meth) (hnc : zb_Nc s) (hX : va_X b L xs s s.heap) (hbl : b < s.heap.size) (hbA : ¬ zb_A g b) (hn : n + 6 ≤ L) (hL : L ≤ 3072)
    (hP : va_P g.1 vwCl (zb_ws g 320 (zb_ce g I J O)) H) (hS : va_S (zb_A g) s.heap H locs) (hl : lv_has ls 10 [(5, .int (Int32.ofNat n)), (4, .ref (g.2.2 + 319)), (3, .ref (g.2.2 + 318)), (2, .ref (g.2.2 + 306)), (1, .ref (g.2.2 + 0)), (0, .ref b)]) (h1 : 13 ≤ R.frames) (h2 : 472 ≤ R.locals) (h3 : cells + 1 ≤ R.cells) (h4 : slots + 6 ≤ R.slots)
    (kk : ∀ (I J O : Mem) (H : Heap) (locs : List Loc) (ls : Array Slot), Rel (n + 6) I J → va_P g.1 vwCl (zb_ws g 320 (zb_ce g I J O)) H → va_S (zb_A g) s.heap H locs → lv_has ls 10 [(5, .int (Int32.ofNat n)), (4, .ref (g.2.2 + 319)), (3, .ref (g.2.2 + 318)), (2, .ref (g.2.2 + 306)), (1, .ref (g.2.2 + 0)), (0, .ref b)] → W p l e R s m args below meth c H locs (cells + 1) (slots + 6) Q (F0 m 2550 ls [])) : W p l e R s m args below meth c H locs cells slots Q (F0 m 2312 ls []) := by
  have hx := X.1.1
  have hb := X.1.2.1
  have hnI : 306 ≤ 320 := by decide
  have hnJ : 318 ≤ 320 := by decide
  have hnO : 320 ≤ 320 := by decide
  obtain ⟨r, Iq, Jq, hf, hj, hr9⟩ := hq n I J (by omega) hRel ()
  refine lv_aload_n hx hb dL_law_2312 rfl (lv_at hl 4 rfl) ?_
  refine zr_cVi (rest := []) (As := []) X hP hS (ct_X7_writeString (g := g) (nc := 320) (I := I) (J := J) (O := O) hnI l hf) cw_L_266 (zr_recv X hP (by omega) (zb_ceIo zk_0 (by decide)) rfl) rfl hl.1 (Nat.le_of_ble_eq_true rfl) ⟨by omega, by omega⟩ ⟨by omega, by omega⟩ dL_law_2313 rfl (fun H locs hP hS => ?_)
  refine lv_aload_n hx hb dL_law_2316 rfl (lv_at hl 3 rfl) ?_
  refine zr_cVi (rest := [.int r]) (As := []) X hP hS (ct_X8_writeString (g := g) (nc := 320) (I := Iq) (J := J) (O := O) hnJ l hj) cw_L_269 (zr_recv X hP (by omega) (zb_ceJo zk_306 (by decide)) rfl) rfl hl.1 (Nat.le_of_ble_eq_true rfl) ⟨by omega, by omega⟩ ⟨by omega, by omega⟩ dL_law_2317 rfl (fun H locs hP hS => ?_)
  refine lv_icmp_eq (tgt := 2550) hx hb dL_law_2320 (by decide) (fun _ => ?_) (fun hc => absurd rfl hc)
  exact W.widen (Nat.le_succ _) (Nat.le_add_right _ 6) (kk _ _ _ _ _ _ hr9 hP hS (lv_sub hl [0, 1, 2, 3, 4, 5] rfl))

set_option maxHeartbeats 1000000 in
theorem lw_c40 {p : Program} {l : Launch} {e : Env} {R : Room} {s : State} {m : MethodId} {args : Array Value} {below : List Frame} {meth : Method} {c : Code} {H : Heap} {locs : List Loc} {cells slots : Nat} {Q : State → Prop} {g : zb_G} {ls : Array Slot} {b L n : Nat} {xs : Nat → Int32} {Rel : Nat → Mem → Mem → Prop} (hq : eqP_40 Rel) {I J O : Mem} (hRel : Rel n I J) (hlT : l.stackTraces = false) (X : zb_X g p m c cL_law 10 s args RL meth) (hnc : zb_Nc s) (hX : va_X b L xs s s.heap) (hbl : b < s.heap.size) (hbA : ¬ zb_A g b) (hn : n + 6 ≤ L) (hL : L ≤ 3072)
    (hP : va_P g.1 vwCl (zb_ws g 320 (zb_ce g I J O)) H) (hS : va_S (zb_A g) s.heap H locs) (hl : lv_has ls 10 [(5, .int (Int32.ofNat n)), (4, .ref (g.2.2 + 319)), (3, .ref (g.2.2 + 318)), (2, .ref (g.2.2 + 306)), (1, .ref (g.2.2 + 0)), (0, .ref b)]) (h1 : 13 ≤ R.frames) (h2 : 472 ≤ R.locals) (h3 : cells + 1 ≤ R.cells) (h4 : slots + 6 ≤ R.slots)
    (kk : ∀ (I J O : Mem) (H : Heap) (locs : List Loc) (ls : Array Slot), Rel (n + 6) I J → va_P g.1 vwCl (zb_ws g 320 (zb_ce g I J O)) H → va_S (zb_A g) s.heap H locs → lv_has ls 10 [(5, .int (Int32.ofNat n)), (4, .ref (g.2.2 + 319)), (3, .ref (g.2.2 + 318)), (2, .ref (g.2.2 + 306)), (1, .ref (g.2.2 + 0)), (0, .ref b)] → W p l e R s m args below meth c H locs (cells + 1) (slots + 6) Q (F0 m 2550 ls [])) : W p l e R s m args below meth c H locs cells slots Q (F0 m 2325 ls []) := by
  have hx := X.1.1
  have hb := X.1.2.1
  have hnI : 306 ≤ 320 := by decide
  have hnJ : 318 ≤ 320 := by decide
  have hnO : 320 ≤ 320 := by decide
  obtain ⟨r, Iq, Jq, hf, hj, hr9⟩ := hq n I J (by omega) hRel ()
  refine lv_aload_n hx hb dL_law_2325 rfl (lv_at hl 4 rfl) ?_
  refine zr_cVi (rest := []) (As := []) X hP hS (ct_X7_writeHours (g := g) (nc := 320) (I := I) (J := J) (O := O) hnI l hf) cw_L_270 (zr_recv X hP (by omega) (zb_ceIo zk_0 (by decide)) rfl) rfl hl.1 (Nat.le_of_ble_eq_true rfl) ⟨by omega, by omega⟩ ⟨by omega, by omega⟩ dL_law_2326 rfl (fun H locs hP hS => ?_)
  refine lv_aload_n hx hb dL_law_2329 rfl (lv_at hl 3 rfl) ?_
  refine zr_cVi (rest := [.int r]) (As := []) X hP hS (ct_X8_writeHours (g := g) (nc := 320) (I := Iq) (J := J) (O := O) hnJ l hj) cw_L_273 (zr_recv X hP (by omega) (zb_ceJo zk_306 (by decide)) rfl) rfl hl.1 (Nat.le_of_ble_eq_true rfl) ⟨by omega, by omega⟩ ⟨by omega, by omega⟩ dL_law_2330 rfl (fun H locs hP hS => ?_)
  refine lv_icmp_eq (tgt := 2550) hx hb dL_law_2333 (by decide) (fun _ => ?_) (fun hc => absurd rfl hc)
  exact W.widen (Nat.le_succ _) (Nat.le_add_right _ 6) (kk _ _ _ _ _ _ hr9 hP hS (lv_sub hl [0, 1, 2, 3, 4, 5] rfl))

set_option maxHeartbeats 1000000 in
theorem lw_c41 {p : Program} {l : Launch} {e : Env} {R : Room} {s : State} {m : MethodId} {args : Array Value} {below : List Frame} {meth : Method} {c : Code} {H : Heap} {locs : List Loc} {cells slots : Nat} {Q : State → Prop} {g : zb_G} {ls : Array Slot} {b L n : Nat} {xs : Nat → Int32} {Rel : Nat → Mem → Mem → Prop} (hq : eqP_41 Rel) {I J O : Mem} (hRel : Rel n I J) (hlT : l.stackTraces = false) (X : zb_X g p m c cL_law 10 s args RL meth) (hnc : zb_Nc s) (hX : va_X b L xs s s.heap) (hbl : b < s.heap.size) (hbA : ¬ zb_A g b) (hn : n + 6 ≤ L) (hL : L ≤ 3072)
    (hP : va_P g.1 vwCl (zb_ws g 320 (zb_ce g I J O)) H) (hS : va_S (zb_A g) s.heap H locs) (hl : lv_has ls 10 [(5, .int (Int32.ofNat n)), (4, .ref (g.2.2 + 319)), (3, .ref (g.2.2 + 318)), (2, .ref (g.2.2 + 306)), (1, .ref (g.2.2 + 0)), (0, .ref b)]) (h1 : 13 ≤ R.frames) (h2 : 472 ≤ R.locals) (h3 : cells + 1 ≤ R.cells) (h4 : slots + 6 ≤ R.slots)
    (kk : ∀ (I J O : Mem) (H : Heap) (locs : List Loc) (ls : Array Slot), Rel (n + 6) I J → va_P g.1 vwCl (zb_ws g 320 (zb_ce g I J O)) H → va_S (zb_A g) s.heap H locs → lv_has ls 10 [(5, .int (Int32.ofNat n)), (4, .ref (g.2.2 + 319)), (3, .ref (g.2.2 + 318)), (2, .ref (g.2.2 + 306)), (1, .ref (g.2.2 + 0)), (0, .ref b)] → W p l e R s m args below meth c H locs (cells + 1) (slots + 6) Q (F0 m 2550 ls [])) : W p l e R s m args below meth c H locs cells slots Q (F0 m 2338 ls []) := by
  have hx := X.1.1
  have hb := X.1.2.1
  have hnI : 306 ≤ 320 := by decide
  have hnJ : 318 ≤ 320 := by decide
  have hnO : 320 ≤ 320 := by decide
  obtain ⟨E, r, rb, Jq, hf, hj, hr9, hd9⟩ := hq n I J (by omega) hRel (xs (n + 1))
  rcases hd9 with ⟨rfl, ht, rfl⟩ | ⟨rfl, ht⟩
  · refine lv_aload_n hx hb dL_law_2338 rfl (lv_at hl 4 rfl) ?_
    refine lv_aload_n hx hb dL_law_2339 rfl (lv_at hl 5 rfl) ?_
    refine lv_iload hx hb dL_law_2340 (lv_at hl 0 rfl) ?_
    refine lv_iconst (v := (1 : Int32)) hx hb dL_law_2342 (by decide) ?_
    refine lv_iadd hx hb dL_law_2343 ?_
    refine zr_sldc (cn := 1) X hX hbl hbA hS (by omega) (by omega) rfl dL_law_2344 ?_
    refine lv_aload_n hx hb dL_law_2345 rfl (lv_at hl 2 rfl) ?_
    refine zr_cH (rest := []) (As := [.ref (g.2.2 + 0), .int (xs (n + 1)), .ref (g.2.2 + 318)]) X hP hS hnc (hn_L_output (g := g) (nc := 320) (I := I) (J := J) (O := O) hnI hnO l hf) ch_L_274 rfl hl.1 (Nat.le_of_ble_eq_true rfl) ⟨by omega, by omega⟩ ⟨by omega, by omega⟩ dL_law_2346 rfl (fun H locs hP hS => ?_)
    refine lv_istore (lv' := [(6, .int (0 : Int32)), (5, .int (Int32.ofNat n)), (4, .ref (g.2.2 + 319)), (3, .ref (g.2.2 + 318)), (2, .ref (g.2.2 + 306)), (1, .ref (g.2.2 + 0)), (0, .ref b)]) hx hb dL_law_2349 hl (by decide) rfl (fun ls hl => ?_)
    refine lv_aload_n hx hb dL_law_2351 rfl (lv_at hl 4 rfl) ?_
    refine lv_aload_n hx hb dL_law_2352 rfl (lv_at hl 6 rfl) ?_
    refine lv_iload hx hb dL_law_2353 (lv_at hl 1 rfl) ?_
    refine lv_iconst (v := (1 : Int32)) hx hb dL_law_2355 (by decide) ?_
    refine lv_iadd hx hb dL_law_2356 ?_
    refine zr_sldc (cn := 1) X hX hbl hbA hS (by omega) (by omega) rfl dL_law_2357 ?_
    refine zr_cVi (rest := []) (As := [.int (xs (n + 1))]) X hP hS (ct_X8_output (g := g) (nc := 320) (I := I) (J := J) (O := (wr O 318 0 r)) hnJ l hj) cw_L_276 (zr_recv X hP (by omega) (zb_ceJo zk_306 (by decide)) rfl) rfl hl.1 (Nat.le_of_ble_eq_true rfl) ⟨by omega, by omega⟩ ⟨by omega, by omega⟩ dL_law_2358 rfl (fun H locs hP hS => ?_)
    refine lv_istore (lv' := [(7, .int r), (6, .int (0 : Int32)), (5, .int (Int32.ofNat n)), (4, .ref (g.2.2 + 319)), (3, .ref (g.2.2 + 318)), (2, .ref (g.2.2 + 306)), (1, .ref (g.2.2 + 0)), (0, .ref b)]) hx hb dL_law_2361 hl (by decide) rfl (fun ls hl => ?_)
    refine lv_aload_n hx hb dL_law_2363 rfl (lv_at hl 5 rfl) ?_
    refine zr_cVi (rest := []) (As := []) X hP hS (ct_X8_thrown (g := g) (nc := 320) (I := I) (J := Jq) (O := (wr O 318 0 r)) hnJ l rfl) cw_L_132 (zr_recv X hP (by omega) (zb_ceJo zk_306 (by decide)) rfl) rfl hl.1 (Nat.le_of_ble_eq_true rfl) ⟨by omega, by omega⟩ ⟨by omega, by omega⟩ dL_law_2364 rfl (fun H locs hP hS => ?_)
    refine lv_iload hx hb dL_law_2367 (lv_at hl 1 rfl) ?_
    refine lv_icmp_eq (tgt := 2374) hx hb dL_law_2369 (by decide) (fun _ => ?_) (fun hc => absurd ht hc)
    refine lv_iload hx hb dL_law_2374 (lv_at hl 1 rfl) ?_
    refine lv_if_ne (tgt := 2391) hx hb dL_law_2376 (by decide) (fun hc => absurd rfl hc) (fun _ => ?_)
    refine lv_aload_n hx hb dL_law_2379 rfl (lv_at hl 4 rfl) ?_
    refine lv_iconst (v := (0 : Int32)) hx hb dL_law_2380 (by decide) ?_
    refine zr_lald X hP hnO dL_law_2381 ?_
    refine lv_iload hx hb dL_law_2382 (lv_at hl 0 rfl) ?_
    refine lv_i2l hx hb dL_law_2384 rfl ?_
    refine zr_lcmp0 hx hb dL_law_2385 ?_
    refine lv_if_eq (tgt := 2391) hx hb dL_law_2386 (by decide) (fun _ => ?_) (fun hc => absurd rfl hc)
    refine lv_goto (tgt := 2550) hx hb dL_law_2391 (by decide) ?_
    exact W.widen (Nat.le_succ _) (Nat.le_add_right _ 6) (kk _ _ _ _ _ _ hr9 hP hS (lv_sub hl [2, 3, 4, 5, 6, 7] rfl))
  · refine lv_aload_n hx hb dL_law_2338 rfl (lv_at hl 4 rfl) ?_
    refine lv_aload_n hx hb dL_law_2339 rfl (lv_at hl 5 rfl) ?_
    refine lv_iload hx hb dL_law_2340 (lv_at hl 0 rfl) ?_
    refine lv_iconst (v := (1 : Int32)) hx hb dL_law_2342 (by decide) ?_
    refine lv_iadd hx hb dL_law_2343 ?_
    refine zr_sldc (cn := 1) X hX hbl hbA hS (by omega) (by omega) rfl dL_law_2344 ?_
    refine lv_aload_n hx hb dL_law_2345 rfl (lv_at hl 2 rfl) ?_
    refine zr_cH (rest := []) (As := [.ref (g.2.2 + 0), .int (xs (n + 1)), .ref (g.2.2 + 318)]) X hP hS hnc (hc1_L_output (g := g) (nc := 320) (I := I) (J := J) (O := O) hnI hnO l hlT hf) ch_L_274 rfl hl.1 (Nat.le_of_ble_eq_true rfl) ⟨by omega, by omega⟩ ⟨by omega, by omega⟩ dL_law_2346 rfl (fun H locs hP hS => ?_)
    refine lv_istore (lv' := [(6, .int (1 : Int32)), (5, .int (Int32.ofNat n)), (4, .ref (g.2.2 + 319)), (3, .ref (g.2.2 + 318)), (2, .ref (g.2.2 + 306)), (1, .ref (g.2.2 + 0)), (0, .ref b)]) hx hb dL_law_2349 hl (by decide) rfl (fun ls hl => ?_)
    refine lv_aload_n hx hb dL_law_2351 rfl (lv_at hl 4 rfl) ?_
    refine lv_aload_n hx hb dL_law_2352 rfl (lv_at hl 6 rfl) ?_
    refine lv_iload hx hb dL_law_2353 (lv_at hl 1 rfl) ?_
    refine lv_iconst (v := (1 : Int32)) hx hb dL_law_2355 (by decide) ?_
    refine lv_iadd hx hb dL_law_2356 ?_
    refine zr_sldc (cn := 1) X hX hbl hbA hS (by omega) (by omega) rfl dL_law_2357 ?_
    refine zr_cVi (rest := []) (As := [.int (xs (n + 1))]) X hP hS (ct_X8_output (g := g) (nc := 320) (I := I) (J := J) (O := O) hnJ l hj) cw_L_276 (zr_recv X hP (by omega) (zb_ceJo zk_306 (by decide)) rfl) rfl hl.1 (Nat.le_of_ble_eq_true rfl) ⟨by omega, by omega⟩ ⟨by omega, by omega⟩ dL_law_2358 rfl (fun H locs hP hS => ?_)
    refine lv_istore (lv' := [(7, .int rb), (6, .int (1 : Int32)), (5, .int (Int32.ofNat n)), (4, .ref (g.2.2 + 319)), (3, .ref (g.2.2 + 318)), (2, .ref (g.2.2 + 306)), (1, .ref (g.2.2 + 0)), (0, .ref b)]) hx hb dL_law_2361 hl (by decide) rfl (fun ls hl => ?_)
    refine lv_aload_n hx hb dL_law_2363 rfl (lv_at hl 5 rfl) ?_
    refine zr_cVi (rest := []) (As := []) X hP hS (ct_X8_thrown (g := g) (nc := 320) (I := I) (J := Jq) (O := O) hnJ l rfl) cw_L_132 (zr_recv X hP (by omega) (zb_ceJo zk_306 (by decide)) rfl) rfl hl.1 (Nat.le_of_ble_eq_true rfl) ⟨by omega, by omega⟩ ⟨by omega, by omega⟩ dL_law_2364 rfl (fun H locs hP hS => ?_)
    refine lv_iload hx hb dL_law_2367 (lv_at hl 1 rfl) ?_
    refine lv_icmp_eq (tgt := 2374) hx hb dL_law_2369 (by decide) (fun _ => ?_) (fun hc => absurd ht hc)
    refine lv_iload hx hb dL_law_2374 (lv_at hl 1 rfl) ?_
    refine lv_if_ne (tgt := 2391) hx hb dL_law_2376 (by decide) (fun _ => ?_) (fun hc => absurd hc (by decide))
    refine lv_goto (tgt := 2550) hx hb dL_law_2391 (by decide) ?_
    exact kk _ _ _ _ _ _ hr9 hP hS (lv_sub hl [2, 3, 4, 5, 6, 7] rfl)

set_option maxHeartbeats 1000000 in
theorem lw_c42 {p : Program} {l : Launch} {e : Env} {R : Room} {s : State} {m : MethodId} {args : Array Value} {below : List Frame} {meth : Method} {c : Code} {H : Heap} {locs : List Loc} {cells slots : Nat} {Q : State → Prop} {g : zb_G} {ls : Array Slot} {b L n : Nat} {xs : Nat → Int32} {Rel : Nat → Mem → Mem → Prop} (hq : eqP_42 Rel) {I J O : Mem} (hRel : Rel n I J) (hlT : l.stackTraces = false) (X : zb_X g p m c cL_law 10 s args RL meth) (hnc : zb_Nc s) (hX : va_X b L xs s s.heap) (hbl : b < s.heap.size) (hbA : ¬ zb_A g b) (hn : n + 6 ≤ L) (hL : L ≤ 3072)
    (hP : va_P g.1 vwCl (zb_ws g 320 (zb_ce g I J O)) H) (hS : va_S (zb_A g) s.heap H locs) (hl : lv_has ls 10 [(5, .int (Int32.ofNat n)), (4, .ref (g.2.2 + 319)), (3, .ref (g.2.2 + 318)), (2, .ref (g.2.2 + 306)), (1, .ref (g.2.2 + 0)), (0, .ref b)]) (h1 : 13 ≤ R.frames) (h2 : 472 ≤ R.locals) (h3 : cells + 1 ≤ R.cells) (h4 : slots + 6 ≤ R.slots)
    (kk : ∀ (I J O : Mem) (H : Heap) (locs : List Loc) (ls : Array Slot), Rel (n + 6) I J → va_P g.1 vwCl (zb_ws g 320 (zb_ce g I J O)) H → va_S (zb_A g) s.heap H locs → lv_has ls 10 [(5, .int (Int32.ofNat n)), (4, .ref (g.2.2 + 319)), (3, .ref (g.2.2 + 318)), (2, .ref (g.2.2 + 306)), (1, .ref (g.2.2 + 0)), (0, .ref b)] → W p l e R s m args below meth c H locs (cells + 1) (slots + 6) Q (F0 m 2550 ls [])) : W p l e R s m args below meth c H locs cells slots Q (F0 m 2394 ls []) := by
  have hx := X.1.1
  have hb := X.1.2.1
  have hnI : 306 ≤ 320 := by decide
  have hnJ : 318 ≤ 320 := by decide
  have hnO : 320 ≤ 320 := by decide
  obtain ⟨E, r, Iq, rb, Jq, hf, hj, hr9, hd9⟩ := hq n I J (by omega) hRel ()
  rcases hd9 with ⟨rfl, ht, rfl⟩ | ⟨rfl, ht⟩
  · refine lv_aload_n hx hb dL_law_2394 rfl (lv_at hl 4 rfl) ?_
    refine lv_aload_n hx hb dL_law_2395 rfl (lv_at hl 2 rfl) ?_
    refine zr_cH (rest := []) (As := [.ref (g.2.2 + 0), .ref (g.2.2 + 318)]) X hP hS hnc (hn_L_undo (g := g) (nc := 320) (I := I) (J := J) (O := O) hnI hnO l hf) ch_L_277 rfl hl.1 (Nat.le_of_ble_eq_true rfl) ⟨by omega, by omega⟩ ⟨by omega, by omega⟩ dL_law_2396 rfl (fun H locs hP hS => ?_)
    refine lv_istore (lv' := [(6, .int (0 : Int32)), (5, .int (Int32.ofNat n)), (4, .ref (g.2.2 + 319)), (3, .ref (g.2.2 + 318)), (2, .ref (g.2.2 + 306)), (1, .ref (g.2.2 + 0)), (0, .ref b)]) hx hb dL_law_2399 hl (by decide) rfl (fun ls hl => ?_)
    refine lv_aload_n hx hb dL_law_2401 rfl (lv_at hl 4 rfl) ?_
    refine zr_cVi (rest := []) (As := []) X hP hS (ct_X8_undo (g := g) (nc := 320) (I := Iq) (J := J) (O := (wr O 318 0 r)) hnJ l hj) cw_L_279 (zr_recv X hP (by omega) (zb_ceJo zk_306 (by decide)) rfl) rfl hl.1 (Nat.le_of_ble_eq_true rfl) ⟨by omega, by omega⟩ ⟨by omega, by omega⟩ dL_law_2402 rfl (fun H locs hP hS => ?_)
    refine lv_istore (lv' := [(7, .int r), (6, .int (0 : Int32)), (5, .int (Int32.ofNat n)), (4, .ref (g.2.2 + 319)), (3, .ref (g.2.2 + 318)), (2, .ref (g.2.2 + 306)), (1, .ref (g.2.2 + 0)), (0, .ref b)]) hx hb dL_law_2405 hl (by decide) rfl (fun ls hl => ?_)
    refine lv_aload_n hx hb dL_law_2407 rfl (lv_at hl 5 rfl) ?_
    refine zr_cVi (rest := []) (As := []) X hP hS (ct_X8_thrown (g := g) (nc := 320) (I := Iq) (J := Jq) (O := (wr O 318 0 r)) hnJ l rfl) cw_L_132 (zr_recv X hP (by omega) (zb_ceJo zk_306 (by decide)) rfl) rfl hl.1 (Nat.le_of_ble_eq_true rfl) ⟨by omega, by omega⟩ ⟨by omega, by omega⟩ dL_law_2408 rfl (fun H locs hP hS => ?_)
    refine lv_iload hx hb dL_law_2411 (lv_at hl 1 rfl) ?_
    refine lv_icmp_eq (tgt := 2418) hx hb dL_law_2413 (by decide) (fun _ => ?_) (fun hc => absurd ht hc)
    refine lv_iload hx hb dL_law_2418 (lv_at hl 1 rfl) ?_
    refine lv_if_ne (tgt := 2435) hx hb dL_law_2420 (by decide) (fun hc => absurd rfl hc) (fun _ => ?_)
    refine lv_aload_n hx hb dL_law_2423 rfl (lv_at hl 4 rfl) ?_
    refine lv_iconst (v := (0 : Int32)) hx hb dL_law_2424 (by decide) ?_
    refine zr_lald X hP hnO dL_law_2425 ?_
    refine lv_iload hx hb dL_law_2426 (lv_at hl 0 rfl) ?_
    refine lv_i2l hx hb dL_law_2428 rfl ?_
    refine zr_lcmp0 hx hb dL_law_2429 ?_
    refine lv_if_eq (tgt := 2435) hx hb dL_law_2430 (by decide) (fun _ => ?_) (fun hc => absurd rfl hc)
    refine lv_goto (tgt := 2550) hx hb dL_law_2435 (by decide) ?_
    exact W.widen (Nat.le_succ _) (Nat.le_add_right _ 6) (kk _ _ _ _ _ _ hr9 hP hS (lv_sub hl [2, 3, 4, 5, 6, 7] rfl))
  · refine lv_aload_n hx hb dL_law_2394 rfl (lv_at hl 4 rfl) ?_
    refine lv_aload_n hx hb dL_law_2395 rfl (lv_at hl 2 rfl) ?_
    refine zr_cH (rest := []) (As := [.ref (g.2.2 + 0), .ref (g.2.2 + 318)]) X hP hS hnc (hc1_L_undo (g := g) (nc := 320) (I := I) (J := J) (O := O) hnI hnO l hlT hf) ch_L_277 rfl hl.1 (Nat.le_of_ble_eq_true rfl) ⟨by omega, by omega⟩ ⟨by omega, by omega⟩ dL_law_2396 rfl (fun H locs hP hS => ?_)
    refine lv_istore (lv' := [(6, .int (1 : Int32)), (5, .int (Int32.ofNat n)), (4, .ref (g.2.2 + 319)), (3, .ref (g.2.2 + 318)), (2, .ref (g.2.2 + 306)), (1, .ref (g.2.2 + 0)), (0, .ref b)]) hx hb dL_law_2399 hl (by decide) rfl (fun ls hl => ?_)
    refine lv_aload_n hx hb dL_law_2401 rfl (lv_at hl 4 rfl) ?_
    refine zr_cVi (rest := []) (As := []) X hP hS (ct_X8_undo (g := g) (nc := 320) (I := Iq) (J := J) (O := O) hnJ l hj) cw_L_279 (zr_recv X hP (by omega) (zb_ceJo zk_306 (by decide)) rfl) rfl hl.1 (Nat.le_of_ble_eq_true rfl) ⟨by omega, by omega⟩ ⟨by omega, by omega⟩ dL_law_2402 rfl (fun H locs hP hS => ?_)
    refine lv_istore (lv' := [(7, .int rb), (6, .int (1 : Int32)), (5, .int (Int32.ofNat n)), (4, .ref (g.2.2 + 319)), (3, .ref (g.2.2 + 318)), (2, .ref (g.2.2 + 306)), (1, .ref (g.2.2 + 0)), (0, .ref b)]) hx hb dL_law_2405 hl (by decide) rfl (fun ls hl => ?_)
    refine lv_aload_n hx hb dL_law_2407 rfl (lv_at hl 5 rfl) ?_
    refine zr_cVi (rest := []) (As := []) X hP hS (ct_X8_thrown (g := g) (nc := 320) (I := Iq) (J := Jq) (O := O) hnJ l rfl) cw_L_132 (zr_recv X hP (by omega) (zb_ceJo zk_306 (by decide)) rfl) rfl hl.1 (Nat.le_of_ble_eq_true rfl) ⟨by omega, by omega⟩ ⟨by omega, by omega⟩ dL_law_2408 rfl (fun H locs hP hS => ?_)
    refine lv_iload hx hb dL_law_2411 (lv_at hl 1 rfl) ?_
    refine lv_icmp_eq (tgt := 2418) hx hb dL_law_2413 (by decide) (fun _ => ?_) (fun hc => absurd ht hc)
    refine lv_iload hx hb dL_law_2418 (lv_at hl 1 rfl) ?_
    refine lv_if_ne (tgt := 2435) hx hb dL_law_2420 (by decide) (fun _ => ?_) (fun hc => absurd hc (by decide))
    refine lv_goto (tgt := 2550) hx hb dL_law_2435 (by decide) ?_
    exact kk _ _ _ _ _ _ hr9 hP hS (lv_sub hl [2, 3, 4, 5, 6, 7] rfl)

set_option maxHeartbeats 1000000 in
theorem lw_c43 {p : Program} {l : Launch} {e : Env} {R : Room} {s : State} {m : MethodId} {args : Array Value} {below : List Frame} {meth : Method} {c : Code} {H : Heap} {locs : List Loc} {cells slots : Nat} {Q : State → Prop} {g : zb_G} {ls : Array Slot} {b L n : Nat} {xs : Nat → Int32} {Rel : Nat → Mem → Mem → Prop} (hq : eqP_43 Rel) {I J O : Mem} (hRel : Rel n I J) (hlT : l.stackTraces = false) (X : zb_X g p m c cL_law 10 s args RL meth) (hnc : zb_Nc s) (hX : va_X b L xs s s.heap) (hbl : b < s.heap.size) (hbA : ¬ zb_A g b) (hn : n + 6 ≤ L) (hL : L ≤ 3072)
    (hP : va_P g.1 vwCl (zb_ws g 320 (zb_ce g I J O)) H) (hS : va_S (zb_A g) s.heap H locs) (hl : lv_has ls 10 [(5, .int (Int32.ofNat n)), (4, .ref (g.2.2 + 319)), (3, .ref (g.2.2 + 318)), (2, .ref (g.2.2 + 306)), (1, .ref (g.2.2 + 0)), (0, .ref b)]) (h1 : 13 ≤ R.frames) (h2 : 472 ≤ R.locals) (h3 : cells + 1 ≤ R.cells) (h4 : slots + 6 ≤ R.slots)
    (kk : ∀ (I J O : Mem) (H : Heap) (locs : List Loc) (ls : Array Slot), Rel (n + 6) I J → va_P g.1 vwCl (zb_ws g 320 (zb_ce g I J O)) H → va_S (zb_A g) s.heap H locs → lv_has ls 10 [(5, .int (Int32.ofNat n)), (4, .ref (g.2.2 + 319)), (3, .ref (g.2.2 + 318)), (2, .ref (g.2.2 + 306)), (1, .ref (g.2.2 + 0)), (0, .ref b)] → W p l e R s m args below meth c H locs (cells + 1) (slots + 6) Q (F0 m 2550 ls [])) : W p l e R s m args below meth c H locs cells slots Q (F0 m 2438 ls []) := by
  have hx := X.1.1
  have hb := X.1.2.1
  have hnI : 306 ≤ 320 := by decide
  have hnJ : 318 ≤ 320 := by decide
  have hnO : 320 ≤ 320 := by decide
  obtain ⟨E, r, Iq, rb, Jq, hf, hj, hr9, hd9⟩ := hq n I J (by omega) hRel (xs (n + 1))
  rcases hd9 with ⟨rfl, ht, rfl⟩ | ⟨rfl, ht⟩
  · refine lv_aload_n hx hb dL_law_2438 rfl (lv_at hl 4 rfl) ?_
    refine lv_aload_n hx hb dL_law_2439 rfl (lv_at hl 5 rfl) ?_
    refine lv_iload hx hb dL_law_2440 (lv_at hl 0 rfl) ?_
    refine lv_iconst (v := (1 : Int32)) hx hb dL_law_2442 (by decide) ?_
    refine lv_iadd hx hb dL_law_2443 ?_
    refine zr_sldc (cn := 1) X hX hbl hbA hS (by omega) (by omega) rfl dL_law_2444 ?_
    refine lv_aload_n hx hb dL_law_2445 rfl (lv_at hl 2 rfl) ?_
    refine zr_cH (rest := []) (As := [.ref (g.2.2 + 0), .int (xs (n + 1)), .ref (g.2.2 + 318)]) X hP hS hnc (hn_L_save (g := g) (nc := 320) (I := I) (J := J) (O := O) hnI hnO l hf) ch_L_280 rfl hl.1 (Nat.le_of_ble_eq_true rfl) ⟨by omega, by omega⟩ ⟨by omega, by omega⟩ dL_law_2446 rfl (fun H locs hP hS => ?_)
    refine lv_istore (lv' := [(6, .int (0 : Int32)), (5, .int (Int32.ofNat n)), (4, .ref (g.2.2 + 319)), (3, .ref (g.2.2 + 318)), (2, .ref (g.2.2 + 306)), (1, .ref (g.2.2 + 0)), (0, .ref b)]) hx hb dL_law_2449 hl (by decide) rfl (fun ls hl => ?_)
    refine lv_aload_n hx hb dL_law_2451 rfl (lv_at hl 4 rfl) ?_
    refine lv_aload_n hx hb dL_law_2452 rfl (lv_at hl 6 rfl) ?_
    refine lv_iload hx hb dL_law_2453 (lv_at hl 1 rfl) ?_
    refine lv_iconst (v := (1 : Int32)) hx hb dL_law_2455 (by decide) ?_
    refine lv_iadd hx hb dL_law_2456 ?_
    refine zr_sldc (cn := 1) X hX hbl hbA hS (by omega) (by omega) rfl dL_law_2457 ?_
    refine zr_cVi (rest := []) (As := [.int (xs (n + 1))]) X hP hS (ct_X8_save (g := g) (nc := 320) (I := Iq) (J := J) (O := (wr O 318 0 r)) hnJ l hj) cw_L_282 (zr_recv X hP (by omega) (zb_ceJo zk_306 (by decide)) rfl) rfl hl.1 (Nat.le_of_ble_eq_true rfl) ⟨by omega, by omega⟩ ⟨by omega, by omega⟩ dL_law_2458 rfl (fun H locs hP hS => ?_)
    refine lv_istore (lv' := [(7, .int r), (6, .int (0 : Int32)), (5, .int (Int32.ofNat n)), (4, .ref (g.2.2 + 319)), (3, .ref (g.2.2 + 318)), (2, .ref (g.2.2 + 306)), (1, .ref (g.2.2 + 0)), (0, .ref b)]) hx hb dL_law_2461 hl (by decide) rfl (fun ls hl => ?_)
    refine lv_aload_n hx hb dL_law_2463 rfl (lv_at hl 5 rfl) ?_
    refine zr_cVi (rest := []) (As := []) X hP hS (ct_X8_thrown (g := g) (nc := 320) (I := Iq) (J := Jq) (O := (wr O 318 0 r)) hnJ l rfl) cw_L_132 (zr_recv X hP (by omega) (zb_ceJo zk_306 (by decide)) rfl) rfl hl.1 (Nat.le_of_ble_eq_true rfl) ⟨by omega, by omega⟩ ⟨by omega, by omega⟩ dL_law_2464 rfl (fun H locs hP hS => ?_)
    refine lv_iload hx hb dL_law_2467 (lv_at hl 1 rfl) ?_
    refine lv_icmp_eq (tgt := 2474) hx hb dL_law_2469 (by decide) (fun _ => ?_) (fun hc => absurd ht hc)
    refine lv_iload hx hb dL_law_2474 (lv_at hl 1 rfl) ?_
    refine lv_if_ne (tgt := 2491) hx hb dL_law_2476 (by decide) (fun hc => absurd rfl hc) (fun _ => ?_)
    refine lv_aload_n hx hb dL_law_2479 rfl (lv_at hl 4 rfl) ?_
    refine lv_iconst (v := (0 : Int32)) hx hb dL_law_2480 (by decide) ?_
    refine zr_lald X hP hnO dL_law_2481 ?_
    refine lv_iload hx hb dL_law_2482 (lv_at hl 0 rfl) ?_
    refine lv_i2l hx hb dL_law_2484 rfl ?_
    refine zr_lcmp0 hx hb dL_law_2485 ?_
    refine lv_if_eq (tgt := 2491) hx hb dL_law_2486 (by decide) (fun _ => ?_) (fun hc => absurd rfl hc)
    refine lv_goto (tgt := 2550) hx hb dL_law_2491 (by decide) ?_
    exact W.widen (Nat.le_succ _) (Nat.le_add_right _ 6) (kk _ _ _ _ _ _ hr9 hP hS (lv_sub hl [2, 3, 4, 5, 6, 7] rfl))
  · refine lv_aload_n hx hb dL_law_2438 rfl (lv_at hl 4 rfl) ?_
    refine lv_aload_n hx hb dL_law_2439 rfl (lv_at hl 5 rfl) ?_
    refine lv_iload hx hb dL_law_2440 (lv_at hl 0 rfl) ?_
    refine lv_iconst (v := (1 : Int32)) hx hb dL_law_2442 (by decide) ?_
    refine lv_iadd hx hb dL_law_2443 ?_
    refine zr_sldc (cn := 1) X hX hbl hbA hS (by omega) (by omega) rfl dL_law_2444 ?_
    refine lv_aload_n hx hb dL_law_2445 rfl (lv_at hl 2 rfl) ?_
    refine zr_cH (rest := []) (As := [.ref (g.2.2 + 0), .int (xs (n + 1)), .ref (g.2.2 + 318)]) X hP hS hnc (hc1_L_save (g := g) (nc := 320) (I := I) (J := J) (O := O) hnI hnO l hlT hf) ch_L_280 rfl hl.1 (Nat.le_of_ble_eq_true rfl) ⟨by omega, by omega⟩ ⟨by omega, by omega⟩ dL_law_2446 rfl (fun H locs hP hS => ?_)
    refine lv_istore (lv' := [(6, .int (1 : Int32)), (5, .int (Int32.ofNat n)), (4, .ref (g.2.2 + 319)), (3, .ref (g.2.2 + 318)), (2, .ref (g.2.2 + 306)), (1, .ref (g.2.2 + 0)), (0, .ref b)]) hx hb dL_law_2449 hl (by decide) rfl (fun ls hl => ?_)
    refine lv_aload_n hx hb dL_law_2451 rfl (lv_at hl 4 rfl) ?_
    refine lv_aload_n hx hb dL_law_2452 rfl (lv_at hl 6 rfl) ?_
    refine lv_iload hx hb dL_law_2453 (lv_at hl 1 rfl) ?_
    refine lv_iconst (v := (1 : Int32)) hx hb dL_law_2455 (by decide) ?_
    refine lv_iadd hx hb dL_law_2456 ?_
    refine zr_sldc (cn := 1) X hX hbl hbA hS (by omega) (by omega) rfl dL_law_2457 ?_
    refine zr_cVi (rest := []) (As := [.int (xs (n + 1))]) X hP hS (ct_X8_save (g := g) (nc := 320) (I := Iq) (J := J) (O := O) hnJ l hj) cw_L_282 (zr_recv X hP (by omega) (zb_ceJo zk_306 (by decide)) rfl) rfl hl.1 (Nat.le_of_ble_eq_true rfl) ⟨by omega, by omega⟩ ⟨by omega, by omega⟩ dL_law_2458 rfl (fun H locs hP hS => ?_)
    refine lv_istore (lv' := [(7, .int rb), (6, .int (1 : Int32)), (5, .int (Int32.ofNat n)), (4, .ref (g.2.2 + 319)), (3, .ref (g.2.2 + 318)), (2, .ref (g.2.2 + 306)), (1, .ref (g.2.2 + 0)), (0, .ref b)]) hx hb dL_law_2461 hl (by decide) rfl (fun ls hl => ?_)
    refine lv_aload_n hx hb dL_law_2463 rfl (lv_at hl 5 rfl) ?_
    refine zr_cVi (rest := []) (As := []) X hP hS (ct_X8_thrown (g := g) (nc := 320) (I := Iq) (J := Jq) (O := O) hnJ l rfl) cw_L_132 (zr_recv X hP (by omega) (zb_ceJo zk_306 (by decide)) rfl) rfl hl.1 (Nat.le_of_ble_eq_true rfl) ⟨by omega, by omega⟩ ⟨by omega, by omega⟩ dL_law_2464 rfl (fun H locs hP hS => ?_)
    refine lv_iload hx hb dL_law_2467 (lv_at hl 1 rfl) ?_
    refine lv_icmp_eq (tgt := 2474) hx hb dL_law_2469 (by decide) (fun _ => ?_) (fun hc => absurd ht hc)
    refine lv_iload hx hb dL_law_2474 (lv_at hl 1 rfl) ?_
    refine lv_if_ne (tgt := 2491) hx hb dL_law_2476 (by decide) (fun _ => ?_) (fun hc => absurd hc (by decide))
    refine lv_goto (tgt := 2550) hx hb dL_law_2491 (by decide) ?_
    exact kk _ _ _ _ _ _ hr9 hP hS (lv_sub hl [2, 3, 4, 5, 6, 7] rfl)

set_option maxHeartbeats 1000000 in
theorem lw_c44 {p : Program} {l : Launch} {e : Env} {R : Room} {s : State} {m : MethodId} {args : Array Value} {below : List Frame} {meth : Method} {c : Code} {H : Heap} {locs : List Loc} {cells slots : Nat} {Q : State → Prop} {g : zb_G} {ls : Array Slot} {b L n : Nat} {xs : Nat → Int32} {Rel : Nat → Mem → Mem → Prop} (hq : eqP_44 Rel) {I J O : Mem} (hRel : Rel n I J) (hlT : l.stackTraces = false) (X : zb_X g p m c cL_law 10 s args RL meth) (hnc : zb_Nc s) (hX : va_X b L xs s s.heap) (hbl : b < s.heap.size) (hbA : ¬ zb_A g b) (hn : n + 6 ≤ L) (hL : L ≤ 3072)
    (hP : va_P g.1 vwCl (zb_ws g 320 (zb_ce g I J O)) H) (hS : va_S (zb_A g) s.heap H locs) (hl : lv_has ls 10 [(5, .int (Int32.ofNat n)), (4, .ref (g.2.2 + 319)), (3, .ref (g.2.2 + 318)), (2, .ref (g.2.2 + 306)), (1, .ref (g.2.2 + 0)), (0, .ref b)]) (h1 : 13 ≤ R.frames) (h2 : 472 ≤ R.locals) (h3 : cells + 1 ≤ R.cells) (h4 : slots + 6 ≤ R.slots)
    (kk : ∀ (I J O : Mem) (H : Heap) (locs : List Loc) (ls : Array Slot), Rel (n + 6) I J → va_P g.1 vwCl (zb_ws g 320 (zb_ce g I J O)) H → va_S (zb_A g) s.heap H locs → lv_has ls 10 [(5, .int (Int32.ofNat n)), (4, .ref (g.2.2 + 319)), (3, .ref (g.2.2 + 318)), (2, .ref (g.2.2 + 306)), (1, .ref (g.2.2 + 0)), (0, .ref b)] → W p l e R s m args below meth c H locs (cells + 1) (slots + 6) Q (F0 m 2550 ls [])) : W p l e R s m args below meth c H locs cells slots Q (F0 m 2494 ls []) := by
  have hx := X.1.1
  have hb := X.1.2.1
  have hnI : 306 ≤ 320 := by decide
  have hnJ : 318 ≤ 320 := by decide
  have hnO : 320 ≤ 320 := by decide
  obtain ⟨E, r, Iq, rb, Jq, hf, hj, hr9, hd9⟩ := hq n I J (by omega) hRel (xs (n + 1))
  rcases hd9 with ⟨rfl, ht, rfl⟩ | ⟨rfl, ht⟩ | ⟨rfl, ht⟩
  · refine lv_aload_n hx hb dL_law_2494 rfl (lv_at hl 4 rfl) ?_
    refine lv_aload_n hx hb dL_law_2495 rfl (lv_at hl 5 rfl) ?_
    refine lv_iload hx hb dL_law_2496 (lv_at hl 0 rfl) ?_
    refine lv_iconst (v := (1 : Int32)) hx hb dL_law_2498 (by decide) ?_
    refine lv_iadd hx hb dL_law_2499 ?_
    refine zr_sldc (cn := 1) X hX hbl hbA hS (by omega) (by omega) rfl dL_law_2500 ?_
    refine lv_aload_n hx hb dL_law_2501 rfl (lv_at hl 2 rfl) ?_
    refine zr_cH (rest := []) (As := [.ref (g.2.2 + 0), .int (xs (n + 1)), .ref (g.2.2 + 318)]) X hP hS hnc (hn_L_restore (g := g) (nc := 320) (I := I) (J := J) (O := O) hnI hnO l hf) ch_L_283 rfl hl.1 (Nat.le_of_ble_eq_true rfl) ⟨by omega, by omega⟩ ⟨by omega, by omega⟩ dL_law_2502 rfl (fun H locs hP hS => ?_)
    refine lv_istore (lv' := [(6, .int (0 : Int32)), (5, .int (Int32.ofNat n)), (4, .ref (g.2.2 + 319)), (3, .ref (g.2.2 + 318)), (2, .ref (g.2.2 + 306)), (1, .ref (g.2.2 + 0)), (0, .ref b)]) hx hb dL_law_2505 hl (by decide) rfl (fun ls hl => ?_)
    refine lv_aload_n hx hb dL_law_2507 rfl (lv_at hl 4 rfl) ?_
    refine lv_aload_n hx hb dL_law_2508 rfl (lv_at hl 6 rfl) ?_
    refine lv_iload hx hb dL_law_2509 (lv_at hl 1 rfl) ?_
    refine lv_iconst (v := (1 : Int32)) hx hb dL_law_2511 (by decide) ?_
    refine lv_iadd hx hb dL_law_2512 ?_
    refine zr_sldc (cn := 1) X hX hbl hbA hS (by omega) (by omega) rfl dL_law_2513 ?_
    refine zr_cVi (rest := []) (As := [.int (xs (n + 1))]) X hP hS (ct_X8_restore (g := g) (nc := 320) (I := Iq) (J := J) (O := (wr O 318 0 r)) hnJ l hj) cw_L_285 (zr_recv X hP (by omega) (zb_ceJo zk_306 (by decide)) rfl) rfl hl.1 (Nat.le_of_ble_eq_true rfl) ⟨by omega, by omega⟩ ⟨by omega, by omega⟩ dL_law_2514 rfl (fun H locs hP hS => ?_)
    refine lv_istore (lv' := [(7, .int r), (6, .int (0 : Int32)), (5, .int (Int32.ofNat n)), (4, .ref (g.2.2 + 319)), (3, .ref (g.2.2 + 318)), (2, .ref (g.2.2 + 306)), (1, .ref (g.2.2 + 0)), (0, .ref b)]) hx hb dL_law_2517 hl (by decide) rfl (fun ls hl => ?_)
    refine lv_aload_n hx hb dL_law_2519 rfl (lv_at hl 5 rfl) ?_
    refine zr_cVi (rest := []) (As := []) X hP hS (ct_X8_thrown (g := g) (nc := 320) (I := Iq) (J := Jq) (O := (wr O 318 0 r)) hnJ l rfl) cw_L_132 (zr_recv X hP (by omega) (zb_ceJo zk_306 (by decide)) rfl) rfl hl.1 (Nat.le_of_ble_eq_true rfl) ⟨by omega, by omega⟩ ⟨by omega, by omega⟩ dL_law_2520 rfl (fun H locs hP hS => ?_)
    refine lv_iload hx hb dL_law_2523 (lv_at hl 1 rfl) ?_
    refine lv_icmp_eq (tgt := 2530) hx hb dL_law_2525 (by decide) (fun _ => ?_) (fun hc => absurd ht hc)
    refine lv_iload hx hb dL_law_2530 (lv_at hl 1 rfl) ?_
    refine lv_if_ne (tgt := 2547) hx hb dL_law_2532 (by decide) (fun hc => absurd rfl hc) (fun _ => ?_)
    refine lv_aload_n hx hb dL_law_2535 rfl (lv_at hl 4 rfl) ?_
    refine lv_iconst (v := (0 : Int32)) hx hb dL_law_2536 (by decide) ?_
    refine zr_lald X hP hnO dL_law_2537 ?_
    refine lv_iload hx hb dL_law_2538 (lv_at hl 0 rfl) ?_
    refine lv_i2l hx hb dL_law_2540 rfl ?_
    refine zr_lcmp0 hx hb dL_law_2541 ?_
    refine lv_if_eq (tgt := 2547) hx hb dL_law_2542 (by decide) (fun _ => ?_) (fun hc => absurd rfl hc)
    refine lv_goto (tgt := 2550) hx hb dL_law_2547 (by decide) ?_
    exact W.widen (Nat.le_succ _) (Nat.le_add_right _ 6) (kk _ _ _ _ _ _ hr9 hP hS (lv_sub hl [2, 3, 4, 5, 6, 7] rfl))
  · refine lv_aload_n hx hb dL_law_2494 rfl (lv_at hl 4 rfl) ?_
    refine lv_aload_n hx hb dL_law_2495 rfl (lv_at hl 5 rfl) ?_
    refine lv_iload hx hb dL_law_2496 (lv_at hl 0 rfl) ?_
    refine lv_iconst (v := (1 : Int32)) hx hb dL_law_2498 (by decide) ?_
    refine lv_iadd hx hb dL_law_2499 ?_
    refine zr_sldc (cn := 1) X hX hbl hbA hS (by omega) (by omega) rfl dL_law_2500 ?_
    refine lv_aload_n hx hb dL_law_2501 rfl (lv_at hl 2 rfl) ?_
    refine zr_cH (rest := []) (As := [.ref (g.2.2 + 0), .int (xs (n + 1)), .ref (g.2.2 + 318)]) X hP hS hnc (hc1_L_restore (g := g) (nc := 320) (I := I) (J := J) (O := O) hnI hnO l hlT hf) ch_L_283 rfl hl.1 (Nat.le_of_ble_eq_true rfl) ⟨by omega, by omega⟩ ⟨by omega, by omega⟩ dL_law_2502 rfl (fun H locs hP hS => ?_)
    refine lv_istore (lv' := [(6, .int (1 : Int32)), (5, .int (Int32.ofNat n)), (4, .ref (g.2.2 + 319)), (3, .ref (g.2.2 + 318)), (2, .ref (g.2.2 + 306)), (1, .ref (g.2.2 + 0)), (0, .ref b)]) hx hb dL_law_2505 hl (by decide) rfl (fun ls hl => ?_)
    refine lv_aload_n hx hb dL_law_2507 rfl (lv_at hl 4 rfl) ?_
    refine lv_aload_n hx hb dL_law_2508 rfl (lv_at hl 6 rfl) ?_
    refine lv_iload hx hb dL_law_2509 (lv_at hl 1 rfl) ?_
    refine lv_iconst (v := (1 : Int32)) hx hb dL_law_2511 (by decide) ?_
    refine lv_iadd hx hb dL_law_2512 ?_
    refine zr_sldc (cn := 1) X hX hbl hbA hS (by omega) (by omega) rfl dL_law_2513 ?_
    refine zr_cVi (rest := []) (As := [.int (xs (n + 1))]) X hP hS (ct_X8_restore (g := g) (nc := 320) (I := Iq) (J := J) (O := O) hnJ l hj) cw_L_285 (zr_recv X hP (by omega) (zb_ceJo zk_306 (by decide)) rfl) rfl hl.1 (Nat.le_of_ble_eq_true rfl) ⟨by omega, by omega⟩ ⟨by omega, by omega⟩ dL_law_2514 rfl (fun H locs hP hS => ?_)
    refine lv_istore (lv' := [(7, .int rb), (6, .int (1 : Int32)), (5, .int (Int32.ofNat n)), (4, .ref (g.2.2 + 319)), (3, .ref (g.2.2 + 318)), (2, .ref (g.2.2 + 306)), (1, .ref (g.2.2 + 0)), (0, .ref b)]) hx hb dL_law_2517 hl (by decide) rfl (fun ls hl => ?_)
    refine lv_aload_n hx hb dL_law_2519 rfl (lv_at hl 5 rfl) ?_
    refine zr_cVi (rest := []) (As := []) X hP hS (ct_X8_thrown (g := g) (nc := 320) (I := Iq) (J := Jq) (O := O) hnJ l rfl) cw_L_132 (zr_recv X hP (by omega) (zb_ceJo zk_306 (by decide)) rfl) rfl hl.1 (Nat.le_of_ble_eq_true rfl) ⟨by omega, by omega⟩ ⟨by omega, by omega⟩ dL_law_2520 rfl (fun H locs hP hS => ?_)
    refine lv_iload hx hb dL_law_2523 (lv_at hl 1 rfl) ?_
    refine lv_icmp_eq (tgt := 2530) hx hb dL_law_2525 (by decide) (fun _ => ?_) (fun hc => absurd ht hc)
    refine lv_iload hx hb dL_law_2530 (lv_at hl 1 rfl) ?_
    refine lv_if_ne (tgt := 2547) hx hb dL_law_2532 (by decide) (fun _ => ?_) (fun hc => absurd hc (by decide))
    refine lv_goto (tgt := 2550) hx hb dL_law_2547 (by decide) ?_
    exact kk _ _ _ _ _ _ hr9 hP hS (lv_sub hl [2, 3, 4, 5, 6, 7] rfl)
  · refine lv_aload_n hx hb dL_law_2494 rfl (lv_at hl 4 rfl) ?_
    refine lv_aload_n hx hb dL_law_2495 rfl (lv_at hl 5 rfl) ?_
    refine lv_iload hx hb dL_law_2496 (lv_at hl 0 rfl) ?_
    refine lv_iconst (v := (1 : Int32)) hx hb dL_law_2498 (by decide) ?_
    refine lv_iadd hx hb dL_law_2499 ?_
    refine zr_sldc (cn := 1) X hX hbl hbA hS (by omega) (by omega) rfl dL_law_2500 ?_
    refine lv_aload_n hx hb dL_law_2501 rfl (lv_at hl 2 rfl) ?_
    refine zr_cH (rest := []) (As := [.ref (g.2.2 + 0), .int (xs (n + 1)), .ref (g.2.2 + 318)]) X hP hS hnc (hc2_L_restore (g := g) (nc := 320) (I := I) (J := J) (O := O) hnI hnO l hlT hf) ch_L_283 rfl hl.1 (Nat.le_of_ble_eq_true rfl) ⟨by omega, by omega⟩ ⟨by omega, by omega⟩ dL_law_2502 rfl (fun H locs hP hS => ?_)
    refine lv_istore (lv' := [(6, .int (2 : Int32)), (5, .int (Int32.ofNat n)), (4, .ref (g.2.2 + 319)), (3, .ref (g.2.2 + 318)), (2, .ref (g.2.2 + 306)), (1, .ref (g.2.2 + 0)), (0, .ref b)]) hx hb dL_law_2505 hl (by decide) rfl (fun ls hl => ?_)
    refine lv_aload_n hx hb dL_law_2507 rfl (lv_at hl 4 rfl) ?_
    refine lv_aload_n hx hb dL_law_2508 rfl (lv_at hl 6 rfl) ?_
    refine lv_iload hx hb dL_law_2509 (lv_at hl 1 rfl) ?_
    refine lv_iconst (v := (1 : Int32)) hx hb dL_law_2511 (by decide) ?_
    refine lv_iadd hx hb dL_law_2512 ?_
    refine zr_sldc (cn := 1) X hX hbl hbA hS (by omega) (by omega) rfl dL_law_2513 ?_
    refine zr_cVi (rest := []) (As := [.int (xs (n + 1))]) X hP hS (ct_X8_restore (g := g) (nc := 320) (I := Iq) (J := J) (O := O) hnJ l hj) cw_L_285 (zr_recv X hP (by omega) (zb_ceJo zk_306 (by decide)) rfl) rfl hl.1 (Nat.le_of_ble_eq_true rfl) ⟨by omega, by omega⟩ ⟨by omega, by omega⟩ dL_law_2514 rfl (fun H locs hP hS => ?_)
    refine lv_istore (lv' := [(7, .int rb), (6, .int (2 : Int32)), (5, .int (Int32.ofNat n)), (4, .ref (g.2.2 + 319)), (3, .ref (g.2.2 + 318)), (2, .ref (g.2.2 + 306)), (1, .ref (g.2.2 + 0)), (0, .ref b)]) hx hb dL_law_2517 hl (by decide) rfl (fun ls hl => ?_)
    refine lv_aload_n hx hb dL_law_2519 rfl (lv_at hl 5 rfl) ?_
    refine zr_cVi (rest := []) (As := []) X hP hS (ct_X8_thrown (g := g) (nc := 320) (I := Iq) (J := Jq) (O := O) hnJ l rfl) cw_L_132 (zr_recv X hP (by omega) (zb_ceJo zk_306 (by decide)) rfl) rfl hl.1 (Nat.le_of_ble_eq_true rfl) ⟨by omega, by omega⟩ ⟨by omega, by omega⟩ dL_law_2520 rfl (fun H locs hP hS => ?_)
    refine lv_iload hx hb dL_law_2523 (lv_at hl 1 rfl) ?_
    refine lv_icmp_eq (tgt := 2530) hx hb dL_law_2525 (by decide) (fun _ => ?_) (fun hc => absurd ht hc)
    refine lv_iload hx hb dL_law_2530 (lv_at hl 1 rfl) ?_
    refine lv_if_ne (tgt := 2547) hx hb dL_law_2532 (by decide) (fun _ => ?_) (fun hc => absurd hc (by decide))
    refine lv_goto (tgt := 2550) hx hb dL_law_2547 (by decide) ?_
    exact kk _ _ _ _ _ _ hr9 hP hS (lv_sub hl [2, 3, 4, 5, 6, 7] rfl)
