/-! METHODS THAT THROW: contracts, rows -/
def zb_en (E : Nat) : String := if E = 1 then "java/lang/IndexOutOfBoundsException" else if E = 2 then "java/lang/IllegalArgumentException" else if E = 3 then "java/lang/IllegalStateException" else "java/util/NoSuchElementException"
def zb_sup : List String := ["java/lang/RuntimeException", "java/lang/Exception"]
def zb_XC (g : zb_G) (nc : Nat) (C : Nat → va_E) (E : String) : String → State → State → Prop := fun E' st t => E' = E ∧ va_P g.1 vwCl (zb_ws g nc C) t.heap ∧ va_F (zb_A g) st t
abbrev zb_Cx (l : Launch) (g : zb_G) (nc : Nat) (y : MethodName) (cc : ByteArray) (maxL : Nat) (ret : Option FieldType) (fr lo : Nat) (as : List Value) (C : Nat → va_E) (E : String) (C' : Nat → va_E) : Prop :=
  vx_Met l y (Cond.code y cc maxL ret :: zb_Wd) { frames := fr, cells := 1, slots := 6, locals := lo } (zb_Pre g nc C as) (fun _ _ _ _ => False) (zb_XC g nc C' E) 1 6 (zb_A g)
theorem zb_ofX {l : Launch} {g : zb_G} {nc : Nat} {y : MethodName} {own : String} {cc : ByteArray} {maxL : Nat} {ret : Option FieldType} {fr lo : Nat} {as : List Value} {C C' : Nat → va_E} {E : String}
    (hy : plainName y.cls = true) (ho : y.cls = own) (hn : (lg_sl as).length ≤ maxL)
    (body : ∀ (p : Program) (e : Env) (s : State) (m : MethodId) (args : Array Value) (below : List Frame) (meth : Method) (c : Code) (ls : Array Slot), zb_X g p m c cc maxL s args own meth → meth.sig.returnType = ret → va_P g.1 vwCl (zb_ws g nc C) s.heap → lv_has ls maxL (lv_args 0 as) → (∀ x ∈ c.exceptionTable.toList, False) →
      W p l e { frames := fr, cells := 1, slots := 6, locals := lo } s m args below meth c s.heap [] 0 0 (vx_MQ below (fun _ _ _ _ => False) (zb_XC g nc C' E) args s 1 6 (zb_A g)) (F0 m 0 ls [])) :
    zb_Cx l g nc y cc maxL ret fr lo as C E C' := by
  subst ho
  refine vx_ofW (cc := cc) (maxL := maxL) (ret := ret) hy rfl ?_
  intro p e s m args below meth c s₁ B hml ht hv
  obtain ⟨rfl, hP, hK, hZ⟩ := hv
  have hts0 := atoms_spec (ws := Cond.code y cc maxL ret :: zb_Wd) B.pre
  have hts : ∀ w ∈ zb_Wd, w.before as.toArray s = true := fun w hw => hts0 w (List.mem_cons_of_mem _ hw)
  rw [lg_entry_eq]
  exact body p e s m as.toArray below meth c _ ⟨⟨B.exec, B.bytes, hml, findClass_of_methodNamed B.named, hts⟩, B.notSynchronized, hK, hZ⟩ B.returns hP (lv_entry as hn) ht
def zb_th (own : String) (ik ic : Nat) (cls : String) : Prop :=
  Bundle.fit cls = true ∧ (∀ w ∈ Cond.classLink own ik cls :: Cond.initialized cls :: vx_atS own ic cls zb_sup, w ∈ lw_tbl) ∧ (Cond.classLink own ik cls :: Cond.initialized cls :: vx_atS own ic cls zb_sup).all (fun w => goodWord w || zb_isX w) = true
theorem zb_th_w {own : String} {ik ic : Nat} {cls : String} (h : zb_th own ik ic cls) {s : State} {args : Array Value} (h1 : ∀ w ∈ zb_Wd, w.before args s = true) (h2 : zb_N s) : ∀ w ∈ Cond.classLink own ik cls :: Cond.initialized cls :: vx_atS own ic cls zb_sup, w.before args s = true ∧ vx_ot w = true := by
  intro w hw
  have h3 := List.all_eq_true.mp h.2.2 w hw
  have h4 := h.2.1 w hw
  cases hg : goodWord w with
  | true => exact ⟨h1 w (List.mem_filter.mpr ⟨h4, hg⟩), by unfold vx_ot; rw [hg, Bool.or_true]⟩
  | false =>
    rw [hg, Bool.false_or] at h3
    have hot : w.onTables = true := by cases w <;> first | rfl | (simp [zb_isX] at h3; done)
    exact ⟨va_Nw.use hot (h2 w (List.mem_filter.mpr ⟨h4, h3⟩)), by unfold vx_ot; rw [hot, Bool.true_or]⟩
def zb_rx : ByteArray := ⟨#[0x2a, 0x2b, 0xb7, 0x00, 0x0d, 0xb1]⟩
def zb_l4 : List Cond := Cond.classLink RX7 257 (zb_en 4) :: Cond.initialized (zb_en 4) :: ((zx_at RX7 261 (zb_en 4) 13 zb_rx "java/lang/RuntimeException" ["java/lang/Exception"]).filter vx_no)
def zb_th4 : Prop := (∀ w ∈ zb_l4, w ∈ lw_tbl) ∧ zb_l4.all (fun w => goodWord w || zb_isX w) = true
theorem zb_th4_w (h : zb_th4) {s : State} {args : Array Value} (h1 : ∀ w ∈ zb_Wd, w.before args s = true) (h2 : zb_N s) : ∀ w ∈ zb_l4, w.before args s = true ∧ vx_ot w = true := by
  intro w hw
  have h3 := List.all_eq_true.mp h.2 w hw
  have h4 := h.1 w hw
  cases hg : goodWord w with
  | true => exact ⟨h1 w (List.mem_filter.mpr ⟨h4, hg⟩), by unfold vx_ot; rw [hg, Bool.or_true]⟩
  | false =>
    rw [hg, Bool.false_or] at h3
    have hot : w.onTables = true := by cases w <;> first | rfl | (simp [zb_isX] at h3; done)
    exact ⟨va_Nw.use hot (h2 w (List.mem_filter.mpr ⟨h4, h3⟩)), by unfold vx_ot; rw [hot, Bool.true_or]⟩
section XR
variable {p : Program} {l : Launch} {e : Env} {R : Room} {s : State} {m : MethodId} {args : Array Value} {below : List Frame} {meth : Method} {c : Code} {H : Heap} {locs : List Loc} {Q : State → Prop}
variable {cc : ByteArray} {nL : Nat} {own : String} {g : zb_G} {nc : Nat} {C0 C1 : Nat → va_E} {pc : Nat} {ls : Array Slot} {rest : List Value}
theorem zr_throwS {cls text : String} {ik is ic sa : Nat} (hlT : l.stackTraces = false) (X : zb_X g p m c cc nL s args own meth) (hP : va_P g.1 vwCl (zb_ws g nc C1) H) (hS : va_S (zb_A g) s.heap H locs) (hsz : ls.size = nL) (th : zb_th own ik ic cls) (hR : vk_R own is text sa s) (hout : ∀ x ∈ c.exceptionTable.toList, False)
    (h1 : 6 ≤ R.frames) (h2 : (rest.map fun v => v.category).sum + 82 ≤ R.locals) (h3 : 1 ≤ R.cells) (h4 : 6 ≤ R.slots)
    (d0 : decode cc pc = .ok (.new ik, 3)) (d3 : decode cc (pc + 3) = .ok (.dup, 1)) (d4 : decode cc (pc + 4) = .ok (.ldc is, 2)) (d6 : decode cc (pc + 6) = .ok (.invokespecial ic, 3)) (d9 : decode cc (pc + 9) = .ok (.athrow, 1)) :
    W p l e R s m args below meth c H locs 0 0 (vx_MQ below (fun _ _ _ _ => False) (zb_XC g nc C1 cls) args s 1 6 (zb_A g)) (F0 m pc ls rest) := by
  obtain ⟨⟨hx, hb, hml, ho, hts⟩, hlk, hK, hZ⟩ := X
  have hw := zb_th_w th hts hZ.2.2.1
  exact vx_throwS hx hb hlT (names := zb_sup) ho th.1 (by decide +kernel) (hw _ List.mem_cons_self).1 (hw _ (List.mem_cons_of_mem _ List.mem_cons_self)).1 hR (fun w h => (hw w (List.mem_cons_of_mem _ (List.mem_cons_of_mem _ h))).1) (fun w h => (hw w h).2) hZ.1.1 hZ.1.2 hS (hsz.trans hml.symm) d0 d3 d4 d6 d9
    (fun x h => (hout x h).elim) (by show 2 + 3 < R.frames; omega) (by show _ + (13 * (2 + 1) + 43) ≤ R.locals; omega) (by omega) (by omega) hlk
    (fun t ha hz hk => ⟨rfl, hP.kept (fun k q hk2 => hk _ (hP k q hk2).lt), ⟨Nat.le_trans hS.1 hz, fun q h5 h6 => (hk q (Nat.lt_of_lt_of_le h5 hS.1)).trans (hS.2.1 q h5 h6)⟩⟩) hS.2.2 (by omega) (by omega)
theorem zr_throwW {cls text : String} {ik is ic sa : Nat} (hlT : l.stackTraces = false) (X : zb_X g p m c cc nL s args own meth) (hP : va_P g.1 vwCl (zb_ws g nc C1) H) (hS : va_S (zb_A g) s.heap H locs) (hsz : ls.size = nL) (th : zb_th own ik ic cls) (hR : vk_R own is text sa s) (hout : ∀ x ∈ c.exceptionTable.toList, False)
    (h1 : 6 ≤ R.frames) (h2 : (rest.map fun v => v.category).sum + 82 ≤ R.locals) (h3 : 1 ≤ R.cells) (h4 : 6 ≤ R.slots)
    (d0 : decode cc pc = .ok (.new ik, 3)) (d3 : decode cc (pc + 3) = .ok (.dup, 1)) (d4 : decode cc (pc + 4) = .ok (.ldc_w is, 3)) (d6 : decode cc (pc + 7) = .ok (.invokespecial ic, 3)) (d9 : decode cc (pc + 10) = .ok (.athrow, 1)) :
    W p l e R s m args below meth c H locs 0 0 (vx_MQ below (fun _ _ _ _ => False) (zb_XC g nc C1 cls) args s 1 6 (zb_A g)) (F0 m pc ls rest) := by
  obtain ⟨⟨hx, hb, hml, ho, hts⟩, hlk, hK, hZ⟩ := X
  have hw := zb_th_w th hts hZ.2.2.1
  exact vx_throwSW hx hb hlT (names := zb_sup) ho th.1 (by decide +kernel) (hw _ List.mem_cons_self).1 (hw _ (List.mem_cons_of_mem _ List.mem_cons_self)).1 hR (fun w h => (hw w (List.mem_cons_of_mem _ (List.mem_cons_of_mem _ h))).1) (fun w h => (hw w h).2) hZ.1.1 hZ.1.2 hS (hsz.trans hml.symm) d0 d3 d4 d6 d9
    (fun x h => (hout x h).elim) (by show 2 + 3 < R.frames; omega) (by show _ + (13 * (2 + 1) + 43) ≤ R.locals; omega) (by omega) (by omega) hlk
    (fun t ha hz hk => ⟨rfl, hP.kept (fun k q hk2 => hk _ (hP k q hk2).lt), ⟨Nat.le_trans hS.1 hz, fun q h5 h6 => (hk q (Nat.lt_of_lt_of_le h5 hS.1)).trans (hS.2.1 q h5 h6)⟩⟩) hS.2.2 (by omega) (by omega)
theorem zr_throwN {text : String} {is sa : Nat} (hlT : l.stackTraces = false) (X : zb_X g p m c cc nL s args RX7 meth) (hP : va_P g.1 vwCl (zb_ws g nc C1) H) (hS : va_S (zb_A g) s.heap H locs) (hsz : ls.size = nL) (th : zb_th4) (hR : vk_R RX7 is text sa s) (hout : ∀ x ∈ c.exceptionTable.toList, False)
    (h1 : 6 ≤ R.frames) (h2 : (rest.map fun v => v.category).sum + 82 ≤ R.locals) (h3 : 1 ≤ R.cells) (h4 : 6 ≤ R.slots)
    (d0 : decode cc pc = .ok (.new 257, 3)) (d3 : decode cc (pc + 3) = .ok (.dup, 1)) (d4 : decode cc (pc + 4) = .ok (.ldc_w is, 3)) (d6 : decode cc (pc + 7) = .ok (.invokespecial 261, 3)) (d9 : decode cc (pc + 10) = .ok (.athrow, 1)) :
    W p l e R s m args below meth c H locs 0 0 (vx_MQ below (fun _ _ _ _ => False) (zb_XC g nc C1 (zb_en 4)) args s 1 6 (zb_A g)) (F0 m pc ls rest) := by
  obtain ⟨⟨hx, hb, hml, ho, hts⟩, hlk, hK, hZ⟩ := X
  have hw := zb_th4_w th hts hZ.2.2.1
  exact zx_throwW (yy := "java/lang/RuntimeException") (rx := zb_rx) (ix := 13) hx hb hlT (by decide +kernel) (by decide +kernel) (by decide +kernel) (by decide +kernel) (names := ["java/lang/Exception"]) ho (by decide +kernel) (by decide +kernel) (by decide +kernel) (hw _ List.mem_cons_self).1 (hw _ (List.mem_cons_of_mem _ List.mem_cons_self)).1 hR (fun w h => (hw w (List.mem_cons_of_mem _ (List.mem_cons_of_mem _ h))).1) (fun w h => (hw w h).2) hZ.1.1 hZ.1.2 hS (hsz.trans hml.symm) d0 d3 d4 d6 d9
    (fun x h => (hout x h).elim) (by show 1 + 1 + 3 < R.frames; omega) (by show _ + (13 * (1 + 1 + 1) + 43) ≤ R.locals; omega) (by omega) (by omega) hlk
    (fun t ha hz hk => ⟨rfl, hP.kept (fun k q hk2 => hk _ (hP k q hk2).lt), ⟨Nat.le_trans hS.1 hz, fun q h5 h6 => (hk q (Nat.lt_of_lt_of_le h5 hS.1)).trans (hS.2.1 q h5 h6)⟩⟩) hS.2.2 (by omega) (by omega)
/-- a call that throws, not caught here -/
theorem zr_xback {Qa : State → Outcome → State → Prop} {st0 : List Value} {E : String} (hr : vx_Run p l e R s m args below meth c H locs 0 0 1 6 (F0 m pc ls st0) rest (fun _ _ _ => False) (zb_XC g nc C1 E) (zb_A g)) (X : zb_X g p m c cc nL s args own meth) (hS : va_S (zb_A g) s.heap H locs) (hout : ∀ x ∈ c.exceptionTable.toList, False) :
    W p l e R s m args below meth c H locs 0 0 (vx_MQ below (fun _ _ _ _ => False) (zb_XC g nc C1 E) args s 1 6 (zb_A g)) (F0 m pc ls st0) := by
  intro T hT X0
  rcases hr T hT X0 with ⟨v, st₀, t, T', L, h0, X', hL, e1, e2, hF, st⟩ | ⟨q, st₀, t, T', L, E', ce, h0, X', hL, e1, e2, ⟨rfl, hp, hF⟩, hce, hcv, hcl, st⟩
  · exact hF.elim
  · obtain ⟨k1, k2, k3⟩ := vx_keep (A1 := zb_A g) h0 e1 hS (fun _ _ h => h) (fun _ h => h) hL hF
    obtain ⟨t2, a1, b1⟩ := vx_out (p := p) (l := l) (e := e) (R := R) (args := args) (below := below) (rest := rest) (Qc := fun _ _ _ _ => False) (XC := zb_XC g nc C1 E') (mc := 1) (ms := 6) (free := zb_A g) (H := T'.heap) (locs := locs ++ L) (ls := ls) (pc := pc) (cells := 0 + 1) (slots := 0 + 6) (fun x h => (hout x h).elim) X.2.1 (by rw [e1]; exact hce) hcv hcl
      (fun t9 h9 _ => ⟨rfl, by rw [h9, e1]; exact hp, k3.F h9⟩) k3.2.2 (Nat.le_refl _) (Nat.le_refl _) T' rfl X'
    exact ⟨t2, st.trans a1, b1⟩
theorem zr_xV {y : MethodName} {cy : ByteArray} {mY nY fr lo : Nat} {rY : Option FieldType} {As : List Value} {E : String} {index b : Nat} (X : zb_X g p m c cc nL s args own meth) (hP : va_P g.1 vwCl (zb_ws g nc C0) H) (hS : va_S (zb_A g) s.heap H locs)
    (hM : zb_Cx l g nc y cy mY rY fr lo (.ref b :: As) C0 E C1) (cw : zb_cwV own index y cy mY rY nY) (hrecv : ∃ cellB : Cell, H[b]? = some cellB ∧ cellB.vm.isStatics = false ∧ s.vm.findClass y.cls = some cellB.cls)
    (hn : As.length = nY) (hsz : ls.size = nL) (hW : (rest.map fun v => v.category).sum ≤ 8) (hR : fr + 1 ≤ R.frames ∧ 8 + (mY + 11) + lo ≤ R.locals) (hcs : 1 ≤ R.cells ∧ 6 ≤ R.slots) (hdg : decode cc pc = .ok (.invokevirtual index, 3)) {st : List Value} (hst : st = As.reverse ++ .ref b :: rest) (hout : ∀ x ∈ c.exceptionTable.toList, False) :
    W p l e R s m args below meth c H locs 0 0 (vx_MQ below (fun _ _ _ _ => False) (zb_XC g nc C1 E) args s 1 6 (zb_A g)) (F0 m pc ls st) := by
  subst hst
  obtain ⟨S, hlk, hK, hZ⟩ := id X
  exact zr_xback (Qa := fun _ _ _ => False) (vx_runV (As := As) (rest := rest) S hM (cwV nY S.2.2.2.2 (zb_goodIn cw.1) rfl rfl rfl ⟨rfl, cw.2⟩ hR) ⟨zb_blind, hrecv, zb_pre hK hZ hP hS⟩ rfl hn hsz rfl (lv_room hW) hdg ⟨by omega, by omega⟩) X hS hout
end XR

theorem th_1 : zb_th RX7 396 400 (zb_en 1) := ⟨by decide +kernel, by decide +kernel, by decide +kernel⟩
theorem th_2 : zb_th RX7 180 184 (zb_en 2) := ⟨by decide +kernel, by decide +kernel, by decide +kernel⟩
theorem th_3 : zb_th RX7 105 109 (zb_en 3) := ⟨by decide +kernel, by decide +kernel, by decide +kernel⟩
theorem th_4 : zb_th4 := ⟨by decide +kernel, by decide +kernel⟩
