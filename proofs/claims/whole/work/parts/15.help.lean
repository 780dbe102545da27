/-! THE LAW'S HELPERS: a call that returns or throws, caught -/
def zb_Nc (U : State) : Prop := va_Nc (zb_en 2) (zb_en 1) U ∧ va_Nc (zb_en 3) (zb_en 1) U ∧ va_Nc (zb_en 4) (zb_en 1) U
theorem zb_Nc.moved {u U : State} (hvm : u.vm.Alike U.vm) (h : zb_Nc u) : zb_Nc U := ⟨h.1.moved hvm, h.2.1.moved hvm, h.2.2.moved hvm⟩
def zb_PreC (g : zb_G) (nc : Nat) (C : Nat → va_E) (as : List Value) : Array Value → State → Prop := fun a U => zb_Pre g nc C as a U ∧ zb_Nc U
abbrev zb_Ch (l : Launch) (g : zb_G) (nc : Nat) (y : MethodName) (cc : ByteArray) (maxL : Nat) (hh : List (Nat × Nat × Nat × Nat)) (fr lo mc ms : Nat) (as : List Value) (C : Nat → va_E) (v : Option Value) (C' : Nat → va_E) : Prop :=
  Met l y (Cond.codeWith y cc maxL (some .int) hh :: zb_Wd) { frames := fr, cells := mc, slots := ms, locals := lo } (zb_PreC g nc C as) (zb_Po g nc C' v) mc ms (zb_A g)
theorem zb_blindC {g : zb_G} {nc : Nat} {C : Nat → va_E} {as : List Value} : FrameBlind (zb_PreC g nc C as) := fun a U gg mk q =>
  ⟨zb_blind a U gg mk q.1, q.2.moved (u := U) (U := U.calling gg mk a) (Vm.Alike.refl U.vm)⟩
theorem zb_ofH {l : Launch} {g : zb_G} {nc : Nat} {y : MethodName} {own : String} {cc : ByteArray} {maxL fr lo mc ms : Nat} {hh : List (Nat × Nat × Nat × Nat)} {as : List Value} {C C' : Nat → va_E} {v : Option Value}
    (hy : plainName y.cls = true) (ho : y.cls = own) (hn : (lg_sl as).length ≤ maxL)
    (body : ∀ (p : Program) (e : Env) (s : State) (m : MethodId) (args : Array Value) (below : List Frame) (meth : Method) (c : Code) (ls : Array Slot), zb_X g p m c cc maxL s args own meth → meth.sig.returnType = some .int → zb_Nc s → c.exceptionTable.toList = tableOf hh → va_P g.1 vwCl (zb_ws g nc C) s.heap → lv_has ls maxL (lv_args 0 as) →
      W p l e { frames := fr, cells := mc, slots := ms, locals := lo } s m args below meth c s.heap [] 0 0 (MQ below (zb_Po g nc C' v) args s mc ms (zb_A g)) (F0 m 0 ls [])) :
    zb_Ch l g nc y cc maxL hh fr lo mc ms as C v C' := by
  subst ho
  refine MetFree.of_bodyS (code := cc) (maxLocals := maxL) (ret := some .int) hy ?_ ?_
  · intro args s m h hn
    obtain ⟨m9, meth, c, hn9, h1, h2, h3, h4, -, h5, h6, -⟩ := Cond.codeWith_spec (atoms_spec (ws := Cond.codeWith y cc maxL (some .int) hh :: zb_Wd) h _ List.mem_cons_self)
    cases hn.symm.trans hn9
    exact ⟨meth, c, h1, h2, h3, h4, h5, h6⟩
  · intro p e s m args below meth c s₁ B hml hv _
    have hh0 : s₁.heap = s.heap := by rw [B.state]; rfl
    obtain ⟨⟨rfl, hP, hK, hZ⟩, hnc⟩ := hv
    have hts0 := atoms_spec (ws := Cond.codeWith y cc maxL (some .int) hh :: zb_Wd) B.pre
    have hts : ∀ w ∈ zb_Wd, w.before as.toArray s = true := fun w hw => hts0 w (List.mem_cons_of_mem _ hw)
    have ht := vx_table (x := y) B (hts0 _ List.mem_cons_self)
    have hw := body p e s m as.toArray below meth c _ ⟨⟨B.exec, B.bytes, hml, findClass_of_methodNamed B.named, hts⟩, B.notSynchronized, hK, hZ⟩ B.returns hnc ht hP (lv_entry as hn)
    rw [← lg_entry_eq] at hw
    obtain ⟨t, a1, o, b1, b2, b3⟩ := hw s₁ hh0 (Stand.of_body B)
    exact ⟨t, o, a1, b1, b2, ⟨b3.1, b3.2⟩⟩
section HR
variable {p : Program} {l : Launch} {e : Env} {R : Room} {s : State} {m : MethodId} {args : Array Value} {below : List Frame} {meth : Method} {c : Code} {H : Heap} {locs : List Loc} {cells slots : Nat} {Q : State → Prop}
variable {cc : ByteArray} {nL : Nat} {own : String} {g : zb_G} {nc : Nat} {C0 C1 : Nat → va_E} {I J O : Mem} {pc : Nat} {ls : Array Slot} {rest : List Value}
theorem zr_catch {y : MethodName} {cy : ByteArray} {mY nY fr lo : Nat} {rY : Option FieldType} {As : List Value} {E : String} {index b : Nat} (X : zb_X g p m c cc nL s args own meth) (hP : va_P g.1 vwCl (zb_ws g nc C0) H) (hS : va_S (zb_A g) s.heap H locs)
    (hM : zb_Cx l g nc y cy mY rY fr lo (.ref b :: As) C0 E C1) (cw : zb_cwV own index y cy mY rY nY) (hrecv : ∃ cellB : Cell, H[b]? = some cellB ∧ cellB.vm.isStatics = false ∧ s.vm.findClass y.cls = some cellB.cls)
    (hn : As.length = nY) (hsz : ls.size = nL) (hW : (rest.map fun v => v.category).sum ≤ 8) (hR : fr + 1 ≤ R.frames ∧ 8 + (mY + 11) + lo ≤ R.locals) (hcs : cells + 1 ≤ R.cells ∧ slots + 6 ≤ R.slots) (hdg : decode cc pc = .ok (.invokevirtual index, 3)) {st : List Value} (hst : st = As.reverse ++ .ref b :: rest)
    (pre : List ExceptionTableEntry) (x : ExceptionTableEntry) (suf : List ExceptionTableEntry) (hsplit : c.exceptionTable.toList = pre ++ x :: suf) (hpass : ∀ z ∈ pre, covers z pc = false ∨ (z.catchType ≠ 0 ∧ ∃ nm : String, (Cond.classLink own z.catchType nm).before args s = true ∧ va_Nc E nm s)) (hcov : covers x pc = true) (h0 : x.catchType ≠ 0)
    (hlink : Cond.classLink own x.catchType E ∈ zb_Wd) (hcast : Cond.castable E E ∈ zb_ext)
    (kk : ∀ (H1 : Heap) (locs1 : List Loc) (q : Nat), va_P g.1 vwCl (zb_ws g nc C1) H1 → va_S (zb_A g) s.heap H1 locs1 → W p l e R s m args below meth c H1 locs1 (cells + 1) (slots + 6) Q (F0 m x.handlerPc ls [.ref q])) : W p l e R s m args below meth c H locs cells slots Q (F0 m pc ls st) := by
  subst hst
  obtain ⟨S, hlk, hK, hZ⟩ := id X
  have hr := vx_runV (e := e) (below := below) (meth := meth) (locs := locs) (As := As) (rest := rest) (g := F0 m pc ls (As.reverse ++ .ref b :: rest)) S hM (cwV nY S.2.2.2.2 (zb_goodIn cw.1) rfl rfl rfl ⟨rfl, cw.2⟩ hR) ⟨zb_blind, hrecv, zb_pre hK hZ hP hS⟩ rfl hn hsz rfl (lv_room hW) hdg hcs
  intro T hT X0
  rcases hr T hT X0 with ⟨v, st₀, t, T', L, h0, X', hL, e1, e2, hF, st⟩ | ⟨q, st₀, t, T', L, E', ce, h9, X', hL, e1, e2, ⟨rfl, hp, hF⟩, hce, hcv, hcl, st⟩
  · exact hF.elim
  · obtain ⟨k1, k2, k3⟩ := vx_keep (A1 := zb_A g) h9 e1 hS (fun _ _ h => h) (fun _ h => h) hL hF
    obtain ⟨t2, a1, b1⟩ := vx_catch (p := p) (l := l) (e := e) (R := R) (args := args) (below := below) (rest := rest) (Q := Q) (H := T'.heap) (locs := locs ++ L) (ls := ls) (pc := pc) S.2.2.2.1 pre x suf hsplit hpass hcov h0 (S.2.2.2.2 _ hlink) (va_Nw.use rfl (hZ.2.2.1 _ hcast)) (by rw [e1]; exact hce) hcv hcl
      (kk T'.heap (locs ++ L) q (by rw [e1]; exact hp) k3) T' rfl X'
    exact ⟨t2, st.trans a1, b1⟩
theorem zb_kd318 : zb_kd 318 = (15, 1) := by decide
theorem zb_kd319 : zb_kd 319 = (16, 1) := by decide
theorem zb_ce318 : zb_ce g I J O 318 = .inl (g.2.1 4, 1, .inr (.inl (fun j => (O 318 j).toInt64))) := rfl
theorem zb_ce319 : zb_ce g I J O 319 = .inl (g.2.1 5, 1, .inr (.inr (.inr (.inl (fun j => FP.f2d (O 319 j).toUInt32))))) := rfl
theorem zb_upO8 {r : Int32} (k' : Nat) : va_up (zb_ce g I J O) 318 (.inl (g.2.1 4, 1, .inr (.inl (vp_updL (fun j => (O 318 j).toInt64) 0 r.toInt64)))) k' = zb_ce g I J (wr O 318 0 r) k' := by
  by_cases hk : k' = 318
  · subst hk
    rw [va_up_self, zb_ce318]
    have e : (vp_updL (fun j => (O 318 j).toInt64) 0 r.toInt64) = fun j => (wr O 318 0 r 318 j).toInt64 := by
      funext j
      by_cases hj : j = 0 <;> simp [vp_updL, vf_upd, wr, hj]
    rw [e]
  · rw [va_up_ne _ _ hk]
    simp only [zb_ce, zb_mm, zb_wrn hk]
theorem zb_upO9 {r : UInt32} (k' : Nat) : va_up (zb_ce g I J O) 319 (.inl (g.2.1 5, 1, .inr (.inr (.inr (.inl (vf_upd (fun j => FP.f2d (O 319 j).toUInt32) 0 (FP.f2d r))))))) k' = zb_ce g I J (wr O 319 0 r.toInt32) k' := by
  by_cases hk : k' = 319
  · subst hk
    rw [va_up_self, zb_ce319]
    have e : (vf_upd (fun j => FP.f2d (O 319 j).toUInt32) 0 (FP.f2d r)) = fun j => FP.f2d (wr O 319 0 r.toInt32 319 j).toUInt32 := by
      funext j
      by_cases hj : j = 0 <;> simp [vp_updL, vf_upd, wr, hj]
    rw [e]
  · rw [va_up_ne _ _ hk]
    simp only [zb_ce, zb_mm, zb_wrn hk]
theorem zr_last {r : Int32} (X : zb_X g p m c cc nL s args own meth) (hP : va_P g.1 vwCl (zb_ws g nc (zb_ce g I J O)) H) (hS : va_S (zb_A g) s.heap H locs) (hnO : 320 ≤ nc) (hdg : decode cc pc = .ok (.lastore, 1))
    (kk : ∀ (H1 : Heap) (locs1 : List Loc), va_P g.1 vwCl (zb_ws g nc (zb_ce g I J (wr O 318 0 r))) H1 → va_S (zb_A g) s.heap H1 locs1 → W p l e R s m args below meth c H1 locs1 cells slots Q (F0 m (pc + 1) ls rest)) : W p l e R s m args below meth c H locs cells slots Q (F0 m pc ls (.long r.toInt64 :: .int 0 :: .ref (g.2.2 + 318) :: rest)) := by
  obtain ⟨⟨hx, hb, -, ho, hts⟩, -, hK, -⟩ := X
  have he := zb_get (g := g) (C := zb_ce g I J O) (k := 318) (nc := nc) (by omega)
  rw [zb_ce318] at he
  refine va_last hx hb hK hP zb_D hS 318 4 he rfl (show vp_in 0 1 by unfold vp_in; decide) hdg fun H1 locs1 hP1 _ hS1 => ?_
  rw [zb_set] at hP1
  rw [show (0 : Int32).toNatClampNeg = 0 by decide, zb_cong (fun k' _ => zb_upO8 k')] at hP1
  exact kk H1 locs1 hP1 hS1
theorem zr_dast {r : UInt32} (X : zb_X g p m c cc nL s args own meth) (hP : va_P g.1 vwCl (zb_ws g nc (zb_ce g I J O)) H) (hS : va_S (zb_A g) s.heap H locs) (hnO : 320 ≤ nc) (hdg : decode cc pc = .ok (.dastore, 1))
    (kk : ∀ (H1 : Heap) (locs1 : List Loc), va_P g.1 vwCl (zb_ws g nc (zb_ce g I J (wr O 319 0 r.toInt32))) H1 → va_S (zb_A g) s.heap H1 locs1 → W p l e R s m args below meth c H1 locs1 cells slots Q (F0 m (pc + 1) ls rest)) : W p l e R s m args below meth c H locs cells slots Q (F0 m pc ls (.double (FP.f2d r) :: .int 0 :: .ref (g.2.2 + 319) :: rest)) := by
  obtain ⟨⟨hx, hb, -, ho, hts⟩, -, hK, -⟩ := X
  have he := zb_get (g := g) (C := zb_ce g I J O) (k := 319) (nc := nc) (by omega)
  rw [zb_ce319] at he
  refine va_dast hx hb hK hP zb_D hS 319 5 he rfl (show vp_in 0 1 by unfold vp_in; decide) hdg fun H1 locs1 hP1 _ hS1 => ?_
  rw [zb_set] at hP1
  rw [show (0 : Int32).toNatClampNeg = 0 by decide, zb_cong (fun k' _ => zb_upO9 k')] at hP1
  exact kk H1 locs1 hP1 hS1
end HR
theorem wl_1 : Cond.classLink RL 25 (zb_en 1) ∈ zb_Wd := (zb_in 1060 (by decide +kernel) rfl)
theorem wq_1 : Cond.castable (zb_en 1) (zb_en 1) ∈ zb_ext := zb_inX 701 (by decide +kernel) rfl
theorem wl_2 : Cond.classLink RL 19 (zb_en 2) ∈ zb_Wd := (zb_in 1051 (by decide +kernel) rfl)
theorem wq_2 : Cond.castable (zb_en 2) (zb_en 2) ∈ zb_ext := zb_inX 769 (by decide +kernel) rfl
theorem wl_3 : Cond.classLink RL 13 (zb_en 3) ∈ zb_Wd := (zb_in 1020 (by decide +kernel) rfl)
theorem wq_3 : Cond.castable (zb_en 3) (zb_en 3) ∈ zb_ext := zb_inX 1030 (by decide +kernel) rfl
theorem wl_4 : Cond.classLink RL 39 (zb_en 4) ∈ zb_Wd := (zb_in 1094 (by decide +kernel) rfl)
theorem wq_4 : Cond.castable (zb_en 4) (zb_en 4) ∈ zb_ext := zb_inX 1101 (by decide +kernel) rfl
theorem cw_L_7 : zb_cwV RL 7 yX7_append cX7_append 7 (some .int) 5 := zb_cwV_of (zb_in 1021 (by decide +kernel) rfl) (zb_in 1022 (by decide +kernel) rfl) (zb_in 1023 (by decide +kernel) rfl) (zb_in 101 (by decide +kernel) rfl) (zb_in 1024 (by decide +kernel) rfl) (by decide +kernel)
set_option maxHeartbeats 4000000 in
set_option maxRecDepth 100000 in
theorem hn_L_append {g : zb_G} {nc : Nat} (hnI : 306 ≤ nc) (hnO : 320 ≤ nc) (l : Launch) {p0 : Int32} {p1 : Int32} {p2 : Int32} {p3 : Int32} {p4 : Int32} {I J O : Mem} {r : Int32} {Iq : Mem} (hf : fX7_append p0 p1 p2 p3 p4 I = some (0, r, Iq)) : zb_Ch l g nc yL_append cL_append 8 [(0, 16, 19, 13)] 7 151 0 0 [.ref (g.2.2 + 0), .int p0, .int p1, .int p2, .int p3, .int p4, .ref (g.2.2 + 318)] (zb_ce g I J O) (some (.int 0)) (zb_ce g Iq J (wr O 318 0 r)) := by
  refine zb_ofH (own := RL) (by decide +kernel) rfl (Nat.le_of_ble_eq_true rfl) ?_
  intro p e s m args below meth c ls X hr hnc hT hP hl
  have hx := X.1.1
  have hb := X.1.2.1
  have ho := X.1.2.2.2.1
  have hts := X.1.2.2.2.2
  have hS : va_S (zb_A g) s.heap s.heap [] := va_S.rf
  obtain ⟨H, hH⟩ : ∃ H, H = s.heap := ⟨_, rfl⟩
  obtain ⟨locs, hlocs⟩ : ∃ z : List Loc, z = [] := ⟨_, rfl⟩
  rw [← hH] at hP
  have hS : va_S (zb_A g) s.heap H locs := by rw [hH, hlocs]; exact hS
  show W p l e _ s m args below meth c s.heap [] 0 0 _ _
  rw [← hH, ← hlocs]
  have hl : lv_has ls 8 [(0, .ref (g.2.2 + 0)), (1, .int p0), (2, .int p1), (3, .int p2), (4, .int p3), (5, .int p4), (6, .ref (g.2.2 + 318))] := hl
  refine lv_aload hx hb dL_append_0 (lv_at hl 6 rfl) ?_
  refine lv_iconst (v := (0 : Int32)) hx hb dL_append_2 (by decide) ?_
  refine lv_aload_n hx hb dL_append_3 rfl (lv_at hl 0 rfl) ?_
  refine lv_iload_n hx hb dL_append_4 rfl (lv_at hl 1 rfl) ?_
  refine lv_iload_n hx hb dL_append_5 rfl (lv_at hl 2 rfl) ?_
  refine lv_iload_n hx hb dL_append_6 rfl (lv_at hl 3 rfl) ?_
  refine lv_iload hx hb dL_append_7 (lv_at hl 4 rfl) ?_
  refine lv_iload hx hb dL_append_9 (lv_at hl 5 rfl) ?_
  refine zr_cVi (rest := [.int (0 : Int32), .ref (g.2.2 + 318)]) (As := [.int p0, .int p1, .int p2, .int p3, .int p4]) X hP hS (ct_X7_append (g := g) (nc := nc) (I := I) (J := J) (O := O) hnI l hf) cw_L_7 (zr_recv X hP (by omega) (zb_ceIo zk_0 (by decide)) rfl) rfl hl.1 (Nat.le_of_ble_eq_true rfl) ⟨Nat.le_of_ble_eq_true rfl, Nat.le_of_ble_eq_true rfl⟩ ⟨Nat.le_of_ble_eq_true rfl, Nat.le_of_ble_eq_true rfl⟩ dL_append_11 rfl (fun H locs hP hS => ?_)
  refine lv_i2l hx hb dL_append_14 rfl ?_
  refine zr_last X hP hS hnO dL_append_15 (fun H locs hP hS => ?_)
  refine lv_goto (tgt := 23) hx hb dL_append_16 (by decide) ?_
  refine lv_iconst (v := (0 : Int32)) hx hb dL_append_23 (by decide) ?_
  exact zr_iret X hr hP hS dL_append_24
set_option maxHeartbeats 4000000 in
set_option maxRecDepth 100000 in
theorem hc1_L_append {g : zb_G} {nc : Nat} (hnI : 306 ≤ nc) (hnO : 320 ≤ nc) (l : Launch) (hlT : l.stackTraces = false) {p0 : Int32} {p1 : Int32} {p2 : Int32} {p3 : Int32} {p4 : Int32} {I J O : Mem} {r : Int32} {Iq : Mem} (hf : fX7_append p0 p1 p2 p3 p4 I = some (3, r, Iq)) : zb_Ch l g nc yL_append cL_append 8 [(0, 16, 19, 13)] 7 151 1 6 [.ref (g.2.2 + 0), .int p0, .int p1, .int p2, .int p3, .int p4, .ref (g.2.2 + 318)] (zb_ce g I J O) (some (.int (1 : Int32))) (zb_ce g Iq J O) := by
  refine zb_ofH (own := RL) (by decide +kernel) rfl (Nat.le_of_ble_eq_true rfl) ?_
  intro p e s m args below meth c ls X hr hnc hT hP hl
  have hx := X.1.1
  have hb := X.1.2.1
  have ho := X.1.2.2.2.1
  have hts := X.1.2.2.2.2
  have hS : va_S (zb_A g) s.heap s.heap [] := va_S.rf
  obtain ⟨H, hH⟩ : ∃ H, H = s.heap := ⟨_, rfl⟩
  obtain ⟨locs, hlocs⟩ : ∃ z : List Loc, z = [] := ⟨_, rfl⟩
  rw [← hH] at hP
  have hS : va_S (zb_A g) s.heap H locs := by rw [hH, hlocs]; exact hS
  show W p l e _ s m args below meth c s.heap [] 0 0 _ _
  rw [← hH, ← hlocs]
  have hl : lv_has ls 8 [(0, .ref (g.2.2 + 0)), (1, .int p0), (2, .int p1), (3, .int p2), (4, .int p3), (5, .int p4), (6, .ref (g.2.2 + 318))] := hl
  refine lv_aload hx hb dL_append_0 (lv_at hl 6 rfl) ?_
  refine lv_iconst (v := (0 : Int32)) hx hb dL_append_2 (by decide) ?_
  refine lv_aload_n hx hb dL_append_3 rfl (lv_at hl 0 rfl) ?_
  refine lv_iload_n hx hb dL_append_4 rfl (lv_at hl 1 rfl) ?_
  refine lv_iload_n hx hb dL_append_5 rfl (lv_at hl 2 rfl) ?_
  refine lv_iload_n hx hb dL_append_6 rfl (lv_at hl 3 rfl) ?_
  refine lv_iload hx hb dL_append_7 (lv_at hl 4 rfl) ?_
  refine lv_iload hx hb dL_append_9 (lv_at hl 5 rfl) ?_
  refine zr_catch (rest := [.int (0 : Int32), .ref (g.2.2 + 318)]) (As := [.int p0, .int p1, .int p2, .int p3, .int p4]) X hP hS (cx_X7_append (g := g) (nc := nc) (I := I) (J := J) (O := O) hnI l hlT (by decide) hf) cw_L_7 (zr_recv X hP (by omega) (zb_ceIo zk_0 (by decide)) rfl) rfl hl.1 (Nat.le_of_ble_eq_true rfl) ⟨Nat.le_of_ble_eq_true rfl, Nat.le_of_ble_eq_true rfl⟩ ⟨Nat.le_of_ble_eq_true rfl, Nat.le_of_ble_eq_true rfl⟩ dL_append_11 rfl [] ⟨0, 16, 19, 13⟩ [] hT (fun z hz => nomatch hz) (by decide) (by decide) wl_3 wq_3 (fun H locs q hP hS => ?_)
  refine lv_astore (lv' := [(7, .ref q), (0, .ref (g.2.2 + 0)), (1, .int p0), (2, .int p1), (3, .int p2), (4, .int p3), (5, .int p4), (6, .ref (g.2.2 + 318))]) hx hb dL_append_19 hl (by decide) rfl (fun ls hl => ?_)
  refine lv_iconst (v := (1 : Int32)) hx hb dL_append_21 (by decide) ?_
  exact zr_iret X hr hP hS dL_append_22
theorem cw_L_15 : zb_cwV RL 15 yX7_size cX7_size 2 (some .int) 1 := zb_cwV_of (zb_in 1052 (by decide +kernel) rfl) (zb_in 1053 (by decide +kernel) rfl) (zb_in 1054 (by decide +kernel) rfl) (zb_in 101 (by decide +kernel) rfl) (zb_in 1055 (by decide +kernel) rfl) (by decide +kernel)
set_option maxHeartbeats 4000000 in
set_option maxRecDepth 100000 in
theorem hn_L_size {g : zb_G} {nc : Nat} (hnI : 306 ≤ nc) (hnO : 320 ≤ nc) (l : Launch) {p0 : Int32} {I J O : Mem} {r : Int32} (hf : fX7_size p0 I = some (0, r)) : zb_Ch l g nc yL_size cL_size 4 [(0, 9, 12, 19)] 7 146 0 0 [.ref (g.2.2 + 0), .int p0, .ref (g.2.2 + 318)] (zb_ce g I J O) (some (.int 0)) (zb_ce g I J (wr O 318 0 r)) := by
  refine zb_ofH (own := RL) (by decide +kernel) rfl (Nat.le_of_ble_eq_true rfl) ?_
  intro p e s m args below meth c ls X hr hnc hT hP hl
  have hx := X.1.1
  have hb := X.1.2.1
  have ho := X.1.2.2.2.1
  have hts := X.1.2.2.2.2
  have hS : va_S (zb_A g) s.heap s.heap [] := va_S.rf
  obtain ⟨H, hH⟩ : ∃ H, H = s.heap := ⟨_, rfl⟩
  obtain ⟨locs, hlocs⟩ : ∃ z : List Loc, z = [] := ⟨_, rfl⟩
  rw [← hH] at hP
  have hS : va_S (zb_A g) s.heap H locs := by rw [hH, hlocs]; exact hS
  show W p l e _ s m args below meth c s.heap [] 0 0 _ _
  rw [← hH, ← hlocs]
  have hl : lv_has ls 4 [(0, .ref (g.2.2 + 0)), (1, .int p0), (2, .ref (g.2.2 + 318))] := hl
  refine lv_aload_n hx hb dL_size_0 rfl (lv_at hl 2 rfl) ?_
  refine lv_iconst (v := (0 : Int32)) hx hb dL_size_1 (by decide) ?_
  refine lv_aload_n hx hb dL_size_2 rfl (lv_at hl 0 rfl) ?_
  refine lv_iload_n hx hb dL_size_3 rfl (lv_at hl 1 rfl) ?_
  refine zr_cVi (rest := [.int (0 : Int32), .ref (g.2.2 + 318)]) (As := [.int p0]) X hP hS (ct_X7_size (g := g) (nc := nc) (I := I) (J := J) (O := O) hnI l hf) cw_L_15 (zr_recv X hP (by omega) (zb_ceIo zk_0 (by decide)) rfl) rfl hl.1 (Nat.le_of_ble_eq_true rfl) ⟨Nat.le_of_ble_eq_true rfl, Nat.le_of_ble_eq_true rfl⟩ ⟨Nat.le_of_ble_eq_true rfl, Nat.le_of_ble_eq_true rfl⟩ dL_size_4 rfl (fun H locs hP hS => ?_)
  refine lv_i2l hx hb dL_size_7 rfl ?_
  refine zr_last X hP hS hnO dL_size_8 (fun H locs hP hS => ?_)
  refine lv_goto (tgt := 15) hx hb dL_size_9 (by decide) ?_
  refine lv_iconst (v := (0 : Int32)) hx hb dL_size_15 (by decide) ?_
  exact zr_iret X hr hP hS dL_size_16
set_option maxHeartbeats 4000000 in
set_option maxRecDepth 100000 in
theorem hc1_L_size {g : zb_G} {nc : Nat} (hnI : 306 ≤ nc) (hnO : 320 ≤ nc) (l : Launch) (hlT : l.stackTraces = false) {p0 : Int32} {I J O : Mem} {r : Int32} (hf : fX7_size p0 I = some (2, r)) : zb_Ch l g nc yL_size cL_size 4 [(0, 9, 12, 19)] 7 146 1 6 [.ref (g.2.2 + 0), .int p0, .ref (g.2.2 + 318)] (zb_ce g I J O) (some (.int (1 : Int32))) (zb_ce g I J O) := by
  refine zb_ofH (own := RL) (by decide +kernel) rfl (Nat.le_of_ble_eq_true rfl) ?_
  intro p e s m args below meth c ls X hr hnc hT hP hl
  have hx := X.1.1
  have hb := X.1.2.1
  have ho := X.1.2.2.2.1
  have hts := X.1.2.2.2.2
  have hS : va_S (zb_A g) s.heap s.heap [] := va_S.rf
  obtain ⟨H, hH⟩ : ∃ H, H = s.heap := ⟨_, rfl⟩
  obtain ⟨locs, hlocs⟩ : ∃ z : List Loc, z = [] := ⟨_, rfl⟩
  rw [← hH] at hP
  have hS : va_S (zb_A g) s.heap H locs := by rw [hH, hlocs]; exact hS
  show W p l e _ s m args below meth c s.heap [] 0 0 _ _
  rw [← hH, ← hlocs]
  have hl : lv_has ls 4 [(0, .ref (g.2.2 + 0)), (1, .int p0), (2, .ref (g.2.2 + 318))] := hl
  refine lv_aload_n hx hb dL_size_0 rfl (lv_at hl 2 rfl) ?_
  refine lv_iconst (v := (0 : Int32)) hx hb dL_size_1 (by decide) ?_
  refine lv_aload_n hx hb dL_size_2 rfl (lv_at hl 0 rfl) ?_
  refine lv_iload_n hx hb dL_size_3 rfl (lv_at hl 1 rfl) ?_
  refine zr_catch (rest := [.int (0 : Int32), .ref (g.2.2 + 318)]) (As := [.int p0]) X hP hS (cx_X7_size (g := g) (nc := nc) (I := I) (J := J) (O := O) hnI l hlT (by decide) hf) cw_L_15 (zr_recv X hP (by omega) (zb_ceIo zk_0 (by decide)) rfl) rfl hl.1 (Nat.le_of_ble_eq_true rfl) ⟨Nat.le_of_ble_eq_true rfl, Nat.le_of_ble_eq_true rfl⟩ ⟨Nat.le_of_ble_eq_true rfl, Nat.le_of_ble_eq_true rfl⟩ dL_size_4 rfl [] ⟨0, 9, 12, 19⟩ [] hT (fun z hz => nomatch hz) (by decide) (by decide) wl_2 wq_2 (fun H locs q hP hS => ?_)
  refine lv_astore_n (lv' := [(3, .ref q), (0, .ref (g.2.2 + 0)), (1, .int p0), (2, .ref (g.2.2 + 318))]) hx hb dL_size_12 rfl hl (by decide) rfl (fun ls hl => ?_)
  refine lv_iconst (v := (1 : Int32)) hx hb dL_size_13 (by decide) ?_
  exact zr_iret X hr hP hS dL_size_14
theorem cw_L_21 : zb_cwV RL 21 yX7_buoy cX7_buoy 4 (some .int) 2 := zb_cwV_of (zb_in 1061 (by decide +kernel) rfl) (zb_in 1062 (by decide +kernel) rfl) (zb_in 1063 (by decide +kernel) rfl) (zb_in 101 (by decide +kernel) rfl) (zb_in 1064 (by decide +kernel) rfl) (by decide +kernel)
set_option maxHeartbeats 4000000 in
set_option maxRecDepth 100000 in
theorem hn_L_buoy {g : zb_G} {nc : Nat} (hnI : 306 ≤ nc) (hnO : 320 ≤ nc) (l : Launch) {p0 : Int32} {p1 : Int32} {I J O : Mem} {r : Int32} (hf : fX7_buoy p0 p1 I = some (0, r)) : zb_Ch l g nc yL_buoy cL_buoy 5 [(0, 10, 13, 25), (0, 10, 17, 19)] 8 169 0 0 [.ref (g.2.2 + 0), .int p0, .int p1, .ref (g.2.2 + 318)] (zb_ce g I J O) (some (.int 0)) (zb_ce g I J (wr O 318 0 r)) := by
  refine zb_ofH (own := RL) (by decide +kernel) rfl (Nat.le_of_ble_eq_true rfl) ?_
  intro p e s m args below meth c ls X hr hnc hT hP hl
  have hx := X.1.1
  have hb := X.1.2.1
  have ho := X.1.2.2.2.1
  have hts := X.1.2.2.2.2
  have hS : va_S (zb_A g) s.heap s.heap [] := va_S.rf
  obtain ⟨H, hH⟩ : ∃ H, H = s.heap := ⟨_, rfl⟩
  obtain ⟨locs, hlocs⟩ : ∃ z : List Loc, z = [] := ⟨_, rfl⟩
  rw [← hH] at hP
  have hS : va_S (zb_A g) s.heap H locs := by rw [hH, hlocs]; exact hS
  show W p l e _ s m args below meth c s.heap [] 0 0 _ _
  rw [← hH, ← hlocs]
  have hl : lv_has ls 5 [(0, .ref (g.2.2 + 0)), (1, .int p0), (2, .int p1), (3, .ref (g.2.2 + 318))] := hl
  refine lv_aload_n hx hb dL_buoy_0 rfl (lv_at hl 3 rfl) ?_
  refine lv_iconst (v := (0 : Int32)) hx hb dL_buoy_1 (by decide) ?_
  refine lv_aload_n hx hb dL_buoy_2 rfl (lv_at hl 0 rfl) ?_
  refine lv_iload_n hx hb dL_buoy_3 rfl (lv_at hl 1 rfl) ?_
  refine lv_iload_n hx hb dL_buoy_4 rfl (lv_at hl 2 rfl) ?_
  refine zr_cVi (rest := [.int (0 : Int32), .ref (g.2.2 + 318)]) (As := [.int p0, .int p1]) X hP hS (ct_X7_buoy (g := g) (nc := nc) (I := I) (J := J) (O := O) hnI l hf) cw_L_21 (zr_recv X hP (by omega) (zb_ceIo zk_0 (by decide)) rfl) rfl hl.1 (Nat.le_of_ble_eq_true rfl) ⟨Nat.le_of_ble_eq_true rfl, Nat.le_of_ble_eq_true rfl⟩ ⟨Nat.le_of_ble_eq_true rfl, Nat.le_of_ble_eq_true rfl⟩ dL_buoy_5 rfl (fun H locs hP hS => ?_)
  refine lv_i2l hx hb dL_buoy_8 rfl ?_
  refine zr_last X hP hS hnO dL_buoy_9 (fun H locs hP hS => ?_)
  refine lv_goto (tgt := 21) hx hb dL_buoy_10 (by decide) ?_
  refine lv_iconst (v := (0 : Int32)) hx hb dL_buoy_21 (by decide) ?_
  exact zr_iret X hr hP hS dL_buoy_22
set_option maxHeartbeats 4000000 in
set_option maxRecDepth 100000 in
theorem hc1_L_buoy {g : zb_G} {nc : Nat} (hnI : 306 ≤ nc) (hnO : 320 ≤ nc) (l : Launch) (hlT : l.stackTraces = false) {p0 : Int32} {p1 : Int32} {I J O : Mem} {r : Int32} (hf : fX7_buoy p0 p1 I = some (1, r)) : zb_Ch l g nc yL_buoy cL_buoy 5 [(0, 10, 13, 25), (0, 10, 17, 19)] 8 169 1 6 [.ref (g.2.2 + 0), .int p0, .int p1, .ref (g.2.2 + 318)] (zb_ce g I J O) (some (.int (1 : Int32))) (zb_ce g I J O) := by
  refine zb_ofH (own := RL) (by decide +kernel) rfl (Nat.le_of_ble_eq_true rfl) ?_
  intro p e s m args below meth c ls X hr hnc hT hP hl
  have hx := X.1.1
  have hb := X.1.2.1
  have ho := X.1.2.2.2.1
  have hts := X.1.2.2.2.2
  have hS : va_S (zb_A g) s.heap s.heap [] := va_S.rf
  obtain ⟨H, hH⟩ : ∃ H, H = s.heap := ⟨_, rfl⟩
  obtain ⟨locs, hlocs⟩ : ∃ z : List Loc, z = [] := ⟨_, rfl⟩
  rw [← hH] at hP
  have hS : va_S (zb_A g) s.heap H locs := by rw [hH, hlocs]; exact hS
  show W p l e _ s m args below meth c s.heap [] 0 0 _ _
  rw [← hH, ← hlocs]
  have hl : lv_has ls 5 [(0, .ref (g.2.2 + 0)), (1, .int p0), (2, .int p1), (3, .ref (g.2.2 + 318))] := hl
  refine lv_aload_n hx hb dL_buoy_0 rfl (lv_at hl 3 rfl) ?_
  refine lv_iconst (v := (0 : Int32)) hx hb dL_buoy_1 (by decide) ?_
  refine lv_aload_n hx hb dL_buoy_2 rfl (lv_at hl 0 rfl) ?_
  refine lv_iload_n hx hb dL_buoy_3 rfl (lv_at hl 1 rfl) ?_
  refine lv_iload_n hx hb dL_buoy_4 rfl (lv_at hl 2 rfl) ?_
  refine zr_catch (rest := [.int (0 : Int32), .ref (g.2.2 + 318)]) (As := [.int p0, .int p1]) X hP hS (cx_X7_buoy (g := g) (nc := nc) (I := I) (J := J) (O := O) hnI l hlT (by decide) hf) cw_L_21 (zr_recv X hP (by omega) (zb_ceIo zk_0 (by decide)) rfl) rfl hl.1 (Nat.le_of_ble_eq_true rfl) ⟨Nat.le_of_ble_eq_true rfl, Nat.le_of_ble_eq_true rfl⟩ ⟨Nat.le_of_ble_eq_true rfl, Nat.le_of_ble_eq_true rfl⟩ dL_buoy_5 rfl [] ⟨0, 10, 13, 25⟩ [⟨0, 10, 17, 19⟩] hT (fun z hz => nomatch hz) (by decide) (by decide) wl_1 wq_1 (fun H locs q hP hS => ?_)
  refine lv_astore (lv' := [(4, .ref q), (0, .ref (g.2.2 + 0)), (1, .int p0), (2, .int p1), (3, .ref (g.2.2 + 318))]) hx hb dL_buoy_13 hl (by decide) rfl (fun ls hl => ?_)
  refine lv_iconst (v := (1 : Int32)) hx hb dL_buoy_15 (by decide) ?_
  exact zr_iret X hr hP hS dL_buoy_16
set_option maxHeartbeats 4000000 in
set_option maxRecDepth 100000 in
theorem hc2_L_buoy {g : zb_G} {nc : Nat} (hnI : 306 ≤ nc) (hnO : 320 ≤ nc) (l : Launch) (hlT : l.stackTraces = false) {p0 : Int32} {p1 : Int32} {I J O : Mem} {r : Int32} (hf : fX7_buoy p0 p1 I = some (2, r)) : zb_Ch l g nc yL_buoy cL_buoy 5 [(0, 10, 13, 25), (0, 10, 17, 19)] 8 169 1 6 [.ref (g.2.2 + 0), .int p0, .int p1, .ref (g.2.2 + 318)] (zb_ce g I J O) (some (.int (2 : Int32))) (zb_ce g I J O) := by
  refine zb_ofH (own := RL) (by decide +kernel) rfl (Nat.le_of_ble_eq_true rfl) ?_
  intro p e s m args below meth c ls X hr hnc hT hP hl
  have hx := X.1.1
  have hb := X.1.2.1
  have ho := X.1.2.2.2.1
  have hts := X.1.2.2.2.2
  have hS : va_S (zb_A g) s.heap s.heap [] := va_S.rf
  obtain ⟨H, hH⟩ : ∃ H, H = s.heap := ⟨_, rfl⟩
  obtain ⟨locs, hlocs⟩ : ∃ z : List Loc, z = [] := ⟨_, rfl⟩
  rw [← hH] at hP
  have hS : va_S (zb_A g) s.heap H locs := by rw [hH, hlocs]; exact hS
  show W p l e _ s m args below meth c s.heap [] 0 0 _ _
  rw [← hH, ← hlocs]
  have hl : lv_has ls 5 [(0, .ref (g.2.2 + 0)), (1, .int p0), (2, .int p1), (3, .ref (g.2.2 + 318))] := hl
  refine lv_aload_n hx hb dL_buoy_0 rfl (lv_at hl 3 rfl) ?_
  refine lv_iconst (v := (0 : Int32)) hx hb dL_buoy_1 (by decide) ?_
  refine lv_aload_n hx hb dL_buoy_2 rfl (lv_at hl 0 rfl) ?_
  refine lv_iload_n hx hb dL_buoy_3 rfl (lv_at hl 1 rfl) ?_
  refine lv_iload_n hx hb dL_buoy_4 rfl (lv_at hl 2 rfl) ?_
  refine zr_catch (rest := [.int (0 : Int32), .ref (g.2.2 + 318)]) (As := [.int p0, .int p1]) X hP hS (cx_X7_buoy (g := g) (nc := nc) (I := I) (J := J) (O := O) hnI l hlT (by decide) hf) cw_L_21 (zr_recv X hP (by omega) (zb_ceIo zk_0 (by decide)) rfl) rfl hl.1 (Nat.le_of_ble_eq_true rfl) ⟨Nat.le_of_ble_eq_true rfl, Nat.le_of_ble_eq_true rfl⟩ ⟨Nat.le_of_ble_eq_true rfl, Nat.le_of_ble_eq_true rfl⟩ dL_buoy_5 rfl [⟨0, 10, 13, 25⟩] ⟨0, 10, 17, 19⟩ [] hT (fun z hz => Or.inr (by rw [List.mem_singleton.mp hz]; exact ⟨by decide, zb_en 1, hts _ wl_1, hnc.1⟩)) (by decide) (by decide) wl_2 wq_2 (fun H locs q hP hS => ?_)
  refine lv_astore (lv' := [(4, .ref q), (0, .ref (g.2.2 + 0)), (1, .int p0), (2, .int p1), (3, .ref (g.2.2 + 318))]) hx hb dL_buoy_17 hl (by decide) rfl (fun ls hl => ?_)
  refine lv_iconst (v := (2 : Int32)) hx hb dL_buoy_19 (by decide) ?_
  exact zr_iret X hr hP hS dL_buoy_20
theorem cw_L_27 : zb_cwV RL 27 yX7_rope cX7_rope 3 (some .int) 2 := zb_cwV_of (zb_in 1068 (by decide +kernel) rfl) (zb_in 1069 (by decide +kernel) rfl) (zb_in 1070 (by decide +kernel) rfl) (zb_in 101 (by decide +kernel) rfl) (zb_in 1071 (by decide +kernel) rfl) (by decide +kernel)
set_option maxHeartbeats 4000000 in
set_option maxRecDepth 100000 in
theorem hn_L_rope {g : zb_G} {nc : Nat} (hnI : 306 ≤ nc) (hnO : 320 ≤ nc) (l : Launch) {p0 : Int32} {p1 : Int32} {I J O : Mem} {r : Int32} (hf : fX7_rope p0 p1 I = some (0, r)) : zb_Ch l g nc yL_rope cL_rope 5 [(0, 10, 13, 25), (0, 10, 17, 19)] 8 168 0 0 [.ref (g.2.2 + 0), .int p0, .int p1, .ref (g.2.2 + 318)] (zb_ce g I J O) (some (.int 0)) (zb_ce g I J (wr O 318 0 r)) := by
  refine zb_ofH (own := RL) (by decide +kernel) rfl (Nat.le_of_ble_eq_true rfl) ?_
  intro p e s m args below meth c ls X hr hnc hT hP hl
  have hx := X.1.1
  have hb := X.1.2.1
  have ho := X.1.2.2.2.1
  have hts := X.1.2.2.2.2
  have hS : va_S (zb_A g) s.heap s.heap [] := va_S.rf
  obtain ⟨H, hH⟩ : ∃ H, H = s.heap := ⟨_, rfl⟩
  obtain ⟨locs, hlocs⟩ : ∃ z : List Loc, z = [] := ⟨_, rfl⟩
  rw [← hH] at hP
  have hS : va_S (zb_A g) s.heap H locs := by rw [hH, hlocs]; exact hS
  show W p l e _ s m args below meth c s.heap [] 0 0 _ _
  rw [← hH, ← hlocs]
  have hl : lv_has ls 5 [(0, .ref (g.2.2 + 0)), (1, .int p0), (2, .int p1), (3, .ref (g.2.2 + 318))] := hl
  refine lv_aload_n hx hb dL_rope_0 rfl (lv_at hl 3 rfl) ?_
  refine lv_iconst (v := (0 : Int32)) hx hb dL_rope_1 (by decide) ?_
  refine lv_aload_n hx hb dL_rope_2 rfl (lv_at hl 0 rfl) ?_
  refine lv_iload_n hx hb dL_rope_3 rfl (lv_at hl 1 rfl) ?_
  refine lv_iload_n hx hb dL_rope_4 rfl (lv_at hl 2 rfl) ?_
  refine zr_cVi (rest := [.int (0 : Int32), .ref (g.2.2 + 318)]) (As := [.int p0, .int p1]) X hP hS (ct_X7_rope (g := g) (nc := nc) (I := I) (J := J) (O := O) hnI l hf) cw_L_27 (zr_recv X hP (by omega) (zb_ceIo zk_0 (by decide)) rfl) rfl hl.1 (Nat.le_of_ble_eq_true rfl) ⟨Nat.le_of_ble_eq_true rfl, Nat.le_of_ble_eq_true rfl⟩ ⟨Nat.le_of_ble_eq_true rfl, Nat.le_of_ble_eq_true rfl⟩ dL_rope_5 rfl (fun H locs hP hS => ?_)
  refine lv_i2l hx hb dL_rope_8 rfl ?_
  refine zr_last X hP hS hnO dL_rope_9 (fun H locs hP hS => ?_)
  refine lv_goto (tgt := 21) hx hb dL_rope_10 (by decide) ?_
  refine lv_iconst (v := (0 : Int32)) hx hb dL_rope_21 (by decide) ?_
  exact zr_iret X hr hP hS dL_rope_22
set_option maxHeartbeats 4000000 in
set_option maxRecDepth 100000 in
theorem hc1_L_rope {g : zb_G} {nc : Nat} (hnI : 306 ≤ nc) (hnO : 320 ≤ nc) (l : Launch) (hlT : l.stackTraces = false) {p0 : Int32} {p1 : Int32} {I J O : Mem} {r : Int32} (hf : fX7_rope p0 p1 I = some (1, r)) : zb_Ch l g nc yL_rope cL_rope 5 [(0, 10, 13, 25), (0, 10, 17, 19)] 8 168 1 6 [.ref (g.2.2 + 0), .int p0, .int p1, .ref (g.2.2 + 318)] (zb_ce g I J O) (some (.int (1 : Int32))) (zb_ce g I J O) := by
  refine zb_ofH (own := RL) (by decide +kernel) rfl (Nat.le_of_ble_eq_true rfl) ?_
  intro p e s m args below meth c ls X hr hnc hT hP hl
  have hx := X.1.1
  have hb := X.1.2.1
  have ho := X.1.2.2.2.1
  have hts := X.1.2.2.2.2
  have hS : va_S (zb_A g) s.heap s.heap [] := va_S.rf
  obtain ⟨H, hH⟩ : ∃ H, H = s.heap := ⟨_, rfl⟩
  obtain ⟨locs, hlocs⟩ : ∃ z : List Loc, z = [] := ⟨_, rfl⟩
  rw [← hH] at hP
  have hS : va_S (zb_A g) s.heap H locs := by rw [hH, hlocs]; exact hS
  show W p l e _ s m args below meth c s.heap [] 0 0 _ _
  rw [← hH, ← hlocs]
  have hl : lv_has ls 5 [(0, .ref (g.2.2 + 0)), (1, .int p0), (2, .int p1), (3, .ref (g.2.2 + 318))] := hl
  refine lv_aload_n hx hb dL_rope_0 rfl (lv_at hl 3 rfl) ?_
  refine lv_iconst (v := (0 : Int32)) hx hb dL_rope_1 (by decide) ?_
  refine lv_aload_n hx hb dL_rope_2 rfl (lv_at hl 0 rfl) ?_
  refine lv_iload_n hx hb dL_rope_3 rfl (lv_at hl 1 rfl) ?_
  refine lv_iload_n hx hb dL_rope_4 rfl (lv_at hl 2 rfl) ?_
  refine zr_catch (rest := [.int (0 : Int32), .ref (g.2.2 + 318)]) (As := [.int p0, .int p1]) X hP hS (cx_X7_rope (g := g) (nc := nc) (I := I) (J := J) (O := O) hnI l hlT (by decide) hf) cw_L_27 (zr_recv X hP (by omega) (zb_ceIo zk_0 (by decide)) rfl) rfl hl.1 (Nat.le_of_ble_eq_true rfl) ⟨Nat.le_of_ble_eq_true rfl, Nat.le_of_ble_eq_true rfl⟩ ⟨Nat.le_of_ble_eq_true rfl, Nat.le_of_ble_eq_true rfl⟩ dL_rope_5 rfl [] ⟨0, 10, 13, 25⟩ [⟨0, 10, 17, 19⟩] hT (fun z hz => nomatch hz) (by decide) (by decide) wl_1 wq_1 (fun H locs q hP hS => ?_)
  refine lv_astore (lv' := [(4, .ref q), (0, .ref (g.2.2 + 0)), (1, .int p0), (2, .int p1), (3, .ref (g.2.2 + 318))]) hx hb dL_rope_13 hl (by decide) rfl (fun ls hl => ?_)
  refine lv_iconst (v := (1 : Int32)) hx hb dL_rope_15 (by decide) ?_
  exact zr_iret X hr hP hS dL_rope_16
set_option maxHeartbeats 4000000 in
set_option maxRecDepth 100000 in
theorem hc2_L_rope {g : zb_G} {nc : Nat} (hnI : 306 ≤ nc) (hnO : 320 ≤ nc) (l : Launch) (hlT : l.stackTraces = false) {p0 : Int32} {p1 : Int32} {I J O : Mem} {r : Int32} (hf : fX7_rope p0 p1 I = some (2, r)) : zb_Ch l g nc yL_rope cL_rope 5 [(0, 10, 13, 25), (0, 10, 17, 19)] 8 168 1 6 [.ref (g.2.2 + 0), .int p0, .int p1, .ref (g.2.2 + 318)] (zb_ce g I J O) (some (.int (2 : Int32))) (zb_ce g I J O) := by
  refine zb_ofH (own := RL) (by decide +kernel) rfl (Nat.le_of_ble_eq_true rfl) ?_
  intro p e s m args below meth c ls X hr hnc hT hP hl
  have hx := X.1.1
  have hb := X.1.2.1
  have ho := X.1.2.2.2.1
  have hts := X.1.2.2.2.2
  have hS : va_S (zb_A g) s.heap s.heap [] := va_S.rf
  obtain ⟨H, hH⟩ : ∃ H, H = s.heap := ⟨_, rfl⟩
  obtain ⟨locs, hlocs⟩ : ∃ z : List Loc, z = [] := ⟨_, rfl⟩
  rw [← hH] at hP
  have hS : va_S (zb_A g) s.heap H locs := by rw [hH, hlocs]; exact hS
  show W p l e _ s m args below meth c s.heap [] 0 0 _ _
  rw [← hH, ← hlocs]
  have hl : lv_has ls 5 [(0, .ref (g.2.2 + 0)), (1, .int p0), (2, .int p1), (3, .ref (g.2.2 + 318))] := hl
  refine lv_aload_n hx hb dL_rope_0 rfl (lv_at hl 3 rfl) ?_
  refine lv_iconst (v := (0 : Int32)) hx hb dL_rope_1 (by decide) ?_
  refine lv_aload_n hx hb dL_rope_2 rfl (lv_at hl 0 rfl) ?_
  refine lv_iload_n hx hb dL_rope_3 rfl (lv_at hl 1 rfl) ?_
  refine lv_iload_n hx hb dL_rope_4 rfl (lv_at hl 2 rfl) ?_
  refine zr_catch (rest := [.int (0 : Int32), .ref (g.2.2 + 318)]) (As := [.int p0, .int p1]) X hP hS (cx_X7_rope (g := g) (nc := nc) (I := I) (J := J) (O := O) hnI l hlT (by decide) hf) cw_L_27 (zr_recv X hP (by omega) (zb_ceIo zk_0 (by decide)) rfl) rfl hl.1 (Nat.le_of_ble_eq_true rfl) ⟨Nat.le_of_ble_eq_true rfl, Nat.le_of_ble_eq_true rfl⟩ ⟨Nat.le_of_ble_eq_true rfl, Nat.le_of_ble_eq_true rfl⟩ dL_rope_5 rfl [⟨0, 10, 13, 25⟩] ⟨0, 10, 17, 19⟩ [] hT (fun z hz => Or.inr (by rw [List.mem_singleton.mp hz]; exact ⟨by decide, zb_en 1, hts _ wl_1, hnc.1⟩)) (by decide) (by decide) wl_2 wq_2 (fun H locs q hP hS => ?_)
  refine lv_astore (lv' := [(4, .ref q), (0, .ref (g.2.2 + 0)), (1, .int p0), (2, .int p1), (3, .ref (g.2.2 + 318))]) hx hb dL_rope_17 hl (by decide) rfl (fun ls hl => ?_)
  refine lv_iconst (v := (2 : Int32)) hx hb dL_rope_19 (by decide) ?_
  exact zr_iret X hr hP hS dL_rope_20
theorem cw_L_30 : zb_cwV RL 30 yX7_account cX7_account 2 (some .int) 1 := zb_cwV_of (zb_in 1075 (by decide +kernel) rfl) (zb_in 1076 (by decide +kernel) rfl) (zb_in 1077 (by decide +kernel) rfl) (zb_in 101 (by decide +kernel) rfl) (zb_in 1078 (by decide +kernel) rfl) (by decide +kernel)
set_option maxHeartbeats 4000000 in
set_option maxRecDepth 100000 in
theorem hn_L_account {g : zb_G} {nc : Nat} (hnI : 306 ≤ nc) (hnO : 320 ≤ nc) (l : Launch) {p0 : Int32} {I J O : Mem} {r : Int32} (hf : fX7_account p0 I = some (0, r)) : zb_Ch l g nc yL_account cL_account 4 [(0, 9, 12, 19)] 7 146 0 0 [.ref (g.2.2 + 0), .int p0, .ref (g.2.2 + 318)] (zb_ce g I J O) (some (.int 0)) (zb_ce g I J (wr O 318 0 r)) := by
  refine zb_ofH (own := RL) (by decide +kernel) rfl (Nat.le_of_ble_eq_true rfl) ?_
  intro p e s m args below meth c ls X hr hnc hT hP hl
  have hx := X.1.1
  have hb := X.1.2.1
  have ho := X.1.2.2.2.1
  have hts := X.1.2.2.2.2
  have hS : va_S (zb_A g) s.heap s.heap [] := va_S.rf
  obtain ⟨H, hH⟩ : ∃ H, H = s.heap := ⟨_, rfl⟩
  obtain ⟨locs, hlocs⟩ : ∃ z : List Loc, z = [] := ⟨_, rfl⟩
  rw [← hH] at hP
  have hS : va_S (zb_A g) s.heap H locs := by rw [hH, hlocs]; exact hS
  show W p l e _ s m args below meth c s.heap [] 0 0 _ _
  rw [← hH, ← hlocs]
  have hl : lv_has ls 4 [(0, .ref (g.2.2 + 0)), (1, .int p0), (2, .ref (g.2.2 + 318))] := hl
  refine lv_aload_n hx hb dL_account_0 rfl (lv_at hl 2 rfl) ?_
  refine lv_iconst (v := (0 : Int32)) hx hb dL_account_1 (by decide) ?_
  refine lv_aload_n hx hb dL_account_2 rfl (lv_at hl 0 rfl) ?_
  refine lv_iload_n hx hb dL_account_3 rfl (lv_at hl 1 rfl) ?_
  refine zr_cVi (rest := [.int (0 : Int32), .ref (g.2.2 + 318)]) (As := [.int p0]) X hP hS (ct_X7_account (g := g) (nc := nc) (I := I) (J := J) (O := O) hnI l hf) cw_L_30 (zr_recv X hP (by omega) (zb_ceIo zk_0 (by decide)) rfl) rfl hl.1 (Nat.le_of_ble_eq_true rfl) ⟨Nat.le_of_ble_eq_true rfl, Nat.le_of_ble_eq_true rfl⟩ ⟨Nat.le_of_ble_eq_true rfl, Nat.le_of_ble_eq_true rfl⟩ dL_account_4 rfl (fun H locs hP hS => ?_)
  refine lv_i2l hx hb dL_account_7 rfl ?_
  refine zr_last X hP hS hnO dL_account_8 (fun H locs hP hS => ?_)
  refine lv_goto (tgt := 15) hx hb dL_account_9 (by decide) ?_
  refine lv_iconst (v := (0 : Int32)) hx hb dL_account_15 (by decide) ?_
  exact zr_iret X hr hP hS dL_account_16
set_option maxHeartbeats 4000000 in
set_option maxRecDepth 100000 in
theorem hc1_L_account {g : zb_G} {nc : Nat} (hnI : 306 ≤ nc) (hnO : 320 ≤ nc) (l : Launch) (hlT : l.stackTraces = false) {p0 : Int32} {I J O : Mem} {r : Int32} (hf : fX7_account p0 I = some (2, r)) : zb_Ch l g nc yL_account cL_account 4 [(0, 9, 12, 19)] 7 146 1 6 [.ref (g.2.2 + 0), .int p0, .ref (g.2.2 + 318)] (zb_ce g I J O) (some (.int (1 : Int32))) (zb_ce g I J O) := by
  refine zb_ofH (own := RL) (by decide +kernel) rfl (Nat.le_of_ble_eq_true rfl) ?_
  intro p e s m args below meth c ls X hr hnc hT hP hl
  have hx := X.1.1
  have hb := X.1.2.1
  have ho := X.1.2.2.2.1
  have hts := X.1.2.2.2.2
  have hS : va_S (zb_A g) s.heap s.heap [] := va_S.rf
  obtain ⟨H, hH⟩ : ∃ H, H = s.heap := ⟨_, rfl⟩
  obtain ⟨locs, hlocs⟩ : ∃ z : List Loc, z = [] := ⟨_, rfl⟩
  rw [← hH] at hP
  have hS : va_S (zb_A g) s.heap H locs := by rw [hH, hlocs]; exact hS
  show W p l e _ s m args below meth c s.heap [] 0 0 _ _
  rw [← hH, ← hlocs]
  have hl : lv_has ls 4 [(0, .ref (g.2.2 + 0)), (1, .int p0), (2, .ref (g.2.2 + 318))] := hl
  refine lv_aload_n hx hb dL_account_0 rfl (lv_at hl 2 rfl) ?_
  refine lv_iconst (v := (0 : Int32)) hx hb dL_account_1 (by decide) ?_
  refine lv_aload_n hx hb dL_account_2 rfl (lv_at hl 0 rfl) ?_
  refine lv_iload_n hx hb dL_account_3 rfl (lv_at hl 1 rfl) ?_
  refine zr_catch (rest := [.int (0 : Int32), .ref (g.2.2 + 318)]) (As := [.int p0]) X hP hS (cx_X7_account (g := g) (nc := nc) (I := I) (J := J) (O := O) hnI l hlT (by decide) hf) cw_L_30 (zr_recv X hP (by omega) (zb_ceIo zk_0 (by decide)) rfl) rfl hl.1 (Nat.le_of_ble_eq_true rfl) ⟨Nat.le_of_ble_eq_true rfl, Nat.le_of_ble_eq_true rfl⟩ ⟨Nat.le_of_ble_eq_true rfl, Nat.le_of_ble_eq_true rfl⟩ dL_account_4 rfl [] ⟨0, 9, 12, 19⟩ [] hT (fun z hz => nomatch hz) (by decide) (by decide) wl_2 wq_2 (fun H locs q hP hS => ?_)
  refine lv_astore_n (lv' := [(3, .ref q), (0, .ref (g.2.2 + 0)), (1, .int p0), (2, .ref (g.2.2 + 318))]) hx hb dL_account_12 rfl hl (by decide) rfl (fun ls hl => ?_)
  refine lv_iconst (v := (1 : Int32)) hx hb dL_account_13 (by decide) ?_
  exact zr_iret X hr hP hS dL_account_14
theorem cw_L_33 : zb_cwV RL 33 yX7_hour cX7_hour 5 (some .int) 2 := zb_cwV_of (zb_in 1082 (by decide +kernel) rfl) (zb_in 1083 (by decide +kernel) rfl) (zb_in 1084 (by decide +kernel) rfl) (zb_in 101 (by decide +kernel) rfl) (zb_in 1085 (by decide +kernel) rfl) (by decide +kernel)
set_option maxHeartbeats 4000000 in
set_option maxRecDepth 100000 in
theorem hn_L_hour {g : zb_G} {nc : Nat} (hnI : 306 ≤ nc) (hnO : 320 ≤ nc) (l : Launch) {p0 : Int32} {p1 : Int32} {I J O : Mem} {r : Int32} (hf : fX7_hour p0 p1 I = some (0, r)) : zb_Ch l g nc yL_hour cL_hour 5 [(0, 10, 13, 25), (0, 10, 17, 19)] 8 170 0 0 [.ref (g.2.2 + 0), .int p0, .int p1, .ref (g.2.2 + 318)] (zb_ce g I J O) (some (.int 0)) (zb_ce g I J (wr O 318 0 r)) := by
  refine zb_ofH (own := RL) (by decide +kernel) rfl (Nat.le_of_ble_eq_true rfl) ?_
  intro p e s m args below meth c ls X hr hnc hT hP hl
  have hx := X.1.1
  have hb := X.1.2.1
  have ho := X.1.2.2.2.1
  have hts := X.1.2.2.2.2
  have hS : va_S (zb_A g) s.heap s.heap [] := va_S.rf
  obtain ⟨H, hH⟩ : ∃ H, H = s.heap := ⟨_, rfl⟩
  obtain ⟨locs, hlocs⟩ : ∃ z : List Loc, z = [] := ⟨_, rfl⟩
  rw [← hH] at hP
  have hS : va_S (zb_A g) s.heap H locs := by rw [hH, hlocs]; exact hS
  show W p l e _ s m args below meth c s.heap [] 0 0 _ _
  rw [← hH, ← hlocs]
  have hl : lv_has ls 5 [(0, .ref (g.2.2 + 0)), (1, .int p0), (2, .int p1), (3, .ref (g.2.2 + 318))] := hl
  refine lv_aload_n hx hb dL_hour_0 rfl (lv_at hl 3 rfl) ?_
  refine lv_iconst (v := (0 : Int32)) hx hb dL_hour_1 (by decide) ?_
  refine lv_aload_n hx hb dL_hour_2 rfl (lv_at hl 0 rfl) ?_
  refine lv_iload_n hx hb dL_hour_3 rfl (lv_at hl 1 rfl) ?_
  refine lv_iload_n hx hb dL_hour_4 rfl (lv_at hl 2 rfl) ?_
  refine zr_cVi (rest := [.int (0 : Int32), .ref (g.2.2 + 318)]) (As := [.int p0, .int p1]) X hP hS (ct_X7_hour (g := g) (nc := nc) (I := I) (J := J) (O := O) hnI l hf) cw_L_33 (zr_recv X hP (by omega) (zb_ceIo zk_0 (by decide)) rfl) rfl hl.1 (Nat.le_of_ble_eq_true rfl) ⟨Nat.le_of_ble_eq_true rfl, Nat.le_of_ble_eq_true rfl⟩ ⟨Nat.le_of_ble_eq_true rfl, Nat.le_of_ble_eq_true rfl⟩ dL_hour_5 rfl (fun H locs hP hS => ?_)
  refine lv_i2l hx hb dL_hour_8 rfl ?_
  refine zr_last X hP hS hnO dL_hour_9 (fun H locs hP hS => ?_)
  refine lv_goto (tgt := 21) hx hb dL_hour_10 (by decide) ?_
  refine lv_iconst (v := (0 : Int32)) hx hb dL_hour_21 (by decide) ?_
  exact zr_iret X hr hP hS dL_hour_22
set_option maxHeartbeats 4000000 in
set_option maxRecDepth 100000 in
theorem hc1_L_hour {g : zb_G} {nc : Nat} (hnI : 306 ≤ nc) (hnO : 320 ≤ nc) (l : Launch) (hlT : l.stackTraces = false) {p0 : Int32} {p1 : Int32} {I J O : Mem} {r : Int32} (hf : fX7_hour p0 p1 I = some (1, r)) : zb_Ch l g nc yL_hour cL_hour 5 [(0, 10, 13, 25), (0, 10, 17, 19)] 8 170 1 6 [.ref (g.2.2 + 0), .int p0, .int p1, .ref (g.2.2 + 318)] (zb_ce g I J O) (some (.int (1 : Int32))) (zb_ce g I J O) := by
  refine zb_ofH (own := RL) (by decide +kernel) rfl (Nat.le_of_ble_eq_true rfl) ?_
  intro p e s m args below meth c ls X hr hnc hT hP hl
  have hx := X.1.1
  have hb := X.1.2.1
  have ho := X.1.2.2.2.1
  have hts := X.1.2.2.2.2
  have hS : va_S (zb_A g) s.heap s.heap [] := va_S.rf
  obtain ⟨H, hH⟩ : ∃ H, H = s.heap := ⟨_, rfl⟩
  obtain ⟨locs, hlocs⟩ : ∃ z : List Loc, z = [] := ⟨_, rfl⟩
  rw [← hH] at hP
  have hS : va_S (zb_A g) s.heap H locs := by rw [hH, hlocs]; exact hS
  show W p l e _ s m args below meth c s.heap [] 0 0 _ _
  rw [← hH, ← hlocs]
  have hl : lv_has ls 5 [(0, .ref (g.2.2 + 0)), (1, .int p0), (2, .int p1), (3, .ref (g.2.2 + 318))] := hl
  refine lv_aload_n hx hb dL_hour_0 rfl (lv_at hl 3 rfl) ?_
  refine lv_iconst (v := (0 : Int32)) hx hb dL_hour_1 (by decide) ?_
  refine lv_aload_n hx hb dL_hour_2 rfl (lv_at hl 0 rfl) ?_
  refine lv_iload_n hx hb dL_hour_3 rfl (lv_at hl 1 rfl) ?_
  refine lv_iload_n hx hb dL_hour_4 rfl (lv_at hl 2 rfl) ?_
  refine zr_catch (rest := [.int (0 : Int32), .ref (g.2.2 + 318)]) (As := [.int p0, .int p1]) X hP hS (cx_X7_hour (g := g) (nc := nc) (I := I) (J := J) (O := O) hnI l hlT (by decide) hf) cw_L_33 (zr_recv X hP (by omega) (zb_ceIo zk_0 (by decide)) rfl) rfl hl.1 (Nat.le_of_ble_eq_true rfl) ⟨Nat.le_of_ble_eq_true rfl, Nat.le_of_ble_eq_true rfl⟩ ⟨Nat.le_of_ble_eq_true rfl, Nat.le_of_ble_eq_true rfl⟩ dL_hour_5 rfl [] ⟨0, 10, 13, 25⟩ [⟨0, 10, 17, 19⟩] hT (fun z hz => nomatch hz) (by decide) (by decide) wl_1 wq_1 (fun H locs q hP hS => ?_)
  refine lv_astore (lv' := [(4, .ref q), (0, .ref (g.2.2 + 0)), (1, .int p0), (2, .int p1), (3, .ref (g.2.2 + 318))]) hx hb dL_hour_13 hl (by decide) rfl (fun ls hl => ?_)
  refine lv_iconst (v := (1 : Int32)) hx hb dL_hour_15 (by decide) ?_
  exact zr_iret X hr hP hS dL_hour_16
set_option maxHeartbeats 4000000 in
set_option maxRecDepth 100000 in
theorem hc2_L_hour {g : zb_G} {nc : Nat} (hnI : 306 ≤ nc) (hnO : 320 ≤ nc) (l : Launch) (hlT : l.stackTraces = false) {p0 : Int32} {p1 : Int32} {I J O : Mem} {r : Int32} (hf : fX7_hour p0 p1 I = some (2, r)) : zb_Ch l g nc yL_hour cL_hour 5 [(0, 10, 13, 25), (0, 10, 17, 19)] 8 170 1 6 [.ref (g.2.2 + 0), .int p0, .int p1, .ref (g.2.2 + 318)] (zb_ce g I J O) (some (.int (2 : Int32))) (zb_ce g I J O) := by
  refine zb_ofH (own := RL) (by decide +kernel) rfl (Nat.le_of_ble_eq_true rfl) ?_
  intro p e s m args below meth c ls X hr hnc hT hP hl
  have hx := X.1.1
  have hb := X.1.2.1
  have ho := X.1.2.2.2.1
  have hts := X.1.2.2.2.2
  have hS : va_S (zb_A g) s.heap s.heap [] := va_S.rf
  obtain ⟨H, hH⟩ : ∃ H, H = s.heap := ⟨_, rfl⟩
  obtain ⟨locs, hlocs⟩ : ∃ z : List Loc, z = [] := ⟨_, rfl⟩
  rw [← hH] at hP
  have hS : va_S (zb_A g) s.heap H locs := by rw [hH, hlocs]; exact hS
  show W p l e _ s m args below meth c s.heap [] 0 0 _ _
  rw [← hH, ← hlocs]
  have hl : lv_has ls 5 [(0, .ref (g.2.2 + 0)), (1, .int p0), (2, .int p1), (3, .ref (g.2.2 + 318))] := hl
  refine lv_aload_n hx hb dL_hour_0 rfl (lv_at hl 3 rfl) ?_
  refine lv_iconst (v := (0 : Int32)) hx hb dL_hour_1 (by decide) ?_
  refine lv_aload_n hx hb dL_hour_2 rfl (lv_at hl 0 rfl) ?_
  refine lv_iload_n hx hb dL_hour_3 rfl (lv_at hl 1 rfl) ?_
  refine lv_iload_n hx hb dL_hour_4 rfl (lv_at hl 2 rfl) ?_
  refine zr_catch (rest := [.int (0 : Int32), .ref (g.2.2 + 318)]) (As := [.int p0, .int p1]) X hP hS (cx_X7_hour (g := g) (nc := nc) (I := I) (J := J) (O := O) hnI l hlT (by decide) hf) cw_L_33 (zr_recv X hP (by omega) (zb_ceIo zk_0 (by decide)) rfl) rfl hl.1 (Nat.le_of_ble_eq_true rfl) ⟨Nat.le_of_ble_eq_true rfl, Nat.le_of_ble_eq_true rfl⟩ ⟨Nat.le_of_ble_eq_true rfl, Nat.le_of_ble_eq_true rfl⟩ dL_hour_5 rfl [⟨0, 10, 13, 25⟩] ⟨0, 10, 17, 19⟩ [] hT (fun z hz => Or.inr (by rw [List.mem_singleton.mp hz]; exact ⟨by decide, zb_en 1, hts _ wl_1, hnc.1⟩)) (by decide) (by decide) wl_2 wq_2 (fun H locs q hP hS => ?_)
  refine lv_astore (lv' := [(4, .ref q), (0, .ref (g.2.2 + 0)), (1, .int p0), (2, .int p1), (3, .ref (g.2.2 + 318))]) hx hb dL_hour_17 hl (by decide) rfl (fun ls hl => ?_)
  refine lv_iconst (v := (2 : Int32)) hx hb dL_hour_19 (by decide) ?_
  exact zr_iret X hr hP hS dL_hour_20
theorem cw_L_36 : zb_cwV RL 36 yX7_level cX7_level 3 (some .int) 1 := zb_cwV_of (zb_in 1095 (by decide +kernel) rfl) (zb_in 1096 (by decide +kernel) rfl) (zb_in 1097 (by decide +kernel) rfl) (zb_in 101 (by decide +kernel) rfl) (zb_in 1098 (by decide +kernel) rfl) (by decide +kernel)
set_option maxHeartbeats 4000000 in
set_option maxRecDepth 100000 in
theorem hn_L_level {g : zb_G} {nc : Nat} (hnI : 306 ≤ nc) (hnO : 320 ≤ nc) (l : Launch) {p0 : Int32} {I J O : Mem} {r : Int32} (hf : fX7_level p0 I = some (0, r)) : zb_Ch l g nc yL_level cL_level 4 [(0, 9, 12, 25), (0, 9, 15, 39)] 8 168 0 0 [.ref (g.2.2 + 0), .int p0, .ref (g.2.2 + 318)] (zb_ce g I J O) (some (.int 0)) (zb_ce g I J (wr O 318 0 r)) := by
  refine zb_ofH (own := RL) (by decide +kernel) rfl (Nat.le_of_ble_eq_true rfl) ?_
  intro p e s m args below meth c ls X hr hnc hT hP hl
  have hx := X.1.1
  have hb := X.1.2.1
  have ho := X.1.2.2.2.1
  have hts := X.1.2.2.2.2
  have hS : va_S (zb_A g) s.heap s.heap [] := va_S.rf
  obtain ⟨H, hH⟩ : ∃ H, H = s.heap := ⟨_, rfl⟩
  obtain ⟨locs, hlocs⟩ : ∃ z : List Loc, z = [] := ⟨_, rfl⟩
  rw [← hH] at hP
  have hS : va_S (zb_A g) s.heap H locs := by rw [hH, hlocs]; exact hS
  show W p l e _ s m args below meth c s.heap [] 0 0 _ _
  rw [← hH, ← hlocs]
  have hl : lv_has ls 4 [(0, .ref (g.2.2 + 0)), (1, .int p0), (2, .ref (g.2.2 + 318))] := hl
  refine lv_aload_n hx hb dL_level_0 rfl (lv_at hl 2 rfl) ?_
  refine lv_iconst (v := (0 : Int32)) hx hb dL_level_1 (by decide) ?_
  refine lv_aload_n hx hb dL_level_2 rfl (lv_at hl 0 rfl) ?_
  refine lv_iload_n hx hb dL_level_3 rfl (lv_at hl 1 rfl) ?_
  refine zr_cVi (rest := [.int (0 : Int32), .ref (g.2.2 + 318)]) (As := [.int p0]) X hP hS (ct_X7_level (g := g) (nc := nc) (I := I) (J := J) (O := O) hnI l hf) cw_L_36 (zr_recv X hP (by omega) (zb_ceIo zk_0 (by decide)) rfl) rfl hl.1 (Nat.le_of_ble_eq_true rfl) ⟨Nat.le_of_ble_eq_true rfl, Nat.le_of_ble_eq_true rfl⟩ ⟨Nat.le_of_ble_eq_true rfl, Nat.le_of_ble_eq_true rfl⟩ dL_level_4 rfl (fun H locs hP hS => ?_)
  refine lv_i2l hx hb dL_level_7 rfl ?_
  refine zr_last X hP hS hnO dL_level_8 (fun H locs hP hS => ?_)
  refine lv_goto (tgt := 18) hx hb dL_level_9 (by decide) ?_
  refine lv_iconst (v := (0 : Int32)) hx hb dL_level_18 (by decide) ?_
  exact zr_iret X hr hP hS dL_level_19
set_option maxHeartbeats 4000000 in
set_option maxRecDepth 100000 in
theorem hc1_L_level {g : zb_G} {nc : Nat} (hnI : 306 ≤ nc) (hnO : 320 ≤ nc) (l : Launch) (hlT : l.stackTraces = false) {p0 : Int32} {I J O : Mem} {r : Int32} (hf : fX7_level p0 I = some (1, r)) : zb_Ch l g nc yL_level cL_level 4 [(0, 9, 12, 25), (0, 9, 15, 39)] 8 168 1 6 [.ref (g.2.2 + 0), .int p0, .ref (g.2.2 + 318)] (zb_ce g I J O) (some (.int (1 : Int32))) (zb_ce g I J O) := by
  refine zb_ofH (own := RL) (by decide +kernel) rfl (Nat.le_of_ble_eq_true rfl) ?_
  intro p e s m args below meth c ls X hr hnc hT hP hl
  have hx := X.1.1
  have hb := X.1.2.1
  have ho := X.1.2.2.2.1
  have hts := X.1.2.2.2.2
  have hS : va_S (zb_A g) s.heap s.heap [] := va_S.rf
  obtain ⟨H, hH⟩ : ∃ H, H = s.heap := ⟨_, rfl⟩
  obtain ⟨locs, hlocs⟩ : ∃ z : List Loc, z = [] := ⟨_, rfl⟩
  rw [← hH] at hP
  have hS : va_S (zb_A g) s.heap H locs := by rw [hH, hlocs]; exact hS
  show W p l e _ s m args below meth c s.heap [] 0 0 _ _
  rw [← hH, ← hlocs]
  have hl : lv_has ls 4 [(0, .ref (g.2.2 + 0)), (1, .int p0), (2, .ref (g.2.2 + 318))] := hl
  refine lv_aload_n hx hb dL_level_0 rfl (lv_at hl 2 rfl) ?_
  refine lv_iconst (v := (0 : Int32)) hx hb dL_level_1 (by decide) ?_
  refine lv_aload_n hx hb dL_level_2 rfl (lv_at hl 0 rfl) ?_
  refine lv_iload_n hx hb dL_level_3 rfl (lv_at hl 1 rfl) ?_
  refine zr_catch (rest := [.int (0 : Int32), .ref (g.2.2 + 318)]) (As := [.int p0]) X hP hS (cx_X7_level (g := g) (nc := nc) (I := I) (J := J) (O := O) hnI l hlT (by decide) hf) cw_L_36 (zr_recv X hP (by omega) (zb_ceIo zk_0 (by decide)) rfl) rfl hl.1 (Nat.le_of_ble_eq_true rfl) ⟨Nat.le_of_ble_eq_true rfl, Nat.le_of_ble_eq_true rfl⟩ ⟨Nat.le_of_ble_eq_true rfl, Nat.le_of_ble_eq_true rfl⟩ dL_level_4 rfl [] ⟨0, 9, 12, 25⟩ [⟨0, 9, 15, 39⟩] hT (fun z hz => nomatch hz) (by decide) (by decide) wl_1 wq_1 (fun H locs q hP hS => ?_)
  refine lv_astore_n (lv' := [(3, .ref q), (0, .ref (g.2.2 + 0)), (1, .int p0), (2, .ref (g.2.2 + 318))]) hx hb dL_level_12 rfl hl (by decide) rfl (fun ls hl => ?_)
  refine lv_iconst (v := (1 : Int32)) hx hb dL_level_13 (by decide) ?_
  exact zr_iret X hr hP hS dL_level_14
set_option maxHeartbeats 4000000 in
set_option maxRecDepth 100000 in
theorem hc2_L_level {g : zb_G} {nc : Nat} (hnI : 306 ≤ nc) (hnO : 320 ≤ nc) (l : Launch) (hlT : l.stackTraces = false) {p0 : Int32} {I J O : Mem} {r : Int32} (hf : fX7_level p0 I = some (4, r)) : zb_Ch l g nc yL_level cL_level 4 [(0, 9, 12, 25), (0, 9, 15, 39)] 8 168 1 6 [.ref (g.2.2 + 0), .int p0, .ref (g.2.2 + 318)] (zb_ce g I J O) (some (.int (2 : Int32))) (zb_ce g I J O) := by
  refine zb_ofH (own := RL) (by decide +kernel) rfl (Nat.le_of_ble_eq_true rfl) ?_
  intro p e s m args below meth c ls X hr hnc hT hP hl
  have hx := X.1.1
  have hb := X.1.2.1
  have ho := X.1.2.2.2.1
  have hts := X.1.2.2.2.2
  have hS : va_S (zb_A g) s.heap s.heap [] := va_S.rf
  obtain ⟨H, hH⟩ : ∃ H, H = s.heap := ⟨_, rfl⟩
  obtain ⟨locs, hlocs⟩ : ∃ z : List Loc, z = [] := ⟨_, rfl⟩
  rw [← hH] at hP
  have hS : va_S (zb_A g) s.heap H locs := by rw [hH, hlocs]; exact hS
  show W p l e _ s m args below meth c s.heap [] 0 0 _ _
  rw [← hH, ← hlocs]
  have hl : lv_has ls 4 [(0, .ref (g.2.2 + 0)), (1, .int p0), (2, .ref (g.2.2 + 318))] := hl
  refine lv_aload_n hx hb dL_level_0 rfl (lv_at hl 2 rfl) ?_
  refine lv_iconst (v := (0 : Int32)) hx hb dL_level_1 (by decide) ?_
  refine lv_aload_n hx hb dL_level_2 rfl (lv_at hl 0 rfl) ?_
  refine lv_iload_n hx hb dL_level_3 rfl (lv_at hl 1 rfl) ?_
  refine zr_catch (rest := [.int (0 : Int32), .ref (g.2.2 + 318)]) (As := [.int p0]) X hP hS (cx_X7_level (g := g) (nc := nc) (I := I) (J := J) (O := O) hnI l hlT (by decide) hf) cw_L_36 (zr_recv X hP (by omega) (zb_ceIo zk_0 (by decide)) rfl) rfl hl.1 (Nat.le_of_ble_eq_true rfl) ⟨Nat.le_of_ble_eq_true rfl, Nat.le_of_ble_eq_true rfl⟩ ⟨Nat.le_of_ble_eq_true rfl, Nat.le_of_ble_eq_true rfl⟩ dL_level_4 rfl [⟨0, 9, 12, 25⟩] ⟨0, 9, 15, 39⟩ [] hT (fun z hz => Or.inr (by rw [List.mem_singleton.mp hz]; exact ⟨by decide, zb_en 1, hts _ wl_1, hnc.2.2⟩)) (by decide) (by decide) wl_4 wq_4 (fun H locs q hP hS => ?_)
  refine lv_astore_n (lv' := [(3, .ref q), (0, .ref (g.2.2 + 0)), (1, .int p0), (2, .ref (g.2.2 + 318))]) hx hb dL_level_15 rfl hl (by decide) rfl (fun ls hl => ?_)
  refine lv_iconst (v := (2 : Int32)) hx hb dL_level_16 (by decide) ?_
  exact zr_iret X hr hP hS dL_level_17
theorem cw_L_41 : zb_cwV RL 41 yX7_value cX7_value 4 (some .int) 2 := zb_cwV_of (zb_in 1118 (by decide +kernel) rfl) (zb_in 1119 (by decide +kernel) rfl) (zb_in 1120 (by decide +kernel) rfl) (zb_in 101 (by decide +kernel) rfl) (zb_in 1121 (by decide +kernel) rfl) (by decide +kernel)
set_option maxHeartbeats 4000000 in
set_option maxRecDepth 100000 in
theorem hn_L_value {g : zb_G} {nc : Nat} (hnI : 306 ≤ nc) (hnO : 320 ≤ nc) (l : Launch) {p0 : Int32} {p1 : Int32} {I J O : Mem} {r : Int32} (hf : fX7_value p0 p1 I = some (0, r)) : zb_Ch l g nc yL_value cL_value 5 [(0, 10, 13, 25), (0, 10, 17, 39)] 8 169 0 0 [.ref (g.2.2 + 0), .int p0, .int p1, .ref (g.2.2 + 318)] (zb_ce g I J O) (some (.int 0)) (zb_ce g I J (wr O 318 0 r)) := by
  refine zb_ofH (own := RL) (by decide +kernel) rfl (Nat.le_of_ble_eq_true rfl) ?_
  intro p e s m args below meth c ls X hr hnc hT hP hl
  have hx := X.1.1
  have hb := X.1.2.1
  have ho := X.1.2.2.2.1
  have hts := X.1.2.2.2.2
  have hS : va_S (zb_A g) s.heap s.heap [] := va_S.rf
  obtain ⟨H, hH⟩ : ∃ H, H = s.heap := ⟨_, rfl⟩
  obtain ⟨locs, hlocs⟩ : ∃ z : List Loc, z = [] := ⟨_, rfl⟩
  rw [← hH] at hP
  have hS : va_S (zb_A g) s.heap H locs := by rw [hH, hlocs]; exact hS
  show W p l e _ s m args below meth c s.heap [] 0 0 _ _
  rw [← hH, ← hlocs]
  have hl : lv_has ls 5 [(0, .ref (g.2.2 + 0)), (1, .int p0), (2, .int p1), (3, .ref (g.2.2 + 318))] := hl
  refine lv_aload_n hx hb dL_value_0 rfl (lv_at hl 3 rfl) ?_
  refine lv_iconst (v := (0 : Int32)) hx hb dL_value_1 (by decide) ?_
  refine lv_aload_n hx hb dL_value_2 rfl (lv_at hl 0 rfl) ?_
  refine lv_iload_n hx hb dL_value_3 rfl (lv_at hl 1 rfl) ?_
  refine lv_iload_n hx hb dL_value_4 rfl (lv_at hl 2 rfl) ?_
  refine zr_cVi (rest := [.int (0 : Int32), .ref (g.2.2 + 318)]) (As := [.int p0, .int p1]) X hP hS (ct_X7_value (g := g) (nc := nc) (I := I) (J := J) (O := O) hnI l hf) cw_L_41 (zr_recv X hP (by omega) (zb_ceIo zk_0 (by decide)) rfl) rfl hl.1 (Nat.le_of_ble_eq_true rfl) ⟨Nat.le_of_ble_eq_true rfl, Nat.le_of_ble_eq_true rfl⟩ ⟨Nat.le_of_ble_eq_true rfl, Nat.le_of_ble_eq_true rfl⟩ dL_value_5 rfl (fun H locs hP hS => ?_)
  refine lv_i2l hx hb dL_value_8 rfl ?_
  refine zr_last X hP hS hnO dL_value_9 (fun H locs hP hS => ?_)
  refine lv_goto (tgt := 21) hx hb dL_value_10 (by decide) ?_
  refine lv_iconst (v := (0 : Int32)) hx hb dL_value_21 (by decide) ?_
  exact zr_iret X hr hP hS dL_value_22
set_option maxHeartbeats 4000000 in
set_option maxRecDepth 100000 in
theorem hc1_L_value {g : zb_G} {nc : Nat} (hnI : 306 ≤ nc) (hnO : 320 ≤ nc) (l : Launch) (hlT : l.stackTraces = false) {p0 : Int32} {p1 : Int32} {I J O : Mem} {r : Int32} (hf : fX7_value p0 p1 I = some (1, r)) : zb_Ch l g nc yL_value cL_value 5 [(0, 10, 13, 25), (0, 10, 17, 39)] 8 169 1 6 [.ref (g.2.2 + 0), .int p0, .int p1, .ref (g.2.2 + 318)] (zb_ce g I J O) (some (.int (1 : Int32))) (zb_ce g I J O) := by
  refine zb_ofH (own := RL) (by decide +kernel) rfl (Nat.le_of_ble_eq_true rfl) ?_
  intro p e s m args below meth c ls X hr hnc hT hP hl
  have hx := X.1.1
  have hb := X.1.2.1
  have ho := X.1.2.2.2.1
  have hts := X.1.2.2.2.2
  have hS : va_S (zb_A g) s.heap s.heap [] := va_S.rf
  obtain ⟨H, hH⟩ : ∃ H, H = s.heap := ⟨_, rfl⟩
  obtain ⟨locs, hlocs⟩ : ∃ z : List Loc, z = [] := ⟨_, rfl⟩
  rw [← hH] at hP
  have hS : va_S (zb_A g) s.heap H locs := by rw [hH, hlocs]; exact hS
  show W p l e _ s m args below meth c s.heap [] 0 0 _ _
  rw [← hH, ← hlocs]
  have hl : lv_has ls 5 [(0, .ref (g.2.2 + 0)), (1, .int p0), (2, .int p1), (3, .ref (g.2.2 + 318))] := hl
  refine lv_aload_n hx hb dL_value_0 rfl (lv_at hl 3 rfl) ?_
  refine lv_iconst (v := (0 : Int32)) hx hb dL_value_1 (by decide) ?_
  refine lv_aload_n hx hb dL_value_2 rfl (lv_at hl 0 rfl) ?_
  refine lv_iload_n hx hb dL_value_3 rfl (lv_at hl 1 rfl) ?_
  refine lv_iload_n hx hb dL_value_4 rfl (lv_at hl 2 rfl) ?_
  refine zr_catch (rest := [.int (0 : Int32), .ref (g.2.2 + 318)]) (As := [.int p0, .int p1]) X hP hS (cx_X7_value (g := g) (nc := nc) (I := I) (J := J) (O := O) hnI l hlT (by decide) hf) cw_L_41 (zr_recv X hP (by omega) (zb_ceIo zk_0 (by decide)) rfl) rfl hl.1 (Nat.le_of_ble_eq_true rfl) ⟨Nat.le_of_ble_eq_true rfl, Nat.le_of_ble_eq_true rfl⟩ ⟨Nat.le_of_ble_eq_true rfl, Nat.le_of_ble_eq_true rfl⟩ dL_value_5 rfl [] ⟨0, 10, 13, 25⟩ [⟨0, 10, 17, 39⟩] hT (fun z hz => nomatch hz) (by decide) (by decide) wl_1 wq_1 (fun H locs q hP hS => ?_)
  refine lv_astore (lv' := [(4, .ref q), (0, .ref (g.2.2 + 0)), (1, .int p0), (2, .int p1), (3, .ref (g.2.2 + 318))]) hx hb dL_value_13 hl (by decide) rfl (fun ls hl => ?_)
  refine lv_iconst (v := (1 : Int32)) hx hb dL_value_15 (by decide) ?_
  exact zr_iret X hr hP hS dL_value_16
set_option maxHeartbeats 4000000 in
set_option maxRecDepth 100000 in
theorem hc2_L_value {g : zb_G} {nc : Nat} (hnI : 306 ≤ nc) (hnO : 320 ≤ nc) (l : Launch) (hlT : l.stackTraces = false) {p0 : Int32} {p1 : Int32} {I J O : Mem} {r : Int32} (hf : fX7_value p0 p1 I = some (4, r)) : zb_Ch l g nc yL_value cL_value 5 [(0, 10, 13, 25), (0, 10, 17, 39)] 8 169 1 6 [.ref (g.2.2 + 0), .int p0, .int p1, .ref (g.2.2 + 318)] (zb_ce g I J O) (some (.int (2 : Int32))) (zb_ce g I J O) := by
  refine zb_ofH (own := RL) (by decide +kernel) rfl (Nat.le_of_ble_eq_true rfl) ?_
  intro p e s m args below meth c ls X hr hnc hT hP hl
  have hx := X.1.1
  have hb := X.1.2.1
  have ho := X.1.2.2.2.1
  have hts := X.1.2.2.2.2
  have hS : va_S (zb_A g) s.heap s.heap [] := va_S.rf
  obtain ⟨H, hH⟩ : ∃ H, H = s.heap := ⟨_, rfl⟩
  obtain ⟨locs, hlocs⟩ : ∃ z : List Loc, z = [] := ⟨_, rfl⟩
  rw [← hH] at hP
  have hS : va_S (zb_A g) s.heap H locs := by rw [hH, hlocs]; exact hS
  show W p l e _ s m args below meth c s.heap [] 0 0 _ _
  rw [← hH, ← hlocs]
  have hl : lv_has ls 5 [(0, .ref (g.2.2 + 0)), (1, .int p0), (2, .int p1), (3, .ref (g.2.2 + 318))] := hl
  refine lv_aload_n hx hb dL_value_0 rfl (lv_at hl 3 rfl) ?_
  refine lv_iconst (v := (0 : Int32)) hx hb dL_value_1 (by decide) ?_
  refine lv_aload_n hx hb dL_value_2 rfl (lv_at hl 0 rfl) ?_
  refine lv_iload_n hx hb dL_value_3 rfl (lv_at hl 1 rfl) ?_
  refine lv_iload_n hx hb dL_value_4 rfl (lv_at hl 2 rfl) ?_
  refine zr_catch (rest := [.int (0 : Int32), .ref (g.2.2 + 318)]) (As := [.int p0, .int p1]) X hP hS (cx_X7_value (g := g) (nc := nc) (I := I) (J := J) (O := O) hnI l hlT (by decide) hf) cw_L_41 (zr_recv X hP (by omega) (zb_ceIo zk_0 (by decide)) rfl) rfl hl.1 (Nat.le_of_ble_eq_true rfl) ⟨Nat.le_of_ble_eq_true rfl, Nat.le_of_ble_eq_true rfl⟩ ⟨Nat.le_of_ble_eq_true rfl, Nat.le_of_ble_eq_true rfl⟩ dL_value_5 rfl [⟨0, 10, 13, 25⟩] ⟨0, 10, 17, 39⟩ [] hT (fun z hz => Or.inr (by rw [List.mem_singleton.mp hz]; exact ⟨by decide, zb_en 1, hts _ wl_1, hnc.2.2⟩)) (by decide) (by decide) wl_4 wq_4 (fun H locs q hP hS => ?_)
  refine lv_astore (lv' := [(4, .ref q), (0, .ref (g.2.2 + 0)), (1, .int p0), (2, .int p1), (3, .ref (g.2.2 + 318))]) hx hb dL_value_17 hl (by decide) rfl (fun ls hl => ?_)
  refine lv_iconst (v := (2 : Int32)) hx hb dL_value_19 (by decide) ?_
  exact zr_iret X hr hP hS dL_value_20
theorem cw_L_44 : zb_cwV RL 44 yX7_why cX7_why 5 (some .int) 2 := zb_cwV_of (zb_in 1126 (by decide +kernel) rfl) (zb_in 1127 (by decide +kernel) rfl) (zb_in 1128 (by decide +kernel) rfl) (zb_in 101 (by decide +kernel) rfl) (zb_in 1129 (by decide +kernel) rfl) (by decide +kernel)
set_option maxHeartbeats 4000000 in
set_option maxRecDepth 100000 in
theorem hn_L_why {g : zb_G} {nc : Nat} (hnI : 306 ≤ nc) (hnO : 320 ≤ nc) (l : Launch) {p0 : Int32} {p1 : Int32} {I J O : Mem} {r : Int32} (hf : fX7_why p0 p1 I = some (0, r)) : zb_Ch l g nc yL_why cL_why 5 [(0, 10, 13, 25)] 8 170 0 0 [.ref (g.2.2 + 0), .int p0, .int p1, .ref (g.2.2 + 318)] (zb_ce g I J O) (some (.int 0)) (zb_ce g I J (wr O 318 0 r)) := by
  refine zb_ofH (own := RL) (by decide +kernel) rfl (Nat.le_of_ble_eq_true rfl) ?_
  intro p e s m args below meth c ls X hr hnc hT hP hl
  have hx := X.1.1
  have hb := X.1.2.1
  have ho := X.1.2.2.2.1
  have hts := X.1.2.2.2.2
  have hS : va_S (zb_A g) s.heap s.heap [] := va_S.rf
  obtain ⟨H, hH⟩ : ∃ H, H = s.heap := ⟨_, rfl⟩
  obtain ⟨locs, hlocs⟩ : ∃ z : List Loc, z = [] := ⟨_, rfl⟩
  rw [← hH] at hP
  have hS : va_S (zb_A g) s.heap H locs := by rw [hH, hlocs]; exact hS
  show W p l e _ s m args below meth c s.heap [] 0 0 _ _
  rw [← hH, ← hlocs]
  have hl : lv_has ls 5 [(0, .ref (g.2.2 + 0)), (1, .int p0), (2, .int p1), (3, .ref (g.2.2 + 318))] := hl
  refine lv_aload_n hx hb dL_why_0 rfl (lv_at hl 3 rfl) ?_
  refine lv_iconst (v := (0 : Int32)) hx hb dL_why_1 (by decide) ?_
  refine lv_aload_n hx hb dL_why_2 rfl (lv_at hl 0 rfl) ?_
  refine lv_iload_n hx hb dL_why_3 rfl (lv_at hl 1 rfl) ?_
  refine lv_iload_n hx hb dL_why_4 rfl (lv_at hl 2 rfl) ?_
  refine zr_cVi (rest := [.int (0 : Int32), .ref (g.2.2 + 318)]) (As := [.int p0, .int p1]) X hP hS (ct_X7_why (g := g) (nc := nc) (I := I) (J := J) (O := O) hnI l hf) cw_L_44 (zr_recv X hP (by omega) (zb_ceIo zk_0 (by decide)) rfl) rfl hl.1 (Nat.le_of_ble_eq_true rfl) ⟨Nat.le_of_ble_eq_true rfl, Nat.le_of_ble_eq_true rfl⟩ ⟨Nat.le_of_ble_eq_true rfl, Nat.le_of_ble_eq_true rfl⟩ dL_why_5 rfl (fun H locs hP hS => ?_)
  refine lv_i2l hx hb dL_why_8 rfl ?_
  refine zr_last X hP hS hnO dL_why_9 (fun H locs hP hS => ?_)
  refine lv_goto (tgt := 17) hx hb dL_why_10 (by decide) ?_
  refine lv_iconst (v := (0 : Int32)) hx hb dL_why_17 (by decide) ?_
  exact zr_iret X hr hP hS dL_why_18
set_option maxHeartbeats 4000000 in
set_option maxRecDepth 100000 in
theorem hc1_L_why {g : zb_G} {nc : Nat} (hnI : 306 ≤ nc) (hnO : 320 ≤ nc) (l : Launch) (hlT : l.stackTraces = false) {p0 : Int32} {p1 : Int32} {I J O : Mem} {r : Int32} (hf : fX7_why p0 p1 I = some (1, r)) : zb_Ch l g nc yL_why cL_why 5 [(0, 10, 13, 25)] 8 170 1 6 [.ref (g.2.2 + 0), .int p0, .int p1, .ref (g.2.2 + 318)] (zb_ce g I J O) (some (.int (1 : Int32))) (zb_ce g I J O) := by
  refine zb_ofH (own := RL) (by decide +kernel) rfl (Nat.le_of_ble_eq_true rfl) ?_
  intro p e s m args below meth c ls X hr hnc hT hP hl
  have hx := X.1.1
  have hb := X.1.2.1
  have ho := X.1.2.2.2.1
  have hts := X.1.2.2.2.2
  have hS : va_S (zb_A g) s.heap s.heap [] := va_S.rf
  obtain ⟨H, hH⟩ : ∃ H, H = s.heap := ⟨_, rfl⟩
  obtain ⟨locs, hlocs⟩ : ∃ z : List Loc, z = [] := ⟨_, rfl⟩
  rw [← hH] at hP
  have hS : va_S (zb_A g) s.heap H locs := by rw [hH, hlocs]; exact hS
  show W p l e _ s m args below meth c s.heap [] 0 0 _ _
  rw [← hH, ← hlocs]
  have hl : lv_has ls 5 [(0, .ref (g.2.2 + 0)), (1, .int p0), (2, .int p1), (3, .ref (g.2.2 + 318))] := hl
  refine lv_aload_n hx hb dL_why_0 rfl (lv_at hl 3 rfl) ?_
  refine lv_iconst (v := (0 : Int32)) hx hb dL_why_1 (by decide) ?_
  refine lv_aload_n hx hb dL_why_2 rfl (lv_at hl 0 rfl) ?_
  refine lv_iload_n hx hb dL_why_3 rfl (lv_at hl 1 rfl) ?_
  refine lv_iload_n hx hb dL_why_4 rfl (lv_at hl 2 rfl) ?_
  refine zr_catch (rest := [.int (0 : Int32), .ref (g.2.2 + 318)]) (As := [.int p0, .int p1]) X hP hS (cx_X7_why (g := g) (nc := nc) (I := I) (J := J) (O := O) hnI l hlT (by decide) hf) cw_L_44 (zr_recv X hP (by omega) (zb_ceIo zk_0 (by decide)) rfl) rfl hl.1 (Nat.le_of_ble_eq_true rfl) ⟨Nat.le_of_ble_eq_true rfl, Nat.le_of_ble_eq_true rfl⟩ ⟨Nat.le_of_ble_eq_true rfl, Nat.le_of_ble_eq_true rfl⟩ dL_why_5 rfl [] ⟨0, 10, 13, 25⟩ [] hT (fun z hz => nomatch hz) (by decide) (by decide) wl_1 wq_1 (fun H locs q hP hS => ?_)
  refine lv_astore (lv' := [(4, .ref q), (0, .ref (g.2.2 + 0)), (1, .int p0), (2, .int p1), (3, .ref (g.2.2 + 318))]) hx hb dL_why_13 hl (by decide) rfl (fun ls hl => ?_)
  refine lv_iconst (v := (1 : Int32)) hx hb dL_why_15 (by decide) ?_
  exact zr_iret X hr hP hS dL_why_16
theorem cw_L_47 : zb_cwV RL 47 yX7_tide cX7_tide 6 (some .int) 1 := zb_cwV_of (zb_in 1133 (by decide +kernel) rfl) (zb_in 1134 (by decide +kernel) rfl) (zb_in 1135 (by decide +kernel) rfl) (zb_in 101 (by decide +kernel) rfl) (zb_in 1136 (by decide +kernel) rfl) (by decide +kernel)
set_option maxHeartbeats 4000000 in
set_option maxRecDepth 100000 in
theorem hn_L_tide {g : zb_G} {nc : Nat} (hnI : 306 ≤ nc) (hnO : 320 ≤ nc) (l : Launch) {p0 : Int32} {I J O : Mem} {r : Int32} (hf : fX7_tide p0 I = some (0, r)) : zb_Ch l g nc yL_tide cL_tide 4 [(0, 9, 12, 25), (0, 9, 15, 39)] 8 171 0 0 [.ref (g.2.2 + 0), .int p0, .ref (g.2.2 + 318)] (zb_ce g I J O) (some (.int 0)) (zb_ce g I J (wr O 318 0 r)) := by
  refine zb_ofH (own := RL) (by decide +kernel) rfl (Nat.le_of_ble_eq_true rfl) ?_
  intro p e s m args below meth c ls X hr hnc hT hP hl
  have hx := X.1.1
  have hb := X.1.2.1
  have ho := X.1.2.2.2.1
  have hts := X.1.2.2.2.2
  have hS : va_S (zb_A g) s.heap s.heap [] := va_S.rf
  obtain ⟨H, hH⟩ : ∃ H, H = s.heap := ⟨_, rfl⟩
  obtain ⟨locs, hlocs⟩ : ∃ z : List Loc, z = [] := ⟨_, rfl⟩
  rw [← hH] at hP
  have hS : va_S (zb_A g) s.heap H locs := by rw [hH, hlocs]; exact hS
  show W p l e _ s m args below meth c s.heap [] 0 0 _ _
  rw [← hH, ← hlocs]
  have hl : lv_has ls 4 [(0, .ref (g.2.2 + 0)), (1, .int p0), (2, .ref (g.2.2 + 318))] := hl
  refine lv_aload_n hx hb dL_tide_0 rfl (lv_at hl 2 rfl) ?_
  refine lv_iconst (v := (0 : Int32)) hx hb dL_tide_1 (by decide) ?_
  refine lv_aload_n hx hb dL_tide_2 rfl (lv_at hl 0 rfl) ?_
  refine lv_iload_n hx hb dL_tide_3 rfl (lv_at hl 1 rfl) ?_
  refine zr_cVi (rest := [.int (0 : Int32), .ref (g.2.2 + 318)]) (As := [.int p0]) X hP hS (ct_X7_tide (g := g) (nc := nc) (I := I) (J := J) (O := O) hnI l hf) cw_L_47 (zr_recv X hP (by omega) (zb_ceIo zk_0 (by decide)) rfl) rfl hl.1 (Nat.le_of_ble_eq_true rfl) ⟨Nat.le_of_ble_eq_true rfl, Nat.le_of_ble_eq_true rfl⟩ ⟨Nat.le_of_ble_eq_true rfl, Nat.le_of_ble_eq_true rfl⟩ dL_tide_4 rfl (fun H locs hP hS => ?_)
  refine lv_i2l hx hb dL_tide_7 rfl ?_
  refine zr_last X hP hS hnO dL_tide_8 (fun H locs hP hS => ?_)
  refine lv_goto (tgt := 18) hx hb dL_tide_9 (by decide) ?_
  refine lv_iconst (v := (0 : Int32)) hx hb dL_tide_18 (by decide) ?_
  exact zr_iret X hr hP hS dL_tide_19
set_option maxHeartbeats 4000000 in
set_option maxRecDepth 100000 in
theorem hc1_L_tide {g : zb_G} {nc : Nat} (hnI : 306 ≤ nc) (hnO : 320 ≤ nc) (l : Launch) (hlT : l.stackTraces = false) {p0 : Int32} {I J O : Mem} {r : Int32} (hf : fX7_tide p0 I = some (1, r)) : zb_Ch l g nc yL_tide cL_tide 4 [(0, 9, 12, 25), (0, 9, 15, 39)] 8 171 1 6 [.ref (g.2.2 + 0), .int p0, .ref (g.2.2 + 318)] (zb_ce g I J O) (some (.int (1 : Int32))) (zb_ce g I J O) := by
  refine zb_ofH (own := RL) (by decide +kernel) rfl (Nat.le_of_ble_eq_true rfl) ?_
  intro p e s m args below meth c ls X hr hnc hT hP hl
  have hx := X.1.1
  have hb := X.1.2.1
  have ho := X.1.2.2.2.1
  have hts := X.1.2.2.2.2
  have hS : va_S (zb_A g) s.heap s.heap [] := va_S.rf
  obtain ⟨H, hH⟩ : ∃ H, H = s.heap := ⟨_, rfl⟩
  obtain ⟨locs, hlocs⟩ : ∃ z : List Loc, z = [] := ⟨_, rfl⟩
  rw [← hH] at hP
  have hS : va_S (zb_A g) s.heap H locs := by rw [hH, hlocs]; exact hS
  show W p l e _ s m args below meth c s.heap [] 0 0 _ _
  rw [← hH, ← hlocs]
  have hl : lv_has ls 4 [(0, .ref (g.2.2 + 0)), (1, .int p0), (2, .ref (g.2.2 + 318))] := hl
  refine lv_aload_n hx hb dL_tide_0 rfl (lv_at hl 2 rfl) ?_
  refine lv_iconst (v := (0 : Int32)) hx hb dL_tide_1 (by decide) ?_
  refine lv_aload_n hx hb dL_tide_2 rfl (lv_at hl 0 rfl) ?_
  refine lv_iload_n hx hb dL_tide_3 rfl (lv_at hl 1 rfl) ?_
  refine zr_catch (rest := [.int (0 : Int32), .ref (g.2.2 + 318)]) (As := [.int p0]) X hP hS (cx_X7_tide (g := g) (nc := nc) (I := I) (J := J) (O := O) hnI l hlT (by decide) hf) cw_L_47 (zr_recv X hP (by omega) (zb_ceIo zk_0 (by decide)) rfl) rfl hl.1 (Nat.le_of_ble_eq_true rfl) ⟨Nat.le_of_ble_eq_true rfl, Nat.le_of_ble_eq_true rfl⟩ ⟨Nat.le_of_ble_eq_true rfl, Nat.le_of_ble_eq_true rfl⟩ dL_tide_4 rfl [] ⟨0, 9, 12, 25⟩ [⟨0, 9, 15, 39⟩] hT (fun z hz => nomatch hz) (by decide) (by decide) wl_1 wq_1 (fun H locs q hP hS => ?_)
  refine lv_astore_n (lv' := [(3, .ref q), (0, .ref (g.2.2 + 0)), (1, .int p0), (2, .ref (g.2.2 + 318))]) hx hb dL_tide_12 rfl hl (by decide) rfl (fun ls hl => ?_)
  refine lv_iconst (v := (1 : Int32)) hx hb dL_tide_13 (by decide) ?_
  exact zr_iret X hr hP hS dL_tide_14
set_option maxHeartbeats 4000000 in
set_option maxRecDepth 100000 in
theorem hc2_L_tide {g : zb_G} {nc : Nat} (hnI : 306 ≤ nc) (hnO : 320 ≤ nc) (l : Launch) (hlT : l.stackTraces = false) {p0 : Int32} {I J O : Mem} {r : Int32} (hf : fX7_tide p0 I = some (4, r)) : zb_Ch l g nc yL_tide cL_tide 4 [(0, 9, 12, 25), (0, 9, 15, 39)] 8 171 1 6 [.ref (g.2.2 + 0), .int p0, .ref (g.2.2 + 318)] (zb_ce g I J O) (some (.int (2 : Int32))) (zb_ce g I J O) := by
  refine zb_ofH (own := RL) (by decide +kernel) rfl (Nat.le_of_ble_eq_true rfl) ?_
  intro p e s m args below meth c ls X hr hnc hT hP hl
  have hx := X.1.1
  have hb := X.1.2.1
  have ho := X.1.2.2.2.1
  have hts := X.1.2.2.2.2
  have hS : va_S (zb_A g) s.heap s.heap [] := va_S.rf
  obtain ⟨H, hH⟩ : ∃ H, H = s.heap := ⟨_, rfl⟩
  obtain ⟨locs, hlocs⟩ : ∃ z : List Loc, z = [] := ⟨_, rfl⟩
  rw [← hH] at hP
  have hS : va_S (zb_A g) s.heap H locs := by rw [hH, hlocs]; exact hS
  show W p l e _ s m args below meth c s.heap [] 0 0 _ _
  rw [← hH, ← hlocs]
  have hl : lv_has ls 4 [(0, .ref (g.2.2 + 0)), (1, .int p0), (2, .ref (g.2.2 + 318))] := hl
  refine lv_aload_n hx hb dL_tide_0 rfl (lv_at hl 2 rfl) ?_
  refine lv_iconst (v := (0 : Int32)) hx hb dL_tide_1 (by decide) ?_
  refine lv_aload_n hx hb dL_tide_2 rfl (lv_at hl 0 rfl) ?_
  refine lv_iload_n hx hb dL_tide_3 rfl (lv_at hl 1 rfl) ?_
  refine zr_catch (rest := [.int (0 : Int32), .ref (g.2.2 + 318)]) (As := [.int p0]) X hP hS (cx_X7_tide (g := g) (nc := nc) (I := I) (J := J) (O := O) hnI l hlT (by decide) hf) cw_L_47 (zr_recv X hP (by omega) (zb_ceIo zk_0 (by decide)) rfl) rfl hl.1 (Nat.le_of_ble_eq_true rfl) ⟨Nat.le_of_ble_eq_true rfl, Nat.le_of_ble_eq_true rfl⟩ ⟨Nat.le_of_ble_eq_true rfl, Nat.le_of_ble_eq_true rfl⟩ dL_tide_4 rfl [⟨0, 9, 12, 25⟩] ⟨0, 9, 15, 39⟩ [] hT (fun z hz => Or.inr (by rw [List.mem_singleton.mp hz]; exact ⟨by decide, zb_en 1, hts _ wl_1, hnc.2.2⟩)) (by decide) (by decide) wl_4 wq_4 (fun H locs q hP hS => ?_)
  refine lv_astore_n (lv' := [(3, .ref q), (0, .ref (g.2.2 + 0)), (1, .int p0), (2, .ref (g.2.2 + 318))]) hx hb dL_tide_15 rfl hl (by decide) rfl (fun ls hl => ?_)
  refine lv_iconst (v := (2 : Int32)) hx hb dL_tide_16 (by decide) ?_
  exact zr_iret X hr hP hS dL_tide_17
theorem cw_L_50 : zb_cwV RL 50 yX7_agreement cX7_agreement 4 (some .float) 1 := zb_cwV_of (zb_in 1145 (by decide +kernel) rfl) (zb_in 1146 (by decide +kernel) rfl) (zb_in 1147 (by decide +kernel) rfl) (zb_in 101 (by decide +kernel) rfl) (zb_in 1148 (by decide +kernel) rfl) (by decide +kernel)
set_option maxHeartbeats 4000000 in
set_option maxRecDepth 100000 in
theorem hn_L_agreement {g : zb_G} {nc : Nat} (hnI : 306 ≤ nc) (hnO : 320 ≤ nc) (l : Launch) {p0 : Int32} {I J O : Mem} {r : UInt32} (hq : vf_n64 (FP.f2d r)) (hf : fX7_agreement p0 I = some (0, r)) : zb_Ch l g nc yL_agreement cL_agreement 4 [(0, 9, 12, 25)] 8 169 0 0 [.ref (g.2.2 + 0), .int p0, .ref (g.2.2 + 319)] (zb_ce g I J O) (some (.int 0)) (zb_ce g I J (wr O 319 0 r.toInt32)) := by
  refine zb_ofH (own := RL) (by decide +kernel) rfl (Nat.le_of_ble_eq_true rfl) ?_
  intro p e s m args below meth c ls X hr hnc hT hP hl
  have hx := X.1.1
  have hb := X.1.2.1
  have ho := X.1.2.2.2.1
  have hts := X.1.2.2.2.2
  have hS : va_S (zb_A g) s.heap s.heap [] := va_S.rf
  obtain ⟨H, hH⟩ : ∃ H, H = s.heap := ⟨_, rfl⟩
  obtain ⟨locs, hlocs⟩ : ∃ z : List Loc, z = [] := ⟨_, rfl⟩
  rw [← hH] at hP
  have hS : va_S (zb_A g) s.heap H locs := by rw [hH, hlocs]; exact hS
  show W p l e _ s m args below meth c s.heap [] 0 0 _ _
  rw [← hH, ← hlocs]
  have hl : lv_has ls 4 [(0, .ref (g.2.2 + 0)), (1, .int p0), (2, .ref (g.2.2 + 319))] := hl
  refine lv_aload_n hx hb dL_agreement_0 rfl (lv_at hl 2 rfl) ?_
  refine lv_iconst (v := (0 : Int32)) hx hb dL_agreement_1 (by decide) ?_
  refine lv_aload_n hx hb dL_agreement_2 rfl (lv_at hl 0 rfl) ?_
  refine lv_iload_n hx hb dL_agreement_3 rfl (lv_at hl 1 rfl) ?_
  refine zr_cVf (rest := [.int (0 : Int32), .ref (g.2.2 + 319)]) (As := [.int p0]) X hP hS (ct_X7_agreement (g := g) (nc := nc) (I := I) (J := J) (O := O) hnI l hf) cw_L_50 (zr_recv X hP (by omega) (zb_ceIo zk_0 (by decide)) rfl) rfl hl.1 (Nat.le_of_ble_eq_true rfl) ⟨Nat.le_of_ble_eq_true rfl, Nat.le_of_ble_eq_true rfl⟩ ⟨Nat.le_of_ble_eq_true rfl, Nat.le_of_ble_eq_true rfl⟩ dL_agreement_4 rfl (fun H locs hP hS => ?_)
  refine lv_f2d hx hb dL_agreement_7 hq ?_
  refine zr_dast X hP hS hnO dL_agreement_8 (fun H locs hP hS => ?_)
  refine lv_goto (tgt := 15) hx hb dL_agreement_9 (by decide) ?_
  refine lv_iconst (v := (0 : Int32)) hx hb dL_agreement_15 (by decide) ?_
  exact zr_iret X hr hP hS dL_agreement_16
set_option maxHeartbeats 4000000 in
set_option maxRecDepth 100000 in
theorem hc1_L_agreement {g : zb_G} {nc : Nat} (hnI : 306 ≤ nc) (hnO : 320 ≤ nc) (l : Launch) (hlT : l.stackTraces = false) {p0 : Int32} {I J O : Mem} {r : UInt32} (hf : fX7_agreement p0 I = some (1, r)) : zb_Ch l g nc yL_agreement cL_agreement 4 [(0, 9, 12, 25)] 8 169 1 6 [.ref (g.2.2 + 0), .int p0, .ref (g.2.2 + 319)] (zb_ce g I J O) (some (.int (1 : Int32))) (zb_ce g I J O) := by
  refine zb_ofH (own := RL) (by decide +kernel) rfl (Nat.le_of_ble_eq_true rfl) ?_
  intro p e s m args below meth c ls X hr hnc hT hP hl
  have hx := X.1.1
  have hb := X.1.2.1
  have ho := X.1.2.2.2.1
  have hts := X.1.2.2.2.2
  have hS : va_S (zb_A g) s.heap s.heap [] := va_S.rf
  obtain ⟨H, hH⟩ : ∃ H, H = s.heap := ⟨_, rfl⟩
  obtain ⟨locs, hlocs⟩ : ∃ z : List Loc, z = [] := ⟨_, rfl⟩
  rw [← hH] at hP
  have hS : va_S (zb_A g) s.heap H locs := by rw [hH, hlocs]; exact hS
  show W p l e _ s m args below meth c s.heap [] 0 0 _ _
  rw [← hH, ← hlocs]
  have hl : lv_has ls 4 [(0, .ref (g.2.2 + 0)), (1, .int p0), (2, .ref (g.2.2 + 319))] := hl
  refine lv_aload_n hx hb dL_agreement_0 rfl (lv_at hl 2 rfl) ?_
  refine lv_iconst (v := (0 : Int32)) hx hb dL_agreement_1 (by decide) ?_
  refine lv_aload_n hx hb dL_agreement_2 rfl (lv_at hl 0 rfl) ?_
  refine lv_iload_n hx hb dL_agreement_3 rfl (lv_at hl 1 rfl) ?_
  refine zr_catch (rest := [.int (0 : Int32), .ref (g.2.2 + 319)]) (As := [.int p0]) X hP hS (cx_X7_agreement (g := g) (nc := nc) (I := I) (J := J) (O := O) hnI l hlT (by decide) hf) cw_L_50 (zr_recv X hP (by omega) (zb_ceIo zk_0 (by decide)) rfl) rfl hl.1 (Nat.le_of_ble_eq_true rfl) ⟨Nat.le_of_ble_eq_true rfl, Nat.le_of_ble_eq_true rfl⟩ ⟨Nat.le_of_ble_eq_true rfl, Nat.le_of_ble_eq_true rfl⟩ dL_agreement_4 rfl [] ⟨0, 9, 12, 25⟩ [] hT (fun z hz => nomatch hz) (by decide) (by decide) wl_1 wq_1 (fun H locs q hP hS => ?_)
  refine lv_astore_n (lv' := [(3, .ref q), (0, .ref (g.2.2 + 0)), (1, .int p0), (2, .ref (g.2.2 + 319))]) hx hb dL_agreement_12 rfl hl (by decide) rfl (fun ls hl => ?_)
  refine lv_iconst (v := (1 : Int32)) hx hb dL_agreement_13 (by decide) ?_
  exact zr_iret X hr hP hS dL_agreement_14
theorem cw_L_54 : zb_cwV RL 54 yX7_levelNow cX7_levelNow 2 (some .int) 0 := zb_cwV_of (zb_in 1156 (by decide +kernel) rfl) (zb_in 1157 (by decide +kernel) rfl) (zb_in 1158 (by decide +kernel) rfl) (zb_in 101 (by decide +kernel) rfl) (zb_in 1159 (by decide +kernel) rfl) (by decide +kernel)
set_option maxHeartbeats 4000000 in
set_option maxRecDepth 100000 in
theorem hn_L_levelNow {g : zb_G} {nc : Nat} (hnI : 306 ≤ nc) (hnO : 320 ≤ nc) (l : Launch) {I J O : Mem} {r : Int32} {Iq : Mem} (hf : fX7_levelNow I = some (0, r, Iq)) : zb_Ch l g nc yL_levelNow cL_levelNow 3 [(0, 8, 11, 39)] 7 146 0 0 [.ref (g.2.2 + 0), .ref (g.2.2 + 318)] (zb_ce g I J O) (some (.int 0)) (zb_ce g Iq J (wr O 318 0 r)) := by
  refine zb_ofH (own := RL) (by decide +kernel) rfl (Nat.le_of_ble_eq_true rfl) ?_
  intro p e s m args below meth c ls X hr hnc hT hP hl
  have hx := X.1.1
  have hb := X.1.2.1
  have ho := X.1.2.2.2.1
  have hts := X.1.2.2.2.2
  have hS : va_S (zb_A g) s.heap s.heap [] := va_S.rf
  obtain ⟨H, hH⟩ : ∃ H, H = s.heap := ⟨_, rfl⟩
  obtain ⟨locs, hlocs⟩ : ∃ z : List Loc, z = [] := ⟨_, rfl⟩
  rw [← hH] at hP
  have hS : va_S (zb_A g) s.heap H locs := by rw [hH, hlocs]; exact hS
  show W p l e _ s m args below meth c s.heap [] 0 0 _ _
  rw [← hH, ← hlocs]
  have hl : lv_has ls 3 [(0, .ref (g.2.2 + 0)), (1, .ref (g.2.2 + 318))] := hl
  refine lv_aload_n hx hb dL_levelNow_0 rfl (lv_at hl 1 rfl) ?_
  refine lv_iconst (v := (0 : Int32)) hx hb dL_levelNow_1 (by decide) ?_
  refine lv_aload_n hx hb dL_levelNow_2 rfl (lv_at hl 0 rfl) ?_
  refine zr_cVi (rest := [.int (0 : Int32), .ref (g.2.2 + 318)]) (As := []) X hP hS (ct_X7_levelNow (g := g) (nc := nc) (I := I) (J := J) (O := O) hnI l hf) cw_L_54 (zr_recv X hP (by omega) (zb_ceIo zk_0 (by decide)) rfl) rfl hl.1 (Nat.le_of_ble_eq_true rfl) ⟨Nat.le_of_ble_eq_true rfl, Nat.le_of_ble_eq_true rfl⟩ ⟨Nat.le_of_ble_eq_true rfl, Nat.le_of_ble_eq_true rfl⟩ dL_levelNow_3 rfl (fun H locs hP hS => ?_)
  refine lv_i2l hx hb dL_levelNow_6 rfl ?_
  refine zr_last X hP hS hnO dL_levelNow_7 (fun H locs hP hS => ?_)
  refine lv_goto (tgt := 14) hx hb dL_levelNow_8 (by decide) ?_
  refine lv_iconst (v := (0 : Int32)) hx hb dL_levelNow_14 (by decide) ?_
  exact zr_iret X hr hP hS dL_levelNow_15
set_option maxHeartbeats 4000000 in
set_option maxRecDepth 100000 in
theorem hc1_L_levelNow {g : zb_G} {nc : Nat} (hnI : 306 ≤ nc) (hnO : 320 ≤ nc) (l : Launch) (hlT : l.stackTraces = false) {I J O : Mem} {r : Int32} {Iq : Mem} (hf : fX7_levelNow I = some (4, r, Iq)) : zb_Ch l g nc yL_levelNow cL_levelNow 3 [(0, 8, 11, 39)] 7 146 1 6 [.ref (g.2.2 + 0), .ref (g.2.2 + 318)] (zb_ce g I J O) (some (.int (1 : Int32))) (zb_ce g Iq J O) := by
  refine zb_ofH (own := RL) (by decide +kernel) rfl (Nat.le_of_ble_eq_true rfl) ?_
  intro p e s m args below meth c ls X hr hnc hT hP hl
  have hx := X.1.1
  have hb := X.1.2.1
  have ho := X.1.2.2.2.1
  have hts := X.1.2.2.2.2
  have hS : va_S (zb_A g) s.heap s.heap [] := va_S.rf
  obtain ⟨H, hH⟩ : ∃ H, H = s.heap := ⟨_, rfl⟩
  obtain ⟨locs, hlocs⟩ : ∃ z : List Loc, z = [] := ⟨_, rfl⟩
  rw [← hH] at hP
  have hS : va_S (zb_A g) s.heap H locs := by rw [hH, hlocs]; exact hS
  show W p l e _ s m args below meth c s.heap [] 0 0 _ _
  rw [← hH, ← hlocs]
  have hl : lv_has ls 3 [(0, .ref (g.2.2 + 0)), (1, .ref (g.2.2 + 318))] := hl
  refine lv_aload_n hx hb dL_levelNow_0 rfl (lv_at hl 1 rfl) ?_
  refine lv_iconst (v := (0 : Int32)) hx hb dL_levelNow_1 (by decide) ?_
  refine lv_aload_n hx hb dL_levelNow_2 rfl (lv_at hl 0 rfl) ?_
  refine zr_catch (rest := [.int (0 : Int32), .ref (g.2.2 + 318)]) (As := []) X hP hS (cx_X7_levelNow (g := g) (nc := nc) (I := I) (J := J) (O := O) hnI l hlT (by decide) hf) cw_L_54 (zr_recv X hP (by omega) (zb_ceIo zk_0 (by decide)) rfl) rfl hl.1 (Nat.le_of_ble_eq_true rfl) ⟨Nat.le_of_ble_eq_true rfl, Nat.le_of_ble_eq_true rfl⟩ ⟨Nat.le_of_ble_eq_true rfl, Nat.le_of_ble_eq_true rfl⟩ dL_levelNow_3 rfl [] ⟨0, 8, 11, 39⟩ [] hT (fun z hz => nomatch hz) (by decide) (by decide) wl_4 wq_4 (fun H locs q hP hS => ?_)
  refine lv_astore_n (lv' := [(2, .ref q), (0, .ref (g.2.2 + 0)), (1, .ref (g.2.2 + 318))]) hx hb dL_levelNow_11 rfl hl (by decide) rfl (fun ls hl => ?_)
  refine lv_iconst (v := (1 : Int32)) hx hb dL_levelNow_12 (by decide) ?_
  exact zr_iret X hr hP hS dL_levelNow_13
theorem cw_L_58 : zb_cwV RL 58 yX7_levelWithout cX7_levelWithout 4 (some .int) 2 := zb_cwV_of (zb_in 1166 (by decide +kernel) rfl) (zb_in 1167 (by decide +kernel) rfl) (zb_in 1168 (by decide +kernel) rfl) (zb_in 101 (by decide +kernel) rfl) (zb_in 1169 (by decide +kernel) rfl) (by decide +kernel)
set_option maxHeartbeats 4000000 in
set_option maxRecDepth 100000 in
theorem hn_L_levelWithout {g : zb_G} {nc : Nat} (hnI : 306 ≤ nc) (hnO : 320 ≤ nc) (l : Launch) {p0 : Int32} {p1 : Int32} {I J O : Mem} {r : Int32} {Iq : Mem} (hf : fX7_levelWithout p0 p1 I = some (0, r, Iq)) : zb_Ch l g nc yL_levelWithout cL_levelWithout 5 [(0, 10, 13, 25), (0, 10, 17, 39)] 8 169 0 0 [.ref (g.2.2 + 0), .int p0, .int p1, .ref (g.2.2 + 318)] (zb_ce g I J O) (some (.int 0)) (zb_ce g Iq J (wr O 318 0 r)) := by
  refine zb_ofH (own := RL) (by decide +kernel) rfl (Nat.le_of_ble_eq_true rfl) ?_
  intro p e s m args below meth c ls X hr hnc hT hP hl
  have hx := X.1.1
  have hb := X.1.2.1
  have ho := X.1.2.2.2.1
  have hts := X.1.2.2.2.2
  have hS : va_S (zb_A g) s.heap s.heap [] := va_S.rf
  obtain ⟨H, hH⟩ : ∃ H, H = s.heap := ⟨_, rfl⟩
  obtain ⟨locs, hlocs⟩ : ∃ z : List Loc, z = [] := ⟨_, rfl⟩
  rw [← hH] at hP
  have hS : va_S (zb_A g) s.heap H locs := by rw [hH, hlocs]; exact hS
  show W p l e _ s m args below meth c s.heap [] 0 0 _ _
  rw [← hH, ← hlocs]
  have hl : lv_has ls 5 [(0, .ref (g.2.2 + 0)), (1, .int p0), (2, .int p1), (3, .ref (g.2.2 + 318))] := hl
  refine lv_aload_n hx hb dL_levelWithout_0 rfl (lv_at hl 3 rfl) ?_
  refine lv_iconst (v := (0 : Int32)) hx hb dL_levelWithout_1 (by decide) ?_
  refine lv_aload_n hx hb dL_levelWithout_2 rfl (lv_at hl 0 rfl) ?_
  refine lv_iload_n hx hb dL_levelWithout_3 rfl (lv_at hl 1 rfl) ?_
  refine lv_iload_n hx hb dL_levelWithout_4 rfl (lv_at hl 2 rfl) ?_
  refine zr_cVi (rest := [.int (0 : Int32), .ref (g.2.2 + 318)]) (As := [.int p0, .int p1]) X hP hS (ct_X7_levelWithout (g := g) (nc := nc) (I := I) (J := J) (O := O) hnI l hf) cw_L_58 (zr_recv X hP (by omega) (zb_ceIo zk_0 (by decide)) rfl) rfl hl.1 (Nat.le_of_ble_eq_true rfl) ⟨Nat.le_of_ble_eq_true rfl, Nat.le_of_ble_eq_true rfl⟩ ⟨Nat.le_of_ble_eq_true rfl, Nat.le_of_ble_eq_true rfl⟩ dL_levelWithout_5 rfl (fun H locs hP hS => ?_)
  refine lv_i2l hx hb dL_levelWithout_8 rfl ?_
  refine zr_last X hP hS hnO dL_levelWithout_9 (fun H locs hP hS => ?_)
  refine lv_goto (tgt := 21) hx hb dL_levelWithout_10 (by decide) ?_
  refine lv_iconst (v := (0 : Int32)) hx hb dL_levelWithout_21 (by decide) ?_
  exact zr_iret X hr hP hS dL_levelWithout_22
set_option maxHeartbeats 4000000 in
set_option maxRecDepth 100000 in
theorem hc1_L_levelWithout {g : zb_G} {nc : Nat} (hnI : 306 ≤ nc) (hnO : 320 ≤ nc) (l : Launch) (hlT : l.stackTraces = false) {p0 : Int32} {p1 : Int32} {I J O : Mem} {r : Int32} {Iq : Mem} (hf : fX7_levelWithout p0 p1 I = some (1, r, Iq)) : zb_Ch l g nc yL_levelWithout cL_levelWithout 5 [(0, 10, 13, 25), (0, 10, 17, 39)] 8 169 1 6 [.ref (g.2.2 + 0), .int p0, .int p1, .ref (g.2.2 + 318)] (zb_ce g I J O) (some (.int (1 : Int32))) (zb_ce g Iq J O) := by
  refine zb_ofH (own := RL) (by decide +kernel) rfl (Nat.le_of_ble_eq_true rfl) ?_
  intro p e s m args below meth c ls X hr hnc hT hP hl
  have hx := X.1.1
  have hb := X.1.2.1
  have ho := X.1.2.2.2.1
  have hts := X.1.2.2.2.2
  have hS : va_S (zb_A g) s.heap s.heap [] := va_S.rf
  obtain ⟨H, hH⟩ : ∃ H, H = s.heap := ⟨_, rfl⟩
  obtain ⟨locs, hlocs⟩ : ∃ z : List Loc, z = [] := ⟨_, rfl⟩
  rw [← hH] at hP
  have hS : va_S (zb_A g) s.heap H locs := by rw [hH, hlocs]; exact hS
  show W p l e _ s m args below meth c s.heap [] 0 0 _ _
  rw [← hH, ← hlocs]
  have hl : lv_has ls 5 [(0, .ref (g.2.2 + 0)), (1, .int p0), (2, .int p1), (3, .ref (g.2.2 + 318))] := hl
  refine lv_aload_n hx hb dL_levelWithout_0 rfl (lv_at hl 3 rfl) ?_
  refine lv_iconst (v := (0 : Int32)) hx hb dL_levelWithout_1 (by decide) ?_
  refine lv_aload_n hx hb dL_levelWithout_2 rfl (lv_at hl 0 rfl) ?_
  refine lv_iload_n hx hb dL_levelWithout_3 rfl (lv_at hl 1 rfl) ?_
  refine lv_iload_n hx hb dL_levelWithout_4 rfl (lv_at hl 2 rfl) ?_
  refine zr_catch (rest := [.int (0 : Int32), .ref (g.2.2 + 318)]) (As := [.int p0, .int p1]) X hP hS (cx_X7_levelWithout (g := g) (nc := nc) (I := I) (J := J) (O := O) hnI l hlT (by decide) hf) cw_L_58 (zr_recv X hP (by omega) (zb_ceIo zk_0 (by decide)) rfl) rfl hl.1 (Nat.le_of_ble_eq_true rfl) ⟨Nat.le_of_ble_eq_true rfl, Nat.le_of_ble_eq_true rfl⟩ ⟨Nat.le_of_ble_eq_true rfl, Nat.le_of_ble_eq_true rfl⟩ dL_levelWithout_5 rfl [] ⟨0, 10, 13, 25⟩ [⟨0, 10, 17, 39⟩] hT (fun z hz => nomatch hz) (by decide) (by decide) wl_1 wq_1 (fun H locs q hP hS => ?_)
  refine lv_astore (lv' := [(4, .ref q), (0, .ref (g.2.2 + 0)), (1, .int p0), (2, .int p1), (3, .ref (g.2.2 + 318))]) hx hb dL_levelWithout_13 hl (by decide) rfl (fun ls hl => ?_)
  refine lv_iconst (v := (1 : Int32)) hx hb dL_levelWithout_15 (by decide) ?_
  exact zr_iret X hr hP hS dL_levelWithout_16
set_option maxHeartbeats 4000000 in
set_option maxRecDepth 100000 in
theorem hc2_L_levelWithout {g : zb_G} {nc : Nat} (hnI : 306 ≤ nc) (hnO : 320 ≤ nc) (l : Launch) (hlT : l.stackTraces = false) {p0 : Int32} {p1 : Int32} {I J O : Mem} {r : Int32} {Iq : Mem} (hf : fX7_levelWithout p0 p1 I = some (4, r, Iq)) : zb_Ch l g nc yL_levelWithout cL_levelWithout 5 [(0, 10, 13, 25), (0, 10, 17, 39)] 8 169 1 6 [.ref (g.2.2 + 0), .int p0, .int p1, .ref (g.2.2 + 318)] (zb_ce g I J O) (some (.int (2 : Int32))) (zb_ce g Iq J O) := by
  refine zb_ofH (own := RL) (by decide +kernel) rfl (Nat.le_of_ble_eq_true rfl) ?_
  intro p e s m args below meth c ls X hr hnc hT hP hl
  have hx := X.1.1
  have hb := X.1.2.1
  have ho := X.1.2.2.2.1
  have hts := X.1.2.2.2.2
  have hS : va_S (zb_A g) s.heap s.heap [] := va_S.rf
  obtain ⟨H, hH⟩ : ∃ H, H = s.heap := ⟨_, rfl⟩
  obtain ⟨locs, hlocs⟩ : ∃ z : List Loc, z = [] := ⟨_, rfl⟩
  rw [← hH] at hP
  have hS : va_S (zb_A g) s.heap H locs := by rw [hH, hlocs]; exact hS
  show W p l e _ s m args below meth c s.heap [] 0 0 _ _
  rw [← hH, ← hlocs]
  have hl : lv_has ls 5 [(0, .ref (g.2.2 + 0)), (1, .int p0), (2, .int p1), (3, .ref (g.2.2 + 318))] := hl
  refine lv_aload_n hx hb dL_levelWithout_0 rfl (lv_at hl 3 rfl) ?_
  refine lv_iconst (v := (0 : Int32)) hx hb dL_levelWithout_1 (by decide) ?_
  refine lv_aload_n hx hb dL_levelWithout_2 rfl (lv_at hl 0 rfl) ?_
  refine lv_iload_n hx hb dL_levelWithout_3 rfl (lv_at hl 1 rfl) ?_
  refine lv_iload_n hx hb dL_levelWithout_4 rfl (lv_at hl 2 rfl) ?_
  refine zr_catch (rest := [.int (0 : Int32), .ref (g.2.2 + 318)]) (As := [.int p0, .int p1]) X hP hS (cx_X7_levelWithout (g := g) (nc := nc) (I := I) (J := J) (O := O) hnI l hlT (by decide) hf) cw_L_58 (zr_recv X hP (by omega) (zb_ceIo zk_0 (by decide)) rfl) rfl hl.1 (Nat.le_of_ble_eq_true rfl) ⟨Nat.le_of_ble_eq_true rfl, Nat.le_of_ble_eq_true rfl⟩ ⟨Nat.le_of_ble_eq_true rfl, Nat.le_of_ble_eq_true rfl⟩ dL_levelWithout_5 rfl [⟨0, 10, 13, 25⟩] ⟨0, 10, 17, 39⟩ [] hT (fun z hz => Or.inr (by rw [List.mem_singleton.mp hz]; exact ⟨by decide, zb_en 1, hts _ wl_1, hnc.2.2⟩)) (by decide) (by decide) wl_4 wq_4 (fun H locs q hP hS => ?_)
  refine lv_astore (lv' := [(4, .ref q), (0, .ref (g.2.2 + 0)), (1, .int p0), (2, .int p1), (3, .ref (g.2.2 + 318))]) hx hb dL_levelWithout_17 hl (by decide) rfl (fun ls hl => ?_)
  refine lv_iconst (v := (2 : Int32)) hx hb dL_levelWithout_19 (by decide) ?_
  exact zr_iret X hr hP hS dL_levelWithout_20
theorem cw_L_61 : zb_cwV RL 61 yX7_needed cX7_needed 6 (some .int) 1 := zb_cwV_of (zb_in 1178 (by decide +kernel) rfl) (zb_in 1179 (by decide +kernel) rfl) (zb_in 1180 (by decide +kernel) rfl) (zb_in 101 (by decide +kernel) rfl) (zb_in 1181 (by decide +kernel) rfl) (by decide +kernel)
set_option maxHeartbeats 4000000 in
set_option maxRecDepth 100000 in
theorem hn_L_needed {g : zb_G} {nc : Nat} (hnI : 306 ≤ nc) (hnO : 320 ≤ nc) (l : Launch) {p0 : Int32} {I J O : Mem} {r : Int32} {Iq : Mem} (hf : fX7_needed p0 I = some (0, r, Iq)) : zb_Ch l g nc yL_needed cL_needed 4 [(0, 9, 12, 25)] 8 171 0 0 [.ref (g.2.2 + 0), .int p0, .ref (g.2.2 + 318)] (zb_ce g I J O) (some (.int 0)) (zb_ce g Iq J (wr O 318 0 r)) := by
  refine zb_ofH (own := RL) (by decide +kernel) rfl (Nat.le_of_ble_eq_true rfl) ?_
  intro p e s m args below meth c ls X hr hnc hT hP hl
  have hx := X.1.1
  have hb := X.1.2.1
  have ho := X.1.2.2.2.1
  have hts := X.1.2.2.2.2
  have hS : va_S (zb_A g) s.heap s.heap [] := va_S.rf
  obtain ⟨H, hH⟩ : ∃ H, H = s.heap := ⟨_, rfl⟩
  obtain ⟨locs, hlocs⟩ : ∃ z : List Loc, z = [] := ⟨_, rfl⟩
  rw [← hH] at hP
  have hS : va_S (zb_A g) s.heap H locs := by rw [hH, hlocs]; exact hS
  show W p l e _ s m args below meth c s.heap [] 0 0 _ _
  rw [← hH, ← hlocs]
  have hl : lv_has ls 4 [(0, .ref (g.2.2 + 0)), (1, .int p0), (2, .ref (g.2.2 + 318))] := hl
  refine lv_aload_n hx hb dL_needed_0 rfl (lv_at hl 2 rfl) ?_
  refine lv_iconst (v := (0 : Int32)) hx hb dL_needed_1 (by decide) ?_
  refine lv_aload_n hx hb dL_needed_2 rfl (lv_at hl 0 rfl) ?_
  refine lv_iload_n hx hb dL_needed_3 rfl (lv_at hl 1 rfl) ?_
  refine zr_cVi (rest := [.int (0 : Int32), .ref (g.2.2 + 318)]) (As := [.int p0]) X hP hS (ct_X7_needed (g := g) (nc := nc) (I := I) (J := J) (O := O) hnI l hf) cw_L_61 (zr_recv X hP (by omega) (zb_ceIo zk_0 (by decide)) rfl) rfl hl.1 (Nat.le_of_ble_eq_true rfl) ⟨Nat.le_of_ble_eq_true rfl, Nat.le_of_ble_eq_true rfl⟩ ⟨Nat.le_of_ble_eq_true rfl, Nat.le_of_ble_eq_true rfl⟩ dL_needed_4 rfl (fun H locs hP hS => ?_)
  refine lv_i2l hx hb dL_needed_7 rfl ?_
  refine zr_last X hP hS hnO dL_needed_8 (fun H locs hP hS => ?_)
  refine lv_goto (tgt := 15) hx hb dL_needed_9 (by decide) ?_
  refine lv_iconst (v := (0 : Int32)) hx hb dL_needed_15 (by decide) ?_
  exact zr_iret X hr hP hS dL_needed_16
set_option maxHeartbeats 4000000 in
set_option maxRecDepth 100000 in
theorem hc1_L_needed {g : zb_G} {nc : Nat} (hnI : 306 ≤ nc) (hnO : 320 ≤ nc) (l : Launch) (hlT : l.stackTraces = false) {p0 : Int32} {I J O : Mem} {r : Int32} {Iq : Mem} (hf : fX7_needed p0 I = some (1, r, Iq)) : zb_Ch l g nc yL_needed cL_needed 4 [(0, 9, 12, 25)] 8 171 1 6 [.ref (g.2.2 + 0), .int p0, .ref (g.2.2 + 318)] (zb_ce g I J O) (some (.int (1 : Int32))) (zb_ce g Iq J O) := by
  refine zb_ofH (own := RL) (by decide +kernel) rfl (Nat.le_of_ble_eq_true rfl) ?_
  intro p e s m args below meth c ls X hr hnc hT hP hl
  have hx := X.1.1
  have hb := X.1.2.1
  have ho := X.1.2.2.2.1
  have hts := X.1.2.2.2.2
  have hS : va_S (zb_A g) s.heap s.heap [] := va_S.rf
  obtain ⟨H, hH⟩ : ∃ H, H = s.heap := ⟨_, rfl⟩
  obtain ⟨locs, hlocs⟩ : ∃ z : List Loc, z = [] := ⟨_, rfl⟩
  rw [← hH] at hP
  have hS : va_S (zb_A g) s.heap H locs := by rw [hH, hlocs]; exact hS
  show W p l e _ s m args below meth c s.heap [] 0 0 _ _
  rw [← hH, ← hlocs]
  have hl : lv_has ls 4 [(0, .ref (g.2.2 + 0)), (1, .int p0), (2, .ref (g.2.2 + 318))] := hl
  refine lv_aload_n hx hb dL_needed_0 rfl (lv_at hl 2 rfl) ?_
  refine lv_iconst (v := (0 : Int32)) hx hb dL_needed_1 (by decide) ?_
  refine lv_aload_n hx hb dL_needed_2 rfl (lv_at hl 0 rfl) ?_
  refine lv_iload_n hx hb dL_needed_3 rfl (lv_at hl 1 rfl) ?_
  refine zr_catch (rest := [.int (0 : Int32), .ref (g.2.2 + 318)]) (As := [.int p0]) X hP hS (cx_X7_needed (g := g) (nc := nc) (I := I) (J := J) (O := O) hnI l hlT (by decide) hf) cw_L_61 (zr_recv X hP (by omega) (zb_ceIo zk_0 (by decide)) rfl) rfl hl.1 (Nat.le_of_ble_eq_true rfl) ⟨Nat.le_of_ble_eq_true rfl, Nat.le_of_ble_eq_true rfl⟩ ⟨Nat.le_of_ble_eq_true rfl, Nat.le_of_ble_eq_true rfl⟩ dL_needed_4 rfl [] ⟨0, 9, 12, 25⟩ [] hT (fun z hz => nomatch hz) (by decide) (by decide) wl_1 wq_1 (fun H locs q hP hS => ?_)
  refine lv_astore_n (lv' := [(3, .ref q), (0, .ref (g.2.2 + 0)), (1, .int p0), (2, .ref (g.2.2 + 318))]) hx hb dL_needed_12 rfl hl (by decide) rfl (fun ls hl => ?_)
  refine lv_iconst (v := (1 : Int32)) hx hb dL_needed_13 (by decide) ?_
  exact zr_iret X hr hP hS dL_needed_14
theorem cw_L_64 : zb_cwV RL 64 yX7_segmentOf cX7_segmentOf 4 (some .int) 1 := zb_cwV_of (zb_in 1185 (by decide +kernel) rfl) (zb_in 1186 (by decide +kernel) rfl) (zb_in 1187 (by decide +kernel) rfl) (zb_in 101 (by decide +kernel) rfl) (zb_in 1188 (by decide +kernel) rfl) (by decide +kernel)
set_option maxHeartbeats 4000000 in
set_option maxRecDepth 100000 in
theorem hn_L_segmentOf {g : zb_G} {nc : Nat} (hnI : 306 ≤ nc) (hnO : 320 ≤ nc) (l : Launch) {p0 : Int32} {I J O : Mem} {r : Int32} (hf : fX7_segmentOf p0 I = some (0, r)) : zb_Ch l g nc yL_segmentOf cL_segmentOf 4 [(0, 9, 12, 25)] 8 169 0 0 [.ref (g.2.2 + 0), .int p0, .ref (g.2.2 + 318)] (zb_ce g I J O) (some (.int 0)) (zb_ce g I J (wr O 318 0 r)) := by
  refine zb_ofH (own := RL) (by decide +kernel) rfl (Nat.le_of_ble_eq_true rfl) ?_
  intro p e s m args below meth c ls X hr hnc hT hP hl
  have hx := X.1.1
  have hb := X.1.2.1
  have ho := X.1.2.2.2.1
  have hts := X.1.2.2.2.2
  have hS : va_S (zb_A g) s.heap s.heap [] := va_S.rf
  obtain ⟨H, hH⟩ : ∃ H, H = s.heap := ⟨_, rfl⟩
  obtain ⟨locs, hlocs⟩ : ∃ z : List Loc, z = [] := ⟨_, rfl⟩
  rw [← hH] at hP
  have hS : va_S (zb_A g) s.heap H locs := by rw [hH, hlocs]; exact hS
  show W p l e _ s m args below meth c s.heap [] 0 0 _ _
  rw [← hH, ← hlocs]
  have hl : lv_has ls 4 [(0, .ref (g.2.2 + 0)), (1, .int p0), (2, .ref (g.2.2 + 318))] := hl
  refine lv_aload_n hx hb dL_segmentOf_0 rfl (lv_at hl 2 rfl) ?_
  refine lv_iconst (v := (0 : Int32)) hx hb dL_segmentOf_1 (by decide) ?_
  refine lv_aload_n hx hb dL_segmentOf_2 rfl (lv_at hl 0 rfl) ?_
  refine lv_iload_n hx hb dL_segmentOf_3 rfl (lv_at hl 1 rfl) ?_
  refine zr_cVi (rest := [.int (0 : Int32), .ref (g.2.2 + 318)]) (As := [.int p0]) X hP hS (ct_X7_segmentOf (g := g) (nc := nc) (I := I) (J := J) (O := O) hnI l hf) cw_L_64 (zr_recv X hP (by omega) (zb_ceIo zk_0 (by decide)) rfl) rfl hl.1 (Nat.le_of_ble_eq_true rfl) ⟨Nat.le_of_ble_eq_true rfl, Nat.le_of_ble_eq_true rfl⟩ ⟨Nat.le_of_ble_eq_true rfl, Nat.le_of_ble_eq_true rfl⟩ dL_segmentOf_4 rfl (fun H locs hP hS => ?_)
  refine lv_i2l hx hb dL_segmentOf_7 rfl ?_
  refine zr_last X hP hS hnO dL_segmentOf_8 (fun H locs hP hS => ?_)
  refine lv_goto (tgt := 15) hx hb dL_segmentOf_9 (by decide) ?_
  refine lv_iconst (v := (0 : Int32)) hx hb dL_segmentOf_15 (by decide) ?_
  exact zr_iret X hr hP hS dL_segmentOf_16
set_option maxHeartbeats 4000000 in
set_option maxRecDepth 100000 in
theorem hc1_L_segmentOf {g : zb_G} {nc : Nat} (hnI : 306 ≤ nc) (hnO : 320 ≤ nc) (l : Launch) (hlT : l.stackTraces = false) {p0 : Int32} {I J O : Mem} {r : Int32} (hf : fX7_segmentOf p0 I = some (1, r)) : zb_Ch l g nc yL_segmentOf cL_segmentOf 4 [(0, 9, 12, 25)] 8 169 1 6 [.ref (g.2.2 + 0), .int p0, .ref (g.2.2 + 318)] (zb_ce g I J O) (some (.int (1 : Int32))) (zb_ce g I J O) := by
  refine zb_ofH (own := RL) (by decide +kernel) rfl (Nat.le_of_ble_eq_true rfl) ?_
  intro p e s m args below meth c ls X hr hnc hT hP hl
  have hx := X.1.1
  have hb := X.1.2.1
  have ho := X.1.2.2.2.1
  have hts := X.1.2.2.2.2
  have hS : va_S (zb_A g) s.heap s.heap [] := va_S.rf
  obtain ⟨H, hH⟩ : ∃ H, H = s.heap := ⟨_, rfl⟩
  obtain ⟨locs, hlocs⟩ : ∃ z : List Loc, z = [] := ⟨_, rfl⟩
  rw [← hH] at hP
  have hS : va_S (zb_A g) s.heap H locs := by rw [hH, hlocs]; exact hS
  show W p l e _ s m args below meth c s.heap [] 0 0 _ _
  rw [← hH, ← hlocs]
  have hl : lv_has ls 4 [(0, .ref (g.2.2 + 0)), (1, .int p0), (2, .ref (g.2.2 + 318))] := hl
  refine lv_aload_n hx hb dL_segmentOf_0 rfl (lv_at hl 2 rfl) ?_
  refine lv_iconst (v := (0 : Int32)) hx hb dL_segmentOf_1 (by decide) ?_
  refine lv_aload_n hx hb dL_segmentOf_2 rfl (lv_at hl 0 rfl) ?_
  refine lv_iload_n hx hb dL_segmentOf_3 rfl (lv_at hl 1 rfl) ?_
  refine zr_catch (rest := [.int (0 : Int32), .ref (g.2.2 + 318)]) (As := [.int p0]) X hP hS (cx_X7_segmentOf (g := g) (nc := nc) (I := I) (J := J) (O := O) hnI l hlT (by decide) hf) cw_L_64 (zr_recv X hP (by omega) (zb_ceIo zk_0 (by decide)) rfl) rfl hl.1 (Nat.le_of_ble_eq_true rfl) ⟨Nat.le_of_ble_eq_true rfl, Nat.le_of_ble_eq_true rfl⟩ ⟨Nat.le_of_ble_eq_true rfl, Nat.le_of_ble_eq_true rfl⟩ dL_segmentOf_4 rfl [] ⟨0, 9, 12, 25⟩ [] hT (fun z hz => nomatch hz) (by decide) (by decide) wl_1 wq_1 (fun H locs q hP hS => ?_)
  refine lv_astore_n (lv' := [(3, .ref q), (0, .ref (g.2.2 + 0)), (1, .int p0), (2, .ref (g.2.2 + 318))]) hx hb dL_segmentOf_12 rfl hl (by decide) rfl (fun ls hl => ?_)
  refine lv_iconst (v := (1 : Int32)) hx hb dL_segmentOf_13 (by decide) ?_
  exact zr_iret X hr hP hS dL_segmentOf_14
theorem cw_L_67 : zb_cwV RL 67 yX7_wouldBreak cX7_wouldBreak 4 (some .int) 3 := zb_cwV_of (zb_in 1193 (by decide +kernel) rfl) (zb_in 1194 (by decide +kernel) rfl) (zb_in 1195 (by decide +kernel) rfl) (zb_in 101 (by decide +kernel) rfl) (zb_in 1196 (by decide +kernel) rfl) (by decide +kernel)
set_option maxHeartbeats 4000000 in
set_option maxRecDepth 100000 in
theorem hn_L_wouldBreak {g : zb_G} {nc : Nat} (hnI : 306 ≤ nc) (hnO : 320 ≤ nc) (l : Launch) {p0 : Int32} {p1 : Int32} {p2 : Int32} {I J O : Mem} {r : Int32} (hf : fX7_wouldBreak p0 p1 p2 I = some (0, r)) : zb_Ch l g nc yL_wouldBreak cL_wouldBreak 6 [(0, 12, 15, 25), (0, 12, 19, 19)] 9 192 0 0 [.ref (g.2.2 + 0), .int p0, .int p1, .int p2, .ref (g.2.2 + 318)] (zb_ce g I J O) (some (.int 0)) (zb_ce g I J (wr O 318 0 r)) := by
  refine zb_ofH (own := RL) (by decide +kernel) rfl (Nat.le_of_ble_eq_true rfl) ?_
  intro p e s m args below meth c ls X hr hnc hT hP hl
  have hx := X.1.1
  have hb := X.1.2.1
  have ho := X.1.2.2.2.1
  have hts := X.1.2.2.2.2
  have hS : va_S (zb_A g) s.heap s.heap [] := va_S.rf
  obtain ⟨H, hH⟩ : ∃ H, H = s.heap := ⟨_, rfl⟩
  obtain ⟨locs, hlocs⟩ : ∃ z : List Loc, z = [] := ⟨_, rfl⟩
  rw [← hH] at hP
  have hS : va_S (zb_A g) s.heap H locs := by rw [hH, hlocs]; exact hS
  show W p l e _ s m args below meth c s.heap [] 0 0 _ _
  rw [← hH, ← hlocs]
  have hl : lv_has ls 6 [(0, .ref (g.2.2 + 0)), (1, .int p0), (2, .int p1), (3, .int p2), (4, .ref (g.2.2 + 318))] := hl
  refine lv_aload hx hb dL_wouldBreak_0 (lv_at hl 4 rfl) ?_
  refine lv_iconst (v := (0 : Int32)) hx hb dL_wouldBreak_2 (by decide) ?_
  refine lv_aload_n hx hb dL_wouldBreak_3 rfl (lv_at hl 0 rfl) ?_
  refine lv_iload_n hx hb dL_wouldBreak_4 rfl (lv_at hl 1 rfl) ?_
  refine lv_iload_n hx hb dL_wouldBreak_5 rfl (lv_at hl 2 rfl) ?_
  refine lv_iload_n hx hb dL_wouldBreak_6 rfl (lv_at hl 3 rfl) ?_
  refine zr_cVi (rest := [.int (0 : Int32), .ref (g.2.2 + 318)]) (As := [.int p0, .int p1, .int p2]) X hP hS (ct_X7_wouldBreak (g := g) (nc := nc) (I := I) (J := J) (O := O) hnI l hf) cw_L_67 (zr_recv X hP (by omega) (zb_ceIo zk_0 (by decide)) rfl) rfl hl.1 (Nat.le_of_ble_eq_true rfl) ⟨Nat.le_of_ble_eq_true rfl, Nat.le_of_ble_eq_true rfl⟩ ⟨Nat.le_of_ble_eq_true rfl, Nat.le_of_ble_eq_true rfl⟩ dL_wouldBreak_7 rfl (fun H locs hP hS => ?_)
  refine lv_i2l hx hb dL_wouldBreak_10 rfl ?_
  refine zr_last X hP hS hnO dL_wouldBreak_11 (fun H locs hP hS => ?_)
  refine lv_goto (tgt := 23) hx hb dL_wouldBreak_12 (by decide) ?_
  refine lv_iconst (v := (0 : Int32)) hx hb dL_wouldBreak_23 (by decide) ?_
  exact zr_iret X hr hP hS dL_wouldBreak_24
set_option maxHeartbeats 4000000 in
set_option maxRecDepth 100000 in
theorem hc1_L_wouldBreak {g : zb_G} {nc : Nat} (hnI : 306 ≤ nc) (hnO : 320 ≤ nc) (l : Launch) (hlT : l.stackTraces = false) {p0 : Int32} {p1 : Int32} {p2 : Int32} {I J O : Mem} {r : Int32} (hf : fX7_wouldBreak p0 p1 p2 I = some (1, r)) : zb_Ch l g nc yL_wouldBreak cL_wouldBreak 6 [(0, 12, 15, 25), (0, 12, 19, 19)] 9 192 1 6 [.ref (g.2.2 + 0), .int p0, .int p1, .int p2, .ref (g.2.2 + 318)] (zb_ce g I J O) (some (.int (1 : Int32))) (zb_ce g I J O) := by
  refine zb_ofH (own := RL) (by decide +kernel) rfl (Nat.le_of_ble_eq_true rfl) ?_
  intro p e s m args below meth c ls X hr hnc hT hP hl
  have hx := X.1.1
  have hb := X.1.2.1
  have ho := X.1.2.2.2.1
  have hts := X.1.2.2.2.2
  have hS : va_S (zb_A g) s.heap s.heap [] := va_S.rf
  obtain ⟨H, hH⟩ : ∃ H, H = s.heap := ⟨_, rfl⟩
  obtain ⟨locs, hlocs⟩ : ∃ z : List Loc, z = [] := ⟨_, rfl⟩
  rw [← hH] at hP
  have hS : va_S (zb_A g) s.heap H locs := by rw [hH, hlocs]; exact hS
  show W p l e _ s m args below meth c s.heap [] 0 0 _ _
  rw [← hH, ← hlocs]
  have hl : lv_has ls 6 [(0, .ref (g.2.2 + 0)), (1, .int p0), (2, .int p1), (3, .int p2), (4, .ref (g.2.2 + 318))] := hl
  refine lv_aload hx hb dL_wouldBreak_0 (lv_at hl 4 rfl) ?_
  refine lv_iconst (v := (0 : Int32)) hx hb dL_wouldBreak_2 (by decide) ?_
  refine lv_aload_n hx hb dL_wouldBreak_3 rfl (lv_at hl 0 rfl) ?_
  refine lv_iload_n hx hb dL_wouldBreak_4 rfl (lv_at hl 1 rfl) ?_
  refine lv_iload_n hx hb dL_wouldBreak_5 rfl (lv_at hl 2 rfl) ?_
  refine lv_iload_n hx hb dL_wouldBreak_6 rfl (lv_at hl 3 rfl) ?_
  refine zr_catch (rest := [.int (0 : Int32), .ref (g.2.2 + 318)]) (As := [.int p0, .int p1, .int p2]) X hP hS (cx_X7_wouldBreak (g := g) (nc := nc) (I := I) (J := J) (O := O) hnI l hlT (by decide) hf) cw_L_67 (zr_recv X hP (by omega) (zb_ceIo zk_0 (by decide)) rfl) rfl hl.1 (Nat.le_of_ble_eq_true rfl) ⟨Nat.le_of_ble_eq_true rfl, Nat.le_of_ble_eq_true rfl⟩ ⟨Nat.le_of_ble_eq_true rfl, Nat.le_of_ble_eq_true rfl⟩ dL_wouldBreak_7 rfl [] ⟨0, 12, 15, 25⟩ [⟨0, 12, 19, 19⟩] hT (fun z hz => nomatch hz) (by decide) (by decide) wl_1 wq_1 (fun H locs q hP hS => ?_)
  refine lv_astore (lv' := [(5, .ref q), (0, .ref (g.2.2 + 0)), (1, .int p0), (2, .int p1), (3, .int p2), (4, .ref (g.2.2 + 318))]) hx hb dL_wouldBreak_15 hl (by decide) rfl (fun ls hl => ?_)
  refine lv_iconst (v := (1 : Int32)) hx hb dL_wouldBreak_17 (by decide) ?_
  exact zr_iret X hr hP hS dL_wouldBreak_18
set_option maxHeartbeats 4000000 in
set_option maxRecDepth 100000 in
theorem hc2_L_wouldBreak {g : zb_G} {nc : Nat} (hnI : 306 ≤ nc) (hnO : 320 ≤ nc) (l : Launch) (hlT : l.stackTraces = false) {p0 : Int32} {p1 : Int32} {p2 : Int32} {I J O : Mem} {r : Int32} (hf : fX7_wouldBreak p0 p1 p2 I = some (2, r)) : zb_Ch l g nc yL_wouldBreak cL_wouldBreak 6 [(0, 12, 15, 25), (0, 12, 19, 19)] 9 192 1 6 [.ref (g.2.2 + 0), .int p0, .int p1, .int p2, .ref (g.2.2 + 318)] (zb_ce g I J O) (some (.int (2 : Int32))) (zb_ce g I J O) := by
  refine zb_ofH (own := RL) (by decide +kernel) rfl (Nat.le_of_ble_eq_true rfl) ?_
  intro p e s m args below meth c ls X hr hnc hT hP hl
  have hx := X.1.1
  have hb := X.1.2.1
  have ho := X.1.2.2.2.1
  have hts := X.1.2.2.2.2
  have hS : va_S (zb_A g) s.heap s.heap [] := va_S.rf
  obtain ⟨H, hH⟩ : ∃ H, H = s.heap := ⟨_, rfl⟩
  obtain ⟨locs, hlocs⟩ : ∃ z : List Loc, z = [] := ⟨_, rfl⟩
  rw [← hH] at hP
  have hS : va_S (zb_A g) s.heap H locs := by rw [hH, hlocs]; exact hS
  show W p l e _ s m args below meth c s.heap [] 0 0 _ _
  rw [← hH, ← hlocs]
  have hl : lv_has ls 6 [(0, .ref (g.2.2 + 0)), (1, .int p0), (2, .int p1), (3, .int p2), (4, .ref (g.2.2 + 318))] := hl
  refine lv_aload hx hb dL_wouldBreak_0 (lv_at hl 4 rfl) ?_
  refine lv_iconst (v := (0 : Int32)) hx hb dL_wouldBreak_2 (by decide) ?_
  refine lv_aload_n hx hb dL_wouldBreak_3 rfl (lv_at hl 0 rfl) ?_
  refine lv_iload_n hx hb dL_wouldBreak_4 rfl (lv_at hl 1 rfl) ?_
  refine lv_iload_n hx hb dL_wouldBreak_5 rfl (lv_at hl 2 rfl) ?_
  refine lv_iload_n hx hb dL_wouldBreak_6 rfl (lv_at hl 3 rfl) ?_
  refine zr_catch (rest := [.int (0 : Int32), .ref (g.2.2 + 318)]) (As := [.int p0, .int p1, .int p2]) X hP hS (cx_X7_wouldBreak (g := g) (nc := nc) (I := I) (J := J) (O := O) hnI l hlT (by decide) hf) cw_L_67 (zr_recv X hP (by omega) (zb_ceIo zk_0 (by decide)) rfl) rfl hl.1 (Nat.le_of_ble_eq_true rfl) ⟨Nat.le_of_ble_eq_true rfl, Nat.le_of_ble_eq_true rfl⟩ ⟨Nat.le_of_ble_eq_true rfl, Nat.le_of_ble_eq_true rfl⟩ dL_wouldBreak_7 rfl [⟨0, 12, 15, 25⟩] ⟨0, 12, 19, 19⟩ [] hT (fun z hz => Or.inr (by rw [List.mem_singleton.mp hz]; exact ⟨by decide, zb_en 1, hts _ wl_1, hnc.1⟩)) (by decide) (by decide) wl_2 wq_2 (fun H locs q hP hS => ?_)
  refine lv_astore (lv' := [(5, .ref q), (0, .ref (g.2.2 + 0)), (1, .int p0), (2, .int p1), (3, .int p2), (4, .ref (g.2.2 + 318))]) hx hb dL_wouldBreak_19 hl (by decide) rfl (fun ls hl => ?_)
  refine lv_iconst (v := (2 : Int32)) hx hb dL_wouldBreak_21 (by decide) ?_
  exact zr_iret X hr hP hS dL_wouldBreak_22
theorem cw_L_71 : zb_cwV RL 71 yX7_wouldDrift cX7_wouldDrift 4 (some .int) 3 := zb_cwV_of (zb_in 1201 (by decide +kernel) rfl) (zb_in 1202 (by decide +kernel) rfl) (zb_in 1203 (by decide +kernel) rfl) (zb_in 101 (by decide +kernel) rfl) (zb_in 1204 (by decide +kernel) rfl) (by decide +kernel)
set_option maxHeartbeats 4000000 in
set_option maxRecDepth 100000 in
theorem hn_L_wouldDrift {g : zb_G} {nc : Nat} (hnI : 306 ≤ nc) (hnO : 320 ≤ nc) (l : Launch) {p0 : Int32} {p1 : Int32} {p2 : Int32} {I J O : Mem} {r : Int32} (hf : fX7_wouldDrift p0 p1 p2 I = some (0, r)) : zb_Ch l g nc yL_wouldDrift cL_wouldDrift 6 [(0, 12, 15, 25), (0, 12, 19, 19)] 9 192 0 0 [.ref (g.2.2 + 0), .int p0, .int p1, .int p2, .ref (g.2.2 + 318)] (zb_ce g I J O) (some (.int 0)) (zb_ce g I J (wr O 318 0 r)) := by
  refine zb_ofH (own := RL) (by decide +kernel) rfl (Nat.le_of_ble_eq_true rfl) ?_
  intro p e s m args below meth c ls X hr hnc hT hP hl
  have hx := X.1.1
  have hb := X.1.2.1
  have ho := X.1.2.2.2.1
  have hts := X.1.2.2.2.2
  have hS : va_S (zb_A g) s.heap s.heap [] := va_S.rf
  obtain ⟨H, hH⟩ : ∃ H, H = s.heap := ⟨_, rfl⟩
  obtain ⟨locs, hlocs⟩ : ∃ z : List Loc, z = [] := ⟨_, rfl⟩
  rw [← hH] at hP
  have hS : va_S (zb_A g) s.heap H locs := by rw [hH, hlocs]; exact hS
  show W p l e _ s m args below meth c s.heap [] 0 0 _ _
  rw [← hH, ← hlocs]
  have hl : lv_has ls 6 [(0, .ref (g.2.2 + 0)), (1, .int p0), (2, .int p1), (3, .int p2), (4, .ref (g.2.2 + 318))] := hl
  refine lv_aload hx hb dL_wouldDrift_0 (lv_at hl 4 rfl) ?_
  refine lv_iconst (v := (0 : Int32)) hx hb dL_wouldDrift_2 (by decide) ?_
  refine lv_aload_n hx hb dL_wouldDrift_3 rfl (lv_at hl 0 rfl) ?_
  refine lv_iload_n hx hb dL_wouldDrift_4 rfl (lv_at hl 1 rfl) ?_
  refine lv_iload_n hx hb dL_wouldDrift_5 rfl (lv_at hl 2 rfl) ?_
  refine lv_iload_n hx hb dL_wouldDrift_6 rfl (lv_at hl 3 rfl) ?_
  refine zr_cVi (rest := [.int (0 : Int32), .ref (g.2.2 + 318)]) (As := [.int p0, .int p1, .int p2]) X hP hS (ct_X7_wouldDrift (g := g) (nc := nc) (I := I) (J := J) (O := O) hnI l hf) cw_L_71 (zr_recv X hP (by omega) (zb_ceIo zk_0 (by decide)) rfl) rfl hl.1 (Nat.le_of_ble_eq_true rfl) ⟨Nat.le_of_ble_eq_true rfl, Nat.le_of_ble_eq_true rfl⟩ ⟨Nat.le_of_ble_eq_true rfl, Nat.le_of_ble_eq_true rfl⟩ dL_wouldDrift_7 rfl (fun H locs hP hS => ?_)
  refine lv_i2l hx hb dL_wouldDrift_10 rfl ?_
  refine zr_last X hP hS hnO dL_wouldDrift_11 (fun H locs hP hS => ?_)
  refine lv_goto (tgt := 23) hx hb dL_wouldDrift_12 (by decide) ?_
  refine lv_iconst (v := (0 : Int32)) hx hb dL_wouldDrift_23 (by decide) ?_
  exact zr_iret X hr hP hS dL_wouldDrift_24
set_option maxHeartbeats 4000000 in
set_option maxRecDepth 100000 in
theorem hc1_L_wouldDrift {g : zb_G} {nc : Nat} (hnI : 306 ≤ nc) (hnO : 320 ≤ nc) (l : Launch) (hlT : l.stackTraces = false) {p0 : Int32} {p1 : Int32} {p2 : Int32} {I J O : Mem} {r : Int32} (hf : fX7_wouldDrift p0 p1 p2 I = some (1, r)) : zb_Ch l g nc yL_wouldDrift cL_wouldDrift 6 [(0, 12, 15, 25), (0, 12, 19, 19)] 9 192 1 6 [.ref (g.2.2 + 0), .int p0, .int p1, .int p2, .ref (g.2.2 + 318)] (zb_ce g I J O) (some (.int (1 : Int32))) (zb_ce g I J O) := by
  refine zb_ofH (own := RL) (by decide +kernel) rfl (Nat.le_of_ble_eq_true rfl) ?_
  intro p e s m args below meth c ls X hr hnc hT hP hl
  have hx := X.1.1
  have hb := X.1.2.1
  have ho := X.1.2.2.2.1
  have hts := X.1.2.2.2.2
  have hS : va_S (zb_A g) s.heap s.heap [] := va_S.rf
  obtain ⟨H, hH⟩ : ∃ H, H = s.heap := ⟨_, rfl⟩
  obtain ⟨locs, hlocs⟩ : ∃ z : List Loc, z = [] := ⟨_, rfl⟩
  rw [← hH] at hP
  have hS : va_S (zb_A g) s.heap H locs := by rw [hH, hlocs]; exact hS
  show W p l e _ s m args below meth c s.heap [] 0 0 _ _
  rw [← hH, ← hlocs]
  have hl : lv_has ls 6 [(0, .ref (g.2.2 + 0)), (1, .int p0), (2, .int p1), (3, .int p2), (4, .ref (g.2.2 + 318))] := hl
  refine lv_aload hx hb dL_wouldDrift_0 (lv_at hl 4 rfl) ?_
  refine lv_iconst (v := (0 : Int32)) hx hb dL_wouldDrift_2 (by decide) ?_
  refine lv_aload_n hx hb dL_wouldDrift_3 rfl (lv_at hl 0 rfl) ?_
  refine lv_iload_n hx hb dL_wouldDrift_4 rfl (lv_at hl 1 rfl) ?_
  refine lv_iload_n hx hb dL_wouldDrift_5 rfl (lv_at hl 2 rfl) ?_
  refine lv_iload_n hx hb dL_wouldDrift_6 rfl (lv_at hl 3 rfl) ?_
  refine zr_catch (rest := [.int (0 : Int32), .ref (g.2.2 + 318)]) (As := [.int p0, .int p1, .int p2]) X hP hS (cx_X7_wouldDrift (g := g) (nc := nc) (I := I) (J := J) (O := O) hnI l hlT (by decide) hf) cw_L_71 (zr_recv X hP (by omega) (zb_ceIo zk_0 (by decide)) rfl) rfl hl.1 (Nat.le_of_ble_eq_true rfl) ⟨Nat.le_of_ble_eq_true rfl, Nat.le_of_ble_eq_true rfl⟩ ⟨Nat.le_of_ble_eq_true rfl, Nat.le_of_ble_eq_true rfl⟩ dL_wouldDrift_7 rfl [] ⟨0, 12, 15, 25⟩ [⟨0, 12, 19, 19⟩] hT (fun z hz => nomatch hz) (by decide) (by decide) wl_1 wq_1 (fun H locs q hP hS => ?_)
  refine lv_astore (lv' := [(5, .ref q), (0, .ref (g.2.2 + 0)), (1, .int p0), (2, .int p1), (3, .int p2), (4, .ref (g.2.2 + 318))]) hx hb dL_wouldDrift_15 hl (by decide) rfl (fun ls hl => ?_)
  refine lv_iconst (v := (1 : Int32)) hx hb dL_wouldDrift_17 (by decide) ?_
  exact zr_iret X hr hP hS dL_wouldDrift_18
set_option maxHeartbeats 4000000 in
set_option maxRecDepth 100000 in
theorem hc2_L_wouldDrift {g : zb_G} {nc : Nat} (hnI : 306 ≤ nc) (hnO : 320 ≤ nc) (l : Launch) (hlT : l.stackTraces = false) {p0 : Int32} {p1 : Int32} {p2 : Int32} {I J O : Mem} {r : Int32} (hf : fX7_wouldDrift p0 p1 p2 I = some (2, r)) : zb_Ch l g nc yL_wouldDrift cL_wouldDrift 6 [(0, 12, 15, 25), (0, 12, 19, 19)] 9 192 1 6 [.ref (g.2.2 + 0), .int p0, .int p1, .int p2, .ref (g.2.2 + 318)] (zb_ce g I J O) (some (.int (2 : Int32))) (zb_ce g I J O) := by
  refine zb_ofH (own := RL) (by decide +kernel) rfl (Nat.le_of_ble_eq_true rfl) ?_
  intro p e s m args below meth c ls X hr hnc hT hP hl
  have hx := X.1.1
  have hb := X.1.2.1
  have ho := X.1.2.2.2.1
  have hts := X.1.2.2.2.2
  have hS : va_S (zb_A g) s.heap s.heap [] := va_S.rf
  obtain ⟨H, hH⟩ : ∃ H, H = s.heap := ⟨_, rfl⟩
  obtain ⟨locs, hlocs⟩ : ∃ z : List Loc, z = [] := ⟨_, rfl⟩
  rw [← hH] at hP
  have hS : va_S (zb_A g) s.heap H locs := by rw [hH, hlocs]; exact hS
  show W p l e _ s m args below meth c s.heap [] 0 0 _ _
  rw [← hH, ← hlocs]
  have hl : lv_has ls 6 [(0, .ref (g.2.2 + 0)), (1, .int p0), (2, .int p1), (3, .int p2), (4, .ref (g.2.2 + 318))] := hl
  refine lv_aload hx hb dL_wouldDrift_0 (lv_at hl 4 rfl) ?_
  refine lv_iconst (v := (0 : Int32)) hx hb dL_wouldDrift_2 (by decide) ?_
  refine lv_aload_n hx hb dL_wouldDrift_3 rfl (lv_at hl 0 rfl) ?_
  refine lv_iload_n hx hb dL_wouldDrift_4 rfl (lv_at hl 1 rfl) ?_
  refine lv_iload_n hx hb dL_wouldDrift_5 rfl (lv_at hl 2 rfl) ?_
  refine lv_iload_n hx hb dL_wouldDrift_6 rfl (lv_at hl 3 rfl) ?_
  refine zr_catch (rest := [.int (0 : Int32), .ref (g.2.2 + 318)]) (As := [.int p0, .int p1, .int p2]) X hP hS (cx_X7_wouldDrift (g := g) (nc := nc) (I := I) (J := J) (O := O) hnI l hlT (by decide) hf) cw_L_71 (zr_recv X hP (by omega) (zb_ceIo zk_0 (by decide)) rfl) rfl hl.1 (Nat.le_of_ble_eq_true rfl) ⟨Nat.le_of_ble_eq_true rfl, Nat.le_of_ble_eq_true rfl⟩ ⟨Nat.le_of_ble_eq_true rfl, Nat.le_of_ble_eq_true rfl⟩ dL_wouldDrift_7 rfl [⟨0, 12, 15, 25⟩] ⟨0, 12, 19, 19⟩ [] hT (fun z hz => Or.inr (by rw [List.mem_singleton.mp hz]; exact ⟨by decide, zb_en 1, hts _ wl_1, hnc.1⟩)) (by decide) (by decide) wl_2 wq_2 (fun H locs q hP hS => ?_)
  refine lv_astore (lv' := [(5, .ref q), (0, .ref (g.2.2 + 0)), (1, .int p0), (2, .int p1), (3, .int p2), (4, .ref (g.2.2 + 318))]) hx hb dL_wouldDrift_19 hl (by decide) rfl (fun ls hl => ?_)
  refine lv_iconst (v := (2 : Int32)) hx hb dL_wouldDrift_21 (by decide) ?_
  exact zr_iret X hr hP hS dL_wouldDrift_22
theorem cw_L_74 : zb_cwV RL 74 yX7_lacks cX7_lacks 2 (some .int) 1 := zb_cwV_of (zb_in 1208 (by decide +kernel) rfl) (zb_in 1209 (by decide +kernel) rfl) (zb_in 1210 (by decide +kernel) rfl) (zb_in 101 (by decide +kernel) rfl) (zb_in 1211 (by decide +kernel) rfl) (by decide +kernel)
set_option maxHeartbeats 4000000 in
set_option maxRecDepth 100000 in
theorem hn_L_lacks {g : zb_G} {nc : Nat} (hnI : 306 ≤ nc) (hnO : 320 ≤ nc) (l : Launch) {p0 : Int32} {I J O : Mem} {r : Int32} (hf : fX7_lacks p0 I = some (0, r)) : zb_Ch l g nc yL_lacks cL_lacks 4 [(0, 9, 12, 19)] 8 167 0 0 [.ref (g.2.2 + 0), .int p0, .ref (g.2.2 + 318)] (zb_ce g I J O) (some (.int 0)) (zb_ce g I J (wr O 318 0 r)) := by
  refine zb_ofH (own := RL) (by decide +kernel) rfl (Nat.le_of_ble_eq_true rfl) ?_
  intro p e s m args below meth c ls X hr hnc hT hP hl
  have hx := X.1.1
  have hb := X.1.2.1
  have ho := X.1.2.2.2.1
  have hts := X.1.2.2.2.2
  have hS : va_S (zb_A g) s.heap s.heap [] := va_S.rf
  obtain ⟨H, hH⟩ : ∃ H, H = s.heap := ⟨_, rfl⟩
  obtain ⟨locs, hlocs⟩ : ∃ z : List Loc, z = [] := ⟨_, rfl⟩
  rw [← hH] at hP
  have hS : va_S (zb_A g) s.heap H locs := by rw [hH, hlocs]; exact hS
  show W p l e _ s m args below meth c s.heap [] 0 0 _ _
  rw [← hH, ← hlocs]
  have hl : lv_has ls 4 [(0, .ref (g.2.2 + 0)), (1, .int p0), (2, .ref (g.2.2 + 318))] := hl
  refine lv_aload_n hx hb dL_lacks_0 rfl (lv_at hl 2 rfl) ?_
  refine lv_iconst (v := (0 : Int32)) hx hb dL_lacks_1 (by decide) ?_
  refine lv_aload_n hx hb dL_lacks_2 rfl (lv_at hl 0 rfl) ?_
  refine lv_iload_n hx hb dL_lacks_3 rfl (lv_at hl 1 rfl) ?_
  refine zr_cVi (rest := [.int (0 : Int32), .ref (g.2.2 + 318)]) (As := [.int p0]) X hP hS (ct_X7_lacks (g := g) (nc := nc) (I := I) (J := J) (O := O) hnI l hf) cw_L_74 (zr_recv X hP (by omega) (zb_ceIo zk_0 (by decide)) rfl) rfl hl.1 (Nat.le_of_ble_eq_true rfl) ⟨Nat.le_of_ble_eq_true rfl, Nat.le_of_ble_eq_true rfl⟩ ⟨Nat.le_of_ble_eq_true rfl, Nat.le_of_ble_eq_true rfl⟩ dL_lacks_4 rfl (fun H locs hP hS => ?_)
  refine lv_i2l hx hb dL_lacks_7 rfl ?_
  refine zr_last X hP hS hnO dL_lacks_8 (fun H locs hP hS => ?_)
  refine lv_goto (tgt := 15) hx hb dL_lacks_9 (by decide) ?_
  refine lv_iconst (v := (0 : Int32)) hx hb dL_lacks_15 (by decide) ?_
  exact zr_iret X hr hP hS dL_lacks_16
set_option maxHeartbeats 4000000 in
set_option maxRecDepth 100000 in
theorem hc1_L_lacks {g : zb_G} {nc : Nat} (hnI : 306 ≤ nc) (hnO : 320 ≤ nc) (l : Launch) (hlT : l.stackTraces = false) {p0 : Int32} {I J O : Mem} {r : Int32} (hf : fX7_lacks p0 I = some (2, r)) : zb_Ch l g nc yL_lacks cL_lacks 4 [(0, 9, 12, 19)] 8 167 1 6 [.ref (g.2.2 + 0), .int p0, .ref (g.2.2 + 318)] (zb_ce g I J O) (some (.int (1 : Int32))) (zb_ce g I J O) := by
  refine zb_ofH (own := RL) (by decide +kernel) rfl (Nat.le_of_ble_eq_true rfl) ?_
  intro p e s m args below meth c ls X hr hnc hT hP hl
  have hx := X.1.1
  have hb := X.1.2.1
  have ho := X.1.2.2.2.1
  have hts := X.1.2.2.2.2
  have hS : va_S (zb_A g) s.heap s.heap [] := va_S.rf
  obtain ⟨H, hH⟩ : ∃ H, H = s.heap := ⟨_, rfl⟩
  obtain ⟨locs, hlocs⟩ : ∃ z : List Loc, z = [] := ⟨_, rfl⟩
  rw [← hH] at hP
  have hS : va_S (zb_A g) s.heap H locs := by rw [hH, hlocs]; exact hS
  show W p l e _ s m args below meth c s.heap [] 0 0 _ _
  rw [← hH, ← hlocs]
  have hl : lv_has ls 4 [(0, .ref (g.2.2 + 0)), (1, .int p0), (2, .ref (g.2.2 + 318))] := hl
  refine lv_aload_n hx hb dL_lacks_0 rfl (lv_at hl 2 rfl) ?_
  refine lv_iconst (v := (0 : Int32)) hx hb dL_lacks_1 (by decide) ?_
  refine lv_aload_n hx hb dL_lacks_2 rfl (lv_at hl 0 rfl) ?_
  refine lv_iload_n hx hb dL_lacks_3 rfl (lv_at hl 1 rfl) ?_
  refine zr_catch (rest := [.int (0 : Int32), .ref (g.2.2 + 318)]) (As := [.int p0]) X hP hS (cx_X7_lacks (g := g) (nc := nc) (I := I) (J := J) (O := O) hnI l hlT (by decide) hf) cw_L_74 (zr_recv X hP (by omega) (zb_ceIo zk_0 (by decide)) rfl) rfl hl.1 (Nat.le_of_ble_eq_true rfl) ⟨Nat.le_of_ble_eq_true rfl, Nat.le_of_ble_eq_true rfl⟩ ⟨Nat.le_of_ble_eq_true rfl, Nat.le_of_ble_eq_true rfl⟩ dL_lacks_4 rfl [] ⟨0, 9, 12, 19⟩ [] hT (fun z hz => nomatch hz) (by decide) (by decide) wl_2 wq_2 (fun H locs q hP hS => ?_)
  refine lv_astore_n (lv' := [(3, .ref q), (0, .ref (g.2.2 + 0)), (1, .int p0), (2, .ref (g.2.2 + 318))]) hx hb dL_lacks_12 rfl hl (by decide) rfl (fun ls hl => ?_)
  refine lv_iconst (v := (1 : Int32)) hx hb dL_lacks_13 (by decide) ?_
  exact zr_iret X hr hP hS dL_lacks_14
theorem cw_L_77 : zb_cwV RL 77 yX7_plan cX7_plan 2 (some .int) 1 := zb_cwV_of (zb_in 1216 (by decide +kernel) rfl) (zb_in 1217 (by decide +kernel) rfl) (zb_in 1218 (by decide +kernel) rfl) (zb_in 101 (by decide +kernel) rfl) (zb_in 1219 (by decide +kernel) rfl) (by decide +kernel)
set_option maxHeartbeats 4000000 in
set_option maxRecDepth 100000 in
theorem hn_L_plan {g : zb_G} {nc : Nat} (hnI : 306 ≤ nc) (hnO : 320 ≤ nc) (l : Launch) {p0 : Int32} {I J O : Mem} {r : Int32} (hf : fX7_plan p0 I = some (0, r)) : zb_Ch l g nc yL_plan cL_plan 4 [(0, 9, 12, 19)] 8 167 0 0 [.ref (g.2.2 + 0), .int p0, .ref (g.2.2 + 318)] (zb_ce g I J O) (some (.int 0)) (zb_ce g I J (wr O 318 0 r)) := by
  refine zb_ofH (own := RL) (by decide +kernel) rfl (Nat.le_of_ble_eq_true rfl) ?_
  intro p e s m args below meth c ls X hr hnc hT hP hl
  have hx := X.1.1
  have hb := X.1.2.1
  have ho := X.1.2.2.2.1
  have hts := X.1.2.2.2.2
  have hS : va_S (zb_A g) s.heap s.heap [] := va_S.rf
  obtain ⟨H, hH⟩ : ∃ H, H = s.heap := ⟨_, rfl⟩
  obtain ⟨locs, hlocs⟩ : ∃ z : List Loc, z = [] := ⟨_, rfl⟩
  rw [← hH] at hP
  have hS : va_S (zb_A g) s.heap H locs := by rw [hH, hlocs]; exact hS
  show W p l e _ s m args below meth c s.heap [] 0 0 _ _
  rw [← hH, ← hlocs]
  have hl : lv_has ls 4 [(0, .ref (g.2.2 + 0)), (1, .int p0), (2, .ref (g.2.2 + 318))] := hl
  refine lv_aload_n hx hb dL_plan_0 rfl (lv_at hl 2 rfl) ?_
  refine lv_iconst (v := (0 : Int32)) hx hb dL_plan_1 (by decide) ?_
  refine lv_aload_n hx hb dL_plan_2 rfl (lv_at hl 0 rfl) ?_
  refine lv_iload_n hx hb dL_plan_3 rfl (lv_at hl 1 rfl) ?_
  refine zr_cVi (rest := [.int (0 : Int32), .ref (g.2.2 + 318)]) (As := [.int p0]) X hP hS (ct_X7_plan (g := g) (nc := nc) (I := I) (J := J) (O := O) hnI l hf) cw_L_77 (zr_recv X hP (by omega) (zb_ceIo zk_0 (by decide)) rfl) rfl hl.1 (Nat.le_of_ble_eq_true rfl) ⟨Nat.le_of_ble_eq_true rfl, Nat.le_of_ble_eq_true rfl⟩ ⟨Nat.le_of_ble_eq_true rfl, Nat.le_of_ble_eq_true rfl⟩ dL_plan_4 rfl (fun H locs hP hS => ?_)
  refine lv_i2l hx hb dL_plan_7 rfl ?_
  refine zr_last X hP hS hnO dL_plan_8 (fun H locs hP hS => ?_)
  refine lv_goto (tgt := 15) hx hb dL_plan_9 (by decide) ?_
  refine lv_iconst (v := (0 : Int32)) hx hb dL_plan_15 (by decide) ?_
  exact zr_iret X hr hP hS dL_plan_16
set_option maxHeartbeats 4000000 in
set_option maxRecDepth 100000 in
theorem hc1_L_plan {g : zb_G} {nc : Nat} (hnI : 306 ≤ nc) (hnO : 320 ≤ nc) (l : Launch) (hlT : l.stackTraces = false) {p0 : Int32} {I J O : Mem} {r : Int32} (hf : fX7_plan p0 I = some (2, r)) : zb_Ch l g nc yL_plan cL_plan 4 [(0, 9, 12, 19)] 8 167 1 6 [.ref (g.2.2 + 0), .int p0, .ref (g.2.2 + 318)] (zb_ce g I J O) (some (.int (1 : Int32))) (zb_ce g I J O) := by
  refine zb_ofH (own := RL) (by decide +kernel) rfl (Nat.le_of_ble_eq_true rfl) ?_
  intro p e s m args below meth c ls X hr hnc hT hP hl
  have hx := X.1.1
  have hb := X.1.2.1
  have ho := X.1.2.2.2.1
  have hts := X.1.2.2.2.2
  have hS : va_S (zb_A g) s.heap s.heap [] := va_S.rf
  obtain ⟨H, hH⟩ : ∃ H, H = s.heap := ⟨_, rfl⟩
  obtain ⟨locs, hlocs⟩ : ∃ z : List Loc, z = [] := ⟨_, rfl⟩
  rw [← hH] at hP
  have hS : va_S (zb_A g) s.heap H locs := by rw [hH, hlocs]; exact hS
  show W p l e _ s m args below meth c s.heap [] 0 0 _ _
  rw [← hH, ← hlocs]
  have hl : lv_has ls 4 [(0, .ref (g.2.2 + 0)), (1, .int p0), (2, .ref (g.2.2 + 318))] := hl
  refine lv_aload_n hx hb dL_plan_0 rfl (lv_at hl 2 rfl) ?_
  refine lv_iconst (v := (0 : Int32)) hx hb dL_plan_1 (by decide) ?_
  refine lv_aload_n hx hb dL_plan_2 rfl (lv_at hl 0 rfl) ?_
  refine lv_iload_n hx hb dL_plan_3 rfl (lv_at hl 1 rfl) ?_
  refine zr_catch (rest := [.int (0 : Int32), .ref (g.2.2 + 318)]) (As := [.int p0]) X hP hS (cx_X7_plan (g := g) (nc := nc) (I := I) (J := J) (O := O) hnI l hlT (by decide) hf) cw_L_77 (zr_recv X hP (by omega) (zb_ceIo zk_0 (by decide)) rfl) rfl hl.1 (Nat.le_of_ble_eq_true rfl) ⟨Nat.le_of_ble_eq_true rfl, Nat.le_of_ble_eq_true rfl⟩ ⟨Nat.le_of_ble_eq_true rfl, Nat.le_of_ble_eq_true rfl⟩ dL_plan_4 rfl [] ⟨0, 9, 12, 19⟩ [] hT (fun z hz => nomatch hz) (by decide) (by decide) wl_2 wq_2 (fun H locs q hP hS => ?_)
  refine lv_astore_n (lv' := [(3, .ref q), (0, .ref (g.2.2 + 0)), (1, .int p0), (2, .ref (g.2.2 + 318))]) hx hb dL_plan_12 rfl hl (by decide) rfl (fun ls hl => ?_)
  refine lv_iconst (v := (1 : Int32)) hx hb dL_plan_13 (by decide) ?_
  exact zr_iret X hr hP hS dL_plan_14
theorem cw_L_80 : zb_cwV RL 80 yX7_planLength cX7_planLength 3 (some .int) 1 := zb_cwV_of (zb_in 1223 (by decide +kernel) rfl) (zb_in 1224 (by decide +kernel) rfl) (zb_in 1225 (by decide +kernel) rfl) (zb_in 101 (by decide +kernel) rfl) (zb_in 1226 (by decide +kernel) rfl) (by decide +kernel)
set_option maxHeartbeats 4000000 in
set_option maxRecDepth 100000 in
theorem hn_L_planLength {g : zb_G} {nc : Nat} (hnI : 306 ≤ nc) (hnO : 320 ≤ nc) (l : Launch) {p0 : Int32} {I J O : Mem} {r : Int32} (hf : fX7_planLength p0 I = some (0, r)) : zb_Ch l g nc yL_planLength cL_planLength 4 [(0, 9, 12, 19)] 8 168 0 0 [.ref (g.2.2 + 0), .int p0, .ref (g.2.2 + 318)] (zb_ce g I J O) (some (.int 0)) (zb_ce g I J (wr O 318 0 r)) := by
  refine zb_ofH (own := RL) (by decide +kernel) rfl (Nat.le_of_ble_eq_true rfl) ?_
  intro p e s m args below meth c ls X hr hnc hT hP hl
  have hx := X.1.1
  have hb := X.1.2.1
  have ho := X.1.2.2.2.1
  have hts := X.1.2.2.2.2
  have hS : va_S (zb_A g) s.heap s.heap [] := va_S.rf
  obtain ⟨H, hH⟩ : ∃ H, H = s.heap := ⟨_, rfl⟩
  obtain ⟨locs, hlocs⟩ : ∃ z : List Loc, z = [] := ⟨_, rfl⟩
  rw [← hH] at hP
  have hS : va_S (zb_A g) s.heap H locs := by rw [hH, hlocs]; exact hS
  show W p l e _ s m args below meth c s.heap [] 0 0 _ _
  rw [← hH, ← hlocs]
  have hl : lv_has ls 4 [(0, .ref (g.2.2 + 0)), (1, .int p0), (2, .ref (g.2.2 + 318))] := hl
  refine lv_aload_n hx hb dL_planLength_0 rfl (lv_at hl 2 rfl) ?_
  refine lv_iconst (v := (0 : Int32)) hx hb dL_planLength_1 (by decide) ?_
  refine lv_aload_n hx hb dL_planLength_2 rfl (lv_at hl 0 rfl) ?_
  refine lv_iload_n hx hb dL_planLength_3 rfl (lv_at hl 1 rfl) ?_
  refine zr_cVi (rest := [.int (0 : Int32), .ref (g.2.2 + 318)]) (As := [.int p0]) X hP hS (ct_X7_planLength (g := g) (nc := nc) (I := I) (J := J) (O := O) hnI l hf) cw_L_80 (zr_recv X hP (by omega) (zb_ceIo zk_0 (by decide)) rfl) rfl hl.1 (Nat.le_of_ble_eq_true rfl) ⟨Nat.le_of_ble_eq_true rfl, Nat.le_of_ble_eq_true rfl⟩ ⟨Nat.le_of_ble_eq_true rfl, Nat.le_of_ble_eq_true rfl⟩ dL_planLength_4 rfl (fun H locs hP hS => ?_)
  refine lv_i2l hx hb dL_planLength_7 rfl ?_
  refine zr_last X hP hS hnO dL_planLength_8 (fun H locs hP hS => ?_)
  refine lv_goto (tgt := 15) hx hb dL_planLength_9 (by decide) ?_
  refine lv_iconst (v := (0 : Int32)) hx hb dL_planLength_15 (by decide) ?_
  exact zr_iret X hr hP hS dL_planLength_16
set_option maxHeartbeats 4000000 in
set_option maxRecDepth 100000 in
theorem hc1_L_planLength {g : zb_G} {nc : Nat} (hnI : 306 ≤ nc) (hnO : 320 ≤ nc) (l : Launch) (hlT : l.stackTraces = false) {p0 : Int32} {I J O : Mem} {r : Int32} (hf : fX7_planLength p0 I = some (2, r)) : zb_Ch l g nc yL_planLength cL_planLength 4 [(0, 9, 12, 19)] 8 168 1 6 [.ref (g.2.2 + 0), .int p0, .ref (g.2.2 + 318)] (zb_ce g I J O) (some (.int (1 : Int32))) (zb_ce g I J O) := by
  refine zb_ofH (own := RL) (by decide +kernel) rfl (Nat.le_of_ble_eq_true rfl) ?_
  intro p e s m args below meth c ls X hr hnc hT hP hl
  have hx := X.1.1
  have hb := X.1.2.1
  have ho := X.1.2.2.2.1
  have hts := X.1.2.2.2.2
  have hS : va_S (zb_A g) s.heap s.heap [] := va_S.rf
  obtain ⟨H, hH⟩ : ∃ H, H = s.heap := ⟨_, rfl⟩
  obtain ⟨locs, hlocs⟩ : ∃ z : List Loc, z = [] := ⟨_, rfl⟩
  rw [← hH] at hP
  have hS : va_S (zb_A g) s.heap H locs := by rw [hH, hlocs]; exact hS
  show W p l e _ s m args below meth c s.heap [] 0 0 _ _
  rw [← hH, ← hlocs]
  have hl : lv_has ls 4 [(0, .ref (g.2.2 + 0)), (1, .int p0), (2, .ref (g.2.2 + 318))] := hl
  refine lv_aload_n hx hb dL_planLength_0 rfl (lv_at hl 2 rfl) ?_
  refine lv_iconst (v := (0 : Int32)) hx hb dL_planLength_1 (by decide) ?_
  refine lv_aload_n hx hb dL_planLength_2 rfl (lv_at hl 0 rfl) ?_
  refine lv_iload_n hx hb dL_planLength_3 rfl (lv_at hl 1 rfl) ?_
  refine zr_catch (rest := [.int (0 : Int32), .ref (g.2.2 + 318)]) (As := [.int p0]) X hP hS (cx_X7_planLength (g := g) (nc := nc) (I := I) (J := J) (O := O) hnI l hlT (by decide) hf) cw_L_80 (zr_recv X hP (by omega) (zb_ceIo zk_0 (by decide)) rfl) rfl hl.1 (Nat.le_of_ble_eq_true rfl) ⟨Nat.le_of_ble_eq_true rfl, Nat.le_of_ble_eq_true rfl⟩ ⟨Nat.le_of_ble_eq_true rfl, Nat.le_of_ble_eq_true rfl⟩ dL_planLength_4 rfl [] ⟨0, 9, 12, 19⟩ [] hT (fun z hz => nomatch hz) (by decide) (by decide) wl_2 wq_2 (fun H locs q hP hS => ?_)
  refine lv_astore_n (lv' := [(3, .ref q), (0, .ref (g.2.2 + 0)), (1, .int p0), (2, .ref (g.2.2 + 318))]) hx hb dL_planLength_12 rfl hl (by decide) rfl (fun ls hl => ?_)
  refine lv_iconst (v := (1 : Int32)) hx hb dL_planLength_13 (by decide) ?_
  exact zr_iret X hr hP hS dL_planLength_14
theorem cw_L_83 : zb_cwV RL 83 yX7_report cX7_report 3 (some .int) 2 := zb_cwV_of (zb_in 1231 (by decide +kernel) rfl) (zb_in 692 (by decide +kernel) rfl) (zb_in 693 (by decide +kernel) rfl) (zb_in 101 (by decide +kernel) rfl) (zb_in 694 (by decide +kernel) rfl) (by decide +kernel)
set_option maxHeartbeats 4000000 in
set_option maxRecDepth 100000 in
theorem hn_L_report {g : zb_G} {nc : Nat} (hnI : 306 ≤ nc) (hnO : 320 ≤ nc) (l : Launch) {p0 : Int32} {p1 : Int32} {I J O : Mem} {r : Int32} {Iq : Mem} (hf : fX7_report p0 p1 I = some (0, r, Iq)) : zb_Ch l g nc yL_report cL_report 5 [(0, 10, 13, 25), (0, 10, 17, 19)] 8 168 0 0 [.ref (g.2.2 + 0), .int p0, .int p1, .ref (g.2.2 + 318)] (zb_ce g I J O) (some (.int 0)) (zb_ce g Iq J (wr O 318 0 r)) := by
  refine zb_ofH (own := RL) (by decide +kernel) rfl (Nat.le_of_ble_eq_true rfl) ?_
  intro p e s m args below meth c ls X hr hnc hT hP hl
  have hx := X.1.1
  have hb := X.1.2.1
  have ho := X.1.2.2.2.1
  have hts := X.1.2.2.2.2
  have hS : va_S (zb_A g) s.heap s.heap [] := va_S.rf
  obtain ⟨H, hH⟩ : ∃ H, H = s.heap := ⟨_, rfl⟩
  obtain ⟨locs, hlocs⟩ : ∃ z : List Loc, z = [] := ⟨_, rfl⟩
  rw [← hH] at hP
  have hS : va_S (zb_A g) s.heap H locs := by rw [hH, hlocs]; exact hS
  show W p l e _ s m args below meth c s.heap [] 0 0 _ _
  rw [← hH, ← hlocs]
  have hl : lv_has ls 5 [(0, .ref (g.2.2 + 0)), (1, .int p0), (2, .int p1), (3, .ref (g.2.2 + 318))] := hl
  refine lv_aload_n hx hb dL_report_0 rfl (lv_at hl 3 rfl) ?_
  refine lv_iconst (v := (0 : Int32)) hx hb dL_report_1 (by decide) ?_
  refine lv_aload_n hx hb dL_report_2 rfl (lv_at hl 0 rfl) ?_
  refine lv_iload_n hx hb dL_report_3 rfl (lv_at hl 1 rfl) ?_
  refine lv_iload_n hx hb dL_report_4 rfl (lv_at hl 2 rfl) ?_
  refine zr_cVi (rest := [.int (0 : Int32), .ref (g.2.2 + 318)]) (As := [.int p0, .int p1]) X hP hS (ct_X7_report (g := g) (nc := nc) (I := I) (J := J) (O := O) hnI l hf) cw_L_83 (zr_recv X hP (by omega) (zb_ceIo zk_0 (by decide)) rfl) rfl hl.1 (Nat.le_of_ble_eq_true rfl) ⟨Nat.le_of_ble_eq_true rfl, Nat.le_of_ble_eq_true rfl⟩ ⟨Nat.le_of_ble_eq_true rfl, Nat.le_of_ble_eq_true rfl⟩ dL_report_5 rfl (fun H locs hP hS => ?_)
  refine lv_i2l hx hb dL_report_8 rfl ?_
  refine zr_last X hP hS hnO dL_report_9 (fun H locs hP hS => ?_)
  refine lv_goto (tgt := 21) hx hb dL_report_10 (by decide) ?_
  refine lv_iconst (v := (0 : Int32)) hx hb dL_report_21 (by decide) ?_
  exact zr_iret X hr hP hS dL_report_22
set_option maxHeartbeats 4000000 in
set_option maxRecDepth 100000 in
theorem hc1_L_report {g : zb_G} {nc : Nat} (hnI : 306 ≤ nc) (hnO : 320 ≤ nc) (l : Launch) (hlT : l.stackTraces = false) {p0 : Int32} {p1 : Int32} {I J O : Mem} {r : Int32} {Iq : Mem} (hf : fX7_report p0 p1 I = some (1, r, Iq)) : zb_Ch l g nc yL_report cL_report 5 [(0, 10, 13, 25), (0, 10, 17, 19)] 8 168 1 6 [.ref (g.2.2 + 0), .int p0, .int p1, .ref (g.2.2 + 318)] (zb_ce g I J O) (some (.int (1 : Int32))) (zb_ce g Iq J O) := by
  refine zb_ofH (own := RL) (by decide +kernel) rfl (Nat.le_of_ble_eq_true rfl) ?_
  intro p e s m args below meth c ls X hr hnc hT hP hl
  have hx := X.1.1
  have hb := X.1.2.1
  have ho := X.1.2.2.2.1
  have hts := X.1.2.2.2.2
  have hS : va_S (zb_A g) s.heap s.heap [] := va_S.rf
  obtain ⟨H, hH⟩ : ∃ H, H = s.heap := ⟨_, rfl⟩
  obtain ⟨locs, hlocs⟩ : ∃ z : List Loc, z = [] := ⟨_, rfl⟩
  rw [← hH] at hP
  have hS : va_S (zb_A g) s.heap H locs := by rw [hH, hlocs]; exact hS
  show W p l e _ s m args below meth c s.heap [] 0 0 _ _
  rw [← hH, ← hlocs]
  have hl : lv_has ls 5 [(0, .ref (g.2.2 + 0)), (1, .int p0), (2, .int p1), (3, .ref (g.2.2 + 318))] := hl
  refine lv_aload_n hx hb dL_report_0 rfl (lv_at hl 3 rfl) ?_
  refine lv_iconst (v := (0 : Int32)) hx hb dL_report_1 (by decide) ?_
  refine lv_aload_n hx hb dL_report_2 rfl (lv_at hl 0 rfl) ?_
  refine lv_iload_n hx hb dL_report_3 rfl (lv_at hl 1 rfl) ?_
  refine lv_iload_n hx hb dL_report_4 rfl (lv_at hl 2 rfl) ?_
  refine zr_catch (rest := [.int (0 : Int32), .ref (g.2.2 + 318)]) (As := [.int p0, .int p1]) X hP hS (cx_X7_report (g := g) (nc := nc) (I := I) (J := J) (O := O) hnI l hlT (by decide) hf) cw_L_83 (zr_recv X hP (by omega) (zb_ceIo zk_0 (by decide)) rfl) rfl hl.1 (Nat.le_of_ble_eq_true rfl) ⟨Nat.le_of_ble_eq_true rfl, Nat.le_of_ble_eq_true rfl⟩ ⟨Nat.le_of_ble_eq_true rfl, Nat.le_of_ble_eq_true rfl⟩ dL_report_5 rfl [] ⟨0, 10, 13, 25⟩ [⟨0, 10, 17, 19⟩] hT (fun z hz => nomatch hz) (by decide) (by decide) wl_1 wq_1 (fun H locs q hP hS => ?_)
  refine lv_astore (lv' := [(4, .ref q), (0, .ref (g.2.2 + 0)), (1, .int p0), (2, .int p1), (3, .ref (g.2.2 + 318))]) hx hb dL_report_13 hl (by decide) rfl (fun ls hl => ?_)
  refine lv_iconst (v := (1 : Int32)) hx hb dL_report_15 (by decide) ?_
  exact zr_iret X hr hP hS dL_report_16
set_option maxHeartbeats 4000000 in
set_option maxRecDepth 100000 in
theorem hc2_L_report {g : zb_G} {nc : Nat} (hnI : 306 ≤ nc) (hnO : 320 ≤ nc) (l : Launch) (hlT : l.stackTraces = false) {p0 : Int32} {p1 : Int32} {I J O : Mem} {r : Int32} {Iq : Mem} (hf : fX7_report p0 p1 I = some (2, r, Iq)) : zb_Ch l g nc yL_report cL_report 5 [(0, 10, 13, 25), (0, 10, 17, 19)] 8 168 1 6 [.ref (g.2.2 + 0), .int p0, .int p1, .ref (g.2.2 + 318)] (zb_ce g I J O) (some (.int (2 : Int32))) (zb_ce g Iq J O) := by
  refine zb_ofH (own := RL) (by decide +kernel) rfl (Nat.le_of_ble_eq_true rfl) ?_
  intro p e s m args below meth c ls X hr hnc hT hP hl
  have hx := X.1.1
  have hb := X.1.2.1
  have ho := X.1.2.2.2.1
  have hts := X.1.2.2.2.2
  have hS : va_S (zb_A g) s.heap s.heap [] := va_S.rf
  obtain ⟨H, hH⟩ : ∃ H, H = s.heap := ⟨_, rfl⟩
  obtain ⟨locs, hlocs⟩ : ∃ z : List Loc, z = [] := ⟨_, rfl⟩
  rw [← hH] at hP
  have hS : va_S (zb_A g) s.heap H locs := by rw [hH, hlocs]; exact hS
  show W p l e _ s m args below meth c s.heap [] 0 0 _ _
  rw [← hH, ← hlocs]
  have hl : lv_has ls 5 [(0, .ref (g.2.2 + 0)), (1, .int p0), (2, .int p1), (3, .ref (g.2.2 + 318))] := hl
  refine lv_aload_n hx hb dL_report_0 rfl (lv_at hl 3 rfl) ?_
  refine lv_iconst (v := (0 : Int32)) hx hb dL_report_1 (by decide) ?_
  refine lv_aload_n hx hb dL_report_2 rfl (lv_at hl 0 rfl) ?_
  refine lv_iload_n hx hb dL_report_3 rfl (lv_at hl 1 rfl) ?_
  refine lv_iload_n hx hb dL_report_4 rfl (lv_at hl 2 rfl) ?_
  refine zr_catch (rest := [.int (0 : Int32), .ref (g.2.2 + 318)]) (As := [.int p0, .int p1]) X hP hS (cx_X7_report (g := g) (nc := nc) (I := I) (J := J) (O := O) hnI l hlT (by decide) hf) cw_L_83 (zr_recv X hP (by omega) (zb_ceIo zk_0 (by decide)) rfl) rfl hl.1 (Nat.le_of_ble_eq_true rfl) ⟨Nat.le_of_ble_eq_true rfl, Nat.le_of_ble_eq_true rfl⟩ ⟨Nat.le_of_ble_eq_true rfl, Nat.le_of_ble_eq_true rfl⟩ dL_report_5 rfl [⟨0, 10, 13, 25⟩] ⟨0, 10, 17, 19⟩ [] hT (fun z hz => Or.inr (by rw [List.mem_singleton.mp hz]; exact ⟨by decide, zb_en 1, hts _ wl_1, hnc.1⟩)) (by decide) (by decide) wl_2 wq_2 (fun H locs q hP hS => ?_)
  refine lv_astore (lv' := [(4, .ref q), (0, .ref (g.2.2 + 0)), (1, .int p0), (2, .int p1), (3, .ref (g.2.2 + 318))]) hx hb dL_report_17 hl (by decide) rfl (fun ls hl => ?_)
  refine lv_iconst (v := (2 : Int32)) hx hb dL_report_19 (by decide) ?_
  exact zr_iret X hr hP hS dL_report_20
theorem cw_L_86 : zb_cwV RL 86 yX7_storm cX7_storm 4 (some .int) 3 := zb_cwV_of (zb_in 1235 (by decide +kernel) rfl) (zb_in 878 (by decide +kernel) rfl) (zb_in 879 (by decide +kernel) rfl) (zb_in 101 (by decide +kernel) rfl) (zb_in 880 (by decide +kernel) rfl) (by decide +kernel)
set_option maxHeartbeats 4000000 in
set_option maxRecDepth 100000 in
theorem hn_L_storm {g : zb_G} {nc : Nat} (hnI : 306 ≤ nc) (hnO : 320 ≤ nc) (l : Launch) {p0 : Int32} {p1 : Int32} {p2 : Int32} {I J O : Mem} {r : Int32} {Iq : Mem} (hf : fX7_storm p0 p1 p2 I = some (0, r, Iq)) : zb_Ch l g nc yL_storm cL_storm 6 [(0, 12, 15, 25), (0, 12, 19, 19)] 9 192 0 0 [.ref (g.2.2 + 0), .int p0, .int p1, .int p2, .ref (g.2.2 + 318)] (zb_ce g I J O) (some (.int 0)) (zb_ce g Iq J (wr O 318 0 r)) := by
  refine zb_ofH (own := RL) (by decide +kernel) rfl (Nat.le_of_ble_eq_true rfl) ?_
  intro p e s m args below meth c ls X hr hnc hT hP hl
  have hx := X.1.1
  have hb := X.1.2.1
  have ho := X.1.2.2.2.1
  have hts := X.1.2.2.2.2
  have hS : va_S (zb_A g) s.heap s.heap [] := va_S.rf
  obtain ⟨H, hH⟩ : ∃ H, H = s.heap := ⟨_, rfl⟩
  obtain ⟨locs, hlocs⟩ : ∃ z : List Loc, z = [] := ⟨_, rfl⟩
  rw [← hH] at hP
  have hS : va_S (zb_A g) s.heap H locs := by rw [hH, hlocs]; exact hS
  show W p l e _ s m args below meth c s.heap [] 0 0 _ _
  rw [← hH, ← hlocs]
  have hl : lv_has ls 6 [(0, .ref (g.2.2 + 0)), (1, .int p0), (2, .int p1), (3, .int p2), (4, .ref (g.2.2 + 318))] := hl
  refine lv_aload hx hb dL_storm_0 (lv_at hl 4 rfl) ?_
  refine lv_iconst (v := (0 : Int32)) hx hb dL_storm_2 (by decide) ?_
  refine lv_aload_n hx hb dL_storm_3 rfl (lv_at hl 0 rfl) ?_
  refine lv_iload_n hx hb dL_storm_4 rfl (lv_at hl 1 rfl) ?_
  refine lv_iload_n hx hb dL_storm_5 rfl (lv_at hl 2 rfl) ?_
  refine lv_iload_n hx hb dL_storm_6 rfl (lv_at hl 3 rfl) ?_
  refine zr_cVi (rest := [.int (0 : Int32), .ref (g.2.2 + 318)]) (As := [.int p0, .int p1, .int p2]) X hP hS (ct_X7_storm (g := g) (nc := nc) (I := I) (J := J) (O := O) hnI l hf) cw_L_86 (zr_recv X hP (by omega) (zb_ceIo zk_0 (by decide)) rfl) rfl hl.1 (Nat.le_of_ble_eq_true rfl) ⟨Nat.le_of_ble_eq_true rfl, Nat.le_of_ble_eq_true rfl⟩ ⟨Nat.le_of_ble_eq_true rfl, Nat.le_of_ble_eq_true rfl⟩ dL_storm_7 rfl (fun H locs hP hS => ?_)
  refine lv_i2l hx hb dL_storm_10 rfl ?_
  refine zr_last X hP hS hnO dL_storm_11 (fun H locs hP hS => ?_)
  refine lv_goto (tgt := 23) hx hb dL_storm_12 (by decide) ?_
  refine lv_iconst (v := (0 : Int32)) hx hb dL_storm_23 (by decide) ?_
  exact zr_iret X hr hP hS dL_storm_24
set_option maxHeartbeats 4000000 in
set_option maxRecDepth 100000 in
theorem hc1_L_storm {g : zb_G} {nc : Nat} (hnI : 306 ≤ nc) (hnO : 320 ≤ nc) (l : Launch) (hlT : l.stackTraces = false) {p0 : Int32} {p1 : Int32} {p2 : Int32} {I J O : Mem} {r : Int32} {Iq : Mem} (hf : fX7_storm p0 p1 p2 I = some (1, r, Iq)) : zb_Ch l g nc yL_storm cL_storm 6 [(0, 12, 15, 25), (0, 12, 19, 19)] 9 192 1 6 [.ref (g.2.2 + 0), .int p0, .int p1, .int p2, .ref (g.2.2 + 318)] (zb_ce g I J O) (some (.int (1 : Int32))) (zb_ce g Iq J O) := by
  refine zb_ofH (own := RL) (by decide +kernel) rfl (Nat.le_of_ble_eq_true rfl) ?_
  intro p e s m args below meth c ls X hr hnc hT hP hl
  have hx := X.1.1
  have hb := X.1.2.1
  have ho := X.1.2.2.2.1
  have hts := X.1.2.2.2.2
  have hS : va_S (zb_A g) s.heap s.heap [] := va_S.rf
  obtain ⟨H, hH⟩ : ∃ H, H = s.heap := ⟨_, rfl⟩
  obtain ⟨locs, hlocs⟩ : ∃ z : List Loc, z = [] := ⟨_, rfl⟩
  rw [← hH] at hP
  have hS : va_S (zb_A g) s.heap H locs := by rw [hH, hlocs]; exact hS
  show W p l e _ s m args below meth c s.heap [] 0 0 _ _
  rw [← hH, ← hlocs]
  have hl : lv_has ls 6 [(0, .ref (g.2.2 + 0)), (1, .int p0), (2, .int p1), (3, .int p2), (4, .ref (g.2.2 + 318))] := hl
  refine lv_aload hx hb dL_storm_0 (lv_at hl 4 rfl) ?_
  refine lv_iconst (v := (0 : Int32)) hx hb dL_storm_2 (by decide) ?_
  refine lv_aload_n hx hb dL_storm_3 rfl (lv_at hl 0 rfl) ?_
  refine lv_iload_n hx hb dL_storm_4 rfl (lv_at hl 1 rfl) ?_
  refine lv_iload_n hx hb dL_storm_5 rfl (lv_at hl 2 rfl) ?_
  refine lv_iload_n hx hb dL_storm_6 rfl (lv_at hl 3 rfl) ?_
  refine zr_catch (rest := [.int (0 : Int32), .ref (g.2.2 + 318)]) (As := [.int p0, .int p1, .int p2]) X hP hS (cx_X7_storm (g := g) (nc := nc) (I := I) (J := J) (O := O) hnI l hlT (by decide) hf) cw_L_86 (zr_recv X hP (by omega) (zb_ceIo zk_0 (by decide)) rfl) rfl hl.1 (Nat.le_of_ble_eq_true rfl) ⟨Nat.le_of_ble_eq_true rfl, Nat.le_of_ble_eq_true rfl⟩ ⟨Nat.le_of_ble_eq_true rfl, Nat.le_of_ble_eq_true rfl⟩ dL_storm_7 rfl [] ⟨0, 12, 15, 25⟩ [⟨0, 12, 19, 19⟩] hT (fun z hz => nomatch hz) (by decide) (by decide) wl_1 wq_1 (fun H locs q hP hS => ?_)
  refine lv_astore (lv' := [(5, .ref q), (0, .ref (g.2.2 + 0)), (1, .int p0), (2, .int p1), (3, .int p2), (4, .ref (g.2.2 + 318))]) hx hb dL_storm_15 hl (by decide) rfl (fun ls hl => ?_)
  refine lv_iconst (v := (1 : Int32)) hx hb dL_storm_17 (by decide) ?_
  exact zr_iret X hr hP hS dL_storm_18
set_option maxHeartbeats 4000000 in
set_option maxRecDepth 100000 in
theorem hc2_L_storm {g : zb_G} {nc : Nat} (hnI : 306 ≤ nc) (hnO : 320 ≤ nc) (l : Launch) (hlT : l.stackTraces = false) {p0 : Int32} {p1 : Int32} {p2 : Int32} {I J O : Mem} {r : Int32} {Iq : Mem} (hf : fX7_storm p0 p1 p2 I = some (2, r, Iq)) : zb_Ch l g nc yL_storm cL_storm 6 [(0, 12, 15, 25), (0, 12, 19, 19)] 9 192 1 6 [.ref (g.2.2 + 0), .int p0, .int p1, .int p2, .ref (g.2.2 + 318)] (zb_ce g I J O) (some (.int (2 : Int32))) (zb_ce g Iq J O) := by
  refine zb_ofH (own := RL) (by decide +kernel) rfl (Nat.le_of_ble_eq_true rfl) ?_
  intro p e s m args below meth c ls X hr hnc hT hP hl
  have hx := X.1.1
  have hb := X.1.2.1
  have ho := X.1.2.2.2.1
  have hts := X.1.2.2.2.2
  have hS : va_S (zb_A g) s.heap s.heap [] := va_S.rf
  obtain ⟨H, hH⟩ : ∃ H, H = s.heap := ⟨_, rfl⟩
  obtain ⟨locs, hlocs⟩ : ∃ z : List Loc, z = [] := ⟨_, rfl⟩
  rw [← hH] at hP
  have hS : va_S (zb_A g) s.heap H locs := by rw [hH, hlocs]; exact hS
  show W p l e _ s m args below meth c s.heap [] 0 0 _ _
  rw [← hH, ← hlocs]
  have hl : lv_has ls 6 [(0, .ref (g.2.2 + 0)), (1, .int p0), (2, .int p1), (3, .int p2), (4, .ref (g.2.2 + 318))] := hl
  refine lv_aload hx hb dL_storm_0 (lv_at hl 4 rfl) ?_
  refine lv_iconst (v := (0 : Int32)) hx hb dL_storm_2 (by decide) ?_
  refine lv_aload_n hx hb dL_storm_3 rfl (lv_at hl 0 rfl) ?_
  refine lv_iload_n hx hb dL_storm_4 rfl (lv_at hl 1 rfl) ?_
  refine lv_iload_n hx hb dL_storm_5 rfl (lv_at hl 2 rfl) ?_
  refine lv_iload_n hx hb dL_storm_6 rfl (lv_at hl 3 rfl) ?_
  refine zr_catch (rest := [.int (0 : Int32), .ref (g.2.2 + 318)]) (As := [.int p0, .int p1, .int p2]) X hP hS (cx_X7_storm (g := g) (nc := nc) (I := I) (J := J) (O := O) hnI l hlT (by decide) hf) cw_L_86 (zr_recv X hP (by omega) (zb_ceIo zk_0 (by decide)) rfl) rfl hl.1 (Nat.le_of_ble_eq_true rfl) ⟨Nat.le_of_ble_eq_true rfl, Nat.le_of_ble_eq_true rfl⟩ ⟨Nat.le_of_ble_eq_true rfl, Nat.le_of_ble_eq_true rfl⟩ dL_storm_7 rfl [⟨0, 12, 15, 25⟩] ⟨0, 12, 19, 19⟩ [] hT (fun z hz => Or.inr (by rw [List.mem_singleton.mp hz]; exact ⟨by decide, zb_en 1, hts _ wl_1, hnc.1⟩)) (by decide) (by decide) wl_2 wq_2 (fun H locs q hP hS => ?_)
  refine lv_astore (lv' := [(5, .ref q), (0, .ref (g.2.2 + 0)), (1, .int p0), (2, .int p1), (3, .int p2), (4, .ref (g.2.2 + 318))]) hx hb dL_storm_19 hl (by decide) rfl (fun ls hl => ?_)
  refine lv_iconst (v := (2 : Int32)) hx hb dL_storm_21 (by decide) ?_
  exact zr_iret X hr hP hS dL_storm_22
theorem cw_L_89 : zb_cwV RL 89 yX7_remake cX7_remake 2 (some .int) 1 := zb_cwV_of (zb_in 1239 (by decide +kernel) rfl) (zb_in 912 (by decide +kernel) rfl) (zb_in 913 (by decide +kernel) rfl) (zb_in 101 (by decide +kernel) rfl) (zb_in 914 (by decide +kernel) rfl) (by decide +kernel)
set_option maxHeartbeats 4000000 in
set_option maxRecDepth 100000 in
theorem hn_L_remake {g : zb_G} {nc : Nat} (hnI : 306 ≤ nc) (hnO : 320 ≤ nc) (l : Launch) {p0 : Int32} {I J O : Mem} {r : Int32} {Iq : Mem} (hf : fX7_remake p0 I = some (0, r, Iq)) : zb_Ch l g nc yL_remake cL_remake 4 [(0, 9, 12, 25)] 8 167 0 0 [.ref (g.2.2 + 0), .int p0, .ref (g.2.2 + 318)] (zb_ce g I J O) (some (.int 0)) (zb_ce g Iq J (wr O 318 0 r)) := by
  refine zb_ofH (own := RL) (by decide +kernel) rfl (Nat.le_of_ble_eq_true rfl) ?_
  intro p e s m args below meth c ls X hr hnc hT hP hl
  have hx := X.1.1
  have hb := X.1.2.1
  have ho := X.1.2.2.2.1
  have hts := X.1.2.2.2.2
  have hS : va_S (zb_A g) s.heap s.heap [] := va_S.rf
  obtain ⟨H, hH⟩ : ∃ H, H = s.heap := ⟨_, rfl⟩
  obtain ⟨locs, hlocs⟩ : ∃ z : List Loc, z = [] := ⟨_, rfl⟩
  rw [← hH] at hP
  have hS : va_S (zb_A g) s.heap H locs := by rw [hH, hlocs]; exact hS
  show W p l e _ s m args below meth c s.heap [] 0 0 _ _
  rw [← hH, ← hlocs]
  have hl : lv_has ls 4 [(0, .ref (g.2.2 + 0)), (1, .int p0), (2, .ref (g.2.2 + 318))] := hl
  refine lv_aload_n hx hb dL_remake_0 rfl (lv_at hl 2 rfl) ?_
  refine lv_iconst (v := (0 : Int32)) hx hb dL_remake_1 (by decide) ?_
  refine lv_aload_n hx hb dL_remake_2 rfl (lv_at hl 0 rfl) ?_
  refine lv_iload_n hx hb dL_remake_3 rfl (lv_at hl 1 rfl) ?_
  refine zr_cVi (rest := [.int (0 : Int32), .ref (g.2.2 + 318)]) (As := [.int p0]) X hP hS (ct_X7_remake (g := g) (nc := nc) (I := I) (J := J) (O := O) hnI l hf) cw_L_89 (zr_recv X hP (by omega) (zb_ceIo zk_0 (by decide)) rfl) rfl hl.1 (Nat.le_of_ble_eq_true rfl) ⟨Nat.le_of_ble_eq_true rfl, Nat.le_of_ble_eq_true rfl⟩ ⟨Nat.le_of_ble_eq_true rfl, Nat.le_of_ble_eq_true rfl⟩ dL_remake_4 rfl (fun H locs hP hS => ?_)
  refine lv_i2l hx hb dL_remake_7 rfl ?_
  refine zr_last X hP hS hnO dL_remake_8 (fun H locs hP hS => ?_)
  refine lv_goto (tgt := 15) hx hb dL_remake_9 (by decide) ?_
  refine lv_iconst (v := (0 : Int32)) hx hb dL_remake_15 (by decide) ?_
  exact zr_iret X hr hP hS dL_remake_16
set_option maxHeartbeats 4000000 in
set_option maxRecDepth 100000 in
theorem hc1_L_remake {g : zb_G} {nc : Nat} (hnI : 306 ≤ nc) (hnO : 320 ≤ nc) (l : Launch) (hlT : l.stackTraces = false) {p0 : Int32} {I J O : Mem} {r : Int32} {Iq : Mem} (hf : fX7_remake p0 I = some (1, r, Iq)) : zb_Ch l g nc yL_remake cL_remake 4 [(0, 9, 12, 25)] 8 167 1 6 [.ref (g.2.2 + 0), .int p0, .ref (g.2.2 + 318)] (zb_ce g I J O) (some (.int (1 : Int32))) (zb_ce g Iq J O) := by
  refine zb_ofH (own := RL) (by decide +kernel) rfl (Nat.le_of_ble_eq_true rfl) ?_
  intro p e s m args below meth c ls X hr hnc hT hP hl
  have hx := X.1.1
  have hb := X.1.2.1
  have ho := X.1.2.2.2.1
  have hts := X.1.2.2.2.2
  have hS : va_S (zb_A g) s.heap s.heap [] := va_S.rf
  obtain ⟨H, hH⟩ : ∃ H, H = s.heap := ⟨_, rfl⟩
  obtain ⟨locs, hlocs⟩ : ∃ z : List Loc, z = [] := ⟨_, rfl⟩
  rw [← hH] at hP
  have hS : va_S (zb_A g) s.heap H locs := by rw [hH, hlocs]; exact hS
  show W p l e _ s m args below meth c s.heap [] 0 0 _ _
  rw [← hH, ← hlocs]
  have hl : lv_has ls 4 [(0, .ref (g.2.2 + 0)), (1, .int p0), (2, .ref (g.2.2 + 318))] := hl
  refine lv_aload_n hx hb dL_remake_0 rfl (lv_at hl 2 rfl) ?_
  refine lv_iconst (v := (0 : Int32)) hx hb dL_remake_1 (by decide) ?_
  refine lv_aload_n hx hb dL_remake_2 rfl (lv_at hl 0 rfl) ?_
  refine lv_iload_n hx hb dL_remake_3 rfl (lv_at hl 1 rfl) ?_
  refine zr_catch (rest := [.int (0 : Int32), .ref (g.2.2 + 318)]) (As := [.int p0]) X hP hS (cx_X7_remake (g := g) (nc := nc) (I := I) (J := J) (O := O) hnI l hlT (by decide) hf) cw_L_89 (zr_recv X hP (by omega) (zb_ceIo zk_0 (by decide)) rfl) rfl hl.1 (Nat.le_of_ble_eq_true rfl) ⟨Nat.le_of_ble_eq_true rfl, Nat.le_of_ble_eq_true rfl⟩ ⟨Nat.le_of_ble_eq_true rfl, Nat.le_of_ble_eq_true rfl⟩ dL_remake_4 rfl [] ⟨0, 9, 12, 25⟩ [] hT (fun z hz => nomatch hz) (by decide) (by decide) wl_1 wq_1 (fun H locs q hP hS => ?_)
  refine lv_astore_n (lv' := [(3, .ref q), (0, .ref (g.2.2 + 0)), (1, .int p0), (2, .ref (g.2.2 + 318))]) hx hb dL_remake_12 rfl hl (by decide) rfl (fun ls hl => ?_)
  refine lv_iconst (v := (1 : Int32)) hx hb dL_remake_13 (by decide) ?_
  exact zr_iret X hr hP hS dL_remake_14
theorem cw_L_92 : zb_cwV RL 92 yX7_remakeBy cX7_remakeBy 3 (some .int) 1 := zb_cwV_of (zb_in 1243 (by decide +kernel) rfl) (zb_in 938 (by decide +kernel) rfl) (zb_in 939 (by decide +kernel) rfl) (zb_in 101 (by decide +kernel) rfl) (zb_in 940 (by decide +kernel) rfl) (by decide +kernel)
set_option maxHeartbeats 4000000 in
set_option maxRecDepth 100000 in
theorem hn_L_remakeBy {g : zb_G} {nc : Nat} (hnI : 306 ≤ nc) (hnO : 320 ≤ nc) (l : Launch) {p0 : Int32} {I J O : Mem} {r : Int32} {Iq : Mem} (hf : fX7_remakeBy p0 I = some (0, r, Iq)) : zb_Ch l g nc yL_remakeBy cL_remakeBy 4 [(0, 9, 12, 19)] 8 168 0 0 [.ref (g.2.2 + 0), .int p0, .ref (g.2.2 + 318)] (zb_ce g I J O) (some (.int 0)) (zb_ce g Iq J (wr O 318 0 r)) := by
  refine zb_ofH (own := RL) (by decide +kernel) rfl (Nat.le_of_ble_eq_true rfl) ?_
  intro p e s m args below meth c ls X hr hnc hT hP hl
  have hx := X.1.1
  have hb := X.1.2.1
  have ho := X.1.2.2.2.1
  have hts := X.1.2.2.2.2
  have hS : va_S (zb_A g) s.heap s.heap [] := va_S.rf
  obtain ⟨H, hH⟩ : ∃ H, H = s.heap := ⟨_, rfl⟩
  obtain ⟨locs, hlocs⟩ : ∃ z : List Loc, z = [] := ⟨_, rfl⟩
  rw [← hH] at hP
  have hS : va_S (zb_A g) s.heap H locs := by rw [hH, hlocs]; exact hS
  show W p l e _ s m args below meth c s.heap [] 0 0 _ _
  rw [← hH, ← hlocs]
  have hl : lv_has ls 4 [(0, .ref (g.2.2 + 0)), (1, .int p0), (2, .ref (g.2.2 + 318))] := hl
  refine lv_aload_n hx hb dL_remakeBy_0 rfl (lv_at hl 2 rfl) ?_
  refine lv_iconst (v := (0 : Int32)) hx hb dL_remakeBy_1 (by decide) ?_
  refine lv_aload_n hx hb dL_remakeBy_2 rfl (lv_at hl 0 rfl) ?_
  refine lv_iload_n hx hb dL_remakeBy_3 rfl (lv_at hl 1 rfl) ?_
  refine zr_cVi (rest := [.int (0 : Int32), .ref (g.2.2 + 318)]) (As := [.int p0]) X hP hS (ct_X7_remakeBy (g := g) (nc := nc) (I := I) (J := J) (O := O) hnI l hf) cw_L_92 (zr_recv X hP (by omega) (zb_ceIo zk_0 (by decide)) rfl) rfl hl.1 (Nat.le_of_ble_eq_true rfl) ⟨Nat.le_of_ble_eq_true rfl, Nat.le_of_ble_eq_true rfl⟩ ⟨Nat.le_of_ble_eq_true rfl, Nat.le_of_ble_eq_true rfl⟩ dL_remakeBy_4 rfl (fun H locs hP hS => ?_)
  refine lv_i2l hx hb dL_remakeBy_7 rfl ?_
  refine zr_last X hP hS hnO dL_remakeBy_8 (fun H locs hP hS => ?_)
  refine lv_goto (tgt := 15) hx hb dL_remakeBy_9 (by decide) ?_
  refine lv_iconst (v := (0 : Int32)) hx hb dL_remakeBy_15 (by decide) ?_
  exact zr_iret X hr hP hS dL_remakeBy_16
set_option maxHeartbeats 4000000 in
set_option maxRecDepth 100000 in
theorem hc1_L_remakeBy {g : zb_G} {nc : Nat} (hnI : 306 ≤ nc) (hnO : 320 ≤ nc) (l : Launch) (hlT : l.stackTraces = false) {p0 : Int32} {I J O : Mem} {r : Int32} {Iq : Mem} (hf : fX7_remakeBy p0 I = some (2, r, Iq)) : zb_Ch l g nc yL_remakeBy cL_remakeBy 4 [(0, 9, 12, 19)] 8 168 1 6 [.ref (g.2.2 + 0), .int p0, .ref (g.2.2 + 318)] (zb_ce g I J O) (some (.int (1 : Int32))) (zb_ce g Iq J O) := by
  refine zb_ofH (own := RL) (by decide +kernel) rfl (Nat.le_of_ble_eq_true rfl) ?_
  intro p e s m args below meth c ls X hr hnc hT hP hl
  have hx := X.1.1
  have hb := X.1.2.1
  have ho := X.1.2.2.2.1
  have hts := X.1.2.2.2.2
  have hS : va_S (zb_A g) s.heap s.heap [] := va_S.rf
  obtain ⟨H, hH⟩ : ∃ H, H = s.heap := ⟨_, rfl⟩
  obtain ⟨locs, hlocs⟩ : ∃ z : List Loc, z = [] := ⟨_, rfl⟩
  rw [← hH] at hP
  have hS : va_S (zb_A g) s.heap H locs := by rw [hH, hlocs]; exact hS
  show W p l e _ s m args below meth c s.heap [] 0 0 _ _
  rw [← hH, ← hlocs]
  have hl : lv_has ls 4 [(0, .ref (g.2.2 + 0)), (1, .int p0), (2, .ref (g.2.2 + 318))] := hl
  refine lv_aload_n hx hb dL_remakeBy_0 rfl (lv_at hl 2 rfl) ?_
  refine lv_iconst (v := (0 : Int32)) hx hb dL_remakeBy_1 (by decide) ?_
  refine lv_aload_n hx hb dL_remakeBy_2 rfl (lv_at hl 0 rfl) ?_
  refine lv_iload_n hx hb dL_remakeBy_3 rfl (lv_at hl 1 rfl) ?_
  refine zr_catch (rest := [.int (0 : Int32), .ref (g.2.2 + 318)]) (As := [.int p0]) X hP hS (cx_X7_remakeBy (g := g) (nc := nc) (I := I) (J := J) (O := O) hnI l hlT (by decide) hf) cw_L_92 (zr_recv X hP (by omega) (zb_ceIo zk_0 (by decide)) rfl) rfl hl.1 (Nat.le_of_ble_eq_true rfl) ⟨Nat.le_of_ble_eq_true rfl, Nat.le_of_ble_eq_true rfl⟩ ⟨Nat.le_of_ble_eq_true rfl, Nat.le_of_ble_eq_true rfl⟩ dL_remakeBy_4 rfl [] ⟨0, 9, 12, 19⟩ [] hT (fun z hz => nomatch hz) (by decide) (by decide) wl_2 wq_2 (fun H locs q hP hS => ?_)
  refine lv_astore_n (lv' := [(3, .ref q), (0, .ref (g.2.2 + 0)), (1, .int p0), (2, .ref (g.2.2 + 318))]) hx hb dL_remakeBy_12 rfl hl (by decide) rfl (fun ls hl => ?_)
  refine lv_iconst (v := (1 : Int32)) hx hb dL_remakeBy_13 (by decide) ?_
  exact zr_iret X hr hP hS dL_remakeBy_14
theorem cw_L_95 : zb_cwV RL 95 yX7_haul cX7_haul 2 (some .int) 1 := zb_cwV_of (zb_in 1247 (by decide +kernel) rfl) (zb_in 951 (by decide +kernel) rfl) (zb_in 952 (by decide +kernel) rfl) (zb_in 101 (by decide +kernel) rfl) (zb_in 953 (by decide +kernel) rfl) (by decide +kernel)
set_option maxHeartbeats 4000000 in
set_option maxRecDepth 100000 in
theorem hn_L_haul {g : zb_G} {nc : Nat} (hnI : 306 ≤ nc) (hnO : 320 ≤ nc) (l : Launch) {p0 : Int32} {I J O : Mem} {r : Int32} {Iq : Mem} (hf : fX7_haul p0 I = some (0, r, Iq)) : zb_Ch l g nc yL_haul cL_haul 4 [(0, 9, 12, 25)] 8 167 0 0 [.ref (g.2.2 + 0), .int p0, .ref (g.2.2 + 318)] (zb_ce g I J O) (some (.int 0)) (zb_ce g Iq J (wr O 318 0 r)) := by
  refine zb_ofH (own := RL) (by decide +kernel) rfl (Nat.le_of_ble_eq_true rfl) ?_
  intro p e s m args below meth c ls X hr hnc hT hP hl
  have hx := X.1.1
  have hb := X.1.2.1
  have ho := X.1.2.2.2.1
  have hts := X.1.2.2.2.2
  have hS : va_S (zb_A g) s.heap s.heap [] := va_S.rf
  obtain ⟨H, hH⟩ : ∃ H, H = s.heap := ⟨_, rfl⟩
  obtain ⟨locs, hlocs⟩ : ∃ z : List Loc, z = [] := ⟨_, rfl⟩
  rw [← hH] at hP
  have hS : va_S (zb_A g) s.heap H locs := by rw [hH, hlocs]; exact hS
  show W p l e _ s m args below meth c s.heap [] 0 0 _ _
  rw [← hH, ← hlocs]
  have hl : lv_has ls 4 [(0, .ref (g.2.2 + 0)), (1, .int p0), (2, .ref (g.2.2 + 318))] := hl
  refine lv_aload_n hx hb dL_haul_0 rfl (lv_at hl 2 rfl) ?_
  refine lv_iconst (v := (0 : Int32)) hx hb dL_haul_1 (by decide) ?_
  refine lv_aload_n hx hb dL_haul_2 rfl (lv_at hl 0 rfl) ?_
  refine lv_iload_n hx hb dL_haul_3 rfl (lv_at hl 1 rfl) ?_
  refine zr_cVi (rest := [.int (0 : Int32), .ref (g.2.2 + 318)]) (As := [.int p0]) X hP hS (ct_X7_haul (g := g) (nc := nc) (I := I) (J := J) (O := O) hnI l hf) cw_L_95 (zr_recv X hP (by omega) (zb_ceIo zk_0 (by decide)) rfl) rfl hl.1 (Nat.le_of_ble_eq_true rfl) ⟨Nat.le_of_ble_eq_true rfl, Nat.le_of_ble_eq_true rfl⟩ ⟨Nat.le_of_ble_eq_true rfl, Nat.le_of_ble_eq_true rfl⟩ dL_haul_4 rfl (fun H locs hP hS => ?_)
  refine lv_i2l hx hb dL_haul_7 rfl ?_
  refine zr_last X hP hS hnO dL_haul_8 (fun H locs hP hS => ?_)
  refine lv_goto (tgt := 15) hx hb dL_haul_9 (by decide) ?_
  refine lv_iconst (v := (0 : Int32)) hx hb dL_haul_15 (by decide) ?_
  exact zr_iret X hr hP hS dL_haul_16
set_option maxHeartbeats 4000000 in
set_option maxRecDepth 100000 in
theorem hc1_L_haul {g : zb_G} {nc : Nat} (hnI : 306 ≤ nc) (hnO : 320 ≤ nc) (l : Launch) (hlT : l.stackTraces = false) {p0 : Int32} {I J O : Mem} {r : Int32} {Iq : Mem} (hf : fX7_haul p0 I = some (1, r, Iq)) : zb_Ch l g nc yL_haul cL_haul 4 [(0, 9, 12, 25)] 8 167 1 6 [.ref (g.2.2 + 0), .int p0, .ref (g.2.2 + 318)] (zb_ce g I J O) (some (.int (1 : Int32))) (zb_ce g Iq J O) := by
  refine zb_ofH (own := RL) (by decide +kernel) rfl (Nat.le_of_ble_eq_true rfl) ?_
  intro p e s m args below meth c ls X hr hnc hT hP hl
  have hx := X.1.1
  have hb := X.1.2.1
  have ho := X.1.2.2.2.1
  have hts := X.1.2.2.2.2
  have hS : va_S (zb_A g) s.heap s.heap [] := va_S.rf
  obtain ⟨H, hH⟩ : ∃ H, H = s.heap := ⟨_, rfl⟩
  obtain ⟨locs, hlocs⟩ : ∃ z : List Loc, z = [] := ⟨_, rfl⟩
  rw [← hH] at hP
  have hS : va_S (zb_A g) s.heap H locs := by rw [hH, hlocs]; exact hS
  show W p l e _ s m args below meth c s.heap [] 0 0 _ _
  rw [← hH, ← hlocs]
  have hl : lv_has ls 4 [(0, .ref (g.2.2 + 0)), (1, .int p0), (2, .ref (g.2.2 + 318))] := hl
  refine lv_aload_n hx hb dL_haul_0 rfl (lv_at hl 2 rfl) ?_
  refine lv_iconst (v := (0 : Int32)) hx hb dL_haul_1 (by decide) ?_
  refine lv_aload_n hx hb dL_haul_2 rfl (lv_at hl 0 rfl) ?_
  refine lv_iload_n hx hb dL_haul_3 rfl (lv_at hl 1 rfl) ?_
  refine zr_catch (rest := [.int (0 : Int32), .ref (g.2.2 + 318)]) (As := [.int p0]) X hP hS (cx_X7_haul (g := g) (nc := nc) (I := I) (J := J) (O := O) hnI l hlT (by decide) hf) cw_L_95 (zr_recv X hP (by omega) (zb_ceIo zk_0 (by decide)) rfl) rfl hl.1 (Nat.le_of_ble_eq_true rfl) ⟨Nat.le_of_ble_eq_true rfl, Nat.le_of_ble_eq_true rfl⟩ ⟨Nat.le_of_ble_eq_true rfl, Nat.le_of_ble_eq_true rfl⟩ dL_haul_4 rfl [] ⟨0, 9, 12, 25⟩ [] hT (fun z hz => nomatch hz) (by decide) (by decide) wl_1 wq_1 (fun H locs q hP hS => ?_)
  refine lv_astore_n (lv' := [(3, .ref q), (0, .ref (g.2.2 + 0)), (1, .int p0), (2, .ref (g.2.2 + 318))]) hx hb dL_haul_12 rfl hl (by decide) rfl (fun ls hl => ?_)
  refine lv_iconst (v := (1 : Int32)) hx hb dL_haul_13 (by decide) ?_
  exact zr_iret X hr hP hS dL_haul_14
theorem cw_L_98 : zb_cwV RL 98 yX7_addStock cX7_addStock 2 (some .int) 1 := zb_cwV_of (zb_in 1251 (by decide +kernel) rfl) (zb_in 957 (by decide +kernel) rfl) (zb_in 958 (by decide +kernel) rfl) (zb_in 101 (by decide +kernel) rfl) (zb_in 959 (by decide +kernel) rfl) (by decide +kernel)
set_option maxHeartbeats 4000000 in
set_option maxRecDepth 100000 in
theorem hn_L_addStock {g : zb_G} {nc : Nat} (hnI : 306 ≤ nc) (hnO : 320 ≤ nc) (l : Launch) {p0 : Int32} {I J O : Mem} {r : Int32} {Iq : Mem} (hf : fX7_addStock p0 I = some (0, r, Iq)) : zb_Ch l g nc yL_addStock cL_addStock 4 [(0, 9, 12, 19)] 7 146 0 0 [.ref (g.2.2 + 0), .int p0, .ref (g.2.2 + 318)] (zb_ce g I J O) (some (.int 0)) (zb_ce g Iq J (wr O 318 0 r)) := by
  refine zb_ofH (own := RL) (by decide +kernel) rfl (Nat.le_of_ble_eq_true rfl) ?_
  intro p e s m args below meth c ls X hr hnc hT hP hl
  have hx := X.1.1
  have hb := X.1.2.1
  have ho := X.1.2.2.2.1
  have hts := X.1.2.2.2.2
  have hS : va_S (zb_A g) s.heap s.heap [] := va_S.rf
  obtain ⟨H, hH⟩ : ∃ H, H = s.heap := ⟨_, rfl⟩
  obtain ⟨locs, hlocs⟩ : ∃ z : List Loc, z = [] := ⟨_, rfl⟩
  rw [← hH] at hP
  have hS : va_S (zb_A g) s.heap H locs := by rw [hH, hlocs]; exact hS
  show W p l e _ s m args below meth c s.heap [] 0 0 _ _
  rw [← hH, ← hlocs]
  have hl : lv_has ls 4 [(0, .ref (g.2.2 + 0)), (1, .int p0), (2, .ref (g.2.2 + 318))] := hl
  refine lv_aload_n hx hb dL_addStock_0 rfl (lv_at hl 2 rfl) ?_
  refine lv_iconst (v := (0 : Int32)) hx hb dL_addStock_1 (by decide) ?_
  refine lv_aload_n hx hb dL_addStock_2 rfl (lv_at hl 0 rfl) ?_
  refine lv_iload_n hx hb dL_addStock_3 rfl (lv_at hl 1 rfl) ?_
  refine zr_cVi (rest := [.int (0 : Int32), .ref (g.2.2 + 318)]) (As := [.int p0]) X hP hS (ct_X7_addStock (g := g) (nc := nc) (I := I) (J := J) (O := O) hnI l hf) cw_L_98 (zr_recv X hP (by omega) (zb_ceIo zk_0 (by decide)) rfl) rfl hl.1 (Nat.le_of_ble_eq_true rfl) ⟨Nat.le_of_ble_eq_true rfl, Nat.le_of_ble_eq_true rfl⟩ ⟨Nat.le_of_ble_eq_true rfl, Nat.le_of_ble_eq_true rfl⟩ dL_addStock_4 rfl (fun H locs hP hS => ?_)
  refine lv_i2l hx hb dL_addStock_7 rfl ?_
  refine zr_last X hP hS hnO dL_addStock_8 (fun H locs hP hS => ?_)
  refine lv_goto (tgt := 15) hx hb dL_addStock_9 (by decide) ?_
  refine lv_iconst (v := (0 : Int32)) hx hb dL_addStock_15 (by decide) ?_
  exact zr_iret X hr hP hS dL_addStock_16
set_option maxHeartbeats 4000000 in
set_option maxRecDepth 100000 in
theorem hc1_L_addStock {g : zb_G} {nc : Nat} (hnI : 306 ≤ nc) (hnO : 320 ≤ nc) (l : Launch) (hlT : l.stackTraces = false) {p0 : Int32} {I J O : Mem} {r : Int32} {Iq : Mem} (hf : fX7_addStock p0 I = some (2, r, Iq)) : zb_Ch l g nc yL_addStock cL_addStock 4 [(0, 9, 12, 19)] 7 146 1 6 [.ref (g.2.2 + 0), .int p0, .ref (g.2.2 + 318)] (zb_ce g I J O) (some (.int (1 : Int32))) (zb_ce g Iq J O) := by
  refine zb_ofH (own := RL) (by decide +kernel) rfl (Nat.le_of_ble_eq_true rfl) ?_
  intro p e s m args below meth c ls X hr hnc hT hP hl
  have hx := X.1.1
  have hb := X.1.2.1
  have ho := X.1.2.2.2.1
  have hts := X.1.2.2.2.2
  have hS : va_S (zb_A g) s.heap s.heap [] := va_S.rf
  obtain ⟨H, hH⟩ : ∃ H, H = s.heap := ⟨_, rfl⟩
  obtain ⟨locs, hlocs⟩ : ∃ z : List Loc, z = [] := ⟨_, rfl⟩
  rw [← hH] at hP
  have hS : va_S (zb_A g) s.heap H locs := by rw [hH, hlocs]; exact hS
  show W p l e _ s m args below meth c s.heap [] 0 0 _ _
  rw [← hH, ← hlocs]
  have hl : lv_has ls 4 [(0, .ref (g.2.2 + 0)), (1, .int p0), (2, .ref (g.2.2 + 318))] := hl
  refine lv_aload_n hx hb dL_addStock_0 rfl (lv_at hl 2 rfl) ?_
  refine lv_iconst (v := (0 : Int32)) hx hb dL_addStock_1 (by decide) ?_
  refine lv_aload_n hx hb dL_addStock_2 rfl (lv_at hl 0 rfl) ?_
  refine lv_iload_n hx hb dL_addStock_3 rfl (lv_at hl 1 rfl) ?_
  refine zr_catch (rest := [.int (0 : Int32), .ref (g.2.2 + 318)]) (As := [.int p0]) X hP hS (cx_X7_addStock (g := g) (nc := nc) (I := I) (J := J) (O := O) hnI l hlT (by decide) hf) cw_L_98 (zr_recv X hP (by omega) (zb_ceIo zk_0 (by decide)) rfl) rfl hl.1 (Nat.le_of_ble_eq_true rfl) ⟨Nat.le_of_ble_eq_true rfl, Nat.le_of_ble_eq_true rfl⟩ ⟨Nat.le_of_ble_eq_true rfl, Nat.le_of_ble_eq_true rfl⟩ dL_addStock_4 rfl [] ⟨0, 9, 12, 19⟩ [] hT (fun z hz => nomatch hz) (by decide) (by decide) wl_2 wq_2 (fun H locs q hP hS => ?_)
  refine lv_astore_n (lv' := [(3, .ref q), (0, .ref (g.2.2 + 0)), (1, .int p0), (2, .ref (g.2.2 + 318))]) hx hb dL_addStock_12 rfl hl (by decide) rfl (fun ls hl => ?_)
  refine lv_iconst (v := (1 : Int32)) hx hb dL_addStock_13 (by decide) ?_
  exact zr_iret X hr hP hS dL_addStock_14
theorem cw_L_101 : zb_cwV RL 101 yX7_setOffset cX7_setOffset 4 (some .int) 2 := zb_cwV_of (zb_in 1255 (by decide +kernel) rfl) (zb_in 1256 (by decide +kernel) rfl) (zb_in 1257 (by decide +kernel) rfl) (zb_in 101 (by decide +kernel) rfl) (zb_in 1258 (by decide +kernel) rfl) (by decide +kernel)
set_option maxHeartbeats 4000000 in
set_option maxRecDepth 100000 in
theorem hn_L_setOffset {g : zb_G} {nc : Nat} (hnI : 306 ≤ nc) (hnO : 320 ≤ nc) (l : Launch) {p0 : Int32} {p1 : Int32} {I J O : Mem} {r : Int32} {Iq : Mem} (hf : fX7_setOffset p0 p1 I = some (0, r, Iq)) : zb_Ch l g nc yL_setOffset cL_setOffset 5 [(0, 10, 13, 25), (0, 10, 17, 19)] 8 169 0 0 [.ref (g.2.2 + 0), .int p0, .int p1, .ref (g.2.2 + 318)] (zb_ce g I J O) (some (.int 0)) (zb_ce g Iq J (wr O 318 0 r)) := by
  refine zb_ofH (own := RL) (by decide +kernel) rfl (Nat.le_of_ble_eq_true rfl) ?_
  intro p e s m args below meth c ls X hr hnc hT hP hl
  have hx := X.1.1
  have hb := X.1.2.1
  have ho := X.1.2.2.2.1
  have hts := X.1.2.2.2.2
  have hS : va_S (zb_A g) s.heap s.heap [] := va_S.rf
  obtain ⟨H, hH⟩ : ∃ H, H = s.heap := ⟨_, rfl⟩
  obtain ⟨locs, hlocs⟩ : ∃ z : List Loc, z = [] := ⟨_, rfl⟩
  rw [← hH] at hP
  have hS : va_S (zb_A g) s.heap H locs := by rw [hH, hlocs]; exact hS
  show W p l e _ s m args below meth c s.heap [] 0 0 _ _
  rw [← hH, ← hlocs]
  have hl : lv_has ls 5 [(0, .ref (g.2.2 + 0)), (1, .int p0), (2, .int p1), (3, .ref (g.2.2 + 318))] := hl
  refine lv_aload_n hx hb dL_setOffset_0 rfl (lv_at hl 3 rfl) ?_
  refine lv_iconst (v := (0 : Int32)) hx hb dL_setOffset_1 (by decide) ?_
  refine lv_aload_n hx hb dL_setOffset_2 rfl (lv_at hl 0 rfl) ?_
  refine lv_iload_n hx hb dL_setOffset_3 rfl (lv_at hl 1 rfl) ?_
  refine lv_iload_n hx hb dL_setOffset_4 rfl (lv_at hl 2 rfl) ?_
  refine zr_cVi (rest := [.int (0 : Int32), .ref (g.2.2 + 318)]) (As := [.int p0, .int p1]) X hP hS (ct_X7_setOffset (g := g) (nc := nc) (I := I) (J := J) (O := O) hnI l hf) cw_L_101 (zr_recv X hP (by omega) (zb_ceIo zk_0 (by decide)) rfl) rfl hl.1 (Nat.le_of_ble_eq_true rfl) ⟨Nat.le_of_ble_eq_true rfl, Nat.le_of_ble_eq_true rfl⟩ ⟨Nat.le_of_ble_eq_true rfl, Nat.le_of_ble_eq_true rfl⟩ dL_setOffset_5 rfl (fun H locs hP hS => ?_)
  refine lv_i2l hx hb dL_setOffset_8 rfl ?_
  refine zr_last X hP hS hnO dL_setOffset_9 (fun H locs hP hS => ?_)
  refine lv_goto (tgt := 21) hx hb dL_setOffset_10 (by decide) ?_
  refine lv_iconst (v := (0 : Int32)) hx hb dL_setOffset_21 (by decide) ?_
  exact zr_iret X hr hP hS dL_setOffset_22
set_option maxHeartbeats 4000000 in
set_option maxRecDepth 100000 in
theorem hc1_L_setOffset {g : zb_G} {nc : Nat} (hnI : 306 ≤ nc) (hnO : 320 ≤ nc) (l : Launch) (hlT : l.stackTraces = false) {p0 : Int32} {p1 : Int32} {I J O : Mem} {r : Int32} {Iq : Mem} (hf : fX7_setOffset p0 p1 I = some (1, r, Iq)) : zb_Ch l g nc yL_setOffset cL_setOffset 5 [(0, 10, 13, 25), (0, 10, 17, 19)] 8 169 1 6 [.ref (g.2.2 + 0), .int p0, .int p1, .ref (g.2.2 + 318)] (zb_ce g I J O) (some (.int (1 : Int32))) (zb_ce g Iq J O) := by
  refine zb_ofH (own := RL) (by decide +kernel) rfl (Nat.le_of_ble_eq_true rfl) ?_
  intro p e s m args below meth c ls X hr hnc hT hP hl
  have hx := X.1.1
  have hb := X.1.2.1
  have ho := X.1.2.2.2.1
  have hts := X.1.2.2.2.2
  have hS : va_S (zb_A g) s.heap s.heap [] := va_S.rf
  obtain ⟨H, hH⟩ : ∃ H, H = s.heap := ⟨_, rfl⟩
  obtain ⟨locs, hlocs⟩ : ∃ z : List Loc, z = [] := ⟨_, rfl⟩
  rw [← hH] at hP
  have hS : va_S (zb_A g) s.heap H locs := by rw [hH, hlocs]; exact hS
  show W p l e _ s m args below meth c s.heap [] 0 0 _ _
  rw [← hH, ← hlocs]
  have hl : lv_has ls 5 [(0, .ref (g.2.2 + 0)), (1, .int p0), (2, .int p1), (3, .ref (g.2.2 + 318))] := hl
  refine lv_aload_n hx hb dL_setOffset_0 rfl (lv_at hl 3 rfl) ?_
  refine lv_iconst (v := (0 : Int32)) hx hb dL_setOffset_1 (by decide) ?_
  refine lv_aload_n hx hb dL_setOffset_2 rfl (lv_at hl 0 rfl) ?_
  refine lv_iload_n hx hb dL_setOffset_3 rfl (lv_at hl 1 rfl) ?_
  refine lv_iload_n hx hb dL_setOffset_4 rfl (lv_at hl 2 rfl) ?_
  refine zr_catch (rest := [.int (0 : Int32), .ref (g.2.2 + 318)]) (As := [.int p0, .int p1]) X hP hS (cx_X7_setOffset (g := g) (nc := nc) (I := I) (J := J) (O := O) hnI l hlT (by decide) hf) cw_L_101 (zr_recv X hP (by omega) (zb_ceIo zk_0 (by decide)) rfl) rfl hl.1 (Nat.le_of_ble_eq_true rfl) ⟨Nat.le_of_ble_eq_true rfl, Nat.le_of_ble_eq_true rfl⟩ ⟨Nat.le_of_ble_eq_true rfl, Nat.le_of_ble_eq_true rfl⟩ dL_setOffset_5 rfl [] ⟨0, 10, 13, 25⟩ [⟨0, 10, 17, 19⟩] hT (fun z hz => nomatch hz) (by decide) (by decide) wl_1 wq_1 (fun H locs q hP hS => ?_)
  refine lv_astore (lv' := [(4, .ref q), (0, .ref (g.2.2 + 0)), (1, .int p0), (2, .int p1), (3, .ref (g.2.2 + 318))]) hx hb dL_setOffset_13 hl (by decide) rfl (fun ls hl => ?_)
  refine lv_iconst (v := (1 : Int32)) hx hb dL_setOffset_15 (by decide) ?_
  exact zr_iret X hr hP hS dL_setOffset_16
set_option maxHeartbeats 4000000 in
set_option maxRecDepth 100000 in
theorem hc2_L_setOffset {g : zb_G} {nc : Nat} (hnI : 306 ≤ nc) (hnO : 320 ≤ nc) (l : Launch) (hlT : l.stackTraces = false) {p0 : Int32} {p1 : Int32} {I J O : Mem} {r : Int32} {Iq : Mem} (hf : fX7_setOffset p0 p1 I = some (2, r, Iq)) : zb_Ch l g nc yL_setOffset cL_setOffset 5 [(0, 10, 13, 25), (0, 10, 17, 19)] 8 169 1 6 [.ref (g.2.2 + 0), .int p0, .int p1, .ref (g.2.2 + 318)] (zb_ce g I J O) (some (.int (2 : Int32))) (zb_ce g Iq J O) := by
  refine zb_ofH (own := RL) (by decide +kernel) rfl (Nat.le_of_ble_eq_true rfl) ?_
  intro p e s m args below meth c ls X hr hnc hT hP hl
  have hx := X.1.1
  have hb := X.1.2.1
  have ho := X.1.2.2.2.1
  have hts := X.1.2.2.2.2
  have hS : va_S (zb_A g) s.heap s.heap [] := va_S.rf
  obtain ⟨H, hH⟩ : ∃ H, H = s.heap := ⟨_, rfl⟩
  obtain ⟨locs, hlocs⟩ : ∃ z : List Loc, z = [] := ⟨_, rfl⟩
  rw [← hH] at hP
  have hS : va_S (zb_A g) s.heap H locs := by rw [hH, hlocs]; exact hS
  show W p l e _ s m args below meth c s.heap [] 0 0 _ _
  rw [← hH, ← hlocs]
  have hl : lv_has ls 5 [(0, .ref (g.2.2 + 0)), (1, .int p0), (2, .int p1), (3, .ref (g.2.2 + 318))] := hl
  refine lv_aload_n hx hb dL_setOffset_0 rfl (lv_at hl 3 rfl) ?_
  refine lv_iconst (v := (0 : Int32)) hx hb dL_setOffset_1 (by decide) ?_
  refine lv_aload_n hx hb dL_setOffset_2 rfl (lv_at hl 0 rfl) ?_
  refine lv_iload_n hx hb dL_setOffset_3 rfl (lv_at hl 1 rfl) ?_
  refine lv_iload_n hx hb dL_setOffset_4 rfl (lv_at hl 2 rfl) ?_
  refine zr_catch (rest := [.int (0 : Int32), .ref (g.2.2 + 318)]) (As := [.int p0, .int p1]) X hP hS (cx_X7_setOffset (g := g) (nc := nc) (I := I) (J := J) (O := O) hnI l hlT (by decide) hf) cw_L_101 (zr_recv X hP (by omega) (zb_ceIo zk_0 (by decide)) rfl) rfl hl.1 (Nat.le_of_ble_eq_true rfl) ⟨Nat.le_of_ble_eq_true rfl, Nat.le_of_ble_eq_true rfl⟩ ⟨Nat.le_of_ble_eq_true rfl, Nat.le_of_ble_eq_true rfl⟩ dL_setOffset_5 rfl [⟨0, 10, 13, 25⟩] ⟨0, 10, 17, 19⟩ [] hT (fun z hz => Or.inr (by rw [List.mem_singleton.mp hz]; exact ⟨by decide, zb_en 1, hts _ wl_1, hnc.1⟩)) (by decide) (by decide) wl_2 wq_2 (fun H locs q hP hS => ?_)
  refine lv_astore (lv' := [(4, .ref q), (0, .ref (g.2.2 + 0)), (1, .int p0), (2, .int p1), (3, .ref (g.2.2 + 318))]) hx hb dL_setOffset_17 hl (by decide) rfl (fun ls hl => ?_)
  refine lv_iconst (v := (2 : Int32)) hx hb dL_setOffset_19 (by decide) ?_
  exact zr_iret X hr hP hS dL_setOffset_20
theorem cw_L_104 : zb_cwV RL 104 yX7_setHold cX7_setHold 4 (some .int) 2 := zb_cwV_of (zb_in 1263 (by decide +kernel) rfl) (zb_in 1264 (by decide +kernel) rfl) (zb_in 1265 (by decide +kernel) rfl) (zb_in 101 (by decide +kernel) rfl) (zb_in 1266 (by decide +kernel) rfl) (by decide +kernel)
set_option maxHeartbeats 4000000 in
set_option maxRecDepth 100000 in
theorem hn_L_setHold {g : zb_G} {nc : Nat} (hnI : 306 ≤ nc) (hnO : 320 ≤ nc) (l : Launch) {p0 : Int32} {p1 : Int32} {I J O : Mem} {r : Int32} {Iq : Mem} (hf : fX7_setHold p0 p1 I = some (0, r, Iq)) : zb_Ch l g nc yL_setHold cL_setHold 5 [(0, 10, 13, 25), (0, 10, 17, 19)] 8 169 0 0 [.ref (g.2.2 + 0), .int p0, .int p1, .ref (g.2.2 + 318)] (zb_ce g I J O) (some (.int 0)) (zb_ce g Iq J (wr O 318 0 r)) := by
  refine zb_ofH (own := RL) (by decide +kernel) rfl (Nat.le_of_ble_eq_true rfl) ?_
  intro p e s m args below meth c ls X hr hnc hT hP hl
  have hx := X.1.1
  have hb := X.1.2.1
  have ho := X.1.2.2.2.1
  have hts := X.1.2.2.2.2
  have hS : va_S (zb_A g) s.heap s.heap [] := va_S.rf
  obtain ⟨H, hH⟩ : ∃ H, H = s.heap := ⟨_, rfl⟩
  obtain ⟨locs, hlocs⟩ : ∃ z : List Loc, z = [] := ⟨_, rfl⟩
  rw [← hH] at hP
  have hS : va_S (zb_A g) s.heap H locs := by rw [hH, hlocs]; exact hS
  show W p l e _ s m args below meth c s.heap [] 0 0 _ _
  rw [← hH, ← hlocs]
  have hl : lv_has ls 5 [(0, .ref (g.2.2 + 0)), (1, .int p0), (2, .int p1), (3, .ref (g.2.2 + 318))] := hl
  refine lv_aload_n hx hb dL_setHold_0 rfl (lv_at hl 3 rfl) ?_
  refine lv_iconst (v := (0 : Int32)) hx hb dL_setHold_1 (by decide) ?_
  refine lv_aload_n hx hb dL_setHold_2 rfl (lv_at hl 0 rfl) ?_
  refine lv_iload_n hx hb dL_setHold_3 rfl (lv_at hl 1 rfl) ?_
  refine lv_iload_n hx hb dL_setHold_4 rfl (lv_at hl 2 rfl) ?_
  refine zr_cVi (rest := [.int (0 : Int32), .ref (g.2.2 + 318)]) (As := [.int p0, .int p1]) X hP hS (ct_X7_setHold (g := g) (nc := nc) (I := I) (J := J) (O := O) hnI l hf) cw_L_104 (zr_recv X hP (by omega) (zb_ceIo zk_0 (by decide)) rfl) rfl hl.1 (Nat.le_of_ble_eq_true rfl) ⟨Nat.le_of_ble_eq_true rfl, Nat.le_of_ble_eq_true rfl⟩ ⟨Nat.le_of_ble_eq_true rfl, Nat.le_of_ble_eq_true rfl⟩ dL_setHold_5 rfl (fun H locs hP hS => ?_)
  refine lv_i2l hx hb dL_setHold_8 rfl ?_
  refine zr_last X hP hS hnO dL_setHold_9 (fun H locs hP hS => ?_)
  refine lv_goto (tgt := 21) hx hb dL_setHold_10 (by decide) ?_
  refine lv_iconst (v := (0 : Int32)) hx hb dL_setHold_21 (by decide) ?_
  exact zr_iret X hr hP hS dL_setHold_22
set_option maxHeartbeats 4000000 in
set_option maxRecDepth 100000 in
theorem hc1_L_setHold {g : zb_G} {nc : Nat} (hnI : 306 ≤ nc) (hnO : 320 ≤ nc) (l : Launch) (hlT : l.stackTraces = false) {p0 : Int32} {p1 : Int32} {I J O : Mem} {r : Int32} {Iq : Mem} (hf : fX7_setHold p0 p1 I = some (1, r, Iq)) : zb_Ch l g nc yL_setHold cL_setHold 5 [(0, 10, 13, 25), (0, 10, 17, 19)] 8 169 1 6 [.ref (g.2.2 + 0), .int p0, .int p1, .ref (g.2.2 + 318)] (zb_ce g I J O) (some (.int (1 : Int32))) (zb_ce g Iq J O) := by
  refine zb_ofH (own := RL) (by decide +kernel) rfl (Nat.le_of_ble_eq_true rfl) ?_
  intro p e s m args below meth c ls X hr hnc hT hP hl
  have hx := X.1.1
  have hb := X.1.2.1
  have ho := X.1.2.2.2.1
  have hts := X.1.2.2.2.2
  have hS : va_S (zb_A g) s.heap s.heap [] := va_S.rf
  obtain ⟨H, hH⟩ : ∃ H, H = s.heap := ⟨_, rfl⟩
  obtain ⟨locs, hlocs⟩ : ∃ z : List Loc, z = [] := ⟨_, rfl⟩
  rw [← hH] at hP
  have hS : va_S (zb_A g) s.heap H locs := by rw [hH, hlocs]; exact hS
  show W p l e _ s m args below meth c s.heap [] 0 0 _ _
  rw [← hH, ← hlocs]
  have hl : lv_has ls 5 [(0, .ref (g.2.2 + 0)), (1, .int p0), (2, .int p1), (3, .ref (g.2.2 + 318))] := hl
  refine lv_aload_n hx hb dL_setHold_0 rfl (lv_at hl 3 rfl) ?_
  refine lv_iconst (v := (0 : Int32)) hx hb dL_setHold_1 (by decide) ?_
  refine lv_aload_n hx hb dL_setHold_2 rfl (lv_at hl 0 rfl) ?_
  refine lv_iload_n hx hb dL_setHold_3 rfl (lv_at hl 1 rfl) ?_
  refine lv_iload_n hx hb dL_setHold_4 rfl (lv_at hl 2 rfl) ?_
  refine zr_catch (rest := [.int (0 : Int32), .ref (g.2.2 + 318)]) (As := [.int p0, .int p1]) X hP hS (cx_X7_setHold (g := g) (nc := nc) (I := I) (J := J) (O := O) hnI l hlT (by decide) hf) cw_L_104 (zr_recv X hP (by omega) (zb_ceIo zk_0 (by decide)) rfl) rfl hl.1 (Nat.le_of_ble_eq_true rfl) ⟨Nat.le_of_ble_eq_true rfl, Nat.le_of_ble_eq_true rfl⟩ ⟨Nat.le_of_ble_eq_true rfl, Nat.le_of_ble_eq_true rfl⟩ dL_setHold_5 rfl [] ⟨0, 10, 13, 25⟩ [⟨0, 10, 17, 19⟩] hT (fun z hz => nomatch hz) (by decide) (by decide) wl_1 wq_1 (fun H locs q hP hS => ?_)
  refine lv_astore (lv' := [(4, .ref q), (0, .ref (g.2.2 + 0)), (1, .int p0), (2, .int p1), (3, .ref (g.2.2 + 318))]) hx hb dL_setHold_13 hl (by decide) rfl (fun ls hl => ?_)
  refine lv_iconst (v := (1 : Int32)) hx hb dL_setHold_15 (by decide) ?_
  exact zr_iret X hr hP hS dL_setHold_16
set_option maxHeartbeats 4000000 in
set_option maxRecDepth 100000 in
theorem hc2_L_setHold {g : zb_G} {nc : Nat} (hnI : 306 ≤ nc) (hnO : 320 ≤ nc) (l : Launch) (hlT : l.stackTraces = false) {p0 : Int32} {p1 : Int32} {I J O : Mem} {r : Int32} {Iq : Mem} (hf : fX7_setHold p0 p1 I = some (2, r, Iq)) : zb_Ch l g nc yL_setHold cL_setHold 5 [(0, 10, 13, 25), (0, 10, 17, 19)] 8 169 1 6 [.ref (g.2.2 + 0), .int p0, .int p1, .ref (g.2.2 + 318)] (zb_ce g I J O) (some (.int (2 : Int32))) (zb_ce g Iq J O) := by
  refine zb_ofH (own := RL) (by decide +kernel) rfl (Nat.le_of_ble_eq_true rfl) ?_
  intro p e s m args below meth c ls X hr hnc hT hP hl
  have hx := X.1.1
  have hb := X.1.2.1
  have ho := X.1.2.2.2.1
  have hts := X.1.2.2.2.2
  have hS : va_S (zb_A g) s.heap s.heap [] := va_S.rf
  obtain ⟨H, hH⟩ : ∃ H, H = s.heap := ⟨_, rfl⟩
  obtain ⟨locs, hlocs⟩ : ∃ z : List Loc, z = [] := ⟨_, rfl⟩
  rw [← hH] at hP
  have hS : va_S (zb_A g) s.heap H locs := by rw [hH, hlocs]; exact hS
  show W p l e _ s m args below meth c s.heap [] 0 0 _ _
  rw [← hH, ← hlocs]
  have hl : lv_has ls 5 [(0, .ref (g.2.2 + 0)), (1, .int p0), (2, .int p1), (3, .ref (g.2.2 + 318))] := hl
  refine lv_aload_n hx hb dL_setHold_0 rfl (lv_at hl 3 rfl) ?_
  refine lv_iconst (v := (0 : Int32)) hx hb dL_setHold_1 (by decide) ?_
  refine lv_aload_n hx hb dL_setHold_2 rfl (lv_at hl 0 rfl) ?_
  refine lv_iload_n hx hb dL_setHold_3 rfl (lv_at hl 1 rfl) ?_
  refine lv_iload_n hx hb dL_setHold_4 rfl (lv_at hl 2 rfl) ?_
  refine zr_catch (rest := [.int (0 : Int32), .ref (g.2.2 + 318)]) (As := [.int p0, .int p1]) X hP hS (cx_X7_setHold (g := g) (nc := nc) (I := I) (J := J) (O := O) hnI l hlT (by decide) hf) cw_L_104 (zr_recv X hP (by omega) (zb_ceIo zk_0 (by decide)) rfl) rfl hl.1 (Nat.le_of_ble_eq_true rfl) ⟨Nat.le_of_ble_eq_true rfl, Nat.le_of_ble_eq_true rfl⟩ ⟨Nat.le_of_ble_eq_true rfl, Nat.le_of_ble_eq_true rfl⟩ dL_setHold_5 rfl [⟨0, 10, 13, 25⟩] ⟨0, 10, 17, 19⟩ [] hT (fun z hz => Or.inr (by rw [List.mem_singleton.mp hz]; exact ⟨by decide, zb_en 1, hts _ wl_1, hnc.1⟩)) (by decide) (by decide) wl_2 wq_2 (fun H locs q hP hS => ?_)
  refine lv_astore (lv' := [(4, .ref q), (0, .ref (g.2.2 + 0)), (1, .int p0), (2, .int p1), (3, .ref (g.2.2 + 318))]) hx hb dL_setHold_17 hl (by decide) rfl (fun ls hl => ?_)
  refine lv_iconst (v := (2 : Int32)) hx hb dL_setHold_19 (by decide) ?_
  exact zr_iret X hr hP hS dL_setHold_20
theorem cw_L_107 : zb_cwV RL 107 yX7_setTerms cX7_setTerms 5 (some .int) 3 := zb_cwV_of (zb_in 1271 (by decide +kernel) rfl) (zb_in 1272 (by decide +kernel) rfl) (zb_in 1273 (by decide +kernel) rfl) (zb_in 101 (by decide +kernel) rfl) (zb_in 1274 (by decide +kernel) rfl) (by decide +kernel)
set_option maxHeartbeats 4000000 in
set_option maxRecDepth 100000 in
theorem hn_L_setTerms {g : zb_G} {nc : Nat} (hnI : 306 ≤ nc) (hnO : 320 ≤ nc) (l : Launch) {p0 : Int32} {p1 : Int32} {p2 : Int32} {I J O : Mem} {r : Int32} {Iq : Mem} (hf : fX7_setTerms p0 p1 p2 I = some (0, r, Iq)) : zb_Ch l g nc yL_setTerms cL_setTerms 6 [(0, 12, 15, 19)] 7 149 0 0 [.ref (g.2.2 + 0), .int p0, .int p1, .int p2, .ref (g.2.2 + 318)] (zb_ce g I J O) (some (.int 0)) (zb_ce g Iq J (wr O 318 0 r)) := by
  refine zb_ofH (own := RL) (by decide +kernel) rfl (Nat.le_of_ble_eq_true rfl) ?_
  intro p e s m args below meth c ls X hr hnc hT hP hl
  have hx := X.1.1
  have hb := X.1.2.1
  have ho := X.1.2.2.2.1
  have hts := X.1.2.2.2.2
  have hS : va_S (zb_A g) s.heap s.heap [] := va_S.rf
  obtain ⟨H, hH⟩ : ∃ H, H = s.heap := ⟨_, rfl⟩
  obtain ⟨locs, hlocs⟩ : ∃ z : List Loc, z = [] := ⟨_, rfl⟩
  rw [← hH] at hP
  have hS : va_S (zb_A g) s.heap H locs := by rw [hH, hlocs]; exact hS
  show W p l e _ s m args below meth c s.heap [] 0 0 _ _
  rw [← hH, ← hlocs]
  have hl : lv_has ls 6 [(0, .ref (g.2.2 + 0)), (1, .int p0), (2, .int p1), (3, .int p2), (4, .ref (g.2.2 + 318))] := hl
  refine lv_aload hx hb dL_setTerms_0 (lv_at hl 4 rfl) ?_
  refine lv_iconst (v := (0 : Int32)) hx hb dL_setTerms_2 (by decide) ?_
  refine lv_aload_n hx hb dL_setTerms_3 rfl (lv_at hl 0 rfl) ?_
  refine lv_iload_n hx hb dL_setTerms_4 rfl (lv_at hl 1 rfl) ?_
  refine lv_iload_n hx hb dL_setTerms_5 rfl (lv_at hl 2 rfl) ?_
  refine lv_iload_n hx hb dL_setTerms_6 rfl (lv_at hl 3 rfl) ?_
  refine zr_cVi (rest := [.int (0 : Int32), .ref (g.2.2 + 318)]) (As := [.int p0, .int p1, .int p2]) X hP hS (ct_X7_setTerms (g := g) (nc := nc) (I := I) (J := J) (O := O) hnI l hf) cw_L_107 (zr_recv X hP (by omega) (zb_ceIo zk_0 (by decide)) rfl) rfl hl.1 (Nat.le_of_ble_eq_true rfl) ⟨Nat.le_of_ble_eq_true rfl, Nat.le_of_ble_eq_true rfl⟩ ⟨Nat.le_of_ble_eq_true rfl, Nat.le_of_ble_eq_true rfl⟩ dL_setTerms_7 rfl (fun H locs hP hS => ?_)
  refine lv_i2l hx hb dL_setTerms_10 rfl ?_
  refine zr_last X hP hS hnO dL_setTerms_11 (fun H locs hP hS => ?_)
  refine lv_goto (tgt := 19) hx hb dL_setTerms_12 (by decide) ?_
  refine lv_iconst (v := (0 : Int32)) hx hb dL_setTerms_19 (by decide) ?_
  exact zr_iret X hr hP hS dL_setTerms_20
set_option maxHeartbeats 4000000 in
set_option maxRecDepth 100000 in
theorem hc1_L_setTerms {g : zb_G} {nc : Nat} (hnI : 306 ≤ nc) (hnO : 320 ≤ nc) (l : Launch) (hlT : l.stackTraces = false) {p0 : Int32} {p1 : Int32} {p2 : Int32} {I J O : Mem} {r : Int32} {Iq : Mem} (hf : fX7_setTerms p0 p1 p2 I = some (2, r, Iq)) : zb_Ch l g nc yL_setTerms cL_setTerms 6 [(0, 12, 15, 19)] 7 149 1 6 [.ref (g.2.2 + 0), .int p0, .int p1, .int p2, .ref (g.2.2 + 318)] (zb_ce g I J O) (some (.int (1 : Int32))) (zb_ce g Iq J O) := by
  refine zb_ofH (own := RL) (by decide +kernel) rfl (Nat.le_of_ble_eq_true rfl) ?_
  intro p e s m args below meth c ls X hr hnc hT hP hl
  have hx := X.1.1
  have hb := X.1.2.1
  have ho := X.1.2.2.2.1
  have hts := X.1.2.2.2.2
  have hS : va_S (zb_A g) s.heap s.heap [] := va_S.rf
  obtain ⟨H, hH⟩ : ∃ H, H = s.heap := ⟨_, rfl⟩
  obtain ⟨locs, hlocs⟩ : ∃ z : List Loc, z = [] := ⟨_, rfl⟩
  rw [← hH] at hP
  have hS : va_S (zb_A g) s.heap H locs := by rw [hH, hlocs]; exact hS
  show W p l e _ s m args below meth c s.heap [] 0 0 _ _
  rw [← hH, ← hlocs]
  have hl : lv_has ls 6 [(0, .ref (g.2.2 + 0)), (1, .int p0), (2, .int p1), (3, .int p2), (4, .ref (g.2.2 + 318))] := hl
  refine lv_aload hx hb dL_setTerms_0 (lv_at hl 4 rfl) ?_
  refine lv_iconst (v := (0 : Int32)) hx hb dL_setTerms_2 (by decide) ?_
  refine lv_aload_n hx hb dL_setTerms_3 rfl (lv_at hl 0 rfl) ?_
  refine lv_iload_n hx hb dL_setTerms_4 rfl (lv_at hl 1 rfl) ?_
  refine lv_iload_n hx hb dL_setTerms_5 rfl (lv_at hl 2 rfl) ?_
  refine lv_iload_n hx hb dL_setTerms_6 rfl (lv_at hl 3 rfl) ?_
  refine zr_catch (rest := [.int (0 : Int32), .ref (g.2.2 + 318)]) (As := [.int p0, .int p1, .int p2]) X hP hS (cx_X7_setTerms (g := g) (nc := nc) (I := I) (J := J) (O := O) hnI l hlT (by decide) hf) cw_L_107 (zr_recv X hP (by omega) (zb_ceIo zk_0 (by decide)) rfl) rfl hl.1 (Nat.le_of_ble_eq_true rfl) ⟨Nat.le_of_ble_eq_true rfl, Nat.le_of_ble_eq_true rfl⟩ ⟨Nat.le_of_ble_eq_true rfl, Nat.le_of_ble_eq_true rfl⟩ dL_setTerms_7 rfl [] ⟨0, 12, 15, 19⟩ [] hT (fun z hz => nomatch hz) (by decide) (by decide) wl_2 wq_2 (fun H locs q hP hS => ?_)
  refine lv_astore (lv' := [(5, .ref q), (0, .ref (g.2.2 + 0)), (1, .int p0), (2, .int p1), (3, .int p2), (4, .ref (g.2.2 + 318))]) hx hb dL_setTerms_15 hl (by decide) rfl (fun ls hl => ?_)
  refine lv_iconst (v := (1 : Int32)) hx hb dL_setTerms_17 (by decide) ?_
  exact zr_iret X hr hP hS dL_setTerms_18
theorem cw_L_110 : zb_cwV RL 110 yX7_output cX7_output 2 (some .int) 1 := zb_cwV_of (zb_in 1279 (by decide +kernel) rfl) (zb_in 1280 (by decide +kernel) rfl) (zb_in 1281 (by decide +kernel) rfl) (zb_in 101 (by decide +kernel) rfl) (zb_in 1282 (by decide +kernel) rfl) (by decide +kernel)
set_option maxHeartbeats 4000000 in
set_option maxRecDepth 100000 in
theorem hn_L_output {g : zb_G} {nc : Nat} (hnI : 306 ≤ nc) (hnO : 320 ≤ nc) (l : Launch) {p0 : Int32} {I J O : Mem} {r : Int32} (hf : fX7_output p0 I = some (0, r)) : zb_Ch l g nc yL_output cL_output 4 [(0, 9, 12, 25)] 7 146 0 0 [.ref (g.2.2 + 0), .int p0, .ref (g.2.2 + 318)] (zb_ce g I J O) (some (.int 0)) (zb_ce g I J (wr O 318 0 r)) := by
  refine zb_ofH (own := RL) (by decide +kernel) rfl (Nat.le_of_ble_eq_true rfl) ?_
  intro p e s m args below meth c ls X hr hnc hT hP hl
  have hx := X.1.1
  have hb := X.1.2.1
  have ho := X.1.2.2.2.1
  have hts := X.1.2.2.2.2
  have hS : va_S (zb_A g) s.heap s.heap [] := va_S.rf
  obtain ⟨H, hH⟩ : ∃ H, H = s.heap := ⟨_, rfl⟩
  obtain ⟨locs, hlocs⟩ : ∃ z : List Loc, z = [] := ⟨_, rfl⟩
  rw [← hH] at hP
  have hS : va_S (zb_A g) s.heap H locs := by rw [hH, hlocs]; exact hS
  show W p l e _ s m args below meth c s.heap [] 0 0 _ _
  rw [← hH, ← hlocs]
  have hl : lv_has ls 4 [(0, .ref (g.2.2 + 0)), (1, .int p0), (2, .ref (g.2.2 + 318))] := hl
  refine lv_aload_n hx hb dL_output_0 rfl (lv_at hl 2 rfl) ?_
  refine lv_iconst (v := (0 : Int32)) hx hb dL_output_1 (by decide) ?_
  refine lv_aload_n hx hb dL_output_2 rfl (lv_at hl 0 rfl) ?_
  refine lv_iload_n hx hb dL_output_3 rfl (lv_at hl 1 rfl) ?_
  refine zr_cVi (rest := [.int (0 : Int32), .ref (g.2.2 + 318)]) (As := [.int p0]) X hP hS (ct_X7_output (g := g) (nc := nc) (I := I) (J := J) (O := O) hnI l hf) cw_L_110 (zr_recv X hP (by omega) (zb_ceIo zk_0 (by decide)) rfl) rfl hl.1 (Nat.le_of_ble_eq_true rfl) ⟨Nat.le_of_ble_eq_true rfl, Nat.le_of_ble_eq_true rfl⟩ ⟨Nat.le_of_ble_eq_true rfl, Nat.le_of_ble_eq_true rfl⟩ dL_output_4 rfl (fun H locs hP hS => ?_)
  refine lv_i2l hx hb dL_output_7 rfl ?_
  refine zr_last X hP hS hnO dL_output_8 (fun H locs hP hS => ?_)
  refine lv_goto (tgt := 15) hx hb dL_output_9 (by decide) ?_
  refine lv_iconst (v := (0 : Int32)) hx hb dL_output_15 (by decide) ?_
  exact zr_iret X hr hP hS dL_output_16
set_option maxHeartbeats 4000000 in
set_option maxRecDepth 100000 in
theorem hc1_L_output {g : zb_G} {nc : Nat} (hnI : 306 ≤ nc) (hnO : 320 ≤ nc) (l : Launch) (hlT : l.stackTraces = false) {p0 : Int32} {I J O : Mem} {r : Int32} (hf : fX7_output p0 I = some (1, r)) : zb_Ch l g nc yL_output cL_output 4 [(0, 9, 12, 25)] 7 146 1 6 [.ref (g.2.2 + 0), .int p0, .ref (g.2.2 + 318)] (zb_ce g I J O) (some (.int (1 : Int32))) (zb_ce g I J O) := by
  refine zb_ofH (own := RL) (by decide +kernel) rfl (Nat.le_of_ble_eq_true rfl) ?_
  intro p e s m args below meth c ls X hr hnc hT hP hl
  have hx := X.1.1
  have hb := X.1.2.1
  have ho := X.1.2.2.2.1
  have hts := X.1.2.2.2.2
  have hS : va_S (zb_A g) s.heap s.heap [] := va_S.rf
  obtain ⟨H, hH⟩ : ∃ H, H = s.heap := ⟨_, rfl⟩
  obtain ⟨locs, hlocs⟩ : ∃ z : List Loc, z = [] := ⟨_, rfl⟩
  rw [← hH] at hP
  have hS : va_S (zb_A g) s.heap H locs := by rw [hH, hlocs]; exact hS
  show W p l e _ s m args below meth c s.heap [] 0 0 _ _
  rw [← hH, ← hlocs]
  have hl : lv_has ls 4 [(0, .ref (g.2.2 + 0)), (1, .int p0), (2, .ref (g.2.2 + 318))] := hl
  refine lv_aload_n hx hb dL_output_0 rfl (lv_at hl 2 rfl) ?_
  refine lv_iconst (v := (0 : Int32)) hx hb dL_output_1 (by decide) ?_
  refine lv_aload_n hx hb dL_output_2 rfl (lv_at hl 0 rfl) ?_
  refine lv_iload_n hx hb dL_output_3 rfl (lv_at hl 1 rfl) ?_
  refine zr_catch (rest := [.int (0 : Int32), .ref (g.2.2 + 318)]) (As := [.int p0]) X hP hS (cx_X7_output (g := g) (nc := nc) (I := I) (J := J) (O := O) hnI l hlT (by decide) hf) cw_L_110 (zr_recv X hP (by omega) (zb_ceIo zk_0 (by decide)) rfl) rfl hl.1 (Nat.le_of_ble_eq_true rfl) ⟨Nat.le_of_ble_eq_true rfl, Nat.le_of_ble_eq_true rfl⟩ ⟨Nat.le_of_ble_eq_true rfl, Nat.le_of_ble_eq_true rfl⟩ dL_output_4 rfl [] ⟨0, 9, 12, 25⟩ [] hT (fun z hz => nomatch hz) (by decide) (by decide) wl_1 wq_1 (fun H locs q hP hS => ?_)
  refine lv_astore_n (lv' := [(3, .ref q), (0, .ref (g.2.2 + 0)), (1, .int p0), (2, .ref (g.2.2 + 318))]) hx hb dL_output_12 rfl hl (by decide) rfl (fun ls hl => ?_)
  refine lv_iconst (v := (1 : Int32)) hx hb dL_output_13 (by decide) ?_
  exact zr_iret X hr hP hS dL_output_14
theorem cw_L_113 : zb_cwV RL 113 yX7_undo cX7_undo 1 (some .int) 0 := zb_cwV_of (zb_in 1287 (by decide +kernel) rfl) (zb_in 1288 (by decide +kernel) rfl) (zb_in 1289 (by decide +kernel) rfl) (zb_in 101 (by decide +kernel) rfl) (zb_in 1290 (by decide +kernel) rfl) (by decide +kernel)
set_option maxHeartbeats 4000000 in
set_option maxRecDepth 100000 in
theorem hn_L_undo {g : zb_G} {nc : Nat} (hnI : 306 ≤ nc) (hnO : 320 ≤ nc) (l : Launch) {I J O : Mem} {r : Int32} {Iq : Mem} (hf : fX7_undo I = some (0, r, Iq)) : zb_Ch l g nc yL_undo cL_undo 3 [(0, 8, 11, 13)] 7 145 0 0 [.ref (g.2.2 + 0), .ref (g.2.2 + 318)] (zb_ce g I J O) (some (.int 0)) (zb_ce g Iq J (wr O 318 0 r)) := by
  refine zb_ofH (own := RL) (by decide +kernel) rfl (Nat.le_of_ble_eq_true rfl) ?_
  intro p e s m args below meth c ls X hr hnc hT hP hl
  have hx := X.1.1
  have hb := X.1.2.1
  have ho := X.1.2.2.2.1
  have hts := X.1.2.2.2.2
  have hS : va_S (zb_A g) s.heap s.heap [] := va_S.rf
  obtain ⟨H, hH⟩ : ∃ H, H = s.heap := ⟨_, rfl⟩
  obtain ⟨locs, hlocs⟩ : ∃ z : List Loc, z = [] := ⟨_, rfl⟩
  rw [← hH] at hP
  have hS : va_S (zb_A g) s.heap H locs := by rw [hH, hlocs]; exact hS
  show W p l e _ s m args below meth c s.heap [] 0 0 _ _
  rw [← hH, ← hlocs]
  have hl : lv_has ls 3 [(0, .ref (g.2.2 + 0)), (1, .ref (g.2.2 + 318))] := hl
  refine lv_aload_n hx hb dL_undo_0 rfl (lv_at hl 1 rfl) ?_
  refine lv_iconst (v := (0 : Int32)) hx hb dL_undo_1 (by decide) ?_
  refine lv_aload_n hx hb dL_undo_2 rfl (lv_at hl 0 rfl) ?_
  refine zr_cVi (rest := [.int (0 : Int32), .ref (g.2.2 + 318)]) (As := []) X hP hS (ct_X7_undo (g := g) (nc := nc) (I := I) (J := J) (O := O) hnI l hf) cw_L_113 (zr_recv X hP (by omega) (zb_ceIo zk_0 (by decide)) rfl) rfl hl.1 (Nat.le_of_ble_eq_true rfl) ⟨Nat.le_of_ble_eq_true rfl, Nat.le_of_ble_eq_true rfl⟩ ⟨Nat.le_of_ble_eq_true rfl, Nat.le_of_ble_eq_true rfl⟩ dL_undo_3 rfl (fun H locs hP hS => ?_)
  refine lv_i2l hx hb dL_undo_6 rfl ?_
  refine zr_last X hP hS hnO dL_undo_7 (fun H locs hP hS => ?_)
  refine lv_goto (tgt := 14) hx hb dL_undo_8 (by decide) ?_
  refine lv_iconst (v := (0 : Int32)) hx hb dL_undo_14 (by decide) ?_
  exact zr_iret X hr hP hS dL_undo_15
set_option maxHeartbeats 4000000 in
set_option maxRecDepth 100000 in
theorem hc1_L_undo {g : zb_G} {nc : Nat} (hnI : 306 ≤ nc) (hnO : 320 ≤ nc) (l : Launch) (hlT : l.stackTraces = false) {I J O : Mem} {r : Int32} {Iq : Mem} (hf : fX7_undo I = some (3, r, Iq)) : zb_Ch l g nc yL_undo cL_undo 3 [(0, 8, 11, 13)] 7 145 1 6 [.ref (g.2.2 + 0), .ref (g.2.2 + 318)] (zb_ce g I J O) (some (.int (1 : Int32))) (zb_ce g Iq J O) := by
  refine zb_ofH (own := RL) (by decide +kernel) rfl (Nat.le_of_ble_eq_true rfl) ?_
  intro p e s m args below meth c ls X hr hnc hT hP hl
  have hx := X.1.1
  have hb := X.1.2.1
  have ho := X.1.2.2.2.1
  have hts := X.1.2.2.2.2
  have hS : va_S (zb_A g) s.heap s.heap [] := va_S.rf
  obtain ⟨H, hH⟩ : ∃ H, H = s.heap := ⟨_, rfl⟩
  obtain ⟨locs, hlocs⟩ : ∃ z : List Loc, z = [] := ⟨_, rfl⟩
  rw [← hH] at hP
  have hS : va_S (zb_A g) s.heap H locs := by rw [hH, hlocs]; exact hS
  show W p l e _ s m args below meth c s.heap [] 0 0 _ _
  rw [← hH, ← hlocs]
  have hl : lv_has ls 3 [(0, .ref (g.2.2 + 0)), (1, .ref (g.2.2 + 318))] := hl
  refine lv_aload_n hx hb dL_undo_0 rfl (lv_at hl 1 rfl) ?_
  refine lv_iconst (v := (0 : Int32)) hx hb dL_undo_1 (by decide) ?_
  refine lv_aload_n hx hb dL_undo_2 rfl (lv_at hl 0 rfl) ?_
  refine zr_catch (rest := [.int (0 : Int32), .ref (g.2.2 + 318)]) (As := []) X hP hS (cx_X7_undo (g := g) (nc := nc) (I := I) (J := J) (O := O) hnI l hlT (by decide) hf) cw_L_113 (zr_recv X hP (by omega) (zb_ceIo zk_0 (by decide)) rfl) rfl hl.1 (Nat.le_of_ble_eq_true rfl) ⟨Nat.le_of_ble_eq_true rfl, Nat.le_of_ble_eq_true rfl⟩ ⟨Nat.le_of_ble_eq_true rfl, Nat.le_of_ble_eq_true rfl⟩ dL_undo_3 rfl [] ⟨0, 8, 11, 13⟩ [] hT (fun z hz => nomatch hz) (by decide) (by decide) wl_3 wq_3 (fun H locs q hP hS => ?_)
  refine lv_astore_n (lv' := [(2, .ref q), (0, .ref (g.2.2 + 0)), (1, .ref (g.2.2 + 318))]) hx hb dL_undo_11 rfl hl (by decide) rfl (fun ls hl => ?_)
  refine lv_iconst (v := (1 : Int32)) hx hb dL_undo_12 (by decide) ?_
  exact zr_iret X hr hP hS dL_undo_13
theorem cw_L_116 : zb_cwV RL 116 yX7_save cX7_save 2 (some .int) 1 := zb_cwV_of (zb_in 1296 (by decide +kernel) rfl) (zb_in 1297 (by decide +kernel) rfl) (zb_in 1298 (by decide +kernel) rfl) (zb_in 101 (by decide +kernel) rfl) (zb_in 1299 (by decide +kernel) rfl) (by decide +kernel)
set_option maxHeartbeats 4000000 in
set_option maxRecDepth 100000 in
theorem hn_L_save {g : zb_G} {nc : Nat} (hnI : 306 ≤ nc) (hnO : 320 ≤ nc) (l : Launch) {p0 : Int32} {I J O : Mem} {r : Int32} {Iq : Mem} (hf : fX7_save p0 I = some (0, r, Iq)) : zb_Ch l g nc yL_save cL_save 4 [(0, 9, 12, 25)] 8 167 0 0 [.ref (g.2.2 + 0), .int p0, .ref (g.2.2 + 318)] (zb_ce g I J O) (some (.int 0)) (zb_ce g Iq J (wr O 318 0 r)) := by
  refine zb_ofH (own := RL) (by decide +kernel) rfl (Nat.le_of_ble_eq_true rfl) ?_
  intro p e s m args below meth c ls X hr hnc hT hP hl
  have hx := X.1.1
  have hb := X.1.2.1
  have ho := X.1.2.2.2.1
  have hts := X.1.2.2.2.2
  have hS : va_S (zb_A g) s.heap s.heap [] := va_S.rf
  obtain ⟨H, hH⟩ : ∃ H, H = s.heap := ⟨_, rfl⟩
  obtain ⟨locs, hlocs⟩ : ∃ z : List Loc, z = [] := ⟨_, rfl⟩
  rw [← hH] at hP
  have hS : va_S (zb_A g) s.heap H locs := by rw [hH, hlocs]; exact hS
  show W p l e _ s m args below meth c s.heap [] 0 0 _ _
  rw [← hH, ← hlocs]
  have hl : lv_has ls 4 [(0, .ref (g.2.2 + 0)), (1, .int p0), (2, .ref (g.2.2 + 318))] := hl
  refine lv_aload_n hx hb dL_save_0 rfl (lv_at hl 2 rfl) ?_
  refine lv_iconst (v := (0 : Int32)) hx hb dL_save_1 (by decide) ?_
  refine lv_aload_n hx hb dL_save_2 rfl (lv_at hl 0 rfl) ?_
  refine lv_iload_n hx hb dL_save_3 rfl (lv_at hl 1 rfl) ?_
  refine zr_cVi (rest := [.int (0 : Int32), .ref (g.2.2 + 318)]) (As := [.int p0]) X hP hS (ct_X7_save (g := g) (nc := nc) (I := I) (J := J) (O := O) hnI l hf) cw_L_116 (zr_recv X hP (by omega) (zb_ceIo zk_0 (by decide)) rfl) rfl hl.1 (Nat.le_of_ble_eq_true rfl) ⟨Nat.le_of_ble_eq_true rfl, Nat.le_of_ble_eq_true rfl⟩ ⟨Nat.le_of_ble_eq_true rfl, Nat.le_of_ble_eq_true rfl⟩ dL_save_4 rfl (fun H locs hP hS => ?_)
  refine lv_i2l hx hb dL_save_7 rfl ?_
  refine zr_last X hP hS hnO dL_save_8 (fun H locs hP hS => ?_)
  refine lv_goto (tgt := 15) hx hb dL_save_9 (by decide) ?_
  refine lv_iconst (v := (0 : Int32)) hx hb dL_save_15 (by decide) ?_
  exact zr_iret X hr hP hS dL_save_16
set_option maxHeartbeats 4000000 in
set_option maxRecDepth 100000 in
theorem hc1_L_save {g : zb_G} {nc : Nat} (hnI : 306 ≤ nc) (hnO : 320 ≤ nc) (l : Launch) (hlT : l.stackTraces = false) {p0 : Int32} {I J O : Mem} {r : Int32} {Iq : Mem} (hf : fX7_save p0 I = some (1, r, Iq)) : zb_Ch l g nc yL_save cL_save 4 [(0, 9, 12, 25)] 8 167 1 6 [.ref (g.2.2 + 0), .int p0, .ref (g.2.2 + 318)] (zb_ce g I J O) (some (.int (1 : Int32))) (zb_ce g Iq J O) := by
  refine zb_ofH (own := RL) (by decide +kernel) rfl (Nat.le_of_ble_eq_true rfl) ?_
  intro p e s m args below meth c ls X hr hnc hT hP hl
  have hx := X.1.1
  have hb := X.1.2.1
  have ho := X.1.2.2.2.1
  have hts := X.1.2.2.2.2
  have hS : va_S (zb_A g) s.heap s.heap [] := va_S.rf
  obtain ⟨H, hH⟩ : ∃ H, H = s.heap := ⟨_, rfl⟩
  obtain ⟨locs, hlocs⟩ : ∃ z : List Loc, z = [] := ⟨_, rfl⟩
  rw [← hH] at hP
  have hS : va_S (zb_A g) s.heap H locs := by rw [hH, hlocs]; exact hS
  show W p l e _ s m args below meth c s.heap [] 0 0 _ _
  rw [← hH, ← hlocs]
  have hl : lv_has ls 4 [(0, .ref (g.2.2 + 0)), (1, .int p0), (2, .ref (g.2.2 + 318))] := hl
  refine lv_aload_n hx hb dL_save_0 rfl (lv_at hl 2 rfl) ?_
  refine lv_iconst (v := (0 : Int32)) hx hb dL_save_1 (by decide) ?_
  refine lv_aload_n hx hb dL_save_2 rfl (lv_at hl 0 rfl) ?_
  refine lv_iload_n hx hb dL_save_3 rfl (lv_at hl 1 rfl) ?_
  refine zr_catch (rest := [.int (0 : Int32), .ref (g.2.2 + 318)]) (As := [.int p0]) X hP hS (cx_X7_save (g := g) (nc := nc) (I := I) (J := J) (O := O) hnI l hlT (by decide) hf) cw_L_116 (zr_recv X hP (by omega) (zb_ceIo zk_0 (by decide)) rfl) rfl hl.1 (Nat.le_of_ble_eq_true rfl) ⟨Nat.le_of_ble_eq_true rfl, Nat.le_of_ble_eq_true rfl⟩ ⟨Nat.le_of_ble_eq_true rfl, Nat.le_of_ble_eq_true rfl⟩ dL_save_4 rfl [] ⟨0, 9, 12, 25⟩ [] hT (fun z hz => nomatch hz) (by decide) (by decide) wl_1 wq_1 (fun H locs q hP hS => ?_)
  refine lv_astore_n (lv' := [(3, .ref q), (0, .ref (g.2.2 + 0)), (1, .int p0), (2, .ref (g.2.2 + 318))]) hx hb dL_save_12 rfl hl (by decide) rfl (fun ls hl => ?_)
  refine lv_iconst (v := (1 : Int32)) hx hb dL_save_13 (by decide) ?_
  exact zr_iret X hr hP hS dL_save_14
theorem cw_L_119 : zb_cwV RL 119 yX7_restore cX7_restore 2 (some .int) 1 := zb_cwV_of (zb_in 1308 (by decide +kernel) rfl) (zb_in 1309 (by decide +kernel) rfl) (zb_in 1310 (by decide +kernel) rfl) (zb_in 101 (by decide +kernel) rfl) (zb_in 1311 (by decide +kernel) rfl) (by decide +kernel)
set_option maxHeartbeats 4000000 in
set_option maxRecDepth 100000 in
theorem hn_L_restore {g : zb_G} {nc : Nat} (hnI : 306 ≤ nc) (hnO : 320 ≤ nc) (l : Launch) {p0 : Int32} {I J O : Mem} {r : Int32} {Iq : Mem} (hf : fX7_restore p0 I = some (0, r, Iq)) : zb_Ch l g nc yL_restore cL_restore 4 [(0, 9, 12, 25), (0, 9, 15, 13)] 8 167 0 0 [.ref (g.2.2 + 0), .int p0, .ref (g.2.2 + 318)] (zb_ce g I J O) (some (.int 0)) (zb_ce g Iq J (wr O 318 0 r)) := by
  refine zb_ofH (own := RL) (by decide +kernel) rfl (Nat.le_of_ble_eq_true rfl) ?_
  intro p e s m args below meth c ls X hr hnc hT hP hl
  have hx := X.1.1
  have hb := X.1.2.1
  have ho := X.1.2.2.2.1
  have hts := X.1.2.2.2.2
  have hS : va_S (zb_A g) s.heap s.heap [] := va_S.rf
  obtain ⟨H, hH⟩ : ∃ H, H = s.heap := ⟨_, rfl⟩
  obtain ⟨locs, hlocs⟩ : ∃ z : List Loc, z = [] := ⟨_, rfl⟩
  rw [← hH] at hP
  have hS : va_S (zb_A g) s.heap H locs := by rw [hH, hlocs]; exact hS
  show W p l e _ s m args below meth c s.heap [] 0 0 _ _
  rw [← hH, ← hlocs]
  have hl : lv_has ls 4 [(0, .ref (g.2.2 + 0)), (1, .int p0), (2, .ref (g.2.2 + 318))] := hl
  refine lv_aload_n hx hb dL_restore_0 rfl (lv_at hl 2 rfl) ?_
  refine lv_iconst (v := (0 : Int32)) hx hb dL_restore_1 (by decide) ?_
  refine lv_aload_n hx hb dL_restore_2 rfl (lv_at hl 0 rfl) ?_
  refine lv_iload_n hx hb dL_restore_3 rfl (lv_at hl 1 rfl) ?_
  refine zr_cVi (rest := [.int (0 : Int32), .ref (g.2.2 + 318)]) (As := [.int p0]) X hP hS (ct_X7_restore (g := g) (nc := nc) (I := I) (J := J) (O := O) hnI l hf) cw_L_119 (zr_recv X hP (by omega) (zb_ceIo zk_0 (by decide)) rfl) rfl hl.1 (Nat.le_of_ble_eq_true rfl) ⟨Nat.le_of_ble_eq_true rfl, Nat.le_of_ble_eq_true rfl⟩ ⟨Nat.le_of_ble_eq_true rfl, Nat.le_of_ble_eq_true rfl⟩ dL_restore_4 rfl (fun H locs hP hS => ?_)
  refine lv_i2l hx hb dL_restore_7 rfl ?_
  refine zr_last X hP hS hnO dL_restore_8 (fun H locs hP hS => ?_)
  refine lv_goto (tgt := 18) hx hb dL_restore_9 (by decide) ?_
  refine lv_iconst (v := (0 : Int32)) hx hb dL_restore_18 (by decide) ?_
  exact zr_iret X hr hP hS dL_restore_19
set_option maxHeartbeats 4000000 in
set_option maxRecDepth 100000 in
theorem hc1_L_restore {g : zb_G} {nc : Nat} (hnI : 306 ≤ nc) (hnO : 320 ≤ nc) (l : Launch) (hlT : l.stackTraces = false) {p0 : Int32} {I J O : Mem} {r : Int32} {Iq : Mem} (hf : fX7_restore p0 I = some (1, r, Iq)) : zb_Ch l g nc yL_restore cL_restore 4 [(0, 9, 12, 25), (0, 9, 15, 13)] 8 167 1 6 [.ref (g.2.2 + 0), .int p0, .ref (g.2.2 + 318)] (zb_ce g I J O) (some (.int (1 : Int32))) (zb_ce g Iq J O) := by
  refine zb_ofH (own := RL) (by decide +kernel) rfl (Nat.le_of_ble_eq_true rfl) ?_
  intro p e s m args below meth c ls X hr hnc hT hP hl
  have hx := X.1.1
  have hb := X.1.2.1
  have ho := X.1.2.2.2.1
  have hts := X.1.2.2.2.2
  have hS : va_S (zb_A g) s.heap s.heap [] := va_S.rf
  obtain ⟨H, hH⟩ : ∃ H, H = s.heap := ⟨_, rfl⟩
  obtain ⟨locs, hlocs⟩ : ∃ z : List Loc, z = [] := ⟨_, rfl⟩
  rw [← hH] at hP
  have hS : va_S (zb_A g) s.heap H locs := by rw [hH, hlocs]; exact hS
  show W p l e _ s m args below meth c s.heap [] 0 0 _ _
  rw [← hH, ← hlocs]
  have hl : lv_has ls 4 [(0, .ref (g.2.2 + 0)), (1, .int p0), (2, .ref (g.2.2 + 318))] := hl
  refine lv_aload_n hx hb dL_restore_0 rfl (lv_at hl 2 rfl) ?_
  refine lv_iconst (v := (0 : Int32)) hx hb dL_restore_1 (by decide) ?_
  refine lv_aload_n hx hb dL_restore_2 rfl (lv_at hl 0 rfl) ?_
  refine lv_iload_n hx hb dL_restore_3 rfl (lv_at hl 1 rfl) ?_
  refine zr_catch (rest := [.int (0 : Int32), .ref (g.2.2 + 318)]) (As := [.int p0]) X hP hS (cx_X7_restore (g := g) (nc := nc) (I := I) (J := J) (O := O) hnI l hlT (by decide) hf) cw_L_119 (zr_recv X hP (by omega) (zb_ceIo zk_0 (by decide)) rfl) rfl hl.1 (Nat.le_of_ble_eq_true rfl) ⟨Nat.le_of_ble_eq_true rfl, Nat.le_of_ble_eq_true rfl⟩ ⟨Nat.le_of_ble_eq_true rfl, Nat.le_of_ble_eq_true rfl⟩ dL_restore_4 rfl [] ⟨0, 9, 12, 25⟩ [⟨0, 9, 15, 13⟩] hT (fun z hz => nomatch hz) (by decide) (by decide) wl_1 wq_1 (fun H locs q hP hS => ?_)
  refine lv_astore_n (lv' := [(3, .ref q), (0, .ref (g.2.2 + 0)), (1, .int p0), (2, .ref (g.2.2 + 318))]) hx hb dL_restore_12 rfl hl (by decide) rfl (fun ls hl => ?_)
  refine lv_iconst (v := (1 : Int32)) hx hb dL_restore_13 (by decide) ?_
  exact zr_iret X hr hP hS dL_restore_14
set_option maxHeartbeats 4000000 in
set_option maxRecDepth 100000 in
theorem hc2_L_restore {g : zb_G} {nc : Nat} (hnI : 306 ≤ nc) (hnO : 320 ≤ nc) (l : Launch) (hlT : l.stackTraces = false) {p0 : Int32} {I J O : Mem} {r : Int32} {Iq : Mem} (hf : fX7_restore p0 I = some (3, r, Iq)) : zb_Ch l g nc yL_restore cL_restore 4 [(0, 9, 12, 25), (0, 9, 15, 13)] 8 167 1 6 [.ref (g.2.2 + 0), .int p0, .ref (g.2.2 + 318)] (zb_ce g I J O) (some (.int (2 : Int32))) (zb_ce g Iq J O) := by
  refine zb_ofH (own := RL) (by decide +kernel) rfl (Nat.le_of_ble_eq_true rfl) ?_
  intro p e s m args below meth c ls X hr hnc hT hP hl
  have hx := X.1.1
  have hb := X.1.2.1
  have ho := X.1.2.2.2.1
  have hts := X.1.2.2.2.2
  have hS : va_S (zb_A g) s.heap s.heap [] := va_S.rf
  obtain ⟨H, hH⟩ : ∃ H, H = s.heap := ⟨_, rfl⟩
  obtain ⟨locs, hlocs⟩ : ∃ z : List Loc, z = [] := ⟨_, rfl⟩
  rw [← hH] at hP
  have hS : va_S (zb_A g) s.heap H locs := by rw [hH, hlocs]; exact hS
  show W p l e _ s m args below meth c s.heap [] 0 0 _ _
  rw [← hH, ← hlocs]
  have hl : lv_has ls 4 [(0, .ref (g.2.2 + 0)), (1, .int p0), (2, .ref (g.2.2 + 318))] := hl
  refine lv_aload_n hx hb dL_restore_0 rfl (lv_at hl 2 rfl) ?_
  refine lv_iconst (v := (0 : Int32)) hx hb dL_restore_1 (by decide) ?_
  refine lv_aload_n hx hb dL_restore_2 rfl (lv_at hl 0 rfl) ?_
  refine lv_iload_n hx hb dL_restore_3 rfl (lv_at hl 1 rfl) ?_
  refine zr_catch (rest := [.int (0 : Int32), .ref (g.2.2 + 318)]) (As := [.int p0]) X hP hS (cx_X7_restore (g := g) (nc := nc) (I := I) (J := J) (O := O) hnI l hlT (by decide) hf) cw_L_119 (zr_recv X hP (by omega) (zb_ceIo zk_0 (by decide)) rfl) rfl hl.1 (Nat.le_of_ble_eq_true rfl) ⟨Nat.le_of_ble_eq_true rfl, Nat.le_of_ble_eq_true rfl⟩ ⟨Nat.le_of_ble_eq_true rfl, Nat.le_of_ble_eq_true rfl⟩ dL_restore_4 rfl [⟨0, 9, 12, 25⟩] ⟨0, 9, 15, 13⟩ [] hT (fun z hz => Or.inr (by rw [List.mem_singleton.mp hz]; exact ⟨by decide, zb_en 1, hts _ wl_1, hnc.2.1⟩)) (by decide) (by decide) wl_3 wq_3 (fun H locs q hP hS => ?_)
  refine lv_astore_n (lv' := [(3, .ref q), (0, .ref (g.2.2 + 0)), (1, .int p0), (2, .ref (g.2.2 + 318))]) hx hb dL_restore_15 rfl hl (by decide) rfl (fun ls hl => ?_)
  refine lv_iconst (v := (2 : Int32)) hx hb dL_restore_16 (by decide) ?_
  exact zr_iret X hr hP hS dL_restore_17
