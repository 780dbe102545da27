/-! ROWS OVER THE WORLD; what a walk has at hand (zb_X), contracts (zb_Ct), calls -/
/-- the words about the machine's own statics that a throw reads -/
def zb_Z (g : zb_G) (U : State) (H : Heap) : Prop := vx_Zq Bundle.tN "UNASSIGNED_STACK" Bundle.steD (zb_A g) U H ∧ vx_Zq Bundle.tN "SUPPRESSED_SENTINEL" Bundle.listD (zb_A g) U H
theorem zb_Z.moved {g : zb_G} {u U : State} {H : Heap} (hvm : u.vm.Alike U.vm) (h : zb_Z g u H) : zb_Z g U H := ⟨h.1.moved hvm, h.2.moved hvm⟩
theorem zb_Z.kept {g : zb_G} {U : State} {H H1 : Heap} (h : zb_Z g U H) (hq : ∀ a : Nat, a < H.size → ¬ zb_A g a → H1[a]? = H[a]?) : zb_Z g U H1 := ⟨h.1.kept hq, h.2.kept hq⟩
def zb_X (g : zb_G) (p : Program) (m : MethodId) (c : Code) (cc : ByteArray) (nL : Nat) (s : State) (args : Array Value) (own : String) (meth : Method) : Prop :=
  CallFix p m c cc nL s args zb_Wd own ∧ meth.locks = false ∧ va_K g.1 vwCl (zb_ty g) s ∧ zb_Z g s s.heap
/-- a method's start and end -/
def zb_Pre (g : zb_G) (nc : Nat) (C : Nat → va_E) (as : List Value) : Array Value → State → Prop := va_Pc as (fun U => va_P g.1 vwCl (zb_ws g nc C) U.heap ∧ va_K g.1 vwCl (zb_ty g) U ∧ zb_Z g U U.heap)
def zb_Po (g : zb_G) (nc : Nat) (C : Nat → va_E) (v : Option Value) : Array Value → State → Outcome → State → Prop := fun _ st o t => (o = .returned v ∧ va_P g.1 vwCl (zb_ws g nc C) t.heap) ∧ va_F (zb_A g) st t
abbrev zb_Ct (l : Launch) (g : zb_G) (nc : Nat) (y : MethodName) (cc : ByteArray) (maxL : Nat) (ret : Option FieldType) (fr lo : Nat) (as : List Value) (C : Nat → va_E) (v : Option Value) (C' : Nat → va_E) : Prop :=
  Met l y (Cond.code y cc maxL ret :: zb_Wd) { frames := fr, cells := 0, slots := 0, locals := lo } (zb_Pre g nc C as) (zb_Po g nc C' v) 0 0 (zb_A g)
theorem zb_blind {g : zb_G} {nc : Nat} {C : Nat → va_E} {as : List Value} : FrameBlind (zb_Pre g nc C as) := fun a U gg mk q =>
  ⟨q.1, q.2.1, va_K.moved (u := U) (U := U.calling gg mk a) (Vm.Alike.refl U.vm) q.2.2.1, zb_Z.moved (u := U) (U := U.calling gg mk a) (Vm.Alike.refl U.vm) q.2.2.2⟩
theorem zb_pre {g : zb_G} {nc : Nat} {C : Nat → va_E} {as : List Value} {s : State} {H : Heap} {locs : List Loc} (hK : va_K g.1 vwCl (zb_ty g) s) (hZ : zb_Z g s s.heap) (hP : va_P g.1 vwCl (zb_ws g nc C) H) (hS : va_S (zb_A g) s.heap H locs) :
    ∀ U : State, U.heap = H → s.WarmedH U.vm → zb_Pre g nc C as as.toArray U := fun U hU hW =>
  ⟨rfl, by rw [hU]; exact hP, va_K.moved hW.alike hK, by rw [hU]; exact zb_Z.moved hW.alike (hZ.kept fun a h1 h2 => hS.2.1 a h1 h2)⟩
theorem zb_ofW {l : Launch} {g : zb_G} {nc : Nat} {y : MethodName} {own : String} {cc : ByteArray} {maxL : Nat} {ret : Option FieldType} {fr lo : Nat} {as : List Value} {C C' : Nat → va_E} {v : Option Value}
    (hy : plainName y.cls = true) (ho : y.cls = own) (hn : (lg_sl as).length ≤ maxL)
    (body : ∀ (p : Program) (e : Env) (s : State) (m : MethodId) (args : Array Value) (below : List Frame) (meth : Method) (c : Code) (ls : Array Slot), zb_X g p m c cc maxL s args own meth → meth.sig.returnType = ret → va_P g.1 vwCl (zb_ws g nc C) s.heap → lv_has ls maxL (lv_args 0 as) →
      W p l e { frames := fr, cells := 0, slots := 0, locals := lo } s m args below meth c s.heap [] 0 0 (MQ below (zb_Po g nc C' v) args s 0 0 (zb_A g)) (F0 m 0 ls [])) :
    zb_Ct l g nc y cc maxL ret fr lo as C v C' := by
  subst ho
  refine Met.ofW (cc := cc) (maxL := maxL) (ret := ret) hy rfl ?_
  intro p e s m args below meth c s₁ B hml hv
  obtain ⟨rfl, hP, hK, hZ⟩ := hv
  have hts0 := atoms_spec (ws := Cond.code y cc maxL ret :: zb_Wd) B.pre
  have hts : ∀ w ∈ zb_Wd, w.before as.toArray s = true := fun w hw => hts0 w (List.mem_cons_of_mem _ hw)
  rw [lg_entry_eq]
  exact body p e s m as.toArray below meth c _ ⟨⟨B.exec, B.bytes, hml, findClass_of_methodNamed B.named, hts⟩, B.notSynchronized, hK, hZ⟩ B.returns hP (lv_entry as hn)
section RW
variable {p : Program} {l : Launch} {e : Env} {R : Room} {s : State} {m : MethodId} {args : Array Value} {below : List Frame} {meth : Method} {c : Code} {H : Heap} {locs : List Loc} {cells slots : Nat} {Q : State → Prop}
variable {cc : ByteArray} {nL : Nat} {own : String} {g : zb_G} {nc : Nat} {C0 : Nat → va_E} {I J O : Mem} {pc : Nat} {ls : Array Slot} {rest : List Value} {k n : Nat}
theorem zr_get (X : zb_X g p m c cc nL s args own meth) (hP : va_P g.1 vwCl (zb_ws g nc C0) H) {ci N : Nat} {C : String} {T : u_T} {fs : List Value} (hk : k < nc) (hce : C0 k = .inr (ci, fs)) (hc : vwCl[ci]? = some (C, T, N)) (hin : ∀ w ∈ u_ws C T N, w ∈ zb_Wd) (j : Nat) (hj : j < N) {index : Nat}
    (hlink : Cond.fieldLink own index (T j).1 (T j).2.1 (T j).2.2.1 ∈ zb_Wd) {v : Value} (hv : fs[j]? = some v) (hdg : decode cc pc = .ok (.getfield index, 3))
    (kk : W p l e R s m args below meth c H locs cells slots Q (F0 m (pc + 3) ls (v :: rest))) : W p l e R s m args below meth c H locs cells slots Q (F0 m pc ls (.ref (g.2.2 + k) :: rest)) := by
  obtain ⟨⟨hx, hb, -, ho, hts⟩, -, hK, -⟩ := X
  have he := zb_get (g := g) (C := C0) hk
  rw [hce] at he
  exact va_get hx hb hts hin ho hK hP k he hc j hj (hts _ hlink) (fun _ h => h) hv hdg kk
theorem zr_put (X : zb_X g p m c cc nL s args own meth) (hP : va_P g.1 vwCl (zb_ws g nc C0) H) (hS : va_S (zb_A g) s.heap H locs) {ci N : Nat} {C : String} {T : u_T} {fs : List Value} {C1 : Nat → va_E} (hk : k < nc) (hce : C0 k = .inr (ci, fs)) (hc : vwCl[ci]? = some (C, T, N)) (hin : ∀ w ∈ u_ws C T N, w ∈ zb_Wd)
    (ty0 : Nat → FieldType) (hty : ∀ k, k < N → parseFieldDescriptor (T k).2.2.1 = some (ty0 k)) (hnm : ∀ a, a < N → ∀ b, b < N → a ≠ b → (T a).2.1 ≠ (T b).2.1) (j : Nat) (hj : j < N) {index : Nat}
    (hlink : Cond.fieldLink own index (T j).1 (T j).2.1 (T j).2.2.1 ∈ zb_Wd) (hfin : (T j).2.2.2 = false) {v : Value} {ty : FieldType} (hd : parseFieldDescriptor (T j).2.2.1 = some ty) (hn : narrow ty v = v) (hfit : fits ty v = true) (hl : j < fs.length)
    (hup : ∀ k', k' < nc → va_up C0 k (.inr (ci, fs.set j v)) k' = C1 k') (hdg : decode cc pc = .ok (.putfield index, 3))
    (kk : ∀ (H1 : Heap) (locs1 : List Loc), va_P g.1 vwCl (zb_ws g nc C1) H1 → va_S (zb_A g) s.heap H1 locs1 → W p l e R s m args below meth c H1 locs1 cells slots Q (F0 m (pc + 3) ls rest)) : W p l e R s m args below meth c H locs cells slots Q (F0 m pc ls (v :: .ref (g.2.2 + k) :: rest)) := by
  obtain ⟨⟨hx, hb, -, ho, hts⟩, -, hK, -⟩ := X
  have he := zb_get (g := g) (C := C0) hk
  rw [hce] at he
  refine va_put hx hb hts hin ty0 hty hnm ho hK hP zb_D hS k he hc j hj (hts _ hlink) (fun _ h => h) hfin hd hn hfit hl hdg fun H1 locs1 hP1 _ hS1 => ?_
  rw [zb_set, zb_cong hup] at hP1
  exact kk H1 locs1 hP1 hS1
/-- rows of ints -/
theorem zr_ald0 (X : zb_X g p m c cc nL s args own meth) (hP : va_P g.1 vwCl (zb_ws g nc C0) H) {f : Nat → Int32} (hk : k < nc) (hce : C0 k = .inl (g.2.1 0, n, .inl f)) {i : Int32} (hin : vp_in i n) (hdg : decode cc pc = .ok (.iaload, 1))
    (kk : W p l e R s m args below meth c H locs cells slots Q (F0 m (pc + 1) ls (.int (f i.toNatClampNeg) :: rest))) : W p l e R s m args below meth c H locs cells slots Q (F0 m pc ls (.int i :: .ref (g.2.2 + k) :: rest)) := by
  obtain ⟨⟨hx, hb, -, ho, hts⟩, -, hK, -⟩ := X
  have he := zb_get (g := g) (C := C0) hk
  rw [hce] at he
  exact va_iald hx hb hK hP k 0 he rfl hin hdg kk
theorem zr_ast0 (X : zb_X g p m c cc nL s args own meth) (hP : va_P g.1 vwCl (zb_ws g nc C0) H) (hS : va_S (zb_A g) s.heap H locs) {f : Nat → Int32} {C1 : Nat → va_E} (hk : k < nc) (hce : C0 k = .inl (g.2.1 0, n, .inl f)) {i x : Int32} (hin : vp_in i n)
    (hup : ∀ k', va_up C0 k (.inl (g.2.1 0, n, .inl (upd f i.toNatClampNeg x))) k' = C1 k') (hdg : decode cc pc = .ok (.iastore, 1))
    (kk : ∀ (H1 : Heap) (locs1 : List Loc), va_P g.1 vwCl (zb_ws g nc C1) H1 → va_S (zb_A g) s.heap H1 locs1 → W p l e R s m args below meth c H1 locs1 cells slots Q (F0 m (pc + 1) ls rest)) : W p l e R s m args below meth c H locs cells slots Q (F0 m pc ls (.int x :: .int i :: .ref (g.2.2 + k) :: rest)) := by
  obtain ⟨⟨hx, hb, -, ho, hts⟩, -, hK, -⟩ := X
  have he := zb_get (g := g) (C := C0) hk
  rw [hce] at he
  refine va_iast hx hb hK hP zb_D hS k 0 he rfl hin hdg fun H1 locs1 hP1 _ hS1 => ?_
  rw [zb_set, zb_cong (fun k' _ => hup k')] at hP1
  exact kk H1 locs1 hP1 hS1
theorem zr_alen0 (X : zb_X g p m c cc nL s args own meth) (hP : va_P g.1 vwCl (zb_ws g nc C0) H) {x : vp_A} (hk : k < nc) (hce : C0 k = .inl (g.2.1 0, x)) (hdg : decode cc pc = .ok (.arraylength, 1))
    (kk : W p l e R s m args below meth c H locs cells slots Q (F0 m (pc + 1) ls (.int (Int32.ofNat x.1) :: rest))) : W p l e R s m args below meth c H locs cells slots Q (F0 m pc ls (.ref (g.2.2 + k) :: rest)) := by
  obtain ⟨⟨hx, hb, -, ho, hts⟩, -, hK, -⟩ := X
  have he := zb_get (g := g) (C := C0) hk
  rw [hce] at he
  exact va_alen hx hb hK hP k 0 he rfl rfl hdg kk
/-- ends -/
theorem zr_vret {v : Option Value} (X : zb_X g p m c cc nL s args own meth) (hr : meth.sig.returnType = none) (hP : va_P g.1 vwCl (zb_ws g nc C0) H) (hS : va_S (zb_A g) s.heap H locs) (hv : v = none) (hdg : decode cc pc = .ok (.return_, 1)) :
    W p l e R s m args below meth c H locs cells slots (MQ below (zb_Po g nc C0 v) args s cells slots (zb_A g)) (F0 m pc ls []) := by
  subst hv
  obtain ⟨⟨hx, hb, -, ho, hts⟩, hlk, hK, -⟩ := X
  exact W.vret hx hb hr (fun t ht hW => ⟨⟨rfl, by rw [ht]; exact hP⟩, hS.F ht⟩) hS.2.2 hdg hlk
theorem zr_iret {v : Int32} (X : zb_X g p m c cc nL s args own meth) (hr : meth.sig.returnType = some .int) (hP : va_P g.1 vwCl (zb_ws g nc C0) H) (hS : va_S (zb_A g) s.heap H locs) (hdg : decode cc pc = .ok (.ireturn, 1)) :
    W p l e R s m args below meth c H locs cells slots (MQ below (zb_Po g nc C0 (some (.int v))) args s cells slots (zb_A g)) (F0 m pc ls [.int v]) := by
  obtain ⟨⟨hx, hb, -, ho, hts⟩, hlk, hK, -⟩ := X
  exact W.iret hx hb hr (fun t ht hW => ⟨⟨rfl, by rw [ht]; exact hP⟩, hS.F ht⟩) hS.2.2 hdg hlk
theorem zr_zret {v : Int32} {ty : FieldType} (X : zb_X g p m c cc nL s args own meth) (hr : meth.sig.returnType = some ty) (hn : narrow ty (.int v) = .int v) (hP : va_P g.1 vwCl (zb_ws g nc C0) H) (hS : va_S (zb_A g) s.heap H locs) (hdg : decode cc pc = .ok (.ireturn, 1)) :
    W p l e R s m args below meth c H locs cells slots (MQ below (zb_Po g nc C0 (some (.int v))) args s cells slots (zb_A g)) (F0 m pc ls [.int v]) := by
  obtain ⟨⟨hx, hb, -, ho, hts⟩, hlk, hK, -⟩ := X
  exact W.zret hx hb hr hn (fun t ht hW => ⟨⟨rfl, by rw [ht]; exact hP⟩, hS.F ht⟩) hS.2.2 hdg hlk
theorem zr_fret {v : UInt32} (X : zb_X g p m c cc nL s args own meth) (hr : meth.sig.returnType = some .float) (hP : va_P g.1 vwCl (zb_ws g nc C0) H) (hS : va_S (zb_A g) s.heap H locs) (hdg : decode cc pc = .ok (.freturn, 1)) :
    W p l e R s m args below meth c H locs cells slots (MQ below (zb_Po g nc C0 (some (.float v))) args s cells slots (zb_A g)) (F0 m pc ls [.float v]) := by
  obtain ⟨⟨hx, hb, -, ho, hts⟩, hlk, hK, -⟩ := X
  exact W.fret hx hb hr (fun t ht hW => ⟨⟨rfl, by rw [ht]; exact hP⟩, hS.F ht⟩) hS.2.2 hdg hlk
theorem zr_dret {v : UInt64} (X : zb_X g p m c cc nL s args own meth) (hr : meth.sig.returnType = some .double) (hP : va_P g.1 vwCl (zb_ws g nc C0) H) (hS : va_S (zb_A g) s.heap H locs) (hdg : decode cc pc = .ok (.dreturn, 1)) :
    W p l e R s m args below meth c H locs cells slots (MQ below (zb_Po g nc C0 (some (.double v))) args s cells slots (zb_A g)) (F0 m pc ls [.double v]) := by
  obtain ⟨⟨hx, hb, -, ho, hts⟩, hlk, hK, -⟩ := X
  exact W.dret hx hb hr (fun t ht hW => ⟨⟨rfl, by rw [ht]; exact hP⟩, hS.F ht⟩) hS.2.2 hdg hlk
/-- behind a call -/
theorem zr_back {v : Option Value} {C1 : Nat → va_E} {st0 : List Value} {a : Array Value} {mc ms : Nat} {len : Nat} (hlen : len = 3)
    (hr : va_Run p l e R s m args below meth c H locs cells slots mc ms (F0 m pc ls st0) rest (zb_Po g nc C1 v a) (zb_A g)) (hS : va_S (zb_A g) s.heap H locs)
    (kk : ∀ (H1 : Heap) (locs1 : List Loc), va_P g.1 vwCl (zb_ws g nc C1) H1 → va_S (zb_A g) s.heap H1 locs1 → W p l e R s m args below meth c H1 locs1 (cells + mc) (slots + ms) Q (F0 m (pc + len) ls (v.toList ++ rest))) : W p l e R s m args below meth c H locs cells slots Q (F0 m pc ls st0) := by
  subst hlen
  intro T hT X
  obtain ⟨v', st₀, t, T', L, h0, X', hL, e1, e2, ⟨⟨hv, hp⟩, hz, hk⟩, st⟩ := hr T hT X
  cases hv
  rw [h0] at hz hk
  obtain ⟨t2, a1, b1⟩ := kk T'.heap (locs ++ L) (by rw [e1]; exact hp)
    ⟨Nat.le_trans hS.1 (by rw [e1]; exact hz), fun q h1 h2 => by rw [e1, hk q (Nat.lt_of_lt_of_le h1 hS.1) h2]; exact hS.2.1 q h1 h2, fun q hq => by
      rcases List.mem_append.mp hq with h | h
      · exact hS.2.2 q h
      · exact hL q h⟩ T' rfl X'
  exact ⟨t2, st t2 a1, b1⟩
/-- what a call's instruction needs of the tables -/
def zb_cwV (own : String) (index : Nat) (y : MethodName) (cy : ByteArray) (mY : Nat) (rY : Option FieldType) (nY : Nat) : Prop :=
  (∀ w ∈ wsV own index y.cls y (Cond.code y cy mY rY :: zb_Wd), w ∈ zb_Wd) ∧ (y.cls ≠ "java/lang/invoke/MethodHandle" ∧ y.cls ≠ "java/lang/invoke/VarHandle" ∧ (parseMethodDescriptor y.desc).map (fun d => d.parameters.length) = some nY)
def zb_cwS (own : String) (index : Nat) (y : MethodName) (cy : ByteArray) (mY : Nat) (rY : Option FieldType) (nY : Nat) : Prop :=
  (∀ w ∈ va_wsS own index y (Cond.code y cy mY rY :: zb_Wd), w ∈ zb_Wd) ∧ (y.cls ≠ "java/lang/invoke/MethodHandle" ∧ y.cls ≠ "java/lang/invoke/VarHandle" ∧ (parseMethodDescriptor y.desc).map (fun d => d.parameters.length) = some nY)
theorem zb_cwV_of {own : String} {index : Nat} {y : MethodName} {cy : ByteArray} {mY : Nat} {rY : Option FieldType} {nY : Nat} (h1 : Cond.methodLink own index y ∈ zb_Wd) (h2 : Cond.instanceMethod y ∈ zb_Wd) (h3 : Cond.selects y.cls y y ∈ zb_Wd) (h4 : Cond.initialized y.cls ∈ zb_Wd) (h5 : Cond.code y cy mY rY ∈ zb_Wd)
    (h6 : y.cls ≠ "java/lang/invoke/MethodHandle" ∧ y.cls ≠ "java/lang/invoke/VarHandle" ∧ (parseMethodDescriptor y.desc).map (fun d => d.parameters.length) = some nY) : zb_cwV own index y cy mY rY nY := by
  refine ⟨fun w hw => ?_, h6⟩
  simp only [wsV, List.cons_append, List.nil_append, List.mem_cons] at hw
  rcases hw with rfl | rfl | rfl | rfl | rfl | hw
  · exact h1
  · exact h2
  · exact h3
  · exact h4
  · exact h5
  · exact hw
theorem zb_cwS_of {own : String} {index : Nat} {y : MethodName} {cy : ByteArray} {mY : Nat} {rY : Option FieldType} {nY : Nat} (h1 : Cond.methodLink own index y ∈ zb_Wd) (h2 : Cond.static y ∈ zb_Wd) (h4 : Cond.initialized y.cls ∈ zb_Wd) (h5 : Cond.code y cy mY rY ∈ zb_Wd)
    (h6 : y.cls ≠ "java/lang/invoke/MethodHandle" ∧ y.cls ≠ "java/lang/invoke/VarHandle" ∧ (parseMethodDescriptor y.desc).map (fun d => d.parameters.length) = some nY) : zb_cwS own index y cy mY rY nY := by
  refine ⟨fun w hw => ?_, h6⟩
  simp only [va_wsS, List.cons_append, List.nil_append, List.mem_cons] at hw
  rcases hw with rfl | rfl | rfl | rfl | hw
  · exact h1
  · exact h2
  · exact h4
  · exact h5
  · exact hw
theorem zr_recv {ci N : Nat} {C : String} {T : u_T} {fs : List Value} (X : zb_X g p m c cc nL s args own meth) (hP : va_P g.1 vwCl (zb_ws g nc C0) H) (hk : k < nc) (hce : C0 k = .inr (ci, fs)) (hc : vwCl[ci]? = some (C, T, N)) : ∃ cellB : Cell, H[g.2.2 + k]? = some cellB ∧ cellB.vm.isStatics = false ∧ s.vm.findClass C = some cellB.cls := by
  have he := zb_get (g := g) (C := C0) hk
  rw [hce] at he
  exact va_recv X.2.2.1 hP hc he
theorem zr_cV {y : MethodName} {cy : ByteArray} {mY nY fr lo : Nat} {rY : Option FieldType} {As : List Value} {v : Option Value} {C1 : Nat → va_E} {index b : Nat} (X : zb_X g p m c cc nL s args own meth) (hP : va_P g.1 vwCl (zb_ws g nc C0) H) (hS : va_S (zb_A g) s.heap H locs)
    (hM : zb_Ct l g nc y cy mY rY fr lo (.ref b :: As) C0 v C1) (cw : zb_cwV own index y cy mY rY nY) (hrecv : ∃ cellB : Cell, H[b]? = some cellB ∧ cellB.vm.isStatics = false ∧ s.vm.findClass y.cls = some cellB.cls)
    (hn : As.length = nY) (hsz : ls.size = nL) (hW : (rest.map fun v => v.category).sum ≤ 8) (hR : fr + 1 ≤ R.frames ∧ 8 + (mY + 11) + lo ≤ R.locals) (hcs : cells + 0 ≤ R.cells ∧ slots + 0 ≤ R.slots) (hdg : decode cc pc = .ok (.invokevirtual index, 3)) {st : List Value} (hst : st = As.reverse ++ .ref b :: rest)
    (kk : ∀ (H1 : Heap) (locs1 : List Loc), va_P g.1 vwCl (zb_ws g nc C1) H1 → va_S (zb_A g) s.heap H1 locs1 → W p l e R s m args below meth c H1 locs1 (cells + 0) (slots + 0) Q (F0 m (pc + 3) ls (v.toList ++ rest))) : W p l e R s m args below meth c H locs cells slots Q (F0 m pc ls st) := by
  subst hst
  obtain ⟨S, hlk, hK, hZ⟩ := id X
  exact zr_back rfl (va_runV (As := As) (rest := rest) S hM (cwV nY S.2.2.2.2 (zb_goodIn cw.1) rfl rfl rfl ⟨rfl, cw.2⟩ hR) ⟨zb_blind, hrecv, zb_pre hK hZ hP hS⟩ rfl hn hsz rfl (lv_room hW) hdg hcs) hS kk
theorem zr_cS {y : MethodName} {cy : ByteArray} {mY nY fr lo : Nat} {rY : Option FieldType} {As : List Value} {v : Option Value} {C1 : Nat → va_E} {index : Nat} (X : zb_X g p m c cc nL s args own meth) (hP : va_P g.1 vwCl (zb_ws g nc C0) H) (hS : va_S (zb_A g) s.heap H locs)
    (hM : zb_Ct l g nc y cy mY rY fr lo As C0 v C1) (cw : zb_cwS own index y cy mY rY nY)
    (hn : As.length = nY) (hsz : ls.size = nL) (hW : (rest.map fun v => v.category).sum ≤ 8) (hR : fr + 1 ≤ R.frames ∧ 8 + (mY + 11) + lo ≤ R.locals) (hcs : cells + 0 ≤ R.cells ∧ slots + 0 ≤ R.slots) (hdg : decode cc pc = .ok (.invokestatic index, 3)) {st : List Value} (hst : st = As.reverse ++ rest)
    (kk : ∀ (H1 : Heap) (locs1 : List Loc), va_P g.1 vwCl (zb_ws g nc C1) H1 → va_S (zb_A g) s.heap H1 locs1 → W p l e R s m args below meth c H1 locs1 (cells + 0) (slots + 0) Q (F0 m (pc + 3) ls (v.toList ++ rest))) : W p l e R s m args below meth c H locs cells slots Q (F0 m pc ls st) := by
  subst hst
  obtain ⟨S, hlk, hK, hZ⟩ := id X
  have hts := S.2.2.2.2
  have ok : ∀ w ∈ va_wsS own index y (Cond.code y cy mY rY :: zb_Wd), w.before args s = true := fun w h => hts w (cw.1 w h)
  refine zr_back rfl (va_runS (As := As) (rest := rest) S hM ⟨callB_of nY hts (zb_goodIn fun w h => cw.1 w (List.mem_append_right _ h)) rfl rfl rfl (ok _ (by simp [va_wsS])) (ok _ (by simp [va_wsS])) cw.2 hR, ok _ (by simp [va_wsS])⟩ ⟨zb_blind, zb_pre hK hZ hP hS⟩ rfl hn hsz rfl (lv_room hW) hdg hcs) hS kk
end RW
