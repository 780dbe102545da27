/-! ROWS OVER THE WORLD; what a walk has at hand (zb_X), contracts (zb_Ct), calls -/
/-- words of the tables that a call passes on by premises of their own -/
def zb_isX : Cond → Bool
  | .castable .. => true
  | .declares _ => true
  | .methodLinkNest .. => true
  | _ => false
def zb_ext : List Cond := lw_tbl.filter zb_isX
def zb_N (U : State) : Prop := ∀ w ∈ zb_ext, va_Nw w U
theorem zb_N.warm {s U : State} (hW : s.WarmedH U.vm) (h : zb_N s) : zb_N U := by
  intro w hw
  have h1 := h w hw
  have h2 := (List.mem_filter.mp hw).2
  cases w <;> first | (exact va_Nw.warmC hW h1) | (exact va_Nw.warmD hW h1) | (exact va_Nw.warmM hW h1) | (simp [zb_isX] at h2; done)
/-- the nine words that setups and scripts know: text, length, bytes, places in the two pools -/
def zb_tx (i : Nat) : String := ["terms", "buoy", "rope", "stock", "hour", "storm", "remake", "plan", "haul"].getD i ""
def zb_len : List Nat := [5, 4, 4, 5, 4, 5, 6, 4, 4]
def zb_byt : List (List Int32) := [[116, 101, 114, 109, 115], [98, 117, 111, 121], [114, 111, 112, 101], [115, 116, 111, 99, 107], [104, 111, 117, 114], [115, 116, 111, 114, 109], [114, 101, 109, 97, 107, 101], [112, 108, 97, 110], [104, 97, 117, 108]]
def zb_cR (i : Nat) : Nat := [51, 57, 59, 61, 63, 65, 67, 69, 71].getD i 0
def zb_cM (i : Nat) : Nat := [161, 140, 150, 155, 355, 357, 359, 361, 363].getD i 0
/-- the texts of what is thrown: place in the pool, text -/
def zb_cX (i : Nat) : Nat := [107, 182, 259, 265, 279, 297, 306, 335, 377, 380, 382, 384, 398, 401, 411, 413, 415, 417, 419, 421, 423].getD i 0
def zb_xX (i : Nat) : String := ["the text would be too long", "what is out of range", "the hour has no level", "the buoy did not report", "there are no two levels to compare", "the hour would have no level", "there would be no level", "the report is out of range", "ropes is out of range", "the offset is out of range", "the hold is out of range", "a term is out of range", "no such byte", "no act to undo", "nothing is saved there", "no such buoy", "no such rope", "no such saved state", "the force is out of range", "the last buoy is ahead of the first one", "the hour is not kept"].getD i ""
abbrev zb_aX (g : zb_G) (i : Nat) : Nat := g.2.1 (300 + i)
abbrev zb_aK (g : zb_G) (i : Nat) : Nat := g.2.1 (100 + i)
abbrev zb_aV (g : zb_G) (i : Nat) : Nat := g.2.1 (200 + i)
/-- what walks know of cells and words that no method of the system writes -/
def zb_Z (g : zb_G) (U : State) (H : Heap) : Prop :=
  (vx_Zq Bundle.tN "UNASSIGNED_STACK" Bundle.steD (zb_A g) U H ∧ vx_Zq Bundle.tN "SUPPRESSED_SENTINEL" Bundle.listD (zb_A g) U H) ∧
  (va_Z "java/lang/String" "COMPACT_STRINGS" "Z" (.int 1) (zb_A g) U H ∧ va_Zq "jdk/internal/util/Preconditions" "SIOOBE_FORMATTER" "Ljava/util/function/BiFunction;" (zb_A g) U H ∧ vk_S 9 zb_len zb_byt (zb_aK g) (zb_aV g) (zb_A g) U H) ∧
  zb_N U ∧ (∀ i, i < 9 → vk_R "BuoyString$Reader" (zb_cR i) (zb_tx i) (zb_aK g i) U ∧ vk_R "BuoyStringModel" (zb_cM i) (zb_tx i) (zb_aK g i) U) ∧ (∀ i, i < 21 → vk_R "BuoyString" (zb_cX i) (zb_xX i) (zb_aX g i) U)
theorem zb_Z.warm {g : zb_G} {u U : State} {H : Heap} (hW : u.WarmedH U.vm) (h : zb_Z g u H) : zb_Z g U H :=
  ⟨⟨h.1.1.moved hW.alike, h.1.2.moved hW.alike⟩, ⟨va_Z.moved hW.alike h.2.1.1, va_Zq.moved hW.alike h.2.1.2.1, vk_S.moved hW.alike h.2.1.2.2⟩, h.2.2.1.warm hW, fun i hi => ⟨vk_R.warm hW (h.2.2.2.1 i hi).1, vk_R.warm hW (h.2.2.2.1 i hi).2⟩, fun i hi => vk_R.warm hW (h.2.2.2.2 i hi)⟩
theorem zb_Z.kept {g : zb_G} {U : State} {H H1 : Heap} (h : zb_Z g U H) (hq : ∀ a : Nat, a < H.size → ¬ zb_A g a → H1[a]? = H[a]?) : zb_Z g U H1 :=
  ⟨⟨h.1.1.kept hq, h.1.2.kept hq⟩, ⟨va_Z.kept h.2.1.1 hq, va_Zq.kept h.2.1.2.1 hq, vk_S.kept h.2.1.2.2 hq⟩, h.2.2.1, h.2.2.2⟩
def zb_X (g : zb_G) (p : Program) (m : MethodId) (c : Code) (cc : ByteArray) (nL : Nat) (s : State) (args : Array Value) (own : String) (meth : Method) : Prop :=
  CallFix p m c cc nL s args zb_Wd own ∧ meth.locks = false ∧ va_K g.1 vwCl (zb_ty g) s ∧ zb_Z g s s.heap
/-- a method's start and end -/
def zb_Pre (g : zb_G) (nc : Nat) (C : Nat → va_E) (as : List Value) : Array Value → State → Prop := va_Pc as (fun U => va_P g.1 vwCl (zb_ws g nc C) U.heap ∧ va_K g.1 vwCl (zb_ty g) U ∧ zb_Z g U U.heap)
def zb_Po (g : zb_G) (nc : Nat) (C : Nat → va_E) (v : Option Value) : Array Value → State → Outcome → State → Prop := fun _ st o t => (o = .returned v ∧ va_P g.1 vwCl (zb_ws g nc C) t.heap) ∧ va_F (zb_A g) st t
abbrev zb_Ct (l : Launch) (g : zb_G) (nc : Nat) (y : MethodName) (cc : ByteArray) (maxL : Nat) (ret : Option FieldType) (fr lo : Nat) (as : List Value) (C : Nat → va_E) (v : Option Value) (C' : Nat → va_E) : Prop :=
  Met l y (Cond.code y cc maxL ret :: zb_Wd) { frames := fr, cells := 0, slots := 0, locals := lo } (zb_Pre g nc C as) (zb_Po g nc C' v) 0 0 (zb_A g)
theorem zb_blind {g : zb_G} {nc : Nat} {C : Nat → va_E} {as : List Value} : FrameBlind (zb_Pre g nc C as) := fun a U gg mk q =>
  ⟨q.1, q.2.1, va_K.moved (u := U) (U := U.calling gg mk a) (Vm.Alike.refl U.vm) q.2.2.1, zb_Z.warm (u := U) (U := U.calling gg mk a) (State.WarmedH.refl U) q.2.2.2⟩
theorem zb_pre {g : zb_G} {nc : Nat} {C : Nat → va_E} {as : List Value} {s : State} {H : Heap} {locs : List Loc} (hK : va_K g.1 vwCl (zb_ty g) s) (hZ : zb_Z g s s.heap) (hP : va_P g.1 vwCl (zb_ws g nc C) H) (hS : va_S (zb_A g) s.heap H locs) :
    ∀ U : State, U.heap = H → s.WarmedH U.vm → zb_Pre g nc C as as.toArray U := fun U hU hW =>
  ⟨rfl, by rw [hU]; exact hP, va_K.moved hW.alike hK, by rw [hU]; exact zb_Z.warm hW (hZ.kept fun a h1 h2 => hS.2.1 a h1 h2)⟩
theorem zb_ofW {l : Launch} {g : zb_G} {nc : Nat} {y : MethodName} {own : String} {cc : ByteArray} {maxL : Nat} {ret : Option FieldType} {fr lo : Nat} {as : List Value} {C C' : Nat → va_E} {v : Option Value}
    (hy : plainName y.cls = true) (ho : y.cls = own) (hn : (lg_sl as).length ≤ maxL)
    (body : ∀ (p : Program) (e : Env) (s : State) (m : MethodId) (args : Array Value) (below : List Frame) (meth : Method) (c : Code) (ls : Array Slot), zb_X g p m c cc maxL s args own meth → meth.sig.returnType = ret → va_P g.1 vwCl (zb_ws g nc C) s.heap → lv_has ls maxL (lv_args 0 as) →
      W p l e { frames := fr, cells := 0, slots := 0, locals := lo } s m args below meth c s.heap [] 0 0 (MQ below (zb_Po g nc C' v) args s 0 0 (zb_A g)) (F0 m 0 ls [])) :
    zb_Ct l g nc y cc maxL ret fr lo as C v C' := by
  subst ho
  refine Met.ofW (cc := cc) (maxL := maxL) (ret := ret) hy rfl ?_
  intro p e s m args below meth c s₁ B hml hv
  obtain ⟨rfl, hP, hK, hZ⟩ := hv
  have hts0 := atoms_spec (ws := Cond.code y cc maxL ret :: zb_Wd) B.pre
  have hts : ∀ w ∈ zb_Wd, w.before as.toArray s = true := fun w hw => hts0 w (List.mem_cons_of_mem _ hw)
  rw [lg_entry_eq]
  exact body p e s m as.toArray below meth c _ ⟨⟨B.exec, B.bytes, hml, findClass_of_methodNamed B.named, hts⟩, B.notSynchronized, hK, hZ⟩ B.returns hP (lv_entry as hn)
section RW
variable {p : Program} {l : Launch} {e : Env} {R : Room} {s : State} {m : MethodId} {args : Array Value} {below : List Frame} {meth : Method} {c : Code} {H : Heap} {locs : List Loc} {cells slots : Nat} {Q : State → Prop}
variable {cc : ByteArray} {nL : Nat} {own : String} {g : zb_G} {nc : Nat} {C0 : Nat → va_E} {I J O : Mem} {pc : Nat} {ls : Array Slot} {rest : List Value} {k n : Nat}
theorem zr_get (X : zb_X g p m c cc nL s args own meth) (hP : va_P g.1 vwCl (zb_ws g nc C0) H) {ci N : Nat} {C : String} {T : u_T} {fs : List Value} (hk : k < nc) (hce : C0 k = .inr (ci, fs)) (hc : vwCl[ci]? = some (C, T, N)) (hin : ∀ w ∈ u_ws C T N, w ∈ zb_Wd) (j : Nat) (hj : j < N) {index : Nat}
    (hlink : Cond.fieldLink own index (T j).1 (T j).2.1 (T j).2.2.1 ∈ zb_Wd) {v : Value} (hv : fs[j]? = some v) (hdg : decode cc pc = .ok (.getfield index, 3))
    (kk : W p l e R s m args below meth c H locs cells slots Q (F0 m (pc + 3) ls (v :: rest))) : W p l e R s m args below meth c H locs cells slots Q (F0 m pc ls (.ref (g.2.2 + k) :: rest)) := by
  obtain ⟨⟨hx, hb, -, ho, hts⟩, -, hK, -⟩ := X
  have he := zb_get (g := g) (C := C0) hk
  rw [hce] at he
  exact va_get hx hb hts hin ho hK hP k he hc j hj (hts _ hlink) (fun _ h => h) hv hdg kk
theorem zr_put (X : zb_X g p m c cc nL s args own meth) (hP : va_P g.1 vwCl (zb_ws g nc C0) H) (hS : va_S (zb_A g) s.heap H locs) {ci N : Nat} {C : String} {T : u_T} {fs : List Value} {C1 : Nat → va_E} (hk : k < nc) (hce : C0 k = .inr (ci, fs)) (hc : vwCl[ci]? = some (C, T, N)) (hin : ∀ w ∈ u_ws C T N, w ∈ zb_Wd)
    (ty0 : Nat → FieldType) (hty : ∀ k, k < N → parseFieldDescriptor (T k).2.2.1 = some (ty0 k)) (hnm : ∀ a, a < N → ∀ b, b < N → a ≠ b → (T a).2.1 ≠ (T b).2.1) (j : Nat) (hj : j < N) {index : Nat}
    (hlink : Cond.fieldLink own index (T j).1 (T j).2.1 (T j).2.2.1 ∈ zb_Wd) (hfin : (T j).2.2.2 = false) {v : Value} {ty : FieldType} (hd : parseFieldDescriptor (T j).2.2.1 = some ty) (hn : narrow ty v = v) (hfit : fits ty v = true) (hl : j < fs.length)
    (hup : ∀ k', k' < nc → va_up C0 k (.inr (ci, fs.set j v)) k' = C1 k') (hdg : decode cc pc = .ok (.putfield index, 3))
    (kk : ∀ (H1 : Heap) (locs1 : List Loc), va_P g.1 vwCl (zb_ws g nc C1) H1 → va_S (zb_A g) s.heap H1 locs1 → W p l e R s m args below meth c H1 locs1 cells slots Q (F0 m (pc + 3) ls rest)) : W p l e R s m args below meth c H locs cells slots Q (F0 m pc ls (v :: .ref (g.2.2 + k) :: rest)) := by
  obtain ⟨⟨hx, hb, -, ho, hts⟩, -, hK, -⟩ := X
  have he := zb_get (g := g) (C := C0) hk
  rw [hce] at he
  refine va_put hx hb hts hin ty0 hty hnm ho hK hP zb_D hS k he hc j hj (hts _ hlink) (fun _ h => h) hfin hd hn hfit hl hdg fun H1 locs1 hP1 _ hS1 => ?_
  rw [zb_set, zb_cong hup] at hP1
  exact kk H1 locs1 hP1 hS1
/-- rows of ints -/
theorem zr_ald0 (X : zb_X g p m c cc nL s args own meth) (hP : va_P g.1 vwCl (zb_ws g nc C0) H) {f : Nat → Int32} (hk : k < nc) (hce : C0 k = .inl (g.2.1 0, n, .inl f)) {i : Int32} (hin : vp_in i n) (hdg : decode cc pc = .ok (.iaload, 1))
    (kk : W p l e R s m args below meth c H locs cells slots Q (F0 m (pc + 1) ls (.int (f i.toNatClampNeg) :: rest))) : W p l e R s m args below meth c H locs cells slots Q (F0 m pc ls (.int i :: .ref (g.2.2 + k) :: rest)) := by
  obtain ⟨⟨hx, hb, -, ho, hts⟩, -, hK, -⟩ := X
  have he := zb_get (g := g) (C := C0) hk
  rw [hce] at he
  exact va_iald hx hb hK hP k 0 he rfl hin hdg kk
theorem zr_ast0 (X : zb_X g p m c cc nL s args own meth) (hP : va_P g.1 vwCl (zb_ws g nc C0) H) (hS : va_S (zb_A g) s.heap H locs) {f : Nat → Int32} {C1 : Nat → va_E} (hk : k < nc) (hce : C0 k = .inl (g.2.1 0, n, .inl f)) {i x : Int32} (hin : vp_in i n)
    (hup : ∀ k', va_up C0 k (.inl (g.2.1 0, n, .inl (upd f i.toNatClampNeg x))) k' = C1 k') (hdg : decode cc pc = .ok (.iastore, 1))
    (kk : ∀ (H1 : Heap) (locs1 : List Loc), va_P g.1 vwCl (zb_ws g nc C1) H1 → va_S (zb_A g) s.heap H1 locs1 → W p l e R s m args below meth c H1 locs1 cells slots Q (F0 m (pc + 1) ls rest)) : W p l e R s m args below meth c H locs cells slots Q (F0 m pc ls (.int x :: .int i :: .ref (g.2.2 + k) :: rest)) := by
  obtain ⟨⟨hx, hb, -, ho, hts⟩, -, hK, -⟩ := X
  have he := zb_get (g := g) (C := C0) hk
  rw [hce] at he
  refine va_iast hx hb hK hP zb_D hS k 0 he rfl hin hdg fun H1 locs1 hP1 _ hS1 => ?_
  rw [zb_set, zb_cong (fun k' _ => hup k')] at hP1
  exact kk H1 locs1 hP1 hS1
theorem zr_alen0 (X : zb_X g p m c cc nL s args own meth) (hP : va_P g.1 vwCl (zb_ws g nc C0) H) {x : vp_A} (hk : k < nc) (hce : C0 k = .inl (g.2.1 0, x)) (hdg : decode cc pc = .ok (.arraylength, 1))
    (kk : W p l e R s m args below meth c H locs cells slots Q (F0 m (pc + 1) ls (.int (Int32.ofNat x.1) :: rest))) : W p l e R s m args below meth c H locs cells slots Q (F0 m pc ls (.ref (g.2.2 + k) :: rest)) := by
  obtain ⟨⟨hx, hb, -, ho, hts⟩, -, hK, -⟩ := X
  have he := zb_get (g := g) (C := C0) hk
  rw [hce] at he
  exact va_alen hx hb hK hP k 0 he rfl rfl hdg kk
/-- ends -/
theorem zr_vret {v : Option Value} (X : zb_X g p m c cc nL s args own meth) (hr : meth.sig.returnType = none) (hP : va_P g.1 vwCl (zb_ws g nc C0) H) (hS : va_S (zb_A g) s.heap H locs) (hv : v = none) (hdg : decode cc pc = .ok (.return_, 1)) :
    W p l e R s m args below meth c H locs cells slots (MQ below (zb_Po g nc C0 v) args s cells slots (zb_A g)) (F0 m pc ls []) := by
  subst hv
  obtain ⟨⟨hx, hb, -, ho, hts⟩, hlk, hK, -⟩ := X
  exact W.vret hx hb hr (fun t ht hW => ⟨⟨rfl, by rw [ht]; exact hP⟩, hS.F ht⟩) hS.2.2 hdg hlk
theorem zr_iret {v : Int32} (X : zb_X g p m c cc nL s args own meth) (hr : meth.sig.returnType = some .int) (hP : va_P g.1 vwCl (zb_ws g nc C0) H) (hS : va_S (zb_A g) s.heap H locs) (hdg : decode cc pc = .ok (.ireturn, 1)) :
    W p l e R s m args below meth c H locs cells slots (MQ below (zb_Po g nc C0 (some (.int v))) args s cells slots (zb_A g)) (F0 m pc ls [.int v]) := by
  obtain ⟨⟨hx, hb, -, ho, hts⟩, hlk, hK, -⟩ := X
  exact W.iret hx hb hr (fun t ht hW => ⟨⟨rfl, by rw [ht]; exact hP⟩, hS.F ht⟩) hS.2.2 hdg hlk
theorem zr_zret {v : Int32} {ty : FieldType} (X : zb_X g p m c cc nL s args own meth) (hr : meth.sig.returnType = some ty) (hn : narrow ty (.int v) = .int v) (hP : va_P g.1 vwCl (zb_ws g nc C0) H) (hS : va_S (zb_A g) s.heap H locs) (hdg : decode cc pc = .ok (.ireturn, 1)) :
    W p l e R s m args below meth c H locs cells slots (MQ below (zb_Po g nc C0 (some (.int v))) args s cells slots (zb_A g)) (F0 m pc ls [.int v]) := by
  obtain ⟨⟨hx, hb, -, ho, hts⟩, hlk, hK, -⟩ := X
  exact W.zret hx hb hr hn (fun t ht hW => ⟨⟨rfl, by rw [ht]; exact hP⟩, hS.F ht⟩) hS.2.2 hdg hlk
theorem zr_fret {v : UInt32} (X : zb_X g p m c cc nL s args own meth) (hr : meth.sig.returnType = some .float) (hP : va_P g.1 vwCl (zb_ws g nc C0) H) (hS : va_S (zb_A g) s.heap H locs) (hdg : decode cc pc = .ok (.freturn, 1)) :
    W p l e R s m args below meth c H locs cells slots (MQ below (zb_Po g nc C0 (some (.float v))) args s cells slots (zb_A g)) (F0 m pc ls [.float v]) := by
  obtain ⟨⟨hx, hb, -, ho, hts⟩, hlk, hK, -⟩ := X
  exact W.fret hx hb hr (fun t ht hW => ⟨⟨rfl, by rw [ht]; exact hP⟩, hS.F ht⟩) hS.2.2 hdg hlk
theorem zr_dret {v : UInt64} (X : zb_X g p m c cc nL s args own meth) (hr : meth.sig.returnType = some .double) (hP : va_P g.1 vwCl (zb_ws g nc C0) H) (hS : va_S (zb_A g) s.heap H locs) (hdg : decode cc pc = .ok (.dreturn, 1)) :
    W p l e R s m args below meth c H locs cells slots (MQ below (zb_Po g nc C0 (some (.double v))) args s cells slots (zb_A g)) (F0 m pc ls [.double v]) := by
  obtain ⟨⟨hx, hb, -, ho, hts⟩, hlk, hK, -⟩ := X
  exact W.dret hx hb hr (fun t ht hW => ⟨⟨rfl, by rw [ht]; exact hP⟩, hS.F ht⟩) hS.2.2 hdg hlk
/-- behind a call -/
theorem zr_back {v : Option Value} {C1 : Nat → va_E} {st0 : List Value} {a : Array Value} {mc ms : Nat} {len : Nat} (hlen : len = 3)
    (hr : va_Run p l e R s m args below meth c H locs cells slots mc ms (F0 m pc ls st0) rest (zb_Po g nc C1 v a) (zb_A g)) (hS : va_S (zb_A g) s.heap H locs)
    (kk : ∀ (H1 : Heap) (locs1 : List Loc), va_P g.1 vwCl (zb_ws g nc C1) H1 → va_S (zb_A g) s.heap H1 locs1 → W p l e R s m args below meth c H1 locs1 (cells + mc) (slots + ms) Q (F0 m (pc + len) ls (v.toList ++ rest))) : W p l e R s m args below meth c H locs cells slots Q (F0 m pc ls st0) := by
  subst hlen
  intro T hT X
  obtain ⟨v', st₀, t, T', L, h0, X', hL, e1, e2, ⟨⟨hv, hp⟩, hz, hk⟩, st⟩ := hr T hT X
  cases hv
  rw [h0] at hz hk
  obtain ⟨t2, a1, b1⟩ := kk T'.heap (locs ++ L) (by rw [e1]; exact hp)
    ⟨Nat.le_trans hS.1 (by rw [e1]; exact hz), fun q h1 h2 => by rw [e1, hk q (Nat.lt_of_lt_of_le h1 hS.1) h2]; exact hS.2.1 q h1 h2, fun q hq => by
      rcases List.mem_append.mp hq with h | h
      · exact hS.2.2 q h
      · exact hL q h⟩ T' rfl X'
  exact ⟨t2, st t2 a1, b1⟩
/-- what a call's instruction needs of the tables -/
def zb_cwV (own : String) (index : Nat) (y : MethodName) (cy : ByteArray) (mY : Nat) (rY : Option FieldType) (nY : Nat) : Prop :=
  (∀ w ∈ wsV own index y.cls y (Cond.code y cy mY rY :: zb_Wd), w ∈ zb_Wd) ∧ (y.cls ≠ "java/lang/invoke/MethodHandle" ∧ y.cls ≠ "java/lang/invoke/VarHandle" ∧ (parseMethodDescriptor y.desc).map (fun d => d.parameters.length) = some nY)
def zb_cwS (own : String) (index : Nat) (y : MethodName) (cy : ByteArray) (mY : Nat) (rY : Option FieldType) (nY : Nat) : Prop :=
  (∀ w ∈ va_wsS own index y (Cond.code y cy mY rY :: zb_Wd), w ∈ zb_Wd) ∧ (y.cls ≠ "java/lang/invoke/MethodHandle" ∧ y.cls ≠ "java/lang/invoke/VarHandle" ∧ (parseMethodDescriptor y.desc).map (fun d => d.parameters.length) = some nY)
theorem zb_cwV_of {own : String} {index : Nat} {y : MethodName} {cy : ByteArray} {mY : Nat} {rY : Option FieldType} {nY : Nat} (h1 : Cond.methodLink own index y ∈ zb_Wd) (h2 : Cond.instanceMethod y ∈ zb_Wd) (h3 : Cond.selects y.cls y y ∈ zb_Wd) (h4 : Cond.initialized y.cls ∈ zb_Wd) (h5 : Cond.code y cy mY rY ∈ zb_Wd)
    (h6 : y.cls ≠ "java/lang/invoke/MethodHandle" ∧ y.cls ≠ "java/lang/invoke/VarHandle" ∧ (parseMethodDescriptor y.desc).map (fun d => d.parameters.length) = some nY) : zb_cwV own index y cy mY rY nY := by
  refine ⟨fun w hw => ?_, h6⟩
  simp only [wsV, List.cons_append, List.nil_append, List.mem_cons] at hw
  rcases hw with rfl | rfl | rfl | rfl | rfl | hw
  · exact h1
  · exact h2
  · exact h3
  · exact h4
  · exact h5
  · exact hw
theorem zb_cwS_of {own : String} {index : Nat} {y : MethodName} {cy : ByteArray} {mY : Nat} {rY : Option FieldType} {nY : Nat} (h1 : Cond.methodLink own index y ∈ zb_Wd) (h2 : Cond.static y ∈ zb_Wd) (h4 : Cond.initialized y.cls ∈ zb_Wd) (h5 : Cond.code y cy mY rY ∈ zb_Wd)
    (h6 : y.cls ≠ "java/lang/invoke/MethodHandle" ∧ y.cls ≠ "java/lang/invoke/VarHandle" ∧ (parseMethodDescriptor y.desc).map (fun d => d.parameters.length) = some nY) : zb_cwS own index y cy mY rY nY := by
  refine ⟨fun w hw => ?_, h6⟩
  simp only [va_wsS, List.cons_append, List.nil_append, List.mem_cons] at hw
  rcases hw with rfl | rfl | rfl | rfl | hw
  · exact h1
  · exact h2
  · exact h4
  · exact h5
  · exact hw
theorem zr_recv {ci N : Nat} {C : String} {T : u_T} {fs : List Value} (X : zb_X g p m c cc nL s args own meth) (hP : va_P g.1 vwCl (zb_ws g nc C0) H) (hk : k < nc) (hce : C0 k = .inr (ci, fs)) (hc : vwCl[ci]? = some (C, T, N)) : ∃ cellB : Cell, H[g.2.2 + k]? = some cellB ∧ cellB.vm.isStatics = false ∧ s.vm.findClass C = some cellB.cls := by
  have he := zb_get (g := g) (C := C0) hk
  rw [hce] at he
  exact va_recv X.2.2.1 hP hc he
theorem zr_cV {y : MethodName} {cy : ByteArray} {mY nY fr lo : Nat} {rY : Option FieldType} {As : List Value} {v : Option Value} {C1 : Nat → va_E} {index b : Nat} (X : zb_X g p m c cc nL s args own meth) (hP : va_P g.1 vwCl (zb_ws g nc C0) H) (hS : va_S (zb_A g) s.heap H locs)
    (hM : zb_Ct l g nc y cy mY rY fr lo (.ref b :: As) C0 v C1) (cw : zb_cwV own index y cy mY rY nY) (hrecv : ∃ cellB : Cell, H[b]? = some cellB ∧ cellB.vm.isStatics = false ∧ s.vm.findClass y.cls = some cellB.cls)
    (hn : As.length = nY) (hsz : ls.size = nL) (hW : (rest.map fun v => v.category).sum ≤ 8) (hR : fr + 1 ≤ R.frames ∧ 8 + (mY + 11) + lo ≤ R.locals) (hcs : cells ≤ R.cells ∧ slots ≤ R.slots) (hdg : decode cc pc = .ok (.invokevirtual index, 3)) {st : List Value} (hst : st = As.reverse ++ .ref b :: rest)
    (kk : ∀ (H1 : Heap) (locs1 : List Loc), va_P g.1 vwCl (zb_ws g nc C1) H1 → va_S (zb_A g) s.heap H1 locs1 → W p l e R s m args below meth c H1 locs1 cells slots Q (F0 m (pc + 3) ls (v.toList ++ rest))) : W p l e R s m args below meth c H locs cells slots Q (F0 m pc ls st) := by
  subst hst
  obtain ⟨S, hlk, hK, hZ⟩ := id X
  exact zr_back rfl (va_runV (As := As) (rest := rest) S hM (cwV nY S.2.2.2.2 (zb_goodIn cw.1) rfl rfl rfl ⟨rfl, cw.2⟩ hR) ⟨zb_blind, hrecv, zb_pre hK hZ hP hS⟩ rfl hn hsz rfl (lv_room hW) hdg hcs) hS kk
theorem zr_cS {y : MethodName} {cy : ByteArray} {mY nY fr lo : Nat} {rY : Option FieldType} {As : List Value} {v : Option Value} {C1 : Nat → va_E} {index : Nat} (X : zb_X g p m c cc nL s args own meth) (hP : va_P g.1 vwCl (zb_ws g nc C0) H) (hS : va_S (zb_A g) s.heap H locs)
    (hM : zb_Ct l g nc y cy mY rY fr lo As C0 v C1) (cw : zb_cwS own index y cy mY rY nY)
    (hn : As.length = nY) (hsz : ls.size = nL) (hW : (rest.map fun v => v.category).sum ≤ 8) (hR : fr + 1 ≤ R.frames ∧ 8 + (mY + 11) + lo ≤ R.locals) (hcs : cells ≤ R.cells ∧ slots ≤ R.slots) (hdg : decode cc pc = .ok (.invokestatic index, 3)) {st : List Value} (hst : st = As.reverse ++ rest)
    (kk : ∀ (H1 : Heap) (locs1 : List Loc), va_P g.1 vwCl (zb_ws g nc C1) H1 → va_S (zb_A g) s.heap H1 locs1 → W p l e R s m args below meth c H1 locs1 cells slots Q (F0 m (pc + 3) ls (v.toList ++ rest))) : W p l e R s m args below meth c H locs cells slots Q (F0 m pc ls st) := by
  subst hst
  obtain ⟨S, hlk, hK, hZ⟩ := id X
  have hts := S.2.2.2.2
  have ok : ∀ w ∈ va_wsS own index y (Cond.code y cy mY rY :: zb_Wd), w.before args s = true := fun w h => hts w (cw.1 w h)
  refine zr_back rfl (va_runS (As := As) (rest := rest) S hM ⟨callB_of nY hts (zb_goodIn fun w h => cw.1 w (List.mem_append_right _ h)) rfl rfl rfl (ok _ (by simp [va_wsS])) (ok _ (by simp [va_wsS])) cw.2 hR, ok _ (by simp [va_wsS])⟩ ⟨zb_blind, zb_pre hK hZ hP hS⟩ rfl hn hsz rfl (lv_room hW) hdg hcs) hS kk
/-- the same with the answer's kind told -/
theorem zr_cVi {y : MethodName} {cy : ByteArray} {mY nY fr lo : Nat} {rY : Option FieldType} {As : List Value} {x : Int32} {C1 : Nat → va_E} {index b : Nat} (X : zb_X g p m c cc nL s args own meth) (hP : va_P g.1 vwCl (zb_ws g nc C0) H) (hS : va_S (zb_A g) s.heap H locs)
    (hM : zb_Ct l g nc y cy mY rY fr lo (.ref b :: As) C0 (some (.int x)) C1) (cw : zb_cwV own index y cy mY rY nY) (hrecv : ∃ cellB : Cell, H[b]? = some cellB ∧ cellB.vm.isStatics = false ∧ s.vm.findClass y.cls = some cellB.cls)
    (hn : As.length = nY) (hsz : ls.size = nL) (hW : (rest.map fun v => v.category).sum ≤ 8) (hR : fr + 1 ≤ R.frames ∧ 8 + (mY + 11) + lo ≤ R.locals) (hcs : cells ≤ R.cells ∧ slots ≤ R.slots) (hdg : decode cc pc = .ok (.invokevirtual index, 3)) {st : List Value} (hst : st = As.reverse ++ .ref b :: rest)
    (kk : ∀ (H1 : Heap) (locs1 : List Loc), va_P g.1 vwCl (zb_ws g nc C1) H1 → va_S (zb_A g) s.heap H1 locs1 → W p l e R s m args below meth c H1 locs1 cells slots Q (F0 m (pc + 3) ls (.int x :: rest))) : W p l e R s m args below meth c H locs cells slots Q (F0 m pc ls st) :=
  zr_cV X hP hS hM cw hrecv hn hsz hW hR hcs hdg hst kk
theorem zr_cVv {y : MethodName} {cy : ByteArray} {mY nY fr lo : Nat} {rY : Option FieldType} {As : List Value} {C1 : Nat → va_E} {index b : Nat} (X : zb_X g p m c cc nL s args own meth) (hP : va_P g.1 vwCl (zb_ws g nc C0) H) (hS : va_S (zb_A g) s.heap H locs)
    (hM : zb_Ct l g nc y cy mY rY fr lo (.ref b :: As) C0 none C1) (cw : zb_cwV own index y cy mY rY nY) (hrecv : ∃ cellB : Cell, H[b]? = some cellB ∧ cellB.vm.isStatics = false ∧ s.vm.findClass y.cls = some cellB.cls)
    (hn : As.length = nY) (hsz : ls.size = nL) (hW : (rest.map fun v => v.category).sum ≤ 8) (hR : fr + 1 ≤ R.frames ∧ 8 + (mY + 11) + lo ≤ R.locals) (hcs : cells ≤ R.cells ∧ slots ≤ R.slots) (hdg : decode cc pc = .ok (.invokevirtual index, 3)) {st : List Value} (hst : st = As.reverse ++ .ref b :: rest)
    (kk : ∀ (H1 : Heap) (locs1 : List Loc), va_P g.1 vwCl (zb_ws g nc C1) H1 → va_S (zb_A g) s.heap H1 locs1 → W p l e R s m args below meth c H1 locs1 cells slots Q (F0 m (pc + 3) ls rest)) : W p l e R s m args below meth c H locs cells slots Q (F0 m pc ls st) :=
  zr_cV X hP hS hM cw hrecv hn hsz hW hR hcs hdg hst kk
theorem zr_cVf {y : MethodName} {cy : ByteArray} {mY nY fr lo : Nat} {rY : Option FieldType} {As : List Value} {x : UInt32} {C1 : Nat → va_E} {index b : Nat} (X : zb_X g p m c cc nL s args own meth) (hP : va_P g.1 vwCl (zb_ws g nc C0) H) (hS : va_S (zb_A g) s.heap H locs)
    (hM : zb_Ct l g nc y cy mY rY fr lo (.ref b :: As) C0 (some (.float x)) C1) (cw : zb_cwV own index y cy mY rY nY) (hrecv : ∃ cellB : Cell, H[b]? = some cellB ∧ cellB.vm.isStatics = false ∧ s.vm.findClass y.cls = some cellB.cls)
    (hn : As.length = nY) (hsz : ls.size = nL) (hW : (rest.map fun v => v.category).sum ≤ 8) (hR : fr + 1 ≤ R.frames ∧ 8 + (mY + 11) + lo ≤ R.locals) (hcs : cells ≤ R.cells ∧ slots ≤ R.slots) (hdg : decode cc pc = .ok (.invokevirtual index, 3)) {st : List Value} (hst : st = As.reverse ++ .ref b :: rest)
    (kk : ∀ (H1 : Heap) (locs1 : List Loc), va_P g.1 vwCl (zb_ws g nc C1) H1 → va_S (zb_A g) s.heap H1 locs1 → W p l e R s m args below meth c H1 locs1 cells slots Q (F0 m (pc + 3) ls (.float x :: rest))) : W p l e R s m args below meth c H locs cells slots Q (F0 m pc ls st) :=
  zr_cV X hP hS hM cw hrecv hn hsz hW hR hcs hdg hst kk
theorem zr_cVd {y : MethodName} {cy : ByteArray} {mY nY fr lo : Nat} {rY : Option FieldType} {As : List Value} {x : UInt64} {C1 : Nat → va_E} {index b : Nat} (X : zb_X g p m c cc nL s args own meth) (hP : va_P g.1 vwCl (zb_ws g nc C0) H) (hS : va_S (zb_A g) s.heap H locs)
    (hM : zb_Ct l g nc y cy mY rY fr lo (.ref b :: As) C0 (some (.double x)) C1) (cw : zb_cwV own index y cy mY rY nY) (hrecv : ∃ cellB : Cell, H[b]? = some cellB ∧ cellB.vm.isStatics = false ∧ s.vm.findClass y.cls = some cellB.cls)
    (hn : As.length = nY) (hsz : ls.size = nL) (hW : (rest.map fun v => v.category).sum ≤ 8) (hR : fr + 1 ≤ R.frames ∧ 8 + (mY + 11) + lo ≤ R.locals) (hcs : cells ≤ R.cells ∧ slots ≤ R.slots) (hdg : decode cc pc = .ok (.invokevirtual index, 3)) {st : List Value} (hst : st = As.reverse ++ .ref b :: rest)
    (kk : ∀ (H1 : Heap) (locs1 : List Loc), va_P g.1 vwCl (zb_ws g nc C1) H1 → va_S (zb_A g) s.heap H1 locs1 → W p l e R s m args below meth c H1 locs1 cells slots Q (F0 m (pc + 3) ls (.double x :: rest))) : W p l e R s m args below meth c H locs cells slots Q (F0 m pc ls st) :=
  zr_cV X hP hS hM cw hrecv hn hsz hW hR hcs hdg hst kk
theorem zr_cSi {y : MethodName} {cy : ByteArray} {mY nY fr lo : Nat} {rY : Option FieldType} {As : List Value} {x : Int32} {C1 : Nat → va_E} {index : Nat} (X : zb_X g p m c cc nL s args own meth) (hP : va_P g.1 vwCl (zb_ws g nc C0) H) (hS : va_S (zb_A g) s.heap H locs)
    (hM : zb_Ct l g nc y cy mY rY fr lo As C0 (some (.int x)) C1) (cw : zb_cwS own index y cy mY rY nY)
    (hn : As.length = nY) (hsz : ls.size = nL) (hW : (rest.map fun v => v.category).sum ≤ 8) (hR : fr + 1 ≤ R.frames ∧ 8 + (mY + 11) + lo ≤ R.locals) (hcs : cells ≤ R.cells ∧ slots ≤ R.slots) (hdg : decode cc pc = .ok (.invokestatic index, 3)) {st : List Value} (hst : st = As.reverse ++ rest)
    (kk : ∀ (H1 : Heap) (locs1 : List Loc), va_P g.1 vwCl (zb_ws g nc C1) H1 → va_S (zb_A g) s.heap H1 locs1 → W p l e R s m args below meth c H1 locs1 cells slots Q (F0 m (pc + 3) ls (.int x :: rest))) : W p l e R s m args below meth c H locs cells slots Q (F0 m pc ls st) :=
  zr_cS X hP hS hM cw hn hsz hW hR hcs hdg hst kk
theorem zr_cSv {y : MethodName} {cy : ByteArray} {mY nY fr lo : Nat} {rY : Option FieldType} {As : List Value} {C1 : Nat → va_E} {index : Nat} (X : zb_X g p m c cc nL s args own meth) (hP : va_P g.1 vwCl (zb_ws g nc C0) H) (hS : va_S (zb_A g) s.heap H locs)
    (hM : zb_Ct l g nc y cy mY rY fr lo As C0 none C1) (cw : zb_cwS own index y cy mY rY nY)
    (hn : As.length = nY) (hsz : ls.size = nL) (hW : (rest.map fun v => v.category).sum ≤ 8) (hR : fr + 1 ≤ R.frames ∧ 8 + (mY + 11) + lo ≤ R.locals) (hcs : cells ≤ R.cells ∧ slots ≤ R.slots) (hdg : decode cc pc = .ok (.invokestatic index, 3)) {st : List Value} (hst : st = As.reverse ++ rest)
    (kk : ∀ (H1 : Heap) (locs1 : List Loc), va_P g.1 vwCl (zb_ws g nc C1) H1 → va_S (zb_A g) s.heap H1 locs1 → W p l e R s m args below meth c H1 locs1 cells slots Q (F0 m (pc + 3) ls rest)) : W p l e R s m args below meth c H locs cells slots Q (F0 m pc ls st) :=
  zr_cS X hP hS hM cw hn hsz hW hR hcs hdg hst kk
/-! numbers that may fail -/
def ald (I : Mem) (k n : Nat) (i : Int32) : Option Int32 := if i < 0 ∨ n ≤ i.toNatClampNeg then none else some (I k i.toNatClampNeg)
def ast (I : Mem) (k n : Nat) (i v : Int32) : Option Mem := if i < 0 ∨ n ≤ i.toNatClampNeg then none else some (wr I k i.toNatClampNeg v)
def rld (n : Nat) (i : Int32) : Option Nat := if i < 0 ∨ n ≤ i.toNatClampNeg then none else some i.toNatClampNeg
def zput (I : Mem) (k j : Nat) (v : Int32) : Option Mem := if v = 0 ∨ v = 1 then some (wr I k j v) else none
def dvi (x y : Int32) : Option Int32 := if y = 0 then none else some (x / y)
def rmi (x y : Int32) : Option Int32 := if y = 0 then none else some (x - x / y * y)
def zbo (x : Int32) : Option Int32 := if x = 0 ∨ x = 1 then some x else none
def zch (x : Int32) : Option Int32 := if narrow .char (.int x) = .int x then some x else none
def imax (x y : Int32) : Int32 := if x < y then y else x
def imin (x y : Int32) : Int32 := if y < x then y else x
def iabs (x : Int32) : Int32 := if 0 ≤ x then x else 0 - x
def plet {α β : Type} (a : α) (f : α → β) : β := f a
theorem ald_e {I : Mem} {k n : Nat} {i v : Int32} (h : ald I k n i = some v) : vp_in i n ∧ I k i.toNatClampNeg = v := by
  unfold ald at h
  split at h
  · cases h
  · next hc => exact ⟨hc, Option.some.inj h⟩
theorem ast_e {I I' : Mem} {k n : Nat} {i v : Int32} (h : ast I k n i v = some I') : vp_in i n ∧ wr I k i.toNatClampNeg v = I' := by
  unfold ast at h
  split at h
  · cases h
  · next hc => exact ⟨hc, Option.some.inj h⟩
theorem rld_e {n j : Nat} {i : Int32} (h : rld n i = some j) : vp_in i n ∧ i.toNatClampNeg = j ∧ j < n := by
  unfold rld at h
  split at h
  · cases h
  · next hc => exact ⟨hc, Option.some.inj h, by rw [← Option.some.inj h]; exact Nat.not_le.mp fun q => hc (Or.inr q)⟩
theorem zput_e {I I' : Mem} {k j : Nat} {v : Int32} (h : zput I k j v = some I') : (v = 0 ∨ v = 1) ∧ wr I k j v = I' := by
  unfold zput at h
  split at h
  · next hc => exact ⟨hc, Option.some.inj h⟩
  · cases h
theorem dvi_e {x y v : Int32} (h : dvi x y = some v) : ¬ y = 0 ∧ x / y = v := by
  unfold dvi at h
  split at h
  · cases h
  · next hc => exact ⟨hc, Option.some.inj h⟩
theorem rmi_e {x y v : Int32} (h : rmi x y = some v) : ¬ y = 0 ∧ x - x / y * y = v := by
  unfold rmi at h
  split at h
  · cases h
  · next hc => exact ⟨hc, Option.some.inj h⟩
theorem zbo_e {x v : Int32} (h : zbo x = some v) : (narrow .boolean (.int x) = .int x) ∧ x = v := by
  unfold zbo at h
  split at h
  · next hc =>
    refine ⟨?_, Option.some.inj h⟩
    rcases hc with rfl | rfl <;> decide
  · cases h
theorem zch_e {x v : Int32} (h : zch x = some v) : (narrow .char (.int x) = .int x) ∧ x = v := by
  unfold zch at h
  split at h
  · next hc => exact ⟨hc, Option.some.inj h⟩
  · cases h
theorem ob_e {α β : Type} {a : Option α} {f : α → Option β} {r : β} (h : a.bind f = some r) : ∃ x, a = some x ∧ f x = some r := Option.bind_eq_some_iff.mp h
theorem pl_e {α β : Type} {a : α} {f : α → β} {r : β} (h : plet a f = r) : ∃ x, a = x ∧ f x = r := ⟨a, rfl, h⟩
theorem if_t {α : Type} {c : Prop} [Decidable c] {a b r : α} (hc : c) (h : (if c then a else b) = r) : a = r := by rw [if_pos hc] at h; exact h
theorem if_f {α : Type} {c : Prop} [Decidable c] {a b r : α} (hc : ¬ c) (h : (if c then a else b) = r) : b = r := by rw [if_neg hc] at h; exact h
/-- the rows of the class and of the reference -/
theorem zr_aldI (X : zb_X g p m c cc nL s args own meth) (hP : va_P g.1 vwCl (zb_ws g nc (zb_ce g I J O)) H) (hnc : 306 ≤ nc) (hk : zb_IK k 10 n) {i v : Int32} (hv : ald I k n i = some v) (hdg : decode cc pc = .ok (.iaload, 1))
    (kk : W p l e R s m args below meth c H locs cells slots Q (F0 m (pc + 1) ls (.int v :: rest))) : W p l e R s m args below meth c H locs cells slots Q (F0 m pc ls (.int i :: .ref (g.2.2 + k) :: rest)) := by
  obtain ⟨h1, rfl⟩ := ald_e hv
  exact zr_ald0 X hP (Nat.lt_of_lt_of_le hk.1 hnc) (zb_ceIa hk) h1 hdg kk
theorem zr_aldJ (X : zb_X g p m c cc nL s args own meth) (hP : va_P g.1 vwCl (zb_ws g nc (zb_ce g I J O)) H) (hnc : 318 ≤ nc) (hk : zb_JK k 10 n) {i v : Int32} (hv : ald J k n i = some v) (hdg : decode cc pc = .ok (.iaload, 1))
    (kk : W p l e R s m args below meth c H locs cells slots Q (F0 m (pc + 1) ls (.int v :: rest))) : W p l e R s m args below meth c H locs cells slots Q (F0 m pc ls (.int i :: .ref (g.2.2 + k) :: rest)) := by
  obtain ⟨h1, rfl⟩ := ald_e hv
  exact zr_ald0 X hP (Nat.lt_of_lt_of_le hk.2.1 hnc) (zb_ceJa hk) h1 hdg kk
theorem zr_astI (X : zb_X g p m c cc nL s args own meth) (hP : va_P g.1 vwCl (zb_ws g nc (zb_ce g I J O)) H) (hS : va_S (zb_A g) s.heap H locs) (hnc : 306 ≤ nc) (hk : zb_IK k 10 n) {i x : Int32} {I' : Mem} (hv : ast I k n i x = some I') (hdg : decode cc pc = .ok (.iastore, 1))
    (kk : ∀ (H1 : Heap) (locs1 : List Loc), va_P g.1 vwCl (zb_ws g nc (zb_ce g I' J O)) H1 → va_S (zb_A g) s.heap H1 locs1 → W p l e R s m args below meth c H1 locs1 cells slots Q (F0 m (pc + 1) ls rest)) : W p l e R s m args below meth c H locs cells slots Q (F0 m pc ls (.int x :: .int i :: .ref (g.2.2 + k) :: rest)) := by
  obtain ⟨h1, rfl⟩ := ast_e hv
  exact zr_ast0 X hP hS (Nat.lt_of_lt_of_le hk.1 hnc) (zb_ceIa hk) h1 (zb_upIa hk) hdg kk
theorem zr_astJ (X : zb_X g p m c cc nL s args own meth) (hP : va_P g.1 vwCl (zb_ws g nc (zb_ce g I J O)) H) (hS : va_S (zb_A g) s.heap H locs) (hnc : 318 ≤ nc) (hk : zb_JK k 10 n) {i x : Int32} {J' : Mem} (hv : ast J k n i x = some J') (hdg : decode cc pc = .ok (.iastore, 1))
    (kk : ∀ (H1 : Heap) (locs1 : List Loc), va_P g.1 vwCl (zb_ws g nc (zb_ce g I J' O)) H1 → va_S (zb_A g) s.heap H1 locs1 → W p l e R s m args below meth c H1 locs1 cells slots Q (F0 m (pc + 1) ls rest)) : W p l e R s m args below meth c H locs cells slots Q (F0 m pc ls (.int x :: .int i :: .ref (g.2.2 + k) :: rest)) := by
  obtain ⟨h1, rfl⟩ := ast_e hv
  exact zr_ast0 X hP hS (Nat.lt_of_lt_of_le hk.2.1 hnc) (zb_ceJa hk) h1 (zb_upJa hk) hdg kk
theorem zr_alenI (X : zb_X g p m c cc nL s args own meth) (hP : va_P g.1 vwCl (zb_ws g nc (zb_ce g I J O)) H) (hnc : 306 ≤ nc) (hk : zb_IK k 10 n) (hdg : decode cc pc = .ok (.arraylength, 1))
    (kk : W p l e R s m args below meth c H locs cells slots Q (F0 m (pc + 1) ls (.int (Int32.ofNat n) :: rest))) : W p l e R s m args below meth c H locs cells slots Q (F0 m pc ls (.ref (g.2.2 + k) :: rest)) :=
  zr_alen0 X hP (Nat.lt_of_lt_of_le hk.1 hnc) (zb_ceIa hk) hdg kk
theorem zr_rld (X : zb_X g p m c cc nL s args own meth) (hP : va_P g.1 vwCl (zb_ws g nc (zb_ce g I J O)) H) (hnc : 306 ≤ nc) (hk : zb_IK k 11 n) {i : Int32} {j : Nat} (hv : rld n i = some j) (hdg : decode cc pc = .ok (.aaload, 1))
    (kk : W p l e R s m args below meth c H locs cells slots Q (F0 m (pc + 1) ls (.ref (g.2.2 + ((if k = 49 then 66 else 258) + 24 * j)) :: rest))) : W p l e R s m args below meth c H locs cells slots Q (F0 m pc ls (.int i :: .ref (g.2.2 + k) :: rest)) := by
  obtain ⟨h1, rfl, -⟩ := rld_e hv
  obtain ⟨⟨hx, hb, -, ho, hts⟩, -, hK, -⟩ := X
  have he := zb_get (g := g) (C := zb_ce g I J O) (Nat.lt_of_lt_of_le hk.1 hnc)
  rw [zb_ceIr hk] at he
  exact va_aldq hx hb hK hP k 3 he rfl h1 hdg kk
theorem zr_baldJ (X : zb_X g p m c cc nL s args own meth) (hP : va_P g.1 vwCl (zb_ws g nc (zb_ce g I J O)) H) (hnc : 318 ≤ nc) (hk : zb_JK k 14 n) {i v : Int32} (hv : ald J k n i = some v) (hdg : decode cc pc = .ok (.baload, 1))
    (kk : W p l e R s m args below meth c H locs cells slots Q (F0 m (pc + 1) ls (.int v :: rest))) : W p l e R s m args below meth c H locs cells slots Q (F0 m pc ls (.int i :: .ref (g.2.2 + k) :: rest)) := by
  obtain ⟨h1, rfl⟩ := ald_e hv
  obtain ⟨⟨hx, hb, -, ho, hts⟩, -, hK, -⟩ := X
  have he := zb_get (g := g) (C := zb_ce g I J O) (Nat.lt_of_lt_of_le hk.2.1 hnc)
  rw [zb_ceJb hk] at he
  exact va_bald hx hb hK hP k 1 he rfl h1 hdg kk
theorem zr_zaldJ (X : zb_X g p m c cc nL s args own meth) (hP : va_P g.1 vwCl (zb_ws g nc (zb_ce g I J O)) H) (hnc : 318 ≤ nc) (hk : zb_JK k 13 n) {i v : Int32} (hv : ald J k n i = some v) (hdg : decode cc pc = .ok (.baload, 1))
    (kk : W p l e R s m args below meth c H locs cells slots Q (F0 m (pc + 1) ls (.int v :: rest))) : W p l e R s m args below meth c H locs cells slots Q (F0 m pc ls (.int i :: .ref (g.2.2 + k) :: rest)) := by
  obtain ⟨h1, rfl⟩ := ald_e hv
  obtain ⟨⟨hx, hb, -, ho, hts⟩, -, hK, -⟩ := X
  have he := zb_get (g := g) (C := zb_ce g I J O) (Nat.lt_of_lt_of_le hk.2.1 hnc)
  rw [zb_ceJz hk] at he
  exact va_zald hx hb hK hP k 2 he rfl h1 hdg kk
theorem zr_bastJ (X : zb_X g p m c cc nL s args own meth) (hP : va_P g.1 vwCl (zb_ws g nc (zb_ce g I J O)) H) (hS : va_S (zb_A g) s.heap H locs) (hnc : 318 ≤ nc) (hk : zb_JK k 14 n) {i x : Int32} {J' : Mem} (hv : ast J k n i x.toInt8.toInt32 = some J') (hdg : decode cc pc = .ok (.bastore, 1))
    (kk : ∀ (H1 : Heap) (locs1 : List Loc), va_P g.1 vwCl (zb_ws g nc (zb_ce g I J' O)) H1 → va_S (zb_A g) s.heap H1 locs1 → W p l e R s m args below meth c H1 locs1 cells slots Q (F0 m (pc + 1) ls rest)) : W p l e R s m args below meth c H locs cells slots Q (F0 m pc ls (.int x :: .int i :: .ref (g.2.2 + k) :: rest)) := by
  obtain ⟨h1, rfl⟩ := ast_e hv
  obtain ⟨⟨hx, hb, -, ho, hts⟩, -, hK, -⟩ := X
  have he := zb_get (g := g) (C := zb_ce g I J O) (Nat.lt_of_lt_of_le hk.2.1 hnc)
  rw [zb_ceJb hk] at he
  refine va_bast hx hb hK hP zb_D hS k 1 he rfl h1 hdg fun H1 locs1 hP1 _ hS1 => ?_
  rw [vp_nar_byte, zb_set, zb_cong (fun k' _ => zb_upJb hk k')] at hP1
  exact kk H1 locs1 hP1 hS1
theorem zr_zastJ (X : zb_X g p m c cc nL s args own meth) (hP : va_P g.1 vwCl (zb_ws g nc (zb_ce g I J O)) H) (hS : va_S (zb_A g) s.heap H locs) (hnc : 318 ≤ nc) (hk : zb_JK k 13 n) {i : Int32} {J' : Mem} (hv : ast J k n i 1 = some J') (hdg : decode cc pc = .ok (.bastore, 1))
    (kk : ∀ (H1 : Heap) (locs1 : List Loc), va_P g.1 vwCl (zb_ws g nc (zb_ce g I J' O)) H1 → va_S (zb_A g) s.heap H1 locs1 → W p l e R s m args below meth c H1 locs1 cells slots Q (F0 m (pc + 1) ls rest)) : W p l e R s m args below meth c H locs cells slots Q (F0 m pc ls (.int 1 :: .int i :: .ref (g.2.2 + k) :: rest)) := by
  obtain ⟨h1, rfl⟩ := ast_e hv
  obtain ⟨⟨hx, hb, -, ho, hts⟩, -, hK, -⟩ := X
  have he := zb_get (g := g) (C := zb_ce g I J O) (Nat.lt_of_lt_of_le hk.2.1 hnc)
  rw [zb_ceJz hk] at he
  refine va_zast hx hb hK hP zb_D hS k 2 he rfl h1 hdg fun H1 locs1 hP1 _ hS1 => ?_
  rw [show vp_nar .boolean (1 : Int32) = 1 by decide, zb_set, zb_cong (fun k' _ => zb_upJz hk k')] at hP1
  exact kk H1 locs1 hP1 hS1
theorem zr_idiv (X : zb_X g p m c cc nL s args own meth) {x y v : Int32} (hv : dvi x y = some v) (hdg : decode cc pc = .ok (.idiv, 1))
    (kk : W p l e R s m args below meth c H locs cells slots Q (F0 m (pc + 1) ls (.int v :: rest))) : W p l e R s m args below meth c H locs cells slots Q (F0 m pc ls (.int y :: .int x :: rest)) := by
  obtain ⟨h1, rfl⟩ := dvi_e hv
  exact lv_idiv X.1.1 X.1.2.1 hdg h1 kk
theorem zr_irem (X : zb_X g p m c cc nL s args own meth) {x y v : Int32} (hv : rmi x y = some v) (hdg : decode cc pc = .ok (.irem, 1))
    (kk : W p l e R s m args below meth c H locs cells slots Q (F0 m (pc + 1) ls (.int v :: rest))) : W p l e R s m args below meth c H locs cells slots Q (F0 m pc ls (.int y :: .int x :: rest)) := by
  obtain ⟨h1, rfl⟩ := rmi_e hv
  exact lv_irem X.1.1 X.1.2.1 hdg h1 kk
/-- System.arraycopy of ints, from place 0 on to place 0 -/
theorem zr_copy {index n0 n1 k0 N : Nat} {Ni : Int32} (X : zb_X g p m c cc nL s args own meth) (hP : va_P g.1 vwCl (zb_ws g nc (zb_ce g I J O)) H) (hS : va_S (zb_A g) s.heap H locs) (hnc : 306 ≤ nc) (hk0 : zb_IK k0 10 n0) (hk1 : zb_IK k 10 n1) (hNi : Ni = Int32.ofNat N) (hN : N < 2 ^ 31) (h0 : N ≤ n0) (h1 : N ≤ n1)
    (hl : Cond.methodLink own index arraycopyName ∈ zb_Wd) (hl2 : Cond.native arraycopyName ∈ zb_Wd) (hl3 : Cond.static arraycopyName ∈ zb_Wd) (hl4 : Cond.initialized "java/lang/System" ∈ zb_Wd) (hsz : ls.size = nL) (hf : 1 ≤ R.frames) (hlo : (rest.map fun v => v.category).sum + (nativeFrameWords "java/lang/System" "arraycopy" 5 + 11) ≤ R.locals)
    (hdg : decode cc pc = .ok (.invokestatic index, 3))
    (kk : ∀ (H1 : Heap) (locs1 : List Loc), va_P g.1 vwCl (zb_ws g nc (zb_ce g (cpy I k0 0 k 0 N) J O)) H1 → va_S (zb_A g) s.heap H1 locs1 → W p l e R s m args below meth c H1 locs1 cells slots Q (F0 m (pc + 3) ls rest)) : W p l e R s m args below meth c H locs cells slots Q (F0 m pc ls (.int Ni :: .int 0 :: .ref (g.2.2 + k) :: .int 0 :: .ref (g.2.2 + k0) :: rest)) := by
  obtain ⟨⟨hx, hb, hml, ho, hts⟩, -, hK, -⟩ := X
  have he0 := zb_get (g := g) (C := zb_ce g I J O) (Nat.lt_of_lt_of_le hk0.1 hnc)
  rw [zb_ceIa hk0] at he0
  have he1 := zb_get (g := g) (C := zb_ce g I J O) (Nat.lt_of_lt_of_le hk1.1 hnc)
  rw [zb_ceIa hk1] at he1
  have hc : Ni.toNatClampNeg = N := by rw [hNi]; exact nI_clamp hN
  refine va_copyi hx hb (hml.trans hsz.symm) ho (hts _ hl) (hts _ hl2) (hts _ hl3) (hts _ hl4) hK hP zb_D hS k0 k 0 0 he0 he1 rfl rfl rfl (by decide) (by decide) (by rw [hNi]; exact nI_pos hN) (by rw [hc]; show 0 + N ≤ n0; omega) (by rw [hc]; show 0 + N ≤ n1; omega) (fun i _ => rfl) hf hlo hdg fun H1 locs1 hP1 _ hS1 => ?_
  rw [hc, zb_set, zb_cong (fun k' _ => zb_upIc hk1 k')] at hP1
  exact kk H1 locs1 hP1 hS1
theorem zr_max {index : Nat} {x y : Int32} (X : zb_X g p m c cc nL s args own meth) (hl : Cond.methodLink own index Lib.Math.max.name ∈ zb_Wd) (hl2 : Cond.static Lib.Math.max.name ∈ zb_Wd) (hl3 : Cond.initialized "java/lang/Math" ∈ zb_Wd) (hl4 : Cond.code Lib.Math.max.name Lib.Math.max.code 2 (some .int) ∈ zb_Wd) (hsz : ls.size = nL) (hf : 1 ≤ R.frames) (hlo : (rest.map fun v => v.category).sum + 13 ≤ R.locals) (hcs : cells ≤ R.cells ∧ slots ≤ R.slots) (hdg : decode cc pc = .ok (.invokestatic index, 3))
    (kk : W p l e R s m args below meth c H locs cells slots Q (F0 m (pc + 3) ls (.int (imax x y) :: rest))) : W p l e R s m args below meth c H locs cells slots Q (F0 m pc ls (.int y :: .int x :: rest)) := by
  obtain ⟨⟨hx, hb, hml, ho, hts⟩, -, hK, -⟩ := X
  exact va_mmax hx hb (hml.trans hsz.symm) ho (hts _ hl) (hts _ hl2) (hts _ hl3) (hts _ hl4) hf hlo hcs.1 hcs.2 hdg kk
theorem zr_min {index : Nat} {x y : Int32} (X : zb_X g p m c cc nL s args own meth) (hl : Cond.methodLink own index Lib.Math.min.name ∈ zb_Wd) (hl2 : Cond.static Lib.Math.min.name ∈ zb_Wd) (hl3 : Cond.initialized "java/lang/Math" ∈ zb_Wd) (hl4 : Cond.code Lib.Math.min.name Lib.Math.min.code 2 (some .int) ∈ zb_Wd) (hsz : ls.size = nL) (hf : 1 ≤ R.frames) (hlo : (rest.map fun v => v.category).sum + 13 ≤ R.locals) (hcs : cells ≤ R.cells ∧ slots ≤ R.slots) (hdg : decode cc pc = .ok (.invokestatic index, 3))
    (kk : W p l e R s m args below meth c H locs cells slots Q (F0 m (pc + 3) ls (.int (imin x y) :: rest))) : W p l e R s m args below meth c H locs cells slots Q (F0 m pc ls (.int y :: .int x :: rest)) := by
  obtain ⟨⟨hx, hb, hml, ho, hts⟩, -, hK, -⟩ := X
  exact va_mmin hx hb (hml.trans hsz.symm) ho (hts _ hl) (hts _ hl2) (hts _ hl3) (hts _ hl4) hf hlo hcs.1 hcs.2 hdg kk
theorem zr_abs {index : Nat} {x : Int32} (X : zb_X g p m c cc nL s args own meth) (hl : Cond.methodLink own index Lib.Math.abs.name ∈ zb_Wd) (hl2 : Cond.static Lib.Math.abs.name ∈ zb_Wd) (hl3 : Cond.initialized "java/lang/Math" ∈ zb_Wd) (hl4 : Cond.code Lib.Math.abs.name Lib.Math.abs.code 1 (some .int) ∈ zb_Wd) (hsz : ls.size = nL) (hf : 1 ≤ R.frames) (hlo : (rest.map fun v => v.category).sum + 13 ≤ R.locals) (hcs : cells ≤ R.cells ∧ slots ≤ R.slots) (hdg : decode cc pc = .ok (.invokestatic index, 3))
    (kk : W p l e R s m args below meth c H locs cells slots Q (F0 m (pc + 3) ls (.int (iabs x) :: rest))) : W p l e R s m args below meth c H locs cells slots Q (F0 m pc ls (.int x :: rest)) := by
  obtain ⟨⟨hx, hb, hml, ho, hts⟩, -, hK, -⟩ := X
  exact va_mabs hx hb (hml.trans hsz.symm) ho (hts _ hl) (hts _ hl2) (hts _ hl3) (hts _ hl4) hf hlo hcs.1 hcs.2 hdg kk
end RW
/-- a switch's case -/
theorem zr_ne {x c : Int32} {k : Int} (hk : c.toInt = k) (h : ¬ x = c) : x.toInt ≠ k := fun h1 => h (Int32.toInt_inj.mp (h1.trans hk.symm))
