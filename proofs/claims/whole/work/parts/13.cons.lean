/-! CONSTRUCTORS: the cells come one behind another -/
/-- all numbers at birth -/
def mem0 : Mem := fun k j => if ((zb_kd k).1 = 5 ∧ (j = 4 ∨ j = 5)) then 1 else if ((zb_kd k).1 = 2 ∧ j = 7) ∨ ((zb_kd k).1 = 7 ∧ j = 13) ∨ ((zb_kd k).1 = 8 ∧ j = 16) then -1 else 0
def zb_F (g : zb_G) : Nat → va_E := zb_ce g mem0 mem0 mem0
def zb_df (ci : Nat) : List Value := (List.range (zb_nf ci)).map (fun j => if zb_off ci j = 0 then .int 0 else .null)
def zb_bld (C0 F : Nat → va_E) (k n : Nat) (e : va_E) : Nat → va_E := fun q => if q = k then e else if k < q ∧ q < k + n then F q else C0 q
def zb_fin (C0 F : Nat → va_E) (k n : Nat) : Nat → va_E := fun q => if k ≤ q ∧ q < k + n then F q else C0 q
theorem zb_bstart {g : zb_G} {C0 F : Nat → va_E} {k : Nat} {e : va_E} (h : C0 k = e) : zb_ws g (k + 1) C0 = zb_ws g (k + 1) (zb_bld C0 F k 1 e) := zb_cong fun q hq => by
  unfold zb_bld
  by_cases h1 : q = k
  · rw [if_pos h1, h1, h]
  · rw [if_neg h1, if_neg (by omega)]
theorem zb_bput {g : zb_G} {C0 F : Nat → va_E} {k n N : Nat} {e e' : va_E} : zb_ws g N (va_up (zb_bld C0 F k n e) k e') = zb_ws g N (zb_bld C0 F k n e') := zb_cong fun q hq => by
  by_cases h1 : q = k
  · rw [h1, va_up_self]; simp [zb_bld]
  · rw [va_up_ne _ _ h1]; simp [zb_bld, h1]
theorem zb_bpush {g : zb_G} {C0 F : Nat → va_E} {k n : Nat} {e a : va_E} (hF : F (k + n) = a) (hn : 0 < n) : zb_ws g (k + n + 1) (va_up (zb_bld C0 F k n e) (k + n) a) = zb_ws g (k + (n + 1)) (zb_bld C0 F k (n + 1) e) := zb_cong fun q hq => by
  by_cases h1 : q = k + n
  · subst h1
    rw [va_up_self]
    unfold zb_bld
    rw [if_neg (by omega), if_pos (by omega), hF]
  · rw [va_up_ne _ _ h1]
    unfold zb_bld
    by_cases h2 : q = k
    · rw [if_pos h2, if_pos h2]
    · rw [if_neg h2, if_neg h2]
      by_cases h3 : k < q ∧ q < k + n
      · rw [if_pos h3, if_pos (by omega)]
      · rw [if_neg h3, if_neg (by omega)]
theorem zb_bfin {g : zb_G} {C0 F F2 : Nat → va_E} {k n z : Nat} {e d : va_E} (hn : 0 < n) (hz : 0 < z) (hF : ∀ q, k + n ≤ q → q < k + n + z → F2 q = F q) : zb_ws g (k + n + z) (zb_fin (va_up (zb_bld C0 F k n e) (k + n) d) F2 (k + n) z) = zb_ws g (k + (n + z)) (zb_bld C0 F k (n + z) e) := by
  rw [Nat.add_assoc k n z]
  refine zb_cong fun q hq => ?_
  unfold zb_fin
  by_cases h1 : k + n ≤ q ∧ q < k + n + z
  · rw [if_pos h1, hF q h1.1 h1.2]
    unfold zb_bld
    rw [if_neg (by omega), if_pos (by omega)]
  · rw [if_neg h1, va_up_ne _ _ (by omega)]
    unfold zb_bld
    by_cases h2 : q = k
    · rw [if_pos h2, if_pos h2]
    · rw [if_neg h2, if_neg h2]
      by_cases h3 : k < q ∧ q < k + n
      · rw [if_pos h3, if_pos (by omega)]
      · rw [if_neg h3, if_neg (by omega)]
theorem zb_bend {g : zb_G} {C0 F : Nat → va_E} {k n : Nat} {e : va_E} (hn : 0 < n) (h : F k = e) : zb_ws g (k + n) (zb_bld C0 F k n e) = zb_ws g (k + n) (zb_fin C0 F k n) := zb_cong fun q hq => by
  unfold zb_bld zb_fin
  by_cases h2 : q = k
  · rw [if_pos h2, if_pos (by omega), h2, h]
  · rw [if_neg h2]
    by_cases h3 : k < q ∧ q < k + n
    · rw [if_pos h3, if_pos (by omega)]
    · rw [if_neg h3, if_neg (by omega)]
def zb_at (k : Nat) (t : List (Nat × Nat)) : Prop := ∀ j, j < t.length → zb_kd (k + j) = t.getD j (0, 0)
theorem zb_at.sub {k : Nat} {t : List (Nat × Nat)} (h : zb_at k t) (i : Nat) (t' : List (Nat × Nat)) (h2 : ∀ j, j < t'.length → i + j < t.length ∧ t.getD (i + j) (0, 0) = t'.getD j (0, 0)) : zb_at (k + i) t' := fun j hj => by
  rw [Nat.add_assoc]
  exact (h (i + j) (h2 j hj).1).trans (h2 j hj).2
theorem zb_mm0 {q : Nat} : zb_mm mem0 mem0 mem0 q = mem0 q := by unfold zb_mm; split; rfl; split <;> rfl
theorem zb_F10 {g : zb_G} {q n : Nat} (h : zb_kd q = (10, n)) : zb_F g q = .inl (g.2.1 0, n, .inl (fun _ => 0)) := by
  have e : mem0 q = fun _ => 0 := by funext j; simp [mem0, h]
  simp [zb_F, zb_ce, h, zb_mm0, e]
theorem zb_F13 {g : zb_G} {q n : Nat} (h : zb_kd q = (13, n)) : zb_F g q = .inl (g.2.1 2, n, .inl (fun _ => 0)) := by
  have e : mem0 q = fun _ => 0 := by funext j; simp [mem0, h]
  simp [zb_F, zb_ce, h, zb_mm0, e]
theorem zb_F14 {g : zb_G} {q n : Nat} (h : zb_kd q = (14, n)) : zb_F g q = .inl (g.2.1 1, n, .inl (fun _ => 0)) := by
  have e : mem0 q = fun _ => 0 := by funext j; simp [mem0, h]
  simp [zb_F, zb_ce, h, zb_mm0, e]
theorem zb_Fo0 {g : zb_G} {q n : Nat} (h : zb_kd q = (0, n)) : zb_F g q = .inr (0, zb_fs g.2.2 0 q (fun _ => 0)) := by
  have e : mem0 q = (fun _ => 0) := by funext j; simp [mem0, h]
  simp [zb_F, zb_ce, h, zb_mm0, e]
theorem zb_Fo1 {g : zb_G} {q n : Nat} (h : zb_kd q = (1, n)) : zb_F g q = .inr (1, zb_fs g.2.2 1 q (fun _ => 0)) := by
  have e : mem0 q = (fun _ => 0) := by funext j; simp [mem0, h]
  simp [zb_F, zb_ce, h, zb_mm0, e]
theorem zb_Fo2 {g : zb_G} {q n : Nat} (h : zb_kd q = (2, n)) : zb_F g q = .inr (2, zb_fs g.2.2 2 q (fun j => if j = 7 then -1 else 0)) := by
  have e : mem0 q = (fun j => if j = 7 then -1 else 0) := by funext j; simp [mem0, h]
  simp [zb_F, zb_ce, h, zb_mm0, e]
theorem zb_Fo3 {g : zb_G} {q n : Nat} (h : zb_kd q = (3, n)) : zb_F g q = .inr (3, zb_fs g.2.2 3 q (fun _ => 0)) := by
  have e : mem0 q = (fun _ => 0) := by funext j; simp [mem0, h]
  simp [zb_F, zb_ce, h, zb_mm0, e]
theorem zb_Fo4 {g : zb_G} {q n : Nat} (h : zb_kd q = (4, n)) : zb_F g q = .inr (4, zb_fs g.2.2 4 q (fun _ => 0)) := by
  have e : mem0 q = (fun _ => 0) := by funext j; simp [mem0, h]
  simp [zb_F, zb_ce, h, zb_mm0, e]
theorem zb_Fo5 {g : zb_G} {q n : Nat} (h : zb_kd q = (5, n)) : zb_F g q = .inr (5, zb_fs g.2.2 5 q (fun j => if j = 4 ∨ j = 5 then 1 else 0)) := by
  have e : mem0 q = (fun j => if j = 4 ∨ j = 5 then 1 else 0) := by funext j; simp [mem0, h]
  simp [zb_F, zb_ce, h, zb_mm0, e]
theorem zb_Fo6 {g : zb_G} {q n : Nat} (h : zb_kd q = (6, n)) : zb_F g q = .inr (6, zb_fs g.2.2 6 q (fun _ => 0)) := by
  have e : mem0 q = (fun _ => 0) := by funext j; simp [mem0, h]
  simp [zb_F, zb_ce, h, zb_mm0, e]
theorem zb_Fo7 {g : zb_G} {q n : Nat} (h : zb_kd q = (7, n)) : zb_F g q = .inr (7, zb_fs g.2.2 7 q (fun j => if j = 13 then -1 else 0)) := by
  have e : mem0 q = (fun j => if j = 13 then -1 else 0) := by funext j; simp [mem0, h]
  simp [zb_F, zb_ce, h, zb_mm0, e]
theorem zb_Fo8 {g : zb_G} {q n : Nat} (h : zb_kd q = (8, n)) : zb_F g q = .inr (8, zb_fs g.2.2 8 q (fun j => if j = 16 then -1 else 0)) := by
  have e : mem0 q = (fun j => if j = 16 then -1 else 0) := by funext j; simp [mem0, h]
  simp [zb_F, zb_ce, h, zb_mm0, e]
def zb_PreN (g : zb_G) (nc : Nat) (C : Nat → va_E) (as : List Value) : Array Value → State → Prop := fun a U => zb_Pre g nc C as a U ∧ U.heap.size = g.2.2 + nc ∧ va_AO "BuoyString$State" U
abbrev zb_Cn (l : Launch) (g : zb_G) (y : MethodName) (cc : ByteArray) (maxL fr lo mc ms : Nat) (as : List Value) (nc : Nat) (C : Nat → va_E) (nc' : Nat) (C' : Nat → va_E) : Prop :=
  Met l y (Cond.code y cc maxL none :: zb_Wd) { frames := fr, cells := mc, slots := ms, locals := lo } (zb_PreN g nc C as) (zb_Po g nc' C' none) mc ms (zb_A g)
theorem zb_blindN {g : zb_G} {nc : Nat} {C : Nat → va_E} {as : List Value} : FrameBlind (zb_PreN g nc C as) := fun a U gg mk q =>
  ⟨zb_blind a U gg mk q.1, q.2.1, va_AO.moved (u := U) (U := U.calling gg mk a) (Vm.Alike.refl U.vm) q.2.2⟩
theorem zb_ofN {l : Launch} {g : zb_G} {nc nc' : Nat} {y : MethodName} {own : String} {cc : ByteArray} {maxL fr lo mc ms : Nat} {as : List Value} {C C' : Nat → va_E}
    (hy : plainName y.cls = true) (ho : y.cls = own) (hi : y.name = "<init>") (hn : (lg_sl as).length ≤ maxL)
    (body : ∀ (p : Program) (e : Env) (s : State) (m : MethodId) (args : Array Value) (below : List Frame) (meth : Method) (c : Code) (ls : Array Slot), zb_X g p m c cc maxL s args own meth → meth.sig.returnType = none → meth.name = "<init>" → s.heap.size = g.2.2 + nc → va_AO "BuoyString$State" s → va_P g.1 vwCl (zb_ws g nc C) s.heap → lv_has ls maxL (lv_args 0 as) →
      W p l e { frames := fr, cells := mc, slots := ms, locals := lo } s m args below meth c s.heap [] 0 0 (MQ below (zb_Po g nc' C' none) args s mc ms (zb_A g)) (F0 m 0 ls [])) :
    zb_Cn l g y cc maxL fr lo mc ms as nc C nc' C' := by
  subst ho
  refine Met.ofW (cc := cc) (maxL := maxL) (ret := none) hy rfl ?_
  intro p e s m args below meth c s₁ B hml hv
  obtain ⟨⟨rfl, hP, hK, hZ⟩, hz, hao⟩ := hv
  have hts0 := atoms_spec (ws := Cond.code y cc maxL none :: zb_Wd) B.pre
  have hts : ∀ w ∈ zb_Wd, w.before as.toArray s = true := fun w hw => hts0 w (List.mem_cons_of_mem _ hw)
  rw [lg_entry_eq]
  exact body p e s m as.toArray below meth c _ ⟨⟨B.exec, B.bytes, hml, findClass_of_methodNamed B.named, hts⟩, B.notSynchronized, hK, hZ⟩ B.returns ((name_of_methodNamed B.named B.method).1.trans hi) hz hao hP (lv_entry as hn)
/-- what an instruction that makes by a constructor needs of the tables -/
def zb_cwI (own : String) (index : Nat) (y : MethodName) (cy : ByteArray) (mY nY : Nat) : Prop :=
  (Cond.methodLink own index y ∈ zb_Wd ∧ Cond.instanceMethod y ∈ zb_Wd ∧ Cond.initialized y.cls ∈ zb_Wd ∧ Cond.code y cy mY none ∈ zb_Wd) ∧ (y.cls ≠ "java/lang/invoke/MethodHandle" ∧ y.cls ≠ "java/lang/invoke/VarHandle" ∧ (parseMethodDescriptor y.desc).map (fun d => d.parameters.length) = some nY) ∧ y.name = "<init>"
def zb_cwJ (own : String) (index : Nat) (host : String) (y : MethodName) (cy : ByteArray) (mY nY : Nat) : Prop :=
  (Cond.methodLinkNest own index y host ∈ zb_ext ∧ Cond.instanceMethod y ∈ zb_Wd ∧ Cond.initialized y.cls ∈ zb_Wd ∧ Cond.code y cy mY none ∈ zb_Wd) ∧ (y.cls ≠ "java/lang/invoke/MethodHandle" ∧ y.cls ≠ "java/lang/invoke/VarHandle" ∧ (parseMethodDescriptor y.desc).map (fun d => d.parameters.length) = some nY) ∧ y.name = "<init>"
section NR
variable {p : Program} {l : Launch} {e : Env} {R : Room} {s : State} {m : MethodId} {args : Array Value} {below : List Frame} {meth : Method} {c : Code} {H : Heap} {locs : List Loc} {cells slots : Nat} {Q : State → Prop}
variable {cc : ByteArray} {nL : Nat} {own : String} {g : zb_G} {nc : Nat} {C0 F : Nat → va_E} {pc k n : Nat} {ls : Array Slot} {rest : List Value}
theorem zr_sz {gg : JFrame} (hP : va_P g.1 vwCl (zb_ws g nc C0) H) (hcz : s.heap.size + cells = g.2.2 + nc) (hnc : 0 < nc) (kk : H.size = g.2.2 + nc → W p l e R s m args below meth c H locs cells slots Q gg) : W p l e R s m args below meth c H locs cells slots Q gg := by
  intro T hT X
  refine kk ?_ T hT X
  have h1 := X.heapSize
  rw [hT] at h1
  have h2 := (hP (nc - 1) _ (zb_get (by omega))).lt
  have h3 : (g.2.2 + (nc - 1)) < H.size := h2
  omega
theorem zr_newa {atype : ArrayType} {ty : FieldType} (ti : Nat) {x : Int32} {N : Nat} {a0 : vp_A} (X : zb_X g p m c cc nL s args own meth) (hP : va_P g.1 vwCl (zb_ws g nc C0) H) (hS : va_S (zb_A g) s.heap H locs) (hsz : H.size = g.2.2 + nc)
    (harr : Cond.arrayClass (newarray.typeOf atype) ∈ zb_Wd) (hty : newarray.typeOf atype = ty) (hid : (zb_ty g)[ti]? = some (g.2.1 ti, ty)) (hra : va_RA s (g.2.1 ti) ty → s.vm.findClass ("[" ++ ty.toString) = some (g.2.1 ti)) (ha : ∀ cA, vp_cell cA a0 = arrV cA N (fun _ => defaultValue ty)) (hn : ¬ x < 0) (hN : x.toNatClampNeg = N) (hbytes : N * componentBytes ty ≤ 536870912) (hcells : cells + 1 ≤ R.cells) (hslots : slots + N ≤ R.slots) (hdg : decode cc pc = .ok (.newarray atype, 2))
    (kk : ∀ H1 : Heap, va_P g.1 vwCl (zb_ws g (nc + 1) (va_up C0 nc (.inl (g.2.1 ti, a0)))) H1 → va_S (zb_A g) s.heap H1 locs → W p l e R s m args below meth c H1 locs (cells + 1) (slots + N) Q (F0 m (pc + 2) ls (.ref (g.2.2 + nc) :: rest))) : W p l e R s m args below meth c H locs cells slots Q (F0 m pc ls (.int x :: rest)) := by
  obtain ⟨⟨hx, hb, -, ho, hts⟩, -, hK, -⟩ := X
  subst hty
  refine va_newaK hx hb (hts _ harr) rfl hdg rfl hn hN hbytes hcells hslots hsz fun H1 cA e1 z1 o1 hAr hNm => ?_
  have hc : cA = g.2.1 ti := Option.some.inj (hNm.symm.trans (hra (hK.2 ti _ hid).2))
  subst hc
  have hk : ∀ (k : Nat) (x : Nat × va_E), (zb_ws g nc C0)[k]? = some x → H1[x.1]? = H[x.1]? := fun k x hx => o1 x.1 (by rw [← hsz]; exact (hP k x hx).lt)
  refine kk H1 ?_ ⟨Nat.le_trans hS.1 (by omega), fun x h1 h2 => (o1 x (by have := hS.1; omega)).trans (hS.2.1 x h1 h2), hS.2.2⟩
  rw [← zb_push]
  refine (hP.kept hk).app (fun k x hx => ?_)
  have hz : k < 1 := (List.getElem?_eq_some_iff.mp hx).1
  rw [show k = 0 by omega] at hx
  cases hx
  show H1[g.2.2 + nc]? = some (vp_cell _ _)
  rw [ha]
  exact e1
theorem zr_newo {C : String} {T : u_T} {N ci index : Nat} {fs : List Value} (X : zb_X g p m c cc nL s args own meth) (hP : va_P g.1 vwCl (zb_ws g nc C0) H) (hS : va_S (zb_A g) s.heap H locs) (hsz : H.size = g.2.2 + nc)
    (hc : vwCl[ci]? = some (C, T, N)) (hin : ∀ w ∈ u_ws C T N, w ∈ zb_Wd) (ty : Nat → FieldType) (hty : ∀ k, k < N → parseFieldDescriptor (T k).2.2.1 = some (ty k)) (hcl : Cond.classLink own index C ∈ zb_Wd) (hinst : Cond.instantiable C N ∈ zb_Wd) (hini : Cond.initialized C ∈ zb_Wd) (hfs : ∀ j, j < N → defaultValue (ty j) = vp_V fs j) (hcells : cells + 1 ≤ R.cells) (hslots : slots + N ≤ R.slots) (hdg : decode cc pc = .ok (.new index, 3))
    (kk : ∀ H1 : Heap, va_P g.1 vwCl (zb_ws g (nc + 1) (va_up C0 nc (.inr (ci, fs)))) H1 → va_S (zb_A g) s.heap H1 locs → W p l e R s m args below meth c H1 locs (cells + 1) (slots + N) Q (F0 m (pc + 3) ls (.ref (g.2.2 + nc) :: rest))) : W p l e R s m args below meth c H locs cells slots Q (F0 m pc ls rest) := by
  obtain ⟨⟨hx, hb, -, ho, hts⟩, -, hK, -⟩ := X
  have hKn := hK.1 ci _ hc
  refine W.newcK hx hb ho (hts _ hcl) (hts _ hinst) (hts _ hini) rfl hdg hcells hslots hKn.2.1 hsz fun H1 kC hkC e1 z1 o1 => ?_
  have hk : ∀ (k : Nat) (x : Nat × va_E), (zb_ws g nc C0)[k]? = some x → H1[x.1]? = H[x.1]? := fun k x hx => o1 x.1 (by rw [← hsz]; exact (hP k x hx).lt)
  refine kk H1 ?_ ⟨Nat.le_trans hS.1 (by omega), fun x h1 h2 => (o1 x (by have := hS.1; omega)).trans (hS.2.1 x h1 h2), hS.2.2⟩
  rw [← zb_push]
  refine (hP.kept hk).app (fun k x hx => ?_)
  have hz : k < 1 := (List.getElem?_eq_some_iff.mp hx).1
  rw [show k = 0 by omega] at hx
  cases hx
  exact ⟨_, hc, (u_born ty hts hin hKn hkC e1 hty).to hfs⟩
theorem zr_bput {ci N : Nat} {C : String} {T : u_T} {fs : List Value} (X : zb_X g p m c cc nL s args own meth) (hP : va_P g.1 vwCl (zb_ws g (k + n) (zb_bld C0 F k n (.inr (ci, fs)))) H) (hS : va_S (zb_A g) s.heap H locs) (hn : 0 < n) (hc : vwCl[ci]? = some (C, T, N)) (hin : ∀ w ∈ u_ws C T N, w ∈ zb_Wd)
    (ty0 : Nat → FieldType) (hty : ∀ k, k < N → parseFieldDescriptor (T k).2.2.1 = some (ty0 k)) (hnm : ∀ a, a < N → ∀ b, b < N → a ≠ b → (T a).2.1 ≠ (T b).2.1) (j : Nat) (hj : j < N) {index : Nat}
    (hlink : Cond.fieldLink own index (T j).1 (T j).2.1 (T j).2.2.1 ∈ zb_Wd) (hfin : (T j).2.2.2 = false ∨ ((T j).2.2.2 = true ∧ meth.name = "<init>" ∧ (T j).1 = own)) {v : Value} {ty : FieldType} (hd : parseFieldDescriptor (T j).2.2.1 = some ty) (hn9 : narrow ty v = v) (hfit : fits ty v = true) (hl : j < fs.length) (hdg : decode cc pc = .ok (.putfield index, 3))
    (kk : ∀ (H1 : Heap) (locs1 : List Loc), va_P g.1 vwCl (zb_ws g (k + n) (zb_bld C0 F k n (.inr (ci, fs.set j v)))) H1 → va_S (zb_A g) s.heap H1 locs1 → W p l e R s m args below meth c H1 locs1 cells slots Q (F0 m (pc + 3) ls rest)) : W p l e R s m args below meth c H locs cells slots Q (F0 m pc ls (v :: .ref (g.2.2 + k) :: rest)) := by
  obtain ⟨⟨hx, hb, -, ho, hts⟩, -, hK, -⟩ := X
  have he := zb_get (g := g) (C := zb_bld C0 F k n (.inr (ci, fs))) (k := k) (nc := k + n) (by omega)
  rw [show zb_bld C0 F k n (.inr (ci, fs)) k = .inr (ci, fs) by simp [zb_bld]] at he
  have key : ∀ (H1 : Heap) (locs1 : List Loc), va_P g.1 vwCl ((zb_ws g (k + n) (zb_bld C0 F k n (.inr (ci, fs)))).set k (g.2.2 + k, .inr (ci, fs.set j v))) H1 → va_D (zb_A g) ((zb_ws g (k + n) (zb_bld C0 F k n (.inr (ci, fs)))).set k (g.2.2 + k, .inr (ci, fs.set j v))) → va_S (zb_A g) s.heap H1 locs1 → W p l e R s m args below meth c H1 locs1 cells slots Q (F0 m (pc + 3) ls rest) := fun H1 locs1 hP1 _ hS1 => by
    rw [zb_set, zb_bput] at hP1
    exact kk H1 locs1 hP1 hS1
  rcases hfin with hfin | ⟨hfin, h2, h3⟩
  · exact va_put hx hb hts hin ty0 hty hnm ho hK hP zb_D hS k he hc j hj (hts _ hlink) (fun _ h => h) hfin hd hn9 hfit hl hdg key
  · exact va_putF hx hb hts hin ty0 hty hnm ho hK hP zb_D hS k he hc j hj (hts _ hlink) (fun _ h => h) hfin h2 h3 hd hn9 hfit hl hdg key
theorem zr_cI {y : MethodName} {cy : ByteArray} {mY fr lo mc ms nc1 b index : Nat} {C1 : Nat → va_E} (X : zb_X g p m c cc nL s args own meth) (hP : va_P g.1 vwCl (zb_ws g nc C0) H) (hS : va_S (zb_A g) s.heap H locs) (hsz : H.size = g.2.2 + nc) (hao : va_AO "BuoyString$State" s)
    (hM : zb_Cn l g y cy mY fr lo mc ms [.ref b] nc C0 nc1 C1) (cw : zb_cwI own index y cy mY 0) (hszl : ls.size = nL) (hW : (rest.map fun v => v.category).sum ≤ 8) (hR : fr + 1 ≤ R.frames ∧ 8 + (mY + 11) + lo ≤ R.locals) (hcs : cells + mc ≤ R.cells ∧ slots + ms ≤ R.slots) (hdg : decode cc pc = .ok (.invokespecial index, 3))
    (kk : ∀ (H1 : Heap) (locs1 : List Loc), va_P g.1 vwCl (zb_ws g nc1 C1) H1 → va_S (zb_A g) s.heap H1 locs1 → W p l e R s m args below meth c H1 locs1 (cells + mc) (slots + ms) Q (F0 m (pc + 3) ls rest)) : W p l e R s m args below meth c H locs cells slots Q (F0 m pc ls (.ref b :: rest)) := by
  obtain ⟨S, hlk, hK, hZ⟩ := id X
  have hts := S.2.2.2.2
  exact zr_back (v := none) (nc := nc1) rfl (va_runI (As := []) (rest := rest) S hM ⟨callB_of 0 hts (zb_goodIn (zb_goodC cw.1.2.2.2)) rfl rfl rfl (hts _ cw.1.2.2.1) (hts _ cw.1.1) cw.2.1 hR, cw.2.2, hts _ cw.1.2.1⟩ ⟨zb_blindN, fun U hU hW => ⟨zb_pre hK hZ hP hS U hU hW, by rw [hU]; exact hsz, va_AO.moved hW.alike hao⟩⟩ rfl rfl hszl rfl (lv_room hW) hdg hcs) hS kk
theorem zr_cJ {y : MethodName} {host : String} {cy : ByteArray} {mY fr lo mc ms nc1 b index : Nat} {C1 : Nat → va_E} (X : zb_X g p m c cc nL s args own meth) (hP : va_P g.1 vwCl (zb_ws g nc C0) H) (hS : va_S (zb_A g) s.heap H locs) (hsz : H.size = g.2.2 + nc) (hao : va_AO "BuoyString$State" s)
    (hM : zb_Cn l g y cy mY fr lo mc ms [.ref b] nc C0 nc1 C1) (cw : zb_cwJ own index host y cy mY 0) (hszl : ls.size = nL) (hW : (rest.map fun v => v.category).sum ≤ 8) (hR : fr + 1 ≤ R.frames ∧ 8 + (mY + 11) + lo ≤ R.locals) (hcs : cells + mc ≤ R.cells ∧ slots + ms ≤ R.slots) (hdg : decode cc pc = .ok (.invokespecial index, 3))
    (kk : ∀ (H1 : Heap) (locs1 : List Loc), va_P g.1 vwCl (zb_ws g nc1 C1) H1 → va_S (zb_A g) s.heap H1 locs1 → W p l e R s m args below meth c H1 locs1 (cells + mc) (slots + ms) Q (F0 m (pc + 3) ls rest)) : W p l e R s m args below meth c H locs cells slots Q (F0 m pc ls (.ref b :: rest)) := by
  obtain ⟨S, hlk, hK, hZ⟩ := id X
  have hts := S.2.2.2.2
  exact zr_back (v := none) (nc := nc1) rfl (va_runIN (As := []) (rest := rest) S hM ⟨va_cnB 0 hts (zb_goodIn (zb_goodC cw.1.2.2.2)) rfl rfl rfl (hZ.2.2.1 _ cw.1.1) (hts _ cw.1.2.2.1) cw.2.1 hR, cw.2.2, hts _ cw.1.2.1⟩ ⟨zb_blindN, fun U hU hW => ⟨zb_pre hK hZ hP hS U hU hW, by rw [hU]; exact hsz, va_AO.moved hW.alike hao⟩⟩ rfl rfl hszl rfl (lv_room hW) hdg hcs) hS kk
theorem zr_oi {index a : Nat} (X : zb_X g p m c cc nL s args own meth) (hl : Cond.methodLink own index Lib.objectInit ∈ zb_Wd) (hi : Cond.instanceMethod Lib.objectInit ∈ zb_Wd) (hc : Cond.code Lib.objectInit ⟨#[0xb1]⟩ 1 none ∈ zb_Wd) (hszl : ls.size = nL) (hf : 1 ≤ R.frames) (hlo : (rest.map fun v => v.category).sum + 12 ≤ R.locals) (hdg : decode cc pc = .ok (.invokespecial index, 3))
    (kk : W p l e R s m args below meth c H locs cells slots Q (F0 m (pc + 3) ls rest)) : W p l e R s m args below meth c H locs cells slots Q (F0 m pc ls (.ref a :: rest)) := by
  obtain ⟨⟨hx, hb, hml, ho, hts⟩, -, hK, -⟩ := X
  exact W.objInit hx hb ho (hts _ hl) (hts _ hi) (hts _ hc) (g := F0 m pc ls (.ref a :: rest)) rfl (hszl.trans hml.symm) rfl hdg hf (by show 2 * 0 + _ + 12 ≤ _; omega) kk
end NR
/-! the string and the reference -/
theorem zb_atB {b : Nat} (hB : zb_isB b) : zb_at b [(5,12),(0,11),(10,10),(10,10),(10,10),(10,10),(10,10),(10,10),(10,10),(10,10),(10,10),(3,3),(10,10),(10,10),(1,9),(10,24),(10,24),(10,24),(10,24),(10,24),(10,24),(10,24),(10,24),(10,240)] := fun j hj => zb_isB_kd hB hj
def zb_f490 (g : zb_G) : Nat → Option Nat := fun i => if i < 8 then none else some (g.2.2 + (66 + 24 * i))
def zb_f500 (g : zb_G) : Nat → Option Nat := fun i => if i < 2 then none else some (g.2.2 + (258 + 24 * i))
def zb_Fp (g : zb_G) (f h : Nat → Option Nat) : Nat → va_E := fun q => if q = 49 then .inl (g.2.1 3, 8, .inr (.inr (.inr (.inr f)))) else if q = 50 then .inl (g.2.1 3, 2, .inr (.inr (.inr (.inr h)))) else zb_F g q
theorem zb_Fp_ne {g : zb_G} {f h : Nat → Option Nat} {q : Nat} (h1 : q ≠ 49) (h2 : q ≠ 50) : zb_Fp g f h q = zb_F g q := by simp [zb_Fp, h1, h2]
theorem zb_Fp49 {g : zb_G} {f h : Nat → Option Nat} {k : Nat} (hk0 : k = 0) : zb_Fp g f h (k + 49) = .inl (g.2.1 3, 8, .inr (.inr (.inr (.inr f)))) := by subst hk0; rfl
theorem zb_Fp50 {g : zb_G} {f h : Nat → Option Nat} {k : Nat} (hk0 : k = 0) : zb_Fp g f h (k + 50) = .inl (g.2.1 3, 2, .inr (.inr (.inr (.inr h)))) := by subst hk0; rfl
theorem zb_bself {C0 F : Nat → va_E} {k n : Nat} {e : va_E} : zb_bld C0 F k n e k = e := by simp [zb_bld]
theorem zb_bldF {C0 F F2 : Nat → va_E} {k n v : Nat} {e e' : va_E} (h1 : 0 < v) (h2 : v < n) (h3 : F (k + v) = F2 (k + v)) (h4 : F2 (k + v) = e') : zb_bld C0 F k n e (k + v) = e' := by
  unfold zb_bld
  rw [if_neg (by omega), if_pos (by omega), h3, h4]
theorem zb_f8 {B : Nat} {f : Nat → Option Nat} (hf : ∀ i, 8 ≤ i → f i = some (B + (66 + 24 * i))) (i : Nat) : va_up (va_up (va_up (va_up (va_up (va_up (va_up (va_up f 0 (some (B + (0 + 66)))) 1 (some (B + (0 + 90)))) 2 (some (B + (0 + 114)))) 3 (some (B + (0 + 138)))) 4 (some (B + (0 + 162)))) 5 (some (B + (0 + 186)))) 6 (some (B + (0 + 210)))) 7 (some (B + (0 + 234))) i = some (B + (66 + 24 * i)) := by
  by_cases h : 8 ≤ i
  · rw [va_up_ne _ _ (by omega), va_up_ne _ _ (by omega), va_up_ne _ _ (by omega), va_up_ne _ _ (by omega), va_up_ne _ _ (by omega), va_up_ne _ _ (by omega), va_up_ne _ _ (by omega), va_up_ne _ _ (by omega)]
    exact hf i h
  · have h2 : i = 0 ∨ i = 1 ∨ i = 2 ∨ i = 3 ∨ i = 4 ∨ i = 5 ∨ i = 6 ∨ i = 7 := by omega
    rcases h2 with rfl | rfl | rfl | rfl | rfl | rfl | rfl | rfl <;> simp [va_up]
theorem zb_f2 {B : Nat} {f : Nat → Option Nat} (hf : ∀ i, 2 ≤ i → f i = some (B + (258 + 24 * i))) (i : Nat) : va_up (va_up f 0 (some (B + (0 + 258)))) 1 (some (B + (0 + 282))) i = some (B + (258 + 24 * i)) := by
  by_cases h : 2 ≤ i
  · rw [va_up_ne _ _ (by omega), va_up_ne _ _ (by omega)]
    exact hf i h
  · have h2 : i = 0 ∨ i = 1 := by omega
    rcases h2 with rfl | rfl <;> simp [va_up]
theorem zb_x7 {g : zb_G} {C0 : Nat → va_E} {f h : Nat → Option Nat} (hf : ∀ i, f i = some (g.2.2 + (66 + 24 * i))) (hh : ∀ i, h i = some (g.2.2 + (258 + 24 * i))) : zb_ws g (0 + 306) (zb_fin C0 (zb_Fp g f h) 0 306) = zb_ws g 306 (zb_ce g mem0 mem0 mem0) := zb_cong fun q hq => by
  unfold zb_fin
  rw [if_pos (by omega)]
  by_cases h1 : q = 49
  · subst h1
    have e : f = fun i => some (g.2.2 + (66 + 24 * i)) := funext hf
    rw [e]
    rfl
  · by_cases h2 : q = 50
    · subst h2
      have e : h = fun i => some (g.2.2 + (258 + 24 * i)) := funext hh
      rw [e]
      rfl
    · rw [zb_Fp_ne h1 h2]
      rfl
theorem zb_x8 {g : zb_G} {C0 : Nat → va_E} {I : Mem} (h : ∀ q, q < 306 → C0 q = zb_ce g I mem0 mem0 q) : zb_ws g (306 + 12) (zb_fin C0 (zb_F g) 306 12) = zb_ws g 318 (zb_ce g I mem0 mem0) := zb_cong fun q hq => by
  unfold zb_fin
  by_cases h1 : 306 ≤ q
  · rw [if_pos (by omega)]
    have e : zb_mm mem0 mem0 mem0 q = zb_mm I mem0 mem0 q := by simp [zb_mm, show ¬ q < 306 by omega]
    simp only [zb_F, zb_ce, e]
  · rw [if_neg (by omega)]
    exact h q (by omega)
section NQ
variable {p : Program} {l : Launch} {e : Env} {R : Room} {s : State} {m : MethodId} {args : Array Value} {below : List Frame} {meth : Method} {c : Code} {H : Heap} {locs : List Loc} {cells slots : Nat} {Q : State → Prop}
variable {cc : ByteArray} {nL : Nat} {own : String} {g : zb_G} {nc : Nat} {C0 F : Nat → va_E} {pc k n : Nat} {ls : Array Slot} {rest : List Value}
theorem zr_newq {index : Nat} {x : Int32} {N : Nat} {f : Nat → Option Nat} (X : zb_X g p m c cc nL s args own meth) (hP : va_P g.1 vwCl (zb_ws g nc C0) H) (hS : va_S (zb_A g) s.heap H locs) (hsz : H.size = g.2.2 + nc)
    (hcl : Cond.classLink own index RX5 ∈ zb_Wd) (hao : va_AO "BuoyString$State" s) (hf : ∀ j, j < N → f j = none) (hn : ¬ x < 0) (hN : x.toNatClampNeg = N) (hbytes : N * 4 ≤ 536870912) (hcells : cells + 1 ≤ R.cells) (hslots : slots + N ≤ R.slots) (hdg : decode cc pc = .ok (.anewarray index, 3))
    (kk : ∀ H1 : Heap, va_P g.1 vwCl (zb_ws g (nc + 1) (va_up C0 nc (.inl (g.2.1 3, N, .inr (.inr (.inr (.inr f))))))) H1 → va_S (zb_A g) s.heap H1 locs → W p l e R s m args below meth c H1 locs (cells + 1) (slots + N) Q (F0 m (pc + 3) ls (.ref (g.2.2 + nc) :: rest))) : W p l e R s m args below meth c H locs cells slots Q (F0 m pc ls (.int x :: rest)) := by
  obtain ⟨⟨hx, hb, -, ho, hts⟩, -, hK, -⟩ := X
  subst hN
  refine W.anew hx hb ho (hts _ hcl) (va_AO.use hao) rfl hdg rfl hn hbytes hcells hslots fun cA kA comp f1 f2 f3 f4 => ?_
  have hc : cA = g.2.1 3 := by
    obtain ⟨kA9, comp9, -, -, -, h9⟩ := (hK.2 3 (g.2.1 3, .object "BuoyString$State") rfl).2
    exact Option.some.inj (f1.symm.trans h9)
  subst hc
  generalize hH1 : H.push ({ cls := g.2.1 3, slots := Array.replicate x.toNatClampNeg .null, vm := .none } : Cell) = H1
  have z1 : H1.size = H.size + 1 := by rw [← hH1, Array.size_push]
  have e1 : H1[H.size]? = some (arrV (g.2.1 3) x.toNatClampNeg (fun _ => .null)) := by rw [← hH1, Array.getElem?_push_size, ← arrV_new]
  have o1 : ∀ q : Nat, q < H.size → H1[q]? = H[q]? := fun q hq => by rw [← hH1, Array.getElem?_push, if_neg (Nat.ne_of_lt hq)]
  have hk : ∀ (k : Nat) (x : Nat × va_E), (zb_ws g nc C0)[k]? = some x → H1[x.1]? = H[x.1]? := fun k x hx => o1 x.1 (hP k x hx).lt
  have hk2 := kk H1 (by
    rw [← zb_push]
    refine (hP.kept hk).app (fun k y hx => ?_)
    have hz : k < 1 := (List.getElem?_eq_some_iff.mp hx).1
    rw [show k = 0 by omega] at hx
    cases hx
    show H1[g.2.2 + nc]? = some (vp_cell _ _)
    rw [← hsz, e1]
    congr 1
    show arrV (g.2.1 3) x.toNatClampNeg (fun _ => Value.null) = arrV (g.2.1 3) x.toNatClampNeg (fun j => va_rf (f j))
    unfold arrV
    congr 1
    apply Array.ext_getElem?
    intro j
    by_cases hj : j < x.toNatClampNeg
    · simp [hj, hf j hj, va_rf]
    · simp [hj]) ⟨Nat.le_trans hS.1 (by omega), fun x h1 h2 => (o1 x (Nat.lt_of_lt_of_le h1 hS.1)).trans (hS.2.1 x h1 h2), hS.2.2⟩
  rw [hsz]
  exact hk2
theorem zr_aastore49 {v : Nat} {i : Int32} {vs : List Value} {f h : Nat → Option Nat} {ob : va_E} (X : zb_X g p m c cc nL s args own meth) (hP : va_P g.1 vwCl (zb_ws g (k + n) (zb_bld C0 (zb_Fp g f h) k n ob)) H) (hS : va_S (zb_A g) s.heap H locs) (hk0 : k = 0) (hn : 49 < n) (hvn : v < n) (hv0 : 0 < v) (hv : zb_bld C0 (zb_Fp g f h) k n ob (k + v) = .inr (5, vs)) (hin : vp_in i 8) (iN : Nat) (hiN : i.toNatClampNeg = iN) (hdg : decode cc pc = .ok (.aastore, 1))
    (kk : ∀ (H1 : Heap) (locs1 : List Loc), va_P g.1 vwCl (zb_ws g (k + n) (zb_bld C0 (zb_Fp g (va_up f iN (some (g.2.2 + (k + v)))) h) k n ob)) H1 → va_S (zb_A g) s.heap H1 locs1 → W p l e R s m args below meth c H1 locs1 cells slots Q (F0 m (pc + 1) ls rest)) : W p l e R s m args below meth c H locs cells slots Q (F0 m pc ls (.ref (g.2.2 + (k + v)) :: .int i :: .ref (g.2.2 + (k + 49)) :: rest)) := by
  subst hiN
  obtain ⟨⟨hx, hb, -, ho, hts⟩, -, hK, -⟩ := X
  have he := zb_get (g := g) (C := zb_bld C0 (zb_Fp g f h) k n ob) (k := k + 49) (nc := k + n) (by omega)
  rw [zb_bldF (by decide) hn (Eq.refl _) (zb_Fp49 hk0)] at he
  have hve := zb_get (g := g) (C := zb_bld C0 (zb_Fp g f h) k n ob) (k := k + v) (nc := k + n) (by omega)
  rw [hv] at hve
  refine va_astq hx hb hK hP zb_D hS (k + 49) 3 (k + v) 5 he rfl hve rfl hin hdg fun H1 locs1 hP1 _ hS1 => kk H1 locs1 ?_ hS1
  rw [zb_set] at hP1
  rw [zb_cong (C' := va_up (zb_bld C0 (zb_Fp g f h) k n ob) (k + 49) (.inl (g.2.1 3, 8, .inr (.inr (.inr (.inr (va_up f i.toNatClampNeg (some (g.2.2 + (k + v)))))))))) fun q hq => ?_]
  · exact hP1
  · by_cases h1 : q = k + 49
    · subst h1
      rw [va_up_self, zb_bldF (by decide) hn (Eq.refl _) (zb_Fp49 hk0)]
    · rw [va_up_ne _ _ h1]
      unfold zb_bld zb_Fp
      rw [if_neg (show ¬ q = 49 by omega), if_neg (show ¬ q = 49 by omega)]
theorem zr_aastore50 {v : Nat} {i : Int32} {vs : List Value} {f h : Nat → Option Nat} {ob : va_E} (X : zb_X g p m c cc nL s args own meth) (hP : va_P g.1 vwCl (zb_ws g (k + n) (zb_bld C0 (zb_Fp g f h) k n ob)) H) (hS : va_S (zb_A g) s.heap H locs) (hk0 : k = 0) (hn : 50 < n) (hvn : v < n) (hv0 : 0 < v) (hv : zb_bld C0 (zb_Fp g f h) k n ob (k + v) = .inr (5, vs)) (hin : vp_in i 2) (iN : Nat) (hiN : i.toNatClampNeg = iN) (hdg : decode cc pc = .ok (.aastore, 1))
    (kk : ∀ (H1 : Heap) (locs1 : List Loc), va_P g.1 vwCl (zb_ws g (k + n) (zb_bld C0 (zb_Fp g f (va_up h iN (some (g.2.2 + (k + v))))) k n ob)) H1 → va_S (zb_A g) s.heap H1 locs1 → W p l e R s m args below meth c H1 locs1 cells slots Q (F0 m (pc + 1) ls rest)) : W p l e R s m args below meth c H locs cells slots Q (F0 m pc ls (.ref (g.2.2 + (k + v)) :: .int i :: .ref (g.2.2 + (k + 50)) :: rest)) := by
  subst hiN
  obtain ⟨⟨hx, hb, -, ho, hts⟩, -, hK, -⟩ := X
  have he := zb_get (g := g) (C := zb_bld C0 (zb_Fp g f h) k n ob) (k := k + 50) (nc := k + n) (by omega)
  rw [zb_bldF (by decide) hn (Eq.refl _) (zb_Fp50 hk0)] at he
  have hve := zb_get (g := g) (C := zb_bld C0 (zb_Fp g f h) k n ob) (k := k + v) (nc := k + n) (by omega)
  rw [hv] at hve
  refine va_astq hx hb hK hP zb_D hS (k + 50) 3 (k + v) 5 he rfl hve rfl hin hdg fun H1 locs1 hP1 _ hS1 => kk H1 locs1 ?_ hS1
  rw [zb_set] at hP1
  rw [zb_cong (C' := va_up (zb_bld C0 (zb_Fp g f h) k n ob) (k + 50) (.inl (g.2.1 3, 2, .inr (.inr (.inr (.inr (va_up h i.toNatClampNeg (some (g.2.2 + (k + v)))))))))) fun q hq => ?_]
  · exact hP1
  · by_cases h1 : q = k + 50
    · subst h1
      rw [va_up_self, zb_bldF (by decide) hn (Eq.refl _) (zb_Fp50 hk0)]
    · rw [va_up_ne _ _ h1]
      unfold zb_bld zb_Fp
      rw [if_neg (show ¬ q = 50 by omega), if_neg (show ¬ q = 50 by omega)]
end NQ
theorem wo_i : Cond.instanceMethod Lib.objectInit ∈ zb_Wd := (zb_in 130 (by decide +kernel) rfl)
theorem wo_c : Cond.code Lib.objectInit ⟨#[0xb1]⟩ 1 none ∈ zb_Wd := (zb_in 131 (by decide +kernel) rfl)
theorem wa_int : Cond.arrayClass (newarray.typeOf .int) ∈ zb_Wd := (zb_in 197 (by decide +kernel) rfl)
theorem wa_byte : Cond.arrayClass (newarray.typeOf .byte) ∈ zb_Wd := (zb_in 635 (by decide +kernel) rfl)
theorem wa_boolean : Cond.arrayClass (newarray.typeOf .boolean) ∈ zb_Wd := (zb_in 1407 (by decide +kernel) rfl)
theorem wa_long : Cond.arrayClass (newarray.typeOf .long) ∈ zb_Wd := (zb_in 1929 (by decide +kernel) rfl)
theorem wa_double : Cond.arrayClass (newarray.typeOf .double) ∈ zb_Wd := (zb_in 1930 (by decide +kernel) rfl)
theorem wo_X0_3 : Cond.methodLink RX0 3 Lib.objectInit ∈ zb_Wd := (zb_in 143 (by decide +kernel) rfl)
theorem wo_X1_3 : Cond.methodLink RX1 3 Lib.objectInit ∈ zb_Wd := (zb_in 225 (by decide +kernel) rfl)
theorem wo_X3_3 : Cond.methodLink RX3 3 Lib.objectInit ∈ zb_Wd := (zb_in 203 (by decide +kernel) rfl)
theorem wo_X6_3 : Cond.methodLink RX6 3 Lib.objectInit ∈ zb_Wd := (zb_in 327 (by decide +kernel) rfl)
theorem wo_X2_3 : Cond.methodLink RX2 3 Lib.objectInit ∈ zb_Wd := (zb_in 357 (by decide +kernel) rfl)
theorem wo_X4_3 : Cond.methodLink RX4 3 Lib.objectInit ∈ zb_Wd := (zb_in 391 (by decide +kernel) rfl)
theorem wo_X5_3 : Cond.methodLink RX5 3 Lib.objectInit ∈ zb_Wd := (zb_in 137 (by decide +kernel) rfl)
theorem wn_X5_9 : Cond.classLink RX5 9 RX0 ∈ zb_Wd := (zb_in 138 (by decide +kernel) rfl)
theorem wt_X0 : Cond.instantiable RX0 11 ∈ zb_Wd := (zb_in 139 (by decide +kernel) rfl)
theorem wu_X0 : Cond.initialized RX0 ∈ zb_Wd := (zb_in 103 (by decide +kernel) rfl)
theorem cj_X5_11 : zb_cwJ RX5 11 "BuoyString" yX0_init cX0_init 1 0 := ⟨⟨zb_inX 140 (by decide +kernel) rfl, (zb_in 141 (by decide +kernel) rfl), (zb_in 103 (by decide +kernel) rfl), (zb_in 142 (by decide +kernel) rfl)⟩, (by decide +kernel), rfl⟩
theorem wn_X5_18 : Cond.classLink RX5 18 RX3 ∈ zb_Wd := (zb_in 198 (by decide +kernel) rfl)
theorem wt_X3 : Cond.instantiable RX3 3 ∈ zb_Wd := (zb_in 199 (by decide +kernel) rfl)
theorem wu_X3 : Cond.initialized RX3 ∈ zb_Wd := (zb_in 104 (by decide +kernel) rfl)
theorem cj_X5_20 : zb_cwJ RX5 20 "BuoyString" yX3_init cX3_init 1 0 := ⟨⟨zb_inX 200 (by decide +kernel) rfl, (zb_in 201 (by decide +kernel) rfl), (zb_in 104 (by decide +kernel) rfl), (zb_in 202 (by decide +kernel) rfl)⟩, (by decide +kernel), rfl⟩
theorem wn_X5_25 : Cond.classLink RX5 25 RX1 ∈ zb_Wd := (zb_in 220 (by decide +kernel) rfl)
theorem wt_X1 : Cond.instantiable RX1 9 ∈ zb_Wd := (zb_in 221 (by decide +kernel) rfl)
theorem wu_X1 : Cond.initialized RX1 ∈ zb_Wd := (zb_in 105 (by decide +kernel) rfl)
theorem cj_X5_27 : zb_cwJ RX5 27 "BuoyString" yX1_init cX1_init 1 0 := ⟨⟨zb_inX 222 (by decide +kernel) rfl, (zb_in 223 (by decide +kernel) rfl), (zb_in 105 (by decide +kernel) rfl), (zb_in 224 (by decide +kernel) rfl)⟩, (by decide +kernel), rfl⟩
set_option maxHeartbeats 4000000 in
set_option maxRecDepth 100000 in
theorem ci_X0 {g : zb_G} {C0 : Nat → va_E} {k : Nat} (l : Launch) (hk : zb_at k [(0, 11), (10, 10), (10, 10), (10, 10), (10, 10), (10, 10), (10, 10), (10, 10), (10, 10), (10, 10)]) (h0 : C0 k = .inr (0, zb_df 0)) : zb_Cn l g yX0_init cX0_init 1 1 12 9 90 [.ref (g.2.2 + k)] (k + 1) C0 (k + 10) (zb_fin C0 (zb_F g) k 10) := by
  refine zb_ofN (own := RX0) (by decide +kernel) rfl rfl (Nat.le_of_ble_eq_true rfl) ?_
  intro p e s m args below meth c ls X hr hnm hs0 hao hP hl
  have hx := X.1.1
  have hb := X.1.2.1
  have ho := X.1.2.2.2.1
  have hts := X.1.2.2.2.2
  have hl : lv_has ls 1 [(0, .ref (g.2.2 + k))] := hl
  have hS : va_S (zb_A g) s.heap s.heap [] := va_S.rf
  obtain ⟨H, hH⟩ : ∃ H, H = s.heap := ⟨_, rfl⟩
  obtain ⟨locs, hlocs⟩ : ∃ z : List Loc, z = [] := ⟨_, rfl⟩
  rw [← hH] at hP
  have hS : va_S (zb_A g) s.heap H locs := by rw [hH, hlocs]; exact hS
  show W p l e _ s m args below meth c s.heap [] 0 0 _ _
  rw [← hH, ← hlocs]
  rw [zb_bstart (F := zb_F g) h0] at hP
  refine lv_aload_n hx hb dX0_init_0 rfl (lv_at hl 0 rfl) ?_
  refine zr_oi X wo_X0_3 wo_i wo_c hl.1 (Nat.le_of_ble_eq_true rfl) (Nat.le_of_ble_eq_true rfl) dX0_init_1 ?_
  refine lv_aload_n hx hb dX0_init_4 rfl (lv_at hl 0 rfl) ?_
  refine lv_iconst (v := (0 : Int32)) hx hb dX0_init_5 (by decide) ?_
  refine zr_bput (k := k) (n := 1) X hP hS (by decide) rfl wi_0 tyX0 tyX0_ok nmX0 0 (by decide) wf_X0_9 (Or.inl rfl) (ty := tyX0 0) (by decide +kernel) rfl rfl (Nat.le_of_ble_eq_true rfl) dX0_init_6 (fun H locs hP hS => ?_)
  refine lv_aload_n hx hb dX0_init_9 rfl (lv_at hl 0 rfl) ?_
  refine lv_iconst (v := (0 : Int32)) hx hb dX0_init_10 (by decide) ?_
  refine zr_bput (k := k) (n := 1) X hP hS (by decide) rfl wi_0 tyX0 tyX0_ok nmX0 1 (by decide) wf_X0_15 (Or.inl rfl) (ty := tyX0 1) (by decide +kernel) rfl rfl (Nat.le_of_ble_eq_true rfl) dX0_init_11 (fun H locs hP hS => ?_)
  refine lv_aload_n hx hb dX0_init_14 rfl (lv_at hl 0 rfl) ?_
  refine lv_bipush (v := (10 : Int32)) hx hb dX0_init_15 (by decide) ?_
  refine zr_sz hP (by omega) (by omega) (fun hsz => ?_)
  refine zr_newa (N := 10) (a0 := (10, .inl (fun _ => 0))) 0 X hP hS hsz wa_int rfl rfl (fun h => h) (fun _ => rfl) (by decide) (by decide) (by decide) (Nat.le_of_ble_eq_true rfl) (Nat.le_of_ble_eq_true rfl) dX0_init_17 (fun H hP hS => ?_)
  rw [zb_bpush (n := 1) (zb_F10 (hk 1 (by decide))) (by decide)] at hP
  simp only [Nat.reduceAdd] at hP
  refine zr_bput (k := k) (n := 2) X hP hS (by decide) rfl wi_0 tyX0 tyX0_ok nmX0 2 (by decide) wf_X0_18 (Or.inr ⟨rfl, hnm, rfl⟩) (ty := tyX0 2) (by decide +kernel) rfl rfl (Nat.le_of_ble_eq_true rfl) dX0_init_19 (fun H locs hP hS => ?_)
  refine lv_aload_n hx hb dX0_init_22 rfl (lv_at hl 0 rfl) ?_
  refine lv_bipush (v := (10 : Int32)) hx hb dX0_init_23 (by decide) ?_
  refine zr_sz hP (by omega) (by omega) (fun hsz => ?_)
  refine zr_newa (N := 10) (a0 := (10, .inl (fun _ => 0))) 0 X hP hS hsz wa_int rfl rfl (fun h => h) (fun _ => rfl) (by decide) (by decide) (by decide) (Nat.le_of_ble_eq_true rfl) (Nat.le_of_ble_eq_true rfl) dX0_init_25 (fun H hP hS => ?_)
  rw [zb_bpush (n := 2) (zb_F10 (hk 2 (by decide))) (by decide)] at hP
  simp only [Nat.reduceAdd] at hP
  refine zr_bput (k := k) (n := 3) X hP hS (by decide) rfl wi_0 tyX0 tyX0_ok nmX0 3 (by decide) wf_X0_22 (Or.inr ⟨rfl, hnm, rfl⟩) (ty := tyX0 3) (by decide +kernel) rfl rfl (Nat.le_of_ble_eq_true rfl) dX0_init_27 (fun H locs hP hS => ?_)
  refine lv_aload_n hx hb dX0_init_30 rfl (lv_at hl 0 rfl) ?_
  refine lv_bipush (v := (10 : Int32)) hx hb dX0_init_31 (by decide) ?_
  refine zr_sz hP (by omega) (by omega) (fun hsz => ?_)
  refine zr_newa (N := 10) (a0 := (10, .inl (fun _ => 0))) 0 X hP hS hsz wa_int rfl rfl (fun h => h) (fun _ => rfl) (by decide) (by decide) (by decide) (Nat.le_of_ble_eq_true rfl) (Nat.le_of_ble_eq_true rfl) dX0_init_33 (fun H hP hS => ?_)
  rw [zb_bpush (n := 3) (zb_F10 (hk 3 (by decide))) (by decide)] at hP
  simp only [Nat.reduceAdd] at hP
  refine zr_bput (k := k) (n := 4) X hP hS (by decide) rfl wi_0 tyX0 tyX0_ok nmX0 4 (by decide) wf_X0_25 (Or.inr ⟨rfl, hnm, rfl⟩) (ty := tyX0 4) (by decide +kernel) rfl rfl (Nat.le_of_ble_eq_true rfl) dX0_init_35 (fun H locs hP hS => ?_)
  refine lv_aload_n hx hb dX0_init_38 rfl (lv_at hl 0 rfl) ?_
  refine lv_bipush (v := (10 : Int32)) hx hb dX0_init_39 (by decide) ?_
  refine zr_sz hP (by omega) (by omega) (fun hsz => ?_)
  refine zr_newa (N := 10) (a0 := (10, .inl (fun _ => 0))) 0 X hP hS hsz wa_int rfl rfl (fun h => h) (fun _ => rfl) (by decide) (by decide) (by decide) (Nat.le_of_ble_eq_true rfl) (Nat.le_of_ble_eq_true rfl) dX0_init_41 (fun H hP hS => ?_)
  rw [zb_bpush (n := 4) (zb_F10 (hk 4 (by decide))) (by decide)] at hP
  simp only [Nat.reduceAdd] at hP
  refine zr_bput (k := k) (n := 5) X hP hS (by decide) rfl wi_0 tyX0 tyX0_ok nmX0 5 (by decide) wf_X0_28 (Or.inr ⟨rfl, hnm, rfl⟩) (ty := tyX0 5) (by decide +kernel) rfl rfl (Nat.le_of_ble_eq_true rfl) dX0_init_43 (fun H locs hP hS => ?_)
  refine lv_aload_n hx hb dX0_init_46 rfl (lv_at hl 0 rfl) ?_
  refine lv_bipush (v := (10 : Int32)) hx hb dX0_init_47 (by decide) ?_
  refine zr_sz hP (by omega) (by omega) (fun hsz => ?_)
  refine zr_newa (N := 10) (a0 := (10, .inl (fun _ => 0))) 0 X hP hS hsz wa_int rfl rfl (fun h => h) (fun _ => rfl) (by decide) (by decide) (by decide) (Nat.le_of_ble_eq_true rfl) (Nat.le_of_ble_eq_true rfl) dX0_init_49 (fun H hP hS => ?_)
  rw [zb_bpush (n := 5) (zb_F10 (hk 5 (by decide))) (by decide)] at hP
  simp only [Nat.reduceAdd] at hP
  refine zr_bput (k := k) (n := 6) X hP hS (by decide) rfl wi_0 tyX0 tyX0_ok nmX0 6 (by decide) wf_X0_31 (Or.inr ⟨rfl, hnm, rfl⟩) (ty := tyX0 6) (by decide +kernel) rfl rfl (Nat.le_of_ble_eq_true rfl) dX0_init_51 (fun H locs hP hS => ?_)
  refine lv_aload_n hx hb dX0_init_54 rfl (lv_at hl 0 rfl) ?_
  refine lv_bipush (v := (10 : Int32)) hx hb dX0_init_55 (by decide) ?_
  refine zr_sz hP (by omega) (by omega) (fun hsz => ?_)
  refine zr_newa (N := 10) (a0 := (10, .inl (fun _ => 0))) 0 X hP hS hsz wa_int rfl rfl (fun h => h) (fun _ => rfl) (by decide) (by decide) (by decide) (Nat.le_of_ble_eq_true rfl) (Nat.le_of_ble_eq_true rfl) dX0_init_57 (fun H hP hS => ?_)
  rw [zb_bpush (n := 6) (zb_F10 (hk 6 (by decide))) (by decide)] at hP
  simp only [Nat.reduceAdd] at hP
  refine zr_bput (k := k) (n := 7) X hP hS (by decide) rfl wi_0 tyX0 tyX0_ok nmX0 7 (by decide) wf_X0_34 (Or.inr ⟨rfl, hnm, rfl⟩) (ty := tyX0 7) (by decide +kernel) rfl rfl (Nat.le_of_ble_eq_true rfl) dX0_init_59 (fun H locs hP hS => ?_)
  refine lv_aload_n hx hb dX0_init_62 rfl (lv_at hl 0 rfl) ?_
  refine lv_bipush (v := (10 : Int32)) hx hb dX0_init_63 (by decide) ?_
  refine zr_sz hP (by omega) (by omega) (fun hsz => ?_)
  refine zr_newa (N := 10) (a0 := (10, .inl (fun _ => 0))) 0 X hP hS hsz wa_int rfl rfl (fun h => h) (fun _ => rfl) (by decide) (by decide) (by decide) (Nat.le_of_ble_eq_true rfl) (Nat.le_of_ble_eq_true rfl) dX0_init_65 (fun H hP hS => ?_)
  rw [zb_bpush (n := 7) (zb_F10 (hk 7 (by decide))) (by decide)] at hP
  simp only [Nat.reduceAdd] at hP
  refine zr_bput (k := k) (n := 8) X hP hS (by decide) rfl wi_0 tyX0 tyX0_ok nmX0 8 (by decide) wf_X0_37 (Or.inr ⟨rfl, hnm, rfl⟩) (ty := tyX0 8) (by decide +kernel) rfl rfl (Nat.le_of_ble_eq_true rfl) dX0_init_67 (fun H locs hP hS => ?_)
  refine lv_aload_n hx hb dX0_init_70 rfl (lv_at hl 0 rfl) ?_
  refine lv_bipush (v := (10 : Int32)) hx hb dX0_init_71 (by decide) ?_
  refine zr_sz hP (by omega) (by omega) (fun hsz => ?_)
  refine zr_newa (N := 10) (a0 := (10, .inl (fun _ => 0))) 0 X hP hS hsz wa_int rfl rfl (fun h => h) (fun _ => rfl) (by decide) (by decide) (by decide) (Nat.le_of_ble_eq_true rfl) (Nat.le_of_ble_eq_true rfl) dX0_init_73 (fun H hP hS => ?_)
  rw [zb_bpush (n := 8) (zb_F10 (hk 8 (by decide))) (by decide)] at hP
  simp only [Nat.reduceAdd] at hP
  refine zr_bput (k := k) (n := 9) X hP hS (by decide) rfl wi_0 tyX0 tyX0_ok nmX0 9 (by decide) wf_X0_40 (Or.inr ⟨rfl, hnm, rfl⟩) (ty := tyX0 9) (by decide +kernel) rfl rfl (Nat.le_of_ble_eq_true rfl) dX0_init_75 (fun H locs hP hS => ?_)
  refine lv_aload_n hx hb dX0_init_78 rfl (lv_at hl 0 rfl) ?_
  refine lv_bipush (v := (10 : Int32)) hx hb dX0_init_79 (by decide) ?_
  refine zr_sz hP (by omega) (by omega) (fun hsz => ?_)
  refine zr_newa (N := 10) (a0 := (10, .inl (fun _ => 0))) 0 X hP hS hsz wa_int rfl rfl (fun h => h) (fun _ => rfl) (by decide) (by decide) (by decide) (Nat.le_of_ble_eq_true rfl) (Nat.le_of_ble_eq_true rfl) dX0_init_81 (fun H hP hS => ?_)
  rw [zb_bpush (n := 9) (zb_F10 (hk 9 (by decide))) (by decide)] at hP
  simp only [Nat.reduceAdd] at hP
  refine zr_bput (k := k) (n := 10) X hP hS (by decide) rfl wi_0 tyX0 tyX0_ok nmX0 10 (by decide) wf_X0_43 (Or.inr ⟨rfl, hnm, rfl⟩) (ty := tyX0 10) (by decide +kernel) rfl rfl (Nat.le_of_ble_eq_true rfl) dX0_init_83 (fun H locs hP hS => ?_)
  rw [zb_bend (by decide) ((zb_Fo0 (q := k) (hk 0 (by decide))).trans (by rfl))] at hP
  exact zr_vret X hr hP hS rfl dX0_init_86
set_option maxHeartbeats 4000000 in
set_option maxRecDepth 100000 in
theorem ci_X1 {g : zb_G} {C0 : Nat → va_E} {k : Nat} (l : Launch) (hk : zb_at k [(1, 9), (10, 24), (10, 24), (10, 24), (10, 24), (10, 24), (10, 24), (10, 24), (10, 24), (10, 240)]) (h0 : C0 k = .inr (1, zb_df 1)) : zb_Cn l g yX1_init cX1_init 1 1 12 9 432 [.ref (g.2.2 + k)] (k + 1) C0 (k + 10) (zb_fin C0 (zb_F g) k 10) := by
  refine zb_ofN (own := RX1) (by decide +kernel) rfl rfl (Nat.le_of_ble_eq_true rfl) ?_
  intro p e s m args below meth c ls X hr hnm hs0 hao hP hl
  have hx := X.1.1
  have hb := X.1.2.1
  have ho := X.1.2.2.2.1
  have hts := X.1.2.2.2.2
  have hl : lv_has ls 1 [(0, .ref (g.2.2 + k))] := hl
  have hS : va_S (zb_A g) s.heap s.heap [] := va_S.rf
  obtain ⟨H, hH⟩ : ∃ H, H = s.heap := ⟨_, rfl⟩
  obtain ⟨locs, hlocs⟩ : ∃ z : List Loc, z = [] := ⟨_, rfl⟩
  rw [← hH] at hP
  have hS : va_S (zb_A g) s.heap H locs := by rw [hH, hlocs]; exact hS
  show W p l e _ s m args below meth c s.heap [] 0 0 _ _
  rw [← hH, ← hlocs]
  rw [zb_bstart (F := zb_F g) h0] at hP
  refine lv_aload_n hx hb dX1_init_0 rfl (lv_at hl 0 rfl) ?_
  refine zr_oi X wo_X1_3 wo_i wo_c hl.1 (Nat.le_of_ble_eq_true rfl) (Nat.le_of_ble_eq_true rfl) dX1_init_1 ?_
  refine lv_aload_n hx hb dX1_init_4 rfl (lv_at hl 0 rfl) ?_
  refine lv_bipush (v := (24 : Int32)) hx hb dX1_init_5 (by decide) ?_
  refine zr_sz hP (by omega) (by omega) (fun hsz => ?_)
  refine zr_newa (N := 24) (a0 := (24, .inl (fun _ => 0))) 0 X hP hS hsz wa_int rfl rfl (fun h => h) (fun _ => rfl) (by decide) (by decide) (by decide) (Nat.le_of_ble_eq_true rfl) (Nat.le_of_ble_eq_true rfl) dX1_init_7 (fun H hP hS => ?_)
  rw [zb_bpush (n := 1) (zb_F10 (hk 1 (by decide))) (by decide)] at hP
  simp only [Nat.reduceAdd] at hP
  refine zr_bput (k := k) (n := 2) X hP hS (by decide) rfl wi_1 tyX1 tyX1_ok nmX1 0 (by decide) wf_X1_9 (Or.inr ⟨rfl, hnm, rfl⟩) (ty := tyX1 0) (by decide +kernel) rfl rfl (Nat.le_of_ble_eq_true rfl) dX1_init_9 (fun H locs hP hS => ?_)
  refine lv_aload_n hx hb dX1_init_12 rfl (lv_at hl 0 rfl) ?_
  refine lv_bipush (v := (24 : Int32)) hx hb dX1_init_13 (by decide) ?_
  refine zr_sz hP (by omega) (by omega) (fun hsz => ?_)
  refine zr_newa (N := 24) (a0 := (24, .inl (fun _ => 0))) 0 X hP hS hsz wa_int rfl rfl (fun h => h) (fun _ => rfl) (by decide) (by decide) (by decide) (Nat.le_of_ble_eq_true rfl) (Nat.le_of_ble_eq_true rfl) dX1_init_15 (fun H hP hS => ?_)
  rw [zb_bpush (n := 2) (zb_F10 (hk 2 (by decide))) (by decide)] at hP
  simp only [Nat.reduceAdd] at hP
  refine zr_bput (k := k) (n := 3) X hP hS (by decide) rfl wi_1 tyX1 tyX1_ok nmX1 1 (by decide) wf_X1_15 (Or.inr ⟨rfl, hnm, rfl⟩) (ty := tyX1 1) (by decide +kernel) rfl rfl (Nat.le_of_ble_eq_true rfl) dX1_init_17 (fun H locs hP hS => ?_)
  refine lv_aload_n hx hb dX1_init_20 rfl (lv_at hl 0 rfl) ?_
  refine lv_bipush (v := (24 : Int32)) hx hb dX1_init_21 (by decide) ?_
  refine zr_sz hP (by omega) (by omega) (fun hsz => ?_)
  refine zr_newa (N := 24) (a0 := (24, .inl (fun _ => 0))) 0 X hP hS hsz wa_int rfl rfl (fun h => h) (fun _ => rfl) (by decide) (by decide) (by decide) (Nat.le_of_ble_eq_true rfl) (Nat.le_of_ble_eq_true rfl) dX1_init_23 (fun H hP hS => ?_)
  rw [zb_bpush (n := 3) (zb_F10 (hk 3 (by decide))) (by decide)] at hP
  simp only [Nat.reduceAdd] at hP
  refine zr_bput (k := k) (n := 4) X hP hS (by decide) rfl wi_1 tyX1 tyX1_ok nmX1 2 (by decide) wf_X1_18 (Or.inr ⟨rfl, hnm, rfl⟩) (ty := tyX1 2) (by decide +kernel) rfl rfl (Nat.le_of_ble_eq_true rfl) dX1_init_25 (fun H locs hP hS => ?_)
  refine lv_aload_n hx hb dX1_init_28 rfl (lv_at hl 0 rfl) ?_
  refine lv_bipush (v := (24 : Int32)) hx hb dX1_init_29 (by decide) ?_
  refine zr_sz hP (by omega) (by omega) (fun hsz => ?_)
  refine zr_newa (N := 24) (a0 := (24, .inl (fun _ => 0))) 0 X hP hS hsz wa_int rfl rfl (fun h => h) (fun _ => rfl) (by decide) (by decide) (by decide) (Nat.le_of_ble_eq_true rfl) (Nat.le_of_ble_eq_true rfl) dX1_init_31 (fun H hP hS => ?_)
  rw [zb_bpush (n := 4) (zb_F10 (hk 4 (by decide))) (by decide)] at hP
  simp only [Nat.reduceAdd] at hP
  refine zr_bput (k := k) (n := 5) X hP hS (by decide) rfl wi_1 tyX1 tyX1_ok nmX1 3 (by decide) wf_X1_21 (Or.inr ⟨rfl, hnm, rfl⟩) (ty := tyX1 3) (by decide +kernel) rfl rfl (Nat.le_of_ble_eq_true rfl) dX1_init_33 (fun H locs hP hS => ?_)
  refine lv_aload_n hx hb dX1_init_36 rfl (lv_at hl 0 rfl) ?_
  refine lv_bipush (v := (24 : Int32)) hx hb dX1_init_37 (by decide) ?_
  refine zr_sz hP (by omega) (by omega) (fun hsz => ?_)
  refine zr_newa (N := 24) (a0 := (24, .inl (fun _ => 0))) 0 X hP hS hsz wa_int rfl rfl (fun h => h) (fun _ => rfl) (by decide) (by decide) (by decide) (Nat.le_of_ble_eq_true rfl) (Nat.le_of_ble_eq_true rfl) dX1_init_39 (fun H hP hS => ?_)
  rw [zb_bpush (n := 5) (zb_F10 (hk 5 (by decide))) (by decide)] at hP
  simp only [Nat.reduceAdd] at hP
  refine zr_bput (k := k) (n := 6) X hP hS (by decide) rfl wi_1 tyX1 tyX1_ok nmX1 4 (by decide) wf_X1_24 (Or.inr ⟨rfl, hnm, rfl⟩) (ty := tyX1 4) (by decide +kernel) rfl rfl (Nat.le_of_ble_eq_true rfl) dX1_init_41 (fun H locs hP hS => ?_)
  refine lv_aload_n hx hb dX1_init_44 rfl (lv_at hl 0 rfl) ?_
  refine lv_bipush (v := (24 : Int32)) hx hb dX1_init_45 (by decide) ?_
  refine zr_sz hP (by omega) (by omega) (fun hsz => ?_)
  refine zr_newa (N := 24) (a0 := (24, .inl (fun _ => 0))) 0 X hP hS hsz wa_int rfl rfl (fun h => h) (fun _ => rfl) (by decide) (by decide) (by decide) (Nat.le_of_ble_eq_true rfl) (Nat.le_of_ble_eq_true rfl) dX1_init_47 (fun H hP hS => ?_)
  rw [zb_bpush (n := 6) (zb_F10 (hk 6 (by decide))) (by decide)] at hP
  simp only [Nat.reduceAdd] at hP
  refine zr_bput (k := k) (n := 7) X hP hS (by decide) rfl wi_1 tyX1 tyX1_ok nmX1 5 (by decide) wf_X1_27 (Or.inr ⟨rfl, hnm, rfl⟩) (ty := tyX1 5) (by decide +kernel) rfl rfl (Nat.le_of_ble_eq_true rfl) dX1_init_49 (fun H locs hP hS => ?_)
  refine lv_aload_n hx hb dX1_init_52 rfl (lv_at hl 0 rfl) ?_
  refine lv_bipush (v := (24 : Int32)) hx hb dX1_init_53 (by decide) ?_
  refine zr_sz hP (by omega) (by omega) (fun hsz => ?_)
  refine zr_newa (N := 24) (a0 := (24, .inl (fun _ => 0))) 0 X hP hS hsz wa_int rfl rfl (fun h => h) (fun _ => rfl) (by decide) (by decide) (by decide) (Nat.le_of_ble_eq_true rfl) (Nat.le_of_ble_eq_true rfl) dX1_init_55 (fun H hP hS => ?_)
  rw [zb_bpush (n := 7) (zb_F10 (hk 7 (by decide))) (by decide)] at hP
  simp only [Nat.reduceAdd] at hP
  refine zr_bput (k := k) (n := 8) X hP hS (by decide) rfl wi_1 tyX1 tyX1_ok nmX1 6 (by decide) wf_X1_30 (Or.inr ⟨rfl, hnm, rfl⟩) (ty := tyX1 6) (by decide +kernel) rfl rfl (Nat.le_of_ble_eq_true rfl) dX1_init_57 (fun H locs hP hS => ?_)
  refine lv_aload_n hx hb dX1_init_60 rfl (lv_at hl 0 rfl) ?_
  refine lv_bipush (v := (24 : Int32)) hx hb dX1_init_61 (by decide) ?_
  refine zr_sz hP (by omega) (by omega) (fun hsz => ?_)
  refine zr_newa (N := 24) (a0 := (24, .inl (fun _ => 0))) 0 X hP hS hsz wa_int rfl rfl (fun h => h) (fun _ => rfl) (by decide) (by decide) (by decide) (Nat.le_of_ble_eq_true rfl) (Nat.le_of_ble_eq_true rfl) dX1_init_63 (fun H hP hS => ?_)
  rw [zb_bpush (n := 8) (zb_F10 (hk 8 (by decide))) (by decide)] at hP
  simp only [Nat.reduceAdd] at hP
  refine zr_bput (k := k) (n := 9) X hP hS (by decide) rfl wi_1 tyX1 tyX1_ok nmX1 7 (by decide) wf_X1_33 (Or.inr ⟨rfl, hnm, rfl⟩) (ty := tyX1 7) (by decide +kernel) rfl rfl (Nat.le_of_ble_eq_true rfl) dX1_init_65 (fun H locs hP hS => ?_)
  refine lv_aload_n hx hb dX1_init_68 rfl (lv_at hl 0 rfl) ?_
  refine lv_sipush (v := (240 : Int32)) hx hb dX1_init_69 (by decide) ?_
  refine zr_sz hP (by omega) (by omega) (fun hsz => ?_)
  refine zr_newa (N := 240) (a0 := (240, .inl (fun _ => 0))) 0 X hP hS hsz wa_int rfl rfl (fun h => h) (fun _ => rfl) (by decide) (by decide) (by decide) (Nat.le_of_ble_eq_true rfl) (Nat.le_of_ble_eq_true rfl) dX1_init_72 (fun H hP hS => ?_)
  rw [zb_bpush (n := 9) (zb_F10 (hk 9 (by decide))) (by decide)] at hP
  simp only [Nat.reduceAdd] at hP
  refine zr_bput (k := k) (n := 10) X hP hS (by decide) rfl wi_1 tyX1 tyX1_ok nmX1 8 (by decide) wf_X1_36 (Or.inr ⟨rfl, hnm, rfl⟩) (ty := tyX1 8) (by decide +kernel) rfl rfl (Nat.le_of_ble_eq_true rfl) dX1_init_74 (fun H locs hP hS => ?_)
  rw [zb_bend (by decide) ((zb_Fo1 (q := k) (hk 0 (by decide))).trans (by rfl))] at hP
  exact zr_vret X hr hP hS rfl dX1_init_77
set_option maxHeartbeats 4000000 in
set_option maxRecDepth 100000 in
theorem ci_X3 {g : zb_G} {C0 : Nat → va_E} {k : Nat} (l : Launch) (hk : zb_at k [(3, 3), (10, 10), (10, 10)]) (h0 : C0 k = .inr (3, zb_df 3)) : zb_Cn l g yX3_init cX3_init 1 1 12 2 20 [.ref (g.2.2 + k)] (k + 1) C0 (k + 3) (zb_fin C0 (zb_F g) k 3) := by
  refine zb_ofN (own := RX3) (by decide +kernel) rfl rfl (Nat.le_of_ble_eq_true rfl) ?_
  intro p e s m args below meth c ls X hr hnm hs0 hao hP hl
  have hx := X.1.1
  have hb := X.1.2.1
  have ho := X.1.2.2.2.1
  have hts := X.1.2.2.2.2
  have hl : lv_has ls 1 [(0, .ref (g.2.2 + k))] := hl
  have hS : va_S (zb_A g) s.heap s.heap [] := va_S.rf
  obtain ⟨H, hH⟩ : ∃ H, H = s.heap := ⟨_, rfl⟩
  obtain ⟨locs, hlocs⟩ : ∃ z : List Loc, z = [] := ⟨_, rfl⟩
  rw [← hH] at hP
  have hS : va_S (zb_A g) s.heap H locs := by rw [hH, hlocs]; exact hS
  show W p l e _ s m args below meth c s.heap [] 0 0 _ _
  rw [← hH, ← hlocs]
  rw [zb_bstart (F := zb_F g) h0] at hP
  refine lv_aload_n hx hb dX3_init_0 rfl (lv_at hl 0 rfl) ?_
  refine zr_oi X wo_X3_3 wo_i wo_c hl.1 (Nat.le_of_ble_eq_true rfl) (Nat.le_of_ble_eq_true rfl) dX3_init_1 ?_
  refine lv_aload_n hx hb dX3_init_4 rfl (lv_at hl 0 rfl) ?_
  refine lv_iconst (v := (0 : Int32)) hx hb dX3_init_5 (by decide) ?_
  refine zr_bput (k := k) (n := 1) X hP hS (by decide) rfl wi_3 tyX3 tyX3_ok nmX3 0 (by decide) wf_X3_9 (Or.inl rfl) (ty := tyX3 0) (by decide +kernel) rfl rfl (Nat.le_of_ble_eq_true rfl) dX3_init_6 (fun H locs hP hS => ?_)
  refine lv_aload_n hx hb dX3_init_9 rfl (lv_at hl 0 rfl) ?_
  refine lv_bipush (v := (10 : Int32)) hx hb dX3_init_10 (by decide) ?_
  refine zr_sz hP (by omega) (by omega) (fun hsz => ?_)
  refine zr_newa (N := 10) (a0 := (10, .inl (fun _ => 0))) 0 X hP hS hsz wa_int rfl rfl (fun h => h) (fun _ => rfl) (by decide) (by decide) (by decide) (Nat.le_of_ble_eq_true rfl) (Nat.le_of_ble_eq_true rfl) dX3_init_12 (fun H hP hS => ?_)
  rw [zb_bpush (n := 1) (zb_F10 (hk 1 (by decide))) (by decide)] at hP
  simp only [Nat.reduceAdd] at hP
  refine zr_bput (k := k) (n := 2) X hP hS (by decide) rfl wi_3 tyX3 tyX3_ok nmX3 1 (by decide) wf_X3_15 (Or.inr ⟨rfl, hnm, rfl⟩) (ty := tyX3 1) (by decide +kernel) rfl rfl (Nat.le_of_ble_eq_true rfl) dX3_init_14 (fun H locs hP hS => ?_)
  refine lv_aload_n hx hb dX3_init_17 rfl (lv_at hl 0 rfl) ?_
  refine lv_bipush (v := (10 : Int32)) hx hb dX3_init_18 (by decide) ?_
  refine zr_sz hP (by omega) (by omega) (fun hsz => ?_)
  refine zr_newa (N := 10) (a0 := (10, .inl (fun _ => 0))) 0 X hP hS hsz wa_int rfl rfl (fun h => h) (fun _ => rfl) (by decide) (by decide) (by decide) (Nat.le_of_ble_eq_true rfl) (Nat.le_of_ble_eq_true rfl) dX3_init_20 (fun H hP hS => ?_)
  rw [zb_bpush (n := 2) (zb_F10 (hk 2 (by decide))) (by decide)] at hP
  simp only [Nat.reduceAdd] at hP
  refine zr_bput (k := k) (n := 3) X hP hS (by decide) rfl wi_3 tyX3 tyX3_ok nmX3 2 (by decide) wf_X3_19 (Or.inr ⟨rfl, hnm, rfl⟩) (ty := tyX3 2) (by decide +kernel) rfl rfl (Nat.le_of_ble_eq_true rfl) dX3_init_22 (fun H locs hP hS => ?_)
  rw [zb_bend (by decide) ((zb_Fo3 (q := k) (hk 0 (by decide))).trans (by rfl))] at hP
  exact zr_vret X hr hP hS rfl dX3_init_25
set_option maxHeartbeats 4000000 in
set_option maxRecDepth 100000 in
theorem ci_X6 {g : zb_G} {C0 : Nat → va_E} {k : Nat} (l : Launch) (hk : zb_at k [(6, 6), (10, 10), (10, 10)]) (h0 : C0 k = .inr (6, zb_df 6)) : zb_Cn l g yX6_init cX6_init 1 1 12 2 20 [.ref (g.2.2 + k)] (k + 1) C0 (k + 3) (zb_fin C0 (zb_F g) k 3) := by
  refine zb_ofN (own := RX6) (by decide +kernel) rfl rfl (Nat.le_of_ble_eq_true rfl) ?_
  intro p e s m args below meth c ls X hr hnm hs0 hao hP hl
  have hx := X.1.1
  have hb := X.1.2.1
  have ho := X.1.2.2.2.1
  have hts := X.1.2.2.2.2
  have hl : lv_has ls 1 [(0, .ref (g.2.2 + k))] := hl
  have hS : va_S (zb_A g) s.heap s.heap [] := va_S.rf
  obtain ⟨H, hH⟩ : ∃ H, H = s.heap := ⟨_, rfl⟩
  obtain ⟨locs, hlocs⟩ : ∃ z : List Loc, z = [] := ⟨_, rfl⟩
  rw [← hH] at hP
  have hS : va_S (zb_A g) s.heap H locs := by rw [hH, hlocs]; exact hS
  show W p l e _ s m args below meth c s.heap [] 0 0 _ _
  rw [← hH, ← hlocs]
  rw [zb_bstart (F := zb_F g) h0] at hP
  refine lv_aload_n hx hb dX6_init_0 rfl (lv_at hl 0 rfl) ?_
  refine zr_oi X wo_X6_3 wo_i wo_c hl.1 (Nat.le_of_ble_eq_true rfl) (Nat.le_of_ble_eq_true rfl) dX6_init_1 ?_
  refine lv_aload_n hx hb dX6_init_4 rfl (lv_at hl 0 rfl) ?_
  refine lv_iconst (v := (0 : Int32)) hx hb dX6_init_5 (by decide) ?_
  refine zr_bput (k := k) (n := 1) X hP hS (by decide) rfl wi_6 tyX6 tyX6_ok nmX6 0 (by decide) wf_X6_9 (Or.inl rfl) (ty := tyX6 0) (by decide +kernel) rfl rfl (Nat.le_of_ble_eq_true rfl) dX6_init_6 (fun H locs hP hS => ?_)
  refine lv_aload_n hx hb dX6_init_9 rfl (lv_at hl 0 rfl) ?_
  refine lv_iconst (v := (0 : Int32)) hx hb dX6_init_10 (by decide) ?_
  refine zr_bput (k := k) (n := 1) X hP hS (by decide) rfl wi_6 tyX6 tyX6_ok nmX6 1 (by decide) wf_X6_15 (Or.inl rfl) (ty := tyX6 1) (by decide +kernel) rfl rfl (Nat.le_of_ble_eq_true rfl) dX6_init_11 (fun H locs hP hS => ?_)
  refine lv_aload_n hx hb dX6_init_14 rfl (lv_at hl 0 rfl) ?_
  refine lv_iconst (v := (0 : Int32)) hx hb dX6_init_15 (by decide) ?_
  refine zr_bput (k := k) (n := 1) X hP hS (by decide) rfl wi_6 tyX6 tyX6_ok nmX6 2 (by decide) wf_X6_19 (Or.inl rfl) (ty := tyX6 2) (by decide +kernel) rfl rfl (Nat.le_of_ble_eq_true rfl) dX6_init_16 (fun H locs hP hS => ?_)
  refine lv_aload_n hx hb dX6_init_19 rfl (lv_at hl 0 rfl) ?_
  refine lv_bipush (v := (10 : Int32)) hx hb dX6_init_20 (by decide) ?_
  refine zr_sz hP (by omega) (by omega) (fun hsz => ?_)
  refine zr_newa (N := 10) (a0 := (10, .inl (fun _ => 0))) 0 X hP hS hsz wa_int rfl rfl (fun h => h) (fun _ => rfl) (by decide) (by decide) (by decide) (Nat.le_of_ble_eq_true rfl) (Nat.le_of_ble_eq_true rfl) dX6_init_22 (fun H hP hS => ?_)
  rw [zb_bpush (n := 1) (zb_F10 (hk 1 (by decide))) (by decide)] at hP
  simp only [Nat.reduceAdd] at hP
  refine zr_bput (k := k) (n := 2) X hP hS (by decide) rfl wi_6 tyX6 tyX6_ok nmX6 3 (by decide) wf_X6_22 (Or.inr ⟨rfl, hnm, rfl⟩) (ty := tyX6 3) (by decide +kernel) rfl rfl (Nat.le_of_ble_eq_true rfl) dX6_init_24 (fun H locs hP hS => ?_)
  refine lv_aload_n hx hb dX6_init_27 rfl (lv_at hl 0 rfl) ?_
  refine lv_bipush (v := (10 : Int32)) hx hb dX6_init_28 (by decide) ?_
  refine zr_sz hP (by omega) (by omega) (fun hsz => ?_)
  refine zr_newa (N := 10) (a0 := (10, .inl (fun _ => 0))) 0 X hP hS hsz wa_int rfl rfl (fun h => h) (fun _ => rfl) (by decide) (by decide) (by decide) (Nat.le_of_ble_eq_true rfl) (Nat.le_of_ble_eq_true rfl) dX6_init_30 (fun H hP hS => ?_)
  rw [zb_bpush (n := 2) (zb_F10 (hk 2 (by decide))) (by decide)] at hP
  simp only [Nat.reduceAdd] at hP
  refine zr_bput (k := k) (n := 3) X hP hS (by decide) rfl wi_6 tyX6 tyX6_ok nmX6 4 (by decide) wf_X6_26 (Or.inr ⟨rfl, hnm, rfl⟩) (ty := tyX6 4) (by decide +kernel) rfl rfl (Nat.le_of_ble_eq_true rfl) dX6_init_32 (fun H locs hP hS => ?_)
  refine lv_aload_n hx hb dX6_init_35 rfl (lv_at hl 0 rfl) ?_
  refine lv_iconst (v := (0 : Int32)) hx hb dX6_init_36 (by decide) ?_
  refine zr_bput (k := k) (n := 3) X hP hS (by decide) rfl wi_6 tyX6 tyX6_ok nmX6 5 (by decide) wf_X6_29 (Or.inl rfl) (ty := tyX6 5) (by decide +kernel) rfl rfl (Nat.le_of_ble_eq_true rfl) dX6_init_37 (fun H locs hP hS => ?_)
  rw [zb_bend (by decide) ((zb_Fo6 (q := k) (hk 0 (by decide))).trans (by rfl))] at hP
  exact zr_vret X hr hP hS rfl dX6_init_40
set_option maxHeartbeats 4000000 in
set_option maxRecDepth 100000 in
theorem ci_X2 {g : zb_G} {C0 : Nat → va_E} {k : Nat} (l : Launch) (hk : zb_at k [(2, 8), (10, 500), (10, 501), (10, 501), (10, 501)]) (h0 : C0 k = .inr (2, zb_df 2)) : zb_Cn l g yX2_init cX2_init 1 1 12 4 2003 [.ref (g.2.2 + k)] (k + 1) C0 (k + 5) (zb_fin C0 (zb_F g) k 5) := by
  refine zb_ofN (own := RX2) (by decide +kernel) rfl rfl (Nat.le_of_ble_eq_true rfl) ?_
  intro p e s m args below meth c ls X hr hnm hs0 hao hP hl
  have hx := X.1.1
  have hb := X.1.2.1
  have ho := X.1.2.2.2.1
  have hts := X.1.2.2.2.2
  have hl : lv_has ls 1 [(0, .ref (g.2.2 + k))] := hl
  have hS : va_S (zb_A g) s.heap s.heap [] := va_S.rf
  obtain ⟨H, hH⟩ : ∃ H, H = s.heap := ⟨_, rfl⟩
  obtain ⟨locs, hlocs⟩ : ∃ z : List Loc, z = [] := ⟨_, rfl⟩
  rw [← hH] at hP
  have hS : va_S (zb_A g) s.heap H locs := by rw [hH, hlocs]; exact hS
  show W p l e _ s m args below meth c s.heap [] 0 0 _ _
  rw [← hH, ← hlocs]
  rw [zb_bstart (F := zb_F g) h0] at hP
  refine lv_aload_n hx hb dX2_init_0 rfl (lv_at hl 0 rfl) ?_
  refine zr_oi X wo_X2_3 wo_i wo_c hl.1 (Nat.le_of_ble_eq_true rfl) (Nat.le_of_ble_eq_true rfl) dX2_init_1 ?_
  refine lv_aload_n hx hb dX2_init_4 rfl (lv_at hl 0 rfl) ?_
  refine lv_sipush (v := (500 : Int32)) hx hb dX2_init_5 (by decide) ?_
  refine zr_sz hP (by omega) (by omega) (fun hsz => ?_)
  refine zr_newa (N := 500) (a0 := (500, .inl (fun _ => 0))) 0 X hP hS hsz wa_int rfl rfl (fun h => h) (fun _ => rfl) (by decide) (by decide) (by decide) (Nat.le_of_ble_eq_true rfl) (Nat.le_of_ble_eq_true rfl) dX2_init_8 (fun H hP hS => ?_)
  rw [zb_bpush (n := 1) (zb_F10 (hk 1 (by decide))) (by decide)] at hP
  simp only [Nat.reduceAdd] at hP
  refine zr_bput (k := k) (n := 2) X hP hS (by decide) rfl wi_2 tyX2 tyX2_ok nmX2 0 (by decide) wf_X2_9 (Or.inr ⟨rfl, hnm, rfl⟩) (ty := tyX2 0) (by decide +kernel) rfl rfl (Nat.le_of_ble_eq_true rfl) dX2_init_10 (fun H locs hP hS => ?_)
  refine lv_aload_n hx hb dX2_init_13 rfl (lv_at hl 0 rfl) ?_
  refine lv_iconst (v := (0 : Int32)) hx hb dX2_init_14 (by decide) ?_
  refine zr_bput (k := k) (n := 2) X hP hS (by decide) rfl wi_2 tyX2 tyX2_ok nmX2 1 (by decide) wf_X2_15 (Or.inl rfl) (ty := tyX2 1) (by decide +kernel) rfl rfl (Nat.le_of_ble_eq_true rfl) dX2_init_15 (fun H locs hP hS => ?_)
  refine lv_aload_n hx hb dX2_init_18 rfl (lv_at hl 0 rfl) ?_
  refine lv_sipush (v := (501 : Int32)) hx hb dX2_init_19 (by decide) ?_
  refine zr_sz hP (by omega) (by omega) (fun hsz => ?_)
  refine zr_newa (N := 501) (a0 := (501, .inl (fun _ => 0))) 0 X hP hS hsz wa_int rfl rfl (fun h => h) (fun _ => rfl) (by decide) (by decide) (by decide) (Nat.le_of_ble_eq_true rfl) (Nat.le_of_ble_eq_true rfl) dX2_init_22 (fun H hP hS => ?_)
  rw [zb_bpush (n := 2) (zb_F10 (hk 2 (by decide))) (by decide)] at hP
  simp only [Nat.reduceAdd] at hP
  refine zr_bput (k := k) (n := 3) X hP hS (by decide) rfl wi_2 tyX2 tyX2_ok nmX2 2 (by decide) wf_X2_19 (Or.inr ⟨rfl, hnm, rfl⟩) (ty := tyX2 2) (by decide +kernel) rfl rfl (Nat.le_of_ble_eq_true rfl) dX2_init_24 (fun H locs hP hS => ?_)
  refine lv_aload_n hx hb dX2_init_27 rfl (lv_at hl 0 rfl) ?_
  refine lv_sipush (v := (501 : Int32)) hx hb dX2_init_28 (by decide) ?_
  refine zr_sz hP (by omega) (by omega) (fun hsz => ?_)
  refine zr_newa (N := 501) (a0 := (501, .inl (fun _ => 0))) 0 X hP hS hsz wa_int rfl rfl (fun h => h) (fun _ => rfl) (by decide) (by decide) (by decide) (Nat.le_of_ble_eq_true rfl) (Nat.le_of_ble_eq_true rfl) dX2_init_31 (fun H hP hS => ?_)
  rw [zb_bpush (n := 3) (zb_F10 (hk 3 (by decide))) (by decide)] at hP
  simp only [Nat.reduceAdd] at hP
  refine zr_bput (k := k) (n := 4) X hP hS (by decide) rfl wi_2 tyX2 tyX2_ok nmX2 3 (by decide) wf_X2_22 (Or.inr ⟨rfl, hnm, rfl⟩) (ty := tyX2 3) (by decide +kernel) rfl rfl (Nat.le_of_ble_eq_true rfl) dX2_init_33 (fun H locs hP hS => ?_)
  refine lv_aload_n hx hb dX2_init_36 rfl (lv_at hl 0 rfl) ?_
  refine lv_sipush (v := (501 : Int32)) hx hb dX2_init_37 (by decide) ?_
  refine zr_sz hP (by omega) (by omega) (fun hsz => ?_)
  refine zr_newa (N := 501) (a0 := (501, .inl (fun _ => 0))) 0 X hP hS hsz wa_int rfl rfl (fun h => h) (fun _ => rfl) (by decide) (by decide) (by decide) (Nat.le_of_ble_eq_true rfl) (Nat.le_of_ble_eq_true rfl) dX2_init_40 (fun H hP hS => ?_)
  rw [zb_bpush (n := 4) (zb_F10 (hk 4 (by decide))) (by decide)] at hP
  simp only [Nat.reduceAdd] at hP
  refine zr_bput (k := k) (n := 5) X hP hS (by decide) rfl wi_2 tyX2 tyX2_ok nmX2 4 (by decide) wf_X2_25 (Or.inr ⟨rfl, hnm, rfl⟩) (ty := tyX2 4) (by decide +kernel) rfl rfl (Nat.le_of_ble_eq_true rfl) dX2_init_42 (fun H locs hP hS => ?_)
  refine lv_aload_n hx hb dX2_init_45 rfl (lv_at hl 0 rfl) ?_
  refine lv_iconst (v := (0 : Int32)) hx hb dX2_init_46 (by decide) ?_
  refine zr_bput (k := k) (n := 5) X hP hS (by decide) rfl wi_2 tyX2 tyX2_ok nmX2 5 (by decide) wf_X2_28 (Or.inl rfl) (ty := tyX2 5) (by decide +kernel) rfl rfl (Nat.le_of_ble_eq_true rfl) dX2_init_47 (fun H locs hP hS => ?_)
  refine lv_aload_n hx hb dX2_init_50 rfl (lv_at hl 0 rfl) ?_
  refine lv_iconst (v := (0 : Int32)) hx hb dX2_init_51 (by decide) ?_
  refine zr_bput (k := k) (n := 5) X hP hS (by decide) rfl wi_2 tyX2 tyX2_ok nmX2 6 (by decide) wf_X2_31 (Or.inl rfl) (ty := tyX2 6) (by decide +kernel) rfl rfl (Nat.le_of_ble_eq_true rfl) dX2_init_52 (fun H locs hP hS => ?_)
  refine lv_aload_n hx hb dX2_init_55 rfl (lv_at hl 0 rfl) ?_
  refine lv_iconst (v := (-1 : Int32)) hx hb dX2_init_56 (by decide) ?_
  refine zr_bput (k := k) (n := 5) X hP hS (by decide) rfl wi_2 tyX2 tyX2_ok nmX2 7 (by decide) wf_X2_34 (Or.inl rfl) (ty := tyX2 7) (by decide +kernel) rfl rfl (Nat.le_of_ble_eq_true rfl) dX2_init_57 (fun H locs hP hS => ?_)
  rw [zb_bend (by decide) ((zb_Fo2 (q := k) (hk 0 (by decide))).trans (by rfl))] at hP
  exact zr_vret X hr hP hS rfl dX2_init_60
set_option maxHeartbeats 4000000 in
set_option maxRecDepth 100000 in
theorem ci_X4 {g : zb_G} {C0 : Nat → va_E} {k : Nat} (l : Launch) (hk : zb_at k [(4, 4), (10, 40), (10, 41), (10, 500)]) (h0 : C0 k = .inr (4, zb_df 4)) : zb_Cn l g yX4_init cX4_init 1 1 12 3 581 [.ref (g.2.2 + k)] (k + 1) C0 (k + 4) (zb_fin C0 (zb_F g) k 4) := by
  refine zb_ofN (own := RX4) (by decide +kernel) rfl rfl (Nat.le_of_ble_eq_true rfl) ?_
  intro p e s m args below meth c ls X hr hnm hs0 hao hP hl
  have hx := X.1.1
  have hb := X.1.2.1
  have ho := X.1.2.2.2.1
  have hts := X.1.2.2.2.2
  have hl : lv_has ls 1 [(0, .ref (g.2.2 + k))] := hl
  have hS : va_S (zb_A g) s.heap s.heap [] := va_S.rf
  obtain ⟨H, hH⟩ : ∃ H, H = s.heap := ⟨_, rfl⟩
  obtain ⟨locs, hlocs⟩ : ∃ z : List Loc, z = [] := ⟨_, rfl⟩
  rw [← hH] at hP
  have hS : va_S (zb_A g) s.heap H locs := by rw [hH, hlocs]; exact hS
  show W p l e _ s m args below meth c s.heap [] 0 0 _ _
  rw [← hH, ← hlocs]
  rw [zb_bstart (F := zb_F g) h0] at hP
  refine lv_aload_n hx hb dX4_init_0 rfl (lv_at hl 0 rfl) ?_
  refine zr_oi X wo_X4_3 wo_i wo_c hl.1 (Nat.le_of_ble_eq_true rfl) (Nat.le_of_ble_eq_true rfl) dX4_init_1 ?_
  refine lv_aload_n hx hb dX4_init_4 rfl (lv_at hl 0 rfl) ?_
  refine lv_iconst (v := (0 : Int32)) hx hb dX4_init_5 (by decide) ?_
  refine zr_bput (k := k) (n := 1) X hP hS (by decide) rfl wi_4 tyX4 tyX4_ok nmX4 0 (by decide) wf_X4_9 (Or.inl rfl) (ty := tyX4 0) (by decide +kernel) rfl rfl (Nat.le_of_ble_eq_true rfl) dX4_init_6 (fun H locs hP hS => ?_)
  refine lv_aload_n hx hb dX4_init_9 rfl (lv_at hl 0 rfl) ?_
  refine lv_bipush (v := (40 : Int32)) hx hb dX4_init_10 (by decide) ?_
  refine zr_sz hP (by omega) (by omega) (fun hsz => ?_)
  refine zr_newa (N := 40) (a0 := (40, .inl (fun _ => 0))) 0 X hP hS hsz wa_int rfl rfl (fun h => h) (fun _ => rfl) (by decide) (by decide) (by decide) (Nat.le_of_ble_eq_true rfl) (Nat.le_of_ble_eq_true rfl) dX4_init_12 (fun H hP hS => ?_)
  rw [zb_bpush (n := 1) (zb_F10 (hk 1 (by decide))) (by decide)] at hP
  simp only [Nat.reduceAdd] at hP
  refine zr_bput (k := k) (n := 2) X hP hS (by decide) rfl wi_4 tyX4 tyX4_ok nmX4 1 (by decide) wf_X4_15 (Or.inr ⟨rfl, hnm, rfl⟩) (ty := tyX4 1) (by decide +kernel) rfl rfl (Nat.le_of_ble_eq_true rfl) dX4_init_14 (fun H locs hP hS => ?_)
  refine lv_aload_n hx hb dX4_init_17 rfl (lv_at hl 0 rfl) ?_
  refine lv_bipush (v := (41 : Int32)) hx hb dX4_init_18 (by decide) ?_
  refine zr_sz hP (by omega) (by omega) (fun hsz => ?_)
  refine zr_newa (N := 41) (a0 := (41, .inl (fun _ => 0))) 0 X hP hS hsz wa_int rfl rfl (fun h => h) (fun _ => rfl) (by decide) (by decide) (by decide) (Nat.le_of_ble_eq_true rfl) (Nat.le_of_ble_eq_true rfl) dX4_init_20 (fun H hP hS => ?_)
  rw [zb_bpush (n := 2) (zb_F10 (hk 2 (by decide))) (by decide)] at hP
  simp only [Nat.reduceAdd] at hP
  refine zr_bput (k := k) (n := 3) X hP hS (by decide) rfl wi_4 tyX4 tyX4_ok nmX4 2 (by decide) wf_X4_19 (Or.inr ⟨rfl, hnm, rfl⟩) (ty := tyX4 2) (by decide +kernel) rfl rfl (Nat.le_of_ble_eq_true rfl) dX4_init_22 (fun H locs hP hS => ?_)
  refine lv_aload_n hx hb dX4_init_25 rfl (lv_at hl 0 rfl) ?_
  refine lv_sipush (v := (500 : Int32)) hx hb dX4_init_26 (by decide) ?_
  refine zr_sz hP (by omega) (by omega) (fun hsz => ?_)
  refine zr_newa (N := 500) (a0 := (500, .inl (fun _ => 0))) 0 X hP hS hsz wa_int rfl rfl (fun h => h) (fun _ => rfl) (by decide) (by decide) (by decide) (Nat.le_of_ble_eq_true rfl) (Nat.le_of_ble_eq_true rfl) dX4_init_29 (fun H hP hS => ?_)
  rw [zb_bpush (n := 3) (zb_F10 (hk 3 (by decide))) (by decide)] at hP
  simp only [Nat.reduceAdd] at hP
  refine zr_bput (k := k) (n := 4) X hP hS (by decide) rfl wi_4 tyX4 tyX4_ok nmX4 3 (by decide) wf_X4_22 (Or.inr ⟨rfl, hnm, rfl⟩) (ty := tyX4 3) (by decide +kernel) rfl rfl (Nat.le_of_ble_eq_true rfl) dX4_init_31 (fun H locs hP hS => ?_)
  rw [zb_bend (by decide) ((zb_Fo4 (q := k) (hk 0 (by decide))).trans (by rfl))] at hP
  exact zr_vret X hr hP hS rfl dX4_init_34
set_option maxHeartbeats 4000000 in
set_option maxRecDepth 100000 in
theorem ci_X5 {g : zb_G} {C0 : Nat → va_E} {k : Nat} (l : Launch) (hk : zb_at k [(5, 12), (0, 11), (10, 10), (10, 10), (10, 10), (10, 10), (10, 10), (10, 10), (10, 10), (10, 10), (10, 10), (3, 3), (10, 10), (10, 10), (1, 9), (10, 24), (10, 24), (10, 24), (10, 24), (10, 24), (10, 24), (10, 24), (10, 24), (10, 240)]) (h0 : C0 k = .inr (5, zb_df 5)) : zb_Cn l g yX5_init cX5_init 1 2 32 23 565 [.ref (g.2.2 + k)] (k + 1) C0 (k + 24) (zb_fin C0 (zb_F g) k 24) := by
  refine zb_ofN (own := RX5) (by decide +kernel) rfl rfl (Nat.le_of_ble_eq_true rfl) ?_
  intro p e s m args below meth c ls X hr hnm hs0 hao hP hl
  have hx := X.1.1
  have hb := X.1.2.1
  have ho := X.1.2.2.2.1
  have hts := X.1.2.2.2.2
  have hl : lv_has ls 1 [(0, .ref (g.2.2 + k))] := hl
  have hS : va_S (zb_A g) s.heap s.heap [] := va_S.rf
  obtain ⟨H, hH⟩ : ∃ H, H = s.heap := ⟨_, rfl⟩
  obtain ⟨locs, hlocs⟩ : ∃ z : List Loc, z = [] := ⟨_, rfl⟩
  rw [← hH] at hP
  have hS : va_S (zb_A g) s.heap H locs := by rw [hH, hlocs]; exact hS
  show W p l e _ s m args below meth c s.heap [] 0 0 _ _
  rw [← hH, ← hlocs]
  rw [zb_bstart (F := zb_F g) h0] at hP
  refine lv_aload_n hx hb dX5_init_0 rfl (lv_at hl 0 rfl) ?_
  refine zr_oi X wo_X5_3 wo_i wo_c hl.1 (Nat.le_of_ble_eq_true rfl) (Nat.le_of_ble_eq_true rfl) dX5_init_1 ?_
  refine lv_aload_n hx hb dX5_init_4 rfl (lv_at hl 0 rfl) ?_
  refine zr_sz hP (by omega) (by omega) (fun hsz => ?_)
  refine zr_newo (ci := 0) (fs := zb_df 0) X hP hS hsz rfl wi_0 tyX0 tyX0_ok wn_X5_9 wt_X0 wu_X0 (by decide) (Nat.le_of_ble_eq_true rfl) (Nat.le_of_ble_eq_true rfl) dX5_init_5 (fun H hP hS => ?_)
  refine lv_dup hx hb dX5_init_8 rfl ?_
  refine zr_sz hP (by omega) (by omega) (fun hsz => ?_)
  refine zr_cJ X hP hS hsz hao (ci_X0 (g := g) (k := k + 1) l (hk.sub 1 [(0, 11), (10, 10), (10, 10), (10, 10), (10, 10), (10, 10), (10, 10), (10, 10), (10, 10), (10, 10)] (by decide)) (va_up_self _ _ _)) cj_X5_11 hl.1 (Nat.le_of_ble_eq_true rfl) ⟨Nat.le_of_ble_eq_true rfl, Nat.le_of_ble_eq_true rfl⟩ ⟨Nat.le_of_ble_eq_true rfl, Nat.le_of_ble_eq_true rfl⟩ dX5_init_9 (fun H locs hP hS => ?_)
  rw [zb_bfin (n := 1) (z := 10) (by decide) (by decide) (fun _ _ _ => rfl)] at hP
  simp only [Nat.reduceAdd] at hP
  refine zr_bput (k := k) (n := 11) X hP hS (by decide) rfl wi_5 tyX5 tyX5_ok nmX5 0 (by decide) wf_X5_12 (Or.inr ⟨rfl, hnm, rfl⟩) (ty := tyX5 0) (by decide +kernel) rfl rfl (Nat.le_of_ble_eq_true rfl) dX5_init_12 (fun H locs hP hS => ?_)
  refine lv_aload_n hx hb dX5_init_15 rfl (lv_at hl 0 rfl) ?_
  refine zr_sz hP (by omega) (by omega) (fun hsz => ?_)
  refine zr_newo (ci := 3) (fs := zb_df 3) X hP hS hsz rfl wi_3 tyX3 tyX3_ok wn_X5_18 wt_X3 wu_X3 (by decide) (Nat.le_of_ble_eq_true rfl) (Nat.le_of_ble_eq_true rfl) dX5_init_16 (fun H hP hS => ?_)
  refine lv_dup hx hb dX5_init_19 rfl ?_
  refine zr_sz hP (by omega) (by omega) (fun hsz => ?_)
  refine zr_cJ X hP hS hsz hao (ci_X3 (g := g) (k := k + 11) l (hk.sub 11 [(3, 3), (10, 10), (10, 10)] (by decide)) (va_up_self _ _ _)) cj_X5_20 hl.1 (Nat.le_of_ble_eq_true rfl) ⟨Nat.le_of_ble_eq_true rfl, Nat.le_of_ble_eq_true rfl⟩ ⟨Nat.le_of_ble_eq_true rfl, Nat.le_of_ble_eq_true rfl⟩ dX5_init_20 (fun H locs hP hS => ?_)
  rw [zb_bfin (n := 11) (z := 3) (by decide) (by decide) (fun _ _ _ => rfl)] at hP
  simp only [Nat.reduceAdd] at hP
  refine zr_bput (k := k) (n := 14) X hP hS (by decide) rfl wi_5 tyX5 tyX5_ok nmX5 1 (by decide) wf_X5_21 (Or.inr ⟨rfl, hnm, rfl⟩) (ty := tyX5 1) (by decide +kernel) rfl rfl (Nat.le_of_ble_eq_true rfl) dX5_init_23 (fun H locs hP hS => ?_)
  refine lv_aload_n hx hb dX5_init_26 rfl (lv_at hl 0 rfl) ?_
  refine zr_sz hP (by omega) (by omega) (fun hsz => ?_)
  refine zr_newo (ci := 1) (fs := zb_df 1) X hP hS hsz rfl wi_1 tyX1 tyX1_ok wn_X5_25 wt_X1 wu_X1 (by decide) (Nat.le_of_ble_eq_true rfl) (Nat.le_of_ble_eq_true rfl) dX5_init_27 (fun H hP hS => ?_)
  refine lv_dup hx hb dX5_init_30 rfl ?_
  refine zr_sz hP (by omega) (by omega) (fun hsz => ?_)
  refine zr_cJ X hP hS hsz hao (ci_X1 (g := g) (k := k + 14) l (hk.sub 14 [(1, 9), (10, 24), (10, 24), (10, 24), (10, 24), (10, 24), (10, 24), (10, 24), (10, 24), (10, 240)] (by decide)) (va_up_self _ _ _)) cj_X5_27 hl.1 (Nat.le_of_ble_eq_true rfl) ⟨Nat.le_of_ble_eq_true rfl, Nat.le_of_ble_eq_true rfl⟩ ⟨Nat.le_of_ble_eq_true rfl, Nat.le_of_ble_eq_true rfl⟩ dX5_init_31 (fun H locs hP hS => ?_)
  rw [zb_bfin (n := 14) (z := 10) (by decide) (by decide) (fun _ _ _ => rfl)] at hP
  simp only [Nat.reduceAdd] at hP
  refine zr_bput (k := k) (n := 24) X hP hS (by decide) rfl wi_5 tyX5 tyX5_ok nmX5 2 (by decide) wf_X5_28 (Or.inr ⟨rfl, hnm, rfl⟩) (ty := tyX5 2) (by decide +kernel) rfl rfl (Nat.le_of_ble_eq_true rfl) dX5_init_34 (fun H locs hP hS => ?_)
  refine lv_aload_n hx hb dX5_init_37 rfl (lv_at hl 0 rfl) ?_
  refine lv_iconst (v := (0 : Int32)) hx hb dX5_init_38 (by decide) ?_
  refine zr_bput (k := k) (n := 24) X hP hS (by decide) rfl wi_5 tyX5 tyX5_ok nmX5 3 (by decide) wf_X5_32 (Or.inl rfl) (ty := tyX5 3) (by decide +kernel) rfl rfl (Nat.le_of_ble_eq_true rfl) dX5_init_39 (fun H locs hP hS => ?_)
  refine lv_aload_n hx hb dX5_init_42 rfl (lv_at hl 0 rfl) ?_
  refine lv_iconst (v := (1 : Int32)) hx hb dX5_init_43 (by decide) ?_
  refine zr_bput (k := k) (n := 24) X hP hS (by decide) rfl wi_5 tyX5 tyX5_ok nmX5 4 (by decide) wf_X5_36 (Or.inl rfl) (ty := tyX5 4) (by decide +kernel) rfl rfl (Nat.le_of_ble_eq_true rfl) dX5_init_44 (fun H locs hP hS => ?_)
  refine lv_aload_n hx hb dX5_init_47 rfl (lv_at hl 0 rfl) ?_
  refine lv_iconst (v := (1 : Int32)) hx hb dX5_init_48 (by decide) ?_
  refine zr_bput (k := k) (n := 24) X hP hS (by decide) rfl wi_5 tyX5 tyX5_ok nmX5 5 (by decide) wf_X5_39 (Or.inl rfl) (ty := tyX5 5) (by decide +kernel) rfl rfl (Nat.le_of_ble_eq_true rfl) dX5_init_49 (fun H locs hP hS => ?_)
  refine lv_aload_n hx hb dX5_init_52 rfl (lv_at hl 0 rfl) ?_
  refine lv_iconst (v := (0 : Int32)) hx hb dX5_init_53 (by decide) ?_
  refine zr_bput (k := k) (n := 24) X hP hS (by decide) rfl wi_5 tyX5 tyX5_ok nmX5 6 (by decide) wf_X5_42 (Or.inl rfl) (ty := tyX5 6) (by decide +kernel) rfl rfl (Nat.le_of_ble_eq_true rfl) dX5_init_54 (fun H locs hP hS => ?_)
  refine lv_aload_n hx hb dX5_init_57 rfl (lv_at hl 0 rfl) ?_
  refine lv_iconst (v := (0 : Int32)) hx hb dX5_init_58 (by decide) ?_
  refine zr_bput (k := k) (n := 24) X hP hS (by decide) rfl wi_5 tyX5 tyX5_ok nmX5 7 (by decide) wf_X5_45 (Or.inl rfl) (ty := tyX5 7) (by decide +kernel) rfl rfl (Nat.le_of_ble_eq_true rfl) dX5_init_59 (fun H locs hP hS => ?_)
  refine lv_aload_n hx hb dX5_init_62 rfl (lv_at hl 0 rfl) ?_
  refine lv_iconst (v := (0 : Int32)) hx hb dX5_init_63 (by decide) ?_
  refine zr_bput (k := k) (n := 24) X hP hS (by decide) rfl wi_5 tyX5 tyX5_ok nmX5 8 (by decide) wf_X5_48 (Or.inl rfl) (ty := tyX5 8) (by decide +kernel) rfl rfl (Nat.le_of_ble_eq_true rfl) dX5_init_64 (fun H locs hP hS => ?_)
  refine lv_aload_n hx hb dX5_init_67 rfl (lv_at hl 0 rfl) ?_
  refine lv_iconst (v := (0 : Int32)) hx hb dX5_init_68 (by decide) ?_
  refine zr_bput (k := k) (n := 24) X hP hS (by decide) rfl wi_5 tyX5 tyX5_ok nmX5 9 (by decide) wf_X5_51 (Or.inl rfl) (ty := tyX5 9) (by decide +kernel) rfl rfl (Nat.le_of_ble_eq_true rfl) dX5_init_69 (fun H locs hP hS => ?_)
  refine lv_aload_n hx hb dX5_init_72 rfl (lv_at hl 0 rfl) ?_
  refine lv_iconst (v := (0 : Int32)) hx hb dX5_init_73 (by decide) ?_
  refine zr_bput (k := k) (n := 24) X hP hS (by decide) rfl wi_5 tyX5 tyX5_ok nmX5 10 (by decide) wf_X5_54 (Or.inl rfl) (ty := tyX5 10) (by decide +kernel) rfl rfl (Nat.le_of_ble_eq_true rfl) dX5_init_74 (fun H locs hP hS => ?_)
  refine lv_aload_n hx hb dX5_init_77 rfl (lv_at hl 0 rfl) ?_
  refine lv_iconst (v := (0 : Int32)) hx hb dX5_init_78 (by decide) ?_
  refine zr_bput (k := k) (n := 24) X hP hS (by decide) rfl wi_5 tyX5 tyX5_ok nmX5 11 (by decide) wf_X5_57 (Or.inl rfl) (ty := tyX5 11) (by decide +kernel) rfl rfl (Nat.le_of_ble_eq_true rfl) dX5_init_79 (fun H locs hP hS => ?_)
  rw [zb_bend (by decide) ((zb_Fo5 (q := k) (hk 0 (by decide))).trans (by rfl))] at hP
  exact zr_vret X hr hP hS rfl dX5_init_82
