/-! THE LAW'S START: what walks know of the machine, out of what the Statement gives -/
theorem vk_S.cg {N : Nat} {len : List Nat} {byt : List (List Int32)} {K V K' V' : Nat → Nat} {A : Nat → Prop} {U : State} {H : Heap} (hK : ∀ i, i < N → K' i = K i) (hV : ∀ i, i < N → V' i = V i) (h : vk_S N len byt K V A U H) : vk_S N len byt K' V' A U H := by
  refine ⟨fun i hi => ?_, fun i j hi hj e => h.2 i j hi hj (by rw [← hK i hi, ← hK j hj]; exact e)⟩
  rw [hK i hi, hV i hi]
  exact h.1 i hi
def st_F (c0 c1 c2 c3 c4 c5 : Nat) (K V X : Nat → Nat) : Nat → Nat
  | 0 => c0 | 1 => c1 | 2 => c2 | 3 => c3 | 4 => c4 | 5 => c5
  | k + 6 => if k + 6 < 200 then K (k + 6 - 100) else if k + 6 < 300 then V (k + 6 - 200) else X (k + 6 - 300)
section SF
variable {c0 c1 c2 c3 c4 c5 : Nat} {K V X : Nat → Nat} {i : Nat}
theorem st_FK (hi : i < 100) : st_F c0 c1 c2 c3 c4 c5 K V X (100 + i) = K i := by
  rw [show 100 + i = 94 + i + 6 by omega]
  show (if 94 + i + 6 < 200 then K (94 + i + 6 - 100) else if 94 + i + 6 < 300 then V (94 + i + 6 - 200) else X (94 + i + 6 - 300)) = K i
  rw [if_pos (by omega), show 94 + i + 6 - 100 = i by omega]
theorem st_FV (hi : i < 100) : st_F c0 c1 c2 c3 c4 c5 K V X (200 + i) = V i := by
  rw [show 200 + i = 194 + i + 6 by omega]
  show (if 194 + i + 6 < 200 then K (194 + i + 6 - 100) else if 194 + i + 6 < 300 then V (194 + i + 6 - 200) else X (194 + i + 6 - 300)) = V i
  rw [if_neg (by omega), if_pos (by omega), show 194 + i + 6 - 200 = i by omega]
theorem st_FX : st_F c0 c1 c2 c3 c4 c5 K V X (300 + i) = X i := by
  rw [show 300 + i = 294 + i + 6 by omega]
  show (if 294 + i + 6 < 200 then K (294 + i + 6 - 100) else if 294 + i + 6 < 300 then V (294 + i + 6 - 200) else X (294 + i + 6 - 300)) = X i
  rw [if_neg (by omega), if_neg (by omega), show 294 + i + 6 - 300 = i by omega]
end SF
section ST
variable {s : State} {args : Array Value}
theorem st_prim {ty : FieldType} (h : (Cond.arrayClass ty).before args s = true) : ∃ cA : ClassId, ArrOfT s cA ty ∧ s.vm.findClass ("[" ++ ty.toString) = some cA := by
  obtain ⟨cA, kA, comp, h1, h2, h3⟩ := Cond.arrayClass_spec h
  exact ⟨cA, fun n z => ⟨fun k h => (by cases h), kA, h2, comp, h3⟩, h1⟩
theorem st_obj {C : String} (h : (Cond.arrayOver (.object C)).before args s = true) : ∃ cA : ClassId, ArrOfT s cA (.object C) ∧ va_RA s cA (.object C) := by
  obtain ⟨comp, c, k, h1, h2, h3, h4, h5⟩ := Cond.arrayOver_spec h
  exact ⟨c, fun n z => ⟨fun k h => (by cases h), k, h3, comp, h4⟩, k, comp, h3, h4, h1, h5⟩
theorem st_kn (hts : ∀ w ∈ zb_Wd, w.before args s = true) : ∃ D : va_G, ∀ (c : Nat) (q : vw_C), vwCl[c]? = some q → u_Kn s q.1 q.2.1 q.2.2 (D.1 c) (D.2 c) := by
  obtain ⟨c0, i0, h0⟩ := u_known (C := RX0) (T := TX0) (N := 11) (n := 11) hts wi_0 (hts _ (List.mem_filter.mpr ⟨by decide +kernel, by decide +kernel⟩))
  obtain ⟨c1, i1, h1⟩ := u_known (C := RX1) (T := TX1) (N := 9) (n := 9) hts wi_1 (hts _ (List.mem_filter.mpr ⟨by decide +kernel, by decide +kernel⟩))
  obtain ⟨c2, i2, h2⟩ := u_known (C := RX2) (T := TX2) (N := 8) (n := 8) hts wi_2 (hts _ (List.mem_filter.mpr ⟨by decide +kernel, by decide +kernel⟩))
  obtain ⟨c3, i3, h3⟩ := u_known (C := RX3) (T := TX3) (N := 3) (n := 3) hts wi_3 (hts _ (List.mem_filter.mpr ⟨by decide +kernel, by decide +kernel⟩))
  obtain ⟨c4, i4, h4⟩ := u_known (C := RX4) (T := TX4) (N := 4) (n := 4) hts wi_4 (hts _ (List.mem_filter.mpr ⟨by decide +kernel, by decide +kernel⟩))
  obtain ⟨c5, i5, h5⟩ := u_known (C := RX5) (T := TX5) (N := 12) (n := 12) hts wi_5 (hts _ (List.mem_filter.mpr ⟨by decide +kernel, by decide +kernel⟩))
  obtain ⟨c6, i6, h6⟩ := u_known (C := RX6) (T := TX6) (N := 6) (n := 6) hts wi_6 (hts _ (List.mem_filter.mpr ⟨by decide +kernel, by decide +kernel⟩))
  obtain ⟨c7, i7, h7⟩ := u_known (C := RX7) (T := TX7) (N := 16) (n := 16) hts wi_7 (hts _ (List.mem_filter.mpr ⟨by decide +kernel, by decide +kernel⟩))
  obtain ⟨c8, i8, h8⟩ := u_known (C := RX8) (T := TX8) (N := 27) (n := 27) hts wi_8 (hts _ (List.mem_filter.mpr ⟨by decide +kernel, by decide +kernel⟩))
  refine ⟨(fun k => match k with | 0 => c0 | 1 => c1 | 2 => c2 | 3 => c3 | 4 => c4 | 5 => c5 | 6 => c6 | 7 => c7 | _ => c8, fun k => match k with | 0 => i0 | 1 => i1 | 2 => i2 | 3 => i3 | 4 => i4 | 5 => i5 | 6 => i6 | 7 => i7 | _ => i8), ?_⟩
  intro k q hq
  match k, hq with
  | 0, hq => cases hq; exact h0
  | 1, hq => cases hq; exact h1
  | 2, hq => cases hq; exact h2
  | 3, hq => cases hq; exact h3
  | 4, hq => cases hq; exact h4
  | 5, hq => cases hq; exact h5
  | 6, hq => cases hq; exact h6
  | 7, hq => cases hq; exact h7
  | 8, hq => cases hq; exact h8
  | k + 9, hq => exact absurd hq (by simp)
theorem st_ne {t u : Term} {a b : Nat} (ht : t.eval args s none [] s = some (.ref a)) (hu : u.eval args s none [] s = some (.ref b)) (h : a ≠ b) : (Cond.not (.eq t u)).before args s = true := by
  simp [Cond.before, Cond.holds, Cond.value, ht, hu, h]
theorem st_el {t u k : Term} {a : Nat} {o n d : String} (ht : t.eval args s none [] s = some (.ref a)) (hu : u.eval args s none [] s = some (.ref a)) : (Term.elem (.field t o n d) k).eval args s none [] s = (Term.elem (.field u o n d) k).eval args s none [] s := by
  simp only [Term.eval, ht, hu]
def st_tm (i : Nat) : Term := .string "BuoyString$Reader" (zb_cR i)
theorem st_str (hgs : ∀ w ∈ flatC (Jvm.Cond.and given_1 narrow_1), w.before args s = true) {A : Nat → Prop} (hA : ∀ a : Nat, a < s.heap.size → ¬ A a) : ∃ adK adV : Nat → Nat, vk_S 9 zb_len zb_byt adK adV A s s.heap ∧ ∀ i : Nat, i < 9 → (st_tm i).eval args s none [] s = some (.ref (adK i)) := by
  have m1 : ∀ i, i < 9 → Cond.exactly (st_tm i) "java/lang/String" ∈ flatC (Jvm.Cond.and given_1 narrow_1) := by decide +kernel
  have m2 : ∀ i, i < 9 → Cond.eq (.field (st_tm i) "java/lang/String" "coder" "B") (.int 0) ∈ flatC (Jvm.Cond.and given_1 narrow_1) := by decide +kernel
  have m3 : ∀ i, i < 9 → Cond.arrayOf (.field (st_tm i) "java/lang/String" "value" "[B") .byte ∈ flatC (Jvm.Cond.and given_1 narrow_1) := by decide +kernel
  have m4 : ∀ i, i < 9 → Cond.eq (.length (.field (st_tm i) "java/lang/String" "value" "[B")) (.int (Int32.ofNat (zb_len.getD i 0))) ∈ flatC (Jvm.Cond.and given_1 narrow_1) := by decide +kernel
  have m5 : ∀ i, i < 9 → ∀ j, j < zb_len.getD i 0 → Cond.eq (.elem (.field (st_tm i) "java/lang/String" "value" "[B") (.int (Int32.ofNat j))) (.int ((zb_byt.getD i []).getD j 0)) ∈ flatC (Jvm.Cond.and given_1 narrow_1) := by decide +kernel
  have m7 : ∀ i, i < 9 → ∀ j, j < 9 → i ≠ j → ∃ k, k < 4 ∧ (zb_byt.getD i []).getD k 0 ≠ (zb_byt.getD j []).getD k 0 := by decide +kernel
  have m8 : ∀ i, i < 9 → 4 ≤ zb_len.getD i 0 := by decide
  have hne : ∀ i j : Nat, i < 9 → j < 9 → i ≠ j → (Cond.not (Cond.eq (st_tm i) (st_tm j))).before args s = true := by
    intro i j hi hj hn
    obtain ⟨a, c, cA, kA, q1, -⟩ := Cond.exactly_spec (args := args) (first := s) (o := none) (s := s) (idx := []) (hgs _ (m1 i hi))
    obtain ⟨b, c2, cA2, kA2, q2, -⟩ := Cond.exactly_spec (args := args) (first := s) (o := none) (s := s) (idx := []) (hgs _ (m1 j hj))
    refine st_ne q1 q2 fun e => ?_
    subst e
    obtain ⟨k, hk, hd⟩ := m7 i hi j hj hn
    have e1 := va_eqt (hgs _ (m5 i hi k (by have := m8 i hi; omega)))
    have e2 := va_eqt (hgs _ (m5 j hj k (by have := m8 j hj; omega)))
    rw [st_el q1 q2, e2] at e1
    injection e1 with e1
    injection e1 with e1
    exact hd e1.symm
  exact vk_Sof (tm := st_tm) (by decide) (fun i hi => hgs _ (m1 i hi)) (fun i hi => hgs _ (m2 i hi)) (fun i hi => hgs _ (m3 i hi)) (fun i hi => hgs _ (m4 i hi)) (fun i hi j hj => hgs _ (m5 i hi j hj)) (fun i j hi hj hn => Or.inl (hne i j hi hj hn)) hA
theorem st_txt (hgs : ∀ w ∈ flatC (Jvm.Cond.and given_1 narrow_1), w.before args s = true) : ∃ aX : Nat → Nat, ∀ i, i < 21 → (Term.string "BuoyString" (zb_cX i)).eval args s none [] s = some (.ref (aX i)) := by
  have m1 : ∀ i, i < 21 → Cond.exactly (Term.string "BuoyString" (zb_cX i)) "java/lang/String" ∈ flatC (Jvm.Cond.and given_1 narrow_1) := by decide +kernel
  have h0 : ∀ i : Nat, ∃ q : Nat, i < 21 → (Term.string "BuoyString" (zb_cX i)).eval args s none [] s = some (.ref q) := by
    intro i
    by_cases hi : i < 21
    · obtain ⟨a, c, cA, kA, q1, -⟩ := Cond.exactly_spec (args := args) (first := s) (o := none) (s := s) (idx := []) (hgs _ (m1 i hi))
      exact ⟨a, fun _ => q1⟩
    · exact ⟨0, fun h => absurd h hi⟩
  obtain ⟨ad, had⟩ := Classical.axiomOfChoice h0
  exact ⟨ad, had⟩
theorem st_N (hts : ∀ w ∈ lw_tbl, w.before args s = true) : zb_N s := by
  intro w hw
  have h1 := hts w (List.mem_filter.mp hw).1
  have h2 := (List.mem_filter.mp hw).2
  cases w <;> first | (exact va_Nw.of rfl h1) | (simp [zb_isX] at h2; done)
theorem st_Nc (hgs : ∀ w ∈ flatC (Jvm.Cond.and given_1 narrow_1), w.before args s = true) : zb_Nc s :=
  ⟨va_Nc.of (hgs _ (by decide +kernel)), va_Nc.of (hgs _ (by decide +kernel)), va_Nc.of (hgs _ (by decide +kernel))⟩
theorem st_X {p : Program} {m : MethodId} {meth : Method} {c : Code} {b : Nat} (hx : p.tables.exec = Jvm.exec) (hb : c.code = code) (hml : c.maxLocals = 10) (hown : s.vm.findClass RL = some m.cls) (hts : ∀ w ∈ lw_tbl, w.before #[Value.ref b] s = true) (hlocks : meth.locks = false) (hgv : (Jvm.Cond.and given_1 narrow_1).before #[Value.ref b] s = true) :
    ∃ g : zb_G, g.2.2 = s.heap.size ∧ zb_X g p m c cL_law 10 s #[Value.ref b] RL meth := by
  have hgs := flat_of_before _ hgv
  have hwd : ∀ w ∈ zb_Wd, w.before #[Value.ref b] s = true := fun w hw => hts w (List.mem_filter.mp hw).1
  obtain ⟨D, hD⟩ := st_kn hwd
  obtain ⟨c0, a0, r0⟩ := st_prim (ty := .int) (hts _ (by decide +kernel))
  obtain ⟨c1, a1, r1⟩ := st_prim (ty := .byte) (hts _ (by decide +kernel))
  obtain ⟨c2, a2, r2⟩ := st_prim (ty := .boolean) (hts _ (by decide +kernel))
  obtain ⟨c3, a3, r3⟩ := st_obj (C := "BuoyString$State") (hts _ (by decide +kernel))
  obtain ⟨c4, a4, r4⟩ := st_prim (ty := .long) (hts _ (by decide +kernel))
  obtain ⟨c5, a5, r5⟩ := st_prim (ty := .double) (hts _ (by decide +kernel))
  have hA : ∀ a : Nat, a < s.heap.size → ¬ (fun q : Nat => s.heap.size ≤ q) a := fun a h => Nat.not_le.mpr h
  obtain ⟨adK, adV, hS, hE⟩ := st_str hgs hA
  obtain ⟨aX, hX⟩ := st_txt hgs
  refine ⟨(D, st_F c0 c1 c2 c3 c4 c5 adK adV aX, s.heap.size), rfl, ⟨hx, hb, hml, hown, hwd⟩, hlocks, ⟨hD, ?_⟩, ⟨⟨?_, ?_⟩, ⟨?_, ?_, ?_⟩, st_N hts, fun i hi => ⟨?_, ?_⟩, fun i hi => ?_⟩⟩
  · intro k q hq
    match k, hq with
    | 0, hq => cases hq; exact ⟨a0, r0⟩
    | 1, hq => cases hq; exact ⟨a1, r1⟩
    | 2, hq => cases hq; exact ⟨a2, r2⟩
    | 3, hq => cases hq; exact ⟨a3, r3⟩
    | 4, hq => cases hq; exact ⟨a4, r4⟩
    | 5, hq => cases hq; exact ⟨a5, r5⟩
    | k + 6, hq => exact absurd hq (by simp)
  · exact vx_Zqof (args := #[Value.ref b]) (hts _ (by decide +kernel)) (hts _ (by decide +kernel)) (hgs _ (by decide +kernel)) hA
  · exact vx_Zqof (args := #[Value.ref b]) (hts _ (by decide +kernel)) (hts _ (by decide +kernel)) (hgs _ (by decide +kernel)) hA
  · exact va_Zof (args := #[Value.ref b]) (hts _ (by decide +kernel)) (hts _ (by decide +kernel)) (va_eqt (hgs _ (by decide +kernel))) hA
  · exact va_Zqof (args := #[Value.ref b]) (hts _ (by decide +kernel)) (hts _ (by decide +kernel)) (hgs _ (by decide +kernel)) hA
  · exact hS.cg (fun i hi => st_FK (by omega)) (fun i hi => st_FV (by omega))
  · have m1 : ∀ i, i < 9 → Cond.stringRef "BuoyString$Reader" (zb_cR i) (zb_tx i) ∈ lw_tbl := by decide +kernel
    show vk_R _ _ _ (st_F c0 c1 c2 c3 c4 c5 adK adV aX (100 + i)) s
    rw [st_FK (by omega)]
    exact vk_R.of (hts _ (m1 i hi)) (hE i hi)
  · have m1 : ∀ i, i < 9 → Cond.stringRef "BuoyStringModel" (zb_cM i) (zb_tx i) ∈ lw_tbl := by decide +kernel
    have m2 : ∀ i, i < 9 → Cond.eq (st_tm i) (Term.string "BuoyStringModel" (zb_cM i)) ∈ flatC (Jvm.Cond.and given_1 narrow_1) := by decide +kernel
    show vk_R _ _ _ (st_F c0 c1 c2 c3 c4 c5 adK adV aX (100 + i)) s
    rw [st_FK (by omega)]
    exact vk_R.of (hts _ (m1 i hi)) (va_eqR (hgs _ (m2 i hi)) (hE i hi))
  · have m1 : ∀ i, i < 21 → Cond.stringRef "BuoyString" (zb_cX i) (zb_xX i) ∈ lw_tbl := by decide +kernel
    show vk_R _ _ _ (st_F c0 c1 c2 c3 c4 c5 adK adV aX (300 + i)) s
    rw [st_FX]
    exact vk_R.of (hts _ (m1 i hi)) (hX i hi)
end ST
