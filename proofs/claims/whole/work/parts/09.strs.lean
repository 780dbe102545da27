/-! what is wanted beside: methods of Math and String, words of the class, quotients of floats -/
theorem zb_ofWF {l : Launch} {g : zb_G} {nc : Nat} {y : MethodName} {own : String} {cc : ByteArray} {maxL : Nat} {ret : Option FieldType} {fr lo : Nat} {as : List Value} {C C' : Nat → va_E} {v : Option Value}
    (hy : plainFor y = true) (ho : y.cls = own) (hn : (lg_sl as).length ≤ maxL)
    (body : ∀ (p : Program) (e : Env) (s : State) (m : MethodId) (args : Array Value) (below : List Frame) (meth : Method) (c : Code) (ls : Array Slot), zb_X g p m c cc maxL s args own meth → meth.sig.returnType = ret → va_P g.1 vwCl (zb_ws g nc C) s.heap → lv_has ls maxL (lv_args 0 as) →
      W p l e { frames := fr, cells := 0, slots := 0, locals := lo } s m args below meth c s.heap [] 0 0 (MQ below (zb_Po g nc C' v) args s 0 0 (zb_A g)) (F0 m 0 ls [])) :
    zb_Ct l g nc y cc maxL ret fr lo as C v C' := by
  subst ho
  refine MetFree.of_bodySF (code := cc) (maxLocals := maxL) (ret := ret) hy ?_ ?_
  · intro args s m h hn
    obtain ⟨meth, c, h1, h2, h3, h4, h5, h6, -, -⟩ := Cond.code_spec hn (atoms_spec (ws := Cond.code y cc maxL ret :: zb_Wd) h _ List.mem_cons_self)
    exact ⟨meth, c, h1, h2, h3, h4, h5, h6⟩
  · intro p e s m args below meth c s₁ B hml hv _
    have hh0 : s₁.heap = s.heap := by rw [B.state]; rfl
    obtain ⟨rfl, hP, hK, hZ⟩ := hv
    have hts0 := atoms_spec (ws := Cond.code y cc maxL ret :: zb_Wd) B.pre
    have hts : ∀ w ∈ zb_Wd, w.before as.toArray s = true := fun w hw => hts0 w (List.mem_cons_of_mem _ hw)
    have hw := body p e s m as.toArray below meth c _ ⟨⟨B.exec, B.bytes, hml, findClass_of_methodNamed B.named, hts⟩, B.notSynchronized, hK, hZ⟩ B.returns hP (lv_entry as hn)
    rw [← lg_entry_eq] at hw
    obtain ⟨t, a1, o, b1, b2, b3⟩ := hw s₁ hh0 (Stand.of_body B)
    exact ⟨t, o, a1, b1, b2, ⟨b3.1, b3.2⟩⟩
theorem zb_bkl {b j t n : Nat} (hB : zb_isB b) (hj : j < 24) (h : zb_st j = (t, n)) : zb_IK (b + j) t (zb_ln (b + j)) := by
  have h1 := zb_bk hB hj h
  have h2 : zb_ln (b + j) = n := by unfold zb_ln; rw [h1.2]
  rw [h2]
  exact h1
section SR
variable {p : Program} {l : Launch} {e : Env} {R : Room} {s : State} {m : MethodId} {args : Array Value} {below : List Frame} {meth : Method} {c : Code} {H : Heap} {locs : List Loc} {cells slots : Nat} {Q : State → Prop}
variable {cc : ByteArray} {nL : Nat} {own : String} {g : zb_G} {nc : Nat} {C0 : Nat → va_E} {I J O : Mem} {pc : Nat} {ls : Array Slot} {rest : List Value} {k n : Nat}
theorem zr_str {index : Nat} {tx : String} {a : Nat} (X : zb_X g p m c cc nL s args own meth) (hR : vk_R own index tx a s) (hdg : decode cc pc = .ok (.ldc index, 2))
    (kk : W p l e R s m args below meth c H locs cells slots Q (F0 m (pc + 2) ls (.ref a :: rest))) : W p l e R s m args below meth c H locs cells slots Q (F0 m pc ls rest) :=
  va_ldcS X.1.1 X.1.2.1 X.1.2.2.2.1 hR hdg kk
theorem zr_strw {index : Nat} {tx : String} {a : Nat} (X : zb_X g p m c cc nL s args own meth) (hR : vk_R own index tx a s) (hdg : decode cc pc = .ok (.ldc_w index, 3))
    (kk : W p l e R s m args below meth c H locs cells slots Q (F0 m (pc + 3) ls (.ref a :: rest))) : W p l e R s m args below meth c H locs cells slots Q (F0 m pc ls rest) := by
  obtain ⟨⟨hx, hb, -, ho, hts⟩, -, hK, -⟩ := X
  intro T hT X
  obtain ⟨t, a1, b1⟩ := kk T hT X
  refine ⟨t, ?_, b1⟩
  obtain ⟨k, cf, i, a', hk, hcf, hcp, -, hr, hev'⟩ := Cond.stringRef_spec ho hR.1
  cases hR.2.symm.trans hev'
  obtain ⟨k', hk', he⟩ := X.warmed.alike.2.2 _ _ hk
  have hr' : k'.resolved[index]? = some (some (.string a)) := by
    rcases X.warmed.entry hk hk' index with h | ⟨h, -⟩
    · rw [h]; exact hr
    · rw [hr] at h; cases h
  have hdg' : decode c.code (F0 m pc ls rest).pc = .ok (.ldc_w index, 3) := by rw [hb]; exact hdg
  have hg : (F0 m pc ls rest).method = m := rfl
  have a2 : Steps p.tables e below (T.setTop { F0 m pc ls rest with pc := (F0 m pc ls rest).pc + 3, stack := .ref a :: (F0 m pc ls rest).stack }) t := a1
  revert a2
  generalize F0 m pc ls rest = gg at hdg' hg ⊢
  subst hg
  intro a2
  jvm_step X.here [hx, hdg', ldc_w.wp_string (e := e) (s := T) (f := gg) X.here.top hk' (by rw [he]; exact hcf) hcp hr']
  exact a2
theorem zr_fdiv {x y v : UInt32} (X : zb_X g p m c cc nL s args own meth) (hv : fdvn x y = some v) (hdg : decode cc pc = .ok (.fdiv, 1))
    (kk : W p l e R s m args below meth c H locs cells slots Q (F0 m (pc + 1) ls (.float v :: rest))) : W p l e R s m args below meth c H locs cells slots Q (F0 m pc ls (.float y :: .float x :: rest)) := by
  unfold fdvn at hv
  split at hv
  · next h => cases hv; exact lv_fdiv X.1.1 X.1.2.1 hdg h kk
  · cases hv
theorem zr_ddiv {x y v : UInt64} (X : zb_X g p m c cc nL s args own meth) (hv : ddvn x y = some v) (hdg : decode cc pc = .ok (.ddiv, 1))
    (kk : W p l e R s m args below meth c H locs cells slots Q (F0 m (pc + 1) ls (.double v :: rest))) : W p l e R s m args below meth c H locs cells slots Q (F0 m pc ls (.double y :: .double x :: rest)) := by
  unfold ddvn at hv
  split at hv
  · next h => cases hv; exact lv_ddiv X.1.1 X.1.2.1 hdg h kk
  · cases hv
end SR
theorem wf_J0_9 : Cond.fieldLink RJ0 9 "java/lang/String" "value" "[B" ∈ zb_Wd := (zb_in 1947 (by decide +kernel) rfl)
theorem wf_J0_15 : Cond.fieldLink RJ0 15 "java/lang/String" "coder" "B" ∈ zb_Wd := (zb_in 1948 (by decide +kernel) rfl)
theorem wf_J0_38 : Cond.fieldLink RJ0 38 "java/lang/String" "COMPACT_STRINGS" "Z" ∈ zb_Wd := (zb_in 504 (by decide +kernel) rfl)
theorem wf_J0_1053 : Cond.fieldLink RJ0 1053 "jdk/internal/util/Preconditions" "SIOOBE_FORMATTER" "Ljava/util/function/BiFunction;" ∈ zb_Wd := (zb_in 520 (by decide +kernel) rfl)
theorem cw_J0_335 : zb_cwV RJ0 335 yJ0_coder_7d493 cJ0_coder_7d493 1 (some .byte) 0 := zb_cwV_of (zb_in 500 (by decide +kernel) rfl) (zb_in 501 (by decide +kernel) rfl) (zb_in 502 (by decide +kernel) rfl) (zb_in 114 (by decide +kernel) rfl) (zb_in 503 (by decide +kernel) rfl) (by decide +kernel)
theorem cw_J0_492 : zb_cwV RJ0 492 yJ0_isLatin1_aae02 cJ0_isLatin1_aae02 1 (some .boolean) 0 := zb_cwV_of (zb_in 510 (by decide +kernel) rfl) (zb_in 511 (by decide +kernel) rfl) (zb_in 512 (by decide +kernel) rfl) (zb_in 114 (by decide +kernel) rfl) (zb_in 513 (by decide +kernel) rfl) (by decide +kernel)
theorem cw_J0_495 : zb_cwS RJ0 495 yJ1_charAt_3b067 cJ1_charAt_3b067 2 (some .char) 2 := zb_cwS_of (zb_in 514 (by decide +kernel) rfl) (zb_in 515 (by decide +kernel) rfl) (zb_in 115 (by decide +kernel) rfl) (zb_in 516 (by decide +kernel) rfl) (by decide +kernel)
theorem cw_J1_9 : zb_cwS RJ1 9 yJ0_checkIndex_df160 cJ0_checkIndex_df160 2 none 2 := zb_cwS_of (zb_in 517 (by decide +kernel) rfl) (zb_in 518 (by decide +kernel) rfl) (zb_in 114 (by decide +kernel) rfl) (zb_in 519 (by decide +kernel) rfl) (by decide +kernel)
theorem cw_J0_1059 : zb_cwS RJ0 1059 yJ3_checkIndex_8e157 cJ3_checkIndex_8e157 3 (some .int) 3 := zb_cwS_of (zb_in 522 (by decide +kernel) rfl) (zb_in 523 (by decide +kernel) rfl) (zb_in 116 (by decide +kernel) rfl) (zb_in 524 (by decide +kernel) rfl) (by decide +kernel)
theorem cw_X2_73 : zb_cwV RX2 73 yJ0_length_8abf5 cJ0_length_8abf5 1 (some .int) 0 := zb_cwV_of (zb_in 496 (by decide +kernel) rfl) (zb_in 497 (by decide +kernel) rfl) (zb_in 498 (by decide +kernel) rfl) (zb_in 114 (by decide +kernel) rfl) (zb_in 499 (by decide +kernel) rfl) (by decide +kernel)
theorem cw_X2_78 : zb_cwV RX2 78 yJ0_charAt_5068e cJ0_charAt_5068e 2 (some .char) 1 := zb_cwV_of (zb_in 506 (by decide +kernel) rfl) (zb_in 507 (by decide +kernel) rfl) (zb_in 508 (by decide +kernel) rfl) (zb_in 114 (by decide +kernel) rfl) (zb_in 509 (by decide +kernel) rfl) (by decide +kernel)
theorem cw_X8_102 : zb_cwV RX8 102 yJ0_length_8abf5 cJ0_length_8abf5 1 (some .int) 0 := zb_cwV_of (zb_in 1466 (by decide +kernel) rfl) (zb_in 497 (by decide +kernel) rfl) (zb_in 498 (by decide +kernel) rfl) (zb_in 114 (by decide +kernel) rfl) (zb_in 499 (by decide +kernel) rfl) (by decide +kernel)
theorem cw_X8_107 : zb_cwV RX8 107 yJ0_charAt_5068e cJ0_charAt_5068e 2 (some .char) 1 := zb_cwV_of (zb_in 1467 (by decide +kernel) rfl) (zb_in 507 (by decide +kernel) rfl) (zb_in 508 (by decide +kernel) rfl) (zb_in 114 (by decide +kernel) rfl) (zb_in 509 (by decide +kernel) rfl) (by decide +kernel)
theorem ct_J0_coder_7d493 {g : zb_G} {nc : Nat} (l : Launch) {w : Nat} (hw : w < 9) {C0 : Nat → va_E} : zb_Ct l g nc yJ0_coder_7d493 cJ0_coder_7d493 1 (some .byte) 0 0 [.ref (zb_aK g w)] C0 (some (.int 0)) C0 := by
  refine zb_ofWF (own := RJ0) (by decide +kernel) rfl (Nat.le_of_ble_eq_true rfl) ?_
  intro p e s m args below meth c ls X hr hP hl
  have hx := X.1.1
  have hb := X.1.2.1
  have ho := X.1.2.2.2.1
  have hts := X.1.2.2.2.2
  have hZ := X.2.2.2
  have hE := hZ.2.1.2.2
  have hS : va_S (zb_A g) s.heap s.heap [] := va_S.rf
  have hl : lv_has ls 1 [(0, .ref (zb_aK g w))] := hl
  refine va_gets hx hb hZ.2.1.1 hS ho (hts _ wf_J0_38) (fun _ h => h) dJ0_coder_7d493_0 ?_
  refine lv_if_eq (tgt := 13) hx hb dJ0_coder_7d493_3 (by decide) (fun hc => absurd hc (by decide)) (fun hc => ?_)
  refine lv_aload_n hx hb dJ0_coder_7d493_6 rfl (lv_at hl 0 rfl) ?_
  refine vk_getf hx hb (hE.1 w hw).2.1 hS ho (hts _ wf_J0_15) (fun _ h => h) dJ0_coder_7d493_7 ?_
  refine lv_goto (tgt := 14) hx hb dJ0_coder_7d493_10 (by decide) ?_
  exact zr_zret X hr (by decide) hP hS dJ0_coder_7d493_14
theorem ct_J0_isLatin1_aae02 {g : zb_G} {nc : Nat} (l : Launch) {w : Nat} (hw : w < 9) {C0 : Nat → va_E} : zb_Ct l g nc yJ0_isLatin1_aae02 cJ0_isLatin1_aae02 1 (some .boolean) 0 0 [.ref (zb_aK g w)] C0 (some (.int 1)) C0 := by
  refine zb_ofWF (own := RJ0) (by decide +kernel) rfl (Nat.le_of_ble_eq_true rfl) ?_
  intro p e s m args below meth c ls X hr hP hl
  have hx := X.1.1
  have hb := X.1.2.1
  have ho := X.1.2.2.2.1
  have hts := X.1.2.2.2.2
  have hZ := X.2.2.2
  have hE := hZ.2.1.2.2
  have hS : va_S (zb_A g) s.heap s.heap [] := va_S.rf
  have hl : lv_has ls 1 [(0, .ref (zb_aK g w))] := hl
  refine va_gets hx hb hZ.2.1.1 hS ho (hts _ wf_J0_38) (fun _ h => h) dJ0_isLatin1_aae02_0 ?_
  refine lv_if_eq (tgt := 17) hx hb dJ0_isLatin1_aae02_3 (by decide) (fun hc => absurd hc (by decide)) (fun hc => ?_)
  refine lv_aload_n hx hb dJ0_isLatin1_aae02_6 rfl (lv_at hl 0 rfl) ?_
  refine vk_getf hx hb (hE.1 w hw).2.1 hS ho (hts _ wf_J0_15) (fun _ h => h) dJ0_isLatin1_aae02_7 ?_
  refine lv_if_ne (tgt := 17) hx hb dJ0_isLatin1_aae02_10 (by decide) (fun hc => absurd rfl hc) (fun hc => ?_)
  refine lv_iconst (v := (1 : Int32)) hx hb dJ0_isLatin1_aae02_13 (by decide) ?_
  refine lv_goto (tgt := 18) hx hb dJ0_isLatin1_aae02_14 (by decide) ?_
  exact zr_zret X hr (by decide) hP hS dJ0_isLatin1_aae02_18
theorem ct_J0_length_8abf5 {g : zb_G} {nc : Nat} (l : Launch) {w : Nat} (hw : w < 9) {C0 : Nat → va_E} : zb_Ct l g nc yJ0_length_8abf5 cJ0_length_8abf5 1 (some .int) 1 30 [.ref (zb_aK g w)] C0 (some (.int (zb_sl w))) C0 := by
  refine zb_ofWF (own := RJ0) (by decide +kernel) rfl (Nat.le_of_ble_eq_true rfl) ?_
  intro p e s m args below meth c ls X hr hP hl
  have hx := X.1.1
  have hb := X.1.2.1
  have ho := X.1.2.2.2.1
  have hts := X.1.2.2.2.2
  have hZ := X.2.2.2
  have hE := hZ.2.1.2.2
  have hS : va_S (zb_A g) s.heap s.heap [] := va_S.rf
  have hl : lv_has ls 1 [(0, .ref (zb_aK g w))] := hl
  refine lv_aload_n hx hb dJ0_length_8abf5_0 rfl (lv_at hl 0 rfl) ?_
  refine vk_getf hx hb (hE.1 w hw).2.2.1 hS ho (hts _ wf_J0_9) (fun _ h => h) dJ0_length_8abf5_1 ?_
  refine va_tlen hx hb (hE.1 w hw).2.2.2 hS (v := zb_sl w) rfl dJ0_length_8abf5_4 ?_
  refine lv_aload_n hx hb dJ0_length_8abf5_5 rfl (lv_at hl 0 rfl) ?_
  refine zr_cVi (rest := [.int (zb_sl w)]) (As := []) X hP hS (ct_J0_coder_7d493 (g := g) (nc := nc) l hw) cw_J0_335 (vk_recv hE hw hS) rfl hl.1 (Nat.le_of_ble_eq_true rfl) ⟨Nat.le_of_ble_eq_true rfl, Nat.le_of_ble_eq_true rfl⟩ ⟨Nat.le_of_ble_eq_true rfl, Nat.le_of_ble_eq_true rfl⟩ dJ0_length_8abf5_6 rfl (fun H locs hP hS => ?_)
  refine lv_ishr hx hb dJ0_length_8abf5_9 ?_
  have e0 : (zb_sl w >>> ((0 : Int32) &&& 31)) = zb_sl w := by
    rw [show ((0 : Int32) &&& 31) = 0 by decide]
    have h9 : ∀ w, w < 9 → (zb_sl w >>> (0 : Int32)) = zb_sl w := by decide
    exact h9 w hw
  rw [e0]
  exact zr_iret X hr hP hS dJ0_length_8abf5_10
theorem ct_J3_checkIndex_8e157n {g : zb_G} {nc : Nat} (l : Launch) {i n : Int32} (h0 : ¬ i < 0) (h1 : i < n) {C0 : Nat → va_E} : zb_Ct l g nc yJ3_checkIndex_8e157 cJ3_checkIndex_8e157 3 (some .int) 0 0 [.int i, .int n, .null] C0 (some (.int i)) C0 := by
  refine zb_ofWF (own := RJ3) (by decide +kernel) rfl (Nat.le_of_ble_eq_true rfl) ?_
  intro p e s m args below meth c ls X hr hP hl
  have hx := X.1.1
  have hb := X.1.2.1
  have ho := X.1.2.2.2.1
  have hts := X.1.2.2.2.2
  have hZ := X.2.2.2
  have hE := hZ.2.1.2.2
  have hS : va_S (zb_A g) s.heap s.heap [] := va_S.rf
  have hl : lv_has ls 3 [(0, .int i), (1, .int n), (2, .null)] := hl
  refine lv_iload_n hx hb dJ3_checkIndex_8e157_0 rfl (lv_at hl 0 rfl) ?_
  refine lv_if_lt (tgt := 9) hx hb dJ3_checkIndex_8e157_1 (by decide) (fun hc => absurd hc h0) (fun _ => ?_)
  refine lv_iload_n hx hb dJ3_checkIndex_8e157_4 rfl (lv_at hl 0 rfl) ?_
  refine lv_iload_n hx hb dJ3_checkIndex_8e157_5 rfl (lv_at hl 1 rfl) ?_
  refine lv_icmp_lt (tgt := 16) hx hb dJ3_checkIndex_8e157_6 (by decide) (fun _ => ?_) (fun hc => absurd h1 hc)
  refine lv_iload_n hx hb dJ3_checkIndex_8e157_16 rfl (lv_at hl 0 rfl) ?_
  exact zr_iret X hr hP hS dJ3_checkIndex_8e157_17
theorem ct_J3_checkIndex_8e157r {g : zb_G} {nc : Nat} (l : Launch) {i n : Int32} {t : Nat} (h0 : ¬ i < 0) (h1 : i < n) {C0 : Nat → va_E} : zb_Ct l g nc yJ3_checkIndex_8e157 cJ3_checkIndex_8e157 3 (some .int) 0 0 [.int i, .int n, (.ref t)] C0 (some (.int i)) C0 := by
  refine zb_ofWF (own := RJ3) (by decide +kernel) rfl (Nat.le_of_ble_eq_true rfl) ?_
  intro p e s m args below meth c ls X hr hP hl
  have hx := X.1.1
  have hb := X.1.2.1
  have ho := X.1.2.2.2.1
  have hts := X.1.2.2.2.2
  have hZ := X.2.2.2
  have hE := hZ.2.1.2.2
  have hS : va_S (zb_A g) s.heap s.heap [] := va_S.rf
  have hl : lv_has ls 3 [(0, .int i), (1, .int n), (2, (.ref t))] := hl
  refine lv_iload_n hx hb dJ3_checkIndex_8e157_0 rfl (lv_at hl 0 rfl) ?_
  refine lv_if_lt (tgt := 9) hx hb dJ3_checkIndex_8e157_1 (by decide) (fun hc => absurd hc h0) (fun _ => ?_)
  refine lv_iload_n hx hb dJ3_checkIndex_8e157_4 rfl (lv_at hl 0 rfl) ?_
  refine lv_iload_n hx hb dJ3_checkIndex_8e157_5 rfl (lv_at hl 1 rfl) ?_
  refine lv_icmp_lt (tgt := 16) hx hb dJ3_checkIndex_8e157_6 (by decide) (fun _ => ?_) (fun hc => absurd h1 hc)
  refine lv_iload_n hx hb dJ3_checkIndex_8e157_16 rfl (lv_at hl 0 rfl) ?_
  exact zr_iret X hr hP hS dJ3_checkIndex_8e157_17
theorem ct_J0_checkIndex_df160 {g : zb_G} {nc : Nat} (l : Launch) {i n : Int32} (h0 : ¬ i < 0) (h1 : i < n) {C0 : Nat → va_E} : zb_Ct l g nc yJ0_checkIndex_df160 cJ0_checkIndex_df160 2 none 1 30 [.int i, .int n] C0 none C0 := by
  refine zb_ofWF (own := RJ0) (by decide +kernel) rfl (Nat.le_of_ble_eq_true rfl) ?_
  intro p e s m args below meth c ls X hr hP hl
  have hx := X.1.1
  have hb := X.1.2.1
  have ho := X.1.2.2.2.1
  have hts := X.1.2.2.2.2
  have hZ := X.2.2.2
  have hE := hZ.2.1.2.2
  have hS : va_S (zb_A g) s.heap s.heap [] := va_S.rf
  have hl : lv_has ls 2 [(0, .int i), (1, .int n)] := hl
  refine lv_iload_n hx hb dJ0_checkIndex_df160_0 rfl (lv_at hl 0 rfl) ?_
  refine lv_iload_n hx hb dJ0_checkIndex_df160_1 rfl (lv_at hl 1 rfl) ?_
  rcases hZ.2.1.2.1 with q | ⟨t, q⟩
  · refine va_gets hx hb q hS ho (hts _ wf_J0_1053) (fun _ h => h) dJ0_checkIndex_df160_2 ?_
    refine zr_cSi (rest := []) (As := [.int i, .int n, .null]) X hP hS (ct_J3_checkIndex_8e157n (g := g) (nc := nc) l h0 h1) cw_J0_1059 rfl hl.1 (Nat.le_of_ble_eq_true rfl) ⟨Nat.le_of_ble_eq_true rfl, Nat.le_of_ble_eq_true rfl⟩ ⟨Nat.le_of_ble_eq_true rfl, Nat.le_of_ble_eq_true rfl⟩ dJ0_checkIndex_df160_5 rfl (fun H locs hP hS => ?_)
    refine lv_pop hx hb dJ0_checkIndex_df160_8 rfl ?_
    exact zr_vret X hr hP hS rfl dJ0_checkIndex_df160_9
  · refine va_gets hx hb q hS ho (hts _ wf_J0_1053) (fun _ h => h) dJ0_checkIndex_df160_2 ?_
    refine zr_cSi (rest := []) (As := [.int i, .int n, .ref t]) X hP hS (ct_J3_checkIndex_8e157r (g := g) (nc := nc) l h0 h1) cw_J0_1059 rfl hl.1 (Nat.le_of_ble_eq_true rfl) ⟨Nat.le_of_ble_eq_true rfl, Nat.le_of_ble_eq_true rfl⟩ ⟨Nat.le_of_ble_eq_true rfl, Nat.le_of_ble_eq_true rfl⟩ dJ0_checkIndex_df160_5 rfl (fun H locs hP hS => ?_)
    refine lv_pop hx hb dJ0_checkIndex_df160_8 rfl ?_
    exact zr_vret X hr hP hS rfl dJ0_checkIndex_df160_9
theorem zb_sc_e {w : Nat} {i v : Int32} (hw : w < 9) (h : zb_sc w i = some v) : ¬ i < 0 ∧ i < zb_sl w ∧ vp_in i (zb_len.getD w 0) ∧ (zb_byt.getD w []).getD i.toNatClampNeg 0 = v ∧ ((v &&& 255).toUInt32 % 65536).toInt32 = v ∧ narrow .char (.int v) = .int v := by
  unfold zb_sc at h
  split at h
  · cases h
  · next hc =>
    have h9 := Option.some.inj h
    have h0 : ¬ i < 0 := fun q => hc (Or.inl q)
    have h1 : i.toNatClampNeg < zb_len.getD w 0 := Nat.not_le.mp fun q => hc (Or.inr q)
    have hb : ∀ w, w < 9 → ∀ j, j < zb_len.getD w 0 → (((zb_byt.getD w []).getD j 0 &&& 255).toUInt32 % 65536).toInt32 = (zb_byt.getD w []).getD j 0 ∧ narrow .char (.int ((zb_byt.getD w []).getD j 0)) = .int ((zb_byt.getD w []).getD j 0) := by decide +kernel
    have hl : ∀ w, w < 9 → (zb_sl w).toInt = (zb_len.getD w 0 : Int) := by decide +kernel
    have hq := hb w hw _ h1
    rw [h9] at hq
    refine ⟨h0, ?_, hc, h9, hq⟩
    rw [Int32.lt_iff_toInt_lt, hl w hw]
    have hz0 : (0 : Int) ≤ i.toInt := by
      have := Int32.not_lt.mp h0
      simpa using Int32.le_iff_toInt_le.mp this
    have : i.toNatClampNeg = i.toInt.toNat := rfl
    omega
theorem ct_J1_charAt_3b067 {g : zb_G} {nc : Nat} (l : Launch) {w : Nat} (hw : w < 9) {i v : Int32} (hv : zb_sc w i = some v) {C0 : Nat → va_E} : zb_Ct l g nc yJ1_charAt_3b067 cJ1_charAt_3b067 2 (some .char) 2 55 [.ref (zb_aV g w), .int i] C0 (some (.int v)) C0 := by
  refine zb_ofWF (own := RJ1) (by decide +kernel) rfl (Nat.le_of_ble_eq_true rfl) ?_
  intro p e s m args below meth c ls X hr hP hl
  have hx := X.1.1
  have hb := X.1.2.1
  have ho := X.1.2.2.2.1
  have hts := X.1.2.2.2.2
  have hZ := X.2.2.2
  have hE := hZ.2.1.2.2
  have hS : va_S (zb_A g) s.heap s.heap [] := va_S.rf
  have hl : lv_has ls 2 [(0, .ref (zb_aV g w)), (1, .int i)] := hl
  obtain ⟨h0, h1, h2, h3⟩ := zb_sc_e hw hv
  refine lv_iload_n hx hb dJ1_charAt_3b067_0 rfl (lv_at hl 1 rfl) ?_
  refine lv_aload_n hx hb dJ1_charAt_3b067_1 rfl (lv_at hl 0 rfl) ?_
  refine va_tlen hx hb (hE.1 w hw).2.2.2 hS (v := zb_sl w) rfl dJ1_charAt_3b067_2 ?_
  refine zr_cSv (rest := []) (As := [.int i, .int (zb_sl w)]) X hP hS (ct_J0_checkIndex_df160 (g := g) (nc := nc) l h0 h1) cw_J1_9 rfl hl.1 (Nat.le_of_ble_eq_true rfl) ⟨Nat.le_of_ble_eq_true rfl, Nat.le_of_ble_eq_true rfl⟩ ⟨Nat.le_of_ble_eq_true rfl, Nat.le_of_ble_eq_true rfl⟩ dJ1_charAt_3b067_3 rfl (fun H locs hP hS => ?_)
  refine lv_aload_n hx hb dJ1_charAt_3b067_6 rfl (lv_at hl 0 rfl) ?_
  refine lv_iload_n hx hb dJ1_charAt_3b067_7 rfl (lv_at hl 1 rfl) ?_
  refine va_tb hx hb (hE.1 w hw).2.2.2 hS (v := .int v) h2 (congrArg Value.int h3.1) dJ1_charAt_3b067_8 ?_
  refine lv_sipush (v := (255 : Int32)) hx hb dJ1_charAt_3b067_9 (by decide) ?_
  refine lv_iand hx hb dJ1_charAt_3b067_12 ?_
  refine lv_i2c (v := v) hx hb dJ1_charAt_3b067_13 h3.2.1 ?_
  exact zr_zret X hr h3.2.2 hP hS dJ1_charAt_3b067_14
theorem ct_J0_charAt_5068e {g : zb_G} {nc : Nat} (l : Launch) {w : Nat} (hw : w < 9) {i v : Int32} (hv : zb_sc w i = some v) {C0 : Nat → va_E} : zb_Ct l g nc yJ0_charAt_5068e cJ0_charAt_5068e 2 (some .char) 3 80 [.ref (zb_aK g w), .int i] C0 (some (.int v)) C0 := by
  refine zb_ofWF (own := RJ0) (by decide +kernel) rfl (Nat.le_of_ble_eq_true rfl) ?_
  intro p e s m args below meth c ls X hr hP hl
  have hx := X.1.1
  have hb := X.1.2.1
  have ho := X.1.2.2.2.1
  have hts := X.1.2.2.2.2
  have hZ := X.2.2.2
  have hE := hZ.2.1.2.2
  have hS : va_S (zb_A g) s.heap s.heap [] := va_S.rf
  have hl : lv_has ls 2 [(0, .ref (zb_aK g w)), (1, .int i)] := hl
  refine lv_aload_n hx hb dJ0_charAt_5068e_0 rfl (lv_at hl 0 rfl) ?_
  refine zr_cVi (rest := []) (As := []) X hP hS (ct_J0_isLatin1_aae02 (g := g) (nc := nc) l hw) cw_J0_492 (vk_recv hE hw hS) rfl hl.1 (Nat.le_of_ble_eq_true rfl) ⟨Nat.le_of_ble_eq_true rfl, Nat.le_of_ble_eq_true rfl⟩ ⟨Nat.le_of_ble_eq_true rfl, Nat.le_of_ble_eq_true rfl⟩ dJ0_charAt_5068e_1 rfl (fun H locs hP hS => ?_)
  refine lv_if_eq (tgt := 16) hx hb dJ0_charAt_5068e_4 (by decide) (fun hc => absurd hc (by decide)) (fun _ => ?_)
  refine lv_aload_n hx hb dJ0_charAt_5068e_7 rfl (lv_at hl 0 rfl) ?_
  refine vk_getf hx hb (hE.1 w hw).2.2.1 hS ho (hts _ wf_J0_9) (fun _ h => h) dJ0_charAt_5068e_8 ?_
  refine lv_iload_n hx hb dJ0_charAt_5068e_11 rfl (lv_at hl 1 rfl) ?_
  refine zr_cSi (rest := []) (As := [.ref (zb_aV g w), .int i]) X hP hS (ct_J1_charAt_3b067 (g := g) (nc := nc) l hw hv) cw_J0_495 rfl hl.1 (Nat.le_of_ble_eq_true rfl) ⟨Nat.le_of_ble_eq_true rfl, Nat.le_of_ble_eq_true rfl⟩ ⟨Nat.le_of_ble_eq_true rfl, Nat.le_of_ble_eq_true rfl⟩ dJ0_charAt_5068e_12 rfl (fun H locs hP hS => ?_)
  exact zr_zret X hr (zb_sc_e hw hv).2.2.2.2.2 hP hS dJ0_charAt_5068e_15
section SC
variable {p : Program} {l : Launch} {e : Env} {R : Room} {s : State} {m : MethodId} {args : Array Value} {below : List Frame} {meth : Method} {c : Code} {H : Heap} {locs : List Loc} {cells slots : Nat} {Q : State → Prop}
variable {cc : ByteArray} {nL : Nat} {g : zb_G} {nc : Nat} {C0 : Nat → va_E} {pc : Nat} {ls : Array Slot} {rest : List Value}

theorem zr_slenK_X2 (X : zb_X g p m c cc nL s args RX2 meth) (hP : va_P g.1 vwCl (zb_ws g nc C0) H) (hS : va_S (zb_A g) s.heap H locs) {w : Nat} (hw : w < 9) (hsz : ls.size = nL) (hW : (rest.map fun v => v.category).sum ≤ 8) (hR : 5 ≤ R.frames ∧ 125 ≤ R.locals) (hcs : cells ≤ R.cells ∧ slots ≤ R.slots) (hdg : decode cc pc = .ok (.invokevirtual 73, 3))
    (kk : ∀ (H1 : Heap) (locs1 : List Loc), va_P g.1 vwCl (zb_ws g nc C0) H1 → va_S (zb_A g) s.heap H1 locs1 → W p l e R s m args below meth c H1 locs1 cells slots Q (F0 m (pc + 3) ls (.int (zb_sl w) :: rest))) : W p l e R s m args below meth c H locs cells slots Q (F0 m pc ls (.ref (zb_aK g w) :: rest)) :=
  zr_cVi (As := []) X hP hS (ct_J0_length_8abf5 (g := g) (nc := nc) l hw) cw_X2_73 (vk_recv X.2.2.2.2.1.2.2 hw hS) rfl hsz hW ⟨by omega, by omega⟩ hcs hdg rfl kk
theorem zr_charK_X2 (X : zb_X g p m c cc nL s args RX2 meth) (hP : va_P g.1 vwCl (zb_ws g nc C0) H) (hS : va_S (zb_A g) s.heap H locs) {w : Nat} (hw : w < 9) {i v : Int32} (hv : zb_sc w i = some v) (hsz : ls.size = nL) (hW : (rest.map fun v => v.category).sum ≤ 8) (hR : 5 ≤ R.frames ∧ 125 ≤ R.locals) (hcs : cells ≤ R.cells ∧ slots ≤ R.slots) (hdg : decode cc pc = .ok (.invokevirtual 78, 3))
    (kk : ∀ (H1 : Heap) (locs1 : List Loc), va_P g.1 vwCl (zb_ws g nc C0) H1 → va_S (zb_A g) s.heap H1 locs1 → W p l e R s m args below meth c H1 locs1 cells slots Q (F0 m (pc + 3) ls (.int v :: rest))) : W p l e R s m args below meth c H locs cells slots Q (F0 m pc ls (.int i :: .ref (zb_aK g w) :: rest)) :=
  zr_cVi (As := [.int i]) X hP hS (ct_J0_charAt_5068e (g := g) (nc := nc) l hw hv) cw_X2_78 (vk_recv X.2.2.2.2.1.2.2 hw hS) rfl hsz hW ⟨by omega, by omega⟩ hcs hdg rfl kk
theorem zr_slenK_X8 (X : zb_X g p m c cc nL s args RX8 meth) (hP : va_P g.1 vwCl (zb_ws g nc C0) H) (hS : va_S (zb_A g) s.heap H locs) {w : Nat} (hw : w < 9) (hsz : ls.size = nL) (hW : (rest.map fun v => v.category).sum ≤ 8) (hR : 5 ≤ R.frames ∧ 125 ≤ R.locals) (hcs : cells ≤ R.cells ∧ slots ≤ R.slots) (hdg : decode cc pc = .ok (.invokevirtual 102, 3))
    (kk : ∀ (H1 : Heap) (locs1 : List Loc), va_P g.1 vwCl (zb_ws g nc C0) H1 → va_S (zb_A g) s.heap H1 locs1 → W p l e R s m args below meth c H1 locs1 cells slots Q (F0 m (pc + 3) ls (.int (zb_sl w) :: rest))) : W p l e R s m args below meth c H locs cells slots Q (F0 m pc ls (.ref (zb_aK g w) :: rest)) :=
  zr_cVi (As := []) X hP hS (ct_J0_length_8abf5 (g := g) (nc := nc) l hw) cw_X8_102 (vk_recv X.2.2.2.2.1.2.2 hw hS) rfl hsz hW ⟨by omega, by omega⟩ hcs hdg rfl kk
theorem zr_charK_X8 (X : zb_X g p m c cc nL s args RX8 meth) (hP : va_P g.1 vwCl (zb_ws g nc C0) H) (hS : va_S (zb_A g) s.heap H locs) {w : Nat} (hw : w < 9) {i v : Int32} (hv : zb_sc w i = some v) (hsz : ls.size = nL) (hW : (rest.map fun v => v.category).sum ≤ 8) (hR : 5 ≤ R.frames ∧ 125 ≤ R.locals) (hcs : cells ≤ R.cells ∧ slots ≤ R.slots) (hdg : decode cc pc = .ok (.invokevirtual 107, 3))
    (kk : ∀ (H1 : Heap) (locs1 : List Loc), va_P g.1 vwCl (zb_ws g nc C0) H1 → va_S (zb_A g) s.heap H1 locs1 → W p l e R s m args below meth c H1 locs1 cells slots Q (F0 m (pc + 3) ls (.int v :: rest))) : W p l e R s m args below meth c H locs cells slots Q (F0 m pc ls (.int i :: .ref (zb_aK g w) :: rest)) :=
  zr_cVi (As := [.int i]) X hP hS (ct_J0_charAt_5068e (g := g) (nc := nc) l hw hv) cw_X8_107 (vk_recv X.2.2.2.2.1.2.2 hw hS) rfl hsz hW ⟨by omega, by omega⟩ hcs hdg rfl kk
end SC
