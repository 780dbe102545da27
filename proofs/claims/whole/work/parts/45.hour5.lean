/-! THE END OF AN HOUR: THE ACT -/
set_option maxHeartbeats 2000000 in
theorem act_end {E : Nat} {I J : Mem} (hR : RelB E I J) (hE : E < 2 ^ 28) : ∃ v I' J', fX7_endHour I = some (v, I') ∧ fX8_endsHour J = some (v, J') ∧ RelB (E + 1) I' J' ∧ J' 306 0 = J 306 0 ∧ J' 307 0 = J 307 0 := by
  obtain ⟨c, e, ⟨hc2, h10, h30, he⟩, ⟨J0, -, -⟩, ⟨I0, -⟩, hW⟩ := hR.at (by omega)
  obtain ⟨I1, J1, b1, b2, b3, b4, b5, b6⟩ := begin_at hR
  have hW1 : EW c e I1 1 (J1 307) := by rw [b5]; exact hW.bI b4
  have hr : e % 24 < 24 := Nat.mod_lt _ (by omega)
  have I17 : I1 1 7 = nI e := hW1.2.1.2.2.2.2.2.1.trans hW1.1.1.2.2.2.1
  have J16 : J1 307 6 = nI (min e 24) := hW1.1.1.2.2.2.2.1
  have J10 : J1 307 0 = nI c := hW1.1.1.2.2.1
  -- the class opens a row and tells its level
  obtain ⟨I2, o1, o2, o16, o20, o21, o22, o23, o24⟩ := open_e hW1 (by omega)
  have hVT : ∀ i, c ≤ i → bt (bsl (rpB (J1 307) 0) 0 c 0) i = false := fun i hi => bsl_hi (by omega) hi
  have hvb : ∀ j, j < c → bd (-10098) 10098 (vnow (J1 307) j) := fun j hj => vnow_bd hW1.1.2.1 hj
  have hok : tOk c (bsl (rpB (J1 307) 0) 0 c 0) (qV (J1 307)) (vnow (J1 307)) := ⟨h10, fun j hj _ => ⟨(hW1.1.2.1 j hj).1, hvb j hj⟩⟩
  obtain ⟨I3, t1, t2, t3, t4, t5⟩ := telL (r := e % 24) (c := c) (s := bsl (rpB (J1 307) 0) 0 c 0) (tol := J1 307 1) (V := qV (J1 307)) (W := vnow (J1 307)) (I := I2) hr o16 hVT (fun i hi => (o2 _ _ (by omega) (by omega)).trans (hW1.2.2.1 i hi).2.1) (fun i hi _ => o24 i hi) hok hW1.bt1 ((o2 _ _ (by omega) (by omega)).trans hW1.2.1.2.1)
  -- the reference takes the reporters and tells the level
  obtain ⟨Ja, ra1, ra2, ra3⟩ := rp_e (t := -1) (J := J1) h10 J10 rfl
  have fa : Ja 307 = J1 307 := funext fun j => ra2 _ _ (by decide)
  obtain ⟨Jb, rb1, rb2, rb3⟩ := rp_e (t := 1) (J := Ja) h10 J10 fa
  have fb : Jb 307 = J1 307 := (funext fun j => rb2 _ _ (by decide) : Jb 307 = Ja 307).trans fa
  obtain ⟨Jc, rc1, rc2, rc3⟩ := rp_e (t := 0) (J := Jb) h10 J10 fb
  have fc : Jc 307 = J1 307 := (funext fun j => rc2 _ _ (by decide) : Jc 307 = Jb 307).trans fb
  have hHB : bsl (rpB (J1 307) (-1)) 0 c 0 = bsl (hasB (J1 307)) 0 c 0 := bsl_cong fun i hi => by unfold rpB; simp
  obtain ⟨Jd, d1, d2, d3, d4, d5⟩ := tells_e (c := c) (s := bsl (rpB (J1 307) 0) 0 c 0) (tol := J1 307 1) (V := qV (J1 307)) (W := vnow (J1 307)) (J := Jc) (by rw [fc]; exact J10) (by rw [fc]) (fun i hi => by rw [fc]; rfl) (fun i hi _ => rc3 i hi) hok
  have fd : Jd 307 = J1 307 := (funext fun j => d2 _ _ (by omega) : Jd 307 = Jc 307).trans fc
  have hlb := lev_bd (tol := J1 307 1) (m := tMid c (bsl (rpB (J1 307) 0) 0 c 0) (qV (J1 307)) (vnow (J1 307)) 100000) hok
  have hsb : ∀ i, bt (tSup c (bsl (rpB (J1 307) 0) 0 c 0) (vnow (J1 307)) (J1 307 1) (tMid c (bsl (rpB (J1 307) 0) 0 c 0) (qV (J1 307)) (vnow (J1 307)) 100000)) i = true → bt (bsl (rpB (J1 307) 0) 0 c 0) i = true := fun i hi => (sup_sub h10 i hi).1
  generalize tSup c (bsl (rpB (J1 307) 0) 0 c 0) (vnow (J1 307)) (J1 307 1) (tMid c (bsl (rpB (J1 307) 0) 0 c 0) (qV (J1 307)) (vnow (J1 307)) 100000) = Su at *
  generalize tHas c (bsl (rpB (J1 307) 0) 0 c 0) (qV (J1 307)) (vnow (J1 307)) (J1 307 1) (tMid c (bsl (rpB (J1 307) 0) 0 c 0) (qV (J1 307)) (vnow (J1 307)) 100000) = Ha at *
  generalize tLev c (bsl (rpB (J1 307) 0) 0 c 0) (qV (J1 307)) (vnow (J1 307)) (J1 307 1) (tMid c (bsl (rpB (J1 307) 0) 0 c 0) (qV (J1 307)) (vnow (J1 307)) 100000) = Le at *
  have i3 : ∀ q i, q ≤ 15 → I3 q i = I1 q i := fun q i h => (t2 q i (by omega) (by omega)).trans (o2 q i (by omega) (by omega))
  have fW3 : EWf c e I3 (Jd 307) := by
    rw [fd]
    exact ⟨hW1.1.1, hW1.1.2.1, hW1.2.1.cg h10 (fun j h1 h2 => i3 _ _ (by omega)) (i3 _ _ (by omega)) (i3 _ _ (by omega)) (i3 _ _ (by omega)) (fun _ _ _ _ => rfl) (fun _ _ _ => rfl) (fun _ _ _ => rfl), hW1.2.2.1.cg h10 (fun q j h1 h2 h3 => i3 _ _ (by omega)) (fun _ _ _ _ => rfl)⟩
  -- the buoys
  have fl : ∃ g I8 J8, (if I3 18 (e % 24) = (1 : Int32) then Option.bind (fX5_countStrikes 1 (nI (e % 24)) I3) fun I6 => Option.bind (fX5_countAgreed 1 (nI (e % 24)) I6) fun I7 => Option.bind (fX5_trustAgain 1 I7) fun I8 => ob2 (fX5_dragVoters 1 (nI (e % 24)) I8) fun x9 I10 => some (x9, I10) else some ((0 : Int32), I3)) = some (g, I8) ∧ (if (Jd 306 20) = 0 then some ((0 : Int32), Jd) else Option.bind (fX8_strikes (bsl (rpB (J1 307) 0) 0 c 0) Jd) fun J8 => Option.bind (fX8_agrees (bsl (rpB (J1 307) 1) 0 c 0) J8) fun J9 => ob2 (fX8_dragsOff (bsl (rpB (J1 307) 0) 0 c 0) J9) fun x10 J11 => some (x10, J11)) = some (g, J8) ∧ EWf c e I8 (J8 307) ∧ (∀ k i, ¬ (7 ≤ k ∧ k ≤ 10) → I8 k i = I3 k i) ∧ (∀ k i, ¬ (k = 307 ∧ 52 ≤ i ∧ i < 92) → J8 k i = Jd k i) ∧ (∀ i, c ≤ i → bt g i = false) := by
    rw [t4, d4]
    cases Ha
    · refine ⟨0, I3, Jd, ?_, ?_, fW3, fun _ _ _ => rfl, fun _ _ _ => rfl, fun i _ => b_0 i⟩
      · rw [b2i_f, if_neg n01]
      · rw [b2i_f, if_pos e00]
    · rw [b2i_t, if_pos e11, if_neg n10]
      exact fleet_e hr fd fW3 hsb t3 ((t2 _ _ (by omega) (by omega)).trans o16) d3 t5 d5 hlb ((t2 _ _ (by omega) (by omega)).trans o20) ((t2 _ _ (by omega) (by omega)).trans o21) (fun j hj => ⟨(t2 _ _ (by omega) (by omega)).trans (o24 j hj), (d2 _ _ (by omega)).trans (rc3 j hj)⟩)
  obtain ⟨g, I8, J8, fl1, fl2, fl3, fl4, fl5, fl6⟩ := fl
  -- the reference's new row
  obtain ⟨Jn, n1, n2, n3, n4, n5⟩ := nh_e (e := e) (J := J8) (by omega) ((fl5 _ _ (by omega)).trans (by rw [fd]; exact J16))
  have hpb : hp (e + 1) e + 18 ≤ 574 ∧ 142 ≤ hp (e + 1) e := by unfold hp; omega
  have jn5 : Jn 307 5 = nI e := by rw [n2 _ _ (by omega), fl5 _ _ (by omega), fd]; exact hW1.1.1.2.2.2.1
  have Jo : ∃ M, wr (wr (wr (wr Jn 307 5 (nI (e + 1))) 307 (hp (e + 1) e) (bsl (rpB (J1 307) 0) 0 c 0)) 307 (hp (e + 1) e + 3) (bsl (hasB (J1 307)) 0 c 0)) 307 (hp (e + 1) e + 6) (bsl (rpB (J1 307) 1) 0 c 0) = M := ⟨_, rfl⟩
  obtain ⟨Jp, hJp⟩ := Jo
  have jpo : ∀ q i, ¬ (q = 307 ∧ (i = 5 ∨ i = hp (e + 1) e ∨ i = hp (e + 1) e + 3 ∨ i = hp (e + 1) e + 6)) → Jp q i = Jn q i := fun q i h => by
    rw [← hJp, wr_n (by omega), wr_n (by omega), wr_n (by omega), wr_n (by omega)]
  have nv : ∀ q i, q ≠ 307 → Jp q i = Jd q i := fun q i h => by rw [jpo q i (by omega), n2 q i (by omega), fl5 q i (by omega)]
  have jp0 : Jp 307 0 = nI c := by rw [jpo _ _ (by omega), n2 _ _ (by omega), fl5 _ _ (by omega), fd]; exact J10
  obtain ⟨Jq, v1, v2, v3, v4⟩ := va_L (a := hp (e + 1) e) (vv := vnow (J1 307)) (a4 := g) h10 hpb.1 (by omega) 10 0 zF Jp rfl (zF_g (by omega)) jp0 (fun j hj => by rw [nv _ _ (by omega), d2 _ _ (by omega)]; exact rc3 j hj)
  have jq5 : Jq 307 5 = nI (e + 1) := by rw [v2 _ _ (by omega), ← hJp, wr_n (by omega), wr_n (by omega), wr_n (by omega), wr_s]
  have jq6 : Jq 307 6 = nI (min (e + 1) 24) := by rw [v2 _ _ (by omega), jpo _ _ (by omega), n3]
  have kee : kept (e + 1) e := by unfold kept; omega
  have kl := keep8 (e := e + 1) (h := e) (J := Jq) (b := Ha) (by omega) kee jq5 jq6 (by rw [v2 _ _ (by omega), nv _ _ (by omega), d4])
  have q19 : Jq 306 19 = Su := by rw [v2 _ _ (by omega), nv _ _ (by omega), d3]
  have q21 : Jq 306 21 = Le := by rw [v2 _ _ (by omega), nv _ _ (by omega), d5]
  rw [q19, q21] at kl
  have Jr' : ∃ M, wr (wr (wr Jq 307 (hp (e + 1) e + 1) Su) 307 (hp (e + 1) e + 2) (b2i Ha)) 307 (hp (e + 1) e + 5) Le = M := ⟨_, rfl⟩
  obtain ⟨Jr, hJr⟩ := Jr'
  rw [hJr] at kl
  have Is' : ∃ M, wr I8 1 7 (nI (e + 1)) = M := ⟨_, rfl⟩
  obtain ⟨Is, hIs⟩ := Is'
  have i87 : I8 1 7 = nI e := by rw [fl4 _ _ (by omega), i3 _ _ (by omega)]; exact I17
  have i83 : ∀ q i, 11 ≤ q → I8 q i = I3 q i := fun q i h => fl4 q i (by omega)
  have is3 : ∀ q i, 11 ≤ q → Is q i = I3 q i := fun q i h => by rw [← hIs, wr_n (by omega), i83 q i h]
  have hWs : EW c (e + 1) Is 1 (Jr 307) := by
    refine ew_new (I1 := I1) (I8 := I8) (F := J1 307) (G := J8 307) (VT := bsl (rpB (J1 307) 0) 0 c 0) (S := Su) (HB := bsl (hasB (J1 307)) 0 c 0) (SU := bsl (rpB (J1 307) 1) 0 c 0) (lev := Le) (ha := Ha) hW1 fl3 (by omega) (fun q i h1 h2 => (i83 q i h1).trans (i3 q i (by omega))) (fun i h => (fl5 _ _ (by omega)).trans (by rw [fd]))
      (fun q i h1 h2 h3 => by rw [← hIs, wr_n (by omega)]) (by rw [← hIs, wr_s]) (fun q x h1 h2 h3 => ?_) (fun i h => ?_)
      ?_ ?_ ?_ ?_ ?_ ?_ ?_ ?_ (fun j hj => ?_) (fun i h1 h2 h3 => ?_) ?_ ?_ (fun h k h1 h2 h3 => ?_) ?_ ?_ ?_ ?_ ?_ ?_ ?_ (fun j hj => ?_) rfl rfl rfl hlb
    · rw [is3 q x (by omega), t2 q x (by omega) (by omega), o2 q x (by omega) (by omega)]
    · rw [is3 _ _ (by omega), t2 _ _ (by omega) (by omega), o2 _ _ (by omega) (by omega)]
    · rw [is3 _ _ (by omega), t2 _ _ (by omega) (by omega)]; exact o16
    · rw [is3 _ _ (by omega)]; exact t3
    · rw [is3 _ _ (by omega)]; exact t4
    · rw [is3 _ _ (by omega)]; exact t5
    · rw [is3 _ _ (by omega), t2 _ _ (by omega) (by omega)]; exact o20
    · rw [is3 _ _ (by omega), t2 _ _ (by omega) (by omega)]; exact o21
    · rw [is3 _ _ (by omega), t2 _ _ (by omega) (by omega)]; exact o22
    · rw [is3 _ _ (by omega), t2 _ _ (by omega) (by omega)]; exact o23
    · rw [is3 _ _ (by omega), t2 _ _ (by omega) (by omega)]; exact o24 j hj
    · rw [← hJr, wr_n (by omega), wr_n (by omega), wr_n (by omega), v2 _ _ (by omega), jpo _ _ (by omega), n2 _ _ (by omega)]
    · rw [← hJr, wr_n (by omega), wr_n (by omega), wr_n (by omega)]; exact jq5
    · rw [← hJr, wr_n (by omega), wr_n (by omega), wr_n (by omega)]; exact jq6
    · have hb : hp (e + 1) h + 18 ≤ hp (e + 1) e ∧ 142 ≤ hp (e + 1) h := by unfold hp; omega
      have hb2 : 142 ≤ hp e h := by unfold hp; omega
      rw [← hJr, wr_n (by omega), wr_n (by omega), wr_n (by omega), v2 _ _ (by omega), jpo _ _ (by omega), n4 h k h1 h2 h3, fl5 _ _ (by omega), fd]
    · rw [← hJr, wr_n (by omega), wr_n (by omega), wr_n (by omega), v2 _ _ (by omega), ← hJp, wr_n (by omega), wr_n (by omega), wr_s]
    · rw [← hJr, wr_n (by omega), wr_n (by omega), wr_s]
    · rw [← hJr, wr_n (by omega), wr_s]
    · rw [← hJr, wr_n (by omega), wr_n (by omega), wr_n (by omega), v2 _ _ (by omega), ← hJp, wr_n (by omega), wr_s]
    · rw [← hJr, wr_n (by omega), wr_n (by omega), wr_n (by omega), v2 _ _ (by omega), jpo _ _ (by omega), n5 4 (by omega)]
    · rw [← hJr, wr_s]
    · rw [← hJr, wr_n (by omega), wr_n (by omega), wr_n (by omega), v2 _ _ (by omega), ← hJp, wr_s]
    · rw [← hJr, wr_n (by omega), wr_n (by omega), wr_n (by omega), v3 j (by omega) hj]
  -- what is told anew
  have hfh : fX8_firstHour Jr = some (nI (e + 1 - 24)) := fh_e hWs.1.1.2.2.2.1 hWs.1.1.2.2.2.2.1 (by omega)
  obtain ⟨It, Jt, x1, x2, x3, x4, x5⟩ := to_L (g := g) (by omega) (min (e + 1) 24) (e + 1 - 24) zF zF Is Jr (by omega) (by omega) (zF_g (by omega)) (zF_g (by omega)) hWs
  -- reports are forgotten
  obtain ⟨Iu, y1, y2, y3⟩ := fg7_L 10 0 zF (wr It 2 1 0) rfl (zF_g (by omega))
  obtain ⟨Ju, z1, z2, z3⟩ := fg8_L (a4 := g) 10 0 zF Jt rfl (zF_g (by omega))
  have hWu : EW c (e + 1) Iu 1 (Ju 307) := ew_forget x3 (fun q i h1 h2 => by rw [y2 q i h1, wr_n h2]) (by rw [y2 _ _ (by omega), wr_s]) (fun i hi => by rw [y3 i hi, if_pos (Nat.zero_le _)]) (fun i h => z2 _ _ (by omega)) (fun i hi => ⟨by rw [(z3 i hi).1, if_pos (Nat.zero_le _)], by rw [(z3 i hi).2, if_pos (Nat.zero_le _)]⟩)
  refine ⟨pc10 g, Iu, Ju, ?_, ?_, RelB.set (by omega) b3 (fun q i h1 h2 => ?_) (fun q i h1 h2 => ?_) ⟨c, e + 1, by omega, hWu⟩, ?_, ?_⟩
  · unfold fX7_endHour
    rw [b1, ob_s, o1, ob2_some, t1, ob_s, ald_n hr (by omega), ob_s, fl1, ob2_some, i87, nI_1, hIs]
    unfold fX5_takeOut fX0_forgetReports
    rw [fk_e (b := 1) (I := Is) (e := e + 1) (by rw [← hIs, wr_s]) (by omega), ob_s, x1, ob_s, ob_s, show fX0_forgetReports_L7 1 zF 0 (wr It (1 + 1) 1 0) = _ from y1, ob_s, ob_s, bc_e (fun i hi => fl6 i (by omega))]
    rfl
  · unfold fX8_endsHour fX8_ends
    rw [b2, ob_s, ra1, ob2_some, rb1, ob2_some, rc1, ob2_some, d1, ob_s, fl2, ob2_some, n1, ob2_some, show ald Jn 307 574 5 = some (nI e) from (ald_n (j := 5) (by omega) (by omega)).trans (by rw [jn5]), ob_s, nI_1, show ast Jn 307 574 5 (nI (e + 1)) = some (wr Jn 307 5 (nI (e + 1))) from ast_n (j := 5) (by omega) (by omega), ob_s, hHB]
    rw [show ∀ (M : Mem) v, ast M 307 574 (nI (hp (e + 1) e) + 0) v = some (wr M 307 (hp (e + 1) e) v) from fun M v => by rw [Int32.add_zero]; exact ast_n (by omega) (by omega), ob_s, show ∀ (M : Mem) v, ast M 307 574 (nI (hp (e + 1) e) + 3) v = some (wr M 307 (hp (e + 1) e + 3) v) from fun M v => by rw [L3, nI_add]; exact ast_n (by omega) (by omega), ob_s, show ∀ (M : Mem) v, ast M 307 574 (nI (hp (e + 1) e) + 6) v = some (wr M 307 (hp (e + 1) e + 6) v) from fun M v => by rw [L6, nI_add]; exact ast_n (by omega) (by omega), ob_s, hJp, show fX8_ends_L100 (nI (hp (e + 1) e)) g zF 0 Jp = _ from v1, ob_s, show ald Jq 307 574 5 = some (nI (e + 1)) from (ald_n (j := 5) (by omega) (by omega)).trans (by rw [jq5]), ob_s, nI_sub1 (by omega) (by omega), show e + 1 - 1 = e by omega, kl, ob_s]
    unfold fX8_takesOut
    rw [hfh, ob_s, x2, ob_s, ob_s, show fX8_ends_L169 g zF 0 Jt = _ from z1, ob_s, bits8]
    rfl
  · have hq : ¬ (52 ≤ q ∧ q ≤ 54) := fun h => h2 (by unfold qI; omega)
    by_cases h0 : q = 0 ∨ 25 ≤ q
    · rw [y2 q i (by omega), wr_n (by omega), x4 q i (by omega) hq, ← hIs, wr_n (by omega), fl4 q i (by omega), t2 q i hq (by omega), o2 q i (by omega) (by omega)]
    · omega
  · have hq : ¬ (q = 315) ∧ ¬ (q = 306 ∧ 19 ≤ i ∧ i ≤ 21) := ⟨fun h => h2 (by unfold qJ; omega), fun h => h2 (by unfold qJ; omega)⟩
    rw [z2 q i (by omega), x5 q i h1 hq.1 hq.2, ← hJr, wr_n (by omega), wr_n (by omega), wr_n (by omega), v2 q i (by omega), nv q i h1, d2 q i (by omega), rc2 q i hq.1, rb2 q i hq.1, ra2 q i hq.1]
  · rw [z2 _ _ (by omega), x5 _ _ (by omega) (by omega) (by omega), ← hJr, wr_n (by omega), wr_n (by omega), wr_n (by omega), v2 _ _ (by omega), nv _ _ (by omega), d2 _ _ (by omega), rc2 _ _ (by omega), rb2 _ _ (by omega), ra2 _ _ (by omega)]
    exact b6
  · rw [hWu.1.1.2.2.1, J0]
theorem q_30 : eqP_30 Rel := by
  intro n I J hn hR _
  obtain ⟨v, I', J', r1, r2, r3, -⟩ := act_end (E := 7 * n) (RelB.cong (Nat.le_refl _) (fun _ _ _ => rfl) (fun k j hq => by
    have : ¬ (k = 306 ∧ j = 0) := fun hh => hq (by unfold qJ; omega)
    exact wr_n this) hR : RelB (7 * n) I (wr J 306 0 0)) (by omega)
  refine ⟨v, I', J', r1, ?_, RelB.cong (by omega) (fun _ _ _ => rfl) (fun _ _ _ => rfl) r3⟩
  unfold fX8_endHour
  rw [r2]
  rfl
