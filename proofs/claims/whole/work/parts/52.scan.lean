/-! THE CLASS READS THE TOKENS OF A TEXT -/
theorem imin_n {a b : Nat} (ha : a < 2 ^ 31) (hb : b < 2 ^ 31) : imin (nI a) (nI b) = nI (min a b) := by
  unfold imin
  simp only [nI_ltP hb ha]
  split
  · rw [Nat.min_eq_right (by omega)]
  · rw [Nat.min_eq_left (by omega)]
def CX (T : Nat → Nat) (L : Nat) (I : Mem) : Prop := L ≤ 500 ∧ I 56 1 = nI L ∧ ∀ i, i < L → 1 ≤ T i ∧ T i ≤ 255 ∧ I 57 i = nI (T i)
theorem CX.cong {T : Nat → Nat} {L : Nat} {I I' : Mem} (h1 : I' 56 1 = I 56 1) (h2 : ∀ j, I' 57 j = I 57 j) (h : CX T L I) : CX T L I' :=
  ⟨h.1, h1.trans h.2.1, fun i hi => by rw [h2]; exact h.2.2 i hi⟩
section SC
variable {T : Nat → Nat} {L : Nat} {I : Mem}
theorem kob_e (h : CX T L I) {p : Nat} (hp : p < 2 ^ 31) : fX2_kindOfByte (nI p) I = some (nI (kb T L p)) := by
  obtain ⟨hL, h1, h2⟩ := h
  unfold fX2_kindOfByte
  obtain ⟨t, ht, e1, e2⟩ : ∃ t, t < 256 ∧ (if nI p < 0 then some (32 : Int32) else if I 56 1 ≤ nI p then some 32 else Option.bind (ald I 57 500 (nI p)) fun x1 => some x1) = some (nI t) ∧ kb T L p = kbt t := by
    rw [if_neg (nI_pos hp), h1]
    simp only [nI_leP (show L < 2 ^ 31 by omega) hp]
    by_cases hpL : L ≤ p
    · rw [if_pos hpL]
      exact ⟨32, by omega, rfl, by rw [kb_hi hpL]; rfl⟩
    · rw [if_neg hpL, ald_n (by omega) (by omega), ob_s]
      obtain ⟨a1, a2, a3⟩ := h2 p (by omega)
      exact ⟨T p, by omega, by rw [a3], if_pos (by omega)⟩
  rw [e1, e2]
  clear e1 e2 h1 h2
  revert t ht
  decide +kernel
theorem zb_sl_n (w : Nat) : zb_sl w = nI (wl w) := rfl
theorem wl_6 : ∀ w, w < 9 → 4 ≤ wl w ∧ wl w ≤ 6 := by decide +kernel
theorem zb_sc_n {w i : Nat} (hw : w < 9) (hi : i < wl w) : zb_sc w (nI i) = some (wc w i) := by
  have := wl_6 w hw
  unfold zb_sc
  rw [nI_clamp (by omega), if_neg]
  · rfl
  · rintro (h | h)
    · exact nI_pos (by omega) h
    · unfold wl at hi; omega
theorem sp_L (h : CX T L I) {w p : Nat} (hw : w < 9) (hp : p + wl w ≤ L) : ∀ (d i n : Nat), i + d = wl w → d < n → fX2_spells_L30 w (nI p) n (nI i) I = some (if ∀ x, x < wl w → i ≤ x → nI (T (p + x)) = wc w x then (0, 0) else (1, 0)) := by
  have hL := h.1
  have hw6 := wl_6 w hw
  intro d
  induction d with
  | zero =>
    intro i n hi hn
    obtain ⟨n, rfl⟩ := fuel hn
    rw [fX2_spells_L30, zb_sl_n, if_pos (by rw [nI_leP (by omega) (by omega)]; omega), if_pos (fun x h1 h2 => by omega)]
  | succ d ih =>
    intro i n hi hn
    obtain ⟨n, rfl⟩ := fuel hn
    obtain ⟨-, -, e⟩ := h.2.2 (p + i) (by omega)
    rw [fX2_spells_L30, zb_sl_n, if_neg (by rw [nI_leP (by omega) (by omega)]; omega), nI_addn, ald_n (by omega) (by omega), ob_s, zb_sc_n hw (by omega), ob_s, e]
    by_cases hx : nI (T (p + i)) = wc w i
    · rw [if_pos hx, nI_1, ih (i + 1) n (by omega) (by omega)]
      congr 1
      by_cases hy : ∀ x, x < wl w → i + 1 ≤ x → nI (T (p + x)) = wc w x
      · rw [if_pos hy, if_pos]
        intro x h1 h2
        by_cases hxi : x = i
        · rw [hxi]; exact hx
        · exact hy x h1 (by omega)
      · rw [if_neg hy, if_neg (fun q => hy (fun x h1 h2 => q x h1 (by omega)))]
    · rw [if_neg hx, if_neg (fun q => hx (q i (by omega) (Nat.le_refl _)))]
theorem spells_e (h : CX T L I) {w p : Nat} (hw : w < 9) (hp : p ≤ L) : fX2_spells w (nI p) I = some (b2i (isW T L w p)) := by
  have hL := h.1
  have hw6 := wl_6 w hw
  unfold fX2_spells isW
  rw [h.2.1, zb_sl_n, nI_addn]
  by_cases h1 : p + wl w ≤ L
  · rw [if_neg (by rw [nI_ltP (by omega) (by omega)]; omega), kob_e h (by omega), ob_s]
    by_cases h2 : kb T L (p + wl w) = 6
    · rw [if_pos (by rw [h2]; rfl), decide_eq_false (fun q => q.2.1 h2)]
      rfl
    · have h6 := @kb_6 T L (p + wl w)
      rw [if_neg (show ¬ nI (kb T L (p + wl w)) = 6 from fun q => h2 ((nI_eqP (b := 6) (by omega) (by omega)).mp q)), show fX2_spells_L30 w (nI p) zF 0 I = _ from sp_L h hw h1 (wl w) 0 zF (by omega) (zF_g (by omega))]
      by_cases h3 : ∀ x, x < wl w → 0 ≤ x → nI (T (p + x)) = wc w x
      · rw [if_pos h3, decide_eq_true ⟨h1, h2, fun i hi => h3 i hi (Nat.zero_le _)⟩]
        rfl
      · rw [if_neg h3, decide_eq_false (fun q => h3 (fun x hx _ => q.2.2 x hx))]
        rfl
  · rw [if_pos (by rw [nI_ltP (by omega) (by omega)]; omega), decide_eq_false (fun q => h1 q.1)]
    rfl
theorem wordAt_e (h : CX T L I) {p : Nat} (hp : p ≤ L) : fX2_wordAt (nI p) I = some (nI (wd T L p)) := by
  unfold fX2_wordAt wd
  simp only [spells_e h (show 0 < 9 by omega) hp, spells_e h (show 1 < 9 by omega) hp, spells_e h (show 2 < 9 by omega) hp, spells_e h (show 3 < 9 by omega) hp, spells_e h (show 4 < 9 by omega) hp, spells_e h (show 5 < 9 by omega) hp, spells_e h (show 6 < 9 by omega) hp, spells_e h (show 7 < 9 by omega) hp, spells_e h (show 8 < 9 by omega) hp, ob_s, ite_b2i, plet_d]
  repeat' split
  all_goals rfl
/-- how far the run goes on that stands open -/
def av (T : Nat → Nat) (L b p : Nat) : Nat := if b = 6 ∨ b = 1 then ru T L b p else p
/-- the first k tokens are told; p bytes are read, the last one of kind b -/
def SI (T : Nat → Nat) (L p b k : Nat) (I0 I : Mem) : Prop :=
  (p ≤ L ∧ k ≤ p ∧ sg T L k = ru T L 5 (av T L b p)) ∧
  (∀ i, i < k → sg T L i < p ∧ I 58 i = nI (kd T L (sg T L i)) ∧ I 59 i = nI (sg T L i) ∧ (kb T L (sg T L i) = 1 → I 60 i = nI (nm T (sg T L i) (min p (en T L (sg T L i)) - sg T L i)))) ∧
  (∀ i, i + 1 < k → en T L (sg T L i) ≤ p) ∧ (0 < k → en T L (sg T L (k - 1)) ≤ av T L b p) ∧
  (b = 6 ∨ b = 1 → 0 < k ∧ kb T L (sg T L (k - 1)) = b ∧ en T L (sg T L (k - 1)) = ru T L b p) ∧
  ∀ x j, x ≠ 58 → x ≠ 59 → x ≠ 60 → I x j = I0 x j
theorem nm_1 (T : Nat → Nat) (s : Nat) : nm T s 1 = min 1000000 (0 * 10 + (T s - 48)) := rfl
theorem nm_s (T : Nat → Nat) (s d : Nat) : nm T s (d + 1) = min 1000000 (nm T s d * 10 + (T (s + d) - 48)) := by
  unfold nm
  rw [itr_succ]
theorem nm_6 (T : Nat → Nat) (s : Nat) : ∀ d, nm T s d ≤ 1000000
  | 0 => Nat.zero_le _
  | d + 1 => by rw [nm_s]; omega
theorem num_st {v t : Nat} (hv : v ≤ 1000000) (h1 : 48 ≤ t) (h2 : t ≤ 57) : imin 1000000 (((nI v * 10) + nI t) - 48) = nI (min 1000000 (v * 10 + (t - 48))) := by
  rw [show (10 : Int32) = nI 10 from rfl, show (48 : Int32) = nI 48 from rfl, show (1000000 : Int32) = nI 1000000 from rfl, nI_mul_n, nI_addn, nI_sub (by omega) (by omega), imin_n (by omega) (by omega)]
  congr 2
  omega
theorem scan_L {I0 : Mem} (h0 : CX T L I0) : ∀ (d p b k n : Nat) (I : Mem), p + d = L → d < n → b ≤ 6 → SI T L p b k I0 I → ∃ b' k' I', fX2_scan_L6 n (nI p) (nI b) (nI k) I = some (nI k', I') ∧ SI T L L b' k' I0 I' := by
  have hL := h0.1
  intro d
  induction d with
  | zero =>
    intro p b k n I hp hn hb hI
    obtain ⟨n, rfl⟩ := fuel hn
    obtain rfl : p = L := by omega
    have c : CX T p I := h0.cong (hI.2.2.2.2.2 _ _ (by omega) (by omega) (by omega)) (fun j => hI.2.2.2.2.2 _ _ (by omega) (by omega) (by omega))
    rw [fX2_scan_L6, c.2.1, if_pos (by rw [nI_leP (by omega) (by omega)]; omega)]
    exact ⟨b, k, I, rfl, hI⟩
  | succ d ih =>
    intro p b k n I hp hn hb hI
    obtain ⟨n, rfl⟩ := fuel hn
    obtain ⟨⟨hpL, hkp, hsg⟩, hi, hen, hlast, hrun, hfr⟩ := hI
    have c : CX T L I := h0.cong (hfr _ _ (by omega) (by omega) (by omega)) (fun j => hfr _ _ (by omega) (by omega) (by omega))
    have c6 := @kb_6 T L p
    rw [fX2_scan_L6, c.2.1, if_neg (by rw [nI_leP (by omega) (by omega)]; omega), kob_e c (by omega), ob_s, plet_d]
    simp only [show (nI (kb T L p) = nI b) = (kb T L p = b) from nI_eqP (by omega) (by omega), show (nI (kb T L p) = 6) = (kb T L p = 6) from nI_eqP (b := 6) (by omega) (by omega), show (nI (kb T L p) = 1) = (kb T L p = 1) from nI_eqP (b := 1) (by omega) (by omega), show (nI (kb T L p) = 5) = (kb T L p = 5) from nI_eqP (b := 5) (by omega) (by omega)]
    by_cases h5 : kb T L p = 5
    · -- a gap
      have hav : av T L b p = p := by
        unfold av
        split
        · exact ru_no (by omega)
        · rfl
      rw [hav] at hsg hlast
      simp only [if_pos h5, ob2_some, if_neg (show ¬ kb T L p = 1 by omega), ob_s]
      rw [nI_1]
      refine ih (p + 1) _ k n I (by omega) (by omega) c6 ⟨⟨by omega, by omega, ?_⟩, fun i hik => ?_, fun i hik => ?_, fun hk => ?_, fun hb => by omega, hfr⟩
      · rw [hsg, ru_go ⟨by omega, h5⟩]
        unfold av
        rw [if_neg (by omega)]
      · obtain ⟨a1, a2, a3, a4⟩ := hi i hik
        refine ⟨by omega, a2, a3, fun hk1 => ?_⟩
        have he : en T L (sg T L i) ≤ p := by
          by_cases hl : i + 1 < k
          · exact hen i hl
          · rw [show i = k - 1 by omega]; exact hlast (by omega)
        rw [a4 hk1, show min (p + 1) (en T L (sg T L i)) = min p (en T L (sg T L i)) by omega]
      · have := hen i hik
        omega
      · have := hlast hk
        unfold av
        rw [if_neg (by omega)]
        omega
    · by_cases hg : kb T L p = b ∧ (kb T L p = 6 ∨ kb T L p = 1)
      · -- a run goes on
        obtain ⟨hk0, hkb, hke⟩ := hrun (by omega)
        have hav : av T L b p = av T L b (p + 1) := by
          unfold av
          rw [if_pos (by omega), if_pos (by omega), ru_go ⟨by omega, hg.1⟩]
        have hru : ru T L b p = ru T L b (p + 1) := ru_go ⟨by omega, hg.1⟩
        have hgt := @ru_g T L b (p + 1)
        have hs := hi (k - 1) (by omega)
        have hx : (if kb T L p = b then if kb T L p = 6 then (1 : Int32) else if kb T L p = 1 then 1 else 0 else 0) = 1 := by
          rw [if_pos hg.1]
          by_cases h6 : kb T L p = 6
          · rw [if_pos h6]
          · rw [if_neg h6, if_pos (by omega)]
        simp only [hx, if_neg h5, if_neg (show ¬ (1 : Int32) = 0 by decide), ob2_some]
        by_cases h1 : kb T L p = 1
        · have hd := kb_d h1
          have ht := (c.2.2 p (by omega)).2.2
          rw [if_pos h1, if_neg (nI_nle hk0 (by omega)), nI_sub1 (by omega) (by omega), ald_n (by omega) (by omega), ob_s, ald_n (by omega) (by omega), ob_s, hs.2.2.2 (by omega), ht, show min p (en T L (sg T L (k - 1))) = p by omega, num_st (nm_6 _ _ _) hd.2.1 hd.2.2, ast_n (by omega) (by omega), ob_s, ob_s, nI_1]
          refine ih (p + 1) _ k n _ (by omega) (by omega) c6 ⟨⟨by omega, by omega, ?_⟩, fun i hik => ?_, fun i hik => ?_, fun hk => ?_, fun hb => ?_, fun x j q1 q2 q3 => ?_⟩
          · rw [hsg, hav, ← hg.1]
          · obtain ⟨a1, a2, a3, a4⟩ := hi i hik
            simp (disch := omega) only [wr_k]
            refine ⟨by omega, a2, a3, fun hk1 => ?_⟩
            by_cases hl : i = k - 1
            · subst hl
              rw [wr_s, show min (p + 1) (en T L (sg T L (k - 1))) - sg T L (k - 1) = p - sg T L (k - 1) + 1 by omega, nm_s, show sg T L (k - 1) + (p - sg T L (k - 1)) = p by omega]
            · rw [wr_j hl, a4 hk1]
              have := hen i (by omega)
              rw [show min (p + 1) (en T L (sg T L i)) = min p (en T L (sg T L i)) by omega]
          · have := hen i hik
            omega
          · rw [hg.1, ← hav]; exact hlast hk
          · rw [hg.1]
            exact ⟨hk0, hkb, by rw [hke, hru]⟩
          · rw [wr_k q3]; exact hfr x j q1 q2 q3
        · simp only [if_neg h1, ob_s]
          rw [nI_1]
          refine ih (p + 1) _ k n _ (by omega) (by omega) c6 ⟨⟨by omega, by omega, ?_⟩, fun i hik => ?_, fun i hik => ?_, fun hk => ?_, fun hb => ?_, hfr⟩
          · rw [hsg, hav, ← hg.1]
          · obtain ⟨a1, a2, a3, a4⟩ := hi i hik
            refine ⟨by omega, a2, a3, fun hk1 => ?_⟩
            by_cases hl : i = k - 1
            · subst hl; omega
            · rw [a4 hk1]
              have := hen i (by omega)
              rw [show min (p + 1) (en T L (sg T L i)) = min p (en T L (sg T L i)) by omega]
          · have := hen i hik
            omega
          · rw [hg.1, ← hav]; exact hlast hk
          · rw [hg.1]
            exact ⟨hk0, hkb, by rw [hke, hru]⟩
      · -- a token begins
        have hav : av T L b p = p := by
          unfold av
          split
          · exact ru_no (by omega)
          · rfl
        rw [hav] at hsg hlast
        have hkp2 : sg T L k = p := by rw [hsg]; exact ru_no (by omega)
        have hx : (if kb T L p = b then if kb T L p = 6 then (1 : Int32) else if kb T L p = 1 then 1 else 0 else 0) = 0 := by
          by_cases hb2 : kb T L p = b
          · rw [if_pos hb2, if_neg (by omega), if_neg (by omega)]
          · rw [if_neg hb2]
        have hkd : (if kb T L p = 6 then Option.bind (fX2_wordAt (nI p) I) fun x3 => some x3 else some (nI (kb T L p))) = some (nI (kd T L p)) := by
          unfold kd
          rw [if_pos (show p < L by omega)]
          by_cases h6 : kb T L p = 6
          · rw [if_pos h6, if_pos h6, wordAt_e c (by omega)]
            rfl
          · rw [if_neg h6, if_neg h6]
        have hen2 : av T L (kb T L p) (p + 1) = en T L p := by
          unfold av en
          rw [if_pos (show p < L by omega)]
          by_cases h6 : kb T L p = 6 ∨ kb T L p = 1
          · rw [if_pos h6, if_pos h6]; exact (ru_go ⟨by omega, rfl⟩).symm
          · rw [if_neg h6, if_neg h6]
        have hgt := @en_gt T L p (by omega)
        have hold : ∀ i, i < k → en T L (sg T L i) ≤ p := fun i hik => by
          by_cases hl : i + 1 < k
          · exact hen i hl
          · rw [show i = k - 1 by omega]; exact hlast (by omega)
        have hrun2 : kb T L p = 6 ∨ kb T L p = 1 → 0 < k + 1 ∧ kb T L (sg T L (k + 1 - 1)) = kb T L p ∧ en T L (sg T L (k + 1 - 1)) = ru T L (kb T L p) (p + 1) := fun h6 => by
          rw [Nat.add_sub_cancel, hkp2]
          refine ⟨by omega, rfl, ?_⟩
          unfold en
          rw [if_pos (show p < L by omega), if_pos h6]
          exact ru_go ⟨by omega, rfl⟩
        have hsg2 : sg T L (k + 1) = ru T L 5 (av T L (kb T L p) (p + 1)) := by rw [sg_s, hkp2, hen2]
        simp only [hx, if_neg h5, if_true, hkd, ob_s]
        rw [ast_n (by omega) (by omega), ob_s, ast_n (by omega) (by omega), ob_s, ast_n (by omega) (by omega), ob_s, nI_1, ob2_some]
        by_cases h1 : kb T L p = 1
        · have hd := kb_d h1
          have ht := (c.2.2 p (by omega)).2.2
          rw [if_pos h1, if_neg (nI_nle (by omega) (by omega)), nI_sub1 (by omega) (by omega), Nat.add_sub_cancel, ald_n (by omega) (by omega), ob_s, wr_s, ald_n (by omega) (by omega), ob_s, wr_k (by omega), wr_k (by omega), wr_k (by omega), ht, show (0 : Int32) = nI 0 from rfl, num_st (by omega) hd.2.1 hd.2.2, ast_n (by omega) (by omega), ob_s, ob_s, nI_1]
          refine ih (p + 1) _ (k + 1) n _ (by omega) (by omega) c6 ⟨⟨by omega, by omega, hsg2⟩, fun i hik => ?_, fun i hik => ?_, fun _ => ?_, hrun2, fun x j q1 q2 q3 => ?_⟩
          · by_cases hl : i = k
            · subst hl
              simp (disch := omega) only [wr_k, wr_s]
              rw [hkp2]
              refine ⟨by omega, rfl, rfl, fun _ => ?_⟩
              rw [show min (p + 1) (en T L p) - p = 1 by omega, nm_1]
            · simp (disch := omega) only [wr_k, wr_j]
              obtain ⟨a1, a2, a3, a4⟩ := hi i (by omega)
              refine ⟨by omega, a2, a3, fun hk1 => ?_⟩
              have := hold i (by omega)
              rw [a4 hk1, show min (p + 1) (en T L (sg T L i)) = min p (en T L (sg T L i)) by omega]
          · have := hold i (by omega)
            omega
          · rw [Nat.add_sub_cancel, hkp2, hen2]; omega
          · simp (disch := omega) only [wr_k]
            exact hfr x j q1 q2 q3
        · simp only [if_neg h1, ob_s]
          rw [nI_1]
          refine ih (p + 1) _ (k + 1) n _ (by omega) (by omega) c6 ⟨⟨by omega, by omega, hsg2⟩, fun i hik => ?_, fun i hik => ?_, fun _ => ?_, hrun2, fun x j q1 q2 q3 => ?_⟩
          · by_cases hl : i = k
            · subst hl
              simp (disch := omega) only [wr_k, wr_s]
              rw [hkp2]
              exact ⟨by omega, rfl, rfl, fun q => by omega⟩
            · simp (disch := omega) only [wr_k, wr_j]
              obtain ⟨a1, a2, a3, a4⟩ := hi i (by omega)
              refine ⟨by omega, a2, a3, fun hk1 => ?_⟩
              have := hold i (by omega)
              rw [a4 hk1, show min (p + 1) (en T L (sg T L i)) = min p (en T L (sg T L i)) by omega]
          · have := hold i (by omega)
            omega
          · rw [Nat.add_sub_cancel, hkp2, hen2]; omega
          · simp (disch := omega) only [wr_k]
            exact hfr x j q1 q2 q3
/-- the tokens are told: N of them, and the end -/
def TK (T : Nat → Nat) (L N : Nat) (I : Mem) : Prop := N ≤ 500 ∧ sg T L N = L ∧ (∀ i, i < N → sg T L i < L) ∧ (∀ i, i ≤ N → I 58 i = nI (kd T L (sg T L i)) ∧ I 59 i = nI (sg T L i)) ∧ ∀ i, i < N → kb T L (sg T L i) = 1 → I 60 i = nI (nm T (sg T L i) (en T L (sg T L i) - sg T L i))
theorem scan_e (h : CX T L I) : ∃ N I', fX2_scan I = some I' ∧ TK T L N I' ∧ CX T L I' ∧ I' 56 5 = 0 ∧ I' 56 6 = 0 ∧ I' 56 7 = -1 ∧ ∀ k j, ¬ (58 ≤ k ∧ k ≤ 60) → ¬ (k = 56 ∧ (j = 5 ∨ j = 6 ∨ j = 7)) → I' k j = I k j := by
  have hL := h.1
  unfold fX2_scan
  obtain ⟨b, k, I1, e, ⟨-, hk, hs⟩, hi, hen, hlast, hrun, hfr⟩ := scan_L h L 0 5 0 zF I (by omega) (zF_g (by omega)) (by omega) ⟨⟨by omega, by omega, rfl⟩, fun i hi => by omega, fun i hi => by omega, fun hk => by omega, fun hb => by omega, fun _ _ _ _ _ => rfl⟩
  have hav : av T L b L = L := by
    unfold av
    split
    · exact ru_no (by omega)
    · rfl
  rw [hav] at hs hlast
  rw [ru_no (by omega)] at hs
  rw [show fX2_scan_L6 zF 0 5 0 I = _ from e, ob2_some, ast_n (by omega) (by omega), ob_s, ast_n (by omega) (by omega), ob_s]
  simp (disch := omega) only [wr_k]
  rw [hfr 56 1 (by omega) (by omega) (by omega), h.2.1]
  refine ⟨k, _, rfl, ⟨by omega, hs, fun i hik => (hi i hik).1, fun i hik => ?_, fun i hik hk1 => ?_⟩, ?_, ?_, ?_, ?_, fun x j q1 q2 => ?_⟩
  · by_cases hl : i = k
    · subst hl
      simp (disch := omega) only [wr_k, wr_s, hs]
      refine ⟨?_, trivial⟩
      unfold kd
      rw [if_neg (by omega)]
      rfl
    · simp (disch := omega) only [wr_k, wr_j]
      exact ⟨(hi i (by omega)).2.1, (hi i (by omega)).2.2.1⟩
  · simp (disch := omega) only [wr_k]
    have he : en T L (sg T L i) ≤ L := en_le (sg_le i)
    rw [(hi i hik).2.2.2 hk1, show min L (en T L (sg T L i)) = en T L (sg T L i) by omega]
  · exact h.cong (by simp (disch := omega) only [wr_k, wr_j]; exact hfr _ _ (by omega) (by omega) (by omega)) (fun j => by simp (disch := omega) only [wr_k]; exact hfr _ _ (by omega) (by omega) (by omega))
  · simp (disch := omega) only [wr_j, wr_s]
  · simp (disch := omega) only [wr_j, wr_s]
  · simp (disch := omega) only [wr_s]
  · simp (disch := omega) only [wr_n]
    exact hfr x j (by omega) (by omega) (by omega)
end SC
