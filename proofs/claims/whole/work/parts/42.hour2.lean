/-! THE END OF AN HOUR: THE NEW ROW, WHAT IS TOLD ANEW -/
theorem sh_L : ∀ (d k n : Nat) (J : Mem), k + d = 556 → d < n → fX8_newHour_L16 n (nI k) J = some (fun q i => if q = 307 ∧ k ≤ i ∧ i < 556 then J 307 (i + 18) else J q i) := by
  intro d
  induction d with
  | zero =>
    intro k n J hk hn
    obtain ⟨n, rfl⟩ := fuel hn
    rw [fX8_newHour_L16, L18, nI_add, L574, if_pos (by rw [nI_leP (by omega) (by omega)]; omega)]
    congr 1
    funext q i
    rw [if_neg (by omega)]
  | succ d ih =>
    intro k n J hk hn
    obtain ⟨n, rfl⟩ := fuel hn
    rw [fX8_newHour_L16, L18, nI_add, L574, if_neg (by rw [nI_leP (by omega) (by omega)]; omega), ald_n (by omega) (by omega), ob_s, ast_n (by omega) (by omega), ob_s, nI_1, ih (k + 1) n _ (by omega) (by omega)]
    congr 1
    funext q i
    by_cases h : q = 307 ∧ k + 1 ≤ i ∧ i < 556
    · rw [if_pos h, if_pos (by omega), wr_n (by omega)]
    · rw [if_neg h]
      by_cases h2 : q = 307 ∧ i = k
      · rw [if_pos (by omega), h2.1, h2.2, wr_s]
      · rw [if_neg (by omega), wr_n h2]
theorem ze_L {a : Nat} (ha : a + 18 ≤ 574) : ∀ (d k n : Nat) (J : Mem), k + d = 18 → d < n → fX8_newHour_L72 (nI a) n (nI k) J = some (fun q i => if q = 307 ∧ a + k ≤ i ∧ i < a + 18 then 0 else J q i) := by
  intro d
  induction d with
  | zero =>
    intro k n J hk hn
    obtain ⟨n, rfl⟩ := fuel hn
    rw [fX8_newHour_L72, L18, if_pos (by rw [nI_leP (by omega) (by omega)]; omega)]
    congr 1
    funext q i
    rw [if_neg (by omega)]
  | succ d ih =>
    intro k n J hk hn
    obtain ⟨n, rfl⟩ := fuel hn
    rw [fX8_newHour_L72, L18, if_neg (by rw [nI_leP (by omega) (by omega)]; omega), nI_add, ast_n (by omega) (by omega), ob_s, nI_1, ih (k + 1) n _ (by omega) (by omega)]
    congr 1
    funext q i
    by_cases h : q = 307 ∧ a + (k + 1) ≤ i ∧ i < a + 18
    · rw [if_pos h, if_pos (by omega)]
    · rw [if_neg h]
      by_cases h2 : q = 307 ∧ i = a + k
      · rw [if_pos (by omega), h2.1, h2.2, wr_s]
      · rw [if_neg (by omega), wr_n h2]
theorem nh_e {e : Nat} {J : Mem} (h30 : e < 2 ^ 30) (h6 : J 307 6 = nI (min e 24)) : ∃ J', fX8_newHour J = some (nI (hp (e + 1) e), J') ∧ (∀ q i, ¬ (q = 307 ∧ (i = 6 ∨ 142 ≤ i)) → J' q i = J q i) ∧ J' 307 6 = nI (min (e + 1) 24) ∧ (∀ h k, h < e → e + 1 ≤ h + 24 → k < 18 → J' 307 (hp (e + 1) h + k) = J 307 (hp e h + k)) ∧ (∀ k, k < 18 → J' 307 (hp (e + 1) e + k) = 0) := by
  have main : ∃ J1, (if J 307 6 = (24 : Int32) then Option.bind (fX8_newHour_L16 zF (142 : Int32) J) fun J4 => Option.bind (ald J4 307 574 (6 : Int32)) fun x5 => Option.bind (ast J4 307 574 (6 : Int32) (x5 - (1 : Int32))) fun J6 => some J6 else some J) = some J1 ∧ J1 307 6 = nI (min e 23) ∧ (∀ q i, ¬ (q = 307 ∧ (i = 6 ∨ 142 ≤ i)) → J1 q i = J q i) ∧ (∀ h k, h < e → e + 1 ≤ h + 24 → k < 18 → J1 307 (hp (e + 1) h + k) = J 307 (hp e h + k)) := by
    by_cases h : 24 ≤ e
    · rw [h6, show min e 24 = 24 by omega, if_pos (show nI 24 = (24 : Int32) from rfl), show fX8_newHour_L16 zF 142 J = _ from sh_L 414 142 zF J rfl (zF_g (by omega)), ob_s, L6, ald_n (by omega) (by omega), ob_s, ast_n (by omega) (by omega), ob_s]
      refine ⟨_, rfl, ?_, fun q i hq => ?_, fun x k h1 h2 h3 => ?_⟩
      · rw [wr_s, if_neg (by omega), h6, show min e 24 = 24 by omega, nI_sub1 (by omega) (by omega), show min e 23 = 23 by omega]
      · rw [wr_n (by omega), if_neg (by omega)]
      · unfold hp
        rw [wr_n (by omega), if_pos (by omega)]
        congr 1
        omega
    · rw [h6, if_neg (by rw [L24, nI_eqP (by omega) (by omega)]; omega)]
      refine ⟨J, rfl, by rw [h6, show min e 24 = min e 23 by omega], fun _ _ _ => rfl, fun x k h1 h2 h3 => ?_⟩
      unfold hp
      congr 1
      omega
  obtain ⟨J1, m1, m2, m3, m4⟩ := main
  have hpe : 142 + 18 * min e 23 = hp (e + 1) e := by unfold hp; omega
  have hpb : hp (e + 1) e + 18 ≤ 574 := by unfold hp; omega
  unfold fX8_newHour
  rw [show ald J 307 574 6 = some (J 307 6) from ald_n (j := 6) (by omega) (by omega), ob_s, m1, ob_s, show ald J1 307 574 6 = some (J1 307 6) from ald_n (j := 6) (by omega) (by omega), ob_s, m2]
  unfold fX8_hourPlace
  rw [ob_s, L142, L18, nI_mul_n, nI_add, hpe, show fX8_newHour_L72 (nI (hp (e + 1) e)) zF 0 J1 = _ from ze_L hpb 18 0 zF J1 rfl (zF_g (by omega)), ob_s, L6, ald_n (by omega) (by omega), ob_s, ast_n (by omega) (by omega), ob_s]
  have hge : 142 ≤ hp (e + 1) e := by unfold hp; omega
  refine ⟨_, rfl, fun q i hq => ?_, ?_, fun x k h1 h2 h3 => ?_, fun k hk => ?_⟩
  · rw [wr_n (by omega), if_neg (by omega), m3 q i hq]
  · rw [wr_s, if_neg (by omega), m2, nI_1]
    congr 1
    omega
  · have : hp (e + 1) x + 18 ≤ hp (e + 1) e ∧ 142 ≤ hp (e + 1) x := by unfold hp; omega
    rw [wr_n (by omega), if_neg (by omega), m4 x k h1 h2 h3]
  · rw [wr_n (by omega), if_pos (by omega)]
/-- buoys of a set that are dragged since an hour or longer -/
def dsB (F : Row) (g : Int32) (h : Nat) (j : Nat) : Bool := bt g j && decide (¬ nI h < F (82 + j))
theorem ds7_L {c h : Nat} {F : Row} {g : Int32} {I : Mem} (h10 : c ≤ 10) (I0 : I 2 0 = nI c) (hs : ∀ j, j < c → I 10 j = F (82 + j)) : ∀ (d j n : Nat) (a : Int32), j + d = c → d < n → fX5_draggedSince_L5 1 g (nI h) n (nI j) a I = some (bsl (dsB F g h) j d a) := by
  intro d
  induction d with
  | zero =>
    intro j n a hj hn
    obtain ⟨n, rfl⟩ := fuel hn
    rw [fX5_draggedSince_L5, show I (1 + 1) 0 = nI c from I0, if_pos (by rw [nI_leP (by omega) (by omega)]; omega)]
    rfl
  | succ d ih =>
    intro j n a hj hn
    obtain ⟨n, rfl⟩ := fuel hn
    have hstep : fX5_draggedSince_L5 1 g (nI h) (n + 1) (nI j) a I = fX5_draggedSince_L5 1 g (nI h) n (nI (j + 1)) (if dsB F g h j = true then a ||| bit1 j else a) I := by
      rw [fX5_draggedSince_L5, show I (1 + 1) 0 = nI c from I0, if_neg (by rw [nI_leP (by omega) (by omega)]; omega), has7 (by omega), ob_s, ald_n (by omega) (by omega), ob_s, show I (1 + 9) j = _ from hs j (by omega), nI_1]
      unfold dsB
      cases bt g j
      · rw [b2i_f, if_pos e00, ob_s]
        simp
      · rw [b2i_t, if_neg n10]
        by_cases h1 : nI h < F (82 + j)
        · rw [if_pos h1, ob_s]
          simp [h1]
        · rw [if_neg h1, ob_s]
          simp [h1, bit1]
    rw [hstep]
    exact ih (j + 1) n _ (by omega) (by omega)
theorem ds8_L {c h : Nat} {F : Row} {g : Int32} {J : Mem} (h10 : c ≤ 10) (J0 : J 307 0 = nI c) (hF : J 307 = F) : ∀ (d j n : Nat) (a : Int32), j + d = c → d < n → fX8_takesOut_L20 (nI h) g n (nI j) a J = some (bsl (dsB F g h) j d a) := by
  intro d
  induction d with
  | zero =>
    intro j n a hj hn
    obtain ⟨n, rfl⟩ := fuel hn
    rw [fX8_takesOut_L20, ald_0 (by omega) (by omega), J0, ob_s, if_pos (by rw [nI_leP (by omega) (by omega)]; omega)]
    rfl
  | succ d ih =>
    intro j n a hj hn
    obtain ⟨n, rfl⟩ := fuel hn
    have hstep : fX8_takesOut_L20 (nI h) g (n + 1) (nI j) a J = fX8_takesOut_L20 (nI h) g n (nI (j + 1)) (if dsB F g h j = true then a ||| bit1 j else a) J := by
      rw [fX8_takesOut_L20, ald_0 (by omega) (by omega), J0, ob_s, if_neg (by rw [nI_leP (by omega) (by omega)]; omega), has8 (by omega), ob_s, L82, nI_add, ald_n (by omega) (by omega), ob_s, hF, nI_1]
      unfold dsB
      cases bt g j
      · rw [b2i_f, if_pos e00, ob_s]
        simp
      · rw [b2i_t, if_neg n10]
        by_cases h1 : nI h < F (82 + j)
        · rw [if_pos h1, ob_s]
          simp [h1]
        · rw [if_neg h1, ob_s]
          simp [h1, bit1]
    rw [hstep]
    exact ih (j + 1) n _ (by omega) (by omega)
theorem keep8 {e h : Nat} {J : Mem} (h30 : e < 2 ^ 30) (k : kept e h) (h5 : J 307 5 = nI e) (h6 : J 307 6 = nI (min e 24)) {b : Bool} (h20 : J 306 20 = b2i b) : fX8_keepsLevel (nI h) J = some (wr (wr (wr J 307 (hp e h + 1) (J 306 19)) 307 (hp e h + 2) (b2i b)) 307 (hp e h + 5) (J 306 21)) := by
  have hk := kept_hp k
  unfold fX8_keepsLevel
  rw [show fX8_sets (nI h) 1 (J 306 19) J = _ from sets_e (w := 1) h5 h6 h30 k (by omega), ob_s, wr_n (by omega), h20, show (if b2i b = 0 then (0 : Int32) else 1) = b2i b by cases b <;> rfl, plet_d, show fX8_sets (nI h) 2 (b2i b) (wr J 307 (hp e h + 1) (J 306 19)) = _ from sets_e (w := 2) (by rw [wr_n (by omega)]; exact h5) (by rw [wr_n (by omega)]; exact h6) h30 k (by omega), ob_s, show fX8_sets (nI h) 5 (wr (wr J 307 (hp e h + 1) (J 306 19)) 307 (hp e h + 2) (b2i b) 306 21) (wr (wr J 307 (hp e h + 1) (J 306 19)) 307 (hp e h + 2) (b2i b)) = _ from sets_e (w := 5) (by rw [wr_n (by omega), wr_n (by omega)]; exact h5) (by rw [wr_n (by omega), wr_n (by omega)]; exact h6) h30 k (by omega), ob_s, wr_n (by omega), wr_n (by omega)]
/-- an hour's row changes; all else stays -/
theorem ew_row {c e h : Nat} {I I' : Mem} {F F' : Row} (hW : EW c e I 1 F) (k : kept e h) (hq : WFq c F' (hp e h)) (hr : EQq c I' 1 (h % 24) F' (hp e h)) (hI : ∀ q i, ¬ (15 ≤ q ∧ q ≤ 24 ∧ ((q ≤ 23 ∧ i = h % 24) ∨ (q = 24 ∧ h % 24 * 10 ≤ i ∧ i < h % 24 * 10 + 10))) → ¬ (q = 1 ∧ i = 9) → 1 ≤ q → q < 25 → I' q i = I q i) (h9 : I' 1 9 = F' 8)
    (hF : ∀ i, ¬ (hp e h ≤ i ∧ i < hp e h + 18) → i ≠ 8 → F' i = F i) : EW c e I' 1 F' := by
  have h10 := hW.c10
  have hk := kept_hp k
  obtain ⟨⟨w1, w2, w3, w4⟩, q1, q2, q3, q4⟩ := hW
  refine ⟨⟨w1.cg (fun i h1 h2 => hF i (by omega) (by omega)), w2.cg h10 (fun i h1 h2 h3 => hF i (by omega) (by omega)), w3.cg h10 (fun i h1 h2 => hF i (by omega) (by omega)), fun x kx => ?_⟩, ?_, q2.cg h10 (fun q j h1 h2 h3 => hI _ _ (by omega) (by omega) (by omega) (by omega)) (fun i h1 h2 h3 => hF i (by omega) (by omega)), q3.cg h10 (fun q j h1 h2 h3 => hI _ _ (by omega) (by omega) (by omega) (by omega)) (fun i h1 h2 => hF i (by omega) (by omega)), fun x kx => ?_⟩
  · by_cases hx : x = h
    · rw [hx]; exact hq
    · have hkx := kept_hp kx
      refine (w4 x kx).cong h10 (fun i h1 h2 => hF i ?_ (by omega))
      unfold kept at k kx
      unfold hp at *
      omega
  · obtain ⟨m0, m3, m4, m5, m6, m7, m8, m9, m10, m11, mb, mr⟩ := q1
    refine ⟨?_, ?_, ?_, ?_, ?_, ?_, ?_, ?_, ?_, ?_, ?_, ?_⟩
    · rw [hI _ _ (by omega) (by omega) (by omega) (by omega)]; exact m0
    · rw [hI _ _ (by omega) (by omega) (by omega) (by omega), hF _ (by omega) (by omega)]; exact m3
    · rw [hI _ _ (by omega) (by omega) (by omega) (by omega), hF _ (by omega) (by omega)]; exact m4
    · rw [hI _ _ (by omega) (by omega) (by omega) (by omega), hF _ (by omega) (by omega)]; exact m5
    · rw [hI _ _ (by omega) (by omega) (by omega) (by omega), hF _ (by omega) (by omega)]; exact m6
    · rw [hI _ _ (by omega) (by omega) (by omega) (by omega), hF _ (by omega) (by omega)]; exact m7
    · rw [hI _ _ (by omega) (by omega) (by omega) (by omega), hF _ (by omega) (by omega)]; exact m8
    · exact h9
    · rw [hI _ _ (by omega) (by omega) (by omega) (by omega), hF _ (by omega) (by omega)]; exact m10
    · rw [hI _ _ (by omega) (by omega) (by omega) (by omega), hF _ (by omega) (by omega)]; exact m11
    · rw [hI _ _ (by omega) (by omega) (by omega) (by omega), mb]
      exact bsl_cong (fun i hi => by unfold broB; rw [hF _ (by omega) (by omega)])
    · rw [hI _ _ (by omega) (by omega) (by omega) (by omega), mr]
      exact bsl_cong (fun i hi => by unfold hasB; rw [hF _ (by omega) (by omega)])
  · by_cases hx : x = h
    · rw [hx]; exact hr
    · have hkx := kept_hp kx
      have hne : x % 24 ≠ h % 24 := by unfold kept at k kx; omega
      have hf : ∀ i, hp e x ≤ i → i < hp e x + 18 → F' i = F i := fun i h1 h2 => hF i (by unfold kept at k kx; unfold hp at *; omega) (by omega)
      obtain ⟨z1, z2, z3, z4, z5, z6, z7, z8⟩ := q4 x kx
      refine ⟨?_, ?_, ?_, ?_, ?_, ?_, fun j hj => ?_, ?_⟩
      · rw [hI _ _ (by omega) (by omega) (by omega) (by omega), hf _ (by omega) (by omega)]; exact z1
      · rw [hI _ _ (by omega) (by omega) (by omega) (by omega), hf _ (by omega) (by omega)]; exact z2
      · rw [hI _ _ (by omega) (by omega) (by omega) (by omega), hf _ (by omega) (by omega)]; exact z3
      · rw [hI _ _ (by omega) (by omega) (by omega) (by omega), hf _ (by omega) (by omega)]; exact z4
      · rw [hI _ _ (by omega) (by omega) (by omega) (by omega), hf _ (by omega) (by omega)]; exact z5
      · rw [hI _ _ (by omega) (by omega) (by omega) (by omega), hf _ (by omega) (by omega)]; exact z6
      · rw [hI _ _ (by omega) (by omega) (by omega) (by omega), hf _ (by omega) (by omega)]; exact z7 j hj
      · rw [hf (hp e x) (by omega) (by omega), hf (hp e x + 3) (by omega) (by omega), hf (hp e x + 4) (by omega) (by omega), hf (hp e x + 6) (by omega) (by omega), hI (1 + 20) _ (by omega) (by omega) (by omega) (by omega), hI (1 + 21) _ (by omega) (by omega) (by omega) (by omega)]
        exact z8
