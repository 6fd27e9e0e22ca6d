/-! the pure side, 7: a day of a chain -/
theorem low_lb {x : Int32} (hx : sml x) (h0 : ¬ x = 0) : ∃ j, j < 8 ∧ bt x j = true ∧ lb x = nI j ∧ (x &&& -x) = ((1 : Int32) <<< (nI j &&& 31)) := by
  have hi0 : ∃ i, i < 8 ∧ bt x i = true := by
    refine Classical.byContradiction fun h => h0 (sml_ext hx sml_0 fun i hi => ?_)
    rw [b_0]
    cases hb : bt x i
    · rfl
    · exact absurd ⟨i, hi, hb⟩ h
  obtain ⟨i0, hi0, hb0⟩ := hi0
  obtain ⟨j, hj, e, hb1, _⟩ := lb_is hi0 hb0
  obtain ⟨n, hn, en⟩ := sml_of hx
  subst en
  exact ⟨j, hj, hb1, e, low1_ok n hn (bt_ne0 hb1) j hj e⟩
/-- what one becomes behind another -/
def cp (own ahead : Int32) : Int32 := if (ahead &&& (own ^^^ (-1))) = 0 then own &&& (((own &&& (ahead ^^^ (-1))) &&& -(own &&& (ahead ^^^ (-1)))) ^^^ (-1)) else own ||| ((ahead &&& (own ^^^ (-1))) &&& -(ahead &&& (own ^^^ (-1))))
theorem sml_al {x : Int32} (y : Int32) (h : sml x) : sml (x &&& y) := fun i hi => by rw [b_and, h i hi]; rfl
theorem cp_sml {own ahead : Int32} (h : sml own) (h2 : sml ahead) : sml (cp own ahead) := by
  unfold cp
  split
  · exact sml_al _ h
  · exact sml_or h (sml_al _ (sml_al _ h2))
/-- the last of L ahead of p -/
def pv (L : Int32) : Nat → Int32
  | 0 => -1
  | n + 1 => if bt L n then nI n else pv L n
theorem pv_is (L : Int32) : ∀ n, (pv L n = -1 ∧ ∀ i, i < n → bt L i = false) ∨ ∃ a, a < n ∧ pv L n = nI a ∧ bt L a = true ∧ ∀ i, a < i → i < n → bt L i = false
  | 0 => Or.inl ⟨rfl, fun i h => absurd h (by omega)⟩
  | n + 1 => by
    simp only [pv]
    cases hb : bt L n
    · rcases pv_is L n with ⟨h1, h2⟩ | ⟨a, h1, h2, h3, h4⟩
      · refine Or.inl ⟨by simpa using h1, fun i hi => ?_⟩
        by_cases h : i = n
        · subst h; exact hb
        · exact h2 i (by omega)
      · refine Or.inr ⟨a, by omega, by simpa using h2, h3, fun i hi hi2 => ?_⟩
        by_cases h : i = n
        · subst h; exact hb
        · exact h4 i hi (by omega)
    · exact Or.inr ⟨n, by omega, by simp, hb, fun i h1 h2 => absurd h2 (by omega)⟩
theorem pv_of {L : Int32} {b p : Nat} (hp : p < b) (h : bt L p = true) (hn : ∀ i, p < i → i < b → bt L i = false) : pv L b = nI p := by
  rcases pv_is L b with ⟨_, h2⟩ | ⟨a, h1, h2, h3, h4⟩
  · rw [h2 p hp] at h; cases h
  · have : a = p := by
      rcases Nat.lt_trichotomy a p with x | x | x
      · rw [h4 p x hp] at h; cases h
      · exact x
      · rw [hn a x h1] at h3; cases h3
    rw [h2, this]
theorem pv_no {L : Int32} {b : Nat} (hn : ∀ i, i < b → bt L i = false) : pv L b = -1 := by
  rcases pv_is L b with ⟨h, _⟩ | ⟨a, h1, h2, h3, h4⟩
  · exact h
  · rw [hn a h1] at h3; cases h3
/-- the marks in the evening -/
def nwM (L : Int32) (mk : Nat → Int32) (p : Nat) : Int32 := if bt L p = true ∧ ¬ pv L p = -1 then cp (mk p) (mk (pv L p).toNatClampNeg) else mk p
theorem nwM_f {L : Int32} {mk : Nat → Int32} {p : Nat} (h : bt L p = false) : nwM L mk p = mk p := by unfold nwM; rw [if_neg (by simp [h])]
theorem dwn3 {α β : Type} {B : (α → β → Int32 → Prop) → α → β → Int32 → Prop} (N : Nat) (P : Nat → α → β → Prop) (hs : ∀ j a b rec, j < N → P (j + 1) a b → (∀ a' b', P j a' b' → rec a' b' (nI j + (-1))) → B rec a b (nI j)) (hx : ∀ a b rec, P 0 a b → B rec a b (-1)) {a : α} {b : β} (h : P N a b) : ∃ n, xit3 B n a b (nI N - 1) := by
  have key : ∀ j, j ≤ N → ∀ a b, P j a b → ∀ m, j < m → xit3 B m a b (nI j - 1) := by
    intro j
    induction j with
    | zero =>
      intro _ a b h m hm
      obtain ⟨m', rfl⟩ : ∃ m', m = m' + 1 := ⟨m - 1, by omega⟩
      exact hx a b _ h
    | succ j ih =>
      intro hj a b h m hm
      obtain ⟨m', rfl⟩ : ∃ m', m = m' + 1 := ⟨m - 1, by omega⟩
      rw [nI_pred]
      refine hs j a b _ (by omega) h (fun a' b' h' => ?_)
      rw [show nI j + (-1) = nI j - 1 from (Int32.sub_eq_add_neg _ _).symm]
      exact ih (by omega) a' b' h' m' (by omega)
  exact ⟨N + 1, key N (Nat.le_refl N) a b h (N + 1) (by omega)⟩
theorem w_copied {x y : Int32} {Φ : Int32 → Prop} (k : Φ (cp x y)) : wp_X1_copied x y Φ := by
  unfold wp_X1_copied wp_X7_leastOf
  unfold cp at k
  exact ⟨fun c => by rw [if_pos c] at k; exact k, fun c => by rw [if_neg c] at k; exact k⟩
theorem l_copyMarks {L : Int32} {mk : Nat → Int32} {Φ : (Nat → Int32) → Prop} (k : ∀ m, (∀ i, i < 8 → m i = nwM L mk i) → Φ m) : wp_X1_copyMarks L mk Φ := by
  unfold wp_X1_copyMarks
  rw [show (7 : Int32) = nI 8 - 1 from by decide]
  refine dwn3 8 (fun j m x => (x = -1 ∧ (∀ i, j ≤ i → i < 8 → bt L i = false) ∧ ∀ i, i < 8 → m i = mk i) ∨ ∃ b, j ≤ b ∧ b < 8 ∧ x = nI b ∧ bt L b = true ∧ (∀ i, j ≤ i → i < b → bt L i = false) ∧ (∀ i, b < i → i < 8 → m i = nwM L mk i) ∧ ∀ i, i ≤ b → m i = mk i) (fun j m x rec hj hI kk => ?_) (fun m x rec hI => ?_) (Or.inl ⟨rfl, fun i h1 h2 => absurd h2 (by omega), fun i _ => rfl⟩)
  · unfold wb_X1_copyMarks_5
    refine neg_br (nI_pos (by omega)) (w_lives (by omega) (br_b (fun e => kk _ _ ?_) (fun e => ?_)))
    · rcases hI with ⟨h1, h2, h3⟩ | ⟨b, h1, h2, h3, h4, h5, h6, h7⟩
      · refine Or.inl ⟨h1, fun i a1 a2 => ?_, h3⟩
        by_cases h : i = j
        · subst h; exact e
        · exact h2 i (by omega) a2
      · refine Or.inr ⟨b, by omega, h2, h3, h4, fun i a1 a2 => ?_, h6, h7⟩
        by_cases h : i = j
        · subst h; exact e
        · exact h5 i (by omega) a2
    · rcases hI with ⟨h1, h2, h3⟩ | ⟨b, h1, h2, h3, h4, h5, h6, h7⟩
      · refine pos_br h1 (kk _ _ (Or.inr ⟨j, Nat.le_refl j, hj, rfl, e, fun i a1 a2 => absurd a2 (by omega), fun i a1 a2 => ?_, fun i a1 => h3 i (by omega)⟩))
        rw [nwM_f (h2 i (by omega) a2), h3 i a2]
      · subst h3
        refine neg_br (nI_nm1 (by omega)) (w_at h2 (by omega) (w_at hj (by omega) (w_copied (w_put h2 (by omega) (kk _ _ (Or.inr ⟨j, Nat.le_refl j, hj, rfl, e, fun i a1 a2 => absurd a2 (by omega), fun i a1 a2 => ?_, fun i a1 => ?_⟩))))))
        · by_cases hib : i = b
          · subst hib
            have hpv : pv L i = nI j := pv_of (by omega) e (fun x y1 y2 => h5 x (by omega) y2)
            rw [pk_us]
            unfold nwM
            rw [if_pos ⟨h4, by rw [hpv]; exact nI_nm1 (by omega)⟩, hpv, nI_clamp (by omega), h7 i (Nat.le_refl i), h7 j (by omega)]
          · rw [pk_un hib]
            by_cases hbi : b < i
            · exact h6 i hbi a2
            · rw [nwM_f (h5 i (by omega) (by omega)), h7 i (by omega)]
        · rw [pk_un (by omega), h7 i (by omega)]
  · unfold wb_X1_copyMarks_5
    refine pos_br (by decide) (k m (fun i hi => ?_))
    rcases hI with ⟨h1, h2, h3⟩ | ⟨b, h1, h2, h3, h4, h5, h6, h7⟩
    · rw [nwM_f (h2 i (by omega) hi), h3 i hi]
    · by_cases hbi : b < i
      · exact h6 i hbi hi
      · rw [h7 i (by omega)]
        by_cases hib : i = b
        · subst hib
          unfold nwM
          rw [if_neg (fun q => q.2 (pv_no (fun x hx => h5 x (by omega) hx)))]
        · rw [nwM_f (h5 i (by omega) (by omega))]
theorem and_m1 (x : Int32) : x &&& (-1) = x := b_ext fun i hi => by rw [b_and, b_m1 i hi]; simp
theorem xor_m1_0 : ((0 : Int32) ^^^ (-1)) = -1 := by decide
theorem l_copyMarks8 {P dy : Nat} {L sh sp : Int32} {mk now mo : Nat → Int32} {Φ : (Nat → Int32) → (Nat → Int32) → Prop} (hN : cN P dy L sh sp mk now) (k : ∀ now' mo', (∀ i, 8 ≤ i → now' i = now i) → (∀ i, i < P → now' i = nwM L mk i) → Φ now' mo') : wp_X8_copyMarks now mo Φ := by
  obtain ⟨h8, h9, h10, h11, h12, hP, hdy, hL0, hmk⟩ := hN
  unfold wp_X8_copyMarks
  refine for2 (j := 0) 8 (fun j m => ∀ i, i < j → m i = now i) (fun j m rec hj hI kk => ?_) (fun m rec hI => ?_) (by omega) (fun i h => absurd h (by omega))
  · unfold wb_X8_copyMarks_2
    refine neg_br (ge8 hj) ⟨vp_in_nI (by omega) (by omega), vp_in_nI (by omega) (by omega), kk _ (fun i hi => ?_)⟩
    rw [nI_clamp (by omega)]
    by_cases h : i = j
    · subst h; rw [pk_us]
    · rw [pk_un h]; exact hI i (by omega)
  · unfold wb_X8_copyMarks_2
    refine pos_br le8 ?_
    unfold wk_X8_copyMarks_2
    have hm : ∀ i, i < P → m i = mk i := fun i hi => by rw [hI i (by omega), (hmk i hi).1]
    refine for3 (j := 0) P (fun j n x => x = pv L j ∧ (∀ i, i < j → n i = nwM L mk i) ∧ ∀ i, j ≤ i → n i = now i) (fun j n x rec hj ⟨hx, hlo, hhi⟩ kk => ?_) (fun n x rec ⟨hx, hlo, hhi⟩ => ?_) (by omega) ⟨rfl, fun i h => absurd h (by omega), fun i _ => rfl⟩
    · unfold wb_X8_copyMarks_30
      rw [hhi 8 (by omega), h8]
      have put : ∀ v, v = nwM L mk j → bt L j = true → rec (upd n j v) (nI j) (nI j + 1) := fun v hv hb => kk _ _ ⟨by simp only [pv]; rw [hb]; rfl, fun i hi => by
        by_cases h : i = j
        · subst h; rw [pk_us]; exact hv
        · rw [pk_un h]; exact hlo i (by omega), fun i hi => by rw [pk_un (by omega)]; exact hhi i (by omega)⟩
      refine neg_br (nI_ge hj (by omega)) (w_lives8 (L := L) (by omega) (by rw [hhi 9 (by omega)]; exact h9) (br_b (fun e => kk _ _ ⟨?_, fun i hi => ?_, fun i hi => hhi i (by omega)⟩) (fun e => ?_)))
      · simp only [pv]; rw [e]; exact hx
      · by_cases h : i = j
        · subst h; rw [hhi i (Nat.le_refl i), (hmk i hj).1, nwM_f e]
        · exact hlo i (by omega)
      · rcases pv_is L j with ⟨q1, q2⟩ | ⟨a, q1, q2, q3, q4⟩
        · rw [hx, q1]
          refine pos_br (by decide) (kk _ _ ⟨by simp only [pv]; rw [e]; rfl, fun i hi => ?_, fun i hi => hhi i (by omega)⟩)
          by_cases h : i = j
          · subst h
            rw [hhi i (Nat.le_refl i), (hmk i hj).1]
            unfold nwM
            rw [if_neg (fun z => z.2 q1)]
          · exact hlo i (by omega)
        · have hv : nwM L mk j = cp (mk j) (mk a) := by
            unfold nwM
            rw [if_pos ⟨e, by rw [q2]; exact nI_nm1 (by omega)⟩, q2, nI_clamp (by omega)]
          have s1 := (hmk a (by omega)).2
          have s2 := (hmk j hj).2
          rw [hx, q2, nI_clamp (by omega), nI_clamp (by omega), hm a (by omega), hm j hj]
          refine neg_br (nI_pos (by omega)) ⟨vp_in_nI (by omega) (by omega), vp_in_nI (by omega) (by omega), vp_in_nI (by omega) (by omega), vp_in_nI (by omega) (by omega), fun c => ⟨fun c2 => ⟨vp_in_nI (by omega) (by omega), vp_in_nI (by omega) (by omega), put _ ?_ e⟩, fun c2 => ⟨vp_in_nI (by omega) (by omega), ?_⟩⟩, fun c => ⟨vp_in_nI (by omega) (by omega), ?_⟩⟩
          · rw [hv]
            unfold cp
            rw [if_pos c, c2, show ((0 : Int32) &&& -0) = 0 from by decide, xor_m1_0, and_m1]
          · obtain ⟨i, hi, b1, b2, b3⟩ := low_lb (sml_al _ s2) c2
            refine w_least hi b1 ⟨vp_in_nI (by omega) (by omega), put _ ?_ e⟩
            rw [hv, b2, ← b3]
            unfold cp
            rw [if_pos c]
          · obtain ⟨i, hi, b1, b2, b3⟩ := low_lb (sml_al _ s1) c
            refine w_least hi b1 ⟨vp_in_nI (by omega) (by omega), put _ ?_ e⟩
            rw [hv, b2, ← b3]
            unfold cp
            rw [if_neg c]
    · unfold wb_X8_copyMarks_30
      rw [hhi 8 (by omega), h8]
      exact pos_br (nI_le (Nat.le_refl P) (by omega)) (k _ _ (fun i hi => hhi i (by omega)) (fun i hi => hlo i hi))
theorem nwM_sml {P : Nat} {L : Int32} {mk : Nat → Int32} (h : ∀ p, p < P → sml (mk p)) {p : Nat} (hp : p < P) : sml (nwM L mk p) := by
  unfold nwM
  split
  · rcases pv_is L p with ⟨q1, q2⟩ | ⟨a, q1, q2, q3, q4⟩
    · rename_i c; exact absurd q1 c.2
    · rw [q2]
      by_cases h31 : p < 2 ^ 31
      · rw [nI_clamp (by omega)]; exact cp_sml (h p hp) (h a (by omega))
      · rename_i c
        exact absurd (b_big (x := L) (i := p) (by omega)) (by rw [c.1]; decide)
  · exact h p hp
/-- what is spent after n of the chain were paid -/
def spS (pay s : Int32) : Nat → Int32
  | 0 => s
  | n + 1 => if spS pay s n + (pay >>> (nI n &&& 31)) < 999999 then spS pay s n + (pay >>> (nI n &&& 31)) else 999999
def shN (sh r : Int32) : Int32 := if r = -1 then sh else sh ||| ((1 : Int32) <<< (r &&& 31))
def lvN (L r : Int32) : Int32 := if r = -1 then L else L &&& (((1 : Int32) <<< (r &&& 31)) ^^^ (-1))
theorem l_pass {D dy : Nat} {iw ih fe we ho da mk : Nat → Int32} {L sh sp pay : Int32} {Φ : (Nat → Int32) → Int32 → Int32 → Int32 → Prop} (hD : D ≤ 10) (hdy : dy ≤ 9060) (hL : sml L) (k : ∀ m, (∀ i, i < 8 → m i = nwM L mk i) → Φ m (nI (dy + 1)) (spS pay sp (pc L)) (shN sh (sD L iw ih fe we ho da D dy))) : wp_X1_passDay L sh sp (nI dy) pay (nI D) we ho da iw ih fe mk Φ := by
  have tail : ∀ u s', s' = shN sh (sD L iw ih fe we ho da D dy) → wj_X1_passDay_27 L sp (nI dy) pay mk Φ u s' := by
    intro u s' hs'
    subst hs'
    unfold wj_X1_passDay_27
    refine w_bitCount hL ?_
    have h8 := pc_le L
    refine for2 (j := 0) (pc L) (fun j x => x = spS pay sp j) (fun j x rec hj hq kk => ?_) (fun x rec hq => ?_) (by omega) rfl
    · unfold wb_X1_passDay_38 wp_X2_payAt
      subst hq
      exact neg_br (nI_ge hj (by omega)) (kk _ rfl)
    · unfold wb_X1_passDay_38
      subst hq
      refine pos_br (nI_le (Nat.le_refl _) (by omega)) ?_
      unfold wk_X1_passDay_38
      rw [← nI_succ]
      exact l_copyMarks (fun m hm => k m hm)
  unfold wp_X1_passDay
  refine w_seenOn hD (by omega) ⟨fun c => tail _ _ ?_, fun c => tail _ _ ?_⟩
  · unfold shN; rw [if_pos c]
  · unfold shN; rw [if_neg c]
theorem l_pass8 {D P dy : Nat} {iw ih fe we ho da mw mh mf dw dh dd mk now mo : Nat → Int32} {L sh sp pay : Int32} {Φ : (Nat → Int32) → (Nat → Int32) → Prop} (hD : D ≤ 10) (hC : cE D iw ih fe we ho da mw mh mf dw dh dd) (hN : cN P dy L sh sp mk now) (hdy : dy < 9060) (k : ∀ now' mo', cN P (dy + 1) L (shN sh (sD L iw ih fe we ho da D dy)) (spS pay sp (pc L)) (nwM L mk) now' → Φ now' mo') : wp_X8_pass pay (nI D) now dw dh dd mw mh mf mo Φ := by
  have hN2 := hN
  obtain ⟨h8, h9, h10, h11, h12, hP, _, hL0, hmk⟩ := hN2
  have tail : ∀ u s0, sh ||| s0 = shN sh (sD L iw ih fe we ho da D dy) → wj_X8_pass_31 pay now mo Φ u s0 := by
    intro u s0 hs0
    unfold wj_X8_pass_31
    rw [h10, hs0]
    have hpc := pc_le L
    refine for2 (j := 0) (pc L) (fun j n => n 12 = spS pay sp j ∧ ∀ i, i ≠ 12 → n i = upd now 10 (shN sh (sD L iw ih fe we ho da D dy)) i) (fun j n rec hj ⟨hq, hr⟩ kk => ?_) (fun n rec ⟨hq, hr⟩ => ?_) (by omega) ⟨by rw [pk_un (by decide)]; exact h12, fun i _ => rfl⟩
    · unfold wb_X8_pass_35
      refine w_bits ?_
      rw [show n 9 = L from by rw [hr 9 (by decide), pk_un (by decide)]; exact h9, hq]
      refine neg_br (nI_ge hj (by omega)) ⟨fun c => kk _ ⟨?_, fun i hi => ?_⟩, fun c => kk _ ⟨?_, fun i hi => ?_⟩⟩
      · rw [pk_us]; simp only [spS]; rw [if_neg (fun z => (nlt_le _ _).mpr z c)]
      · rw [pk_un hi]; exact hr i hi
      · rw [pk_us]; simp only [spS]; rw [if_pos ((nlt_le _ _).mp c)]
      · rw [pk_un hi]; exact hr i hi
    · unfold wb_X8_pass_35
      refine w_bits ?_
      rw [show n 9 = L from by rw [hr 9 (by decide), pk_un (by decide)]; exact h9]
      refine pos_br (nI_le (Nat.le_refl _) (by omega)) ?_
      unfold wk_X8_pass_35
      have hn : cN P dy L (shN sh (sD L iw ih fe we ho da D dy)) (spS pay sp (pc L)) mk n := ⟨by rw [hr 8 (by decide), pk_un (by decide)]; exact h8, by rw [hr 9 (by decide), pk_un (by decide)]; exact h9, by rw [hr 10 (by decide), pk_us], by rw [hr 11 (by decide), pk_un (by decide)]; exact h11, hq, hP, by omega, hL0, fun p hp => ⟨by rw [hr p (by omega), pk_un (by omega)]; exact (hmk p hp).1, (hmk p hp).2⟩⟩
      refine l_copyMarks8 hn (fun n' mo' e1 e2 => k _ _ ⟨?_, ?_, ?_, ?_, ?_, hP, by omega, hL0, fun p hp => ⟨?_, nwM_sml (fun q hq => (hmk q hq).2) hp⟩⟩)
      · rw [pk_un (by decide), e1 8 (by omega)]; exact hn.1
      · rw [pk_un (by decide), e1 9 (by omega)]; exact hn.2.1
      · rw [pk_un (by decide), e1 10 (by omega)]; exact hn.2.2.1
      · rw [pk_us, e1 11 (by omega), hn.2.2.2.1, ← nI_succ]
      · rw [pk_un (by decide), e1 12 (by omega)]; exact hn.2.2.2.2.1
      · rw [pk_un (by omega), e2 p hp]
  unfold wp_X8_pass
  rw [h11]
  refine r_seenOn hC hD hN (by omega) ?_
  rcases sD_is L iw ih fe we ho da D dy with c | ⟨i, hi, c, _⟩
  · rw [c]
    refine pos_br (by decide) (tail _ _ ?_)
    rw [c, or0]; rfl
  · rw [c]
    refine neg_br (nI_pos (by omega)) (tail _ _ ?_)
    rw [c]; unfold shN; rw [if_neg (nI_nm1 (by omega))]
theorem l_lose {D dy : Nat} {iw ih fe we ho da : Nat → Int32} {L : Int32} {Φ : Int32 → Int32 → Prop} (hD : D ≤ 10) (hdy : dy ≤ 9060) (k : Φ (sD L iw ih fe we ho da D dy) (lvN L (sD L iw ih fe we ho da D dy))) : wp_X1_loseSeen L (nI dy) (nI D) we ho da iw ih fe Φ := by
  unfold wp_X1_loseSeen
  unfold lvN at k
  exact w_seenOn hD (by omega) ⟨fun c => by rw [if_pos c] at k; exact k, fun c => by rw [if_neg c] at k; exact k⟩
theorem cN_lv {P dy : Nat} {L sh sp r : Int32} {mk now : Nat → Int32} (hN : cN P dy L sh sp mk now) : cN P dy (lvN L r) sh sp mk (upd now 9 (lvN L r)) := by
  obtain ⟨h8, h9, h10, h11, h12, hP, hdy, hL0, hmk⟩ := hN
  refine ⟨by rw [pk_un (by decide)]; exact h8, pk_us, by rw [pk_un (by decide)]; exact h10, by rw [pk_un (by decide)]; exact h11, by rw [pk_un (by decide)]; exact h12, hP, hdy, fun j hj => ?_, fun p hp => ⟨by rw [pk_un (by omega)]; exact (hmk p hp).1, (hmk p hp).2⟩⟩
  unfold lvN
  split
  · exact hL0 j hj
  · rw [b_and, hL0 j hj]; rfl
theorem l_shoot8 {D P dy : Nat} {iw ih fe we ho da mw mh mf dw dh dd mk now : Nat → Int32} {L sh sp : Int32} {Φ : Int32 → (Nat → Int32) → Prop} (hD : D ≤ 10) (hC : cE D iw ih fe we ho da mw mh mf dw dh dd) (hN : cN P dy L sh sp mk now) (k : ∀ now', cN P dy (lvN L (sD L iw ih fe we ho da D dy)) sh sp mk now' → Φ (sD L iw ih fe we ho da D dy) now') : wp_X8_shoot (nI D) now dw dh dd mw mh mf Φ := by
  have k := k _ (cN_lv hN)
  have hN2 := hN
  obtain ⟨h8, h9, h10, h11, h12, hP, hdy, hL0, hmk⟩ := hN2
  unfold wp_X8_shoot
  rw [h11, h9, and_m1]
  refine r_seenOn hC hD hN (by omega) ?_
  rcases sD_is L iw ih fe we ho da D dy with c | ⟨i, hi, c, _⟩
  · rw [c] at k ⊢
    exact pos_br (by decide) k
  · rw [c] at k ⊢
    unfold lvN at k
    rw [if_neg (nI_nm1 (by omega))] at k
    exact neg_br (nI_pos (by omega)) k
theorem cN_ext {P dy : Nat} {L sh sp : Int32} {mk mk' now : Nat → Int32} (hN : cN P dy L sh sp mk now) (h : ∀ i, i < 8 → mk' i = mk i) : cN P dy L sh sp mk' now := by
  obtain ⟨h8, h9, h10, h11, h12, hP, hdy, hL0, hmk⟩ := hN
  exact ⟨h8, h9, h10, h11, h12, hP, hdy, hL0, fun p hp => by rw [h p (by omega)]; exact hmk p hp⟩
theorem l_become {mk m0 : Nat → Int32} {a b c d e : Int32} {Φ : (Nat → Int32) → Int32 → Int32 → Int32 → Int32 → Int32 → Prop} (k : ∀ m, (∀ i, i < 8 → m i = mk i) → Φ m a b c d e) : wp_X1_become a b c d e mk m0 Φ := by
  unfold wp_X1_become wp_X1_takeMarks
  refine for2 (j := 0) 8 (fun j m => ∀ i, i < j → m i = mk i) (fun j m rec hj hI kk => ?_) (fun m rec hI => ?_) (by omega) (fun i h => absurd h (by omega))
  · unfold wb_X1_takeMarks_2
    refine neg_br (ge8 hj) (w_at hj (by omega) (w_put hj (by omega) (kk _ (fun i hi => ?_))))
    by_cases h : i = j
    · subst h; rw [pk_us]
    · rw [pk_un h]; exact hI i (by omega)
  · unfold wb_X1_takeMarks_2
    exact pos_br le8 (k m hI)
