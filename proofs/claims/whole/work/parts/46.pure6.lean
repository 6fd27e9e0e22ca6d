/-! the pure side, 6: reign, shownAll, seed -/
theorem l_reign8 {D P dy : Nat} {iw ih fe we ho da mw mh mf dw dh dd mk now : Nat → Int32} {L sh sp : Int32} {Ψ : Int32 → Prop} (hD : D ≤ 10) (hC : cE D iw ih fe we ho da mw mh mf dw dh dd) (hN : cN P dy L sh sp mk now) (k : Ψ ((rgN L iw ih fe we ho da D D).getD (-1))) : wp_X8_reign (nI D) now dw dh dd mw mh mf Ψ := by
  have hN2 := hN
  obtain ⟨h8, h9, h10, h11, h12, hP, hdy, hL0, hmk⟩ := hN2
  unfold wp_X8_reign
  refine for2 (j := 0) D (fun j x => rgN L iw ih fe we ho da D j = some x) (fun j x rec hj hq kk => ?_) (fun x rec hq => ?_) (by omega) rfl
  · unfold wb_X8_reign_4
    let q : Nat → Bool := fun p => bt L p && gD iw ih fe we ho da D j p
    let f : Nat → Int32 := fun p => nI (ahd L p)
    rw [h8]
    refine neg_br (nI_ge hj (by omega)) ?_
    refine dwn2 P (by omega) (fun i y => y = spf q f (P - i) i) (fun i y rec2 hi hy kk2 => ?_) (fun y rec2 hy => ?_) ?_
    · unfold wb_X8_reign_25
      have st : spf q f (P - i) i = if q i then f i else y := by
        rw [show P - i = (P - (i + 1)) + 1 by omega]
        simp only [spf]
        rw [hy]
      refine neg_br (nI_pos (by omega)) (w_lives8 (by omega) h9 (br_b (fun e => kk2 _ ?_) (fun e => r_goesAt hC hD (by omega) hj (br_b (fun e2 => kk2 _ ?_) (fun e2 => w_placeOf h9 (kk2 _ ?_))))))
      · rw [st, if_neg (by simp [q, e])]
      · rw [st, if_neg (by simp [q, e2])]
      · rw [st, if_pos (by simp [q, e, e2])]
    · unfold wb_X8_reign_25
      refine pos_br (by decide) ?_
      unfold wk_X8_reign_25
      have hs : sD L iw ih fe we ho da D j = sn q P 0 := by
        have := sn_cut (q := q) P (8 - P) 0 (fun j hj => by simp [q, hL0 j (by omega)])
        rw [← this, show P + (8 - P) = 8 by omega]
        rfl
      rw [Nat.sub_zero] at hy
      rcases spf_is (q := q) (f := f) P 0 with ⟨s1, s2⟩ | ⟨i, hi, s1, s2, s3⟩
      · rw [hy, s2]
        refine neg_br (by decide) ?_
        have : rgN L iw ih fe we ho da D (j + 1) = none := by
          simp only [rgN]; rw [hq]; simp only [Option.bind]; rw [if_pos (hs.trans s1)]
        rw [rgN_none this (show j + 1 ≤ D by omega)] at k
        exact k
      · rw [hy, s2]
        have hpc := pc_le (L &&& (((1 : Int32) <<< (nI i &&& 31)) - 1))
        have hA : ahd L i ≤ 8 := hpc
        have c : ¬ sD L iw ih fe we ho da D j = -1 := by rw [hs, s1]; exact nI_nm1 (by omega)
        have cl : (sD L iw ih fe we ho da D j).toNatClampNeg = i := by rw [hs, s1, nI_clamp (by omega)]
        have e2 : rgN L iw ih fe we ho da D (j + 1) = some (if x < nI (ahd L i) + 1 then nI (ahd L i) + 1 else x) := by
          simp only [rgN]; rw [hq]; simp only [Option.bind]; rw [if_neg c, cl]
        refine pos_br (nI_le (a := 0) (by omega) (by omega)) ⟨fun c2 => kk _ ?_, fun c2 => kk _ ?_⟩
        · rw [e2, if_neg (fun z => (nlt_le _ _).mpr z c2)]
        · rw [e2, if_pos ((nlt_le _ _).mp c2)]
    · rw [Nat.sub_self]; rfl
  · unfold wb_X8_reign_4
    rw [hq] at k
    exact pos_br (nI_le (Nat.le_refl D) (by omega)) k
theorem p_reign {D P dy : Nat} {iw ih fe we ho da mw mh mf dw dh dd mk now : Nat → Int32} {L sh sp : Int32} {Φ : Int32 → Int32 → Prop} (hD : D ≤ 10) (hC : cE D iw ih fe we ho da mw mh mf dw dh dd) (hN : cN P dy L sh sp mk now) (k : ∀ r, Φ r r) : wp_X7_reign (nI D) L we ho da iw ih fe (fun r => wp_X8_reign (nI D) now dw dh dd mw mh mf (fun r' => Φ r r')) :=
  l_reign hD (cN_sml hN) (l_reign8 hD hC hN (k _))
/-! shownAll -/
/-- the first of n days from k on when all are shown, by those shown S -/
def shA (L : Int32) (seen : Nat → Int32) : Nat → Nat → Int32 → Int32
  | 0, _, _ => -1
  | n + 1, k, S => if L &&& (S ^^^ (-1)) = 0 then nI k else shA L seen n (k + 1) (if seen k = -1 then S else S ||| ((1 : Int32) <<< (seen k &&& 31)))
theorem hid_or (L S m : Int32) : (L &&& (S ^^^ (-1))) &&& (m ^^^ (-1)) = L &&& ((S ||| m) ^^^ (-1)) := b_ext fun i hi => by
  rw [b_and, b_and, b_not _ hi, b_not _ hi, b_and, b_not _ hi, b_or]
  cases bt L i <;> cases bt S i <;> cases bt m i <;> rfl
theorem stands_br {pay : Int32} {A C : Prop} (h0 : 0 ≤ pay.toInt) (f : pay = 0 → A) (t : ¬ pay = 0 → C) : (pay ≤ 0 → A) ∧ (¬ pay ≤ 0 → C) := by
  refine ⟨fun c => f ?_, fun c => t ?_⟩
  · rw [fa_le, Int32.toInt_zero] at c
    exact Int32.toInt_inj.mp (by rw [Int32.toInt_zero]; omega)
  · intro e
    subst e
    exact c (by decide)
theorem l_shownAll {D dy : Nat} {iw ih fe we ho da : Nat → Int32} {L S : Int32} {Ψ : Int32 → Prop} (hD : D ≤ 10) (hdy : dy ≤ 9060) {M : Nat} (hM : M = 100) (k : Ψ (shA L (fun t => sD L iw ih fe we ho da D (dy + t)) M 0 S)) : ∃ n, xit2 (wb_X7_shownAll_33 (nI D) L (nI dy) we ho da iw ih fe Ψ (wk_X7_shownAll_33 Ψ)) n (L &&& (S ^^^ (-1))) 0 := by
  refine for2 (j := 0) M (fun j x => ∃ S', x = L &&& (S' ^^^ (-1)) ∧ Ψ (shA L (fun t => sD L iw ih fe we ho da D (dy + t)) (M - j) j S')) (fun j x rec hj ⟨S', hx, hq⟩ kk => ?_) (fun x rec ⟨S', hx, hq⟩ => ?_) (by omega) ⟨S, rfl, k⟩
  · unfold wb_X7_shownAll_33
    subst hx
    rw [show M - j = (M - (j + 1)) + 1 by omega] at hq
    simp only [shA] at hq
    refine neg_br (fun q => absurd ((nI_ltI (a := 99) (by omega) (by omega)).mp q) (by omega)) ⟨fun c => by rw [if_pos c] at hq; exact hq, fun c => ?_⟩
    rw [if_neg c] at hq
    rw [nI_add]
    refine w_seenOn hD (by omega) ⟨fun c2 => kk _ ⟨S', rfl, ?_⟩, fun c2 => kk _ ⟨_, hid_or _ _ _, ?_⟩⟩
    · rw [if_pos c2] at hq; exact hq
    · rw [if_neg c2] at hq; exact hq
  · unfold wb_X7_shownAll_33
    rw [Nat.sub_self] at hq
    exact pos_br ((nI_ltI (a := 99) (by omega) (by omega)).mpr (by omega)) hq
theorem l_shownAll8 {D P dy : Nat} {iw ih fe we ho da mw mh mf dw dh dd mk now : Nat → Int32} {L sh sp S : Int32} {Ψ : Int32 → Prop} (hD : D ≤ 10) (hC : cE D iw ih fe we ho da mw mh mf dw dh dd) (hN : cN P dy L sh sp mk now) {M : Nat} (hM : M = 100) (k : Ψ (shA L (fun t => sD L iw ih fe we ho da D (dy + t)) M 0 S)) : ∃ n, xit2 (wb_X8_shownAll_20 (nI D) now dw dh dd mw mh mf Ψ (wk_X8_shownAll_20 Ψ)) n S 0 := by
  have hN2 := hN
  obtain ⟨h8, h9, h10, h11, h12, hP, hdy, hL0, hmk⟩ := hN2
  refine for2 (j := 0) M (fun j S' => Ψ (shA L (fun t => sD L iw ih fe we ho da D (dy + t)) (M - j) j S')) (fun j x rec hj hq kk => ?_) (fun x rec hq => ?_) (by omega) k
  · unfold wb_X8_shownAll_20
    rw [show M - j = (M - (j + 1)) + 1 by omega] at hq
    simp only [shA] at hq
    rw [h9, h11, nI_add, or0]
    refine neg_br (fun q => absurd ((nI_ltI (a := 99) (by omega) (by omega)).mp q) (by omega)) ⟨fun c => by rw [if_pos c] at hq; exact hq, fun c => ?_⟩
    rw [if_neg c] at hq
    refine r_seenOn hC hD hN (by omega) ?_
    rcases sD_is L iw ih fe we ho da D (dy + j) with c2 | ⟨i, hi, c2, _⟩
    · rw [c2] at hq ⊢
      exact pos_br (by decide) (kk _ hq)
    · rw [c2] at hq ⊢
      rw [if_neg (nI_nm1 (by omega))] at hq
      exact neg_br (nI_pos (by omega)) (kk _ hq)
  · unfold wb_X8_shownAll_20
    rw [Nat.sub_self] at hq
    exact pos_br ((nI_ltI (a := 99) (by omega) (by omega)).mpr (by omega)) hq
theorem p_shownAll {D P dy : Nat} {iw ih fe we ho da mw mh mf dw dh dd mk now : Nat → Int32} {L sh sp pay : Int32} {Φ : Int32 → Int32 → Prop} (hD : D ≤ 10) (hp : 0 ≤ pay.toInt) (hC : cE D iw ih fe we ho da mw mh mf dw dh dd) (hN : cN P dy L sh sp mk now) (k : ∀ r, Φ r r) : wp_X7_shownAll pay (nI D) L sh (nI dy) we ho da iw ih fe (fun r => wp_X8_shownAll pay (nI D) now dw dh dd mw mh mf (fun r' => Φ r r')) := by
  unfold wp_X7_shownAll wp_X8_shownAll wp_X2_stands
  refine stands_br hp (fun c => is0 (pos_br c (k _))) (fun c => is1 (l_shownAll hD hN.2.2.2.2.2.2.1 (M := 100) rfl (neg_br c ?_)))
  rw [hN.2.2.1]
  exact l_shownAll8 hD hC hN (M := 100) rfl (k _)
