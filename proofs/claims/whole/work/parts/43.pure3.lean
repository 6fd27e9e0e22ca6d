/-! the pure side, 3: answers that change nothing -/
theorem dW_lt {f : Nat → Int32} {D t : Nat} (h : t < D) : dW f D t = f t := by unfold dW; rw [if_neg (by omega), Nat.mod_eq_of_lt h]
theorem p_told {D P dy : Nat} {iw ih fe we ho da mw mh mf dw dh dd mk now : Nat → Int32} {L sh sp pay tl wc bc uc w : Int32} {Φ : Int32 → Int32 → Prop} (hD : D ≤ 10) (hC : cE D iw ih fe we ho da mw mh mf dw dh dd) (hN : cN P dy L sh sp mk now) (k : ∀ r, Φ r r) : wp_X7_told pay (nI D) (nI P) L sh sp (nI dy) tl we ho da iw ih fe wc bc uc w (fun r => wp_X8_told pay (nI D) tl uc wc bc now dw dh dd mw mh mf w (fun r' => Φ r r')) := by
  have hN2 := hN
  obtain ⟨h8, h9, h10, h11, h12, hP, hdy, hL0, hmk⟩ := hN2
  unfold wp_X7_told wp_X8_told
  simp only [h8, h9, h10, h11, h12]
  refine ⟨fun c => ?_, fun c0 => ⟨fun c => ?_, fun c1 => ⟨fun c => ?_, fun c2 => ⟨fun c => ?_, fun c3 => ⟨fun c => ?_, fun c4 => ⟨fun c => ?_, fun c5 => ⟨fun c => ?_, fun c6 => ⟨fun c => ?_, fun c7 => ⟨fun c => ?_, fun c8 => ⟨fun c => ?_, fun c9 => ⟨fun c => ?_, fun c10 => ⟨fun c => ?_, fun c11 => ?_⟩⟩⟩⟩⟩⟩⟩⟩⟩⟩⟩⟩
  case refine_8 =>
    refine w_seenOn hD (by omega) ?_
    repeat (first | refine pos_br (by assumption) ?_ | refine neg_br (by assumption) ?_)
    exact r_seenOn hC hD hN (by omega) (k _)
  all_goals
    repeat (first | refine pos_br (by assumption) ?_ | refine neg_br (by assumption) ?_)
    exact k _
theorem p_person {D P dy : Nat} {iw ih fe we ho da mw mh mf dw dh dd mk now : Nat → Int32} {L sh sp pay p w : Int32} {Φ : Int32 → Int32 → Prop} (hD : D ≤ 10) (hC : cE D iw ih fe we ho da mw mh mf dw dh dd) (hN : cN P dy L sh sp mk now) (k : ∀ r, Φ r r) : wp_X7_person (nI P) L (nI dy) mk pay (nI D) iw ih fe we ho da p w (fun r => wp_X8_person pay (nI D) now mw mh mf dw dh dd p w (fun r' => Φ r r')) := by
  have hN2 := hN
  have hL := cN_sml hN
  obtain ⟨h8, h9, h10, h11, h12, hP, hdy, hL0, hmk⟩ := hN2
  unfold wp_X7_person wp_X8_person
  refine w_has (by omega) (br_b (fun e => ?_) (fun e => ?_))
  · exact w_isPerson (by omega) h8 (br0 e (k _))
  · obtain ⟨j, hj, rfl⟩ := isP_t (by omega) e
    have hj8 : j < 8 := by omega
    have W : ∀ {A C : Prop} {Ψ : Int32 → Prop}, Ψ (B01 (isP (nI j) P)) → wp_X8_isPerson now (nI j) Ψ := fun h => w_isPerson (by omega) h8 h
    obtain ⟨c1, c2, c3⟩ := hC.1 j hj8
    refine ⟨fun c => ?_, fun c0 => ⟨fun c => ?_, fun c1 => ⟨fun c => ?_, fun c2 => ⟨fun c => ?_, fun c3 => ⟨fun c => ?_, fun c4 => ⟨fun c => ?_, fun c5 => ⟨fun c => ?_, fun c6 => ?_⟩⟩⟩⟩⟩⟩⟩
    · refine w_at hj8 (by omega) (w_isPerson (by omega) h8 (br1 e ?_))
      repeat (first | refine pos_br (by assumption) ?_ | refine neg_br (by assumption) ?_)
      refine ⟨vp_in_nI (by omega) (by omega), ?_⟩
      rw [nI_clamp (by omega), (hmk j hj).1]
      exact k _
    · refine w_at hj8 (by omega) (w_isPerson (by omega) h8 (br1 e ?_))
      repeat (first | refine pos_br (by assumption) ?_ | refine neg_br (by assumption) ?_)
      refine ⟨vp_in_nI (by omega) (by omega), ?_⟩
      rw [nI_clamp (by omega), (hC.1 j hj8).1]
      exact k _
    · refine w_at hj8 (by omega) (w_isPerson (by omega) h8 (br1 e ?_))
      repeat (first | refine pos_br (by assumption) ?_ | refine neg_br (by assumption) ?_)
      refine ⟨vp_in_nI (by omega) (by omega), ?_⟩
      rw [nI_clamp (by omega), (hC.1 j hj8).2.1]
      exact k _
    · refine w_at hj8 (by omega) (w_isPerson (by omega) h8 (br1 e ?_))
      repeat (first | refine pos_br (by assumption) ?_ | refine neg_br (by assumption) ?_)
      refine ⟨vp_in_nI (by omega) (by omega), ?_⟩
      rw [nI_clamp (by omega), (hC.1 j hj8).2.2]
      exact k _
    · refine w_lives (by omega) (br_b (fun e2 => ?_) (fun e2 => w_aheadOf hL ?_))
      · refine w_isPerson (by omega) h8 (br1 e ?_)
        repeat (first | refine pos_br (by assumption) ?_ | refine neg_br (by assumption) ?_)
        exact w_lives8 (by omega) h9 (br0 e2 (k _))
      · refine w_isPerson (by omega) h8 (br1 e ?_)
        repeat (first | refine pos_br (by assumption) ?_ | refine neg_br (by assumption) ?_)
        exact w_lives8 (by omega) h9 (br1 e2 (w_placeOf h9 (k _)))
    · refine w_lives (by omega) (br_b (fun e2 => ?_) (fun e2 => w_aheadOf hL ?_))
      · refine w_isPerson (by omega) h8 (br1 e ?_)
        repeat (first | refine pos_br (by assumption) ?_ | refine neg_br (by assumption) ?_)
        exact w_lives8 (by omega) h9 (br0 e2 (k _))
      · unfold wp_X2_payAt
        refine w_isPerson (by omega) h8 (br1 e ?_)
        repeat (first | refine pos_br (by assumption) ?_ | refine neg_br (by assumption) ?_)
        exact w_lives8 (by omega) h9 (br1 e2 (w_placeOf h9 (k _)))
    · refine w_goesOutOn hD (by omega) hj8 (br_b (fun e2 => ?_) (fun e2 => ?_))
      · refine w_isPerson (by omega) h8 (br1 e ?_)
        repeat (first | refine pos_br (by assumption) ?_ | refine neg_br (by assumption) ?_)
        rw [h11]
        exact r_goesOn hC hD hj8 (by omega) (br0 e2 (k _))
      · refine w_isPerson (by omega) h8 (br1 e ?_)
        repeat (first | refine pos_br (by assumption) ?_ | refine neg_br (by assumption) ?_)
        rw [h11]
        exact r_goesOn hC hD hj8 (by omega) (br1 e2 (k _))
    · refine w_isPerson (by omega) h8 (br1 e ?_)
      repeat (first | refine pos_br (by assumption) ?_ | refine neg_br (by assumption) ?_)
      exact k _
theorem p_dayTold {D : Nat} {iw ih fe we ho da mw mh mf dw dh dd : Nat → Int32} {d w : Int32} {Φ : Int32 → Int32 → Prop} (hD : D ≤ 10) (hC : cE D iw ih fe we ho da mw mh mf dw dh dd) (k : ∀ r, Φ r r) : wp_X7_dayTold (nI D) we ho da d w (fun r => wp_X8_dayTold (nI D) dd dh dw d w (fun r' => Φ r r')) := by
  unfold wp_X7_dayTold wp_X8_dayTold
  refine w_hasDay (by omega) (br_b (fun e => ?_) (fun e => ?_))
  · exact w_inP (by omega) rfl (br0 e (k _))
  · obtain ⟨j, hj, rfl⟩ := isP_t (by omega) e
    obtain ⟨c1, c2, c3⟩ := hC.2 j hj
    refine ⟨fun c => ?_, fun c0 => ⟨fun c => ?_, fun c1 => ⟨fun c => ?_, fun c2 => ?_⟩⟩⟩
    · refine w_weatherOn hD (by omega) (w_inP (by omega) rfl (br1 e ?_))
      repeat (first | refine pos_br (by assumption) ?_ | refine neg_br (by assumption) ?_)
      refine ⟨vp_in_nI (by omega) (by omega), ?_⟩
      rw [nI_clamp (by omega), (hC.2 j hj).1, dW_lt hj]
      exact k _
    · refine w_hourOn hD (by omega) (w_inP (by omega) rfl (br1 e ?_))
      repeat (first | refine pos_br (by assumption) ?_ | refine neg_br (by assumption) ?_)
      refine ⟨vp_in_nI (by omega) (by omega), ?_⟩
      rw [nI_clamp (by omega), (hC.2 j hj).2.1, dW_lt hj]
      exact k _
    · refine w_dangerOn hD (by omega) (w_inP (by omega) rfl (br1 e ?_))
      repeat (first | refine pos_br (by assumption) ?_ | refine neg_br (by assumption) ?_)
      refine ⟨vp_in_nI (by omega) (by omega), ?_⟩
      rw [nI_clamp (by omega), (hC.2 j hj).2.2, dW_lt hj]
      exact k _
    · refine w_inP (by omega) rfl (br1 e ?_)
      repeat (first | refine pos_br (by assumption) ?_ | refine neg_br (by assumption) ?_)
      exact k _
theorem p_would {D P dy : Nat} {iw ih fe we ho da mw mh mf dw dh dd mk now : Nat → Int32} {L sh sp w h d : Int32} {Φ : Int32 → Int32 → Prop} (hC : cE D iw ih fe we ho da mw mh mf dw dh dd) (hN : cN P dy L sh sp mk now) (k : ∀ r, Φ r r) : wp_X7_would L iw ih fe w h d (fun r => wp_X8_would now mw mh mf w h d (fun r' => Φ r r')) := by
  obtain ⟨h8, h9, h10, h11, h12, hP, hdy, hL0, hmk⟩ := hN
  unfold wp_X7_would wp_X8_would
  refine w_within (br_b (fun e => w_in (br0 e (k _)) (by decide) (by decide)) (fun e => ?_))
  refine w_within (br_b (fun e2 => w_in (br1 e (w_in (br0 e2 (k _)) (by decide) (by decide))) (by decide) (by decide)) (fun e2 => ?_))
  refine w_within (br_b (fun e3 => w_in (br1 e (w_in (br1 e2 (w_in (br0 e3 (k _)) (by decide) (by decide))) (by decide) (by decide))) (by decide) (by decide)) (fun e3 => ?_))
  refine w_seenBy (w_in (br1 e (w_in (br1 e2 (w_in (br1 e3 ?_) (by decide) (by decide))) (by decide) (by decide))) (by decide) (by decide))
  refine srch (fun p => bt L p && gG iw ih fe p w h d) 0 P (fun r' => Φ (sn (fun p => bt L p && gG iw ih fe p w h d) 8 0) r') (fun j rec hj ht hf => ?_) (fun rec hp => ?_) ?_
  · unfold wb_X8_would_42
    rw [h8]
    refine neg_br (nI_ge hj (by omega)) ?_
    rw [Nat.zero_add] at ht hf
    refine w_lives8 (by omega) h9 (br_b (fun e => hf (by simp [e])) (fun e => r_goesBy hC (by omega) (br_b (fun e2 => hf (by simp [e2])) (fun e2 => ht (by simp [e, e2])))))
  · unfold wb_X8_would_42
    rw [h8]
    exact pos_br (nI_le (Nat.le_refl P) (by omega)) hp
  · have := sn_cut (q := fun p => bt L p && gG iw ih fe p w h d) P (8 - P) 0 (fun j hj => by simp [hL0 j (by omega)])
    rw [show P + (8 - P) = 8 by omega] at this
    rw [this]
    exact k _
theorem l_fN {D dy N : Nat} {iw ih fe we ho da : Nat → Int32} {L : Int32} {Ψ : Int32 → Prop} (hD : D ≤ 10) (hdy : dy ≤ 9060) (hn : N ≤ 60) (k : Ψ (sn (fun t => decide (sD L iw ih fe we ho da D t = -1)) N dy)) : ∃ n, xit1 (wb_X7_firstNobody_15 L (nI dy) (nI D) we ho da iw ih fe (nI N) Ψ (wk_X7_firstNobody_15 Ψ)) n 0 := by
  refine srch (fun t => decide (sD L iw ih fe we ho da D t = -1)) dy N Ψ (fun j rec hj ht hf => ?_) (fun rec hp => ?_) k
  · unfold wb_X7_firstNobody_15
    refine neg_br (nI_ge hj (by omega)) ?_
    rw [nI_add]
    refine w_seenOn hD (by omega) ⟨fun c => ht (by simp [c]), fun c => hf (by simp [c])⟩
  · unfold wb_X7_firstNobody_15
    exact pos_br (nI_le (Nat.le_refl N) (by omega)) hp
theorem l_fN8 {D P dy N : Nat} {iw ih fe we ho da mw mh mf dw dh dd mk now : Nat → Int32} {L sh sp : Int32} {Ψ : Int32 → Prop} (hD : D ≤ 10) (hC : cE D iw ih fe we ho da mw mh mf dw dh dd) (hN : cN P dy L sh sp mk now) (hn : N ≤ 60) (k : Ψ (sn (fun t => decide (sD L iw ih fe we ho da D t = -1)) N dy)) : ∃ n, xit1 (wb_X8_firstNobody_17 (nI D) now dw dh dd mw mh mf (nI N) Ψ (wk_X8_firstNobody_17 Ψ)) n 0 := by
  have hN2 := hN
  obtain ⟨h8, h9, h10, h11, h12, hP, hdy, hL0, hmk⟩ := hN2
  refine srch (fun t => decide (sD L iw ih fe we ho da D t = -1)) dy N Ψ (fun j rec hj ht hf => ?_) (fun rec hp => ?_) k
  · unfold wb_X8_firstNobody_17
    refine neg_br (nI_ge hj (by omega)) ?_
    rw [h11, nI_add]
    refine r_seenOn hC hD hN (by omega) ?_
    rcases sD_is L iw ih fe we ho da D (dy + j) with c | ⟨i, hi, c, _⟩
    · rw [c]
      exact neg_br (by decide) (ht (by simp [c]))
    · rw [c]
      exact pos_br (nI_le (a := 0) (b := i) (by omega) (by omega)) (hf (by simp [c, nI_nm1 (show i < 2 ^ 31 by omega)]))
  · unfold wb_X8_firstNobody_17
    exact pos_br (nI_le (Nat.le_refl N) (by omega)) hp
theorem p_firstNobody {D P dy : Nat} {iw ih fe we ho da mw mh mf dw dh dd mk now : Nat → Int32} {L sh sp n : Int32} {Φ : Int32 → Int32 → Prop} (hD : D ≤ 10) (hC : cE D iw ih fe we ho da mw mh mf dw dh dd) (hN : cN P dy L sh sp mk now) (k : ∀ r, Φ r r) : wp_X7_firstNobody L (nI dy) (nI D) we ho da iw ih fe n (fun r => wp_X8_firstNobody (nI D) now dw dh dd mw mh mf n (fun r' => Φ r r')) := by
  unfold wp_X7_firstNobody wp_X8_firstNobody
  refine w_within (br_b (fun e => w_in (br0 e (k _)) (by decide) (by decide)) (fun e => ?_))
  obtain ⟨N, _, hn, rfl⟩ := inr_t (a := 0) (b := 60) (by omega) (by omega) e
  exact l_fN hD hN.2.2.2.2.2.2.1 hn (w_in (br1 e (l_fN8 hD hC hN hn (k _))) (by decide) (by decide))
theorem has_all (a x : Int32) : (a &&& (x ^^^ (-1))) = 0 ↔ (x &&& a) = a := by
  constructor
  · intro h
    apply b_ext
    intro i hi
    have := congrArg (fun z => bt z i) h
    simp only [b_and, b_not _ hi, b_0] at this
    rw [b_and]
    cases h1 : bt a i <;> cases h2 : bt x i <;> simp_all
  · intro h
    apply b_ext
    intro i hi
    have := congrArg (fun z => bt z i) h
    simp only [b_and] at this
    rw [b_and, b_not _ hi, b_0]
    cases h1 : bt a i <;> cases h2 : bt x i <;> simp_all
theorem and_c (x y : Int32) : x &&& y = y &&& x := b_ext fun i _ => by rw [b_and, b_and, Bool.and_comm]
theorem p_byMarks {P dy : Nat} {mk now : Nat → Int32} {L sh sp a z : Int32} {Φ : Int32 → Int32 → Prop} (hN : cN P dy L sh sp mk now) (k : ∀ r, Φ r r) : wp_X7_byMarks L mk a z (fun r => wp_X8_byMarks now a z (fun r' => Φ r r')) := by
  obtain ⟨h8, h9, h10, h11, h12, hP, hdy, hL0, hmk⟩ := hN
  unfold wp_X7_byMarks wp_X8_byMarks
  refine w_within (br_b (fun e => w_in (br0 e (k _)) (by decide) (by decide)) (fun e => ?_))
  refine w_within (br_b (fun e2 => w_in (br1 e (w_in (br0 e2 (k _)) (by decide) (by decide))) (by decide) (by decide)) (fun e2 => ?_))
  let q : Nat → Bool := fun p => bt L p && (decide ((mk p &&& a) = a) && decide ((mk p &&& z) = 0))
  refine for2 (j := 0) 8 (fun j x => x = col q j) (fun j x rec hj hp kk => ?_) (fun x rec hp => ?_) (by omega) rfl
  · unfold wb_X7_byMarks_30
    subst hp
    refine neg_br (ge8 hj) (w_at hj (by omega) (w_lives (by omega) (br_b (fun e => kk _ (col_f (by simp [q, e]))) (fun e => ⟨fun c => ⟨fun c2 => kk _ (col_t (by simp [q, e, c, c2])), fun c2 => kk _ (col_f (by simp [q, c2]))⟩, fun c => kk _ (col_f (by simp [q, c]))⟩))))
  · unfold wb_X7_byMarks_30
    subst hp
    refine pos_br le8 ?_
    unfold wk_X7_byMarks_30
    refine w_in (br1 e (w_in (br1 e2 ?_) (by decide) (by decide))) (by decide) (by decide)
    refine for2 (j := 0) P (fun j x => x = col q j) (fun j x rec hj hp kk => ?_) (fun x rec hp => ?_) (by omega) rfl
    · unfold wb_X8_byMarks_32
      subst hp
      rw [h8, nI_clamp (by omega), (hmk j hj).1, or0, has_all, and_c z]
      refine neg_br (nI_ge hj (by omega)) (w_lives8 (by omega) h9 (br_b (fun e => kk _ (col_f (by simp [q, e]))) (fun e => ⟨vp_in_nI (by omega) (by omega), fun c => ⟨vp_in_nI (by omega) (by omega), fun c2 => kk _ (col_t (by simp [q, e, c, c2])), fun c2 => kk _ (col_f (by simp [q, c2]))⟩, fun c => kk _ (col_f (by simp [q, c]))⟩)))
    · unfold wb_X8_byMarks_32
      subst hp
      rw [h8]
      refine pos_br (nI_le (Nat.le_refl P) (by omega)) ?_
      unfold wk_X8_byMarks_32
      rw [col_cut hP (fun j hj => by simp [q, hL0 j hj])]
      exact k _
theorem p_diedAt {P dy : Nat} {mk now : Nat → Int32} {L sh sp p : Int32} {Φ : Int32 → Int32 → Prop} (hN : cN P dy L sh sp mk now) (k : ∀ r, Φ r r) : wp_X7_diedAt (nI P) L p (fun r => wp_X8_diedAt now p (fun r' => Φ r r')) := by
  have hL := cN_sml hN
  obtain ⟨h8, h9, h10, h11, h12, hP, hdy, hL0, hmk⟩ := hN
  unfold wp_X7_diedAt wp_X8_diedAt
  refine w_has (by omega) (br_b (fun e => w_isPerson (by omega) h8 (br0 e (k _))) (fun e => ?_))
  obtain ⟨j, hj, rfl⟩ := isP_t (by omega) e
  refine w_lives (by omega) (br_b (fun e2 => w_aheadOf hL (w_isPerson (by omega) h8 (br1 e (w_lives8 (by omega) h9 (br0 e2 (w_placeOf h9 (k _))))))) (fun e2 => w_isPerson (by omega) h8 (br1 e (w_lives8 (by omega) h9 (br1 e2 (k _))))))
theorem p_apart {P dy : Nat} {mk now : Nat → Int32} {L sh sp p q : Int32} {Φ : Int32 → Int32 → Prop} (hN : cN P dy L sh sp mk now) (k : ∀ r, Φ r r) : wp_X7_apart (nI P) mk p q (fun r => wp_X8_apart now p q (fun r' => Φ r r')) := by
  obtain ⟨h8, h9, h10, h11, h12, hP, hdy, hL0, hmk⟩ := hN
  unfold wp_X7_apart wp_X8_apart
  refine w_has (by omega) (br_b (fun e => w_isPerson (by omega) h8 (br0 e (k _))) (fun e => ?_))
  refine w_has (by omega) (br_b (fun e2 => w_isPerson (by omega) h8 (br1 e (w_isPerson (by omega) h8 (br0 e2 (k _))))) (fun e2 => ?_))
  obtain ⟨i, hi, rfl⟩ := isP_t (by omega) e
  obtain ⟨j, hj, rfl⟩ := isP_t (by omega) e2
  refine ⟨fun c => w_isPerson (by omega) h8 (br1 e (w_isPerson (by omega) h8 (br1 e2 (pos_br c (k _))))), fun c => ?_⟩
  refine w_at (by omega) (by omega) (w_at (by omega) (by omega) (w_bitCount (sml_xor (hmk i hi).2 (hmk j hj).2) (w_isPerson (by omega) h8 (br1 e (w_isPerson (by omega) h8 (br1 e2 (neg_br c ⟨vp_in_nI (by omega) (by omega), vp_in_nI (by omega) (by omega), ?_⟩)))))))
  rw [nI_clamp (by omega), nI_clamp (by omega), (hmk i hi).1, (hmk j hj).1]
  exact w_bits (k _)
/-- what is left of the odds -/
def odA (da : Nat → Int32) (D dy : Nat) (q : Int32) : Nat → Int64
  | 0 => 1000000000
  | n + 1 => odA da D dy q n * ((100 - (if q + dW da D (dy + n) < 100 then q + dW da D (dy + n) else 100) : Int32)).toInt64 / 100
theorem nlt_le (a b : Int32) : ¬ a ≤ b ↔ b < a := by rw [fa_le, fa_lt]; omega
theorem p_safe {D P dy : Nat} {iw ih fe we ho da mw mh mf dw dh dd mk now : Nat → Int32} {L sh sp n q : Int32} {Φ : Int32 → Int32 → Prop} (hD : D ≤ 10) (hC : cE D iw ih fe we ho da mw mh mf dw dh dd) (hN : cN P dy L sh sp mk now) (k : ∀ r, Φ r r) : wp_X7_safe (nI dy) (nI D) da n q (fun r => wp_X8_safe (nI D) now dd n q (fun r' => Φ r r')) := by
  obtain ⟨h8, h9, h10, h11, h12, hP, hdy, hL0, hmk⟩ := hN
  unfold wp_X7_safe wp_X8_safe
  refine w_within (br_b (fun e => w_in (br0 e (k _)) (by decide) (by decide)) (fun e => ?_))
  refine w_within (br_b (fun e2 => w_in (br1 e (w_in (br0 e2 (k _)) (by decide) (by decide))) (by decide) (by decide)) (fun e2 => ?_))
  obtain ⟨N, _, hn, rfl⟩ := inr_t (a := 0) (b := 60) (by omega) (by omega) e
  refine for2 (j := 0) N (fun j x => x = odA da D dy q j) (fun j x rec hj hp kk => ?_) (fun x rec hp => ?_) (by omega) rfl
  · unfold wb_X7_safe_30
    subst hp
    refine neg_br (nI_ge hj (by omega)) ?_
    rw [nI_add]
    exact w_dangerOn hD (by omega) (kk _ rfl)
  · unfold wb_X7_safe_30
    subst hp
    refine pos_br (nI_le (Nat.le_refl N) (by omega)) ?_
    unfold wk_X7_safe_30
    refine w_in (br1 e (w_in (br1 e2 ?_) (by decide) (by decide))) (by decide) (by decide)
    refine for2 (j := 0) N (fun j x => x = odA da D dy q j) (fun j x rec hj hp kk => ?_) (fun x rec hp => ?_) (by omega) rfl
    · unfold wb_X8_safe_34
      subst hp
      refine neg_br (nI_ge hj (by omega)) ?_
      rw [h11, nI_add]
      refine r_dangerOn hC hD (by omega) ⟨fun c => ?_, fun c => r_dangerOn hC hD (by omega) ?_⟩
      · refine kk _ ?_
        simp only [odA]
        rw [if_neg (fun q => (nlt_le _ _).mpr q c)]
      · refine kk _ ?_
        simp only [odA]
        rw [if_pos ((nlt_le _ _).mp c)]
    · unfold wb_X8_safe_34
      subst hp
      exact pos_br (nI_le (Nat.le_refl N) (by omega)) (k _)
