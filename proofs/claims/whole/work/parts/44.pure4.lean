/-! the pure side, 4: more answers -/
/-- all below n have it -/
def al (q : Nat → Bool) : Nat → Bool
  | 0 => true
  | n + 1 => al q n && q n
theorem al_iff (q : Nat → Bool) : ∀ n, al q n = true ↔ ∀ j, j < n → q j = true
  | 0 => ⟨fun _ j h => absurd h (by omega), fun _ => rfl⟩
  | n + 1 => by
    simp only [al, Bool.and_eq_true]
    rw [al_iff q n]
    constructor
    · intro ⟨h1, h2⟩ j hj
      by_cases h : j = n
      · subst h; exact h2
      · exact h1 j (by omega)
    · intro h
      exact ⟨fun j hj => h j (by omega), h n (by omega)⟩
theorem al_false {q : Nat → Bool} {n j : Nat} (hj : j < n) (h : q j = false) : al q n = false := by
  cases e : al q n
  · rfl
  · have := (al_iff q n).mp e j hj
    rw [h] at this
    exact this.symm
theorem al_ext {q q' : Nat → Bool} (n : Nat) (h : ∀ j, j < n → q j = q' j) : al q n = al q' n := by
  rw [Bool.eq_iff_iff, al_iff, al_iff]
  exact ⟨fun a j hj => by rw [← h j hj]; exact a j hj, fun a j hj => by rw [h j hj]; exact a j hj⟩
/-! the book -/
def gB (n : Nat) (bp bm wp wm : Nat → Int32) : Prop := ∀ k, k < n → wp k = bp k ∧ wm k = bm k
theorem p_write {n P dy : Nat} {bp bm xp xm mk now : Nat → Int32} {L sh sp p x : Int32} {Φ : Int32 → (Nat → Int32) → (Nat → Int32) → Int32 → Int32 → (Nat → Int32) → (Nat → Int32) → Int32 → Prop} (hN : cN P dy L sh sp mk now) (hn : n ≤ 15) (hB : gB n bp bm xp xm) (k : ∀ r bp bm xp xm n', n' ≤ 15 → gB n' bp bm xp xm → Φ r bp bm (nI n') r xp xm (nI n')) : wp_X7_write (nI P) (nI n) bp bm p x (fun r a b c => wp_X8_write (nI n) now xp xm p x (fun r' a' b' c' => Φ r a b c r' a' b' c')) := by
  obtain ⟨h8, h9, h10, h11, h12, hP, hdy, hL0, hmk⟩ := hN
  unfold wp_X7_write wp_X8_write
  refine w_has (by omega) (br_b (fun e => w_isPerson (by omega) h8 (br0 e (k _ _ _ _ _ _ hn hB))) (fun e => ?_))
  refine w_within (br_b (fun e2 => w_isPerson (by omega) h8 (br1 e (w_in (br0 e2 (k _ _ _ _ _ _ hn hB)) (by decide) (by decide)))) (fun e2 => ?_))
  unfold wp_X0_add
  refine br_lt (a := n) (b := 15) (by omega) (by omega) (fun h => ?_) (fun h => ?_)
  · refine w_put h (by omega) (w_put h (by omega) (is1 (w_isPerson (by omega) h8 (br1 e (w_in (br1 e2 (neg_br (nIne (a := n) (b := 15) (by omega) (by omega) (by omega)) ⟨vp_in_nI h (by omega), vp_in_nI h (by omega), ?_⟩)) (by decide) (by decide))))))
    rw [nI_clamp (by omega), ← nI_succ]
    refine k _ _ _ _ _ (n + 1) (by omega) (fun j hj => ?_)
    by_cases hjn : j = n
    · subst hjn; simp only [pk_us, and_self]
    · rw [pk_un hjn, pk_un hjn, pk_un hjn, pk_un hjn]; exact hB j (by omega)
  · have : n = 15 := by omega
    subst this
    exact is0 (w_isPerson (by omega) h8 (br1 e (w_in (br1 e2 (pos_br rfl (k _ _ _ _ _ _ hn hB))) (by decide) (by decide))))
def wrg (P : Nat) (mk bp bm : Nat → Int32) (j : Nat) : Bool := !(isP (bp j) P && decide (mk (bp j).toNatClampNeg = bm j))
theorem l_judge {n P : Nat} {bp bm mk : Nat → Int32} {Ψ : Int32 → Prop} (hP : P ≤ 8) (hn : n ≤ 15) (k : Ψ (sn (wrg P mk bp bm) n 0)) : wp_X7_judge (nI n) bp (nI P) mk bm Ψ := by
  unfold wp_X7_judge wp_X0_firstWrong
  refine srch (wrg P mk bp bm) 0 n Ψ (fun j rec hj ht hf => ?_) (fun rec hp => ?_) k
  · unfold wb_X0_firstWrong_2
    rw [Nat.zero_add] at ht hf
    refine neg_br (nI_ge hj (by omega)) (w_at (by omega) (by omega) (w_has (by omega) (br_b (fun e => ht (by simp [wrg, e])) (fun e => ?_))))
    obtain ⟨i, hi, ei⟩ := isP_t (by omega) e
    rw [ei]
    refine w_at (by omega) (by omega) (w_at (by omega) (by omega) ⟨fun c => hf ?_, fun c => ht ?_⟩)
    · unfold wrg
      rw [e, ei, nI_clamp (by omega), decide_eq_true c]
      rfl
    · unfold wrg
      rw [e, ei, nI_clamp (by omega), decide_eq_false c]
      rfl
  · unfold wb_X0_firstWrong_2
    exact pos_br (nI_le (Nat.le_refl n) (by omega)) hp
theorem p_judge {n P dy : Nat} {bp bm xp xm mk now : Nat → Int32} {L sh sp : Int32} {Φ : Int32 → Int32 → Prop} (hN : cN P dy L sh sp mk now) (hn : n ≤ 15) (hB : gB n bp bm xp xm) (k : ∀ r, Φ r r) : wp_X7_judge (nI n) bp (nI P) mk bm (fun r => wp_X8_judge (nI n) xp now xm (fun r' => Φ r r')) := by
  obtain ⟨h8, h9, h10, h11, h12, hP, hdy, hL0, hmk⟩ := hN
  refine l_judge hP hn ?_
  unfold wp_X8_judge
  refine srch (wrg P mk bp bm) 0 n (fun r' => Φ (sn (wrg P mk bp bm) n 0) r') (fun j rec hj ht hf => ?_) (fun rec hp => ?_) (k _)
  · unfold wb_X8_judge_2
    rw [Nat.zero_add] at ht hf
    obtain ⟨b1, b2⟩ := hB j hj
    rw [nI_clamp (by omega), b1, b2]
    refine neg_br (nI_ge hj (by omega)) ⟨vp_in_nI (by omega) (by omega), w_isPerson (by omega) h8 (br_b (fun e => ht (by simp [wrg, e])) (fun e => ?_))⟩
    obtain ⟨i, hi, ei⟩ := isP_t (by omega) e
    rw [ei, nI_clamp (by omega), (hmk i hi).1]
    refine ⟨vp_in_nI (by omega) (by omega), vp_in_nI (by omega) (by omega), vp_in_nI (by omega) (by omega), fun c => hf ?_, fun c => ht ?_⟩
    · unfold wrg
      rw [e, ei, nI_clamp (by omega), decide_eq_true c]
      rfl
    · unfold wrg
      rw [e, ei, nI_clamp (by omega), decide_eq_false c]
      rfl
  · unfold wb_X8_judge_2
    exact pos_br (nI_le (Nat.le_refl n) (by omega)) hp
/-! what was watched -/
def gW (D n : Nat) (wd wo xd xo : Nat → Int32) : Prop := ∀ k, k < n → xd k = wd k ∧ xo k = wo k ∧ ∃ d, d < D ∧ wd k = nI d
/-- at which of the entries he went out, out of the class's set -/
abbrev wob (ou : Int32) : Nat → Int32 := fun k => B01 (bt ou k)
theorem gW_put {D n : Nat} {wd xd xo : Nat → Int32} {ou ou' p y : Int32} (hB : gW D n wd (wob ou) xd xo) (hD : D ≤ 10) (e : isP p D = true) (h1 : ∀ j, j < n → bt ou' j = bt ou j) (h2 : y = B01 (bt ou' n)) : gW D (n + 1) (upd wd n p) (wob ou') (upd xd n p) (upd xo n y) := by
  intro j hj
  by_cases hjn : j = n
  · subst hjn
    obtain ⟨d, hd, rfl⟩ := isP_t (by omega) e
    exact ⟨by rw [pk_us, pk_us], by rw [pk_us]; exact h2, d, hd, pk_us⟩
  · obtain ⟨a, b, d, hd, ed⟩ := hB j (by omega)
    refine ⟨by rw [pk_un hjn, pk_un hjn]; exact a, ?_, d, hd, by rw [pk_un hjn]; exact ed⟩
    rw [pk_un hjn, b]
    show B01 (bt ou j) = B01 (bt ou' j)
    rw [h1 j (by omega)]
theorem p_watch {n D : Nat} {wd : Nat → Int32} {ou : Int32} {xd xo : Nat → Int32} {p x : Int32} {Φ : Int32 → (Nat → Int32) → Int32 → Int32 → Int32 → (Nat → Int32) → (Nat → Int32) → Int32 → Prop} (hx : x = 0 ∨ x = 1) (hD : D ≤ 10) (hn : n ≤ 8) (hB : gW D n wd (wob ou) xd xo) (k : ∀ r wd ou xd xo n', n' ≤ 8 → gW D n' wd (wob ou) xd xo → Φ r wd ou (nI n') r xd xo (nI n')) : wp_X7_watch (nI D) ou (nI n) wd p x (fun r a o c => wp_X8_watch (nI D) (nI n) xd xo p x (fun r' a' b' c' => Φ r a o c r' a' b' c')) := by
  unfold wp_X7_watch wp_X8_watch
  refine w_hasDay (by omega) (br_b (fun e => w_inP (by omega) rfl (br0 e (k _ _ _ _ _ _ hn hB))) (fun e => ?_))
  unfold wp_X6_add
  refine br_lt (a := n) (b := 8) (by omega) (by omega) (fun h => ?_) (fun h => ?_)
  · refine w_put h (by omega) ?_
    rcases hx with rfl | rfl
    · refine pos_br rfl (is1 (w_inP (by omega) rfl (br1 e (neg_br (nIne (a := n) (b := 8) (by omega) (by omega) (by omega)) ⟨vp_in_nI h (by omega), vp_in_nI h (by omega), ?_⟩))))
      rw [nI_clamp (by omega), ← nI_succ]
      refine k _ _ _ _ _ (n + 1) (by omega) (gW_put hB hD e (fun j hj => ?_) ?_)
      · rw [b_and, b_not _ (by omega), b_one (by omega) (by omega), decide_eq_false (by omega)]
        cases bt ou j <;> rfl
      · rw [b_and, b_not _ (by omega), b_one (by omega) (by omega), decide_eq_true (by rfl)]
        cases bt ou n <;> rfl
    · refine neg_br (by decide) (is1 (w_inP (by omega) rfl (br1 e (neg_br (nIne (a := n) (b := 8) (by omega) (by omega) (by omega)) ⟨vp_in_nI h (by omega), vp_in_nI h (by omega), ?_⟩))))
      rw [nI_clamp (by omega), ← nI_succ]
      refine k _ _ _ _ _ (n + 1) (by omega) (gW_put hB hD e (fun j hj => ?_) ?_)
      · rw [b_or, b_one (by omega) (by omega), decide_eq_false (by omega)]
        cases bt ou j <;> rfl
      · rw [b_or, b_one (by omega) (by omega), decide_eq_true (by rfl)]
        cases bt ou n <;> rfl
  · have : n = 8 := by omega
    subst this
    exact is0 (w_inP (by omega) rfl (br1 e (pos_br rfl (k _ _ _ _ _ _ hn hB))))
/-- whether p fits what was watched -/
def ftq (iw ih fe we ho da wd wo : Nat → Int32) (D p : Nat) (k : Nat) : Bool := decide (B01 (gD iw ih fe we ho da D (wd k).toNatClampNeg p) = wo k)
theorem w_isFitting {D n p : Nat} {iw ih fe we ho da wd xd xo : Nat → Int32} {ou : Int32} {Ψ : Int32 → Prop} (hD : D ≤ 10) (hp : p < 8) (hn : n ≤ 8) (hB : gW D n wd (wob ou) xd xo) (k : Ψ (B01 (al (ftq iw ih fe we ho da wd (wob ou) D p) n))) : wp_X6_isFitting ou (nI n) wd (nI D) we ho da iw ih fe (nI p) Ψ := by
  unfold wp_X6_isFitting
  refine for1 (j := 0) n (fun j => al (ftq iw ih fe we ho da wd (wob ou) D p) j = true) (fun j rec hj hq kk => ?_) (fun rec hq => ?_) (by omega) rfl
  · unfold wb_X6_isFitting_2
    obtain ⟨_, _, d, hd, ed⟩ := hB j hj
    refine neg_br (nI_ge hj (by omega)) (w_at (by omega) (by omega) ?_)
    rw [ed]
    refine w_goesOutOn hD (by omega) hp (w_holdsG ?_)
    rw [hb_nI ou (by omega)]
    refine ⟨fun c => kk ?_, fun c => ?_⟩
    · simp only [al]
      rw [hq]
      unfold ftq
      rw [ed, nI_clamp (by omega), decide_eq_true (show B01 (gD iw ih fe we ho da D d p) = wob ou j from c)]
      rfl
    · rw [al_false hj (by unfold ftq; rw [ed, nI_clamp (by omega), decide_eq_false (show ¬ B01 (gD iw ih fe we ho da D d p) = wob ou j from c)])] at k
      exact k
  · unfold wb_X6_isFitting_2
    rw [hq] at k
    exact pos_br (nI_le (Nat.le_refl n) (by omega)) k
/-- who fits -/
def fitS (iw ih fe we ho da wd wo : Nat → Int32) (D n P : Nat) : Int32 := col (fun p => al (ftq iw ih fe we ho da wd wo D p) n) P
theorem w_fits {D n P : Nat} {iw ih fe we ho da wd xd xo : Nat → Int32} {ou : Int32} {Ψ : Int32 → Prop} (hD : D ≤ 10) (hP : P ≤ 8) (hn : n ≤ 8) (hB : gW D n wd (wob ou) xd xo) (k : Ψ (fitS iw ih fe we ho da wd (wob ou) D n P)) : wp_X7_fits (nI P) ou (nI n) wd (nI D) we ho da iw ih fe Ψ := by
  unfold wp_X7_fits
  refine for2 (j := 0) P (fun j x => x = fitS iw ih fe we ho da wd (wob ou) D n j) (fun j x rec hj hp kk => ?_) (fun x rec hp => ?_) (by omega) rfl
  · unfold wb_X7_fits_4
    subst hp
    exact neg_br (nI_ge hj (by omega)) (w_isFitting hD (by omega) hn hB (br_b (fun e => kk _ (col_f e)) (fun e => kk _ (col_t e))))
  · unfold wb_X7_fits_4
    subst hp
    exact pos_br (nI_le (Nat.le_refl P) (by omega)) k
theorem w_fits8 {D n P dy : Nat} {iw ih fe we ho da mw mh mf dw dh dd mk now wd wo xd xo : Nat → Int32} {L sh sp : Int32} {Ψ : Int32 → Prop} (hD : D ≤ 10) (hC : cE D iw ih fe we ho da mw mh mf dw dh dd) (hN : cN P dy L sh sp mk now) (hn : n ≤ 8) (hB : gW D n wd wo xd xo) (k : Ψ (fitS iw ih fe we ho da wd wo D n P)) : wp_X8_fits (nI n) now xd dw dh dd mw mh mf xo Ψ := by
  obtain ⟨h8, h9, h10, h11, h12, hP, hdy, hL0, hmk⟩ := hN
  unfold wp_X8_fits
  refine for2 (j := 0) P (fun j x => x = fitS iw ih fe we ho da wd wo D n j) (fun j x rec hj hp kk => ?_) (fun x rec hp => ?_) (by omega) rfl
  · unfold wb_X8_fits_4
    rw [h8]
    subst hp
    refine neg_br (nI_ge hj (by omega)) ?_
    refine for2 (j := 0) n (fun i y => y = B01 (al (ftq iw ih fe we ho da wd wo D j) i)) (fun i y rec2 hi hy kk2 => ?_) (fun y rec2 hy => ?_) (by omega) rfl
    · unfold wb_X8_fits_20
      subst hy
      obtain ⟨b1, b2, d, hd, ed⟩ := hB i hi
      rw [nI_clamp (by omega), b1, b2, ed]
      refine neg_br (nI_ge hi (by omega)) (br_b (fun e => kk2 _ ?_) (fun e => ⟨vp_in_nI (by omega) (by omega), r_goesAt hC hD (by omega) hd ⟨vp_in_nI (by omega) (by omega), fun c => kk2 _ ?_, fun c => kk2 _ ?_⟩⟩))
      · simp only [al]; rw [e]; rfl
      · simp only [al]; rw [e]; unfold ftq; rw [ed, nI_clamp (by omega), decide_eq_true c]; rfl
      · simp only [al]; rw [e]; unfold ftq; rw [ed, nI_clamp (by omega), decide_eq_false c]; rfl
    · unfold wb_X8_fits_20
      subst hy
      refine pos_br (nI_le (Nat.le_refl n) (by omega)) ?_
      unfold wk_X8_fits_20
      rw [or0]
      exact br_b (fun e => kk _ (col_f e)) (fun e => kk _ (col_t e))
  · unfold wb_X8_fits_4
    rw [h8]
    subst hp
    exact pos_br (nI_le (Nat.le_refl P) (by omega)) k
theorem p_fits {D n P dy : Nat} {iw ih fe we ho da mw mh mf dw dh dd mk now wd xd xo : Nat → Int32} {L sh sp ou : Int32} {Φ : Int32 → Int32 → Prop} (hD : D ≤ 10) (hC : cE D iw ih fe we ho da mw mh mf dw dh dd) (hN : cN P dy L sh sp mk now) (hn : n ≤ 8) (hB : gW D n wd (wob ou) xd xo) (k : ∀ r, Φ r r) : wp_X7_fits (nI P) ou (nI n) wd (nI D) we ho da iw ih fe (fun r => wp_X8_fits (nI n) now xd dw dh dd mw mh mf xo (fun r' => Φ r r')) :=
  w_fits hD hN.2.2.2.2.2.1 hn hB (w_fits8 hD hC hN hn hB (k _))
/-- who of all goes out on a day -/
theorem w_goersOn {D t : Nat} {iw ih fe we ho da : Nat → Int32} {Ψ : Int32 → Prop} (hD : D ≤ 10) (ht : t < 2 ^ 31) (k : Ψ (col (gD iw ih fe we ho da D t) 8)) : wp_X2_goersOn (nI D) we ho da iw ih fe (nI t) Ψ := by
  unfold wp_X2_goersOn
  refine for2 (j := 0) 8 (fun j x => x = col (gD iw ih fe we ho da D t) j) (fun j x rec hj hp kk => ?_) (fun x rec hp => ?_) (by omega) rfl
  · unfold wb_X2_goersOn_4
    subst hp
    exact neg_br (ge8 hj) (w_goesOutOn hD ht hj (br_b (fun e => kk _ (col_f e)) (fun e => kk _ (col_t e))))
  · unfold wb_X2_goersOn_4
    subst hp
    exact pos_br le8 k
theorem cnt_cut {q : Nat → Bool} : ∀ n m, (∀ j, n ≤ j → q j = false) → cnt q (n + m) = cnt q n
  | n, 0, _ => rfl
  | n, m + 1, h => by
    show cnt q (n + m) + (if q (n + m) then 1 else 0) = cnt q n
    rw [cnt_cut n m h, h (n + m) (by omega)]
    rfl
theorem cnt_t {q : Nat → Bool} {n : Nat} (e : q n = true) : nI (cnt q n) + 1 = nI (cnt q (n + 1)) := by simp only [cnt]; rw [e, if_pos rfl, nI_succ]
theorem cnt_f {q : Nat → Bool} {n : Nat} (e : q n = false) : nI (cnt q n) = nI (cnt q (n + 1)) := by simp only [cnt]; rw [e]; rfl
/-- how many are left of F, at most, if he is watched on a day with so many out -/
def lkV (F : Int32) (g : Nat → Bool) : Int32 := if nI (pc (F &&& col g 8)) < nI (pc F) - nI (pc (F &&& col g 8)) then nI (pc F) - nI (pc (F &&& col g 8)) else nI (pc (F &&& col g 8))
/-- the best day to look on, and how many may be left: after d days -/
def lkO (F : Int32) (g : Nat → Nat → Bool) : Nat → Int32 × Int32
  | 0 => (-1, nI (pc F))
  | d + 1 => if (lkO F g d).2 ≤ lkV F (g d) then lkO F g d else (nI d, lkV F (g d))
theorem l_lookOn {D : Nat} {iw ih fe we ho da : Nat → Int32} {F : Int32} {Ψ : Int32 → Prop} (hD : D ≤ 10) (hF : sml F) (k : Ψ (lkO F (gD iw ih fe we ho da D) D).1) : ∃ n, xit3 (wb_X7_lookOn_15 (nI D) we ho da iw ih fe F (wk_X7_lookOn_15 Ψ)) n (-1) (nI (pc F)) 0 := by
  refine for3 (j := 0) D (fun j x y => (x, y) = lkO F (gD iw ih fe we ho da D) j) (fun j x y rec hj hp kk => ?_) (fun x y rec hp => ?_) (by omega) rfl
  · unfold wb_X7_lookOn_15
    have e1 : x = (lkO F (gD iw ih fe we ho da D) j).1 := congrArg Prod.fst hp
    have e2 : y = (lkO F (gD iw ih fe we ho da D) j).2 := congrArg Prod.snd hp
    refine neg_br (nI_ge hj (by omega)) (w_goersOn hD (by omega) (w_bitCount (sml_and hF) (w_bitCount hF ⟨fun c => kk _ _ ?_, fun c => kk _ _ ?_⟩)))
    · simp only [lkO]
      rw [if_pos (by rw [← e2]; exact c), hp]
    · simp only [lkO]
      exact (if_neg (by rw [← e2]; exact c)).symm
  · unfold wb_X7_lookOn_15
    have e1 : x = (lkO F (gD iw ih fe we ho da D) D).1 := congrArg Prod.fst hp
    subst e1
    exact pos_br (nI_le (Nat.le_refl D) (by omega)) k
theorem mxE (a b : Int32) : (if a < b then b else a) = (if a ≤ b then b else a) := by
  by_cases h : a < b
  · rw [if_pos h, if_pos (by rw [fa_le]; rw [fa_lt] at h; omega)]
  · rw [if_neg h]
    by_cases h2 : a ≤ b
    · rw [if_pos h2]
      rw [fa_lt] at h; rw [fa_le] at h2
      exact Int32.toInt_inj.mp (by omega)
    · rw [if_neg h2]
theorem l_lookOn8 {D P dy : Nat} {iw ih fe we ho da mw mh mf dw dh dd mk now : Nat → Int32} {L sh sp F : Int32} {Ψ : Int32 → Prop} (hD : D ≤ 10) (hC : cE D iw ih fe we ho da mw mh mf dw dh dd) (hN : cN P dy L sh sp mk now) (hF : sml F) (hFP : ∀ j, P ≤ j → bt F j = false) (k : Ψ (lkO F (gD iw ih fe we ho da D) D).1) : ∃ n, xit3 (wb_X8_lookOn_15 (nI D) now dw dh dd mw mh mf F (wk_X8_lookOn_15 Ψ)) n (-1) (nI (pc F)) 0 := by
  obtain ⟨h8, h9, h10, h11, h12, hP, hdy, hL0, hmk⟩ := hN
  refine for3 (j := 0) D (fun j x y => (x, y) = lkO F (gD iw ih fe we ho da D) j) (fun j x y rec hj hp kk => ?_) (fun x y rec hp => ?_) (by omega) rfl
  · unfold wb_X8_lookOn_15
    refine neg_br (nI_ge hj (by omega)) ?_
    let q : Nat → Bool := fun p => bt F p && gD iw ih fe we ho da D j p
    have e1 : x = (lkO F (gD iw ih fe we ho da D) j).1 := congrArg Prod.fst hp
    have e2 : y = (lkO F (gD iw ih fe we ho da D) j).2 := congrArg Prod.snd hp
    have eq8 : cnt q P = pc (F &&& col (gD iw ih fe we ho da D j) 8) := by
      have h1 := cnt_cut (q := q) P (8 - P) (fun i hi => by simp [q, hFP i hi])
      rw [← h1, show P + (8 - P) = 8 by omega]
      unfold pc
      refine cnt_ext 8 (fun i hi => ?_)
      rw [b_and, b_col _ 8 (by omega) i (by omega), decide_eq_true hi]
      rfl
    refine for2 (j := 0) P (fun i z => z = nI (cnt q i)) (fun i z rec2 hi hz kk2 => ?_) (fun z rec2 hz => ?_) (by omega) rfl
    · unfold wb_X8_lookOn_30
      rw [h8]
      subst hz
      have z0 : nI (cnt q i) + 0 = nI (cnt q i) := nI_add _ 0
      rw [z0]
      refine neg_br (nI_ge hi (by omega)) (w_hasG ?_)
      rw [hb_nI F (by omega)]
      exact br_b (fun e => kk2 _ (cnt_f (by simp [q, e]))) (fun e => r_goesAt hC hD (by omega) hj (br_b (fun e3 => kk2 _ (cnt_f (by simp [q, e3]))) (fun e3 => kk2 _ (cnt_t (by simp [q, e, e3])))))
    · unfold wb_X8_lookOn_30
      rw [h8]
      subst hz
      rw [eq8]
      have fin : ∀ v : Int32, v = lkV F (gD iw ih fe we ho da D j) → ∀ u w, wj_X8_lookOn_102 x y (nI j) rec u w v := by
        intro v hv u w
        unfold wj_X8_lookOn_102
        refine ⟨fun c => pos_br c (kk _ _ ?_), fun c => neg_br c (kk _ _ ?_)⟩
        · simp only [lkO]
          rw [← hv, if_pos (by rw [← e2]; exact c), hp]
        · simp only [lkO]
          rw [← hv, if_neg (by rw [← e2]; exact c)]
      refine pos_br (nI_le (Nat.le_refl P) (by omega)) ?_
      unfold wk_X8_lookOn_30
      refine w_bits ⟨fun c => w_bits (fin _ ?_ _ _), fun c => fin _ ?_ _ _⟩
      · unfold lkV
        rw [mxE, if_pos c]
      · unfold lkV
        rw [mxE, if_neg c]
  · unfold wb_X8_lookOn_15
    have e1 : x = (lkO F (gD iw ih fe we ho da D) D).1 := congrArg Prod.fst hp
    subst e1
    exact pos_br (nI_le (Nat.le_refl D) (by omega)) k
theorem p_lookOn {D n P dy : Nat} {iw ih fe we ho da mw mh mf dw dh dd mk now wd xd xo : Nat → Int32} {L sh sp ou : Int32} {Φ : Int32 → Int32 → Prop} (hD : D ≤ 10) (hC : cE D iw ih fe we ho da mw mh mf dw dh dd) (hN : cN P dy L sh sp mk now) (hn : n ≤ 8) (hB : gW D n wd (wob ou) xd xo) (k : ∀ r, Φ r r) : wp_X7_lookOn (nI P) ou (nI n) wd (nI D) we ho da iw ih fe (fun r => wp_X8_lookOn (nI D) (nI n) now xd dw dh dd mw mh mf xo (fun r' => Φ r r')) := by
  have hP : P ≤ 8 := hN.2.2.2.2.2.1
  have hF : sml (fitS iw ih fe we ho da wd (wob ou) D n P) := col_sml _ hP
  unfold wp_X7_lookOn wp_X8_lookOn
  refine w_fits hD hP hn hB (w_bitCount hF (l_lookOn hD hF (w_fits8 hD hC hN hn hB (w_bits (l_lookOn8 hD hC hN hF (fun j hj => ?_) (k _))))))
  by_cases h : j < 32
  · unfold fitS
    rw [b_col _ P (by omega) j h, decide_eq_false (by omega)]
    rfl
  · exact b_big (by omega)
