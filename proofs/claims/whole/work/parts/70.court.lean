/-! the pure side, 16: the whole text -/
theorem k_loop {n : Nat} {t x : Nat → Int32} {fa fr : Int32} (hn : n ≤ 240) (he : ∀ k, k < n → x k = t k ∧ 0 ≤ (t k).toInt) : ∀ (dd p q i P D : Nat) (pay : Int32) (mk iw ih fe we ho da rpay rm rw rh rf rwe rho rda : Nat → Int32), n - q ≤ dd → q ≤ n → i ≤ q → (q < n → ¬ t q = 32) → (∀ Ψ : Int32 → Int32 → Prop, Ψ (tq t n q) (nI q) → wp_X8_here (nI n) (nI p) x Ψ) → cI pay P D mk iw ih fe we ho da rpay rm rw rh rf rwe rho rda →
    (∃ (P' D' : Nat) (pay' : Int32) (mk' iw' ih' fe' we' ho' da' rpay' rm' rw' rh' rf' rwe' rho' rda' : Nat → Int32), cI pay' P' D' mk' iw' ih' fe' we' ho' da' rpay' rm' rw' rh' rf' rwe' rho' rda' ∧ (∀ K : Int32 → Int32 → Int32 → (Nat → Int32) → (Nat → Int32) → (Nat → Int32) → (Nat → Int32) → (Nat → Int32) → (Nat → Int32) → (Nat → Int32) → Int32 → Int32 → Int32 → Int32 → Prop, (∀ u, K pay' (nI P') (nI D') da' fe' ho' ih' iw' mk' we' (nI n) 0 fa u) → ∃ m, xit14 (wb_X5_readInto_25 (nI n) t K) m pay (nI P) (nI D) da fe ho ih iw mk we (nI q) 0 fa (nI i)) ∧ (∀ K : (Nat → Int32) → (Nat → Int32) → (Nat → Int32) → (Nat → Int32) → (Nat → Int32) → (Nat → Int32) → (Nat → Int32) → (Nat → Int32) → Int32 → Int32 → Int32 → Int32 → Int32 → Int32 → Int32 → Prop, (∀ nu na, K rda' rf' rho' rh' rm' rpay' rwe' rw' fr (nI n) nu na (nI P') (nI D') 0) → ∃ m, ∀ nu na, xit15 (wb_X8_court_29 (nI n) x K) m rda rf rho rh rm rpay rwe rw fr (nI p) nu na (nI P) (nI D) 0)) ∨
    (∃ f w : Nat, 1 ≤ f ∧ f ≤ 3 ∧ w ≤ n ∧ (∀ K : Int32 → Int32 → Int32 → (Nat → Int32) → (Nat → Int32) → (Nat → Int32) → (Nat → Int32) → (Nat → Int32) → (Nat → Int32) → (Nat → Int32) → Int32 → Int32 → Int32 → Int32 → Prop, (∀ a b c d e g h i j k l u, K a b c d e g h i j k l (nI f) (nI w) u) → ∃ m, xit14 (wb_X5_readInto_25 (nI n) t K) m pay (nI P) (nI D) da fe ho ih iw mk we (nI q) 0 fa (nI i)) ∧ (∀ K : (Nat → Int32) → (Nat → Int32) → (Nat → Int32) → (Nat → Int32) → (Nat → Int32) → (Nat → Int32) → (Nat → Int32) → (Nat → Int32) → Int32 → Int32 → Int32 → Int32 → Int32 → Int32 → Int32 → Prop, (∀ a b c d e g h i at' nu na k l, K a b c d e g h i (nI w) at' nu na k l (nI f)) → ∃ m, ∀ nu na, xit15 (wb_X8_court_29 (nI n) x K) m rda rf rho rh rm rpay rwe rw fr (nI p) nu na (nI P) (nI D) 0)) := by
  intro dd
  induction dd with
  | zero =>
    intro p q i P D pay mk iw ih fe we ho da rpay rm rw rh rf rwe rho rda hd hq hi hb her hI
    have : q = n := by omega
    subst this
    refine Or.inl ⟨P, D, pay, mk, iw, ih, fe, we, ho, da, rpay, rm, rw, rh, rf, rwe, rho, rda, hI, fun K k => ⟨1, ?_⟩, fun K k => ⟨1, fun nu na => ?_⟩⟩
    · exact ⟨fun _ => k _, fun _ => pos_br (nI_le (Nat.le_refl q) (by omega)) (k _)⟩
    · refine pos_br rfl (her _ (pos_br ?_ (k _ _)))
      unfold tq; rw [if_neg (by omega)]; decide
  | succ dd ih =>
    intro p q i P D pay mk iw ih2 fe we ho da rpay rm rw rh rf rwe rho rda hd hq hi hb her hI
    by_cases hlt : q < n
    · have hneg : ¬ tq t n q < 0 := by
        unfold tq; rw [if_pos hlt, fa_lt, Int32.toInt_zero]
        have := (he q hlt).2
        omega
      have ni : ¬ (240 : Int32) ≤ nI i := nge (N := 240) rfl (by omega) (by omega)
      rcases k_clause hn he hlt (hb hlt) hI with ⟨e, P', D', pay', mk', iw', ih', fe', we', ho', da', rpay', rm', rw', rh', rf', rwe', rho', rda', e1, e2, hI', cc, cr⟩ | ⟨f, w, f1, f3, w1, cc, cr⟩
      · obtain ⟨q', q1, q2, q3, q4, q5⟩ := k_skip hn he (n - e) e rfl e2
        rcases ih e q' (i + 1) P' D' pay' mk' iw' ih' fe' we' ho' da' rpay' rm' rw' rh' rf' rwe' rho' rda' (by omega) q2 (by omega) q3 q5 hI' with ⟨P2, D2, pay2, mk2, iw2, ih3, fe2, we2, ho2, da2, rpay2, rm2, rw2, rh2, rf2, rwe2, rho2, rda2, hI2, dc, dr⟩ | ⟨f, w, f1, f3, w1, dc, dr⟩
        · refine Or.inl ⟨P2, D2, pay2, mk2, iw2, ih3, fe2, we2, ho2, da2, rpay2, rm2, rw2, rh2, rf2, rwe2, rho2, rda2, hI2, fun K k => ?_, fun K k => ?_⟩
          · obtain ⟨m, hm⟩ := dc K k
            refine ⟨m + 1, neg_br ni (neg_br (nI_ge hlt (by omega)) (pos_br rfl (cc _ _ (q4 _ ?_))))⟩
            rw [← nI_succ]; exact hm
          · obtain ⟨m, hm⟩ := dr K k
            exact ⟨m + 1, fun nu na => pos_br rfl (her _ (neg_br hneg (cr _ _ _ _ (fun na' nu' => hm _ _))))⟩
        · refine Or.inr ⟨f, w, f1, f3, w1, fun K k => ?_, fun K k => ?_⟩
          · obtain ⟨m, hm⟩ := dc K k
            refine ⟨m + 1, neg_br ni (neg_br (nI_ge hlt (by omega)) (pos_br rfl (cc _ _ (q4 _ ?_))))⟩
            rw [← nI_succ]; exact hm
          · obtain ⟨m, hm⟩ := dr K k
            exact ⟨m + 1, fun nu na => pos_br rfl (her _ (neg_br hneg (cr _ _ _ _ (fun na' nu' => hm _ _))))⟩
      · refine Or.inr ⟨f, w, f1, f3, w1, fun K k => ⟨1 + 1, ?_⟩, fun K k => ⟨1 + 1, fun nu na => ?_⟩⟩
        · refine neg_br ni (neg_br (nI_ge hlt (by omega)) (pos_br rfl (cc _ _ (fun e pay mk iw ih fe P we ho da D he2 => ?_))))
          obtain ⟨q', q1, q2, q3, q4, q5⟩ := k_skip hn he (n - e) e rfl he2
          refine q4 _ ?_
          exact ⟨fun _ => k _ _ _ _ _ _ _ _ _ _ _ _, fun _ => ⟨fun _ => k _ _ _ _ _ _ _ _ _ _ _ _, fun _ => neg_br (nf0 f1 f3) (k _ _ _ _ _ _ _ _ _ _ _ _)⟩⟩
        · exact pos_br rfl (her _ (neg_br hneg (cr _ _ _ _ (fun at' D na' nu' a b c P d e g h i => neg_br (nf0 f1 f3) (k _ _ _ _ _ _ _ _ _ _ _ _ _)))))
    · have : q = n := by omega
      subst this
      refine Or.inl ⟨P, D, pay, mk, iw, ih2, fe, we, ho, da, rpay, rm, rw, rh, rf, rwe, rho, rda, hI, fun K k => ⟨1, ?_⟩, fun K k => ⟨1, fun nu na => ?_⟩⟩
      · exact ⟨fun _ => k _, fun _ => pos_br (nI_le (Nat.le_refl q) (by omega)) (k _)⟩
      · refine pos_br rfl (her _ (pos_br ?_ (k _ _)))
        unfold tq; rw [if_neg (by omega)]; decide
theorem l_clear {iw ih fe : Nat → Int32} {Φ : Int32 → Int32 → Int32 → (Nat → Int32) → (Nat → Int32) → (Nat → Int32) → Prop} (k : ∀ iw ih fe, (∀ p, p < 8 → iw p = 0 ∧ ih p = 0 ∧ fe p = 9) → Φ 0 0 0 iw ih fe) : wp_X2_clear iw ih fe Φ := by
  unfold wp_X2_clear
  refine for4 (j := 0) 8 (fun j a b c => ∀ p, p < j → c p = 0 ∧ b p = 0 ∧ a p = 9) (fun j a b c rec hj hI kk => ?_) (fun a b c rec hI => ?_) (by omega) (fun p h => absurd h (by omega))
  · unfold wb_X2_clear_17
    refine neg_br (ge8 hj) (w_put hj (by omega) (w_put hj (by omega) (w_put hj (by omega) (kk _ _ _ (fun p hp => ?_)))))
    by_cases h : p = j
    · subst h; simp only [pk_us, and_self]
    · simp only [pk_un h]; exact hI p (by omega)
  · unfold wb_X2_clear_17
    exact pos_br le8 (k _ _ _ hI)
theorem l_begin {P : Nat} {mk m0 : Nat → Int32} {Φ : (Nat → Int32) → Int32 → Int32 → Int32 → Int32 → Int32 → Prop} (k : ∀ m, (∀ i, i < 8 → m i = mk i) → Φ m (nI P) (((1 : Int32) <<< (nI P &&& 31)) - 1) 0 0 0) : wp_X1_begin (nI P) mk m0 Φ := l_become (a := nI P) (b := ((1 : Int32) <<< (nI P &&& 31)) - 1) (c := 0) (d := 0) (e := 0) (Φ := Φ) k
theorem l_takeRead {P D : Nat} {rpay now rwe dwe rho dho rda dda w h f rf rh rw rm : Nat → Int32} {Φ : Int32 → Int32 → (Nat → Int32) → (Nat → Int32) → (Nat → Int32) → (Nat → Int32) → (Nat → Int32) → (Nat → Int32) → (Nat → Int32) → Prop} (hP : P ≤ 8) (hD : D ≤ 10) (k : ∀ now' dw dh dd w' h' f', now' 8 = nI P → now' 9 = ((1 : Int32) <<< (nI P &&& 31)) - 1 → now' 10 = 0 → now' 11 = 0 → now' 12 = 0 → (∀ p, p < P → now' p = rm p) → (∀ p, p < 8 → w' p = (if p < P then rw p else 0) ∧ h' p = (if p < P then rh p else 0) ∧ f' p = (if p < P then rf p else 9)) → (∀ d, d < D → dw d = rwe d ∧ dh d = rho d ∧ dd d = rda d) → Φ (rpay 0) (nI D) now' dw dh dd w' h' f') : wp_X8_takeRead (nI P) (nI D) rpay now rwe dwe rho dho rda dda w h f rf rh rw rm Φ := by
  unfold wp_X8_takeRead
  refine for2 (j := 0) 13 (fun j a => ∀ i, i < j → a i = 0) (fun j a rec hj hI kk => ?_) (fun a rec hI => ?_) (by omega) (fun i hi => absurd hi (by omega))
  · unfold wb_X8_takeRead_20
    rw [nI_clamp (by omega)]
    refine neg_br (nge (N := 13) rfl (by omega) hj) ⟨vp_in_nI hj (by omega), kk _ (fun i hi => ?_)⟩
    by_cases e : i = j
    · subst e; rw [pk_us]
    · rw [pk_un e]; exact hI i (by omega)
  · unfold wb_X8_takeRead_20
    refine pos_br (nle (N := 13) rfl (by omega) (Nat.le_refl 13)) ?_
    unfold wk_X8_takeRead_20
    refine for5 (j := 0) 8 (fun j ff hh nn ww => (∀ p, p < j → ww p = (if p < P then rw p else 0) ∧ hh p = (if p < P then rh p else 0) ∧ ff p = (if p < P then rf p else 9) ∧ (p < P → nn p = rm p)) ∧ ∀ i, 8 ≤ i → nn i = a i) (fun j ff hh nn ww rec hj ⟨g1, g2⟩ kk => ?_) (fun ff hh nn ww rec ⟨g1, g2⟩ => ?_) (by omega) ⟨fun p hp => absurd hp (by omega), fun _ _ => rfl⟩
    · unfold wb_X8_takeRead_41
      have vi : vp_in (nI j) 8 := vp_in_nI hj (by omega)
      have vi13 : vp_in (nI j) 13 := vp_in_nI (by omega) (by omega)
      refine neg_br (ge8 hj) (br_le (by omega) (by omega) (fun hle => ?_) (fun hle => ?_))
      · unfold wj_X8_takeRead_60
        refine pos_br rfl ?_
        unfold wj_X8_takeRead_80
        refine ⟨vi13, pos_br rfl ?_⟩
        unfold wj_X8_takeRead_100
        refine ⟨vi, pos_br rfl ?_⟩
        unfold wj_X8_takeRead_120
        rw [nI_clamp (by omega)]
        refine ⟨vi, pos_br rfl ⟨vi, kk _ _ _ _ ⟨fun p hp => ?_, fun i hi => by rw [pk_un (by omega)]; exact g2 i hi⟩⟩⟩
        by_cases e : p = j
        · subst e
          simp only [pk_us, if_neg (show ¬ p < P by omega)]
          exact ⟨trivial, trivial, trivial, fun q => absurd q (by omega)⟩
        · simp only [pk_un e]; exact g1 p (by omega)
      · unfold wj_X8_takeRead_60
        refine neg_br (by decide) ⟨vi, ?_⟩
        unfold wj_X8_takeRead_80
        refine ⟨vi13, neg_br (by decide) ⟨vi, ?_⟩⟩
        unfold wj_X8_takeRead_100
        refine ⟨vi, neg_br (by decide) ⟨vi, ?_⟩⟩
        unfold wj_X8_takeRead_120
        rw [nI_clamp (by omega)]
        refine ⟨vi, neg_br (by decide) ⟨vi, vi, kk _ _ _ _ ⟨fun p hp => ?_, fun i hi => by rw [pk_un (by omega)]; exact g2 i hi⟩⟩⟩
        by_cases e : p = j
        · subst e
          simp only [pk_us, if_pos (show p < P by omega)]
          exact ⟨trivial, trivial, trivial, fun _ => trivial⟩
        · simp only [pk_un e]; exact g1 p (by omega)
    · unfold wb_X8_takeRead_41
      refine pos_br le8 ?_
      unfold wk_X8_takeRead_41
      refine for4 (j := 0) D (fun j x y z => ∀ d, d < j → z d = rwe d ∧ y d = rho d ∧ x d = rda d) (fun j x y z rec hj hI2 kk => ?_) (fun x y z rec hI2 => ?_) (by omega) (fun d hd => absurd hd (by omega))
      · unfold wb_X8_takeRead_176
        rw [nI_clamp (by omega)]
        have vi : vp_in (nI j) 10 := vp_in_nI (by omega) (by omega)
        refine neg_br (nI_ge hj (by omega)) ⟨vi, vi, vi, vi, vi, vi, kk _ _ _ (fun d hd => ?_)⟩
        by_cases e : d = j
        · subst e; simp only [pk_us, and_self]
        · simp only [pk_un e]; exact hI2 d (by omega)
      · unfold wb_X8_takeRead_176
        refine pos_br (nI_le (Nat.le_refl D) (by omega)) (k _ _ _ _ _ _ _ ?_ ?_ ?_ ?_ ?_ (fun p hp => ?_) (fun p hp => ?_) hI2)
        · rw [pk_un (by decide), pk_us]
        · rw [pk_us]
        · rw [pk_un (by decide), pk_un (by decide), g2 10 (by omega)]; exact hI 10 (by omega)
        · rw [pk_un (by decide), pk_un (by decide), g2 11 (by omega)]; exact hI 11 (by omega)
        · rw [pk_un (by decide), pk_un (by decide), g2 12 (by omega)]; exact hI 12 (by omega)
        · rw [pk_un (by omega), pk_un (by omega)]; exact (g1 p (by omega)).2.2.2 hp
        · obtain ⟨a1, a2, a3, _⟩ := g1 p hp
          exact ⟨a1, a2, a3⟩
theorem liv_ok : ∀ P, P < 9 → (((1 : Int32) <<< (nI P &&& 31)) - 1) = nI (2 ^ P - 1) := by decide
theorem liv_0 {P j : Nat} (hP : P ≤ 8) (hj : P ≤ j) : bt (((1 : Int32) <<< (nI P &&& 31)) - 1) j = false := by
  by_cases h32 : j < 32
  · rw [liv_ok P (by omega)]
    show (BitVec.ofNat 32 (2 ^ P - 1)).getLsbD j = false
    rw [BitVec.getLsbD_ofNat]
    have h1 : 2 ^ P ≤ 2 ^ j := Nat.pow_le_pow_right (by decide) hj
    have h2 : 0 < 2 ^ P := Nat.pow_pos (by decide)
    have : (2 ^ P - 1).testBit j = false := Nat.testBit_lt_two_pow (by omega)
    simp [this]
  · exact b_big (by omega)
