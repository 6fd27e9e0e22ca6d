/-! the pure side, 14: a clause -/
def cI (pay : Int32) (P D : Nat) (mk iw ih fe we ho da rpay rm rw rh rf rwe rho rda : Nat → Int32) : Prop := rpay 0 = pay ∧ 0 ≤ pay.toInt ∧ P ≤ 8 ∧ D ≤ 10 ∧ (∀ p, p < P → rm p = mk p ∧ sml (mk p) ∧ rw p = iw p ∧ rh p = ih p ∧ rf p = fe p) ∧ (∀ p, P ≤ p → p < 8 → iw p = 0 ∧ ih p = 0 ∧ fe p = 9) ∧ ∀ d, d < D → rwe d = we d ∧ rho d = ho d ∧ rda d = da d
theorem k_here {n : Nat} {t x : Nat → Int32} (hn : n ≤ 240) (he : ∀ k, k < n → x k = t k ∧ 0 ≤ (t k).toInt) {p : Nat} (hp : p < n) (hb : ¬ t p = 32) {Φ : Int32 → Int32 → Prop} (k : Φ (t p) (nI p)) : wp_X8_here (nI n) (nI p) x Φ := by
  refine ⟨1, neg_br (nI_ge hp (by omega)) ⟨vp_in_nI (by omega) (by omega), ?_⟩⟩
  rw [nI_clamp (by omega), (he p hp).1]
  refine neg_br hb (neg_br (nI_ge hp (by omega)) ⟨vp_in_nI (by omega) (by omega), ?_⟩)
  rw [nI_clamp (by omega), (he p hp).1]
  exact k
theorem k_end {n : Nat} {t x : Nat → Int32} (hn : n ≤ 240) (he : ∀ k, k < n → x k = t k ∧ 0 ≤ (t k).toInt) {p : Nat} (hp : p ≤ n) : (∃ q, p ≤ q ∧ q < n ∧ (∀ (fa : Int32) (Φ : Int32 → Int32 → Int32 → Prop), Φ (nI (q + 1)) 0 fa → wp_X5_readEnd (nI n) (nI p) 0 fa t Φ) ∧ ∀ Ψ : Int32 → Int32 → Prop, Ψ 59 (nI q) → wp_X8_here (nI n) (nI p) x Ψ) ∨ ∃ q, q ≤ n ∧ (∀ (fa : Int32) (Φ : Int32 → Int32 → Int32 → Prop), Φ (nI q) 1 (nI q) → wp_X5_readEnd (nI n) (nI p) 0 fa t Φ) ∧ ∀ Ψ : Int32 → Int32 → Prop, (∀ r, ¬ r = 59 → Ψ r (nI q)) → wp_X8_here (nI n) (nI p) x Ψ := by
  obtain ⟨q, q1, q2, q3, q4, q5⟩ := k_skip hn he (n - p) p rfl hp
  by_cases hq : q < n
  · by_cases h59 : t q = 59
    · refine Or.inl ⟨q, q1, hq, fun fa Φ h => pos_br rfl (q4 _ (neg_br (nI_ge hq (by omega)) (w_at (by omega) (by omega) (pos_br h59 ?_)))), fun Ψ h => q5 _ ?_⟩
      · rw [← nI_succ]; exact h
      · unfold tq; rw [if_pos hq, h59]; exact h
    · refine Or.inr ⟨q, q2, fun fa Φ h => pos_br rfl (q4 _ (neg_br (nI_ge hq (by omega)) (w_at (by omega) (by omega) (neg_br h59 h)))), fun Ψ h => q5 _ (h _ ?_)⟩
      unfold tq; rw [if_pos hq]; exact h59
  · have : q = n := by omega
    subst this
    refine Or.inr ⟨q, q2, fun fa Φ h => pos_br rfl (q4 _ (pos_br (nI_le (Nat.le_refl q) (by omega)) h)), fun Ψ h => q5 _ (h _ ?_)⟩
    unfold tq; rw [if_neg (by omega)]; decide
/-- a number, as a case: well read or not -/
theorem k_numc {n : Nat} {t x : Nat → Int32} (hn : n ≤ 240) (he : ∀ k, k < n → x k = t k ∧ 0 ≤ (t k).toInt) {p lo hi : Nat} (hp : p ≤ n) (hhi : hi < 1000) (hlo : lo < 1000) : (∃ e b, p ≤ e ∧ e ≤ n ∧ lo ≤ b ∧ b ≤ hi ∧ (∀ (fa : Int32) (Φ : Int32 → Int32 → Int32 → Int32 → Prop), Φ (nI b) (nI e) 0 fa → wp_X5_readNumber (nI n) (nI p) 0 fa t (nI lo) (nI hi) Φ) ∧ (∀ (fa nu na : Int32) (Φ : Int32 → Int32 → Int32 → Int32 → Int32 → Prop), (∀ na', Φ 0 (nI e) na' (nI b) fa) → wp_X8_takeNumber (nI n) fa (nI p) nu na x (nI lo) (nI hi) Φ)) ∨ ∃ f w, 1 ≤ f ∧ f ≤ 2 ∧ w ≤ n ∧ (∀ (fa : Int32) (Φ : Int32 → Int32 → Int32 → Int32 → Prop), (∀ v e, e ≤ n → Φ v (nI e) (nI f) (nI w)) → wp_X5_readNumber (nI n) (nI p) 0 fa t (nI lo) (nI hi) Φ) ∧ (∀ (fa nu na : Int32) (Φ : Int32 → Int32 → Int32 → Int32 → Int32 → Prop), (∀ at' na' nu', Φ (nI f) at' na' nu' (nI w)) → wp_X8_takeNumber (nI n) fa (nI p) nu na x (nI lo) (nI hi) Φ) := by
  obtain ⟨e, f, w, v, h1, h2, h3, h4, h5, h6, h7⟩ := k_num hn he hp hhi hlo
  by_cases hf : f = 0
  · subst hf
    obtain ⟨b, rfl, b1, b2⟩ := h5 rfl
    exact Or.inl ⟨e, b, h1, h2, b1, b2, fun fa Φ h => h6 fa Φ h, fun fa nu na Φ h => h7 fa nu na Φ (fun nu' na' e => by rw [e rfl]; exact h na')⟩
  · refine Or.inr ⟨f, w, by omega, h3, h4, fun fa Φ h => h6 fa Φ ?_, fun fa nu na Φ h => h7 fa nu na Φ (fun nu' na' _ => ?_)⟩
    · unfold fA; rw [if_neg hf]; exact h _ _ h2
    · unfold fA; rw [if_neg hf]; exact h _ _ _
theorem x_rn {n p f : Nat} {t : Nat → Int32} {lo hi fa : Int32} {Φ : Int32 → Int32 → Int32 → Int32 → Prop} (hf : 1 ≤ f) (hf3 : f ≤ 3) (h : Φ 0 (nI p) (nI f) fa) : wp_X5_readNumber (nI n) (nI p) (nI f) fa t lo hi Φ := neg_br (nI_ne0 (by omega) (by omega)) h
theorem x_re {n p f : Nat} {t : Nat → Int32} {fa : Int32} {Φ : Int32 → Int32 → Int32 → Prop} (hf : 1 ≤ f) (hf3 : f ≤ 3) (h : Φ (nI p) (nI f) fa) : wp_X5_readEnd (nI n) (nI p) (nI f) fa t Φ := neg_br (nI_ne0 (by omega) (by omega)) h
theorem nf0 {f : Nat} (hf : 1 ≤ f) (hf3 : f ≤ 3) : ¬ nI f = 0 := nI_ne0 (by omega) (by omega)
theorem nfle {f : Nat} (hf : 1 ≤ f) (hf3 : f ≤ 3) : ¬ nI f ≤ 0 := nI_nle (by omega) (by omega)
/-- what a clause's word says -/
def wfN (pay : Int32) (P D : Nat) (w : Int32) : Nat := if pay = 0 then (if w = 107 then 0 else 1) else if w = 100 then (if 10 ≤ D then 3 else 0) else if w = 107 then 3 else if w = 112 then (if 8 ≤ P then 3 else 0) else 1
theorem w_word {pay w : Int32} {P D : Nat} {Φ : Int32 → Prop} (h0 : 0 ≤ pay.toInt) (hP : P ≤ 8) (hD : D ≤ 10) (k : Φ (nI (wfN pay P D w))) : wp_X5_wordFault pay (nI P) (nI D) w Φ := by
  unfold wp_X5_wordFault wp_X2_stands
  unfold wfN at k
  refine stands_br h0 (fun c => is0 ?_) (fun c => is1 ?_)
  · rw [if_pos c] at k
    exact ⟨fun q => by rw [if_pos q] at k; exact k, fun q => by rw [if_neg q] at k; exact k⟩
  · rw [if_neg c] at k
    refine ⟨fun q => ?_, fun q => ?_⟩
    · rw [if_pos q] at k
      exact br_le (a := 10) (by omega) (by omega) (fun h => by rw [if_pos h] at k; exact k) (fun h => by rw [if_neg (by omega)] at k; exact k)
    · rw [if_neg q] at k
      refine ⟨fun q2 => by rw [if_pos q2] at k; exact k, fun q2 => ?_⟩
      rw [if_neg q2] at k
      refine ⟨fun q3 => ?_, fun q3 => by rw [if_neg q3] at k; exact k⟩
      rw [if_pos q3] at k
      exact br_le (a := 8) (by omega) (by omega) (fun h => by rw [if_pos h] at k; exact k) (fun h => by rw [if_neg (by omega)] at k; exact k)
theorem pay_le {pay : Int32} (h0 : 0 ≤ pay.toInt) : pay ≤ 0 ↔ pay = 0 := by
  constructor
  · intro c
    rw [fa_le, Int32.toInt_zero] at c
    exact Int32.toInt_inj.mp (by rw [Int32.toInt_zero]; omega)
  · intro c; subst c; decide
abbrev RPhi : Type := Int32 → Int32 → Int32 → Int32 → Int32 → Int32 → (Nat → Int32) → (Nat → Int32) → (Nat → Int32) → Int32 → (Nat → Int32) → (Nat → Int32) → (Nat → Int32) → (Nat → Int32) → (Nat → Int32) → Prop
abbrev CPhi : Type := Int32 → Int32 → Int32 → Int32 → (Nat → Int32) → (Nat → Int32) → (Nat → Int32) → (Nat → Int32) → Int32 → (Nat → Int32) → (Nat → Int32) → (Nat → Int32) → Int32 → Prop
/-- the reference, by the word -/
theorem r_word {n p P D : Nat} {t x rpay rm rw rh rf rwe rho rda : Nat → Int32} {pay fa nu na : Int32} {Φ : RPhi} (hn : n ≤ 240) (he : ∀ k, k < n → x k = t k ∧ 0 ≤ (t k).toInt) (hp : p < n) (hb : ¬ t p = 32) (h0 : 0 ≤ pay.toInt) (hpay : rpay 0 = pay) (hP : P ≤ 8) (hD : D ≤ 10) (bad : ¬ wfN pay P D (t p) = 0 → Φ (nI (wfN pay P D (t p))) (nI p) (nI p) (nI D) na nu rwe rho rda (nI P) rm rw rh rf rpay) (ok : wfN pay P D (t p) = 0 → ∀ x1 x2, (t p = 107 → x2 = 0) → (t p = 112 → x2 = 1) → (t p = 100 → x2 = 2) → wj_X8_takeClause_121 (nI n) fa nu na (nI P) (nI D) x rwe rho rda rm rw rh rf rpay Φ x1 x2 (nI p) 0) : wp_X8_takeClause (nI n) fa (nI p) nu na (nI P) (nI D) x rwe rho rda rm rw rh rf rpay Φ := by
  unfold wp_X8_takeClause
  refine k_here hn he hp hb ?_
  unfold wfN at bad ok
  have full : ∀ x1 x2, ((Φ 3 (nI p) (nI p) (nI D) na nu rwe rho rda (nI P) rm rw rh rf rpay)) → wj_X8_takeClause_121 (nI n) fa nu na (nI P) (nI D) x rwe rho rda rm rw rh rf rpay Φ x1 x2 (nI p) 1 := fun x1 x2 h => is1 h
  refine ⟨fun w1 => ?_, fun w1 => ⟨fun w2 => ?_, fun w2 => ⟨fun w3 => ?_, fun w3 => ?_⟩⟩⟩
  · unfold wj_X8_takeClause_36
    refine neg_br (by decide) (pos_br (by decide) (pos_br rfl ?_))
    rw [hpay]
    by_cases hz : pay = 0
    · refine pos_br ((pay_le h0).mpr hz) (ok (by rw [if_pos hz, if_pos w1]) _ _ (fun _ => rfl) (fun q => ?_) (fun q => ?_))
      · rw [w1] at q; exact absurd q (by decide)
      · rw [w1] at q; exact absurd q (by decide)
    · refine neg_br (fun q => hz ((pay_le h0).mp q)) (full _ _ ?_)
      rw [if_neg hz, if_neg (by rw [w1]; decide), if_pos w1] at bad
      exact bad (by decide)
  · unfold wj_X8_takeClause_36
    rw [hpay]
    refine neg_br (by decide) (neg_br (by decide) ?_)
    by_cases hz : pay = 0
    · refine pos_br hz ?_
      rw [if_pos hz, if_neg w1] at bad
      exact bad (by decide)
    · rw [if_neg hz, if_neg (by rw [w2]; decide), if_neg w1, if_pos w2] at bad ok
      refine neg_br hz (neg_br (by decide) (pos_br rfl (br_eq (b := 8) (by omega) (by omega) (fun h => full _ _ ?_) (fun h => ok (by rw [if_neg (by omega)]) _ _ (fun q => absurd q w1) (fun _ => rfl) (fun q => ?_)))))
      · rw [if_pos (by omega)] at bad; exact bad (by decide)
      · rw [w2] at q; exact absurd q (by decide)
  · unfold wj_X8_takeClause_36
    rw [hpay]
    refine neg_br (by decide) (neg_br (by decide) ?_)
    by_cases hz : pay = 0
    · refine pos_br hz ?_
      rw [if_pos hz, if_neg w1] at bad
      exact bad (by decide)
    · rw [if_neg hz, if_pos w3] at bad ok
      refine neg_br hz (neg_br (by decide) (neg_br (by decide) (br_eq (b := 10) (by omega) (by omega) (fun h => full _ _ ?_) (fun h => ok (by rw [if_neg (by omega)]) _ _ (fun q => absurd q w1) (fun q => absurd q w2) (fun _ => rfl)))))
      rw [if_pos (by omega)] at bad; exact bad (by decide)
  · unfold wj_X8_takeClause_36
    refine pos_br (by decide) ?_
    by_cases hz : pay = 0
    · rw [if_pos hz, if_neg w1] at bad; exact bad (by decide)
    · rw [if_neg hz, if_neg w3, if_neg w1, if_neg w2] at bad; exact bad (by decide)
/-- the reference's end of a clause -/
theorem r_endB {f n : Nat} {x : Nat → Int32} {Φ : RPhi} {x1 x2 x3 fp at0 nu na rP rD : Int32} {a b c d e g h i : Nat → Int32} (hf : 1 ≤ f) (hf3 : f ≤ 3) (k : ∀ at', Φ (nI f) at' fp rD na nu g c a rP e h d b i) : wj_X8_takeClause_182 (nI n) x Φ x1 x2 x3 a b c d e i g h fp at0 nu na rP rD (nI f) := by
  unfold wj_X8_takeClause_182
  exact neg_br (nf0 hf hf3) (k _)
