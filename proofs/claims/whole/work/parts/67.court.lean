/-! the pure side, 13: the court's text, both sides step by step -/
/-- the letter at q, -1 behind the end -/
def tq (t : Nat → Int32) (n q : Nat) : Int32 := if q < n then t q else -1
theorem k_skip {n : Nat} {t x : Nat → Int32} (hn : n ≤ 240) (he : ∀ k, k < n → x k = t k ∧ 0 ≤ (t k).toInt) : ∀ d p, n - p = d → p ≤ n → ∃ q, p ≤ q ∧ q ≤ n ∧ (q < n → ¬ t q = 32) ∧ (∀ Φ : Int32 → Prop, Φ (nI q) → wp_X5_skipBlanks (nI n) (nI p) t Φ) ∧ (∀ Φ : Int32 → Int32 → Prop, Φ (tq t n q) (nI q) → wp_X8_here (nI n) (nI p) x Φ)
  | 0, p, hd, hp => by
    have : p = n := by omega
    subst this
    refine ⟨p, Nat.le_refl p, Nat.le_refl p, fun h => absurd h (by omega), fun Φ h => ⟨1, ?_⟩, fun Φ h => ⟨1, ?_⟩⟩
    · exact pos_br (nI_le (Nat.le_refl p) (by omega)) h
    · refine pos_br (nI_le (Nat.le_refl p) (by omega)) (pos_br (nI_le (Nat.le_refl p) (by omega)) ?_)
      unfold tq at h
      rw [if_neg (by omega)] at h
      exact h
  | d + 1, p, hd, hp => by
    have hlt : p < n := by omega
    by_cases hb : t p = 32
    · obtain ⟨q, h1, h2, h3, h4, h5⟩ := k_skip hn he d (p + 1) (by omega) (by omega)
      refine ⟨q, by omega, h2, h3, fun Φ h => ?_, fun Φ h => ?_⟩
      · obtain ⟨m, hm⟩ := h4 Φ h
        refine ⟨m + 1, neg_br (nI_ge hlt (by omega)) (w_at (by omega) (by omega) (pos_br hb ?_))⟩
        rw [← nI_succ]
        exact hm
      · obtain ⟨m, hm⟩ := h5 Φ h
        refine ⟨m + 1, neg_br (nI_ge hlt (by omega)) ⟨vp_in_nI (by omega) (by omega), ?_⟩⟩
        rw [nI_clamp (by omega), (he p hlt).1]
        refine pos_br hb ?_
        rw [← nI_succ]
        exact hm
    · refine ⟨p, Nat.le_refl p, hp, fun _ => hb, fun Φ h => ⟨1, ?_⟩, fun Φ h => ⟨1, ?_⟩⟩
      · exact neg_br (nI_ge hlt (by omega)) (w_at (by omega) (by omega) (neg_br hb h))
      · refine neg_br (nI_ge hlt (by omega)) ⟨vp_in_nI (by omega) (by omega), ?_⟩
        rw [nI_clamp (by omega), (he p hlt).1]
        refine neg_br hb (neg_br (nI_ge hlt (by omega)) ⟨vp_in_nI (by omega) (by omega), ?_⟩)
        rw [nI_clamp (by omega), (he p hlt).1]
        unfold tq at h
        rw [if_pos hlt] at h
        exact h
/-- the figures from p on: their end, what they come to on both sides -/
theorem k_digs {n : Nat} {t x : Nat → Int32} (hn : n ≤ 240) (he : ∀ k, k < n → x k = t k ∧ 0 ≤ (t k).toInt) : ∀ d p, n - p = d → p ≤ n → ∀ (v u : Int32), ∃ e v' u', p ≤ e ∧ e ≤ n ∧ (e = p ↔ (p < n → inr (t p) 48 57 = false)) ∧ (∀ a, v = nI a → u = v → a * 10 ^ (e - p) + 10 ^ (e - p) ≤ 10000 → u' = v' ∧ ∃ b, v' = nI b ∧ b < a * 10 ^ (e - p) + 10 ^ (e - p)) ∧ (∀ K : Int32 → Int32 → Prop, K (nI e) v' → ∃ m, xit2 (wb_X5_readNumber_21 (nI n) t K) m (nI p) v) ∧ (∀ K : Int32 → Int32 → Prop, K (nI e) u' → ∃ m, xit2 (wb_X8_takeNumber_42 (nI n) x K) m (nI p) u)
  | 0, p, hd, hp, v, u => by
    have : p = n := by omega
    subst this
    refine ⟨p, v, u, Nat.le_refl p, Nat.le_refl p, ⟨fun _ h => absurd h (by omega), fun _ => rfl⟩, fun a ha hu _ => ⟨hu, a, ha, ?_⟩, fun K h => ⟨1, ?_⟩, fun K h => ⟨1, ?_⟩⟩
    · rw [Nat.sub_self]; omega
    · exact pos_br (nI_le (Nat.le_refl p) (by omega)) h
    · exact pos_br (nI_le (Nat.le_refl p) (by omega)) h
  | d + 1, p, hd, hp, v, u => by
    have hlt : p < n := by omega
    cases hi : inr (t p) 48 57
    · refine ⟨p, v, u, Nat.le_refl p, hp, ⟨fun _ _ => rfl, fun _ => rfl⟩, fun a ha hu _ => ⟨hu, a, ha, ?_⟩, fun K h => ⟨1, ?_⟩, fun K h => ⟨1, ?_⟩⟩
      · rw [Nat.sub_self]; omega
      · exact neg_br (nI_ge hlt (by omega)) (w_at (by omega) (by omega) (w_within (br0 hi h)))
      · refine neg_br (nI_ge hlt (by omega)) ⟨vp_in_nI (by omega) (by omega), ?_⟩
        rw [nI_clamp (by omega), (he p hlt).1]
        exact w_in (br0 hi h) (by decide) (by decide)
    · obtain ⟨c, hc1, hc2, ec⟩ := inr_t (a := 48) (b := 57) (by omega) (by omega) hi
      obtain ⟨e, v', u', h1, h2, h3, h4, h5, h6⟩ := k_digs hn he d (p + 1) (by omega) (by omega) (((v * 10) + t p) - 48) (if u ≤ 10000 then ((10 * u) + t p) - 48 else u)
      refine ⟨e, v', u', by omega, h2, ⟨fun q => absurd q (by omega), fun q => absurd (q hlt) (by decide)⟩, fun a ha hu hle => ?_, fun K h => ?_, fun K h => ?_⟩
      · have e10 : 10 ^ (e - p) = 10 * 10 ^ (e - (p + 1)) := by
          rw [show e - p = (e - (p + 1)) + 1 by omega, Nat.pow_succ, Nat.mul_comm]
        have hpw : 1 ≤ 10 ^ (e - (p + 1)) := Nat.pow_pos (by decide)
        rw [e10] at hle ⊢
        obtain ⟨W, hW⟩ : ∃ W, W = 10 ^ (e - (p + 1)) := ⟨_, rfl⟩
        rw [← hW] at hle hpw ⊢ h4
        have ha1 : a < 1000 := by
          refine Classical.byContradiction fun q => ?_
          have : 1000 * (10 * W) ≤ a * (10 * W) := Nat.mul_le_mul_right _ (by omega)
          omega
        have ev : ((v * 10) + t p) - 48 = nI (a * 10 + (c - 48)) := by
          rw [ha, ec, show (10 : Int32) = nI 10 from rfl, pk_mul, nI_add, show (48 : Int32) = nI 48 from rfl, pk_sub (by omega)]
          congr 1
          omega
        have eu : (if u ≤ 10000 then ((10 * u) + t p) - 48 else u) = ((v * 10) + t p) - 48 := by
          subst hu
          rw [if_pos (by rw [ha]; exact nI_le (b := 10000) (by omega) (by omega))]
          rw [Int32.mul_comm]
        have hbd : (a * 10 + (c - 48)) * W + W ≤ a * (10 * W) + 10 * W := by
          have : (c - 48) * W ≤ 9 * W := Nat.mul_le_mul_right _ (by omega)
          rw [Nat.add_mul, Nat.mul_assoc]
          omega
        obtain ⟨g1, b, g2, g3⟩ := h4 _ ev eu (by omega)
        exact ⟨g1, b, g2, by omega⟩
      · obtain ⟨m, hm⟩ := h5 K h
        refine ⟨m + 1, neg_br (nI_ge hlt (by omega)) (w_at (by omega) (by omega) (w_within (br1 hi (w_at (by omega) (by omega) ?_))))⟩
        rw [← nI_succ]
        exact hm
      · obtain ⟨m, hm⟩ := h6 K h
        refine ⟨m + 1, neg_br (nI_ge hlt (by omega)) ⟨vp_in_nI (by omega) (by omega), ?_⟩⟩
        rw [nI_clamp (by omega), (he p hlt).1, ← nI_succ]
        refine w_in (br1 hi ⟨fun q => ?_, fun q => ?_⟩) (by decide) (by decide)
        · rw [if_pos q] at hm; exact ⟨vp_in_nI (by omega) (by omega), hm⟩
        · rw [if_neg q] at hm; exact hm
/-- where a fault is, if there is one -/
def fA (f w : Nat) (fa : Int32) : Int32 := if f = 0 then fa else nI w
theorem k_num {n : Nat} {t x : Nat → Int32} (hn : n ≤ 240) (he : ∀ k, k < n → x k = t k ∧ 0 ≤ (t k).toInt) {p lo hi : Nat} (hp : p ≤ n) (hhi : hi < 1000) (hlo : lo < 1000) : ∃ e f w v, p ≤ e ∧ e ≤ n ∧ f ≤ 2 ∧ w ≤ n ∧ (f = 0 → ∃ b, v = nI b ∧ lo ≤ b ∧ b ≤ hi) ∧ (∀ (fa : Int32) (Φ : Int32 → Int32 → Int32 → Int32 → Prop), Φ v (nI e) (nI f) (fA f w fa) → wp_X5_readNumber (nI n) (nI p) 0 fa t (nI lo) (nI hi) Φ) ∧ (∀ (fa nu na : Int32) (Φ : Int32 → Int32 → Int32 → Int32 → Int32 → Prop), (∀ nu' na', (f = 0 → nu' = v) → Φ (nI f) (nI e) na' nu' (fA f w fa)) → wp_X8_takeNumber (nI n) fa (nI p) nu na x (nI lo) (nI hi) Φ) := by
  obtain ⟨q, q1, q2, q3, q4, q5⟩ := k_skip hn he (n - p) p rfl hp
  obtain ⟨e, v, u, e1, e2, e3, e4, e5, e6⟩ := k_digs hn he (n - q) q rfl q2 0 0
  have inq : ∀ {Φ : Int32 → Prop}, Φ (B01 (decide (q < n) && inr (tq t n q) 48 57)) → wp_X8_in (tq t n q).toInt64 48 57 Φ := fun h => w_in (by
    unfold tq at h ⊢
    by_cases hq : q < n
    · rw [if_pos hq] at h ⊢; simpa [hq] using h
    · rw [if_neg hq] at h ⊢
      rw [show inr (-1) 48 57 = false from by decide]
      simpa [hq] using h) (by decide) (by decide)
  by_cases h0 : e = q
  · have hno : (decide (q < n) && inr (tq t n q) 48 57) = false := by
      by_cases hq : q < n
      · unfold tq
        rw [if_pos hq, e3.mp h0 hq]; simp
      · simp [hq]
    refine ⟨e, 1, e, v, by omega, e2, by omega, e2, fun h => absurd h (by omega), fun fa Φ h => ?_, fun fa nu na Φ h => ?_⟩
    · refine pos_br rfl (q4 _ (e5 _ ?_))
      unfold wk_X5_readNumber_21
      rw [h0] at h ⊢
      exact pos_br rfl h
    · refine q5 _ (inq (br0 hno ?_))
      rw [← h0]
      exact h nu na (fun h => absurd h (by omega))
  · have hyes : (decide (q < n) && inr (tq t n q) 48 57) = true := by
      have hq : q < n := by omega
      unfold tq
      rw [if_pos hq, decide_eq_true hq, Bool.true_and]
      cases hi : inr (t q) 48 57
      · exact absurd (e3.mpr (fun _ => hi)) h0
      · rfl
    have esub : nI e - nI q = nI (e - q) := pk_sub e1
    by_cases h3 : 3 < e - q
    · refine ⟨e, 2, q, v, by omega, e2, by omega, q2, fun h => absurd h (by omega), fun fa Φ h => ?_, fun fa nu na Φ h => ?_⟩
      · refine pos_br rfl (q4 _ (e5 _ ?_))
        unfold wk_X5_readNumber_21
        rw [esub]
        exact neg_br (nIne h0 (by omega) (by omega)) (pos_br ((nI_ltI (a := 3) (by omega) (by omega)).mpr h3) h)
      · refine q5 _ (inq (br1 hyes (e6 _ ?_)))
        unfold wk_X8_takeNumber_42
        rw [esub]
        exact pos_br ((nI_ltI (a := 3) (by omega) (by omega)).mpr h3) (h _ _ (fun h => absurd h (by omega)))
    · have hpw : 10 ^ (e - q) ≤ 1000 := Nat.pow_le_pow_right (n := 10) (by decide) (show e - q ≤ 3 by omega)
      obtain ⟨g1, b, g2, g3⟩ := e4 0 rfl rfl (by omega)
      subst g1
      cases hi2 : inr u (nI lo) (nI hi)
      · refine ⟨e, 2, q, u, by omega, e2, by omega, q2, fun h => absurd h (by omega), fun fa Φ h => ?_, fun fa nu na Φ h => ?_⟩
        · refine pos_br rfl (q4 _ (e5 _ ?_))
          unfold wk_X5_readNumber_21
          rw [esub]
          exact neg_br (nIne h0 (by omega) (by omega)) (neg_br (fun z => h3 ((nI_ltI (a := 3) (by omega) (by omega)).mp z)) (w_within (br0 hi2 h)))
        · refine q5 _ (inq (br1 hyes (e6 _ ?_)))
          unfold wk_X8_takeNumber_42
          rw [esub]
          exact neg_br (fun z => h3 ((nI_ltI (a := 3) (by omega) (by omega)).mp z)) (w_in (br0 hi2 (h _ _ (fun h => absurd h (by omega)))) rfl rfl)
      · obtain ⟨b2, b3, b4, b5⟩ := inr_t (a := lo) (b := hi) (by omega) (by omega) hi2
        refine ⟨e, 0, q, u, by omega, e2, by omega, q2, fun _ => ⟨b2, b5, b3, b4⟩, fun fa Φ h => ?_, fun fa nu na Φ h => ?_⟩
        · refine pos_br rfl (q4 _ (e5 _ ?_))
          unfold wk_X5_readNumber_21
          rw [esub]
          exact neg_br (nIne h0 (by omega) (by omega)) (neg_br (fun z => h3 ((nI_ltI (a := 3) (by omega) (by omega)).mp z)) (w_within (br1 hi2 h)))
        · refine q5 _ (inq (br1 hyes (e6 _ ?_)))
          unfold wk_X8_takeNumber_42
          rw [esub]
          exact neg_br (fun z => h3 ((nI_ltI (a := 3) (by omega) (by omega)).mp z)) (w_in (br1 hi2 (h _ _ (fun _ => rfl))) rfl rfl)
