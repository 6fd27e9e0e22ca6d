/-! the pure side, 2: the court and the chain on both sides; answers that change little -/
theorem pos_br {c A C : Prop} (h : c) (a : A) : (c → A) ∧ (¬ c → C) := ⟨fun _ => a, fun q => absurd h q⟩
theorem neg_br {c A C : Prop} (h : ¬ c) (a : C) : (c → A) ∧ (¬ c → C) := ⟨fun q => absurd q h, fun _ => a⟩
theorem br0 {b : Bool} {A C : Prop} (e : b = false) (h : A) : (B01 b = 0 → A) ∧ (¬ B01 b = 0 → C) := br_b (fun _ => h) (fun q => absurd (e.symm.trans q) (by decide))
theorem br1 {b : Bool} {A C : Prop} (e : b = true) (h : C) : (B01 b = 0 → A) ∧ (¬ B01 b = 0 → C) := br_b (fun q => absurd (e.symm.trans q) (by decide)) (fun _ => h)
theorem is0 {A C : Prop} (h : A) : ((0 : Int32) = 0 → A) ∧ (¬ (0 : Int32) = 0 → C) := pos_br rfl h
theorem is1 {A C : Prop} (h : C) : ((1 : Int32) = 0 → A) ∧ (¬ (1 : Int32) = 0 → C) := neg_br (by decide) h
theorem nIne {a b : Nat} (h : a ≠ b) (ha : a < 2 ^ 31) (hb : b < 2 ^ 31) : ¬ nI a = nI b := fun q => h ((nI_eq ha hb).mp q)
theorem inr_t {x : Int32} {a b : Nat} (hb : b < 2 ^ 30) (ha : a < 2 ^ 30) (h : inr x (nI a) (nI b) = true) : ∃ k, a ≤ k ∧ k ≤ b ∧ x = nI k := by
  have h := of_decide_eq_true h
  rw [nI_toInt (by omega), nI_toInt (by omega)] at h
  obtain ⟨k, hk, e⟩ := vp_in_of (x := x) (n := b + 1) (vp_in_iff.mpr (by omega)) (by omega)
  subst e
  rw [nI_toInt (by omega)] at h
  exact ⟨k, by omega, by omega, rfl⟩
/-- what is told of a court, on both sides -/
def cE (D : Nat) (iw ih fe we ho da mw mh mf dw dh dd : Nat → Int32) : Prop := (∀ p, p < 8 → mw p = iw p ∧ mh p = ih p ∧ mf p = fe p) ∧ ∀ d, d < D → dw d = we d ∧ dh d = ho d ∧ dd d = da d
/-- a chain, and the row of it -/
def cN (P dd : Nat) (L sh sp : Int32) (mk now : Nat → Int32) : Prop := now 8 = nI P ∧ now 9 = L ∧ now 10 = sh ∧ now 11 = nI dd ∧ now 12 = sp ∧ P ≤ 8 ∧ dd ≤ 9060 ∧ (∀ j, P ≤ j → bt L j = false) ∧ ∀ p, p < P → now p = mk p ∧ sml (mk p)
theorem c_gG {D : Nat} {iw ih fe we ho da mw mh mf dw dh dd : Nat → Int32} (hC : cE D iw ih fe we ho da mw mh mf dw dh dd) {p : Nat} (hp : p < 8) (w h d : Int32) : gG mw mh mf p w h d = gG iw ih fe p w h d := by
  obtain ⟨a, b, c⟩ := hC.1 p hp
  unfold gG
  rw [a, b, c]
theorem c_dW {D : Nat} {iw ih fe we ho da mw mh mf dw dh dd : Nat → Int32} (hC : cE D iw ih fe we ho da mw mh mf dw dh dd) (t : Nat) : dW dw D t = dW we D t ∧ dW dh D t = dW ho D t ∧ dW dd D t = dW da D t := by
  unfold dW
  by_cases h : D = 0
  · simp [h]
  · obtain ⟨a, b, c⟩ := hC.2 (t % D) (Nat.mod_lt _ (by omega))
    rw [a, b, c]
    exact ⟨rfl, rfl, rfl⟩
theorem c_gD {D : Nat} {iw ih fe we ho da mw mh mf dw dh dd : Nat → Int32} (hC : cE D iw ih fe we ho da mw mh mf dw dh dd) {p : Nat} (hp : p < 8) (t : Nat) : gD mw mh mf dw dh dd D t p = gD iw ih fe we ho da D t p := by
  obtain ⟨a, b, c⟩ := c_dW hC t
  unfold gD
  rw [a, b, c, c_gG hC hp]
theorem c_sD {D : Nat} {iw ih fe we ho da mw mh mf dw dh dd : Nat → Int32} (hC : cE D iw ih fe we ho da mw mh mf dw dh dd) (L : Int32) (t : Nat) : sD L mw mh mf dw dh dd D t = sD L iw ih fe we ho da D t := sn_ext 8 0 fun j _ h => by
  show (bt L j && gD mw mh mf dw dh dd D t j) = (bt L j && gD iw ih fe we ho da D t j)
  rw [c_gD hC (by omega)]
theorem r_goesBy {D : Nat} {iw ih fe we ho da mw mh mf dw dh dd : Nat → Int32} (hC : cE D iw ih fe we ho da mw mh mf dw dh dd) {p : Nat} (hp : p < 8) {w h d : Int32} {Φ : Int32 → Prop} (k : Φ (B01 (gG iw ih fe p w h d))) : wp_X8_goesBy mw mh mf (nI p) w h d Φ := w_goesBy hp (by rw [c_gG hC hp]; exact k)
theorem r_goesAt {D : Nat} {iw ih fe we ho da mw mh mf dw dh dd : Nat → Int32} (hC : cE D iw ih fe we ho da mw mh mf dw dh dd) (hD : D ≤ 10) {p t : Nat} (hp : p < 8) (ht : t < D) {Φ : Int32 → Prop} (k : Φ (B01 (gD iw ih fe we ho da D t p))) : wp_X8_goesAt dw dh dd mw mh mf (nI p) (nI t) Φ := w_goesAt hD ht hp (by rw [c_gD hC hp]; exact k)
theorem r_goesOn {D : Nat} {iw ih fe we ho da mw mh mf dw dh dd : Nat → Int32} (hC : cE D iw ih fe we ho da mw mh mf dw dh dd) (hD : D ≤ 10) {p t : Nat} (hp : p < 8) (ht : t < 2 ^ 31) {Φ : Int32 → Prop} (k : Φ (B01 (gD iw ih fe we ho da D t p))) : wp_X8_goesOn (nI D) dw dh dd mw mh mf (nI p) (nI t) Φ := w_goesOn hD ht hp (by rw [c_gD hC hp]; exact k)
theorem r_dangerOn {D : Nat} {iw ih fe we ho da mw mh mf dw dh dd : Nat → Int32} (hC : cE D iw ih fe we ho da mw mh mf dw dh dd) (hD : D ≤ 10) {t : Nat} (ht : t < 2 ^ 31) {Φ : Int32 → Prop} (k : Φ (dW da D t)) : wp_X8_dangerOn (nI D) dd (nI t) Φ := w_dangerOn8 hD ht (by rw [(c_dW hC t).2.2]; exact k)
theorem r_seenOn {D : Nat} {iw ih fe we ho da mw mh mf dw dh dd : Nat → Int32} (hC : cE D iw ih fe we ho da mw mh mf dw dh dd) (hD : D ≤ 10) {P dy : Nat} {L sh sp : Int32} {mk now : Nat → Int32} (hN : cN P dy L sh sp mk now) {t : Nat} (ht : t < 2 ^ 31) {Φ : Int32 → Prop} (k : Φ (sD L iw ih fe we ho da D t)) : wp_X8_seenOn (nI D) now dw dh dd mw mh mf (nI t) Φ :=
  w_seenOn8 hD ht hN.2.2.2.2.2.1 hN.1 hN.2.1 hN.2.2.2.2.2.2.2.1 (by rw [c_sD hC]; exact k)
theorem sD_is (L : Int32) (iw ih fe we ho da : Nat → Int32) (D t : Nat) : sD L iw ih fe we ho da D t = -1 ∨ ∃ j, j < 8 ∧ sD L iw ih fe we ho da D t = nI j ∧ bt L j = true := by
  rcases sn_is (q := fun p => bt L p && gD iw ih fe we ho da D t p) 8 0 with h | ⟨j, _, h2, h3, h4, _⟩
  · exact Or.inl h.1
  · refine Or.inr ⟨j, by omega, h3, ?_⟩
    have h4 : (bt L j && gD iw ih fe we ho da D t j) = true := h4
    simp at h4
    exact h4.1
/-- a search from 0 to N -/
theorem srch {B : (Int32 → Prop) → Int32 → Prop} (q : Nat → Bool) (b N : Nat) (Φ : Int32 → Prop) (hs : ∀ j rec, j < N → (q (b + j) = true → Φ (nI (b + j))) → (q (b + j) = false → rec (nI j + 1)) → B rec (nI j)) (hx : ∀ rec, Φ (-1) → B rec (nI N)) (k : Φ (sn q N b)) : ∃ n, xit1 B n 0 := by
  refine for1 (j := 0) N (fun j => Φ (sn q (N - j) (b + j))) (fun j rec hj hp kk => ?_) (fun rec hp => ?_) (by omega) k
  · rw [show N - j = (N - (j + 1)) + 1 by omega] at hp
    simp only [sn] at hp
    refine hs j rec hj (fun e => by simpa [e] using hp) (fun e => kk ?_)
    simpa [e, Nat.add_assoc] using hp
  · rw [Nat.sub_self] at hp
    exact hx rec hp
/-- those of n numbers that have it, as a set -/
def col (q : Nat → Bool) : Nat → Int32
  | 0 => 0
  | n + 1 => if q n then col q n ||| ((1 : Int32) <<< (nI n &&& 31)) else col q n
theorem or0 (x : Int32) : x ||| 0 = x := b_ext fun i _ => by rw [b_or, b_0]; cases bt x i <;> rfl
theorem col_t {q : Nat → Bool} {n : Nat} (e : q n = true) : col q n ||| ((1 : Int32) <<< (nI n &&& 31)) = col q (n + 1) := by simp only [col]; rw [e]; rfl
theorem col_f {q : Nat → Bool} {n : Nat} (e : q n = false) : col q n = col q (n + 1) := by simp only [col]; rw [e]; rfl
theorem b_col (q : Nat → Bool) : ∀ n, n ≤ 32 → ∀ i, i < 32 → bt (col q n) i = (decide (i < n) && q i)
  | 0, _, i, _ => by simp [col, b_0]
  | n + 1, h, i, hi => by
    have ih := b_col q n (by omega) i hi
    simp only [col]
    by_cases hq : q n = true
    · rw [if_pos hq, b_or, ih, b_one (by omega) hi]
      by_cases hin : i = n
      · subst hin; simp [hq]
      · by_cases h2 : i < n
        · simp [h2, hin, Nat.lt_succ_of_lt h2]
        · simp [h2, hin, show ¬ i < n + 1 by omega]
    · rw [if_neg hq, ih]
      by_cases hin : i = n
      · subst hin; simp at hq; simp [hq]
      · by_cases h2 : i < n
        · simp [h2, Nat.lt_succ_of_lt h2]
        · simp [h2, show ¬ i < n + 1 by omega]
theorem col_cut {q : Nat → Bool} {P : Nat} (hP : P ≤ 8) (h : ∀ j, P ≤ j → q j = false) : col q P = col q 8 := b_ext fun i hi => by
  rw [b_col q P (by omega) i hi, b_col q 8 (by omega) i hi]
  by_cases h1 : P ≤ i
  · rw [h i h1]; simp
  · rw [decide_eq_true (show i < P by omega), decide_eq_true (show i < 8 by omega)]
theorem col_ext {q q' : Nat → Bool} : ∀ n, (∀ j, j < n → q j = q' j) → col q n = col q' n
  | 0, _ => rfl
  | n + 1, h => by simp only [col]; rw [col_ext n (fun j hj => h j (by omega)), h n (by omega)]
theorem col_sml (q : Nat → Bool) {n : Nat} (h : n ≤ 8) : sml (col q n) := fun i hi => by
  by_cases h1 : i < 32
  · rw [b_col q n (by omega) i h1, decide_eq_false (by omega)]; rfl
  · exact b_big (by omega)
theorem cN_sml {P dd : Nat} {L sh sp : Int32} {mk now : Nat → Int32} (hN : cN P dd L sh sp mk now) : sml L := fun i hi => hN.2.2.2.2.2.2.2.1 i (by have := hN.2.2.2.2.2.1; omega)
/-! the answers -/
theorem p_feed {n : Nat} {lt tx : Nat → Int32} {c : Int32} {Φ : Int32 → (Nat → Int32) → Int32 → Int32 → (Nat → Int32) → Int32 → Prop} (hn : n ≤ 240) (he : ∀ k, k < n → tx k = lt k ∧ 0 ≤ (lt k).toInt) (k : ∀ r lt' tx' n', n' ≤ 240 → (∀ k, k < n' → tx' k = lt' k ∧ 0 ≤ (lt' k).toInt) → Φ r lt' (nI n') r tx' (nI n')) : wp_X7_feed (nI n) lt c (fun r l n1 => wp_X8_feed (nI n) tx c (fun r' t n2 => Φ r l n1 r' t n2)) := by
  unfold wp_X7_feed wp_X8_feed
  refine w_within (br_b (fun e => ?_) (fun e => ?_))
  · exact w_in (br0 e (k _ _ _ n hn he)) (by decide) (by decide)
  · unfold wp_X5_append
    refine br_lt (a := n) (b := 240) (by omega) (by omega) (fun h => ?_) (fun h => ?_)
    · refine w_put h (by omega) (is1 (w_in (br1 e (neg_br (nIne (a := n) (b := 240) (by omega) (by omega) (by omega)) ⟨vp_in_nI h (by omega), ?_⟩)) (by decide) (by decide)))
      rw [nI_clamp (by omega), ← nI_succ]
      refine k _ _ _ (n + 1) (by omega) (fun j hj => ?_)
      by_cases hjn : j = n
      · subst hjn; rw [pk_us, pk_us]; exact ⟨rfl, (of_decide_eq_true e).1⟩
      · rw [pk_un hjn, pk_un hjn]; exact he j (by omega)
    · have : n = 240 := by omega
      subst this
      exact is0 (w_in (br1 e (pos_br rfl (k _ _ _ 240 hn he))) (by decide) (by decide))
