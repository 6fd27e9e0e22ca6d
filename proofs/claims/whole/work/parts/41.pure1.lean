/-! the pure side, 1: the small methods -/
theorem fa_lt (a b : Int32) : a < b ↔ a.toInt < b.toInt := Int32.lt_iff_toInt_lt
theorem fa_le (a b : Int32) : a ≤ b ↔ a.toInt ≤ b.toInt := Int32.le_iff_toInt_le
theorem fa_lt64 (a b : Int64) : a < b ↔ a.toInt < b.toInt := Int64.lt_iff_toInt_lt
theorem fa_le64 (a b : Int64) : a ≤ b ↔ a.toInt ≤ b.toInt := Int64.le_iff_toInt_le
theorem fa_wide_lt (a b : Int32) : a.toInt64 < b.toInt64 ↔ a < b := by rw [fa_lt64, fa_lt, Int32.toInt_toInt64, Int32.toInt_toInt64]
theorem cmp_neg (x y : Int64) : lg_cmp x y < 0 ↔ x < y := by
  unfold lg_cmp
  by_cases h1 : x > y
  · rw [if_pos h1]
    constructor
    · intro h; exact absurd h (by decide)
    · intro h; rw [fa_lt64] at h; rw [gt_iff_lt, fa_lt64] at h1; omega
  · rw [if_neg h1]
    by_cases h2 : x = y
    · rw [if_pos h2]
      constructor
      · intro h; exact absurd h (by decide)
      · intro h; subst h2; rw [fa_lt64] at h; omega
    · rw [if_neg h2]
      constructor
      · intro _
        rw [fa_lt64]
        rw [gt_iff_lt, fa_lt64] at h1
        have : x.toInt ≠ y.toInt := fun e => h2 (Int64.toInt_inj.mp e)
        omega
      · intro _; decide
theorem cmp_pos (x y : Int64) : 0 < lg_cmp x y ↔ y < x := by
  unfold lg_cmp
  by_cases h1 : x > y
  · rw [if_pos h1]
    exact ⟨fun _ => h1, fun _ => by decide⟩
  · rw [if_neg h1]
    constructor
    · intro h
      by_cases h2 : x = y
      · rw [if_pos h2] at h; exact absurd h (by decide)
      · rw [if_neg h2] at h; exact absurd h (by decide)
    · intro h; exact absurd h h1
/-- within bounds -/
def inr (x lo hi : Int32) : Bool := decide (lo.toInt ≤ x.toInt ∧ x.toInt ≤ hi.toInt)
/-- a place of a row of P -/
def isP (p : Int32) (P : Nat) : Bool := decide (0 ≤ p.toInt ∧ p.toInt < (P : Int))
theorem isP_t {p : Int32} {P : Nat} (hP : P < 2 ^ 31) (h : isP p P = true) : ∃ k, k < P ∧ p = nI k := vp_in_of (vp_in_iff.mpr (of_decide_eq_true h)) hP
theorem isP_nI {k P : Nat} (hk : k < 2 ^ 31) : isP (nI k) P = decide (k < P) := by
  unfold isP
  rw [nI_toInt hk]
  congr 1
  rw [eq_iff_iff]
  omega
theorem br_and {c d : Prop} [Decidable c] [Decidable d] {Φ : Int32 → Prop} (h : Φ (B01 (decide (¬ c ∧ ¬ d)))) : (c → Φ 0) ∧ (¬ c → (d → Φ 0) ∧ (¬ d → Φ 1)) := by
  by_cases hc : c
  · rw [decide_eq_false (fun q => q.1 hc)] at h
    exact ⟨fun _ => h, fun q => absurd hc q⟩
  · refine ⟨fun q => absurd q hc, fun _ => ?_⟩
    by_cases hd : d
    · rw [decide_eq_false (fun q => q.2 hd)] at h
      exact ⟨fun _ => h, fun q => absurd hd q⟩
    · rw [decide_eq_true ⟨hc, hd⟩] at h
      exact ⟨fun q => absurd q hd, fun _ => h⟩
theorem dec_c {a b : Prop} [Decidable a] [Decidable b] (h : a ↔ b) : decide a = decide b := by
  rw [Bool.eq_iff_iff, decide_eq_true_eq, decide_eq_true_eq]; exact h
theorem w_within {x lo hi : Int32} {Φ : Int32 → Prop} (h : Φ (B01 (inr x lo hi))) : wp_X7_within x lo hi Φ := by
  unfold wp_X7_within
  refine br_and ?_
  rw [show decide (¬ x < lo ∧ ¬ hi < x) = inr x lo hi from dec_c (by rw [fa_lt, fa_lt]; omega)]
  exact h
theorem w_in {x lo hi : Int32} {lo' hi' : Int64} {Φ : Int32 → Prop} (h : Φ (B01 (inr x lo hi))) (e1 : lo.toInt64 = lo') (e2 : hi.toInt64 = hi') : wp_X8_in x.toInt64 lo' hi' Φ := by
  subst e1 e2
  unfold wp_X8_in
  refine br_and ?_
  rw [show decide (¬ lg_cmp x.toInt64 lo.toInt64 < 0 ∧ ¬ 0 < lg_cmp x.toInt64 hi.toInt64) = inr x lo hi from dec_c (by rw [cmp_neg, cmp_pos, fa_wide_lt, fa_wide_lt, fa_lt, fa_lt]; omega)]
  exact h
theorem w_has {P : Nat} {p : Int32} {Φ : Int32 → Prop} (hP : P < 2 ^ 31) (h : Φ (B01 (isP p P))) : wp_X1_has (nI P) p Φ := by
  unfold wp_X1_has
  refine br_and ?_
  rw [show decide (¬ p < 0 ∧ ¬ nI P ≤ p) = isP p P from dec_c (by rw [fa_lt, fa_le, nI_toInt hP, Int32.toInt_zero]; omega)]
  exact h
theorem w_hasDay {P : Nat} {p : Int32} {Φ : Int32 → Prop} (hP : P < 2 ^ 31) (h : Φ (B01 (isP p P))) : wp_X2_hasDay (nI P) p Φ := by
  unfold wp_X2_hasDay
  refine br_and ?_
  rw [show decide (¬ p < 0 ∧ ¬ nI P ≤ p) = isP p P from dec_c (by rw [fa_lt, fa_le, nI_toInt hP, Int32.toInt_zero]; omega)]
  exact h
theorem isP_inr {P : Nat} (hP : P < 2 ^ 30) (p : Int32) : inr p 0 (nI P - 1) = isP p P := by
  refine dec_c ?_
  have : (nI P - 1 : Int32).toInt = (P : Int) - 1 := pk_sub_toInt (b := 1) (by omega) (by omega)
  rw [this, Int32.toInt_zero]
  omega
/-- 0 .. P - 1, as the reference asks it -/
theorem w_inP {P : Nat} {p y : Int32} {Φ : Int32 → Prop} (hP : P < 2 ^ 30) (hy : y = nI P) (h : Φ (B01 (isP p P))) : wp_X8_in p.toInt64 0 (y - 1).toInt64 Φ := by
  subst hy
  exact w_in (lo := 0) (hi := nI P - 1) (by rw [isP_inr hP]; exact h) (by decide) rfl
theorem w_isPerson {P : Nat} {now : Nat → Int32} {p : Int32} {Φ : Int32 → Prop} (hP : P < 2 ^ 30) (h8 : now 8 = nI P) (h : Φ (B01 (isP p P))) : wp_X8_isPerson now p Φ := by
  unfold wp_X8_isPerson
  exact w_inP hP h8 ⟨B01_z _, h⟩
theorem w_at {f : Nat → Int32} {N k : Nat} {Φ : Int32 → Prop} (hk : k < N) (hN : N < 2 ^ 31) (h : Φ (f k)) : wp_X7_at f N (nI k) Φ := by
  unfold wp_X7_at
  exact ⟨fun q => absurd q (nI_pos (by omega)), fun _ => ⟨fun q => absurd q (nI_ge hk hN), fun _ => ⟨vp_in_nI hk hN, by rw [nI_clamp (by omega)]; exact h⟩⟩⟩
theorem w_put {f : Nat → Int32} {N k : Nat} {x : Int32} {Φ : (Nat → Int32) → Prop} (hk : k < N) (hN : N < 2 ^ 31) (h : Φ (upd f k x)) : wp_X7_put f N (nI k) x Φ := by
  unfold wp_X7_put
  exact ⟨fun q => absurd q (nI_pos (by omega)), fun _ => ⟨fun q => absurd q (nI_ge hk hN), fun _ => ⟨vp_in_nI hk hN, by rw [nI_clamp (by omega)]; exact h⟩⟩⟩
/-- a read of the reference's rows -/
theorem r_at {N k : Nat} {A : Prop} {G : Nat → Prop} (hk : k < N) (hN : N < 2 ^ 31) (h : G k) : G (nI k).toNatClampNeg := by rw [nI_clamp (by omega)]; exact h
theorem w_holdsG {s w : Int32} {Φ : Int32 → Prop} (h : Φ (B01 (hb s w))) : wp_X7_holds s w Φ := by
  unfold wp_X7_holds
  unfold hb at h
  by_cases c : ((s >>> (w &&& 31)) &&& 1) = 1
  · rw [decide_eq_true c] at h; exact ⟨fun _ => h, fun q => absurd c q⟩
  · rw [decide_eq_false c] at h; exact ⟨fun q => absurd q c, fun _ => h⟩
theorem w_hasG {s w : Int32} {Φ : Int32 → Prop} (h : Φ (B01 (hb s w))) : wp_X8_has s w Φ := w_holdsG h
theorem w_lives {L : Int32} {k : Nat} {Φ : Int32 → Prop} (hk : k < 32) (h : Φ (B01 (bt L k))) : wp_X1_lives L (nI k) Φ := by
  unfold wp_X1_lives
  refine w_holdsG ?_
  rw [hb_nI L hk]
  exact ⟨B01_z _, h⟩
theorem w_lives8 {now : Nat → Int32} {L : Int32} {k : Nat} {Φ : Int32 → Prop} (hk : k < 32) (h9 : now 9 = L) (h : Φ (B01 (bt L k))) : wp_X8_lives now (nI k) Φ := by
  unfold wp_X8_lives
  rw [h9]
  refine w_hasG ?_
  rw [hb_nI L hk]
  exact ⟨B01_z _, h⟩
/-- who goes out by a weather, an hour, a danger -/
def gG (iw ih fe : Nat → Int32) (p : Nat) (w h d : Int32) : Bool := !(hb (iw p) w) && (!(hb (ih p) h) && decide (¬ fe p < d))
theorem w_goesOut {iw ih fe : Nat → Int32} {p : Nat} {w h d : Int32} {Φ : Int32 → Prop} (hp : p < 8) (k : Φ (B01 (gG iw ih fe p w h d))) : wp_X2_goesOut iw ih fe (nI p) w h d Φ := by
  unfold wp_X2_goesOut
  unfold gG at k
  refine w_at hp (by omega) (w_holdsG (br_b (fun e1 => w_at hp (by omega) (w_holdsG (br_b (fun e2 => w_at hp (by omega) ?_) (fun e2 => ?_)))) (fun e1 => ?_)))
  · rw [e1, e2] at k
    by_cases c : fe p < d
    · exact ⟨fun _ => by simpa [c, B01] using k, fun q => absurd c q⟩
    · exact ⟨fun q => absurd q c, fun _ => by simpa [c, B01] using k⟩
  · rw [e1, e2] at k; exact k
  · rw [e1] at k; exact k
theorem w_goesBy {iw ih fe : Nat → Int32} {p : Nat} {w h d : Int32} {Φ : Int32 → Prop} (hp : p < 8) (k : Φ (B01 (gG iw ih fe p w h d))) : wp_X8_goesBy iw ih fe (nI p) w h d Φ := by
  unfold wp_X8_goesBy
  unfold gG at k
  rw [nI_clamp (by omega)]
  refine ⟨vp_in_nI hp (by omega), w_hasG (br_b (fun e1 => ⟨vp_in_nI hp (by omega), w_hasG (br_b (fun e2 => ⟨vp_in_nI hp (by omega), ?_⟩) (fun e2 => ?_))⟩) (fun e1 => ?_))⟩
  · rw [e1, e2] at k
    by_cases c : fe p < d
    · exact ⟨fun _ => by simpa [c, B01] using k, fun q => absurd c q⟩
    · exact ⟨fun q => absurd q c, fun _ => by simpa [c, B01] using k⟩
  · rw [e1, e2] at k; exact k
  · rw [e1] at k; exact k
/-- what a day told holds, as days come round -/
def dW (f : Nat → Int32) (n t : Nat) : Int32 := if n = 0 then 0 else f (t % n)
theorem w_onDay {f : Nat → Int32} {n t : Nat} {Φ : Int32 → Prop} (hn : n ≤ 10) (ht : t < 2 ^ 31) (k : Φ (dW f n t)) : wp_X2_onDay (nI n) f 10 (nI t) Φ := by
  unfold wp_X2_onDay
  unfold dW at k
  by_cases h0 : n = 0
  · subst h0
    exact ⟨fun _ => by simpa using k, fun q => absurd (by decide) q⟩
  · rw [if_neg h0] at k
    refine ⟨fun q => absurd q (nI_nle (by omega) (by omega)), fun _ => ⟨nI_ne0 (by omega) (by omega), ?_⟩⟩
    rw [pk_rem ht (by omega) (by omega)]
    have := Nat.mod_lt t (show 0 < n by omega)
    exact w_at (by omega) (by omega) k
theorem w_weatherOn {f : Nat → Int32} {n t : Nat} {Φ : Int32 → Prop} (hn : n ≤ 10) (ht : t < 2 ^ 31) (k : Φ (dW f n t)) : wp_X2_weatherOn (nI n) f (nI t) Φ := w_onDay hn ht k
theorem w_hourOn {f : Nat → Int32} {n t : Nat} {Φ : Int32 → Prop} (hn : n ≤ 10) (ht : t < 2 ^ 31) (k : Φ (dW f n t)) : wp_X2_hourOn (nI n) f (nI t) Φ := w_onDay hn ht k
theorem w_dangerOn {f : Nat → Int32} {n t : Nat} {Φ : Int32 → Prop} (hn : n ≤ 10) (ht : t < 2 ^ 31) (k : Φ (dW f n t)) : wp_X2_dangerOn (nI n) f (nI t) Φ := w_onDay hn ht k
theorem w_dangerOn8 {f : Nat → Int32} {n t : Nat} {Φ : Int32 → Prop} (hn : n ≤ 10) (ht : t < 2 ^ 31) (k : Φ (dW f n t)) : wp_X8_dangerOn (nI n) f (nI t) Φ := by
  unfold wp_X8_dangerOn
  unfold dW at k
  by_cases h0 : n = 0
  · subst h0
    exact ⟨fun _ => by simpa using k, fun q => absurd (by decide) q⟩
  · rw [if_neg h0] at k
    refine ⟨fun q => absurd q (nI_ne0 (by omega) (by omega)), fun _ => ⟨nI_ne0 (by omega) (by omega), ?_⟩⟩
    rw [pk_rem ht (by omega) (by omega)]
    have := Nat.mod_lt t (show 0 < n by omega)
    exact ⟨vp_in_nI (by omega) (by omega), by rw [nI_clamp (by omega)]; exact k⟩
/-- who goes out on day t -/
def gD (iw ih fe we ho da : Nat → Int32) (n t p : Nat) : Bool := gG iw ih fe p (dW we n t) (dW ho n t) (dW da n t)
theorem w_goesOutOn {iw ih fe we ho da : Nat → Int32} {n t p : Nat} {Φ : Int32 → Prop} (hn : n ≤ 10) (ht : t < 2 ^ 31) (hp : p < 8) (k : Φ (B01 (gD iw ih fe we ho da n t p))) : wp_X2_goesOutOn (nI n) we ho da iw ih fe (nI p) (nI t) Φ := by
  unfold wp_X2_goesOutOn
  exact w_weatherOn hn ht (w_hourOn hn ht (w_dangerOn hn ht (w_goesOut hp ⟨B01_z _, k⟩)))
theorem w_goesAt {iw ih fe we ho da : Nat → Int32} {n t p : Nat} {Φ : Int32 → Prop} (hn : n ≤ 10) (ht : t < n) (hp : p < 8) (k : Φ (B01 (gD iw ih fe we ho da n t p))) : wp_X8_goesAt we ho da iw ih fe (nI p) (nI t) Φ := by
  unfold wp_X8_goesAt
  unfold gD dW at k
  rw [if_neg (show ¬ n = 0 by omega), if_neg (show ¬ n = 0 by omega), if_neg (show ¬ n = 0 by omega), Nat.mod_eq_of_lt ht] at k
  rw [nI_clamp (by omega)]
  exact ⟨vp_in_nI (by omega) (by omega), vp_in_nI (by omega) (by omega), vp_in_nI (by omega) (by omega), w_goesBy hp ⟨B01_z _, k⟩⟩
theorem w_goesOn {iw ih fe we ho da : Nat → Int32} {n t p : Nat} {Φ : Int32 → Prop} (hn : n ≤ 10) (ht : t < 2 ^ 31) (hp : p < 8) (k : Φ (B01 (gD iw ih fe we ho da n t p))) : wp_X8_goesOn (nI n) we ho da iw ih fe (nI p) (nI t) Φ := by
  unfold wp_X8_goesOn
  by_cases h0 : n = 0
  · subst h0
    exact ⟨fun _ => w_goesBy hp ⟨B01_z _, k⟩, fun q => absurd (by decide) q⟩
  · refine ⟨fun q => absurd q (nI_ne0 (by omega) (by omega)), fun _ => ⟨nI_ne0 (by omega) (by omega), ?_⟩⟩
    rw [pk_rem ht (by omega) (by omega)]
    have hm := Nat.mod_lt t (show 0 < n by omega)
    refine w_goesAt hn hm hp ⟨B01_z _, ?_⟩
    have e : gD iw ih fe we ho da n (t % n) p = gD iw ih fe we ho da n t p := by
      unfold gD dW
      rw [Nat.mod_mod]
    rw [e]
    exact k
/-- the first of n numbers from k on that has it; -1 -/
def sn (q : Nat → Bool) : Nat → Nat → Int32
  | 0, _ => -1
  | n + 1, k => if q k then nI k else sn q n (k + 1)
theorem sn_ext {q q' : Nat → Bool} : ∀ n k, (∀ j, k ≤ j → j < k + n → q j = q' j) → sn q n k = sn q' n k
  | 0, _, _ => rfl
  | n + 1, k, h => by
    simp only [sn]
    rw [h k (Nat.le_refl _) (by omega), sn_ext n (k + 1) (fun j h1 h2 => h j (by omega) (by omega))]
theorem sn_cut {q : Nat → Bool} : ∀ n m k, (∀ j, k + n ≤ j → q j = false) → sn q (n + m) k = sn q n k
  | 0, 0, k, h => rfl
  | 0, m + 1, k, h => by
    have := sn_cut 0 m (k + 1) (fun j hj => h j (by omega))
    simp only [Nat.zero_add, sn] at this ⊢
    rw [h k (by omega)]
    simpa using this
  | n + 1, m, k, h => by
    rw [show n + 1 + m = (n + m) + 1 by omega]
    simp only [sn]
    rw [sn_cut n m (k + 1) (fun j hj => h j (by omega))]
/-- the answer is -1 or one of them -/
theorem sn_is {q : Nat → Bool} : ∀ n k, (sn q n k = -1 ∧ ∀ j, k ≤ j → j < k + n → q j = false) ∨ ∃ j, k ≤ j ∧ j < k + n ∧ sn q n k = nI j ∧ q j = true ∧ ∀ i, k ≤ i → i < j → q i = false
  | 0, k => Or.inl ⟨rfl, fun j h1 h2 => absurd h2 (by omega)⟩
  | n + 1, k => by
    simp only [sn]
    cases hq : q k
    · rcases sn_is n (k + 1) (q := q) with ⟨h1, h2⟩ | ⟨j, h1, h2, h3, h4, h5⟩
      · refine Or.inl ⟨by simpa using h1, fun j h3 h4 => ?_⟩
        by_cases hj : j = k
        · subst hj; exact hq
        · exact h2 j (by omega) (by omega)
      · refine Or.inr ⟨j, by omega, by omega, by simpa using h3, h4, fun i h6 h7 => ?_⟩
        by_cases hj : i = k
        · subst hj; exact hq
        · exact h5 i (by omega) h7
    · exact Or.inr ⟨k, Nat.le_refl _, by omega, by simp, hq, fun i h1 h2 => absurd h2 (by omega)⟩
theorem nI_nm1 {k : Nat} (hk : k < 2 ^ 31) : ¬ nI k = -1 := fun h => by
  have h1 := nI_toInt hk
  rw [h] at h1
  have h2 : (-1 : Int32).toInt = -1 := by decide
  omega
theorem w_seenBy {L : Int32} {iw ih fe : Nat → Int32} {w h d : Int32} {Φ : Int32 → Prop} (k : Φ (sn (fun p => bt L p && gG iw ih fe p w h d) 8 0)) : wp_X1_seenBy L iw ih fe w h d Φ := by
  unfold wp_X1_seenBy
  refine for1 (j := 0) 8 (fun j => Φ (sn (fun p => bt L p && gG iw ih fe p w h d) (8 - j) j)) (fun j rec hj hp kk => ?_) (fun rec hp => ?_) (by omega) k
  · unfold wb_X1_seenBy_3
    refine ⟨fun q => absurd q (ge8 hj), fun _ => ?_⟩
    rw [show 8 - j = (8 - (j + 1)) + 1 by omega] at hp
    simp only [sn] at hp
    refine w_lives (by omega) (br_b (fun e => kk (by simpa [e] using hp)) (fun e => w_goesOut hj (br_b (fun e2 => kk (by simpa [e, e2] using hp)) (fun e2 => by simpa [e, e2] using hp))))
  · unfold wb_X1_seenBy_3
    exact ⟨fun _ => hp, fun q => absurd le8 q⟩
/-- who is seen on day t, of L -/
def sD (L : Int32) (iw ih fe we ho da : Nat → Int32) (n t : Nat) : Int32 := sn (fun p => bt L p && gD iw ih fe we ho da n t p) 8 0
theorem w_seenOn {L : Int32} {iw ih fe we ho da : Nat → Int32} {n t : Nat} {Φ : Int32 → Prop} (hn : n ≤ 10) (ht : t < 2 ^ 31) (k : Φ (sD L iw ih fe we ho da n t)) : wp_X1_seenOn L (nI n) we ho da iw ih fe (nI t) Φ := by
  unfold wp_X1_seenOn
  exact w_weatherOn hn ht (w_hourOn hn ht (w_dangerOn hn ht (w_seenBy k)))
theorem w_seenOn8 {L : Int32} {now iw ih fe we ho da : Nat → Int32} {n t P : Nat} {Φ : Int32 → Prop} (hn : n ≤ 10) (ht : t < 2 ^ 31) (hP : P ≤ 8) (h8 : now 8 = nI P) (h9 : now 9 = L) (hL : ∀ j, P ≤ j → bt L j = false) (k : Φ (sD L iw ih fe we ho da n t)) : wp_X8_seenOn (nI n) now we ho da iw ih fe (nI t) Φ := by
  unfold wp_X8_seenOn
  have k : Φ (sn (fun p => bt L p && gD iw ih fe we ho da n t p) P 0) := by
    have := sn_cut (q := fun p => bt L p && gD iw ih fe we ho da n t p) P (8 - P) 0 (fun j hj => by simp [hL j (by omega)])
    rw [← this, show P + (8 - P) = 8 by omega]
    exact k
  refine for1 (j := 0) P (fun j => Φ (sn (fun p => bt L p && gD iw ih fe we ho da n t p) (P - j) j)) (fun j rec hj hp kk => ?_) (fun rec hp => ?_) (by omega) k
  · unfold wb_X8_seenOn_2
    rw [h8]
    refine ⟨fun q => absurd q (nI_ge hj (by omega)), fun _ => ?_⟩
    rw [show P - j = (P - (j + 1)) + 1 by omega] at hp
    simp only [sn] at hp
    refine w_lives8 (by omega) h9 (br_b (fun e => kk (by simpa [e] using hp)) (fun e => w_goesOn hn ht (by omega) (br_b (fun e2 => kk (by simpa [e, e2] using hp)) (fun e2 => by simpa [e, e2] using hp))))
  · unfold wb_X8_seenOn_2
    rw [h8]
    exact ⟨fun _ => by rw [Nat.sub_self] at hp; exact hp, fun q => absurd (nI_le (Nat.le_refl P) (by omega)) q⟩
/-! counts of bits -/
def cnt (q : Nat → Bool) : Nat → Nat
  | 0 => 0
  | n + 1 => cnt q n + (if q n then 1 else 0)
theorem cnt_le (q : Nat → Bool) : ∀ n, cnt q n ≤ n
  | 0 => Nat.le_refl 0
  | n + 1 => by
    have := cnt_le q n
    simp only [cnt]
    split <;> omega
theorem cnt_ext {q q' : Nat → Bool} : ∀ n, (∀ j, j < n → q j = q' j) → cnt q n = cnt q' n
  | 0, _ => rfl
  | n + 1, h => by simp only [cnt]; rw [cnt_ext n (fun j hj => h j (by omega)), h n (by omega)]
/-- how many of a set of 8 -/
def pc (x : Int32) : Nat := cnt (bt x) 8
theorem pc_le (x : Int32) : pc x ≤ 8 := cnt_le _ _
theorem w_bits {x : Int32} {Φ : Int32 → Prop} (k : Φ (nI (pc x))) : wp_X8_bits x Φ := by
  unfold wp_X8_bits
  refine for2 (j := 0) 8 (fun j a => a = nI (cnt (bt x) j)) (fun j a rec hj hp kk => ?_) (fun a rec hp => ?_) (by omega) rfl
  · unfold wb_X8_bits_4
    refine ⟨fun q => absurd q (ge8 hj), fun _ => kk _ ?_⟩
    rw [hp, h_bit x (by omega)]
    simp only [cnt]
    cases bt x j
    · simp
    · exact nI_add _ 1
  · unfold wb_X8_bits_4
    subst hp
    exact ⟨fun _ => k, fun q => absurd le8 q⟩
def swar (p0 : Int32) : Int32 :=
  let y9 := p0 - (((p0).toUInt32 >>> ((1 : Int32).toUInt32 &&& Int32.toUInt32 31)).toInt32 &&& 1431655765)
  let y23 := (y9 &&& 858993459) + (((y9).toUInt32 >>> ((2 : Int32).toUInt32 &&& Int32.toUInt32 31)).toInt32 &&& 858993459)
  let y33 := (y23 + ((y23).toUInt32 >>> ((4 : Int32).toUInt32 &&& Int32.toUInt32 31)).toInt32) &&& 252645135
  let y40 := y33 + ((y33).toUInt32 >>> ((8 : Int32).toUInt32 &&& Int32.toUInt32 31)).toInt32
  let y47 := y40 + ((y40).toUInt32 >>> ((16 : Int32).toUInt32 &&& Int32.toUInt32 31)).toInt32
  y47 &&& 63
theorem swar_ok : ∀ n, n < 256 → swar (nI n) = nI (pc (nI n)) := by decide +kernel
theorem w_bitCount {x : Int32} {Φ : Int32 → Prop} (hx : sml x) (k : Φ (nI (pc x))) : wp_J6_bitCount_0f7a4 x Φ := by
  obtain ⟨n, hn, rfl⟩ := sml_of hx
  unfold wp_J6_bitCount_0f7a4
  rw [← swar_ok n hn] at k
  intro y9 e9 y23 e23 y33 e33 y40 e40 y47 e47
  subst e9 e23 e33 e40 e47
  exact k
/-- the set of those ahead of p -/
def ahd (L : Int32) (p : Nat) : Nat := pc (L &&& (((1 : Int32) <<< (nI p &&& 31)) - 1))
theorem w_aheadOf {L : Int32} {p : Nat} {Φ : Int32 → Prop} (hL : sml L) (k : Φ (nI (ahd L p))) : wp_X1_aheadOf L (nI p) Φ := w_bitCount (sml_and hL) k
theorem w_placeOf {now : Nat → Int32} {L : Int32} {p : Nat} {Φ : Int32 → Prop} (h9 : now 9 = L) (k : Φ (nI (ahd L p))) : wp_X8_placeOf now (nI p) Φ := by
  unfold wp_X8_placeOf
  rw [h9]
  exact w_bits k
