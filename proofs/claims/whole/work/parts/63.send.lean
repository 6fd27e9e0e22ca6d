/-! the pure side, 11: send -/
/-- a full sending: each day its own -/
def Full (g : Nat → Nat → Bool) (n : Nat) (h : Nat → Nat) : Prop := (∀ d, d < n → h d < 8 ∧ g d (h d) = true) ∧ ∀ d, d < n → ∀ e, e < d → h e ≠ h d
/-- one that begins as f does, for k days -/
def Ext (g : Nat → Nat → Bool) (n k : Nat) (f : Nat → Nat) : Prop := ∃ h, Full g n h ∧ ∀ j, j < k → h j = f j
def fu (f : Nat → Nat) (k c : Nat) (j : Nat) : Nat := if j = k then c else f j
theorem fu_s {f : Nat → Nat} {k c : Nat} : fu f k c k = c := if_pos rfl
theorem fu_n {f : Nat → Nat} {k c j : Nat} (h : j ≠ k) : fu f k c j = f j := if_neg h
theorem ext_ext {g : Nat → Nat → Bool} {n k : Nat} {f f' : Nat → Nat} (h : Ext g n k f) (e : ∀ j, j < k → f' j = f j) : Ext g n k f' := by
  obtain ⟨h1, h2, h3⟩ := h
  exact ⟨h1, h2, fun j hj => (h3 j hj).trans (e j hj).symm⟩
theorem ext_less {g : Nat → Nat → Bool} {n k k' : Nat} {f : Nat → Nat} (h : Ext g n k f) (e : k' ≤ k) : Ext g n k' f := by
  obtain ⟨h1, h2, h3⟩ := h
  exact ⟨h1, h2, fun j hj => h3 j (by omega)⟩
/-- the first full one by numbers -/
def Lex (g : Nat → Nat → Bool) (n : Nat) (h : Nat → Nat) : Prop := Full g n h ∧ ∀ d, d < n → ∀ p, p < h d → ¬ Ext g n (d + 1) (fu h d p)
/-- what weighs how far a search has come -/
def ms (f : Nat → Nat) (n : Nat) : Nat → Nat
  | 0 => 0
  | k + 1 => ms f n k + (8 - f k) * 10 ^ (n - k)
theorem ms_ext {f f' : Nat → Nat} {n : Nat} : ∀ k, (∀ j, j < k → f' j = f j) → ms f' n k = ms f n k
  | 0, _ => rfl
  | k + 1, h => by simp only [ms]; rw [ms_ext k (fun j hj => h j (by omega)), h k (by omega)]
/-- an own one: the state of a search at day k, with c the next to be tried -/
def Srch (g : Nat → Nat → Bool) (n k c : Nat) (f : Nat → Nat) (s : Nat → Int32) : Prop := (∀ j, j < k → s j = nI (f j) ∧ f j < 8 ∧ g j (f j) = true) ∧ (∀ j, j < k → ∀ e, e < j → f e ≠ f j) ∧ (∀ j, j < k → ∀ p, p < f j → ¬ Ext g n (j + 1) (fu f j p)) ∧ c ≤ 8 ∧ (k < n → s k + 1 = nI c ∧ ∀ p, p < c → ¬ Ext g n (k + 1) (fu f k p))
theorem w_isSent {s : Nat → Int32} {f : Nat → Nat} {k c : Nat} {Φ : Int32 → Prop} (hk : k < 6) (hs : ∀ j, j < k → s j = nI (f j) ∧ f j < 8) (hc : c < 8) (kk : Φ (B01 (an (fun j => decide (f j = c)) k))) : wp_X8_isSent s (nI c) (nI k) Φ := by
  unfold wp_X8_isSent
  refine for2 (j := 0) k (fun j x => x = B01 (an (fun j => decide (f j = c)) j)) (fun j x rec hj hq k2 => ?_) (fun x rec hq => ?_) (by omega) rfl
  · unfold wb_X8_isSent_5
    subst hq
    obtain ⟨h1, h2⟩ := hs j hj
    rw [nI_clamp (by omega), h1]
    refine neg_br (nI_ge hj (by omega)) (br_b (fun e => ⟨vp_in_nI (by omega) (by omega), br_eq (by omega) (by omega) (fun q => k2 _ ?_) (fun q => k2 _ ?_)⟩) (fun e => k2 _ ?_))
    · simp only [an]; rw [e, decide_eq_true q]; rfl
    · simp only [an]; rw [e, decide_eq_false q]; rfl
    · simp only [an]; rw [e]; rfl
  · unfold wb_X8_isSent_5
    subst hq
    refine pos_br (nI_le (Nat.le_refl k) (by omega)) ?_
    unfold wk_X8_isSent_5
    exact ⟨B01_z _, kk⟩
/-- who may be sent on the day d from dy on -/
def gS (L : Int32) (iw ih fe we ho da : Nat → Int32) (D dy d p : Nat) : Bool := bt L p && gD iw ih fe we ho da D (dy + d) p
theorem l_find {D P dy N : Nat} {iw ih fe we ho da mw mh mf dw dh dd mk now s0 : Nat → Int32} {L sh sp : Int32} {Φ : Int32 → (Nat → Int32) → Prop} (hD : D ≤ 10) (hC : cE D iw ih fe we ho da mw mh mf dw dh dd) (hN : cN P dy L sh sp mk now) (hn1 : 1 ≤ N) (hn : N ≤ 6) (k1 : ∀ h s, Lex (gS L iw ih fe we ho da D dy) N h → (∀ d, d < N → s d = nI (h d)) → Φ 1 s) (k0 : (∀ h, ¬ Full (gS L iw ih fe we ho da D dy) N h) → ∀ s, Φ 0 s) : wp_X8_findSent (nI D) s0 now dw dh dd mw mh mf (nI N) Φ := by
  have hN2 := hN
  obtain ⟨h8, h9, h10, h11, h12, hP, hdy, hL0, hmk⟩ := hN2
  unfold wp_X8_findSent
  let g := gS L iw ih fe we ho da D dy
  refine ⟨ms (fun _ => 0) N 0 + 9 * 10 ^ (N - 0) + 1 + 1, xit2_i (fun m s x => (∃ k c f, x = nI k ∧ k ≤ N ∧ m = ms f N k + (if k < N then (9 - c) * 10 ^ (N - k) else 0) + 1 ∧ Srch g N k c f s) ∨ (x = -1 ∧ m = 0 ∧ ¬ Ext g N 0 (fun _ => 0))) (fun m s x rec hI kk => ?_) _ _ _ _ (Nat.lt_succ_self _) (Or.inl ⟨0, 0, fun _ => 0, rfl, by omega, by rw [if_pos (show 0 < N by omega)], fun j hj => absurd hj (by omega), fun j hj => absurd hj (by omega), fun j hj => absurd hj (by omega), by omega, fun _ => ⟨by rw [pk_us]; decide, fun p hp => absurd hp (by omega)⟩⟩)⟩
  unfold wb_X8_findSent_9
  rcases hI with ⟨k, c, f, rfl, hk, hm, i1, i2, i3, i4, i5⟩ | ⟨rfl, hm, hno⟩
  · refine neg_br (nI_pos (by omega)) ?_
    by_cases hkN : k < N
    · obtain ⟨s1, s2⟩ := i5 hkN
      rw [if_pos hkN] at hm
      rw [nI_clamp (by omega), s1, pk_us, h8, h11, nI_add, ← nI_succ, nI_clamp (by omega)]
      refine neg_br (nI_ge hkN (by omega)) ⟨vp_in_nI (by omega) (by omega), vp_in_nI (by omega) (by omega), vp_in_nI (by omega) (by omega), ?_⟩
      have hpw : 0 < 10 ^ (N - k) := Nat.pow_pos (by decide)
      have next : ¬ Ext g N (k + 1) (fu f k c) → c < 8 → rec (upd s k (nI c)) (nI k) := fun hne hc8 => kk (ms f N k + (9 - (c + 1)) * 10 ^ (N - k) + 1) _ _ (by
        have : (9 - c) * 10 ^ (N - k) = (9 - (c + 1)) * 10 ^ (N - k) + 10 ^ (N - k) := by
          rw [show 9 - c = 9 - (c + 1) + 1 by omega, Nat.add_mul, Nat.one_mul]
        omega) (Or.inl ⟨k, c + 1, f, rfl, hk, by rw [if_pos hkN], fun j hj => by rw [pk_un (by omega)]; exact i1 j hj, i2, i3, by omega, fun _ => ⟨by rw [pk_us, nI_succ], fun p hp => by
          by_cases hpc : p = c
          · subst hpc; exact hne
          · exact s2 p (by omega)⟩⟩)
      refine br_lt (by omega) (by omega) (fun hcP => ?_) (fun hcP => ?_)
      · have hc8 : c < 8 := by omega
        have no : (bt L c = false ∨ gD iw ih fe we ho da D (dy + k) c = false ∨ an (fun j => decide (f j = c)) k = true) → ¬ Ext g N (k + 1) (fu f k c) := by
          rintro h ⟨h1, ⟨h2, h3⟩, h4⟩
          have e1 : h1 k = c := by rw [h4 k (by omega), fu_s]
          have e2 := (h2 k hkN).2
          rw [e1] at e2
          have e2 : (bt L c && gD iw ih fe we ho da D (dy + k) c) = true := e2
          rcases h with h | h | h
          · rw [h] at e2; cases e2
          · rw [h] at e2; simp at e2
          · obtain ⟨j, hj, hfj⟩ := (an_iff _ _).mp h
            simp at hfj
            refine h3 k hkN j hj ?_
            rw [e1, h4 j (by omega), fu_n (by omega), hfj]
        refine w_lives8 (by omega) h9 (br_b (fun e => next (no (Or.inl e)) hc8) (fun e => w_isSent (f := f) (by omega) (fun j hj => ⟨by rw [pk_un (by omega)]; exact (i1 j hj).1, (i1 j hj).2.1⟩) hc8 (br_b (fun e2 => r_goesOn hC hD hc8 (by omega) (br_b (fun e3 => next (no (Or.inr (Or.inl e3))) hc8) (fun e3 => ?_))) (fun e2 => next (no (Or.inr (Or.inr e2))) hc8))))
        have hms : ms (fu f k c) N (k + 1) = ms f N k + (8 - c) * 10 ^ (N - k) := by
          simp only [ms]
          rw [fu_s, ms_ext k (fun j hj => fu_n (by omega))]
        have j1 : ∀ (s' : Nat → Int32), (∀ j, j < k + 1 → s' j = upd s k (nI c) j) → ∀ j, j < k + 1 → s' j = nI (fu f k c j) ∧ fu f k c j < 8 ∧ g j (fu f k c j) = true := fun s' hs' j hj => by
          rw [hs' j hj]
          by_cases hjk : j = k
          · subst hjk
            rw [pk_us, fu_s]
            refine ⟨rfl, hc8, ?_⟩
            show (bt L c && gD iw ih fe we ho da D (dy + j) c) = true
            rw [e, e3]; rfl
          · rw [pk_un hjk, fu_n hjk]; exact i1 j (by omega)
        have j2 : ∀ j, j < k + 1 → ∀ e, e < j → fu f k c e ≠ fu f k c j := fun j hj x hx => by
          by_cases hjk : j = k
          · subst hjk
            rw [fu_s, fu_n (by omega)]
            intro q
            have : an (fun j => decide (f j = c)) j = true := (an_iff _ _).mpr ⟨x, hx, by simp [q]⟩
            rw [e2] at this
            cases this
          · rw [fu_n hjk, fu_n (by omega)]; exact i2 j (by omega) x hx
        have j3 : ∀ j, j < k + 1 → ∀ p, p < fu f k c j → ¬ Ext g N (j + 1) (fu (fu f k c) j p) := fun j hj p hp hE => by
          by_cases hjk : j = k
          · subst hjk
            rw [fu_s] at hp
            refine s2 p hp (ext_ext hE (fun i hi => ?_))
            by_cases hij : i = j
            · subst hij; rw [fu_s, fu_s]
            · rw [fu_n hij, fu_n hij, fu_n hij]
          · rw [fu_n hjk] at hp
            refine i3 j (by omega) p hp (ext_ext hE (fun i hi => ?_))
            by_cases hij : i = j
            · subst hij; rw [fu_s, fu_s]
            · rw [fu_n hij, fu_n hij, fu_n (show i ≠ k by omega)]
        refine br_le (by omega) (by omega) (fun hend => ?_) (fun hgo => ?_)
        · refine kk (ms (fu f k c) N (k + 1) + 0 + 1) _ _ ?_ (Or.inl ⟨k + 1, 0, fu f k c, rfl, by omega, by rw [if_neg (by omega)], j1 _ (fun _ _ => rfl), j2, j3, by omega, fun q => absurd q (by omega)⟩)
          rw [hms]
          have : (9 - c) * 10 ^ (N - k) = (8 - c) * 10 ^ (N - k) + 10 ^ (N - k) := by
            rw [show 9 - c = 8 - c + 1 by omega, Nat.add_mul, Nat.one_mul]
          omega
        · refine ⟨vp_in_nI (by omega) (by omega), kk (ms (fu f k c) N (k + 1) + (9 - 0) * 10 ^ (N - (k + 1)) + 1) _ _ ?_ (Or.inl ⟨k + 1, 0, fu f k c, rfl, by omega, by rw [if_pos hgo], j1 _ (fun j hj => by rw [pk_un (by omega)]), j2, j3, by omega, fun _ => ⟨by rw [pk_us]; decide, fun p hp => absurd hp (by omega)⟩⟩)⟩
          rw [hms]
          have e5 : (9 - c) * 10 ^ (N - k) = (8 - c) * 10 ^ (N - k) + 10 ^ (N - k) := by
            rw [show 9 - c = 8 - c + 1 by omega, Nat.add_mul, Nat.one_mul]
          have e6 : 10 ^ (N - k) = 10 * 10 ^ (N - (k + 1)) := by
            rw [show N - k = (N - (k + 1)) + 1 by omega, Nat.pow_succ, Nat.mul_comm]
          have : 0 < 10 ^ (N - (k + 1)) := Nat.pow_pos (by decide)
          omega
      · have hno : ¬ Ext g N k f := by
          rintro ⟨h1, ⟨h2, h3⟩, h4⟩
          have e1 := (h2 k hkN)
          by_cases hlt : h1 k < c
          · refine s2 (h1 k) hlt ⟨h1, ⟨h2, h3⟩, fun j hj => ?_⟩
            by_cases hjk : j = k
            · subst hjk; rw [fu_s]
            · rw [fu_n hjk]; exact h4 j (by omega)
          · have e2 : (bt L (h1 k) && gD iw ih fe we ho da D (dy + k) (h1 k)) = true := e1.2
            rw [hL0 (h1 k) (by omega)] at e2
            cases e2
        cases k with
        | zero => exact kk 0 _ _ (by omega) (Or.inr ⟨by decide, rfl, fun q => hno (ext_ext q (fun j hj => absurd hj (by omega)))⟩)
        | succ j =>
          have hj := i1 j (by omega)
          rw [show nI (j + 1) + (-1) = nI j from by rw [show nI (j + 1) + (-1) = nI (j + 1) - 1 from (Int32.sub_eq_add_neg _ _).symm]; exact nI_pred j]
          refine kk (ms f N j + (9 - (f j + 1)) * 10 ^ (N - j) + 1) _ _ ?_ (Or.inl ⟨j, f j + 1, f, rfl, by omega, by rw [if_pos (by omega)], fun i hi => by rw [pk_un (by omega)]; exact i1 i (by omega), fun i hi => i2 i (by omega), fun i hi => i3 i (by omega), by omega, fun _ => ⟨by rw [pk_un (by omega), hj.1, nI_succ], fun p hp => ?_⟩⟩)
          · have : ms f N (j + 1) = ms f N j + (8 - f j) * 10 ^ (N - j) := rfl
            have hz : 0 < (9 - c) * 10 ^ (N - (j + 1)) := Nat.mul_pos (by omega) hpw
            rw [show 9 - (f j + 1) = 8 - f j by omega]
            omega
          · by_cases hpf : p = f j
            · subst hpf
              refine fun q => hno (ext_ext q (fun i hi => ?_))
              by_cases hij : i = j
              · subst hij; rw [fu_s]
              · rw [fu_n hij]
            · exact i3 j (by omega) p (by omega)
    · have : k = N := by omega
      subst this
      refine pos_br (nI_le (Nat.le_refl k) (by omega)) ?_
      unfold wk_X8_findSent_9
      exact pos_br rfl (k1 f s ⟨⟨fun d hd => (i1 d hd).2, i2⟩, i3⟩ (fun d hd => (i1 d hd).1))
  · refine pos_br (by decide) ?_
    unfold wk_X8_findSent_9
    exact neg_br (fun q => nI_nm1 (show N < 2 ^ 31 by omega) q.symm) (k0 (fun h hf => hno ⟨h, hf, fun j hj => absurd hj (by omega)⟩) s)
