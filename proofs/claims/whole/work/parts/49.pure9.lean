/-! the pure side, 9: days, tries, hires; images -/
theorem l_refusal {pay n : Int32} {dy : Nat} {Ψ : Int32 → Prop} (hp : 0 ≤ pay.toInt) (hdy : dy ≤ 9060) (a : inr n 1 60 = false → Ψ (-1000000002)) (b : inr n 1 60 = true → pay = 0 → Ψ (-1000000003)) (c : inr n 1 60 = true → ¬ pay = 0 → 9000 < dy → Ψ (-1000000004)) (d : ∀ N, inr n 1 60 = true → N ≤ 60 → n = nI N → ¬ pay = 0 → dy ≤ 9000 → Ψ 0) : wp_X7_refusalOfDays pay (nI dy) n Ψ := by
  unfold wp_X7_refusalOfDays wp_X2_stands
  refine w_within (br_b a (fun e => stands_br hp (fun q => is0 (b e q)) (fun q => is1 (br_le (b := 9000) (by omega) (by omega) (fun h => ?_) (fun h => c e q h)))))
  obtain ⟨N, _, hn, en⟩ := inr_t (a := 1) (b := 60) (by omega) (by omega) e
  exact d N e hn en q h
theorem l_refused8 {pay n : Int32} {dy : Nat} {now : Nat → Int32} {Ψ : Int32 → Prop} (h11 : now 11 = nI dy) (hdy : dy ≤ 9060) (a : inr n 1 60 = false → Ψ (-1000000002)) (b : inr n 1 60 = true → pay = 0 → Ψ (-1000000003)) (c : inr n 1 60 = true → ¬ pay = 0 → 9000 < dy → Ψ (-1000000004)) (d : ∀ N, inr n 1 60 = true → N ≤ 60 → n = nI N → ¬ pay = 0 → dy ≤ 9000 → Ψ 0) : wp_X8_daysRefused pay now n Ψ := by
  unfold wp_X8_daysRefused
  rw [h11]
  refine w_in (br_b a (fun e => ⟨fun q => b e q, fun q => br_le (b := 9000) (by omega) (by omega) (fun h => ?_) (fun h => c e q h)⟩)) (by decide) (by decide)
  obtain ⟨N, _, hn, en⟩ := inr_t (a := 1) (b := 60) (by omega) (by omega) e
  exact d N e hn en q h
theorem nwM_ext {L : Int32} {mk mk' : Nat → Int32} (h : ∀ i, i < 8 → mk' i = mk i) {i : Nat} (hi : i < 8) : nwM L mk' i = nwM L mk i := by
  unfold nwM
  rw [h i hi]
  rcases pv_is L i with ⟨q1, q2⟩ | ⟨a, q1, q2, q3, q4⟩
  · rw [if_neg (fun z => z.2 q1), if_neg (fun z => z.2 q1)]
  · rw [q2, nI_clamp (by omega), h a (by omega)]
/-- a chain after n days: those shown, the spent, the marks -/
def stS (L pay : Int32) (iw ih fe we ho da : Nat → Int32) (D dy : Nat) (sh sp : Int32) (mk : Nat → Int32) : Nat → Int32 × Int32 × (Nat → Int32)
  | 0 => (sh, sp, mk)
  | n + 1 => (shN (stS L pay iw ih fe we ho da D dy sh sp mk n).1 (sD L iw ih fe we ho da D (dy + n)), spS pay (stS L pay iw ih fe we ho da D dy sh sp mk n).2.1 (pc L), nwM L (stS L pay iw ih fe we ho da D dy sh sp mk n).2.2)
theorem l_days {D dy N : Nat} {iw ih fe we ho da mk : Nat → Int32} {L sh sp pay : Int32} {K : Int32 → Int32 → Int32 → (Nat → Int32) → Int32 → Prop} (hD : D ≤ 10) (hdy : dy ≤ 9000) (hN : N ≤ 60) (hL : sml L) (k : ∀ m u, (∀ i, i < 8 → m i = (stS L pay iw ih fe we ho da D dy sh sp mk N).2.2 i) → K (stS L pay iw ih fe we ho da D dy sh sp mk N).1 (stS L pay iw ih fe we ho da D dy sh sp mk N).2.1 (nI (dy + N)) m u) : ∃ n, xit5 (wb_X7_day_25 pay (nI D) L we ho da iw ih fe (nI N) K) n sh sp (nI dy) mk 0 := by
  refine for5 (j := 0) N (fun j a b c m => a = (stS L pay iw ih fe we ho da D dy sh sp mk j).1 ∧ b = (stS L pay iw ih fe we ho da D dy sh sp mk j).2.1 ∧ c = nI (dy + j) ∧ ∀ i, i < 8 → m i = (stS L pay iw ih fe we ho da D dy sh sp mk j).2.2 i) (fun j a b c m rec hj ⟨e1, e2, e3, e4⟩ kk => ?_) (fun a b c m rec ⟨e1, e2, e3, e4⟩ => ?_) (by omega) ⟨rfl, rfl, rfl, fun _ _ => rfl⟩
  · unfold wb_X7_day_25
    subst e1 e2 e3
    refine neg_br (nI_ge hj (by omega)) (l_pass hD (by omega) hL (fun m' hm' => kk _ _ _ _ ⟨rfl, rfl, rfl, fun i hi => ?_⟩))
    rw [hm' i hi]
    exact nwM_ext e4 hi
  · unfold wb_X7_day_25
    subst e1 e2 e3
    exact pos_br (nI_le (Nat.le_refl N) (by omega)) (k m _ e4)
theorem l_days8 {D P dy N : Nat} {iw ih fe we ho da mw mh mf dw dh dd mk now mo : Nat → Int32} {L sh sp pay : Int32} {K : (Nat → Int32) → (Nat → Int32) → Int32 → Prop} (hD : D ≤ 10) (hC : cE D iw ih fe we ho da mw mh mf dw dh dd) (hN : cN P dy L sh sp mk now) (hdy : dy ≤ 9000) (hn : N ≤ 60) (k : ∀ now' mo' u, cN P (dy + N) L (stS L pay iw ih fe we ho da D dy sh sp mk N).1 (stS L pay iw ih fe we ho da D dy sh sp mk N).2.1 (stS L pay iw ih fe we ho da D dy sh sp mk N).2.2 now' → K mo' now' u) : ∃ n, xit3 (wb_X8_day_18 pay (nI D) dw dh dd mw mh mf (nI N) K) n mo now 0 := by
  refine for3 (j := 0) N (fun j a b => cN P (dy + j) L (stS L pay iw ih fe we ho da D dy sh sp mk j).1 (stS L pay iw ih fe we ho da D dy sh sp mk j).2.1 (stS L pay iw ih fe we ho da D dy sh sp mk j).2.2 b) (fun j a b rec hj h kk => ?_) (fun a b rec h => ?_) (by omega) hN
  · unfold wb_X8_day_18
    exact neg_br (nI_ge hj (by omega)) (l_pass8 hD hC h (by omega) (fun n' m' h' => kk _ _ h'))
  · unfold wb_X8_day_18
    exact pos_br (nI_le (Nat.le_refl N) (by omega)) (k _ _ _ h)
theorem p_day {D P dy U nx : Nat} {iw ih fe we ho da mw mh mf dw dh dd mk now mo rp rl rs rn rd past : Nat → Int32} {rk : Nat → Nat → Int32} {L sh sp pay n : Int32} {Φ : Int32 → Int32 → Int32 → (Nat → Nat → Int32) → (Nat → Int32) → (Nat → Int32) → (Nat → Int32) → (Nat → Int32) → (Nat → Int32) → (Nat → Int32) → Int32 → Int32 → Int32 → Int32 → Int32 → (Nat → Int32) → (Nat → Int32) → (Nat → Int32) → Prop} (hD : D ≤ 10) (hp : 0 ≤ pay.toInt) (hC : cE D iw ih fe we ho da mw mh mf dw dh dd) (hN : cN P dy L sh sp mk now) (hG : gP U nx rk rp rl rs rn rd past) (k : ∀ r U nx rk rp rl rs rn rd past mk dy sp sh now mo, gP U nx rk rp rl rs rn rd past → cN P dy L sh sp mk now → Φ r (nI nx) (nI U) rk rp rl rs rn rd mk (nI dy) sp sh r (nI U) past now mo) : wp_X7_day pay (nI D) (nI P) L sh sp (nI dy) (nI nx) (nI U) mk we ho da iw ih fe rk rp rl rs rn rd n (fun r a b c d e f g h i j s t => wp_X8_day pay (nI D) (nI U) now past dw dh dd mw mh mf mo n (fun r' a' b' c' d' => Φ r a b c d e f g h i j s t r' a' b' c' d')) := by
  have h11 := hN.2.2.2.1
  have hdy := hN.2.2.2.2.2.2.1
  unfold wp_X7_day wp_X8_day
  refine l_refusal hp hdy (fun e => neg_br (by decide) (l_refused8 h11 hdy (fun _ => neg_br (by decide) (k _ _ _ _ _ _ _ _ _ _ _ _ _ _ _ _ hG hN)) (fun e2 => by rw [e] at e2; cases e2) (fun e2 => by rw [e] at e2; cases e2) (fun _ e2 => by rw [e] at e2; cases e2))) (fun e q => neg_br (by decide) (l_refused8 h11 hdy (fun e2 => by rw [e] at e2; cases e2) (fun _ _ => neg_br (by decide) (k _ _ _ _ _ _ _ _ _ _ _ _ _ _ _ _ hG hN)) (fun _ q2 => absurd q q2) (fun _ _ _ _ q2 => absurd q q2))) (fun e q h => neg_br (by decide) (l_refused8 h11 hdy (fun e2 => by rw [e] at e2; cases e2) (fun _ q2 => absurd q2 q) (fun _ _ _ => neg_br (by decide) (k _ _ _ _ _ _ _ _ _ _ _ _ _ _ _ _ hG hN)) (fun _ _ _ _ _ h2 => absurd h (by omega)))) (fun N e0 hn en q h => ?_)
  · subst en
    refine pos_br rfl (l_push hG (fun mk' hm' => l_days hD h hn (cN_sml hN) (fun m u hm => ?_)))
    unfold wk_X7_day_25
    refine l_refused8 h11 hdy (fun e2 => by rw [e0] at e2; cases e2) (fun _ q2 => absurd q2 q) (fun _ _ h2 => absurd h (by omega)) (fun _ _ _ _ _ _ => pos_br rfl (l_remember hG.1 (fun past' e1 e2 => l_days8 hD hC hN h hn (fun now' mo' u hN' => ?_))))
    · unfold wk_X8_day_18
      rw [hN'.2.2.2.2.1]
      exact k _ _ _ _ _ _ _ _ _ _ _ _ _ _ _ _ (gP_push hG ⟨P, dy, rfl, rfl, hN⟩ hm' e1 e2) (cN_ext hN' hm)
theorem p_attempt {D P dy U nx : Nat} {iw ih fe we ho da mw mh mf dw dh dd mk now rp rl rs rn rd past : Nat → Int32} {rk : Nat → Nat → Int32} {L sh sp pay : Int32} {Φ : Int32 → Int32 → Int32 → (Nat → Nat → Int32) → (Nat → Int32) → (Nat → Int32) → (Nat → Int32) → (Nat → Int32) → (Nat → Int32) → Int32 → Int32 → Int32 → (Nat → Int32) → (Nat → Int32) → Prop} (hD : D ≤ 10) (hp : 0 ≤ pay.toInt) (hC : cE D iw ih fe we ho da mw mh mf dw dh dd) (hN : cN P dy L sh sp mk now) (hG : gP U nx rk rp rl rs rn rd past) (k : ∀ r U nx rk rp rl rs rn rd past L now, gP U nx rk rp rl rs rn rd past → cN P dy L sh sp mk now → Φ r (nI nx) (nI U) rk rp rl rs rn rd L r (nI U) past now) : wp_X7_attempt pay (nI D) (nI nx) (nI U) (nI P) L sh sp (nI dy) mk we ho da iw ih fe rk rp rl rs rn rd (fun r a b c d e f g h i => wp_X8_attempt pay (nI D) (nI U) now past dw dh dd mw mh mf (fun r' a' b' c' => Φ r a b c d e f g h i r' a' b' c')) := by
  have hdy := hN.2.2.2.2.2.2.1
  unfold wp_X7_attempt wp_X8_attempt wp_X2_stands
  refine stands_br hp (fun q => is0 (pos_br q (k _ _ _ _ _ _ _ _ _ _ _ _ hG hN))) (fun q => is1 (l_push hG (fun mk' hm' => l_lose hD hdy (neg_br q (l_remember hG.1 (fun past' e1 e2 => l_shoot8 hD hC hN (fun now' hN' => ?_)))))))
  exact k _ _ _ _ _ _ _ _ _ _ _ _ (gP_push hG ⟨P, dy, rfl, rfl, hN⟩ hm' e1 e2) hN'
/-! drift -/
def dwS (s : Int32) : Int32 := ((((s).toInt64 * 1103515245) + 12345) - (((s).toInt64 * 1103515245) + 12345) / 2147483648 * 2147483648).toInt32
def dwV (s : Int32) : Int32 := (dwS s / 65536) - (dwS s / 65536) / 100 * 100
theorem l_draw {s : Int32} {Φ : Int32 → Int32 → Prop} (k : Φ (dwV s) (dwS s)) : wp_X7_draw s 100 Φ := ⟨fun q => absurd q (by decide), fun _ => ⟨by decide, k⟩⟩
theorem l_draw8 {s : Int32} {Φ : Int32 → Int32 → Prop} (k : Φ (dwV s) (dwS s)) : wp_X8_draw s 100 Φ := ⟨by decide, k⟩
/-- who lives through a night of a drift -/
def dfL (L s : Int32) (iw ih fe we ho da : Nat → Int32) (D t : Nat) : Int32 := if dW da D t ≤ dwV s then L else lvN L (sD L iw ih fe we ho da D t)
/-- a chain after n days of a drift: the seed, those that live, those shown, the spent, the marks -/
def stR (pay : Int32) (iw ih fe we ho da : Nat → Int32) (D dy : Nat) (sd L sh sp : Int32) (mk : Nat → Int32) : Nat → Int32 × Int32 × Int32 × Int32 × (Nat → Int32)
  | 0 => (sd, L, sh, sp, mk)
  | n + 1 =>
    match stR pay iw ih fe we ho da D dy sd L sh sp mk n with
    | (s, l, h, p, m) => (dwS s, dfL l s iw ih fe we ho da D (dy + n), shN h (sD (dfL l s iw ih fe we ho da D (dy + n)) iw ih fe we ho da D (dy + n)), spS pay p (pc (dfL l s iw ih fe we ho da D (dy + n))), nwM (dfL l s iw ih fe we ho da D (dy + n)) m)
theorem lvN_0 {L r : Int32} {j : Nat} (h : bt L j = false) : bt (lvN L r) j = false := by
  unfold lvN
  split
  · exact h
  · rw [b_and, h]; rfl
theorem l_drift {D dy N : Nat} {iw ih fe we ho da mk : Nat → Int32} {L sh sp sd pay : Int32} {K : Int32 → Int32 → Int32 → Int32 → (Nat → Int32) → Int32 → Int32 → Prop} (hD : D ≤ 10) (hdy : dy ≤ 9000) (hN : N ≤ 60) (hL : sml L) (k : ∀ s l h p m m2 u, (s, l, h, p, m) = stR pay iw ih fe we ho da D dy sd L sh sp mk N → sml l → (∀ i, i < 8 → m2 i = m i) → K l h p (nI (dy + N)) m2 s u) : ∃ n, xit7 (wb_X7_drift_25 pay (nI D) da we ho iw ih fe (nI N) K) n L sh sp (nI dy) mk sd 0 := by
  refine ⟨N + 1, xit7_i (fun n a b c d m2 s x => ∃ j m, j ≤ N ∧ n = N - j ∧ x = nI j ∧ (s, a, b, c, m) = stR pay iw ih fe we ho da D dy sd L sh sp mk j ∧ sml a ∧ d = nI (dy + j) ∧ ∀ i, i < 8 → m2 i = m i) (fun n a b c d m2 s x rec ⟨j, m, hj, hn, hx, e, hs, hd, hm⟩ kk => ?_) _ N _ _ _ _ _ _ _ (by omega) ⟨0, mk, by omega, rfl, rfl, rfl, hL, rfl, fun _ _ => rfl⟩⟩
  unfold wb_X7_drift_25
  subst hx hd
  by_cases hjN : j < N
  · refine neg_br (nI_ge hjN (by omega)) (l_draw (w_dangerOn hD (by omega) ⟨fun c => ?_, fun c => ?_⟩))
    · refine l_pass hD (by omega) hs (fun m' hm' => ?_)
      rw [← nI_succ]
      have e0 : dfL a s iw ih fe we ho da D (dy + j) = a := by unfold dfL; rw [if_pos c]
      refine kk (N - (j + 1)) _ _ _ _ _ _ _ (by omega) ⟨j + 1, nwM a m, by omega, rfl, rfl, ?_, hs, rfl, fun i hi => by rw [hm' i hi]; exact nwM_ext hm hi⟩
      simp only [stR]
      rw [← e]
      simp only [e0]
    · refine l_lose hD (by omega) (l_pass hD (by omega) (fun i hi => lvN_0 (hs i hi)) (fun m' hm' => ?_))
      rw [← nI_succ]
      have e0 : dfL a s iw ih fe we ho da D (dy + j) = lvN a (sD a iw ih fe we ho da D (dy + j)) := by unfold dfL; rw [if_neg c]
      refine kk (N - (j + 1)) _ _ _ _ _ _ _ (by omega) ⟨j + 1, nwM (lvN a (sD a iw ih fe we ho da D (dy + j))) m, by omega, rfl, rfl, ?_, fun i hi => lvN_0 (hs i hi), rfl, fun i hi => by rw [hm' i hi]; exact nwM_ext hm hi⟩
      simp only [stR]
      rw [← e]
      simp only [e0]
  · have : j = N := by omega
    subst this
    exact pos_br (nI_le (Nat.le_refl j) (by omega)) (k _ _ _ _ _ _ _ e hs hm)
theorem l_drift8 {D P dy N : Nat} {iw ih fe we ho da mw mh mf dw dh dd mk now mo : Nat → Int32} {L sh sp sd pay : Int32} {K : (Nat → Int32) → (Nat → Int32) → Int32 → Int32 → Prop} (hD : D ≤ 10) (hC : cE D iw ih fe we ho da mw mh mf dw dh dd) (hN : cN P dy L sh sp mk now) (hdy : dy ≤ 9000) (hn : N ≤ 60) (k : ∀ s l h p m now' mo' u, (s, l, h, p, m) = stR pay iw ih fe we ho da D dy sd L sh sp mk N → cN P (dy + N) l h p m now' → K mo' now' s u) : ∃ n, xit4 (wb_X8_drift_18 pay (nI D) dd dw dh mw mh mf (nI N) K) n mo now sd 0 := by
  refine for4 (j := 0) N (fun j a b s => ∃ l h p m, (s, l, h, p, m) = stR pay iw ih fe we ho da D dy sd L sh sp mk j ∧ cN P (dy + j) l h p m b) (fun j a b s rec hj ⟨l, h, p, m, e, hc⟩ kk => ?_) (fun a b s rec ⟨l, h, p, m, e, hc⟩ => ?_) (by omega) ⟨L, sh, sp, mk, rfl, hN⟩
  · unfold wb_X8_drift_18
    rw [hc.2.2.2.1]
    refine neg_br (nI_ge hj (by omega)) (l_draw8 (r_dangerOn hC hD (by omega) ⟨fun c => ?_, fun c => ?_⟩))
    · have e0 : dfL l s iw ih fe we ho da D (dy + j) = l := by unfold dfL; rw [if_pos c]
      refine l_pass8 hD hC hc (by omega) (fun n' m' h' => kk _ _ _ ⟨_, _, _, _, ?_, h'⟩)
      simp only [stR]
      rw [← e]
      simp only [e0]
    · have e0 : dfL l s iw ih fe we ho da D (dy + j) = lvN l (sD l iw ih fe we ho da D (dy + j)) := by unfold dfL; rw [if_neg c]
      refine l_shoot8 hD hC hc (fun n2 hc2 => l_pass8 hD hC hc2 (by omega) (fun n' m' h' => kk _ _ _ ⟨_, _, _, _, ?_, h'⟩))
      simp only [stR]
      rw [← e]
      simp only [e0]
  · unfold wb_X8_drift_18
    exact pos_br (nI_le (Nat.le_refl N) (by omega)) (k _ _ _ _ _ _ _ _ e hc)
theorem p_drift {D P dy U nx : Nat} {iw ih fe we ho da mw mh mf dw dh dd mk now mo rp rl rs rn rd past : Nat → Int32} {rk : Nat → Nat → Int32} {L sh sp sd pay n : Int32} {Φ : Int32 → Int32 → Int32 → (Nat → Nat → Int32) → (Nat → Int32) → (Nat → Int32) → (Nat → Int32) → (Nat → Int32) → (Nat → Int32) → Int32 → (Nat → Int32) → Int32 → Int32 → Int32 → Int32 → Int32 → Int32 → (Nat → Int32) → Int32 → (Nat → Int32) → (Nat → Int32) → Prop} (hD : D ≤ 10) (hp : 0 ≤ pay.toInt) (hC : cE D iw ih fe we ho da mw mh mf dw dh dd) (hN : cN P dy L sh sp mk now) (hG : gP U nx rk rp rl rs rn rd past) (k : ∀ r U nx rk rp rl rs rn rd past s mk dy sp sh L now mo, gP U nx rk rp rl rs rn rd past → cN P dy L sh sp mk now → Φ r (nI nx) (nI U) rk rp rl rs rn rd s mk (nI dy) sp sh L r (nI U) past s now mo) : wp_X7_drift sd pay (nI D) (nI P) L sh sp (nI dy) (nI nx) (nI U) mk da we ho iw ih fe rk rp rl rs rn rd n (fun r a b c d e f g h i j s t u v => wp_X8_drift pay (nI D) sd (nI U) now past dd dw dh mw mh mf mo n (fun r' a' b' c' d' e' => Φ r a b c d e f g h i j s t u v r' a' b' c' d' e')) := by
  have h11 := hN.2.2.2.1
  have hdy := hN.2.2.2.2.2.2.1
  unfold wp_X7_drift wp_X8_drift
  refine l_refusal hp hdy (fun e => neg_br (by decide) (l_refused8 h11 hdy (fun _ => neg_br (by decide) (k _ _ _ _ _ _ _ _ _ _ _ _ _ _ _ _ _ _ hG hN)) (fun e2 => by rw [e] at e2; cases e2) (fun e2 => by rw [e] at e2; cases e2) (fun _ e2 => by rw [e] at e2; cases e2))) (fun e q => neg_br (by decide) (l_refused8 h11 hdy (fun e2 => by rw [e] at e2; cases e2) (fun _ _ => neg_br (by decide) (k _ _ _ _ _ _ _ _ _ _ _ _ _ _ _ _ _ _ hG hN)) (fun _ q2 => absurd q q2) (fun _ _ _ _ q2 => absurd q q2))) (fun e q h => neg_br (by decide) (l_refused8 h11 hdy (fun e2 => by rw [e] at e2; cases e2) (fun _ q2 => absurd q2 q) (fun _ _ _ => neg_br (by decide) (k _ _ _ _ _ _ _ _ _ _ _ _ _ _ _ _ _ _ hG hN)) (fun _ _ _ _ _ h2 => absurd h (by omega)))) (fun N e0 hn en q h => ?_)
  · subst en
    refine pos_br rfl (l_push hG (fun mk' hm' => l_drift hD h hn (cN_sml hN) (fun s l h1 p m m2 u e hs hm => ?_)))
    unfold wk_X7_drift_25
    refine w_bitCount hs (l_refused8 h11 hdy (fun e2 => by rw [e0] at e2; cases e2) (fun _ q2 => absurd q2 q) (fun _ _ h2 => absurd h (by omega)) (fun _ _ _ _ _ _ => pos_br rfl (l_remember hG.1 (fun past' e1 e2 => l_drift8 (pay := pay) hD hC hN h hn (fun s2 l2 h2 p2 m3 now' mo' u e3 hN' => ?_)))))
    · unfold wk_X8_drift_18
      have e4 := e3.trans e.symm
      simp only [Prod.mk.injEq] at e4
      obtain ⟨rfl, rfl, rfl, rfl, rfl⟩ := e4
      rw [hN'.2.1]
      exact w_bits (k _ _ _ _ _ _ _ _ _ _ _ _ _ _ _ _ _ _ (gP_push hG ⟨P, dy, rfl, rfl, hN⟩ hm' e1 e2) (cN_ext hN' hm))
/-! hires -/
theorem l_takeOn {P dy : Nat} {L sh sp : Int32} {mk now : Nat → Int32} {Φ : Int32 → Int32 → Int32 → (Nat → Int32) → Prop} (hN : cN P dy L sh sp mk now) (hP8 : P < 8) (k : ∀ m, (∀ i, i < P → m i = mk i) → (∀ a, pv L P = nI a → a < P → m P = mk a) → Φ (nI P) (L ||| ((1 : Int32) <<< (nI P &&& 31))) (nI (P + 1)) m) : wp_X1_takeOn (nI P) L mk Φ := by
  unfold wp_X1_takeOn
  refine for2 (j := 0) P (fun j m => (∀ i, i < P → m i = mk i) ∧ ∀ a, pv L j = nI a → a < j → m P = mk a) (fun j m rec hj ⟨h1, h2⟩ kk => ?_) (fun m rec ⟨h1, h2⟩ => ?_) (by omega) ⟨fun _ _ => rfl, fun a _ h => absurd h (by omega)⟩
  · unfold wb_X1_takeOn_7
    refine neg_br (nI_ge hj (by omega)) (w_lives (by omega) (br_b (fun e => kk _ ⟨h1, fun a ha hlt => ?_⟩) (fun e => w_at (by omega) (by omega) (w_put hP8 (by omega) (kk _ ⟨fun i hi => ?_, fun a ha hlt => ?_⟩)))))
    · simp only [pv] at ha
      rw [if_neg (by simp [e])] at ha
      refine h2 a ha ?_
      rcases pv_is L j with ⟨q1, _⟩ | ⟨b, q1, q2, _, _⟩
      · exact absurd (ha.symm.trans q1) (nI_nm1 (by omega))
      · have := (nI_eq (by omega) (by omega)).mp (ha.symm.trans q2)
        omega
    · rw [pk_un (by omega)]; exact h1 i hi
    · simp only [pv] at ha
      rw [if_pos e] at ha
      have := (nI_eq (by omega) (by omega)).mp ha
      subst this
      rw [pk_us]
      exact h1 j hj
  · unfold wb_X1_takeOn_7
    refine pos_br (nI_le (Nat.le_refl P) (by omega)) ?_
    unfold wk_X1_takeOn_7
    rw [← nI_succ]
    exact k m h1 h2
theorem p_hire {P dy U nx : Nat} {mk now rp rl rs rn rd past : Nat → Int32} {rk : Nat → Nat → Int32} {L sh sp : Int32} {Φ : Int32 → Int32 → Int32 → (Nat → Nat → Int32) → (Nat → Int32) → (Nat → Int32) → (Nat → Int32) → (Nat → Int32) → (Nat → Int32) → Int32 → Int32 → (Nat → Int32) → Int32 → Int32 → (Nat → Int32) → (Nat → Int32) → Prop} (hN : cN P dy L sh sp mk now) (hG : gP U nx rk rp rl rs rn rd past) (k : ∀ r U nx rk rp rl rs rn rd past L P mk now, gP U nx rk rp rl rs rn rd past → cN P dy L sh sp mk now → Φ r (nI nx) (nI U) rk rp rl rs rn rd L (nI P) mk r (nI U) past now) : wp_X7_hire (nI P) L sh sp (nI dy) (nI nx) (nI U) mk rk rp rl rs rn rd (fun r a b c d e f g h i j s => wp_X8_hire (nI U) now past (fun r' a' b' c' => Φ r a b c d e f g h i j s r' a' b' c')) := by
  have hN2 := hN
  have hL := cN_sml hN
  obtain ⟨h8, h9, h10, h11, h12, hP, hdy, hL0, hmk⟩ := hN2
  unfold wp_X7_hire wp_X8_hire
  rw [h9, h8]
  refine ⟨fun c => pos_br c (k _ _ _ _ _ _ _ _ _ _ _ _ _ _ hG hN), fun c => ?_⟩
  refine br_lt (b := 8) (by omega) (by omega) (fun hlt => ?_) (fun hge => ?_)
  · refine l_push hG (fun mk' hm' => l_takeOn hN hlt (fun m hm1 hm2 => neg_br c (neg_br (nIne (b := 8) (by omega) (by omega) (by omega)) (l_remember hG.1 (fun past' e1 e2 => ?_)))))
    have hpv : ∃ a, a < P ∧ pv L P = nI a ∧ bt L a = true := by
      rcases pv_is L P with ⟨q1, q2⟩ | ⟨a, q1, q2, q3, _⟩
      · refine absurd (sml_ext hL sml_0 (fun i hi => ?_)) c
        rw [b_0]
        by_cases h : i < P
        · exact q2 i h
        · exact hL0 i (by omega)
      · exact ⟨a, q1, q2, q3⟩
    obtain ⟨a, ha, epv, _⟩ := hpv
    refine for2 (j := 0) P (fun j x => (∀ b, pv L j = nI b → b < j → x = nI b)) (fun j x rec hj hI kk => ?_) (fun x rec hI => ?_) (by omega) (fun b _ h => absurd h (by omega))
    · unfold wb_X8_hire_36
      rw [h8]
      refine neg_br (nI_ge hj (by omega)) (w_lives8 (by omega) h9 (br_b (fun e => kk _ (fun b hb hlt => ?_)) (fun e => kk _ (fun b hb hlt => ?_))))
      · simp only [pv] at hb
        rw [if_neg (by simp [e])] at hb
        refine hI b hb ?_
        rcases pv_is L j with ⟨q1, _⟩ | ⟨b2, q1, q2, _, _⟩
        · exact absurd (hb.symm.trans q1) (nI_nm1 (by omega))
        · have := (nI_eq (by omega) (by omega)).mp (hb.symm.trans q2)
          omega
      · simp only [pv] at hb
        rw [if_pos e] at hb
        exact hb
    · unfold wb_X8_hire_36
      rw [h8]
      have hx := hI a epv ha
      subst hx
      refine pos_br (nI_le (Nat.le_refl P) (by omega)) ?_
      unfold wk_X8_hire_36
      rw [h8, nI_clamp (by omega), nI_clamp (by omega)]
      refine ⟨vp_in_nI (by omega) (by omega), vp_in_nI (by omega) (by omega), k _ _ _ _ _ _ _ _ _ _ _ (P + 1) _ _ (gP_push hG ⟨P, dy, rfl, rfl, hN⟩ hm' e1 e2) ⟨?_, ?_, ?_, ?_, ?_, by omega, hdy, fun j hj => ?_, fun p hp => ⟨?_, ?_⟩⟩⟩
      · rw [pk_us, pk_un (by decide), pk_un (by omega), h8, nI_succ]
      · rw [pk_un (by decide), pk_us, pk_un (by omega), h9]
      · rw [pk_un (by decide), pk_un (by decide), pk_un (by omega)]; exact h10
      · rw [pk_un (by decide), pk_un (by decide), pk_un (by omega)]; exact h11
      · rw [pk_un (by decide), pk_un (by decide), pk_un (by omega)]; exact h12
      · rw [b_or, hL0 j (by omega)]
        by_cases h32 : j < 32
        · rw [b_one (by omega) h32, decide_eq_false (by omega)]; rfl
        · rw [b_big (by omega)]; rfl
      · rw [pk_un (by omega), pk_un (by omega)]
        by_cases hpP : p = P
        · subst hpP; rw [pk_us, hm2 a epv ha, (hmk a ha).1]
        · rw [pk_un hpP, hm1 p (by omega), (hmk p (by omega)).1]
      · by_cases hpP : p = P
        · subst hpP; rw [hm2 a epv ha]; exact (hmk a ha).2
        · rw [hm1 p (by omega)]; exact (hmk p (by omega)).2
  · have : P = 8 := by omega
    subst this
    exact neg_br c (pos_br rfl (k _ _ _ _ _ _ _ _ _ _ _ _ _ _ hG hN))
/-! images -/
def gI (kept sd pe L sh sp dd : Int32) (mk : Nat → Int32) (kr sr : Int32) (row : Nat → Int32) : Prop := kept = kr ∧ (¬ kr = 0 → sd = sr ∧ gN pe L sh sp dd mk row)
theorem l_keep8 {sd : Int32} {un : Int32} {im ik now : Nat → Int32} {i : Nat} {Φ : Int32 → (Nat → Int32) → (Nat → Int32) → Int32 → Prop} (hi : i < 2) (k : ∀ im', (∀ j, j < 13 → im' (14 * i + j) = now j) → im' (14 * i + 13) = sd → (∀ j, j < 14 * i ∨ 14 * i + 13 < j → im' j = im j) → Φ 1 im' (upd ik i 1) 0) : wp_X8_keep sd un im ik now (nI i) Φ := by
  unfold wp_X8_keep
  have e : inr (nI i) 0 1 = true := by
    unfold inr
    rw [nI_toInt (by omega), Int32.toInt_zero, show (1 : Int32).toInt = 1 from by decide]
    exact decide_eq_true (by omega)
  refine w_in (br1 e ?_) (by decide) (by decide)
  refine for2 (j := 0) 13 (fun j m => (∀ x, x < j → m (14 * i + x) = now x) ∧ ∀ x, x < 14 * i ∨ 14 * i + 13 < x → m x = im x) (fun j m rec hj ⟨a1, a2⟩ kk => ?_) (fun m rec ⟨a1, a2⟩ => ?_) (by omega) ⟨fun x h => absurd h (by omega), fun _ _ => rfl⟩
  · unfold wb_X8_keep_15
    rw [show (14 : Int32) * nI i = nI (14 * i) from pk_mul 14 i, nI_add, nI_clamp (by omega), nI_clamp (by omega)]
    refine neg_br (nge (N := 13) rfl (by omega) hj) ⟨vp_in_nI hj (by omega), vp_in_nI (by omega) (by omega), kk _ ⟨fun x hx => ?_, fun x hx => ?_⟩⟩
    · by_cases h : x = j
      · subst h; rw [pk_us]
      · rw [pk_un (by omega)]; exact a1 x (by omega)
    · rw [pk_un (by omega)]; exact a2 x hx
  · unfold wb_X8_keep_15
    refine pos_br (nle (N := 13) rfl (by omega) (Nat.le_refl 13)) ?_
    unfold wk_X8_keep_15
    rw [show (14 : Int32) * nI i = nI (14 * i) from pk_mul 14 i, show nI (14 * i) + 13 = nI (14 * i + 13) from nI_add _ 13, nI_clamp (by omega), nI_clamp (by omega)]
    refine ⟨vp_in_nI (by omega) (by omega), vp_in_nI (by omega) (by omega), k _ (fun j hj => ?_) pk_us (fun j hj => ?_)⟩
    · rw [pk_un (by omega)]; exact a1 j hj
    · rw [pk_un (by omega)]; exact a2 j hj
theorem l_goBack8 {sd un : Int32} {im ik now : Nat → Int32} {i : Nat} {Φ : Int32 → Int32 → Int32 → (Nat → Int32) → Prop} (hi : i < 2) (a : ik i = 0 → Φ (-1000000003) sd un now) (k : ¬ ik i = 0 → ∀ now', (∀ j, j < 13 → now' j = im (14 * i + j)) → Φ 1 (im (14 * i + 13)) 0 now') : wp_X8_goBack sd un ik im now (nI i) Φ := by
  unfold wp_X8_goBack
  have e : inr (nI i) 0 1 = true := by
    unfold inr
    rw [nI_toInt (by omega), Int32.toInt_zero, show (1 : Int32).toInt = 1 from by decide]
    exact decide_eq_true (by omega)
  refine w_in (br1 e ⟨vp_in_nI hi (by omega), ?_⟩) (by decide) (by decide)
  rw [nI_clamp (by omega)]
  refine ⟨a, fun c => ?_⟩
  refine for2 (j := 0) 13 (fun j m => ∀ x, x < j → m x = im (14 * i + x)) (fun j m rec hj a1 kk => ?_) (fun m rec a1 => ?_) (by omega) (fun x h => absurd h (by omega))
  · unfold wb_X8_goBack_27
    rw [show (14 : Int32) * nI i = nI (14 * i) from pk_mul 14 i, nI_add, nI_clamp (by omega), nI_clamp (by omega)]
    refine neg_br (nge (N := 13) rfl (by omega) hj) ⟨vp_in_nI (by omega) (by omega), vp_in_nI hj (by omega), kk _ (fun x hx => ?_)⟩
    by_cases h : x = j
    · subst h; rw [pk_us]
    · rw [pk_un h]; exact a1 x (by omega)
  · unfold wb_X8_goBack_27
    refine pos_br (nle (N := 13) rfl (by omega) (Nat.le_refl 13)) ?_
    unfold wk_X8_goBack_27
    rw [show (14 : Int32) * nI i = nI (14 * i) from pk_mul 14 i, show nI (14 * i) + 13 = nI (14 * i + 13) from nI_add _ 13, nI_clamp (by omega)]
    exact ⟨vp_in_nI (by omega) (by omega), k c m a1⟩
theorem img3 (p : Int32) : p = nI 0 ∨ p = nI 1 ∨ (¬ p = 0 ∧ ¬ p = 1 ∧ inr p 0 1 = false) := by
  by_cases h0 : p = 0
  · exact Or.inl h0
  · by_cases h1 : p = 1
    · exact Or.inr (Or.inl h1)
    · refine Or.inr (Or.inr ⟨h0, h1, ?_⟩)
      cases e : inr p 0 1
      · rfl
      · obtain ⟨k, _, hk, ek⟩ := inr_t (a := 0) (b := 1) (by omega) (by omega) e
        rcases (show k = 0 ∨ k = 1 by omega) with h | h
        · subst h; exact absurd ek h0
        · subst h; exact absurd ek h1
