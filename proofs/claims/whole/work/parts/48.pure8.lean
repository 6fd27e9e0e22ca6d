/-! the pure side, 8: what can be undone, what is kept; days, tries, hires -/
theorem vu_s {α : Type} {f : Nat → α} {k : Nat} {v : α} : va_up f k v k = v := if_pos rfl
theorem vu_n {α : Type} {f : Nat → α} {k j : Nat} {v : α} (h : j ≠ k) : va_up f k v j = f j := if_neg h
/-- a chain by its numbers -/
def gN (pe L sh sp dd : Int32) (mk now : Nat → Int32) : Prop := ∃ P dy, pe = nI P ∧ dd = nI dy ∧ cN P dy L sh sp mk now
theorem cN_row {P dy : Nat} {L sh sp : Int32} {mk mk' now now' : Nat → Int32} (hN : cN P dy L sh sp mk now) (h : ∀ i, i < 8 → mk' i = mk i) (h2 : ∀ i, i < 13 → now' i = now i) : cN P dy L sh sp mk' now' := by
  obtain ⟨h8, h9, h10, h11, h12, hP, hdy, hL0, hmk⟩ := hN
  exact ⟨by rw [h2 8 (by omega)]; exact h8, by rw [h2 9 (by omega)]; exact h9, by rw [h2 10 (by omega)]; exact h10, by rw [h2 11 (by omega)]; exact h11, by rw [h2 12 (by omega)]; exact h12, hP, hdy, hL0, fun p hp => by rw [h p (by omega), h2 p (by omega)]; exact hmk p hp⟩
theorem gN_row {pe L sh sp dd : Int32} {mk mk' now now' : Nat → Int32} (hN : gN pe L sh sp dd mk now) (h : ∀ i, i < 8 → mk' i = mk i) (h2 : ∀ i, i < 13 → now' i = now i) : gN pe L sh sp dd mk' now' := by
  obtain ⟨P, dy, e1, e2, h3⟩ := hN
  exact ⟨P, dy, e1, e2, cN_row h3 h h2⟩
/-- the ring and the row of what can be undone -/
def gP (U nx : Nat) (rk : Nat → Nat → Int32) (rp rl rs rn rd past : Nat → Int32) : Prop := U ≤ 20 ∧ nx < 20 ∧ ∀ j, j < U → gN (rp ((nx + 19 - j) % 20)) (rl ((nx + 19 - j) % 20)) (rs ((nx + 19 - j) % 20)) (rn ((nx + 19 - j) % 20)) (rd ((nx + 19 - j) % 20)) (rk ((nx + 19 - j) % 20)) (fun k => past (13 * (U - 1 - j) + k))
/-- one more in the ring -/
def upU (U : Nat) : Nat := if U < 20 then U + 1 else 20
def upX (nx : Nat) : Nat := if nx + 1 < 20 then nx + 1 else 0
theorem gP_push {U nx : Nat} {rk : Nat → Nat → Int32} {rp rl rs rn rd past past' : Nat → Int32} {pe L sh sp dd : Int32} {mk mk' now : Nat → Int32} (hG : gP U nx rk rp rl rs rn rd past) (hN : gN pe L sh sp dd mk now) (hm : ∀ i, i < 8 → mk' i = mk i) (h1 : ∀ i, i < 13 → past' (13 * (upU U - 1) + i) = now i) (h2 : ∀ i, i < 13 * (upU U - 1) → past' i = past (i + (if U = 20 then 13 else 0))) : gP (upU U) (upX nx) (va_up rk nx mk') (va_up rp nx pe) (va_up rl nx L) (va_up rs nx sh) (va_up rn nx sp) (va_up rd nx dd) past' := by
  obtain ⟨g1, g2, g3⟩ := hG
  refine ⟨by unfold upU; split <;> omega, by unfold upX; split <;> omega, fun j hj => ?_⟩
  by_cases h0 : j = 0
  · subst h0
    have e : (upX nx + 19 - 0) % 20 = nx := by unfold upX; split <;> omega
    rw [e, vu_s, vu_s, vu_s, vu_s, vu_s, vu_s]
    refine gN_row hN hm (fun i hi => ?_)
    rw [Nat.sub_zero]
    exact h1 i hi
  · have e : (upX nx + 19 - j) % 20 = (nx + 19 - (j - 1)) % 20 := by unfold upX upU at *; split <;> (split at hj <;> omega)
    have hne : (nx + 19 - (j - 1)) % 20 ≠ nx := by unfold upU at hj; split at hj <;> omega
    have hj1 : j - 1 < U := by unfold upU at hj; split at hj <;> omega
    rw [e, vu_n hne, vu_n hne, vu_n hne, vu_n hne, vu_n hne, vu_n hne]
    refine gN_row (g3 (j - 1) hj1) (fun _ _ => rfl) (fun i hi => ?_)
    have hU : upU U = if U < 20 then U + 1 else 20 := rfl
    show past' (13 * (upU U - 1 - j) + i) = past (13 * (U - 1 - (j - 1)) + i)
    rw [h2 _ (by rw [hU]; split <;> (rw [hU] at hj; split at hj <;> omega))]
    congr 1
    rw [hU]
    rw [hU] at hj
    by_cases h20 : U = 20
    · subst h20
      simp at hj ⊢
      omega
    · rw [if_neg h20, if_pos (by omega)]
      rw [if_pos (by omega)] at hj
      omega
theorem l_push {U nx : Nat} {rk : Nat → Nat → Int32} {rp rl rs rn rd past : Nat → Int32} {pe L sh sp dd : Int32} {mk : Nat → Int32} {Φ : Int32 → Int32 → (Nat → Nat → Int32) → (Nat → Int32) → (Nat → Int32) → (Nat → Int32) → (Nat → Int32) → (Nat → Int32) → Prop} (hG : gP U nx rk rp rl rs rn rd past) (k : ∀ mk', (∀ i, i < 8 → mk' i = mk i) → Φ (nI (upX nx)) (nI (upU U)) (va_up rk nx mk') (va_up rp nx pe) (va_up rl nx L) (va_up rs nx sh) (va_up rn nx sp) (va_up rd nx dd)) : wp_X4_push (nI nx) (nI U) rk rp rl rs rn rd pe L sh sp dd mk Φ := by
  obtain ⟨g1, g2, _⟩ := hG
  unfold wp_X4_push wp_X4_ringAt
  refine neg_br (nI_pos (by omega)) (neg_br (nge (N := 20) rfl (by omega) (by omega)) ⟨vp_in_nI g2 (by omega), ?_⟩)
  rw [nI_clamp (by omega)]
  refine ⟨fun h => absurd h (by omega), fun _ => l_become (fun m hm => ?_)⟩
  have k := k m hm
  have eU : (if (nI U + 1) < 20 then (nI U + 1) else 20) = nI (upU U) := by
    rw [← nI_succ]
    unfold upU
    by_cases h : U + 1 < 20
    · rw [if_pos (show nI (U + 1) < 20 from (nI_ltI (b := 20) (by omega) (by omega)).mpr h), if_pos (by omega)]
    · rw [if_neg (show ¬ nI (U + 1) < 20 from fun q => h ((nI_ltI (b := 20) (by omega) (by omega)).mp q))]
      split
      · rw [show U + 1 = 20 by omega]; rfl
      · rfl
  rw [eU, ← nI_succ]
  unfold upX at k
  refine br_le (a := 20) (by omega) (by omega) (fun h => ?_) (fun h => ?_)
  · rw [if_neg (by omega)] at k; exact k
  · rw [if_pos (by omega)] at k; exact k
theorem l_remember {U : Nat} {now past : Nat → Int32} {Φ : Int32 → (Nat → Int32) → Prop} (hU : U ≤ 20) (k : ∀ past', (∀ i, i < 13 → past' (13 * (upU U - 1) + i) = now i) → (∀ i, i < 13 * (upU U - 1) → past' i = past (i + (if U = 20 then 13 else 0))) → Φ (nI (upU U)) past') : wp_X8_remember (nI U) now past Φ := by
  have app : ∀ (V : Nat) (p0 : Nat → Int32), V < 20 → upU U = V + 1 → (∀ i, i < 13 * V → p0 i = past (i + (if U = 20 then 13 else 0))) → wj_X8_remember_50 now Φ p0 (nI V) := by
    intro V p0 hV hVU hp0
    unfold wj_X8_remember_50
    refine for2 (j := 0) 13 (fun j p => (∀ i, i < j → p (13 * V + i) = now i) ∧ ∀ i, i < 13 * V → p i = p0 i) (fun j p rec hj ⟨a1, a2⟩ kk => ?_) (fun p rec ⟨a1, a2⟩ => ?_) (by omega) ⟨fun i h => absurd h (by omega), fun _ _ => rfl⟩
    · unfold wb_X8_remember_52
      rw [show (13 : Int32) * nI V = nI (13 * V) from pk_mul 13 V, nI_add, nI_clamp (by omega), nI_clamp (by omega)]
      refine neg_br (nge (N := 13) rfl (by omega) hj) ⟨vp_in_nI hj (by omega), vp_in_nI (by omega) (by omega), kk _ ⟨fun i hi => ?_, fun i hi => ?_⟩⟩
      · by_cases h : i = j
        · subst h; rw [pk_us]
        · rw [pk_un (by omega)]; exact a1 i (by omega)
      · rw [pk_un (by omega)]; exact a2 i hi
    · unfold wb_X8_remember_52
      refine pos_br (nle (N := 13) rfl (by omega) (Nat.le_refl 13)) ?_
      unfold wk_X8_remember_52
      rw [← nI_succ, ← hVU]
      refine k p ?_ ?_
      · rw [hVU]; exact a1
      · rw [hVU]; intro i hi; rw [a2 i hi]; exact hp0 i hi
  unfold wp_X8_remember
  by_cases h : U = 20
  · subst h
    refine pos_br rfl ?_
    rw [show (13 : Int32) = nI 13 from rfl]
    refine for2 (j := 13) 260 (fun j p => 13 ≤ j ∧ (∀ i, i + 13 < j → p i = past (i + 13)) ∧ ∀ i, j ≤ i + 13 → p i = past i) (fun j p rec hj ⟨h13, a1, a2⟩ kk => ?_) (fun p rec ⟨_, a1, a2⟩ => ?_) (by omega) ⟨Nat.le_refl 13, fun i h => absurd h (by omega), fun _ _ => rfl⟩
    · unfold wb_X8_remember_12
      rw [show (13 : Int32) = nI 13 from rfl, pk_sub h13, nI_clamp (by omega), nI_clamp (by omega)]
      refine neg_br (nge (N := 260) rfl (by omega) hj) ⟨vp_in_nI hj (by omega), vp_in_nI (by omega) (by omega), kk _ ⟨by omega, fun i hi => ?_, fun i hi => ?_⟩⟩
      · by_cases h : i = j - 13
        · subst h; rw [pk_us, a2 j (by omega), Nat.sub_add_cancel h13]
        · rw [pk_un h]; exact a1 i (by omega)
      · rw [pk_un (by omega)]; exact a2 i (by omega)
    · unfold wb_X8_remember_12
      refine pos_br (nle (N := 260) rfl (by omega) (Nat.le_refl 260)) ?_
      unfold wk_X8_remember_12
      refine app 19 p (by omega) rfl (fun i hi => ?_)
      rw [if_pos rfl]
      exact a1 i (by omega)
  · refine neg_br (nIne (a := U) (b := 20) h (by omega) (by omega)) (app U past (by omega) (by unfold upU; rw [if_pos (by omega)]) (fun i hi => ?_))
    rw [if_neg h]
    rfl
/-- undone -/
theorem p_undo {U nx P dy : Nat} {rk : Nat → Nat → Int32} {rp rl rs rn rd past mk now : Nat → Int32} {L sh sp : Int32} {Φ : Int32 → Int32 → Int32 → (Nat → Int32) → Int32 → Int32 → Int32 → Int32 → Int32 → Int32 → Int32 → (Nat → Int32) → Prop} (hG : gP U nx rk rp rl rs rn rd past) (hN : cN P dy L sh sp mk now) (k : ∀ r U nx mk pe L sh sp dd now, gP U nx rk rp rl rs rn rd past → gN pe L sh sp dd mk now → Φ r (nI nx) (nI U) mk pe L sh sp dd r (nI U) now) : wp_X7_undo (nI nx) (nI U) (nI P) L sh sp (nI dy) mk rk rp rl rs rn rd (fun r a b c d e f g h => wp_X8_undo (nI U) past now (fun r' a' b' => Φ r a b c d e f g h r' a' b')) := by
  have hG0 := hG
  obtain ⟨g1, g2, g3⟩ := hG
  unfold wp_X7_undo wp_X8_undo
  by_cases h0 : U = 0
  · subst h0
    exact pos_br rfl (pos_br rfl (k _ 0 nx mk _ L sh sp _ now hG0 ⟨P, dy, rfl, rfl, hN⟩))
  · have u0 : ¬ nI U = 0 := nI_ne0 (by omega) (by omega)
    refine neg_br u0 ?_
    unfold wp_X4_popInto
    have main : ∀ z, z = (nx + 19) % 20 → wj_X4_popInto_18 (nI U) (nI nx) rk rp rl rs rn rd (nI P) L sh sp (nI dy) mk (fun a b c d e f g h => (fun r a b c d e f g h => (nI U = 0 → Φ r a b c d e f g h (-1000000003) (nI U) now) ∧ (¬ nI U = 0 → ∃ n, xit2 (wb_X8_undo_22 (nI U) past (wk_X8_undo_22 (nI U) (fun r' a' b' => Φ r a b c d e f g h r' a' b'))) n now 0)) b a b c d e f g h) (nI z) := by
      intro z hz
      unfold wj_X4_popInto_18 wp_X4_ringAt
      have hz20 : z < 20 := by omega
      refine neg_br (nI_pos (by omega)) (neg_br (nge (N := 20) rfl (by omega) (by omega)) ⟨vp_in_nI hz20 (by omega), ?_⟩)
      rw [nI_clamp (by omega)]
      refine ⟨fun h => absurd h (by omega), fun _ => neg_br u0 (l_become (fun m hm => neg_br u0 ?_))⟩
      have e1 : nI U - 1 = nI (U - 1) := by
        have := nI_pred (U - 1)
        rw [show U - 1 + 1 = U by omega] at this
        exact this
      refine for2 (j := 0) 13 (fun j n => ∀ i, i < j → n i = past (13 * (U - 1) + i)) (fun j n rec hj hI kk => ?_) (fun n rec hI => ?_) (by omega) (fun i h => absurd h (by omega))
      · unfold wb_X8_undo_22
        rw [e1, show (13 : Int32) * nI (U - 1) = nI (13 * (U - 1)) from pk_mul 13 (U - 1), nI_add, nI_clamp (by omega), nI_clamp (by omega)]
        refine neg_br (nge (N := 13) rfl (by omega) hj) ⟨vp_in_nI (by omega) (by omega), vp_in_nI hj (by omega), kk _ (fun i hi => ?_)⟩
        by_cases h : i = j
        · subst h; rw [pk_us]
        · rw [pk_un h]; exact hI i (by omega)
      · unfold wb_X8_undo_22
        refine pos_br (nle (N := 13) rfl (by omega) (Nat.le_refl 13)) ?_
        unfold wk_X8_undo_22
        rw [e1]
        refine k _ (U - 1) z m _ _ _ _ _ n ⟨by omega, hz20, fun j hj => ?_⟩ ?_
        · have e : (z + 19 - j) % 20 = (nx + 19 - (j + 1)) % 20 := by omega
          rw [e]
          have := g3 (j + 1) (by omega)
          rw [show U - 1 - (j + 1) = U - 1 - 1 - j by omega] at this
          exact this
        · have := g3 0 (by omega)
          rw [show (nx + 19 - 0) % 20 = z by omega] at this
          exact gN_row this hm (fun i hi => hI i hi)
    by_cases hx : nx = 0
    · subst hx
      exact pos_br (by decide) (main 19 rfl)
    · refine neg_br (nI_nle (by omega) (by omega)) ?_
      have e2 : nI nx - 1 = nI (nx - 1) := by
        have := nI_pred (nx - 1)
        rw [show nx - 1 + 1 = nx by omega] at this
        exact this
      rw [e2]
      exact main (nx - 1) (by omega)
