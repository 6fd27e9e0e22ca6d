/-! the pure side, 12: send, the class's way -/
theorem least_p {Q : Nat → Prop} : ∀ p, Q p → ∃ m, m ≤ p ∧ Q m ∧ ∀ i, i < m → ¬ Q i := by
  intro p
  induction p using Nat.strongRecOn with
  | ind p ih =>
    intro hq
    by_cases h : ∃ i, i < p ∧ Q i
    · obtain ⟨i, hi, hqi⟩ := h
      obtain ⟨m, h1, h2, h3⟩ := ih i hi hqi
      exact ⟨m, by omega, h2, h3⟩
    · exact ⟨p, Nat.le_refl p, hq, fun i hi hqi => h ⟨i, hi, hqi⟩⟩
theorem lex_of {g : Nat → Nat → Bool} {n : Nat} {h0 : Nat → Nat} (hf : Full g n h0) : ∃ h, Lex g n h := by
  have key : ∀ d, d ≤ n → ∃ f, Ext g n d f ∧ ∀ j, j < d → ∀ p, p < f j → ¬ Ext g n (j + 1) (fu f j p) := by
    intro d
    induction d with
    | zero => exact fun _ => ⟨fun _ => 0, ⟨h0, hf, fun j hj => absurd hj (by omega)⟩, fun j hj => absurd hj (by omega)⟩
    | succ d ih =>
      intro hd
      obtain ⟨f, ⟨h1, h2, h3⟩, h4⟩ := ih (by omega)
      have e0 : Ext g n (d + 1) (fu f d (h1 d)) := ⟨h1, h2, fun j hj => by
        by_cases hjd : j = d
        · subst hjd; rw [fu_s]
        · rw [fu_n hjd]; exact h3 j (by omega)⟩
      obtain ⟨m, _, m2, m3⟩ := least_p (Q := fun p => Ext g n (d + 1) (fu f d p)) _ e0
      refine ⟨fu f d m, m2, fun j hj p hp hE => ?_⟩
      by_cases hjd : j = d
      · subst hjd
        rw [fu_s] at hp
        refine m3 p hp (ext_ext hE (fun i hi => ?_))
        by_cases hij : i = j
        · subst hij; rw [fu_s, fu_s]
        · rw [fu_n hij, fu_n hij, fu_n hij]
      · rw [fu_n hjd] at hp
        refine h4 j (by omega) p hp (ext_ext hE (fun i hi => ?_))
        by_cases hij : i = j
        · subst hij; rw [fu_s, fu_s]
        · rw [fu_n hij, fu_n hij, fu_n (show i ≠ d by omega)]
  obtain ⟨f, ⟨h1, ⟨h2, h3⟩, h4⟩, h5⟩ := key n (Nat.le_refl n)
  refine ⟨f, ⟨fun d hd => ?_, fun d hd e he => ?_⟩, h5⟩
  · rw [← h4 d hd]; exact h2 d hd
  · rw [← h4 d hd, ← h4 e (by omega)]; exact h3 d hd e he
/-- those of the days of a set s -/
def pe (W : Nat → Int32) (s : Nat) : Nat → Int32
  | 0 => 0
  | j + 1 => if bt (nI s) j then pe W s j ||| W j else pe W s j
theorem b_pe (W : Nat → Int32) (s p : Nat) : ∀ m, bt (pe W s m) p = an (fun d => bt (nI s) d && bt (W d) p) m
  | 0 => by simp [pe, an, b_0]
  | m + 1 => by
    simp only [pe, an]
    rw [← b_pe W s p m]
    cases hb : bt (nI s) m
    · simp
    · simp [b_or]
theorem pe_sml {W : Nat → Int32} {s : Nat} : ∀ m, (∀ j, j < m → sml (W j)) → sml (pe W s m)
  | 0, _ => sml_0
  | m + 1, h => by
    simp only [pe]
    split
    · exact sml_or (pe_sml m (fun j hj => h j (by omega))) (h m (by omega))
    · exact pe_sml m (fun j hj => h j (by omega))
theorem bt_nI {n i : Nat} (h : i < 32) : bt (nI n) i = n.testBit i := by
  show (BitVec.ofNat 32 n).getLsbD i = _
  rw [BitVec.getLsbD_ofNat]
  simp [h]
theorem set_of (S : Nat → Bool) {m : Nat} (hm : m ≤ 5) : ∃ s, s < 2 ^ m ∧ ∀ i, i < 32 → bt (nI s) i = (decide (i < m) && S i) := by
  obtain ⟨k, hk, ek⟩ := sml_of (col_sml S (n := m) (by omega))
  refine ⟨k, Nat.lt_pow_two_of_testBit k (fun i hi => ?_), fun i hi => ?_⟩
  · by_cases h : i < 32
    · rw [← bt_nI h, ← ek, b_col S m (by omega) i h, decide_eq_false (by omega)]; rfl
    · exact Nat.testBit_lt_two_pow (Nat.lt_of_lt_of_le (show k < 2 ^ 8 from hk) (Nat.pow_le_pow_right (by decide) (by omega)))
  · rw [← ek]; exact b_col S m (by omega) i hi
theorem shl_pw : ∀ m, m < 7 → ((1 : Int32) <<< (nI m &&& 31)) = nI (2 ^ m) := by decide
theorem pc_m {s m : Nat} (hm : m ≤ 5) (h : s < 2 ^ m) : pc (nI s) = cnt (bt (nI s)) m := by
  have := cnt_cut (q := bt (nI s)) m (8 - m) (fun j hj => by
    by_cases h32 : j < 32
    · rw [bt_nI h32]
      exact Nat.testBit_lt_two_pow (Nat.lt_of_lt_of_le h (Nat.pow_le_pow_right (by decide) hj))
    · exact b_big (by omega))
  rw [← this, show m + (8 - m) = 8 by omega]
  rfl
theorem w_canFill {G : Nat → Int32} {us : Int32} {fr n : Nat} {cf : Bool} {Φ : Int32 → Prop} (hG : ∀ j, j < n → sml (G j &&& (us ^^^ (-1)))) (hf1 : 1 ≤ fr) (hf : fr ≤ n) (hn : n ≤ 6) (hcf : cf = true ↔ Hall (fun j p => bt (G (fr + j) &&& (us ^^^ (-1))) p) (n - fr)) (k : Φ (B01 cf)) : wp_X7_canFill G (nI fr) (nI n) us Φ := by
  let W : Nat → Int32 := fun j => G (fr + j) &&& (us ^^^ (-1))
  obtain ⟨m, hm⟩ : ∃ m, m = n - fr := ⟨_, rfl⟩
  have hW : ∀ j, j < m → sml (W j) := fun j hj => hG _ (by omega)
  have hpw : 2 ^ m ≤ 32 := Nat.pow_le_pow_right (n := 2) (by decide) (show m ≤ 5 by omega)
  have hpw1 : 1 ≤ 2 ^ m := Nat.pow_pos (by decide)
  rw [← hm] at hcf
  have hun : ∀ s p, bt (pe W s m) p = un (fun j p => bt (G (fr + j) &&& (us ^^^ (-1))) p) m (bt (nI s)) p := fun s p => b_pe W s p m
  unfold wp_X7_canFill
  refine for1 (j := 1) (2 ^ m) (fun j => ∀ s, 1 ≤ s → s < j → pc (nI s) ≤ pc (pe W s m)) (fun s rec hs hI kk => ?_) (fun rec hI => ?_) hpw1 (fun s h1 h2 => absurd h2 (by omega))
  · unfold wb_X7_canFill_10
    rw [pk_sub hf, ← hm, shl_pw m (by omega)]
    refine neg_br (nI_ge hs (by omega)) ?_
    refine for2 (j := fr) n (fun d x => fr ≤ d ∧ x = pe W s (d - fr)) (fun d x rec2 hd ⟨h1, hx⟩ k2 => ?_) (fun x rec2 ⟨h1, hx⟩ => ?_) hf ⟨Nat.le_refl fr, by rw [Nat.sub_self]; rfl⟩
    · unfold wb_X7_canFill_23
      rw [pk_sub h1]
      subst hx
      refine neg_br (nI_ge hd (by omega)) (w_holdsG ?_)
      rw [hb_nI _ (by omega)]
      refine br_b (fun e => k2 _ ⟨by omega, ?_⟩) (fun e => w_at (by omega) (by omega) (k2 _ ⟨by omega, ?_⟩))
      · rw [show d + 1 - fr = (d - fr) + 1 by omega]
        simp only [pe]
        rw [e]; rfl
      · rw [show d + 1 - fr = (d - fr) + 1 by omega]
        simp only [pe]
        rw [e, if_pos rfl]
        show _ = pe W s (d - fr) ||| (G (fr + (d - fr)) &&& (us ^^^ (-1)))
        rw [show fr + (d - fr) = d by omega]
    · unfold wb_X7_canFill_23
      subst hx
      refine pos_br (nI_le (Nat.le_refl n) (by omega)) ?_
      unfold wk_X7_canFill_23
      rw [← hm]
      have p1 := pc_le (pe W s m)
      have p2 := pc_le (nI s)
      refine w_bitCount (pe_sml m hW) (w_bitCount (sml_nI (by omega)) (br_le (by omega) (by omega) (fun h => kk (fun s' h1 h2 => ?_)) (fun h => ?_)))
      · by_cases hss : s' = s
        · subst hss; exact h
        · exact hI s' h1 (by omega)
      · have : cf = false := by
          cases hc : cf
          · rfl
          · have h1 := hcf.mp hc (bt (nI s))
            rw [← pc_m (by omega) hs] at h1
            have h2 : pc (pe W s m) = cnt (un (fun j p => bt (G (fr + j) &&& (us ^^^ (-1))) p) m (bt (nI s))) 8 := cnt_ext 8 (fun p _ => hun s p)
            omega
        rw [this] at k
        exact k
  · unfold wb_X7_canFill_10
    rw [pk_sub hf, ← hm, shl_pw m (by omega)]
    have : cf = true := hcf.mpr (fun S => by
      obtain ⟨s, hs, hb⟩ := set_of S (show m ≤ 5 by omega)
      have e1 : cnt S m = cnt (bt (nI s)) m := cnt_ext m (fun i hi => by rw [hb i (by omega), decide_eq_true hi]; rfl)
      have e2 : cnt (un (fun j p => bt (G (fr + j) &&& (us ^^^ (-1))) p) m S) 8 = pc (pe W s m) := cnt_ext 8 (fun p _ => by
        rw [hun s p, Bool.eq_iff_iff, un_iff, un_iff]
        constructor
        · rintro ⟨d, h1, h2, h3⟩; exact ⟨d, h1, by rw [hb d (by omega), decide_eq_true h1, h2]; rfl, h3⟩
        · rintro ⟨d, h1, h2, h3⟩; rw [hb d (by omega), decide_eq_true h1] at h2; exact ⟨d, h1, by simpa using h2, h3⟩)
      rw [e1, e2, ← pc_m (by omega) hs]
      by_cases h0 : s = 0
      · subst h0
        have : pc (nI 0) = 0 := by decide
        omega
      · exact hI s (by omega) hs)
    rw [this] at k
    exact pos_br (nI_le (Nat.le_refl _) (by omega)) k
theorem w_leastToSend {G : Nat → Int32} {us : Int32} {d n : Nat} {q : Nat → Bool} {Φ : Int32 → Prop} (hG : ∀ j, j < n → sml (G j)) (hd : d < n) (hn : n ≤ 6) (hq : ∀ p, p < 8 → (q p = true ↔ (bt (G d &&& (us ^^^ (-1))) p = true ∧ Hall (fun j x => bt (G (d + 1 + j) &&& ((us ||| ((1 : Int32) <<< (nI p &&& 31))) ^^^ (-1))) x) (n - (d + 1))))) (k : Φ (sn q 8 0)) : wp_X7_leastToSend G (nI d) (nI n) us Φ := by
  unfold wp_X7_leastToSend
  refine w_at (by omega) (by omega) (srch q 0 8 Φ (fun p rec hp ht hf => ?_) (fun rec hp => ?_) k)
  · unfold wb_X7_leastToSend_17
    rw [Nat.zero_add] at ht hf
    refine neg_br (ge8 hp) (w_holdsG ?_)
    rw [hb_nI _ (by omega), show nI d + 1 = nI (d + 1) from (nI_succ d).symm]
    have no : ¬ q p = true → rec (nI p + 1) := fun h => hf (by simpa using h)
    refine br_b (fun e => no (fun h => ?_)) (fun e => w_canFill (cf := q p) (fun j hj => sml_al _ (hG j hj)) (by omega) (by omega) hn ?_ (br_b hf ht))
    · have := ((hq p hp).mp h).1
      rw [e] at this; cases this
    · rw [hq p hp]
      exact ⟨fun h => h.2, fun h => ⟨e, h⟩⟩
  · unfold wb_X7_leastToSend_17
    exact pos_br le8 hp
/-- those sent before day d -/
def us (h : Nat → Nat) : Nat → Int32
  | 0 => 0
  | d + 1 => us h d ||| ((1 : Int32) <<< (nI (h d) &&& 31))
theorem b_us {h : Nat → Nat} {x : Nat} (hx : x < 32) : ∀ d, (∀ j, j < d → h j < 8) → (bt (us h d) x = true ↔ ∃ j, j < d ∧ h j = x)
  | 0, _ => ⟨fun q => (by rw [show us h 0 = 0 from rfl, b_0] at q; cases q), fun ⟨j, hj, _⟩ => absurd hj (by omega)⟩
  | d + 1, hh => by
    have ih := b_us (h := h) hx d (fun j hj => hh j (by omega))
    have := hh d (by omega)
    simp only [us]
    rw [b_or, Bool.or_eq_true, ih, b_one (by omega) hx, decide_eq_true_eq]
    constructor
    · rintro (⟨j, h1, h2⟩ | q)
      · exact ⟨j, by omega, h2⟩
      · exact ⟨d, by omega, q.symm⟩
    · rintro ⟨j, h1, h2⟩
      by_cases hj : j = d
      · subst hj; exact Or.inr h2.symm
      · exact Or.inl ⟨j, by omega, h2⟩
theorem ext_hall {g : Nat → Nat → Bool} {G : Nat → Int32} {n d p : Nat} {h : Nat → Nat} (hG : ∀ j, j < n → ∀ x, bt (G j) x = g j x) (hd : d < n) (hp : p < 8) (hpre : (∀ j, j < d → h j < 8 ∧ g j (h j) = true) ∧ ∀ j, j < d → ∀ e, e < j → h e ≠ h j) : Ext g n (d + 1) (fu h d p) ↔ (bt (G d &&& (us h d ^^^ (-1))) p = true ∧ Hall (fun j x => bt (G (d + 1 + j) &&& ((us h d ||| ((1 : Int32) <<< (nI p &&& 31))) ^^^ (-1))) x) (n - (d + 1))) := by
  have h8 : ∀ j, j < d → h j < 8 := fun j hj => (hpre.1 j hj).1
  have free : ∀ x, x < 8 → (bt (us h d ^^^ (-1)) x = true ↔ ¬ ∃ j, j < d ∧ h j = x) := fun x hx => by
    rw [b_not _ (by omega), ← b_us (by omega) d h8]
    cases bt (us h d) x <;> simp
  have free2 : ∀ x, x < 8 → (bt ((us h d ||| ((1 : Int32) <<< (nI p &&& 31))) ^^^ (-1)) x = true ↔ ((¬ ∃ j, j < d ∧ h j = x) ∧ x ≠ p)) := fun x hx => by
    rw [b_not _ (by omega), b_or, b_one (by omega) (by omega), ← b_us (by omega) d h8]
    cases bt (us h d) x <;> simp
  rw [hall_iff]
  constructor
  · rintro ⟨h1, ⟨h2, h3⟩, h4⟩
    have e1 : h1 d = p := by rw [h4 d (by omega), fu_s]
    have e2 : ∀ j, j < d → h1 j = h j := fun j hj => by rw [h4 j (by omega), fu_n (by omega)]
    refine ⟨?_, fun j => h1 (d + 1 + j), fun j hj => ⟨(h2 _ (by omega)).1, ?_⟩, fun j hj e he => h3 _ (by omega) _ (by omega)⟩
    · rw [b_and, hG d hd, ← e1, (h2 d hd).2, Bool.true_and, free _ (by rw [e1]; exact hp)]
      rintro ⟨j, hj, hq⟩
      exact h3 d hd j hj (by rw [e2 j hj]; exact hq)
    · show bt (G (d + 1 + j) &&& ((us h d ||| ((1 : Int32) <<< (nI p &&& 31))) ^^^ (-1))) (h1 (d + 1 + j)) = true
      rw [b_and, hG _ (by omega), (h2 _ (by omega)).2, Bool.true_and, free2 _ (h2 _ (by omega)).1]
      refine ⟨?_, fun q => h3 (d + 1 + j) (by omega) d (by omega) (e1.trans q.symm)⟩
      rintro ⟨i, hi, hq⟩
      exact h3 (d + 1 + j) (by omega) i (by omega) (by rw [e2 i hi]; exact hq)
  · rintro ⟨a1, f, f1, f2⟩
    rw [b_and, hG d hd, Bool.and_eq_true, free p hp] at a1
    have f3 : ∀ j, j < n - (d + 1) → g (d + 1 + j) (f j) = true ∧ (¬ ∃ i, i < d ∧ h i = f j) ∧ f j ≠ p := fun j hj => by
      have : bt (G (d + 1 + j) &&& ((us h d ||| ((1 : Int32) <<< (nI p &&& 31))) ^^^ (-1))) (f j) = true := (f1 j hj).2
      rw [b_and, hG _ (by omega), Bool.and_eq_true, free2 _ (f1 j hj).1] at this
      exact this
    let H : Nat → Nat := fun e => if e < d then h e else if e = d then p else f (e - (d + 1))
    have H1 : ∀ e, e < d → H e = h e := fun e he => if_pos he
    have H2 : H d = p := by show (if d < d then h d else if d = d then p else _) = p; rw [if_neg (by omega), if_pos rfl]
    have H3 : ∀ e, d < e → H e = f (e - (d + 1)) := fun e he => by show (if e < d then h e else if e = d then p else _) = _; rw [if_neg (by omega), if_neg (by omega)]
    refine ⟨H, ⟨fun e he => ?_, fun e he i hi => ?_⟩, fun j hj => ?_⟩
    · rcases Nat.lt_trichotomy e d with c | c | c
      · rw [H1 e c]; exact hpre.1 e c
      · subst c; rw [H2]; exact ⟨hp, a1.1⟩
      · rw [H3 e c]
        refine ⟨(f1 _ (by omega)).1, ?_⟩
        have := (f3 (e - (d + 1)) (by omega)).1
        rw [show d + 1 + (e - (d + 1)) = e by omega] at this
        exact this
    · rcases Nat.lt_trichotomy e d with c | c | c
      · rw [H1 e c, H1 i (by omega)]; exact hpre.2 e c i hi
      · subst c
        rw [H2, H1 i hi]
        exact fun q => a1.2 ⟨i, hi, q⟩
      · rw [H3 e c]
        have k3 := f3 (e - (d + 1)) (by omega)
        rcases Nat.lt_trichotomy i d with c2 | c2 | c2
        · rw [H1 i c2]; exact fun q => k3.2.1 ⟨i, c2, q⟩
        · subst c2; rw [H2]; exact fun q => k3.2.2 q.symm
        · rw [H3 i c2]; exact f2 _ (by omega) _ (by omega)
    · by_cases hjd : j = d
      · subst hjd; rw [H2, fu_s]
      · rw [H1 j (by omega), fu_n hjd]
theorem l_send75 {g : Nat → Nat → Bool} {G : Nat → Int32} {n i : Nat} {h : Nat → Nat} {Ψ : Int32 → (Nat → Int32) → Prop} (hGs : ∀ j, j < n → sml (G j)) (hG : ∀ j, j < n → ∀ x, bt (G j) x = g j x) (hn : n ≤ 6) (hi : i < n) (hL : Lex g n h) (k : Ψ (nI (h i)) G) : ∃ m, xit3 (wb_X7_send_75 (nI n) (nI i) Ψ G (wk_X7_send_75 Ψ G)) m (-1) 0 0 := by
  obtain ⟨⟨l1, l2⟩, l3⟩ := hL
  refine for3 (j := 0) (i + 1) (fun d x y => y = us h d ∧ (0 < d → x = nI (h (d - 1)))) (fun d x y rec hd ⟨hy, _⟩ kk => ?_) (fun x y rec ⟨_, hx⟩ => ?_) (by omega) ⟨rfl, fun q => absurd q (by omega)⟩
  · unfold wb_X7_send_75
    subst hy
    have hpre : (∀ j, j < d → h j < 8 ∧ g j (h j) = true) ∧ ∀ j, j < d → ∀ e, e < j → h e ≠ h j := ⟨fun j hj => l1 j (by omega), fun j hj => l2 j (by omega)⟩
    refine neg_br (fun q => absurd ((nI_ltI (by omega) (by omega)).mp q) (by omega)) ?_
    let q : Nat → Bool := fun p => @decide (Ext g n (d + 1) (fu h d p)) (Classical.propDecidable _)
    have hq : ∀ p, q p = true ↔ Ext g n (d + 1) (fu h d p) := fun p => @decide_eq_true_iff _ (Classical.propDecidable _)
    refine w_leastToSend (q := q) hGs (by omega) hn (fun p hp => (hq p).trans (ext_hall hG (by omega) hp hpre)) ?_
    have es : sn q 8 0 = nI (h d) := by
      have ex : q (h d) = true := (hq _).mpr ⟨h, ⟨l1, l2⟩, fun j hj => by
        by_cases hjd : j = d
        · subst hjd; rw [fu_s]
        · rw [fu_n hjd]⟩
      have h8 := (l1 d (by omega)).1
      rcases sn_is (q := q) 8 0 with ⟨_, h2⟩ | ⟨j, _, h2, h3, h4, h5⟩
      · rw [h2 (h d) (by omega) (by omega)] at ex; cases ex
      · rw [h3]
        rcases Nat.lt_trichotomy j (h d) with c | c | c
        · exact absurd ((hq j).mp h4) (l3 d (by omega) j c)
        · rw [c]
        · rw [h5 (h d) (by omega) c] at ex; cases ex
    rw [es]
    have h8 := (l1 d (by omega)).1
    exact neg_br (nI_nm1 (by omega)) (kk _ _ ⟨rfl, fun _ => rfl⟩)
  · unfold wb_X7_send_75
    refine pos_br ((nI_ltI (by omega) (by omega)).mpr (by omega)) ?_
    unfold wk_X7_send_75
    rw [hx (by omega), show i + 1 - 1 = i by omega]
    exact k
theorem l_send75n {g : Nat → Nat → Bool} {G : Nat → Int32} {n i : Nat} {Ψ : Int32 → (Nat → Int32) → Prop} (hGs : ∀ j, j < n → sml (G j)) (hG : ∀ j, j < n → ∀ x, bt (G j) x = g j x) (hn : n ≤ 6) (hi : i < n) (hL : ∀ h, ¬ Full g n h) (k : Ψ (-1) G) : ∃ m, xit3 (wb_X7_send_75 (nI n) (nI i) Ψ G (wk_X7_send_75 Ψ G)) m (-1) 0 0 := by
  refine ⟨1, ?_⟩
  show wb_X7_send_75 (nI n) (nI i) Ψ G (wk_X7_send_75 Ψ G) _ (-1) 0 0
  unfold wb_X7_send_75
  refine neg_br (nI_pos (by omega)) ?_
  refine w_leastToSend (d := 0) (q := fun _ => false) hGs (by omega) hn (fun p hp => ?_) (pos_br rfl k)
  refine (Iff.trans ⟨fun q => Bool.noConfusion q, fun q => ?_⟩ (ext_hall (h := fun _ => 0) hG (by omega) hp ⟨fun j hj => absurd hj (by omega), fun j hj => absurd hj (by omega)⟩))
  obtain ⟨h1, h2, _⟩ := q
  exact absurd h2 (hL h1)
theorem lex_eq {g : Nat → Nat → Bool} {n : Nat} {h h' : Nat → Nat} (a : Lex g n h) (b : Lex g n h') : ∀ j, j < n → h j = h' j := by
  intro j
  induction j using Nat.strongRecOn with
  | ind j ih =>
    intro hj
    have e1 : ∀ (x y : Nat → Nat), Full g n x → (∀ i, i < j → x i = y i) → Ext g n (j + 1) (fu y j (x j)) := fun x y hx hxy => ⟨x, hx, fun i hi => by
      by_cases hij : i = j
      · subst hij; rw [fu_s]
      · rw [fu_n hij]; exact hxy i (by omega)⟩
    rcases Nat.lt_trichotomy (h j) (h' j) with c | c | c
    · exact absurd (e1 h h' a.1 (fun i hi => ih i hi (by omega))) (b.2 j hj _ c)
    · exact c
    · exact absurd (e1 h' h b.1 (fun i hi => (ih i hi (by omega)).symm)) (a.2 j hj _ c)
theorem p_send {D P dy : Nat} {iw ih fe we ho da mw mh mf dw dh dd mk now gs st : Nat → Int32} {L sh sp n i : Int32} {Φ : Int32 → (Nat → Int32) → Int32 → (Nat → Int32) → Prop} (hD : D ≤ 10) (hC : cE D iw ih fe we ho da mw mh mf dw dh dd) (hN : cN P dy L sh sp mk now) (k : ∀ r gs st, Φ r gs r st) : wp_X7_send gs L (nI dy) (nI D) we ho da iw ih fe n i (fun r a => wp_X8_send (nI D) st now dw dh dd mw mh mf n i (fun r' a' => Φ r a r' a')) := by
  have hL := cN_sml hN
  have hdy := hN.2.2.2.2.2.2.1
  unfold wp_X7_send wp_X8_send
  refine w_within (br_b (fun e => w_in (br0 e (k _ _ _)) (by decide) (by decide)) (fun e => ?_))
  obtain ⟨N, hN1, hn, rfl⟩ := inr_t (a := 1) (b := 6) (by omega) (by omega) e
  refine w_within ?_
  rw [isP_inr (by omega)]
  refine br_b (fun e2 => w_in (br1 e (l_find hD hC hN hN1 hn (fun h s _ _ => is1 (w_inP (by omega) rfl (br0 e2 (k _ _ _)))) (fun _ s => is0 (k _ _ _)))) (by decide) (by decide)) (fun e2 => ?_)
  obtain ⟨j, hj, rfl⟩ := isP_t (by omega) e2
  refine for2 (j := 0) N (fun d G => ∀ x, x < d → G x = L &&& col (gD iw ih fe we ho da D (dy + x)) 8) (fun d G rec hd hI kk => ?_) (fun G rec hI => ?_) (by omega) (fun x hx => absurd hx (by omega))
  · unfold wb_X7_send_28 wp_X1_goersOn
    rw [nI_add]
    refine neg_br (nI_ge hd (by omega)) (w_goersOn hD (by omega) (w_put (by omega) (by omega) (kk _ (fun x hx => ?_))))
    by_cases hxd : x = d
    · subst hxd; rw [pk_us]
    · rw [pk_un hxd]; exact hI x (by omega)
  · unfold wb_X7_send_28
    refine pos_br (nI_le (Nat.le_refl N) (by omega)) ?_
    unfold wk_X7_send_28
    have hGs : ∀ x, x < N → sml (G x) := fun x hx => by rw [hI x hx]; exact sml_al _ hL
    have hG : ∀ x, x < N → ∀ y, bt (G x) y = gS L iw ih fe we ho da D dy x y := fun x hx y => by
      rw [hI x hx, b_and]
      by_cases h8 : y < 8
      · rw [b_col _ 8 (by omega) y (by omega), decide_eq_true h8]; rfl
      · unfold gS
        rw [hL y (by omega)]; rfl
    by_cases hF : ∃ h, Full (gS L iw ih fe we ho da D dy) N h
    · obtain ⟨h0, hf⟩ := hF
      obtain ⟨h, hx⟩ := lex_of hf
      refine l_send75 hGs hG hn hj hx (w_in (br1 e (l_find hD hC hN hN1 hn (fun h' s hx' hs => is1 (w_inP (by omega) rfl (br1 e2 ⟨vp_in_nI (by omega) (by omega), ?_⟩))) (fun hno => absurd hf (hno h0)))) (by decide) (by decide))
      rw [nI_clamp (by omega), hs j hj, lex_eq hx hx' j hj]
      exact k _ _ _
    · have hno : ∀ h, ¬ Full (gS L iw ih fe we ho da D dy) N h := fun h q => hF ⟨h, q⟩
      exact l_send75n hGs hG hn hj hno (w_in (br1 e (l_find hD hC hN hN1 hn (fun h' s hx' hs => absurd hx'.1 (hno h')) (fun _ s => is0 (k _ _ _)))) (by decide) (by decide))
