/-! the pure side, 5: classes, tell, reign, shownAll -/
/-- the least of a set -/
def lb (x : Int32) : Int32 := sn (bt x) 8 0
theorem lb_is {x : Int32} {k : Nat} (hk : k < 8) (h : bt x k = true) : ∃ j, j < 8 ∧ lb x = nI j ∧ bt x j = true ∧ ∀ i, i < j → bt x i = false := by
  rcases sn_is (q := bt x) 8 0 with ⟨_, h2⟩ | ⟨j, _, h2, h3, h4, h5⟩
  · rw [h2 k (by omega) (by omega)] at h; cases h
  · exact ⟨j, by omega, h3, h4, fun i hi => h5 i (by omega) hi⟩
theorem w_least {x : Int32} {k : Nat} {Φ : Int32 → Prop} (hk : k < 8) (h : bt x k = true) (kk : Φ (lb x)) : wp_X8_least x Φ := by
  obtain ⟨j, hj, e, hb1, hl⟩ := lb_is hk h
  unfold wp_X8_least
  refine for1 (j := 0) j (fun _ => True) (fun i rec hi _ k2 => ?_) (fun rec _ => ?_) (by omega) trivial
  · unfold wb_X8_least_2
    refine w_hasG ?_
    rw [hb_nI x (by omega)]
    exact br0 (hl i hi) (k2 trivial)
  · unfold wb_X8_least_2
    refine w_hasG ?_
    rw [hb_nI x (by omega)]
    refine br1 hb1 ?_
    unfold wk_X8_least_2
    rw [← e]
    exact kk
theorem lowb_ok : ∀ n, n < 256 → n ≠ 0 → ∀ p, p < 8 → (decide ((nI n &&& -nI n) = ((1 : Int32) <<< (nI p &&& 31))) = decide (lb (nI n) = nI p)) := by decide +kernel
theorem low1_ok : ∀ n, n < 256 → n ≠ 0 → ∀ p, p < 8 → lb (nI n) = nI p → (nI n &&& -nI n) = ((1 : Int32) <<< (nI p &&& 31)) := fun n h h0 p hp e => by
  have := lowb_ok n h h0 p hp
  rw [decide_eq_true e] at this
  exact of_decide_eq_true this
theorem low2_ok : ∀ n, n < 256 → ∀ p, p < 8 → bt (nI n) p = true → (ahd (nI n) p = 0 ↔ lb (nI n) = nI p) := by decide +kernel
theorem bt_ne0 {n p : Nat} (h : bt (nI n) p = true) : n ≠ 0 := fun e => by subst e; rw [show nI 0 = 0 from rfl, b_0] at h; cases h
/-- those like p -/
def alk (L : Int32) (mk : Nat → Int32) (p : Nat) : Int32 := col (fun q => bt L q && decide (mk q = mk p)) 8
theorem w_alike {L : Int32} {mk : Nat → Int32} {p : Nat} {Φ : Int32 → Prop} (hp : p < 8) (k : Φ (alk L mk p)) : wp_X1_alike L mk (nI p) Φ := by
  unfold wp_X1_alike
  refine for2 (j := 0) 8 (fun j x => x = col (fun q => bt L q && decide (mk q = mk p)) j) (fun j x rec hj hq kk => ?_) (fun x rec hq => ?_) (by omega) rfl
  · unfold wb_X1_alike_4
    subst hq
    exact neg_br (ge8 hj) (w_lives (by omega) (br_b (fun e => kk _ (col_f (by simp [e]))) (fun e => w_at hj (by omega) (w_at hp (by omega) ⟨fun c => kk _ (col_t (by simp [e, c])), fun c => kk _ (col_f (by simp [c]))⟩))))
  · unfold wb_X1_alike_4
    subst hq
    exact pos_br le8 k
theorem w_classOf {P dy : Nat} {mk now : Nat → Int32} {L sh sp : Int32} {p : Nat} {Φ : Int32 → Prop} (hN : cN P dy L sh sp mk now) (hp : p < P) (k : Φ (if bt L p then alk L mk p else 0)) : wp_X8_classOf now (nI p) Φ := by
  obtain ⟨h8, h9, h10, h11, h12, hP, hdy, hL0, hmk⟩ := hN
  unfold wp_X8_classOf
  let q : Nat → Bool := fun i => bt L p && (bt L i && decide (mk i = mk p))
  refine for2 (j := 0) P (fun j x => x = col q j) (fun j x rec hj hq kk => ?_) (fun x rec hq => ?_) (by omega) rfl
  · unfold wb_X8_classOf_4
    subst hq
    rw [h8, or0, nI_clamp (by omega), nI_clamp (by omega), (hmk p hp).1, (hmk j hj).1]
    exact neg_br (nI_ge hj (by omega)) (w_lives8 (by omega) h9 (br_b (fun e => kk _ (col_f (by simp [q, e]))) (fun e => w_lives8 (by omega) h9 (br_b (fun e2 => kk _ (col_f (by simp [q, e2]))) (fun e2 => ⟨vp_in_nI (by omega) (by omega), vp_in_nI (by omega) (by omega), fun c => kk _ (col_t (by simp [q, e, e2, c])), fun c => kk _ (col_f (by simp only [q]; rw [decide_eq_false (fun h => c (Eq.symm h))]; simp))⟩)))))
  · unfold wb_X8_classOf_4
    subst hq
    rw [h8]
    refine pos_br (nI_le (Nat.le_refl P) (by omega)) ?_
    unfold wk_X8_classOf_4
    rw [col_cut hP (fun j hj => by simp [q, hL0 j hj])]
    have e : col q 8 = if bt L p then alk L mk p else 0 := by
      cases hb : bt L p
      · rw [if_neg (by decide)]
        refine b_ext fun i hi => ?_
        rw [b_col _ 8 (by omega) i hi, b_0]
        simp [q, hb]
      · rw [if_pos rfl]
        exact col_ext 8 (fun j _ => by simp [q, hb])
    rw [e]
    exact k
/-- p is the least of those like him -/
def clq (L : Int32) (mk : Nat → Int32) (p : Nat) : Bool := bt L p && decide (lb (alk L mk p) = nI p)
theorem alk_self {L : Int32} {mk : Nat → Int32} {p : Nat} (hp : p < 8) (h : bt L p = true) : bt (alk L mk p) p = true := by
  unfold alk
  rw [b_col _ 8 (by omega) p (by omega), decide_eq_true hp]
  simp [h]
theorem p_classes {P dy : Nat} {mk now : Nat → Int32} {L sh sp p : Int32} {Φ : Int32 → Int32 → Prop} (hN : cN P dy L sh sp mk now) (k : ∀ r, Φ r r) : wp_X7_classes (nI P) L mk p (fun r => wp_X8_classes now p (fun r' => Φ r r')) := by
  have hN2 := hN
  obtain ⟨h8, h9, h10, h11, h12, hP, hdy, hL0, hmk⟩ := hN2
  unfold wp_X7_classes wp_X8_classes
  refine ⟨fun c => ?_, fun c => ?_⟩
  · unfold wp_X1_countClasses
    refine for2 (j := 0) 8 (fun j x => x = nI (cnt (clq L mk) j)) (fun j x rec hj hq kk => ?_) (fun x rec hq => ?_) (by omega) rfl
    · unfold wb_X1_countClasses_4
      subst hq
      refine neg_br (ge8 hj) (w_lives (by omega) (br_b (fun e => kk _ (cnt_f (by simp [clq, e]))) (fun e => w_alike hj ?_)))
      unfold wp_X7_leastOf
      obtain ⟨n, hn, en⟩ := sml_of (col_sml (fun q => bt L q && decide (mk q = mk j)) (n := 8) (by omega))
      have en : alk L mk j = nI n := en
      have n0 : n ≠ 0 := bt_ne0 (p := j) (by rw [← en]; exact alk_self hj e)
      have lw := lowb_ok n hn n0 j hj
      rw [← en] at lw
      refine ⟨fun c2 => kk _ (cnt_t ?_), fun c2 => kk _ (cnt_f ?_)⟩
      · rw [decide_eq_true c2] at lw
        simp [clq, e, of_decide_eq_true lw.symm]
      · rw [decide_eq_false c2] at lw
        simp [clq, of_decide_eq_false lw.symm]
    · unfold wb_X1_countClasses_4
      subst hq
      refine pos_br le8 ?_
      unfold wk_X1_countClasses_4
      refine pos_br c ?_
      refine for2 (j := 0) P (fun j x => x = nI (cnt (clq L mk) j)) (fun j x rec hj hq kk => ?_) (fun x rec hq => ?_) (by omega) rfl
      · unfold wb_X8_classes_28
        subst hq
        have z0 : nI (cnt (clq L mk) j) + 0 = nI (cnt (clq L mk) j) := nI_add _ 0
        rw [h8, z0]
        refine neg_br (nI_ge hj (by omega)) (w_lives8 (by omega) h9 (br_b (fun e => kk _ (cnt_f (by simp [clq, e]))) (fun e => w_classOf hN hj ?_)))
        rw [if_pos e]
        refine w_least (k := j) (by omega) (alk_self (by omega) e) ⟨fun c2 => kk _ (cnt_t (by simp [clq, e, c2])), fun c2 => kk _ (cnt_f (by simp [clq, c2]))⟩
      · unfold wb_X8_classes_28
        subst hq
        rw [h8]
        refine pos_br (nI_le (Nat.le_refl P) (by omega)) ?_
        unfold wk_X8_classes_28
        have := cnt_cut (q := clq L mk) P (8 - P) (fun j hj => by simp [clq, hL0 j hj])
        rw [← this, show P + (8 - P) = 8 by omega]
        exact k _
  · refine w_has (by omega) (br_b (fun e => neg_br c (w_isPerson (by omega) h8 (br0 e (k _)))) (fun e => ?_))
    obtain ⟨j, hj, rfl⟩ := isP_t (by omega) e
    refine w_lives (by omega) (br_b (fun e2 => neg_br c (w_isPerson (by omega) h8 (br1 e (w_classOf hN hj ?_)))) (fun e2 => w_alike (by omega) (neg_br c (w_isPerson (by omega) h8 (br1 e (w_classOf hN hj ?_))))))
    · rw [e2]; exact k _
    · rw [e2]; exact k _
/-! tell -/
/-- q behind p is not told from p, though he must be -/
def bad (L : Int32) (mk : Nat → Int32) (S E : Int32) (p q : Nat) : Bool := bt L p && (bt L q && ((decide (¬ E = 0) || decide (nI p = lb L)) && decide ((mk p &&& S) = (mk q &&& S))))
def toldB (L : Int32) (mk : Nat → Int32) (S E : Int32) (N : Nat) : Bool := al (fun q => al (fun p => !bad L mk S E p q) q) N
theorem told_iff {L : Int32} {mk : Nat → Int32} {S E : Int32} {N : Nat} : toldB L mk S E N = true ↔ ∀ q, q < N → ∀ p, p < q → bad L mk S E p q = false := by
  unfold toldB
  rw [al_iff]
  refine ⟨fun h q hq p hp => ?_, fun h q hq => ?_⟩
  · have := (al_iff _ _).mp (h q hq) p hp
    simpa using this
  · rw [al_iff]
    intro p hp
    simpa using h q hq p hp
theorem xor_eq (x y S : Int32) : ((x ^^^ y) &&& S) = 0 ↔ (x &&& S) = (y &&& S) := by
  constructor
  · intro h
    apply b_ext
    intro i hi
    have := congrArg (fun z => bt z i) h
    simp only [b_and, b_xor, b_0] at this
    rw [b_and, b_and]
    cases h1 : bt x i <;> cases h2 : bt y i <;> cases h3 : bt S i <;> simp_all
  · intro h
    apply b_ext
    intro i hi
    have := congrArg (fun z => bt z i) h
    simp only [b_and] at this
    rw [b_and, b_xor, b_0]
    cases h1 : bt x i <;> cases h2 : bt y i <;> cases h3 : bt S i <;> simp_all
theorem w_unlike {L : Int32} {mk : Nat → Int32} {S : Int32} {p : Nat} {b : Bool} {Φ : Int32 → Prop} (hp : p < 8) (hb : b = true ↔ ∀ q, p < q → q < 8 → bt L q = true → ¬ (mk p &&& S) = (mk q &&& S)) (k : Φ (B01 b)) : wp_X1_isUnlikeThoseBehind L mk (nI p) S Φ := by
  unfold wp_X1_isUnlikeThoseBehind
  rw [← nI_succ]
  refine for1 (j := p + 1) 8 (fun j => p < j ∧ ∀ q, p < q → q < j → bt L q = true → ¬ (mk p &&& S) = (mk q &&& S)) (fun j rec hj ⟨hpj, hq⟩ kk => ?_) (fun rec ⟨_, hq⟩ => ?_) (by omega) ⟨by omega, fun q h1 h2 => absurd h2 (by omega)⟩
  · unfold wb_X1_isUnlikeThoseBehind_4
    refine neg_br (ge8 hj) (w_lives (by omega) (br_b (fun e => kk ⟨by omega, fun q h1 h2 h3 => ?_⟩) (fun e => w_at hp (by omega) (w_at hj (by omega) ⟨fun c => ?_, fun c => kk ⟨by omega, fun q h1 h2 h3 => ?_⟩⟩))))
    · by_cases hqj : q = j
      · subst hqj; rw [e] at h3; cases h3
      · exact hq q h1 (by omega) h3
    · have : b = false := by
        cases hbb : b
        · rfl
        · exact absurd ((xor_eq _ _ _).mp c) (hb.mp hbb j hpj hj e)
      rw [this] at k
      exact k
    · by_cases hqj : q = j
      · subst hqj; exact fun c2 => c ((xor_eq _ _ _).mpr c2)
      · exact hq q h1 (by omega) h3
  · unfold wb_X1_isUnlikeThoseBehind_4
    have : b = true := hb.mpr hq
    rw [this] at k
    exact pos_br le8 k
theorem bad_f {L : Int32} {mk : Nat → Int32} {S E : Int32} {p q : Nat} (h1 : bt L p = true) (h2 : bt L q = true) (h3 : ¬ E = 0 ∨ nI p = lb L) (h : bad L mk S E p q = false) : ¬ (mk p &&& S) = (mk q &&& S) := by
  intro c
  unfold bad at h
  rw [h1, h2, decide_eq_true c] at h
  rcases h3 with h3 | h3
  · rw [decide_eq_true h3] at h; cases h
  · rw [decide_eq_true h3] at h; cases hx : decide (¬ E = 0) <;> rw [hx] at h <;> cases h
theorem bad_t {L : Int32} {mk : Nat → Int32} {S E : Int32} {p q : Nat} (h : bad L mk S E p q = true) : bt L p = true ∧ bt L q = true ∧ (¬ E = 0 ∨ nI p = lb L) ∧ (mk p &&& S) = (mk q &&& S) := by
  unfold bad at h
  simpa only [Bool.and_eq_true, Bool.or_eq_true, decide_eq_true_eq] using h
theorem w_isToldBy {L : Int32} {mk : Nat → Int32} {S E : Int32} {Φ : Int32 → Prop} (hL : sml L) (k : Φ (B01 (toldB L mk S E 8))) : wp_X1_isToldBy L mk S E Φ := by
  obtain ⟨n, hn, en⟩ := sml_of hL
  unfold wp_X1_isToldBy
  refine for1 (j := 0) 8 (fun j => ∀ p, p < j → ∀ q, p < q → q < 8 → bad L mk S E p q = false) (fun j rec hj hI kk => ?_) (fun rec hI => ?_) (by omega) (fun p h => absurd h (by omega))
  · unfold wb_X1_isToldBy_2
    have go : (∀ q, j < q → q < 8 → bad L mk S E j q = false) → rec (nI j + 1) := fun h => kk (fun p hp q h1 h2 => by
      by_cases hpj : p = j
      · subst hpj; exact h q h1 h2
      · exact hI p (by omega) q h1 h2)
    have both : bt L j = true → (¬ E = 0 ∨ nI j = lb L) → wp_X1_isUnlikeThoseBehind L mk (nI j) S (fun r_31 => ((r_31 = 0 → (Φ 0)) ∧ (¬ r_31 = 0 → (rec (nI j + 1))))) := by
      intro e he
      by_cases hB : ∀ q, j < q → q < 8 → bad L mk S E j q = false
      · refine w_unlike (b := true) hj ⟨fun _ q h1 h2 h3 => bad_f e h3 he (hB q h1 h2), fun _ => rfl⟩ (br1 rfl (go hB))
      · refine w_unlike (b := false) hj ⟨fun h => absurd h (by decide), fun h => ?_⟩ (br0 rfl ?_)
        · refine absurd (fun q h1 h2 => ?_) hB
          cases hx : bad L mk S E j q
          · rfl
          · obtain ⟨_, x2, _, x4⟩ := bad_t hx
            exact absurd x4 (h q h1 h2 x2)
        · have : toldB L mk S E 8 = false := by
            cases hx : toldB L mk S E 8
            · rfl
            · exact absurd (fun q h1 h2 => told_iff.mp hx q h2 j h1) hB
          rw [this] at k
          exact k
    refine neg_br (ge8 hj) (w_lives (by omega) (br_b (fun e => go (fun q h1 h2 => ?_)) (fun e => ⟨fun c => w_aheadOf hL ⟨fun c2 => both e (Or.inr ?_), fun c2 => go (fun q h1 h2 => ?_)⟩, fun c => both e (Or.inl c)⟩)))
    · cases hx : bad L mk S E j q
      · rfl
      · have := (bad_t hx).1
        rw [e] at this
        cases this
    · subst en
      exact ((low2_ok n hn j hj e).mp ((nI_eq (b := 0) (by have := pc_le (nI n &&& (((1 : Int32) <<< (nI j &&& 31)) - 1)); unfold ahd; omega) (by omega)).mp c2)).symm
    · cases hx : bad L mk S E j q
      · rfl
      · obtain ⟨_, _, x3, _⟩ := bad_t hx
        rcases x3 with x3 | x3
        · exact absurd c x3
        · subst en
          rw [(low2_ok n hn j hj e).mpr x3.symm] at c2
          exact absurd rfl c2
  · unfold wb_X1_isToldBy_2
    have : toldB L mk S E 8 = true := told_iff.mpr fun q hq p hp => hI p (by omega) q hp hq
    rw [this] at k
    exact pos_br le8 k
theorem w_areTold {P dy : Nat} {mk now : Nat → Int32} {L sh sp S E : Int32} {Φ : Int32 → Prop} (hN : cN P dy L sh sp mk now) {i0 : Nat} (hi0 : i0 < 8) (hb0 : bt L i0 = true) (k : Φ (B01 (toldB L mk S E 8))) : wp_X8_areTold now S E Φ := by
  obtain ⟨h8, h9, h10, h11, h12, hP, hdy, hL0, hmk⟩ := hN
  unfold wp_X8_areTold
  rw [h9]
  refine w_least hi0 hb0 ?_
  obtain ⟨f, hf, ef, _, _⟩ := lb_is hi0 hb0
  refine for2 (j := 0) P (fun j x => x = B01 (toldB L mk S E j)) (fun j x rec hj hq kk => ?_) (fun x rec hq => ?_) (by omega) rfl
  · unfold wb_X8_areTold_17
    rw [h8]
    subst hq
    refine neg_br (nI_ge hj (by omega)) ?_
    refine for2 (j := 0) j (fun i y => y = B01 (toldB L mk S E j && al (fun p => !bad L mk S E p j) i)) (fun i y rec2 hi hy kk2 => ?_) (fun y rec2 hy => ?_) (by omega) (by simp [al])
    · unfold wb_X8_areTold_32
      subst hy
      have hno : bad L mk S E i j = false → ((B01 (toldB L mk S E j && al (fun p => !bad L mk S E p j) i) = 0 → rec2 0 (nI i + 1)) ∧ (¬ B01 (toldB L mk S E j && al (fun p => !bad L mk S E p j) i) = 0 → rec2 1 (nI i + 1))) := fun hb => br_b (fun e => kk2 _ (by simp only [al]; rw [hb, ← Bool.and_assoc, e]; rfl)) (fun e => kk2 _ (by simp only [al]; rw [hb, ← Bool.and_assoc, e]; rfl))
      have n0 : wj_X8_areTold_72 now S (nI j) (B01 (toldB L mk S E j && al (fun p => !bad L mk S E p j) i)) (nI i) rec2 ∨ bad L mk S E i j = true := by
        cases hb : bad L mk S E i j
        · refine Or.inl ?_
          unfold wj_X8_areTold_72 wj_X8_areTold_73
          exact ⟨(hno hb).1, fun c => is0 ((hno hb).2 c)⟩
        · exact Or.inr rfl
      have n1 : bt L j = true → bt L i = true → (¬ E = 0 ∨ nI i = lb L) → wj_X8_areTold_68 now S (nI j) (B01 (toldB L mk S E j && al (fun p => !bad L mk S E p j) i)) (nI i) rec2 := by
        intro b1 b2 b3
        unfold wj_X8_areTold_68 wj_X8_areTold_73
        refine br_b (fun e => kk2 _ (by simp only [al]; rw [← Bool.and_assoc, e]; rfl)) (fun e => is1 ⟨vp_in_nI (by omega) (by omega), vp_in_nI (by omega) (by omega), ?_⟩)
        rw [nI_clamp (by omega), nI_clamp (by omega), (hmk j hj).1, (hmk i (by omega)).1]
        refine ⟨fun c => kk2 _ ?_, fun c => kk2 _ ?_⟩
        · have : bad L mk S E i j = true := by
            unfold bad
            rw [b1, b2, decide_eq_true c.symm]
            rcases b3 with b3 | b3
            · rw [decide_eq_true b3]; rfl
            · rw [decide_eq_true b3]; simp
          simp only [al]
          rw [this, ← Bool.and_assoc, e]
          rfl
        · have : bad L mk S E i j = false := by
            cases hx : bad L mk S E i j
            · rfl
            · exact absurd (bad_t hx).2.2.2.symm c
          simp only [al]
          rw [this, ← Bool.and_assoc, e]
          rfl
      have nb : ∀ {Q : Prop}, (bad L mk S E i j = true → Q) → (bad L mk S E i j = false → wj_X8_areTold_72 now S (nI j) (B01 (toldB L mk S E j && al (fun p => !bad L mk S E p j) i)) (nI i) rec2) := fun _ hb => by
        rcases n0 with h | h
        · exact h
        · rw [hb] at h; cases h
      have nf : (¬ bad L mk S E i j = true) → wj_X8_areTold_72 now S (nI j) (B01 (toldB L mk S E j && al (fun p => !bad L mk S E p j) i)) (nI i) rec2 := fun hb => nb (Q := True) (fun _ => trivial) (by simpa using hb)
      refine neg_br (nI_ge hi (by omega)) (w_lives8 (by omega) h9 (br_b (fun e => nf (fun hb => ?_)) (fun e => w_lives8 (by omega) h9 (br_b (fun e2 => nf (fun hb => ?_)) (fun e2 => ⟨fun c => ⟨fun c2 => n1 e e2 (Or.inr c2), fun c2 => nf (fun hb => ?_)⟩, fun c => n1 e e2 (Or.inl c)⟩)))))
      · have := (bad_t hb).2.1; rw [e] at this; cases this
      · have := (bad_t hb).1; rw [e2] at this; cases this
      · rcases (bad_t hb).2.2.1 with x | x
        · exact x c
        · exact c2 x
    · unfold wb_X8_areTold_32
      subst hy
      refine pos_br (nI_le (Nat.le_refl j) (by omega)) ?_
      unfold wk_X8_areTold_32
      exact kk _ rfl
  · unfold wb_X8_areTold_17
    rw [h8]
    subst hq
    refine pos_br (nI_le (Nat.le_refl P) (by omega)) ?_
    unfold wk_X8_areTold_17
    have : toldB L mk S E P = toldB L mk S E 8 := by
      rw [Bool.eq_iff_iff, told_iff, told_iff]
      refine ⟨fun h q hq p hp => ?_, fun h q hq p hp => h q (by omega) p hp⟩
      by_cases hqP : q < P
      · exact h q hqP p hp
      · unfold bad
        rw [hL0 q (by omega)]
        simp
    rw [this]
    exact ⟨B01_z _, k⟩
/-- the best set of marks after n sets -/
def bst (T : Nat → Bool) : Nat → Int32
  | 0 => -1
  | n + 1 => if (decide (bst T n = -1) || decide (pc (nI n) < pc (bst T n))) && T n then nI n else bst T n
theorem bst_is (T : Nat → Bool) : ∀ n, bst T n = -1 ∨ ∃ i, i < n ∧ bst T n = nI i
  | 0 => Or.inl rfl
  | n + 1 => by
    simp only [bst]
    split
    · exact Or.inr ⟨n, by omega, rfl⟩
    · rcases bst_is T n with h | ⟨i, hi, h⟩
      · exact Or.inl h
      · exact Or.inr ⟨i, by omega, h⟩
theorem p_tell {P dy : Nat} {mk now : Nat → Int32} {L sh sp E : Int32} {Φ : Int32 → Int32 → Prop} (hN : cN P dy L sh sp mk now) (k : ∀ r, Φ r r) : wp_X7_tell L mk E (fun r => wp_X8_tell now E (fun r' => Φ r r')) := by
  have hN2 := hN
  have hL := cN_sml hN
  obtain ⟨h8, h9, h10, h11, h12, hP, hdy, hL0, hmk⟩ := hN2
  unfold wp_X7_tell wp_X8_tell
  rw [h9]
  refine ⟨fun c => pos_br c (k _), fun c => ?_⟩
  obtain ⟨n, hn, en⟩ := sml_of hL
  have hi0 : ∃ i, i < 8 ∧ bt L i = true := by
    refine Classical.byContradiction fun h => c (sml_ext hL sml_0 fun i hi => ?_)
    rw [b_0]
    cases hx : bt L i
    · rfl
    · exact absurd ⟨i, hi, hx⟩ h
  obtain ⟨i0, hi0, hb0⟩ := hi0
  let T : Nat → Bool := fun s => toldB L mk (nI s) E 8
  obtain ⟨M, hM⟩ : ∃ M : Nat, M = 256 := ⟨_, rfl⟩
  refine for2 (j := 0) M (fun j x => x = bst T j) (fun j x rec hj hq kk => ?_) (fun x rec hq => ?_) (by omega) rfl
  · unfold wb_X7_tell_16
    refine neg_br (fun q => absurd ((nI_ltI (a := 255) (by omega) (by omega)).mp q) (by omega)) ?_
    have yes : (decide (bst T j = -1) || decide (pc (nI j) < pc (bst T j))) = true → wj_X7_tell_39 L mk E x (nI j) rec := by
      intro h
      unfold wj_X7_tell_39 wj_X7_tell_44
      refine is1 (w_isToldBy hL (br_b (fun e => kk _ ?_) (fun e => kk _ ?_)))
      · simp only [bst]; rw [h, show T j = false from e]; exact hq
      · simp only [bst]; rw [h, show T j = true from e]; rfl
    refine ⟨fun c1 => yes (by rw [decide_eq_true (hq ▸ c1)]; rfl), fun c1 => ?_⟩
    rcases bst_is T j with hB | ⟨i, hi, hB⟩
    · exact absurd (hq.trans hB) c1
    · refine w_bitCount (sml_nI (by omega)) (w_bitCount (by rw [hq, hB]; exact sml_nI (by omega)) ?_)
      have p1 := pc_le (nI j)
      have p2 := pc_le x
      refine br_le (by omega) (by omega) (fun h => ?_) (fun h => yes ?_)
      · unfold wj_X7_tell_44
        refine is0 (kk _ ?_)
        simp only [bst]
        rw [decide_eq_false (hq ▸ c1), decide_eq_false (by rw [← hq]; omega)]
        exact hq
      · rw [decide_eq_true (show pc (nI j) < pc (bst T j) by rw [← hq]; exact h)]; simp
  · unfold wb_X7_tell_16
    subst hq
    refine pos_br ((nI_ltI (a := 255) (by omega) (by omega)).mpr (by omega)) ?_
    unfold wk_X7_tell_16
    refine neg_br c ?_
    refine for2 (j := 0) M (fun j x => x = bst T j) (fun j x rec hj hq kk => ?_) (fun x rec hq => ?_) (by omega) rfl
    · unfold wb_X8_tell_16
      refine neg_br (fun q => absurd ((nI_ltI (a := 255) (by omega) (by omega)).mp q) (by omega)) ?_
      have yes : (decide (bst T j = -1) || decide (pc (nI j) < pc (bst T j))) = true → wj_X8_tell_38 now E x (nI j) rec := by
        intro h
        unfold wj_X8_tell_38 wj_X8_tell_43
        refine is1 (w_areTold hN hi0 hb0 (br_b (fun e => kk _ ?_) (fun e => kk _ ?_)))
        · simp only [bst]; rw [h, show T j = false from e]; exact hq
        · simp only [bst]; rw [h, show T j = true from e]; rfl
      rcases bst_is T j with hB | ⟨i, hi, hB⟩
      · exact ⟨fun c1 => yes (by rw [decide_eq_true hB]; rfl), fun c1 => absurd (by rw [hq, hB]; decide) c1⟩
      · refine ⟨fun c1 => absurd c1 (by rw [hq, hB]; exact nI_pos (by omega)), fun c1 => ?_⟩
        refine w_bits (w_bits ?_)
        have p1 := pc_le (nI j)
        have p2 := pc_le x
        refine br_le (by omega) (by omega) (fun h => ?_) (fun h => yes ?_)
        · unfold wj_X8_tell_43
          refine is0 (kk _ ?_)
          simp only [bst]
          rw [decide_eq_false (by rw [hB]; exact nI_nm1 (by omega)), decide_eq_false (by rw [← hq]; omega)]
          exact hq
        · rw [decide_eq_true (show pc (nI j) < pc (bst T j) by rw [← hq]; exact h)]; simp
    · unfold wb_X8_tell_16
      subst hq
      refine pos_br ((nI_ltI (a := 255) (by omega) (by omega)).mpr (by omega)) ?_
      unfold wk_X8_tell_16
      exact k _
/-! reign -/
/-- how far ahead the first of n from k on stands; -1 -/
def spf (q : Nat → Bool) (f : Nat → Int32) : Nat → Nat → Int32
  | 0, _ => -1
  | n + 1, k => if q k then f k else spf q f n (k + 1)
theorem spf_is {q : Nat → Bool} {f : Nat → Int32} : ∀ n k, (sn q n k = -1 ∧ spf q f n k = -1) ∨ ∃ j, j < k + n ∧ sn q n k = nI j ∧ spf q f n k = f j ∧ q j = true
  | 0, k => Or.inl ⟨rfl, rfl⟩
  | n + 1, k => by
    simp only [sn, spf]
    cases hq : q k
    · rcases spf_is (q := q) (f := f) n (k + 1) with ⟨h1, h2⟩ | ⟨j, h1, h2, h3, h4⟩
      · exact Or.inl ⟨by simpa using h1, by simpa using h2⟩
      · exact Or.inr ⟨j, by omega, by simpa using h2, by simpa using h3, h4⟩
    · exact Or.inr ⟨k, by omega, by simp, by simp, hq⟩
/-- the need after n days: none if on a day nobody is seen -/
def rgN (L : Int32) (iw ih fe we ho da : Nat → Int32) (D : Nat) : Nat → Option Int32
  | 0 => some 0
  | n + 1 => (rgN L iw ih fe we ho da D n).bind fun x => if sD L iw ih fe we ho da D n = -1 then none else some (if x < nI (ahd L (sD L iw ih fe we ho da D n).toNatClampNeg) + 1 then nI (ahd L (sD L iw ih fe we ho da D n).toNatClampNeg) + 1 else x)
theorem rgN_none {L : Int32} {iw ih fe we ho da : Nat → Int32} {D : Nat} : ∀ {n m : Nat}, rgN L iw ih fe we ho da D n = none → n ≤ m → rgN L iw ih fe we ho da D m = none
  | n, 0, h, hm => by rw [show n = 0 by omega] at h; exact h
  | n, m + 1, h, hm => by
    by_cases hn : n = m + 1
    · subst hn; exact h
    · simp only [rgN]
      rw [rgN_none h (show n ≤ m by omega)]
      rfl
theorem l_reign {D : Nat} {iw ih fe we ho da : Nat → Int32} {L : Int32} {Ψ : Int32 → Prop} (hD : D ≤ 10) (hL : sml L) (k : Ψ ((rgN L iw ih fe we ho da D D).getD (-1))) : wp_X7_reign (nI D) L we ho da iw ih fe Ψ := by
  unfold wp_X7_reign
  refine for2 (j := 0) D (fun j x => rgN L iw ih fe we ho da D j = some x) (fun j x rec hj hq kk => ?_) (fun x rec hq => ?_) (by omega) rfl
  · unfold wb_X7_reign_4
    refine neg_br (nI_ge hj (by omega)) (w_seenOn hD (by omega) ⟨fun c => ?_, fun c => ?_⟩)
    · have : rgN L iw ih fe we ho da D (j + 1) = none := by
        simp only [rgN]; rw [hq]; simp only [Option.bind]; rw [if_pos c]
      rw [rgN_none this (show j + 1 ≤ D by omega)] at k
      exact k
    · rcases sD_is L iw ih fe we ho da D j with h | ⟨i, hi, h, hbi⟩
      · exact absurd h c
      · have cl : (sD L iw ih fe we ho da D j).toNatClampNeg = i := by rw [h, nI_clamp (by omega)]
        have e2 : rgN L iw ih fe we ho da D (j + 1) = some (if x < nI (ahd L i) + 1 then nI (ahd L i) + 1 else x) := by
          simp only [rgN]; rw [hq]; simp only [Option.bind]; rw [if_neg c, cl]
        rw [h]
        exact w_aheadOf hL (kk _ e2)
  · unfold wb_X7_reign_4
    rw [hq] at k
    exact pos_br (nI_le (Nat.le_refl D) (by omega)) k
/-- a loop that counts down -/
theorem dwn2 {α : Type} {B : (α → Int32 → Prop) → α → Int32 → Prop} (N : Nat) (hN : N < 2 ^ 30) (P : Nat → α → Prop) (hs : ∀ j a rec, j < N → P (j + 1) a → (∀ a', P j a' → rec a' (nI j + (-1))) → B rec a (nI j)) (hx : ∀ a rec, P 0 a → B rec a (-1)) {a : α} (h : P N a) : ∃ n, xit2 B n a (nI N - 1) := by
  have key : ∀ j, j ≤ N → ∀ a, P j a → ∀ m, j < m → xit2 B m a (nI j - 1) := by
    intro j
    induction j with
    | zero =>
      intro _ a h m hm
      obtain ⟨m', rfl⟩ : ∃ m', m = m' + 1 := ⟨m - 1, by omega⟩
      exact hx a _ h
    | succ j ih =>
      intro hj a h m hm
      obtain ⟨m', rfl⟩ : ∃ m', m = m' + 1 := ⟨m - 1, by omega⟩
      rw [nI_pred]
      refine hs j a _ (by omega) h (fun a' h' => ?_)
      rw [show nI j + (-1) = nI j - 1 from (Int32.sub_eq_add_neg _ _).symm]
      exact ih (by omega) a' h' m' (by omega)
  exact ⟨N + 1, key N (Nat.le_refl N) a h (N + 1) (by omega)⟩
