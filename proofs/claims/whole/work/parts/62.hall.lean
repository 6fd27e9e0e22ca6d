/-! the pure side, 10: sets that have one of their own each (Hall's theorem, Rado's way) -/
/-- one below n has it -/
def an (q : Nat → Bool) : Nat → Bool
  | 0 => false
  | n + 1 => an q n || q n
theorem an_iff (q : Nat → Bool) : ∀ n, an q n = true ↔ ∃ j, j < n ∧ q j = true
  | 0 => ⟨fun h => Bool.noConfusion h, fun ⟨j, h, _⟩ => absurd h (by omega)⟩
  | n + 1 => by
    simp only [an, Bool.or_eq_true]
    rw [an_iff q n]
    constructor
    · rintro (⟨j, h1, h2⟩ | h)
      · exact ⟨j, by omega, h2⟩
      · exact ⟨n, by omega, h⟩
    · rintro ⟨j, h1, h2⟩
      by_cases h : j = n
      · subst h; exact Or.inr h2
      · exact Or.inl ⟨j, by omega, h2⟩
theorem cnt_s (q : Nat → Bool) (n : Nat) : cnt q (n + 1) = cnt q n + (q n).toNat := by
  simp only [cnt]
  cases q n <;> rfl
theorem cnt_mono {q q' : Nat → Bool} : ∀ n, (∀ j, j < n → q j = true → q' j = true) → cnt q n ≤ cnt q' n
  | 0, _ => Nat.le_refl 0
  | n + 1, h => by
    have ih := cnt_mono n (fun j hj => h j (by omega))
    rw [cnt_s, cnt_s]
    cases h1 : q n
    · simp; omega
    · rw [h n (by omega) h1]; omega
theorem cnt_ie (q r : Nat → Bool) : ∀ n, cnt (fun j => q j || r j) n + cnt (fun j => q j && r j) n = cnt q n + cnt r n
  | 0 => rfl
  | n + 1 => by
    have ih := cnt_ie q r n
    simp only [cnt_s]
    cases q n <;> cases r n <;> simp only [Bool.or_true, Bool.or_false, Bool.true_or, Bool.and_true, Bool.and_false, Bool.toNat_true, Bool.toNat_false] <;> omega
theorem cnt_rm {q : Nat → Bool} {x : Nat} : ∀ n, x < n → q x = true → cnt (fun j => q j && !decide (j = x)) n + 1 = cnt q n
  | 0, h, _ => absurd h (by omega)
  | n + 1, h, hq => by
    simp only [cnt_s]
    by_cases hx : x = n
    · subst hx
      have : cnt (fun j => q j && !decide (j = x)) x = cnt q x := cnt_ext x (fun j hj => by simp [show j ≠ x by omega])
      rw [this, hq]
      simp
    · have ih := cnt_rm n (by omega) hq
      rw [decide_eq_false (show ¬ n = x from fun e => hx e.symm)]
      rw [← ih]
      cases q n <;> simp only [Bool.not_false, Bool.and_true, Bool.toNat_true, Bool.toNat_false] <;> omega
theorem cnt_pos {q : Nat → Bool} : ∀ {n}, 0 < cnt q n → ∃ j, j < n ∧ q j = true
  | 0, h => absurd h (Nat.lt_irrefl 0)
  | n + 1, h => by
    rw [cnt_s] at h
    cases hq : q n
    · rw [hq] at h
      obtain ⟨j, h1, h2⟩ := cnt_pos (n := n) (by simpa using h)
      exact ⟨j, by omega, h2⟩
    · exact ⟨n, by omega, hq⟩
theorem cnt_two {q : Nat → Bool} {n : Nat} (h : 2 ≤ cnt q n) : ∃ x y, x < n ∧ y < n ∧ x ≠ y ∧ q x = true ∧ q y = true := by
  obtain ⟨x, hx, qx⟩ := cnt_pos (q := q) (n := n) (by omega)
  have h1 := cnt_rm n hx qx
  obtain ⟨y, hy, qy⟩ := cnt_pos (q := fun j => q j && !decide (j = x)) (n := n) (by omega)
  simp at qy
  exact ⟨x, y, hx, hy, fun e => qy.2 e.symm, qx, qy.1⟩
theorem cnt_one {q : Nat → Bool} {n x y : Nat} (h : cnt q n ≤ 1) (hx : x < n) (hy : y < n) (qx : q x = true) (qy : q y = true) : x = y := by
  refine Classical.byContradiction fun hne => ?_
  have h1 := cnt_rm n hx qx
  have h2 := cnt_rm (q := fun j => q j && !decide (j = x)) (x := y) n hy (by rw [qy, decide_eq_false (fun e : y = x => hne e.symm)]; rfl)
  omega
/-- those of the days of S -/
def un (A : Nat → Nat → Bool) (m : Nat) (S : Nat → Bool) (p : Nat) : Bool := an (fun d => S d && A d p) m
theorem un_iff {A : Nat → Nat → Bool} {m : Nat} {S : Nat → Bool} {p : Nat} : un A m S p = true ↔ ∃ d, d < m ∧ S d = true ∧ A d p = true := by
  unfold un
  rw [an_iff]
  simp only [Bool.and_eq_true]
def Hall (A : Nat → Nat → Bool) (m : Nat) : Prop := ∀ S : Nat → Bool, cnt S m ≤ cnt (un A m S) 8
/-- one of their own each -/
def SDR (A : Nat → Nat → Bool) (m : Nat) : Prop := ∃ f : Nat → Nat, (∀ d, d < m → f d < 8 ∧ A d (f d) = true) ∧ ∀ d, d < m → ∀ e, e < d → f e ≠ f d
/-- a family with one taken from one day -/
def wo (A : Nat → Nat → Bool) (d0 x : Nat) (d p : Nat) : Bool := A d p && !(decide (d = d0) && decide (p = x))
theorem rado {A : Nat → Nat → Bool} {m d0 x y : Nat} (h : Hall A m) (hd : d0 < m) (hxy : x ≠ y) : Hall (wo A d0 x) m ∨ Hall (wo A d0 y) m := by
  refine Classical.byContradiction fun hn => ?_
  have hn1 : ¬ Hall (wo A d0 x) m := fun q => hn (Or.inl q)
  have hn2 : ¬ Hall (wo A d0 y) m := fun q => hn (Or.inr q)
  have bad : ∀ z, ¬ Hall (wo A d0 z) m → ∃ S : Nat → Bool, cnt (un (wo A d0 z) m S) 8 < cnt S m ∧ S d0 = true := by
    intro z hz
    refine Classical.byContradiction fun hc => hz (fun S => ?_)
    refine Classical.byContradiction fun hlt => hc ⟨S, by omega, ?_⟩
    cases hS : S d0
    · refine absurd (h S) ?_
      have : cnt (un A m S) 8 ≤ cnt (un (wo A d0 z) m S) 8 := cnt_mono 8 (fun p _ hp => by
        obtain ⟨d, h1, h2, h3⟩ := un_iff.mp hp
        refine un_iff.mpr ⟨d, h1, h2, ?_⟩
        have : d ≠ d0 := fun e => by subst e; rw [hS] at h2; cases h2
        simp [wo, h3, this])
      omega
    · rfl
  obtain ⟨S, hS, hS0⟩ := bad x hn1
  obtain ⟨T, hT, hT0⟩ := bad y hn2
  have e1 := cnt_ie S T m
  have e2 := cnt_ie (un (wo A d0 x) m S) (un (wo A d0 y) m T) 8
  have a1 : cnt (un A m (fun d => S d || T d)) 8 ≤ cnt (fun p => un (wo A d0 x) m S p || un (wo A d0 y) m T p) 8 := cnt_mono 8 (fun p _ hp => by
    obtain ⟨d, h1, h2, h3⟩ := un_iff.mp hp
    rw [Bool.or_eq_true]
    by_cases hdd : d = d0
    · subst hdd
      by_cases hpx : p = x
      · exact Or.inr (un_iff.mpr ⟨d, h1, hT0, by simp [wo, h3, show p ≠ y from fun e => hxy (hpx.symm.trans e)]⟩)
      · exact Or.inl (un_iff.mpr ⟨d, h1, hS0, by simp [wo, h3, hpx]⟩)
    · rw [Bool.or_eq_true] at h2
      rcases h2 with h2 | h2
      · exact Or.inl (un_iff.mpr ⟨d, h1, h2, by simp [wo, h3, hdd]⟩)
      · exact Or.inr (un_iff.mpr ⟨d, h1, h2, by simp [wo, h3, hdd]⟩))
  have a2 : cnt (un A m (fun d => (S d && T d) && !decide (d = d0))) 8 ≤ cnt (fun p => un (wo A d0 x) m S p && un (wo A d0 y) m T p) 8 := cnt_mono 8 (fun p _ hp => by
    obtain ⟨d, h1, h2, h3⟩ := un_iff.mp hp
    simp only [Bool.and_eq_true, Bool.not_eq_true', decide_eq_false_iff_not] at h2
    rw [Bool.and_eq_true]
    exact ⟨un_iff.mpr ⟨d, h1, h2.1.1, by simp [wo, h3, h2.2]⟩, un_iff.mpr ⟨d, h1, h2.1.2, by simp [wo, h3, h2.2]⟩⟩)
  have b1 := h (fun d => S d || T d)
  have b2 := h (fun d => (S d && T d) && !decide (d = d0))
  have b3 := cnt_rm (q := fun d => S d && T d) m hd (by simp [hS0, hT0])
  omega
/-- how many there are in all the days -/
def siz (A : Nat → Nat → Bool) : Nat → Nat
  | 0 => 0
  | n + 1 => siz A n + cnt (A n) 8
theorem siz_le {A B : Nat → Nat → Bool} : ∀ m, (∀ d p, d < m → B d p = true → A d p = true) → siz B m ≤ siz A m
  | 0, _ => Nat.le_refl 0
  | m + 1, h => by
    have h1 := siz_le m (fun d p hd => h d p (by omega))
    have h2 := cnt_mono (q := B m) (q' := A m) 8 (fun p _ => h m p (by omega))
    simp only [siz]
    omega
theorem siz_wo {A : Nat → Nat → Bool} {d0 x : Nat} (hx : x < 8) (hA : A d0 x = true) : ∀ m, d0 < m → siz (wo A d0 x) m < siz A m
  | 0, h => absurd h (by omega)
  | m + 1, h => by
    simp only [siz]
    by_cases hd : d0 = m
    · subst hd
      have h1 : siz (wo A d0 x) d0 ≤ siz A d0 := siz_le d0 (fun d p _ hp => by simp [wo] at hp; exact hp.1)
      have h2 := cnt_rm (q := A d0) 8 hx hA
      have h3 : cnt (wo A d0 x d0) 8 = cnt (fun j => A d0 j && !decide (j = x)) 8 := cnt_ext 8 (fun j _ => by simp [wo])
      omega
    · have h1 := siz_wo hx hA m (by omega)
      have h2 : cnt (wo A d0 x m) 8 ≤ cnt (A m) 8 := cnt_mono 8 (fun p _ hp => by simp [wo] at hp; exact hp.1)
      omega
theorem hall_sdr : ∀ k (A : Nat → Nat → Bool) (m : Nat), siz A m ≤ k → Hall A m → SDR A m := by
  intro k
  induction k with
  | zero =>
    intro A m hk h
    refine ⟨fun _ => 0, fun d hd => ?_, fun d hd => ?_⟩
    all_goals
      have h1 := h (fun e => decide (e = d))
      have h2 := cnt_rm (q := fun e => decide (e = d)) m hd (by simp)
      have h3 : 0 < cnt (un A m (fun e => decide (e = d))) 8 := by omega
      obtain ⟨p, hp, hu⟩ := cnt_pos h3
      obtain ⟨e, he, _, hA⟩ := un_iff.mp hu
      have := siz_wo hp hA m he
      omega
  | succ k ih =>
    intro A m hk h
    by_cases h2 : ∃ d, d < m ∧ 2 ≤ cnt (A d) 8
    · obtain ⟨d, hd, hc⟩ := h2
      obtain ⟨x, y, hx, hy, hxy, qx, qy⟩ := cnt_two hc
      have fin : ∀ z, z < 8 → A d z = true → Hall (wo A d z) m → SDR A m := by
        intro z hz hA hH
        have := siz_wo hz hA m hd
        obtain ⟨f, f1, f2⟩ := ih (wo A d z) m (by omega) hH
        refine ⟨f, fun e he => ⟨(f1 e he).1, ?_⟩, f2⟩
        have := (f1 e he).2
        simp [wo] at this
        exact this.1
      rcases rado h hd hxy with h | h
      · exact fin x hx qx h
      · exact fin y hy qy h
    · have h1 : ∀ d, d < m → cnt (A d) 8 ≤ 1 := fun d hd => by
        refine Classical.byContradiction fun q => h2 ⟨d, hd, by omega⟩
      have ex : ∀ d, ∃ x, d < m → x < 8 ∧ A d x = true := by
        intro d
        by_cases hd : d < m
        · have a1 := h (fun e => decide (e = d))
          have a2 := cnt_rm (q := fun e => decide (e = d)) m hd (by simp)
          obtain ⟨p, hp, hu⟩ := cnt_pos (q := un A m (fun e => decide (e = d))) (n := 8) (by omega)
          obtain ⟨e, he, h3, hA⟩ := un_iff.mp hu
          simp at h3
          subst h3
          exact ⟨p, fun _ => ⟨hp, hA⟩⟩
        · exact ⟨0, fun q => absurd q hd⟩
      refine ⟨fun d => Classical.choose (ex d), fun d hd => Classical.choose_spec (ex d) hd, fun d hd e he heq => ?_⟩
      have sd := Classical.choose_spec (ex d) hd
      have se := Classical.choose_spec (ex e) (by omega)
      have a1 := h (fun j => decide (j = d) || decide (j = e))
      have a2 := cnt_rm (q := fun j => decide (j = d) || decide (j = e)) m hd (by simp)
      have a3 := cnt_rm (q := fun j => (decide (j = d) || decide (j = e)) && !decide (j = d)) (x := e) m (by omega) (by simp; omega)
      obtain ⟨x, y, hx, hy, hxy, qx, qy⟩ := cnt_two (q := un A m (fun j => decide (j = d) || decide (j = e))) (n := 8) (by omega)
      have one : ∀ z, z < 8 → un A m (fun j => decide (j = d) || decide (j = e)) z = true → z = Classical.choose (ex d) := by
        intro z hz hu
        obtain ⟨j, hj, h3, hA⟩ := un_iff.mp hu
        simp at h3
        rcases h3 with h3 | h3
        · subst h3; exact cnt_one (h1 j hd) hz sd.1 hA sd.2
        · subst h3; exact (cnt_one (h1 j (by omega)) hz se.1 hA se.2).trans heq
      exact hxy ((one x hx qx).trans (one y hy qy).symm)
theorem cnt_img {f : Nat → Nat} {S : Nat → Bool} : ∀ m, (∀ d, d < m → f d < 8) → (∀ d, d < m → ∀ e, e < d → f e ≠ f d) → cnt S m ≤ cnt (fun p => an (fun d => S d && decide (f d = p)) m) 8
  | 0, _, _ => Nat.zero_le _
  | m + 1, h1, h2 => by
    have ih := cnt_img (f := f) (S := S) m (fun d hd => h1 d (by omega)) (fun d hd => h2 d (by omega))
    rw [cnt_s]
    cases hS : S m
    · rw [Bool.toNat_false, Nat.add_zero]
      refine Nat.le_trans ih (cnt_mono 8 (fun p _ hp => ?_))
      simp only [an, hp, Bool.true_or]
    · have a1 := cnt_rm (q := fun p => an (fun d => S d && decide (f d = p)) (m + 1)) 8 (h1 m (by omega)) (by simp [an, hS])
      have a2 : cnt (fun p => an (fun d => S d && decide (f d = p)) m) 8 ≤ cnt (fun p => an (fun d => S d && decide (f d = p)) (m + 1) && !decide (p = f m)) 8 := cnt_mono 8 (fun p _ hp => by
        obtain ⟨d, hd, h3⟩ := (an_iff _ _).mp hp
        simp only [Bool.and_eq_true, decide_eq_true_eq] at h3
        have := h2 m (by omega) d hd
        simp only [an, hp, Bool.true_or, Bool.true_and]
        rw [decide_eq_false (fun e => this (h3.2.trans e))]
        rfl)
      rw [Bool.toNat_true]
      omega
theorem sdr_hall {A : Nat → Nat → Bool} {m : Nat} (h : SDR A m) : Hall A m := by
  obtain ⟨f, f1, f2⟩ := h
  intro S
  refine Nat.le_trans (cnt_img m (fun d hd => (f1 d hd).1) f2) (cnt_mono 8 (fun p _ hp => ?_))
  obtain ⟨d, hd, h3⟩ := (an_iff _ _).mp hp
  simp only [Bool.and_eq_true, decide_eq_true_eq] at h3
  exact un_iff.mpr ⟨d, hd, h3.1, by rw [← h3.2]; exact (f1 d hd).2⟩
theorem hall_iff {A : Nat → Nat → Bool} {m : Nat} : Hall A m ↔ SDR A m := ⟨hall_sdr _ A m (Nat.le_refl _), sdr_hall⟩
