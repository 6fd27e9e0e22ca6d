/-! the pure side, 0: loops, bits, sets (the first family is BITS.to-paste's, turned here) -/
def bt (x : Int32) (i : Nat) : Bool := x.toBitVec.getLsbD i
theorem b_ext {x y : Int32} (h : ∀ i, i < 32 → bt x i = bt y i) : x = y := Int32.toBitVec_inj.mp (BitVec.eq_of_getLsbD_eq (fun i hi => h i hi))
theorem b_or (x y : Int32) (i : Nat) : bt (x ||| y) i = (bt x i || bt y i) := by unfold bt; rw [Int32.toBitVec_or, BitVec.getLsbD_or]
theorem b_and (x y : Int32) (i : Nat) : bt (x &&& y) i = (bt x i && bt y i) := by unfold bt; rw [Int32.toBitVec_and, BitVec.getLsbD_and]
theorem b_xor (x y : Int32) (i : Nat) : bt (x ^^^ y) i = (bt x i ^^ bt y i) := by unfold bt; rw [Int32.toBitVec_xor, BitVec.getLsbD_xor]
theorem b_big {x : Int32} {i : Nat} (h : 32 ≤ i) : bt x i = false := BitVec.getLsbD_of_ge _ _ h
theorem b_m1 : ∀ i, i < 32 → bt (-1) i = true := by decide +kernel
theorem b_0 (i : Nat) : bt 0 i = false := BitVec.getLsbD_zero
theorem b_1 (i : Nat) : bt 1 i = decide (i = 0) := by
  rcases Nat.lt_or_ge i 32 with h | h
  · exact (by decide +kernel : ∀ i, i < 32 → bt 1 i = decide (i = 0)) i h
  · rw [b_big h, decide_eq_false (by omega)]
theorem s_l : ∀ n, n < 32 → ((nI n &&& 31).toBitVec.smod 32).toNat = n := by decide +kernel
theorem b_shl (n : Nat) (hn : n < 32) (x : Int32) {i : Nat} (hi : i < 32) : bt (x <<< (nI n &&& 31)) i = (decide (n ≤ i) && bt x (i - n)) := by
  unfold bt
  rw [Int32.toBitVec_shiftLeft]
  show (x.toBitVec <<< ((nI n &&& 31).toBitVec.smod 32).toNat).getLsbD i = _
  rw [s_l n hn, BitVec.getLsbD_shiftLeft]
  rcases Nat.lt_or_ge i n with h | h
  · simp [h, Nat.not_le.mpr h]
  · simp [hi, h, Nat.not_lt.mpr h]
theorem b_sshr (n : Nat) (hn : n < 32) (x : Int32) {i : Nat} (hi : i < 32) : bt (x >>> (nI n &&& 31)) i = if n + i < 32 then bt x (n + i) else bt x 31 := by
  unfold bt
  rw [Int32.toBitVec_shiftRight]
  show (x.toBitVec.sshiftRight ((nI n &&& 31).toBitVec.smod 32).toNat).getLsbD i = _
  rw [s_l n hn, BitVec.getLsbD_sshiftRight, BitVec.msb_eq_getLsbD_last]
  simp [hi]
/-- one bit: 1 << k -/
theorem b_one {k : Nat} (hk : k < 32) {i : Nat} (hi : i < 32) : bt ((1 : Int32) <<< (nI k &&& 31)) i = decide (i = k) := by
  rw [b_shl k hk _ hi, b_1]
  by_cases h : i = k
  · subst h; simp
  · by_cases h2 : k ≤ i
    · have : i - k ≠ 0 := by omega
      simp [h, this]
    · simp [h, h2]
theorem b_not (x : Int32) {i : Nat} (hi : i < 32) : bt (x ^^^ (-1)) i = !bt x i := by rw [b_xor, b_m1 i hi]; cases bt x i <;> rfl
/-- the test of a bit, as the code writes it -/
theorem h_bit (s : Int32) {k : Nat} (hk : k < 32) : ((s >>> (nI k &&& 31)) &&& 1) = if bt s k then 1 else 0 := by
  apply b_ext
  intro i hi
  rw [b_and, b_1, b_sshr k hk s hi]
  by_cases h0 : i = 0
  · subst h0
    simp [hk]
    cases bt s k <;> simp [b_1, b_0]
  · simp [h0]
    cases bt s k <;> simp [b_1, b_0, h0]
theorem h_bit1 (s : Int32) {k : Nat} (hk : k < 32) : ((s >>> (nI k &&& 31)) &&& 1) = 1 ↔ bt s k = true := by
  rw [h_bit s hk]
  cases bt s k <;> simp <;> decide
/-- a test as the code writes it, of any number -/
def hb (s w : Int32) : Bool := decide (((s >>> (w &&& 31)) &&& 1) = 1)
theorem hb_nI (s : Int32) {k : Nat} (hk : k < 32) : hb s (nI k) = bt s k := by
  unfold hb
  rw [Bool.eq_iff_iff, decide_eq_true_eq]
  exact h_bit1 s hk
/-- 0 or 1 -/
def B01 (b : Bool) : Int32 := if b then 1 else 0
theorem B01_t : B01 true = 1 := rfl
theorem B01_f : B01 false = 0 := rfl
theorem B01_0 {b : Bool} : B01 b = 0 ↔ b = false := by cases b <;> decide
theorem B01_z (b : Bool) : xvz (B01 b) := by cases b; exact xvz_0; exact xvz_1
/-- a branch on 0 or 1 -/
theorem br_b {b : Bool} {A C : Prop} (f : b = false → A) (t : b = true → C) : (B01 b = 0 → A) ∧ (¬ B01 b = 0 → C) := by
  cases b
  · exact ⟨fun _ => f rfl, fun h => absurd rfl h⟩
  · exact ⟨fun h => absurd h (by decide), fun _ => t rfl⟩
theorem ite_b {b : Bool} {Φ : Int32 → Prop} (h : Φ (B01 b)) : (b = true → Φ 1) ∧ (¬ b = true → Φ 0) := by
  cases b
  · exact ⟨fun h => absurd h (by decide), fun _ => h⟩
  · exact ⟨fun _ => h, fun h => absurd rfl h⟩
/-- sets of 8 -/
def sml (x : Int32) : Prop := ∀ i, 8 ≤ i → bt x i = false
theorem sml_nI {n : Nat} (h : n < 256) : sml (nI n) := by
  intro i hi
  show (BitVec.ofNat 32 n).getLsbD i = false
  rw [BitVec.getLsbD_ofNat]
  have : n.testBit i = false := Nat.testBit_lt_two_pow (Nat.lt_of_lt_of_le (show n < 2 ^ 8 from h) (Nat.pow_le_pow_right (by decide) hi))
  simp [this]
theorem sml_of {x : Int32} (h : sml x) : ∃ n, n < 256 ∧ x = nI n := by
  have h1 : x = x &&& 255 := by
    apply b_ext
    intro i hi
    rw [b_and]
    by_cases h8 : i < 8
    · rw [(by decide +kernel : ∀ i, i < 8 → bt 255 i = true) i h8]; simp
    · rw [h i (by omega)]; simp
  obtain ⟨j, hj, e⟩ := pk_andE x (m := 255) 8 (by decide)
  exact ⟨j, hj, h1.trans e⟩
theorem sml_and {x y : Int32} (h : sml x) : sml (x &&& y) := fun i hi => by rw [b_and, h i hi]; rfl
theorem sml_or {x y : Int32} (h : sml x) (h2 : sml y) : sml (x ||| y) := fun i hi => by rw [b_or, h i hi, h2 i hi]; rfl
theorem sml_xor {x y : Int32} (h : sml x) (h2 : sml y) : sml (x ^^^ y) := fun i hi => by rw [b_xor, h i hi, h2 i hi]; rfl
theorem sml_one {k : Nat} (hk : k < 8) : sml ((1 : Int32) <<< (nI k &&& 31)) := fun i hi => by
  by_cases h : i < 32
  · rw [b_one (by omega) h, decide_eq_false (by omega)]
  · exact b_big (by omega)
theorem sml_0 : sml 0 := fun i _ => b_0 i
theorem sml_ext {x y : Int32} (hx : sml x) (hy : sml y) (h : ∀ i, i < 8 → bt x i = bt y i) : x = y := b_ext fun i _ => by
  by_cases h8 : i < 8
  · exact h i h8
  · rw [hx i (by omega), hy i (by omega)]
/-! loops -/
theorem xit1_i {α : Type} {B : (α → Prop) → α → Prop} (I : Nat → α → Prop) (hs : ∀ n a rec, I n a → (∀ m a', m < n → I m a' → rec a') → B rec a) : ∀ k n a, n < k → I n a → xit1 B k a
  | 0, n, a, h, _ => absurd h (by omega)
  | k + 1, n, a, h, hI => hs n a (xit1 B k) hI (fun m a' hm hI' => xit1_i I hs k m a' (by omega) hI')
theorem xit2_i {α β : Type} {B : (α → β → Prop) → α → β → Prop} (I : Nat → α → β → Prop) (hs : ∀ n a b rec, I n a b → (∀ m a' b', m < n → I m a' b' → rec a' b') → B rec a b) : ∀ k n a b, n < k → I n a b → xit2 B k a b
  | 0, n, a, b, h, _ => absurd h (by omega)
  | k + 1, n, a, b, h, hI => hs n a b (xit2 B k) hI (fun m a' b' hm hI' => xit2_i I hs k m a' b' (by omega) hI')
theorem xit3_i {α β γ : Type} {B : (α → β → γ → Prop) → α → β → γ → Prop} (I : Nat → α → β → γ → Prop) (hs : ∀ n a b c rec, I n a b c → (∀ m a' b' c', m < n → I m a' b' c' → rec a' b' c') → B rec a b c) : ∀ k n a b c, n < k → I n a b c → xit3 B k a b c
  | 0, n, a, b, c, h, _ => absurd h (by omega)
  | k + 1, n, a, b, c, h, hI => hs n a b c (xit3 B k) hI (fun m a' b' c' hm hI' => xit3_i I hs k m a' b' c' (by omega) hI')
theorem xit4_i {α β γ δ : Type} {B : (α → β → γ → δ → Prop) → α → β → γ → δ → Prop} (I : Nat → α → β → γ → δ → Prop) (hs : ∀ n a b c d rec, I n a b c d → (∀ m a' b' c' d', m < n → I m a' b' c' d' → rec a' b' c' d') → B rec a b c d) : ∀ k n a b c d, n < k → I n a b c d → xit4 B k a b c d
  | 0, n, a, b, c, d, h, _ => absurd h (by omega)
  | k + 1, n, a, b, c, d, h, hI => hs n a b c d (xit4 B k) hI (fun m a' b' c' d' hm hI' => xit4_i I hs k m a' b' c' d' (by omega) hI')
theorem xit5_i {α β γ δ ε : Type} {B : (α → β → γ → δ → ε → Prop) → α → β → γ → δ → ε → Prop} (I : Nat → α → β → γ → δ → ε → Prop) (hs : ∀ n a b c d e rec, I n a b c d e → (∀ m a' b' c' d' e', m < n → I m a' b' c' d' e' → rec a' b' c' d' e') → B rec a b c d e) : ∀ k n a b c d e, n < k → I n a b c d e → xit5 B k a b c d e
  | 0, n, a, b, c, d, e, h, _ => absurd h (by omega)
  | k + 1, n, a, b, c, d, e, h, hI => hs n a b c d e (xit5 B k) hI (fun m a' b' c' d' e' hm hI' => xit5_i I hs k m a' b' c' d' e' (by omega) hI')
theorem xit7_i {α β γ δ ε ζ η : Type} {B : (α → β → γ → δ → ε → ζ → η → Prop) → α → β → γ → δ → ε → ζ → η → Prop} (I : Nat → α → β → γ → δ → ε → ζ → η → Prop) (hs : ∀ n a b c d e f g rec, I n a b c d e f g → (∀ m a' b' c' d' e' f' g', m < n → I m a' b' c' d' e' f' g' → rec a' b' c' d' e' f' g') → B rec a b c d e f g) : ∀ k n a b c d e f g, n < k → I n a b c d e f g → xit7 B k a b c d e f g
  | 0, n, a, b, c, d, e, f, g, h, _ => absurd h (by omega)
  | k + 1, n, a, b, c, d, e, f, g, h, hI => hs n a b c d e f g (xit7 B k) hI (fun m a' b' c' d' e' f' g' hm hI' => xit7_i I hs k m a' b' c' d' e' f' g' (by omega) hI')
/-- a loop that counts up from j to N -/
theorem for1 {B : (Int32 → Prop) → Int32 → Prop} (N : Nat) (P : Nat → Prop) (hs : ∀ j rec, j < N → P j → (P (j + 1) → rec (nI j + 1)) → B rec (nI j)) (hx : ∀ rec, P N → B rec (nI N)) {j : Nat} (hj : j ≤ N) (h : P j) : ∃ n, xit1 B n (nI j) :=
  ⟨N - j + 1, xit1_i (fun n x => ∃ i, i ≤ N ∧ n = N - i ∧ x = nI i ∧ P i) (fun n x rec ⟨i, hi, hn, hx1, hp⟩ k => by
    subst hx1
    by_cases hiN : i < N
    · exact hs i rec hiN hp (fun h1 => nI_succ i ▸ k (N - (i + 1)) _ (by omega) ⟨i + 1, by omega, rfl, rfl, h1⟩)
    · have : i = N := by omega
      subst this
      exact hx rec hp) _ (N - j) _ (by omega) ⟨j, hj, rfl, rfl, h⟩⟩
theorem for2 {α : Type} {B : (α → Int32 → Prop) → α → Int32 → Prop} (N : Nat) (P : Nat → α → Prop) (hs : ∀ j a rec, j < N → P j a → (∀ a', P (j + 1) a' → rec a' (nI j + 1)) → B rec a (nI j)) (hx : ∀ a rec, P N a → B rec a (nI N)) {j : Nat} {a : α} (hj : j ≤ N) (h : P j a) : ∃ n, xit2 B n a (nI j) :=
  ⟨N - j + 1, xit2_i (fun n a x => ∃ i, i ≤ N ∧ n = N - i ∧ x = nI i ∧ P i a) (fun n a x rec ⟨i, hi, hn, hx1, hp⟩ k => by
    subst hx1
    by_cases hiN : i < N
    · exact hs i a rec hiN hp (fun a' h1 => nI_succ i ▸ k (N - (i + 1)) _ _ (by omega) ⟨i + 1, by omega, rfl, rfl, h1⟩)
    · have : i = N := by omega
      subst this
      exact hx a rec hp) _ (N - j) _ _ (by omega) ⟨j, hj, rfl, rfl, h⟩⟩
theorem for3 {α β : Type} {B : (α → β → Int32 → Prop) → α → β → Int32 → Prop} (N : Nat) (P : Nat → α → β → Prop) (hs : ∀ j a b rec, j < N → P j a b → (∀ a' b', P (j + 1) a' b' → rec a' b' (nI j + 1)) → B rec a b (nI j)) (hx : ∀ a b rec, P N a b → B rec a b (nI N)) {j : Nat} {a : α} {b : β} (hj : j ≤ N) (h : P j a b) : ∃ n, xit3 B n a b (nI j) :=
  ⟨N - j + 1, xit3_i (fun n a b x => ∃ i, i ≤ N ∧ n = N - i ∧ x = nI i ∧ P i a b) (fun n a b x rec ⟨i, hi, hn, hx1, hp⟩ k => by
    subst hx1
    by_cases hiN : i < N
    · exact hs i a b rec hiN hp (fun a' b' h1 => nI_succ i ▸ k (N - (i + 1)) _ _ _ (by omega) ⟨i + 1, by omega, rfl, rfl, h1⟩)
    · have : i = N := by omega
      subst this
      exact hx a b rec hp) _ (N - j) _ _ _ (by omega) ⟨j, hj, rfl, rfl, h⟩⟩
theorem for4 {α β γ : Type} {B : (α → β → γ → Int32 → Prop) → α → β → γ → Int32 → Prop} (N : Nat) (P : Nat → α → β → γ → Prop) (hs : ∀ j a b c rec, j < N → P j a b c → (∀ a' b' c', P (j + 1) a' b' c' → rec a' b' c' (nI j + 1)) → B rec a b c (nI j)) (hx : ∀ a b c rec, P N a b c → B rec a b c (nI N)) {j : Nat} {a : α} {b : β} {c : γ} (hj : j ≤ N) (h : P j a b c) : ∃ n, xit4 B n a b c (nI j) :=
  ⟨N - j + 1, xit4_i (fun n a b c x => ∃ i, i ≤ N ∧ n = N - i ∧ x = nI i ∧ P i a b c) (fun n a b c x rec ⟨i, hi, hn, hx1, hp⟩ k => by
    subst hx1
    by_cases hiN : i < N
    · exact hs i a b c rec hiN hp (fun a' b' c' h1 => nI_succ i ▸ k (N - (i + 1)) _ _ _ _ (by omega) ⟨i + 1, by omega, rfl, rfl, h1⟩)
    · have : i = N := by omega
      subst this
      exact hx a b c rec hp) _ (N - j) _ _ _ _ (by omega) ⟨j, hj, rfl, rfl, h⟩⟩
theorem for5 {α β γ δ : Type} {B : (α → β → γ → δ → Int32 → Prop) → α → β → γ → δ → Int32 → Prop} (N : Nat) (P : Nat → α → β → γ → δ → Prop) (hs : ∀ j a b c d rec, j < N → P j a b c d → (∀ a' b' c' d', P (j + 1) a' b' c' d' → rec a' b' c' d' (nI j + 1)) → B rec a b c d (nI j)) (hx : ∀ a b c d rec, P N a b c d → B rec a b c d (nI N)) {j : Nat} {a : α} {b : β} {c : γ} {d : δ} (hj : j ≤ N) (h : P j a b c d) : ∃ n, xit5 B n a b c d (nI j) :=
  ⟨N - j + 1, xit5_i (fun n a b c d x => ∃ i, i ≤ N ∧ n = N - i ∧ x = nI i ∧ P i a b c d) (fun n a b c d x rec ⟨i, hi, hn, hx1, hp⟩ k => by
    subst hx1
    by_cases hiN : i < N
    · exact hs i a b c d rec hiN hp (fun a' b' c' d' h1 => nI_succ i ▸ k (N - (i + 1)) _ _ _ _ _ (by omega) ⟨i + 1, by omega, rfl, rfl, h1⟩)
    · have : i = N := by omega
      subst this
      exact hx a b c d rec hp) _ (N - j) _ _ _ _ _ (by omega) ⟨j, hj, rfl, rfl, h⟩⟩
/-! comparisons of numbers written -/
theorem le_t {a b : Nat} (h : a ≤ b) (hb : b < 2 ^ 31) : nI a ≤ nI b := nI_le h hb
theorem br_le {a b : Nat} {A C : Prop} (ha : a < 2 ^ 31) (hb : b < 2 ^ 31) (f : a ≤ b → A) (g : b < a → C) : (nI a ≤ nI b → A) ∧ (¬ nI a ≤ nI b → C) := ⟨fun h => f ((nI_leI ha hb).mp h), fun h => g (Nat.not_le.mp fun q => h ((nI_leI ha hb).mpr q))⟩
theorem br_lt {a b : Nat} {A C : Prop} (ha : a < 2 ^ 31) (hb : b < 2 ^ 31) (f : a < b → A) (g : b ≤ a → C) : (nI a < nI b → A) ∧ (¬ nI a < nI b → C) := ⟨fun h => f ((nI_ltI ha hb).mp h), fun h => g (Nat.not_lt.mp fun q => h ((nI_ltI ha hb).mpr q))⟩
theorem br_eq {a b : Nat} {A C : Prop} (ha : a < 2 ^ 31) (hb : b < 2 ^ 31) (f : a = b → A) (g : a ≠ b → C) : (nI a = nI b → A) ∧ (¬ nI a = nI b → C) := ⟨fun h => f ((nI_eq ha hb).mp h), fun h => g (fun q => h ((nI_eq ha hb).mpr q))⟩
theorem nge {x : Int32} {N j : Nat} (hx : x = nI N) (hN : N < 2 ^ 31) (h : j < N) : ¬ x ≤ nI j := by rw [hx]; exact nI_ge h hN
theorem nle {x : Int32} {N j : Nat} (hx : x = nI N) (hj : j < 2 ^ 31) (h : N ≤ j) : x ≤ nI j := by rw [hx]; exact nI_le h hj
theorem ge8 {j : Nat} (h : j < 8) : ¬ (8 : Int32) ≤ nI j := nge (N := 8) rfl (by omega) h
theorem le8 : (8 : Int32) ≤ nI 8 := nle (N := 8) rfl (by omega) (Nat.le_refl 8)
