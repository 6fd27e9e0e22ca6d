def wp_X7_put (p0 : Nat → Int32) (n_p0 : Nat) (p1 : Int32) (p2 : Int32) (Φ : (Nat → Int32) → Prop) : Prop :=
  ((p1 < 0 → (Φ p0)) ∧ (¬ p1 < 0 → (((Int32.ofNat n_p0) ≤ p1 → (Φ p0)) ∧ (¬ (Int32.ofNat n_p0) ≤ p1 → (vp_in p1 n_p0 ∧ (Φ (upd p0 p1.toNatClampNeg p2)))))))
abbrev xrm_X7_put : Room := { frames := 0, cells := 0, slots := 0, locals := 0 }
set_option maxRecDepth 100000 in
set_option maxHeartbeats 4000000 in
theorem c_X7_put (l : Launch) (D : va_G) (cI cZ cO : ClassId) {p0 : Nat → Int32} {a_p0 : Nat} {n_p0 : Nat} {p1 : Int32} {p2 : Int32} {Φ : (Nat → Int32) → Prop} {sz : Nat} (hw : (wp_X7_put p0 n_p0 p1 p2 Φ)) : Met l yX7_put wsX7_put xrm_X7_put (xPW D cI cZ cO [.ref a_p0, .int p1, .int p2] sz [(a_p0, .inl (cI, n_p0, .inl p0))]) (va_Qv (fun (u : (Nat → Int32)) => Φ u) (xB D (va_A [(a_p0, .inl (cI, n_p0, .inl p0))] sz) (fun (u : (Nat → Int32)) => [(a_p0, .inl (cI, n_p0, .inl u))])) (va_A [(a_p0, .inl (cI, n_p0, .inl p0))] sz)) 0 0 (va_A [(a_p0, .inl (cI, n_p0, .inl p0))] sz) := by
  refine Met.ofW (cc := cX7_put) (maxL := 3) (ret := none) (by decide) rfl ?_
  intro p e s m args below meth c s₁ B hml hv
  obtain ⟨rfl, hsz, hP, hKK, hD0⟩ := hv
  have hx := B.exec
  have hb := B.bytes
  have hr := B.returns
  have hts := atoms_spec (ws := wsX7_put) B.pre
  have hown : s.vm.findClass RX7 = some m.cls := findClass_of_methodNamed B.named
  have hlocks := B.notSynchronized
  subst hsz
  have hD := hD0.self (sz := s.heap.size)
  obtain ⟨Q, hQ⟩ : ∃ Q, Q = MQ below (va_Qv (fun (u : (Nat → Int32)) => Φ u) (xB D (va_A [(a_p0, .inl (cI, n_p0, .inl p0))] s.heap.size) (fun (u : (Nat → Int32)) => [(a_p0, .inl (cI, n_p0, .inl u))])) (va_A [(a_p0, .inl (cI, n_p0, .inl p0))] s.heap.size)) ([.ref a_p0, .int p1, .int p2] : List Value).toArray s 0 0 (va_A [(a_p0, .inl (cI, n_p0, .inl p0))] s.heap.size) := ⟨_, rfl⟩
  rw [← hQ]
  generalize hAe : va_A [(a_p0, .inl (cI, n_p0, .inl p0))] s.heap.size = A at hD hQ
  have hA : ∀ q : Nat, s.heap.size ≤ q → A q := fun q h => by rw [← hAe]; exact Or.inr h
  have hS : va_S A s.heap s.heap [] := va_S.rf
  have hl := lv_entry ([.ref a_p0, .int p1, .int p2]) (n := 3) (Nat.le_of_ble_eq_true rfl)
  rw [lg_entry_eq]
  generalize (lg_sl ([.ref a_p0, .int p1, .int p2]) ++ List.replicate (3 - (lg_sl ([.ref a_p0, .int p1, .int p2])).length) Slot.unset).toArray = ls at hl ⊢
  have hl : lv_has ls 3 [(0, .ref a_p0), (1, .int p1), (2, .int p2)] := hl
  generalize ([.ref a_p0, .int p1, .int p2] : List Value).toArray = args at hts hQ ⊢
  have hP : va_P D vwCl [(a_p0, .inl (cI, n_p0, .inl p0))] s.heap := hP
  clear B
  show W p l e xrm_X7_put s m args below meth c s.heap [] 0 0 Q (F0 m 0 ls [])
  unfold wp_X7_put at hw
  refine lv_iload_n hx hb dX7_put_0 rfl (lv_at hl 1 rfl) ?_
  refine lv_if_lt (tgt := 14) hx hb dX7_put_1 (by decide) (fun c_1 => ?_) (fun c_1 => ?_)
  · have hw := hw.1 c_1
    rw [hQ]
    exact W.vret hx hb hr (fun t ht _ => ⟨⟨p0, rfl, hw, by rw [ht]; exact hP, hD⟩, hS.F ht⟩) hS.2.2 dX7_put_14
  · have hw := hw.2 c_1
    refine lv_iload_n hx hb dX7_put_4 rfl (lv_at hl 1 rfl) ?_
    refine lv_aload_n hx hb dX7_put_5 rfl (lv_at hl 0 rfl) ?_
    refine va_alen (v := (Int32.ofNat n_p0)) hx hb hKK.1 hP 0 0 rfl rfl rfl dX7_put_6 ?_
    refine lv_icmp_ge (tgt := 14) hx hb dX7_put_7 (by decide) (fun c_7 => ?_) (fun c_7 => ?_)
    · have hw := hw.1 c_7
      rw [hQ]
      exact W.vret hx hb hr (fun t ht _ => ⟨⟨p0, rfl, hw, by rw [ht]; exact hP, hD⟩, hS.F ht⟩) hS.2.2 dX7_put_14
    · have hw := hw.2 c_7
      refine lv_aload_n hx hb dX7_put_10 rfl (lv_at hl 0 rfl) ?_
      refine lv_iload_n hx hb dX7_put_11 rfl (lv_at hl 1 rfl) ?_
      refine lv_iload_n hx hb dX7_put_12 rfl (lv_at hl 2 rfl) ?_
      obtain ⟨hin, hw⟩ := hw
      refine va_iast hx hb hKK.1 hP hD hS 0 0 rfl rfl hin dX7_put_13 (fun H locs hP hD hS => ?_)
      have hP : va_P D vwCl [(a_p0, .inl (cI, n_p0, .inl (upd p0 p1.toNatClampNeg p2)))] H := hP
      have hD : va_D A [(a_p0, .inl (cI, n_p0, .inl (upd p0 p1.toNatClampNeg p2)))] := hD
      rw [hQ]
      exact W.vret hx hb hr (fun t ht _ => ⟨⟨(upd p0 p1.toNatClampNeg p2), rfl, hw, by rw [ht]; exact hP, hD⟩, hS.F ht⟩) hS.2.2 dX7_put_14
def wp_X0_add (count : Int32) (people : Nat → Int32) (marks : Nat → Int32) (p1 : Int32) (p2 : Int32) (Φ : Int32 → (Nat → Int32) → (Nat → Int32) → Int32 → Prop) : Prop :=
  ((count < 15 → (wp_X7_put people 15 count p1 (fun people_20 => (wp_X7_put marks 15 count p2 (fun marks_32 => (Φ 1 people_20 marks_32 (count + 1))))))) ∧ (¬ count < 15 → (Φ 0 people marks count)))
abbrev xrm_X0_add : Room := { frames := 1, cells := 0, slots := 0, locals := 22 }
set_option maxRecDepth 100000 in
set_option maxHeartbeats 4000000 in
theorem c_X0_add (l : Launch) (D : va_G) (cI cZ cO : ClassId) {a_people : Nat} {a_marks : Nat} {count : Int32} {a_this : Nat} {people : Nat → Int32} {marks : Nat → Int32} {p1 : Int32} {p2 : Int32} {Φ : Int32 → (Nat → Int32) → (Nat → Int32) → Int32 → Prop} {sz : Nat} (hw : (wp_X0_add count people marks p1 p2 Φ)) : Met l yX0_add wsX0_add xrm_X0_add (xPW D cI cZ cO [.ref a_this, .int p1, .int p2] sz [(a_this, .inr (0, [.ref a_people, .ref a_marks, .int count])), (a_people, .inl (cI, 15, .inl people)), (a_marks, .inl (cI, 15, .inl marks))]) (va_Qi (fun (r : Int32) (u : (Nat → Int32) × (Nat → Int32) × Int32) => Φ r u.1 u.2.1 u.2.2) (xB D (va_A [(a_this, .inr (0, [.ref a_people, .ref a_marks, .int count])), (a_people, .inl (cI, 15, .inl people)), (a_marks, .inl (cI, 15, .inl marks))] sz) (fun (u : (Nat → Int32) × (Nat → Int32) × Int32) => [(a_this, .inr (0, [.ref a_people, .ref a_marks, .int u.2.2])), (a_people, .inl (cI, 15, .inl u.1)), (a_marks, .inl (cI, 15, .inl u.2.1))])) (va_A [(a_this, .inr (0, [.ref a_people, .ref a_marks, .int count])), (a_people, .inl (cI, 15, .inl people)), (a_marks, .inl (cI, 15, .inl marks))] sz)) 0 0 (va_A [(a_this, .inr (0, [.ref a_people, .ref a_marks, .int count])), (a_people, .inl (cI, 15, .inl people)), (a_marks, .inl (cI, 15, .inl marks))] sz) := by
  refine Met.ofW (cc := cX0_add) (maxL := 3) (ret := (some .boolean)) (by decide) rfl ?_
  intro p e s m args below meth c s₁ B hml hv
  obtain ⟨rfl, hsz, hP, hKK, hD0⟩ := hv
  have hx := B.exec
  have hb := B.bytes
  have hr := B.returns
  have hts := atoms_spec (ws := wsX0_add) B.pre
  have hown : s.vm.findClass RX0 = some m.cls := findClass_of_methodNamed B.named
  have hlocks := B.notSynchronized
  subst hsz
  have hD := hD0.self (sz := s.heap.size)
  obtain ⟨Q, hQ⟩ : ∃ Q, Q = MQ below (va_Qi (fun (r : Int32) (u : (Nat → Int32) × (Nat → Int32) × Int32) => Φ r u.1 u.2.1 u.2.2) (xB D (va_A [(a_this, .inr (0, [.ref a_people, .ref a_marks, .int count])), (a_people, .inl (cI, 15, .inl people)), (a_marks, .inl (cI, 15, .inl marks))] s.heap.size) (fun (u : (Nat → Int32) × (Nat → Int32) × Int32) => [(a_this, .inr (0, [.ref a_people, .ref a_marks, .int u.2.2])), (a_people, .inl (cI, 15, .inl u.1)), (a_marks, .inl (cI, 15, .inl u.2.1))])) (va_A [(a_this, .inr (0, [.ref a_people, .ref a_marks, .int count])), (a_people, .inl (cI, 15, .inl people)), (a_marks, .inl (cI, 15, .inl marks))] s.heap.size)) ([.ref a_this, .int p1, .int p2] : List Value).toArray s 0 0 (va_A [(a_this, .inr (0, [.ref a_people, .ref a_marks, .int count])), (a_people, .inl (cI, 15, .inl people)), (a_marks, .inl (cI, 15, .inl marks))] s.heap.size) := ⟨_, rfl⟩
  rw [← hQ]
  generalize hAe : va_A [(a_this, .inr (0, [.ref a_people, .ref a_marks, .int count])), (a_people, .inl (cI, 15, .inl people)), (a_marks, .inl (cI, 15, .inl marks))] s.heap.size = A at hD hQ
  have hA : ∀ q : Nat, s.heap.size ≤ q → A q := fun q h => by rw [← hAe]; exact Or.inr h
  have hS : va_S A s.heap s.heap [] := va_S.rf
  have hl := lv_entry ([.ref a_this, .int p1, .int p2]) (n := 3) (Nat.le_of_ble_eq_true rfl)
  rw [lg_entry_eq]
  generalize (lg_sl ([.ref a_this, .int p1, .int p2]) ++ List.replicate (3 - (lg_sl ([.ref a_this, .int p1, .int p2])).length) Slot.unset).toArray = ls at hl ⊢
  have hl : lv_has ls 3 [(0, .ref a_this), (1, .int p1), (2, .int p2)] := hl
  generalize ([.ref a_this, .int p1, .int p2] : List Value).toArray = args at hts hQ ⊢
  have hP : va_P D vwCl [(a_this, .inr (0, [.ref a_people, .ref a_marks, .int count])), (a_people, .inl (cI, 15, .inl people)), (a_marks, .inl (cI, 15, .inl marks))] s.heap := hP
  have hinX0 : ∀ w ∈ u_ws RX0 TX0 3, w ∈ wsX0_add := by decide +kernel
  have fl_9 := hts (.fieldLink RX0 9 "DoubleChain$Book" "people" "[I") (by decide +kernel)
  have fl_15 := hts (.fieldLink RX0 15 "DoubleChain$Book" "marks" "[I") (by decide +kernel)
  have fl_18 := hts (.fieldLink RX0 18 "DoubleChain$Book" "count" "I") (by decide +kernel)
  clear B
  show W p l e xrm_X0_add s m args below meth c s.heap [] 0 0 Q (F0 m 0 ls [])
  unfold wp_X0_add at hw
  refine lv_aload_n hx hb dX0_add_0 rfl (lv_at hl 0 rfl) ?_
  refine va_get (D := D) (ci := 0) (v := .int count) (C := RX0) (T := TX0) (N := 3) hx hb hts hinX0 hown hKK.1 hP 0 rfl rfl 2 (by decide) fl_18 (fun _ h9 => h9) rfl dX0_add_1 ?_
  refine lv_bipush (v := 15) hx hb dX0_add_4 (by decide) ?_
  refine lv_icmp_lt (tgt := 11) hx hb dX0_add_6 (by decide) (fun c_6 => ?_) (fun c_6 => ?_)
  · have hw := hw.1 c_6
    refine lv_aload_n hx hb dX0_add_11 rfl (lv_at hl 0 rfl) ?_
    refine va_get (D := D) (ci := 0) (v := .ref a_people) (C := RX0) (T := TX0) (N := 3) hx hb hts hinX0 hown hKK.1 hP 0 rfl rfl 0 (by decide) fl_9 (fun _ h9 => h9) rfl dX0_add_12 ?_
    refine lv_aload_n hx hb dX0_add_15 rfl (lv_at hl 0 rfl) ?_
    refine va_get (D := D) (ci := 0) (v := .int count) (C := RX0) (T := TX0) (N := 3) hx hb hts hinX0 hown hKK.1 hP 0 rfl rfl 2 (by decide) fl_18 (fun _ h9 => h9) rfl dX0_add_16 ?_
    refine lv_iload_n hx hb dX0_add_19 rfl (lv_at hl 1 rfl) ?_
    refine xwNv (wr := [(a_this, .inr (0, [.ref a_people, .ref a_marks, .int count])), (a_marks, .inl (cI, 15, .inl marks))]) (As := [.ref a_people, .int count, .int p1]) (rest := []) (wc := [(a_people, .inl (cI, 15, .inl people))]) (fun (u : (Nat → Int32)) => [(a_this, .inr (0, [.ref a_people, .ref a_marks, .int count])), (a_people, .inl (cI, 15, .inl u)), (a_marks, .inl (cI, 15, .inl marks))]) ⟨hx, hb, hml, hown, hts⟩ (c_X7_put l D cI cZ cO hw) ⟨va_cnB 3 hts gX0_add_X7_put_n22 rfl rfl rfl (xn_18 hKK.2) (hts (.initialized RX7) (by decide +kernel)) (by decide +kernel) ⟨Nat.le_of_ble_eq_true rfl, Nat.le_of_ble_eq_true rfl⟩, hts (.static yX7_put) (by decide +kernel), trivial⟩ hKK hP hD hS hA [1] [0, 2] [0, 2, 1] rfl rfl rfl rfl rfl (by decide) (fun _ => rfl) rfl hl.1 rfl (Nat.le_of_ble_eq_true rfl) dX0_add_20 ⟨Nat.zero_le _, Nat.zero_le _⟩ (fun people_20 H locs hw hP hD hS => ?_)
    have hP : va_P D vwCl [(a_this, .inr (0, [.ref a_people, .ref a_marks, .int count])), (a_people, .inl (cI, 15, .inl people_20)), (a_marks, .inl (cI, 15, .inl marks))] H := hP
    have hD : va_D A [(a_this, .inr (0, [.ref a_people, .ref a_marks, .int count])), (a_people, .inl (cI, 15, .inl people_20)), (a_marks, .inl (cI, 15, .inl marks))] := hD
    refine lv_aload_n hx hb dX0_add_23 rfl (lv_at hl 0 rfl) ?_
    refine va_get (D := D) (ci := 0) (v := .ref a_marks) (C := RX0) (T := TX0) (N := 3) hx hb hts hinX0 hown hKK.1 hP 0 rfl rfl 1 (by decide) fl_15 (fun _ h9 => h9) rfl dX0_add_24 ?_
    refine lv_aload_n hx hb dX0_add_27 rfl (lv_at hl 0 rfl) ?_
    refine va_get (D := D) (ci := 0) (v := .int count) (C := RX0) (T := TX0) (N := 3) hx hb hts hinX0 hown hKK.1 hP 0 rfl rfl 2 (by decide) fl_18 (fun _ h9 => h9) rfl dX0_add_28 ?_
    refine lv_iload_n hx hb dX0_add_31 rfl (lv_at hl 2 rfl) ?_
    refine xwNv (wr := [(a_this, .inr (0, [.ref a_people, .ref a_marks, .int count])), (a_people, .inl (cI, 15, .inl people_20))]) (As := [.ref a_marks, .int count, .int p2]) (rest := []) (wc := [(a_marks, .inl (cI, 15, .inl marks))]) (fun (u : (Nat → Int32)) => [(a_this, .inr (0, [.ref a_people, .ref a_marks, .int count])), (a_people, .inl (cI, 15, .inl people_20)), (a_marks, .inl (cI, 15, .inl u))]) ⟨hx, hb, hml, hown, hts⟩ (c_X7_put l D cI cZ cO hw) ⟨va_cnB 3 hts gX0_add_X7_put_n22 rfl rfl rfl (xn_18 hKK.2) (hts (.initialized RX7) (by decide +kernel)) (by decide +kernel) ⟨Nat.le_of_ble_eq_true rfl, Nat.le_of_ble_eq_true rfl⟩, hts (.static yX7_put) (by decide +kernel), trivial⟩ hKK hP hD hS hA [2] [0, 1] [0, 1, 2] rfl rfl rfl rfl rfl (by decide) (fun _ => rfl) rfl hl.1 rfl (Nat.le_of_ble_eq_true rfl) dX0_add_32 ⟨Nat.zero_le _, Nat.zero_le _⟩ (fun marks_32 H locs hw hP hD hS => ?_)
    have hP : va_P D vwCl [(a_this, .inr (0, [.ref a_people, .ref a_marks, .int count])), (a_people, .inl (cI, 15, .inl people_20)), (a_marks, .inl (cI, 15, .inl marks_32))] H := hP
    have hD : va_D A [(a_this, .inr (0, [.ref a_people, .ref a_marks, .int count])), (a_people, .inl (cI, 15, .inl people_20)), (a_marks, .inl (cI, 15, .inl marks_32))] := hD
    refine lv_aload_n hx hb dX0_add_35 rfl (lv_at hl 0 rfl) ?_
    refine lv_dup hx hb dX0_add_36 rfl ?_
    refine va_get (D := D) (ci := 0) (v := .int count) (C := RX0) (T := TX0) (N := 3) hx hb hts hinX0 hown hKK.1 hP 0 rfl rfl 2 (by decide) fl_18 (fun _ h9 => h9) rfl dX0_add_37 ?_
    refine lv_iconst (v := 1) hx hb dX0_add_40 (by decide) ?_
    refine lv_iadd hx hb dX0_add_41 ?_
    refine va_put (D := D) (ci := 0) (v := .int (count + 1)) (ty := .int) (C := RX0) (T := TX0) (N := 3) hx hb hts hinX0 tyX0 tyX0_ok nmX0 hown hKK.1 hP hD hS 0 rfl rfl 2 (by decide) fl_18 (fun _ h9 => h9) rfl (by decide +kernel) rfl rfl (Nat.le_of_ble_eq_true rfl) dX0_add_42 (fun H locs hP hD hS => ?_)
    have hP : va_P D vwCl [(a_this, .inr (0, [.ref a_people, .ref a_marks, .int (count + 1)])), (a_people, .inl (cI, 15, .inl people_20)), (a_marks, .inl (cI, 15, .inl marks_32))] H := hP
    have hD : va_D A [(a_this, .inr (0, [.ref a_people, .ref a_marks, .int (count + 1)])), (a_people, .inl (cI, 15, .inl people_20)), (a_marks, .inl (cI, 15, .inl marks_32))] := hD
    refine lv_iconst (v := 1) hx hb dX0_add_45 (by decide) ?_
    rw [hQ]
    exact W.zret (v := 1) hx hb hr xvz_1 (fun t ht _ => ⟨⟨1, ⟨people_20, marks_32, (count + 1)⟩, rfl, hw, by rw [ht]; exact hP, hD⟩, hS.F ht⟩) hS.2.2 dX0_add_46
  · have hw := hw.2 c_6
    refine lv_iconst (v := 0) hx hb dX0_add_9 (by decide) ?_
    rw [hQ]
    exact W.zret (v := 0) hx hb hr xvz_0 (fun t ht _ => ⟨⟨0, ⟨people, marks, count⟩, rfl, hw, by rw [ht]; exact hP, hD⟩, hS.F ht⟩) hS.2.2 dX0_add_10
def wp_X7_at (p0 : Nat → Int32) (n_p0 : Nat) (p1 : Int32) (Φ : Int32 → Prop) : Prop :=
  ((p1 < 0 → (Φ 0)) ∧ (¬ p1 < 0 → (((Int32.ofNat n_p0) ≤ p1 → (Φ 0)) ∧ (¬ (Int32.ofNat n_p0) ≤ p1 → (vp_in p1 n_p0 ∧ (Φ (p0 p1.toNatClampNeg)))))))
abbrev xrm_X7_at : Room := { frames := 0, cells := 0, slots := 0, locals := 0 }
set_option maxRecDepth 100000 in
set_option maxHeartbeats 4000000 in
theorem c_X7_at (l : Launch) (D : va_G) (cI cZ cO : ClassId) {p0 : Nat → Int32} {a_p0 : Nat} {n_p0 : Nat} {p1 : Int32} {Φ : Int32 → Prop} (hw : (wp_X7_at p0 n_p0 p1 Φ)) : Met l yX7_at wsX7_at xrm_X7_at (xPR D cI cZ cO [.ref a_p0, .int p1] [(a_p0, .inl (cI, n_p0, .inl p0))]) (vp_Si Φ) 0 0 (fun _ => False) := by
  refine Met.ofW (cc := cX7_at) (maxL := 2) (ret := (some .int)) (by decide) rfl ?_
  intro p e s m args below meth c s₁ B hml hv
  obtain ⟨rfl, hP, hKK⟩ := hv
  have hx := B.exec
  have hb := B.bytes
  have hr := B.returns
  have hts := atoms_spec (ws := wsX7_at) B.pre
  have hown : s.vm.findClass RX7 = some m.cls := findClass_of_methodNamed B.named
  have hlocks := B.notSynchronized
  obtain ⟨Q, hQ⟩ : ∃ Q, Q = MQ below (vp_Si Φ) ([.ref a_p0, .int p1] : List Value).toArray s 0 0 (fun _ => False) := ⟨_, rfl⟩
  rw [← hQ]
  have hl := lv_entry ([.ref a_p0, .int p1]) (n := 2) (Nat.le_of_ble_eq_true rfl)
  rw [lg_entry_eq]
  generalize (lg_sl ([.ref a_p0, .int p1]) ++ List.replicate (2 - (lg_sl ([.ref a_p0, .int p1])).length) Slot.unset).toArray = ls at hl ⊢
  have hl : lv_has ls 2 [(0, .ref a_p0), (1, .int p1)] := hl
  generalize ([.ref a_p0, .int p1] : List Value).toArray = args at hts hQ ⊢
  have hP : va_P D vwCl [(a_p0, .inl (cI, n_p0, .inl p0))] s.heap := hP
  clear B
  show W p l e xrm_X7_at s m args below meth c s.heap [] 0 0 Q (F0 m 0 ls [])
  unfold wp_X7_at at hw
  refine lv_iload_n hx hb dX7_at_0 rfl (lv_at hl 1 rfl) ?_
  refine lv_if_lt (tgt := 16) hx hb dX7_at_1 (by decide) (fun c_1 => ?_) (fun c_1 => ?_)
  · have hw := hw.1 c_1
    refine lv_iconst (v := 0) hx hb dX7_at_16 (by decide) ?_
    rw [hQ]
    exact W.iret (v := 0) hx hb hr (fun t ht _ => ⟨0, rfl, hw, ht⟩) (fun _ h => (List.not_mem_nil h).elim) dX7_at_17
  · have hw := hw.2 c_1
    refine lv_iload_n hx hb dX7_at_4 rfl (lv_at hl 1 rfl) ?_
    refine lv_aload_n hx hb dX7_at_5 rfl (lv_at hl 0 rfl) ?_
    refine va_alen (v := (Int32.ofNat n_p0)) hx hb hKK.1 hP 0 0 rfl rfl rfl dX7_at_6 ?_
    refine lv_icmp_ge (tgt := 16) hx hb dX7_at_7 (by decide) (fun c_7 => ?_) (fun c_7 => ?_)
    · have hw := hw.1 c_7
      refine lv_iconst (v := 0) hx hb dX7_at_16 (by decide) ?_
      rw [hQ]
      exact W.iret (v := 0) hx hb hr (fun t ht _ => ⟨0, rfl, hw, ht⟩) (fun _ h => (List.not_mem_nil h).elim) dX7_at_17
    · have hw := hw.2 c_7
      refine lv_aload_n hx hb dX7_at_10 rfl (lv_at hl 0 rfl) ?_
      refine lv_iload_n hx hb dX7_at_11 rfl (lv_at hl 1 rfl) ?_
      obtain ⟨hin, hw⟩ := hw
      refine va_iald hx hb hKK.1 hP 0 0 rfl rfl hin dX7_at_12 ?_
      refine lv_goto (tgt := 17) hx hb dX7_at_13 (by decide) ?_
      rw [hQ]
      exact W.iret (v := (p0 p1.toNatClampNeg)) hx hb hr (fun t ht _ => ⟨(p0 p1.toNatClampNeg), rfl, hw, ht⟩) (fun _ h => (List.not_mem_nil h).elim) dX7_at_17
def wp_X1_has (people : Int32) (p1 : Int32) (Φ : Int32 → Prop) : Prop :=
  ((p1 < 0 → (Φ 0)) ∧ (¬ p1 < 0 → ((people ≤ p1 → (Φ 0)) ∧ (¬ people ≤ p1 → (Φ 1)))))
abbrev xrm_X1_has : Room := { frames := 0, cells := 0, slots := 0, locals := 0 }
set_option maxRecDepth 100000 in
set_option maxHeartbeats 4000000 in
theorem c_X1_has (l : Launch) (D : va_G) (cI cZ cO : ClassId) {a_marks : Nat} {people : Int32} {living : Int32} {shown : Int32} {spent : Int32} {days : Int32} {a_this : Nat} {p1 : Int32} {Φ : Int32 → Prop} (hw : (wp_X1_has people p1 Φ)) : Met l yX1_has wsX1_has xrm_X1_has (xPR D cI cZ cO [.ref a_this, .int p1] [(a_this, .inr (1, [.ref a_marks, .int people, .int living, .int shown, .int spent, .int days]))]) (vp_Si Φ) 0 0 (fun _ => False) := by
  refine Met.ofW (cc := cX1_has) (maxL := 2) (ret := (some .boolean)) (by decide) rfl ?_
  intro p e s m args below meth c s₁ B hml hv
  obtain ⟨rfl, hP, hKK⟩ := hv
  have hx := B.exec
  have hb := B.bytes
  have hr := B.returns
  have hts := atoms_spec (ws := wsX1_has) B.pre
  have hown : s.vm.findClass RX1 = some m.cls := findClass_of_methodNamed B.named
  have hlocks := B.notSynchronized
  obtain ⟨Q, hQ⟩ : ∃ Q, Q = MQ below (vp_Si Φ) ([.ref a_this, .int p1] : List Value).toArray s 0 0 (fun _ => False) := ⟨_, rfl⟩
  rw [← hQ]
  have hl := lv_entry ([.ref a_this, .int p1]) (n := 2) (Nat.le_of_ble_eq_true rfl)
  rw [lg_entry_eq]
  generalize (lg_sl ([.ref a_this, .int p1]) ++ List.replicate (2 - (lg_sl ([.ref a_this, .int p1])).length) Slot.unset).toArray = ls at hl ⊢
  have hl : lv_has ls 2 [(0, .ref a_this), (1, .int p1)] := hl
  generalize ([.ref a_this, .int p1] : List Value).toArray = args at hts hQ ⊢
  have hP : va_P D vwCl [(a_this, .inr (1, [.ref a_marks, .int people, .int living, .int shown, .int spent, .int days]))] s.heap := hP
  have hinX1 : ∀ w ∈ u_ws RX1 TX1 6, w ∈ wsX1_has := by decide +kernel
  have fl_15 := hts (.fieldLink RX1 15 "DoubleChain$Chain" "people" "I") (by decide +kernel)
  clear B
  show W p l e xrm_X1_has s m args below meth c s.heap [] 0 0 Q (F0 m 0 ls [])
  unfold wp_X1_has at hw
  refine lv_iload_n hx hb dX1_has_0 rfl (lv_at hl 1 rfl) ?_
  refine lv_if_lt (tgt := 16) hx hb dX1_has_1 (by decide) (fun c_1 => ?_) (fun c_1 => ?_)
  · have hw := hw.1 c_1
    refine lv_iconst (v := 0) hx hb dX1_has_16 (by decide) ?_
    rw [hQ]
    exact W.zret (v := 0) hx hb hr xvz_0 (fun t ht _ => ⟨0, rfl, hw, ht⟩) (fun _ h => (List.not_mem_nil h).elim) dX1_has_17
  · have hw := hw.2 c_1
    refine lv_iload_n hx hb dX1_has_4 rfl (lv_at hl 1 rfl) ?_
    refine lv_aload_n hx hb dX1_has_5 rfl (lv_at hl 0 rfl) ?_
    refine va_get (D := D) (ci := 1) (v := .int people) (C := RX1) (T := TX1) (N := 6) hx hb hts hinX1 hown hKK.1 hP 0 rfl rfl 1 (by decide) fl_15 (fun _ h9 => h9) rfl dX1_has_6 ?_
    refine lv_icmp_ge (tgt := 16) hx hb dX1_has_9 (by decide) (fun c_9 => ?_) (fun c_9 => ?_)
    · have hw := hw.1 c_9
      refine lv_iconst (v := 0) hx hb dX1_has_16 (by decide) ?_
      rw [hQ]
      exact W.zret (v := 0) hx hb hr xvz_0 (fun t ht _ => ⟨0, rfl, hw, ht⟩) (fun _ h => (List.not_mem_nil h).elim) dX1_has_17
    · have hw := hw.2 c_9
      refine lv_iconst (v := 1) hx hb dX1_has_12 (by decide) ?_
      refine lv_goto (tgt := 17) hx hb dX1_has_13 (by decide) ?_
      rw [hQ]
      exact W.zret (v := 1) hx hb hr xvz_1 (fun t ht _ => ⟨1, rfl, hw, ht⟩) (fun _ h => (List.not_mem_nil h).elim) dX1_has_17
def wk_X0_firstWrong_2 (Φ : Int32 → Prop) (x2_2 : Int32) : Prop :=
  (Φ (-1))
def wb_X0_firstWrong_2 (count : Int32) (people : Nat → Int32) (p1_people : Int32) (p1_marks : Nat → Int32) (marks : Nat → Int32) (Φ : Int32 → Prop) (K_2 : Int32 → Prop) (rec_2 : Int32 → Prop) (x2_2 : Int32) : Prop :=
  ((count ≤ x2_2 → (K_2 x2_2)) ∧ (¬ count ≤ x2_2 → (wp_X7_at people 15 x2_2 (fun r_15 => (wp_X1_has p1_people r_15 (fun r_21 => ((r_21 = 0 → (Φ x2_2)) ∧ (¬ r_21 = 0 → (wp_X7_at p1_marks 8 r_15 (fun r_32 => (wp_X7_at marks 15 x2_2 (fun r_40 => ((r_32 = r_40 → (rec_2 (x2_2 + 1))) ∧ (¬ r_32 = r_40 → (Φ x2_2)))))))))))))))
def wp_X0_firstWrong (count : Int32) (people : Nat → Int32) (p1_people : Int32) (p1_marks : Nat → Int32) (marks : Nat → Int32) (Φ : Int32 → Prop) : Prop :=
  (∃ n : Nat, xit1 (wb_X0_firstWrong_2 count people p1_people p1_marks marks Φ (wk_X0_firstWrong_2 Φ)) n 0)
abbrev xrm_X0_firstWrong : Room := { frames := 1, cells := 0, slots := 0, locals := 21 }
set_option maxRecDepth 100000 in
set_option maxHeartbeats 4000000 in
theorem c_X0_firstWrong (l : Launch) (D : va_G) (cI cZ cO : ClassId) {a_people : Nat} {a_marks : Nat} {count : Int32} {a_this : Nat} {people : Nat → Int32} {a_p1_marks : Nat} {p1_people : Int32} {p1_living : Int32} {p1_shown : Int32} {p1_spent : Int32} {p1_days : Int32} {a_p1 : Nat} {p1_marks : Nat → Int32} {marks : Nat → Int32} {Φ : Int32 → Prop} (hw : (wp_X0_firstWrong count people p1_people p1_marks marks Φ)) : Met l yX0_firstWrong wsX0_firstWrong xrm_X0_firstWrong (xPR D cI cZ cO [.ref a_this, .ref a_p1] [(a_this, .inr (0, [.ref a_people, .ref a_marks, .int count])), (a_people, .inl (cI, 15, .inl people)), (a_p1, .inr (1, [.ref a_p1_marks, .int p1_people, .int p1_living, .int p1_shown, .int p1_spent, .int p1_days])), (a_p1_marks, .inl (cI, 8, .inl p1_marks)), (a_marks, .inl (cI, 15, .inl marks))]) (vp_Si Φ) 0 0 (fun _ => False) := by
  refine Met.ofW (cc := cX0_firstWrong) (maxL := 4) (ret := (some .int)) (by decide) rfl ?_
  intro p e s m args below meth c s₁ B hml hv
  obtain ⟨rfl, hP, hKK⟩ := hv
  have hx := B.exec
  have hb := B.bytes
  have hr := B.returns
  have hts := atoms_spec (ws := wsX0_firstWrong) B.pre
  have hown : s.vm.findClass RX0 = some m.cls := findClass_of_methodNamed B.named
  have hlocks := B.notSynchronized
  obtain ⟨Q, hQ⟩ : ∃ Q, Q = MQ below (vp_Si Φ) ([.ref a_this, .ref a_p1] : List Value).toArray s 0 0 (fun _ => False) := ⟨_, rfl⟩
  rw [← hQ]
  have hl := lv_entry ([.ref a_this, .ref a_p1]) (n := 4) (Nat.le_of_ble_eq_true rfl)
  rw [lg_entry_eq]
  generalize (lg_sl ([.ref a_this, .ref a_p1]) ++ List.replicate (4 - (lg_sl ([.ref a_this, .ref a_p1])).length) Slot.unset).toArray = ls at hl ⊢
  have hl : lv_has ls 4 [(0, .ref a_this), (1, .ref a_p1)] := hl
  generalize ([.ref a_this, .ref a_p1] : List Value).toArray = args at hts hQ ⊢
  have hP : va_P D vwCl [(a_this, .inr (0, [.ref a_people, .ref a_marks, .int count])), (a_people, .inl (cI, 15, .inl people)), (a_p1, .inr (1, [.ref a_p1_marks, .int p1_people, .int p1_living, .int p1_shown, .int p1_spent, .int p1_days])), (a_p1_marks, .inl (cI, 8, .inl p1_marks)), (a_marks, .inl (cI, 15, .inl marks))] s.heap := hP
  have hinX0 : ∀ w ∈ u_ws RX0 TX0 3, w ∈ wsX0_firstWrong := by decide +kernel
  have hinX1 : ∀ w ∈ u_ws RX1 TX1 6, w ∈ wsX0_firstWrong := by decide +kernel
  have fl_9 := hts (.fieldLink RX0 9 "DoubleChain$Book" "people" "[I") (by decide +kernel)
  have fl_15 := hts (.fieldLink RX0 15 "DoubleChain$Book" "marks" "[I") (by decide +kernel)
  have fl_18 := hts (.fieldLink RX0 18 "DoubleChain$Book" "count" "I") (by decide +kernel)
  have fl_36 := hts (.fieldLink RX0 36 "DoubleChain$Chain" "marks" "[I") (by decide +kernel)
  clear B
  show W p l e xrm_X0_firstWrong s m args below meth c s.heap [] 0 0 Q (F0 m 0 ls [])
  unfold wp_X0_firstWrong at hw
  refine lv_iconst (v := 0) hx hb dX0_firstWrong_0 (by decide) ?_
  refine lv_istore_n (lv' := [(2, .int 0), (0, .ref a_this), (1, .ref a_p1)]) hx hb dX0_firstWrong_1 rfl hl (by decide) rfl (fun ls hl => ?_)
  have EX_2 : ∀ (x2_2 : Int32), ∀ (ls : Array Slot), lv_has ls 4 [(0, .ref a_this), (1, .ref a_p1), (2, .int x2_2)] → (wk_X0_firstWrong_2 Φ x2_2) → W p l e xrm_X0_firstWrong s m args below meth c s.heap [] 0 0 Q (F0 m 54 ls []) := by
    intro x2_2 ls hl hw
    unfold wk_X0_firstWrong_2 at hw
    refine lv_iconst (v := (-1)) hx hb dX0_firstWrong_54 (by decide) ?_
    rw [hQ]
    exact W.iret (v := (-1)) hx hb hr (fun t ht _ => ⟨(-1), rfl, hw, ht⟩) (fun _ h => (List.not_mem_nil h).elim) dX0_firstWrong_55
  generalize (wk_X0_firstWrong_2 Φ) = K_2 at EX_2 hw
  have LP_2 : ∀ n : Nat, ∀ (x2_2 : Int32), ∀ (ls : Array Slot), lv_has ls 4 [(0, .ref a_this), (1, .ref a_p1), (2, .int x2_2)] → xit1 (wb_X0_firstWrong_2 count people p1_people p1_marks marks Φ K_2) n x2_2 → W p l e xrm_X0_firstWrong s m args below meth c s.heap [] 0 0 Q (F0 m 2 ls []) := by
    intro n
    induction n with
    | zero => intro x2_2 ls hl hw; exact (show False from hw).elim
    | succ n ih =>
      intro x2_2 ls hl hw
      have hw : wb_X0_firstWrong_2 count people p1_people p1_marks marks Φ K_2 (xit1 (wb_X0_firstWrong_2 count people p1_people p1_marks marks Φ K_2) n) x2_2 := hw
      generalize xit1 (wb_X0_firstWrong_2 count people p1_people p1_marks marks Φ K_2) n = rec_2 at ih hw
      unfold wb_X0_firstWrong_2 at hw
      refine lv_iload_n hx hb dX0_firstWrong_2 rfl (lv_at hl 2 rfl) ?_
      refine lv_aload_n hx hb dX0_firstWrong_3 rfl (lv_at hl 0 rfl) ?_
      refine va_get (D := D) (ci := 0) (v := .int count) (C := RX0) (T := TX0) (N := 3) hx hb hts hinX0 hown hKK.1 hP 0 rfl rfl 2 (by decide) fl_18 (fun _ h9 => h9) rfl dX0_firstWrong_4 ?_
      refine lv_icmp_ge (tgt := 54) hx hb dX0_firstWrong_7 (by decide) (fun c_7 => ?_) (fun c_7 => ?_)
      · have hw := hw.1 c_7
        exact EX_2 _ ls (lv_sub hl [0, 1, 2] rfl) hw
      · have hw := hw.2 c_7
        refine lv_aload_n hx hb dX0_firstWrong_10 rfl (lv_at hl 0 rfl) ?_
        refine va_get (D := D) (ci := 0) (v := .ref a_people) (C := RX0) (T := TX0) (N := 3) hx hb hts hinX0 hown hKK.1 hP 0 rfl rfl 0 (by decide) fl_9 (fun _ h9 => h9) rfl dX0_firstWrong_11 ?_
        refine lv_iload_n hx hb dX0_firstWrong_14 rfl (lv_at hl 2 rfl) ?_
        refine xcNi (As := [.ref a_people, .int x2_2]) (rest := []) (wc := [(a_people, .inl (cI, 15, .inl people))]) ⟨hx, hb, hml, hown, hts⟩ (c_X7_at l D cI cZ cO hw) ⟨va_cnB 2 hts gX0_firstWrong_X7_at_n26 rfl rfl rfl (xn_19 hKK.2) (hts (.initialized RX7) (by decide +kernel)) (by decide +kernel) ⟨Nat.le_of_ble_eq_true rfl, Nat.le_of_ble_eq_true rfl⟩, hts (.static yX7_at) (by decide +kernel), trivial⟩ hKK hP [1] rfl rfl hl.1 rfl (Nat.le_of_ble_eq_true rfl) dX0_firstWrong_15 ⟨Nat.zero_le _, Nat.zero_le _⟩ (fun r_15 hw => ?_)
        refine lv_istore_n (lv' := [(3, .int r_15), (0, .ref a_this), (1, .ref a_p1), (2, .int x2_2)]) hx hb dX0_firstWrong_18 rfl hl (by decide) rfl (fun ls hl => ?_)
        refine lv_aload_n hx hb dX0_firstWrong_19 rfl (lv_at hl 2 rfl) ?_
        refine lv_iload_n hx hb dX0_firstWrong_20 rfl (lv_at hl 0 rfl) ?_
        refine xcVi (q0 := 2) (ci := 1) (As := [.int r_15]) (rest := []) (wc := [(a_p1, .inr (1, [.ref a_p1_marks, .int p1_people, .int p1_living, .int p1_shown, .int p1_spent, .int p1_days]))]) ⟨hx, hb, hml, hown, hts⟩ (c_X1_has l D cI cZ cO hw) (cwV 1 hts gX0_firstWrong_X1_has rfl rfl rfl (by decide +kernel) ⟨Nat.le_of_ble_eq_true rfl, Nat.le_of_ble_eq_true rfl⟩) hKK hP [2] rfl rfl rfl rfl hl.1 rfl (Nat.le_of_ble_eq_true rfl) dX0_firstWrong_21 ⟨Nat.zero_le _, Nat.zero_le _⟩ (fun r_21 hw => ?_)
        refine lv_if_eq (tgt := 46) hx hb dX0_firstWrong_24 (by decide) (fun c_24 => ?_) (fun c_24 => ?_)
        · have hw := hw.1 c_24
          refine lv_iload_n hx hb dX0_firstWrong_46 rfl (lv_at hl 3 rfl) ?_
          rw [hQ]
          exact W.iret (v := x2_2) hx hb hr (fun t ht _ => ⟨x2_2, rfl, hw, ht⟩) (fun _ h => (List.not_mem_nil h).elim) dX0_firstWrong_47
        · have hw := hw.2 c_24
          refine lv_aload_n hx hb dX0_firstWrong_27 rfl (lv_at hl 2 rfl) ?_
          refine va_get (D := D) (ci := 1) (v := .ref a_p1_marks) (C := RX1) (T := TX1) (N := 6) hx hb hts hinX1 hown hKK.1 hP 2 rfl rfl 0 (by decide) fl_36 (fun _ h9 => h9) rfl dX0_firstWrong_28 ?_
          refine lv_iload_n hx hb dX0_firstWrong_31 rfl (lv_at hl 0 rfl) ?_
          refine xcNi (As := [.ref a_p1_marks, .int r_15]) (rest := []) (wc := [(a_p1_marks, .inl (cI, 8, .inl p1_marks))]) ⟨hx, hb, hml, hown, hts⟩ (c_X7_at l D cI cZ cO hw) ⟨va_cnB 2 hts gX0_firstWrong_X7_at_n26 rfl rfl rfl (xn_19 hKK.2) (hts (.initialized RX7) (by decide +kernel)) (by decide +kernel) ⟨Nat.le_of_ble_eq_true rfl, Nat.le_of_ble_eq_true rfl⟩, hts (.static yX7_at) (by decide +kernel), trivial⟩ hKK hP [3] rfl rfl hl.1 rfl (Nat.le_of_ble_eq_true rfl) dX0_firstWrong_32 ⟨Nat.zero_le _, Nat.zero_le _⟩ (fun r_32 hw => ?_)
          refine lv_aload_n hx hb dX0_firstWrong_35 rfl (lv_at hl 1 rfl) ?_
          refine va_get (D := D) (ci := 0) (v := .ref a_marks) (C := RX0) (T := TX0) (N := 3) hx hb hts hinX0 hown hKK.1 hP 0 rfl rfl 1 (by decide) fl_15 (fun _ h9 => h9) rfl dX0_firstWrong_36 ?_
          refine lv_iload_n hx hb dX0_firstWrong_39 rfl (lv_at hl 3 rfl) ?_
          refine xcNi (As := [.ref a_marks, .int x2_2]) (rest := [.int r_32]) (wc := [(a_marks, .inl (cI, 15, .inl marks))]) ⟨hx, hb, hml, hown, hts⟩ (c_X7_at l D cI cZ cO hw) ⟨va_cnB 2 hts gX0_firstWrong_X7_at_n26 rfl rfl rfl (xn_19 hKK.2) (hts (.initialized RX7) (by decide +kernel)) (by decide +kernel) ⟨Nat.le_of_ble_eq_true rfl, Nat.le_of_ble_eq_true rfl⟩, hts (.static yX7_at) (by decide +kernel), trivial⟩ hKK hP [4] rfl rfl hl.1 rfl (Nat.le_of_ble_eq_true rfl) dX0_firstWrong_40 ⟨Nat.zero_le _, Nat.zero_le _⟩ (fun r_40 hw => ?_)
          refine lv_icmp_eq (tgt := 48) hx hb dX0_firstWrong_43 (by decide) (fun c_43 => ?_) (fun c_43 => ?_)
          · have hw := hw.1 c_43
            refine lv_iinc (v := (x2_2 + 1)) (lv' := [(2, .int (x2_2 + 1)), (3, .int r_15), (0, .ref a_this), (1, .ref a_p1)]) hx hb dX0_firstWrong_48 hl (k := 3) rfl (by rfl) (by decide) rfl (fun ls hl => ?_)
            refine lv_goto (tgt := 2) hx hb dX0_firstWrong_51 (by decide) ?_
            exact ih _ ls (lv_sub hl [2, 3, 0] rfl) hw
          · have hw := hw.2 c_43
            refine lv_iload_n hx hb dX0_firstWrong_46 rfl (lv_at hl 3 rfl) ?_
            rw [hQ]
            exact W.iret (v := x2_2) hx hb hr (fun t ht _ => ⟨x2_2, rfl, hw, ht⟩) (fun _ h => (List.not_mem_nil h).elim) dX0_firstWrong_47
  obtain ⟨n, hw⟩ := hw
  exact LP_2 n _ ls (lv_sub hl [1, 2, 0] rfl) hw
def wk_X1_takeMarks_2 (Φ : (Nat → Int32) → Prop) (marks_2 : Nat → Int32) (x2_2 : Int32) : Prop :=
  (Φ marks_2)
def wb_X1_takeMarks_2 (p1 : Nat → Int32) (n_p1 : Nat) (K_2 : (Nat → Int32) → Int32 → Prop) (rec_2 : (Nat → Int32) → Int32 → Prop) (marks_2 : Nat → Int32) (x2_2 : Int32) : Prop :=
  ((8 ≤ x2_2 → (K_2 marks_2 x2_2)) ∧ (¬ 8 ≤ x2_2 → (wp_X7_at p1 n_p1 x2_2 (fun r_15 => (wp_X7_put marks_2 8 x2_2 r_15 (fun marks_18 => (rec_2 marks_18 (x2_2 + 1))))))))
def wp_X1_takeMarks (p1 : Nat → Int32) (n_p1 : Nat) (marks : Nat → Int32) (Φ : (Nat → Int32) → Prop) : Prop :=
  (∃ n : Nat, xit2 (wb_X1_takeMarks_2 p1 n_p1 (wk_X1_takeMarks_2 Φ)) n marks 0)
abbrev xrm_X1_takeMarks : Room := { frames := 1, cells := 0, slots := 0, locals := 22 }
set_option maxRecDepth 100000 in
set_option maxHeartbeats 4000000 in
theorem c_X1_takeMarks (l : Launch) (D : va_G) (cI cZ cO : ClassId) {a_marks : Nat} {people : Int32} {living : Int32} {shown : Int32} {spent : Int32} {days : Int32} {a_this : Nat} {p1 : Nat → Int32} {a_p1 : Nat} {n_p1 : Nat} {marks : Nat → Int32} {Φ : (Nat → Int32) → Prop} {sz : Nat} (hw : (wp_X1_takeMarks p1 n_p1 marks Φ)) : Met l yX1_takeMarks wsX1_takeMarks xrm_X1_takeMarks (xPW D cI cZ cO [.ref a_this, .ref a_p1] sz [(a_this, .inr (1, [.ref a_marks, .int people, .int living, .int shown, .int spent, .int days])), (a_p1, .inl (cI, n_p1, .inl p1)), (a_marks, .inl (cI, 8, .inl marks))]) (va_Qv (fun (u : (Nat → Int32)) => Φ u) (xB D (va_A [(a_this, .inr (1, [.ref a_marks, .int people, .int living, .int shown, .int spent, .int days])), (a_p1, .inl (cI, n_p1, .inl p1)), (a_marks, .inl (cI, 8, .inl marks))] sz) (fun (u : (Nat → Int32)) => [(a_this, .inr (1, [.ref a_marks, .int people, .int living, .int shown, .int spent, .int days])), (a_p1, .inl (cI, n_p1, .inl p1)), (a_marks, .inl (cI, 8, .inl u))])) (va_A [(a_this, .inr (1, [.ref a_marks, .int people, .int living, .int shown, .int spent, .int days])), (a_p1, .inl (cI, n_p1, .inl p1)), (a_marks, .inl (cI, 8, .inl marks))] sz)) 0 0 (va_A [(a_this, .inr (1, [.ref a_marks, .int people, .int living, .int shown, .int spent, .int days])), (a_p1, .inl (cI, n_p1, .inl p1)), (a_marks, .inl (cI, 8, .inl marks))] sz) := by
  refine Met.ofW (cc := cX1_takeMarks) (maxL := 3) (ret := none) (by decide) rfl ?_
  intro p e s m args below meth c s₁ B hml hv
  obtain ⟨rfl, hsz, hP, hKK, hD0⟩ := hv
  have hx := B.exec
  have hb := B.bytes
  have hr := B.returns
  have hts := atoms_spec (ws := wsX1_takeMarks) B.pre
  have hown : s.vm.findClass RX1 = some m.cls := findClass_of_methodNamed B.named
  have hlocks := B.notSynchronized
  subst hsz
  have hD := hD0.self (sz := s.heap.size)
  obtain ⟨Q, hQ⟩ : ∃ Q, Q = MQ below (va_Qv (fun (u : (Nat → Int32)) => Φ u) (xB D (va_A [(a_this, .inr (1, [.ref a_marks, .int people, .int living, .int shown, .int spent, .int days])), (a_p1, .inl (cI, n_p1, .inl p1)), (a_marks, .inl (cI, 8, .inl marks))] s.heap.size) (fun (u : (Nat → Int32)) => [(a_this, .inr (1, [.ref a_marks, .int people, .int living, .int shown, .int spent, .int days])), (a_p1, .inl (cI, n_p1, .inl p1)), (a_marks, .inl (cI, 8, .inl u))])) (va_A [(a_this, .inr (1, [.ref a_marks, .int people, .int living, .int shown, .int spent, .int days])), (a_p1, .inl (cI, n_p1, .inl p1)), (a_marks, .inl (cI, 8, .inl marks))] s.heap.size)) ([.ref a_this, .ref a_p1] : List Value).toArray s 0 0 (va_A [(a_this, .inr (1, [.ref a_marks, .int people, .int living, .int shown, .int spent, .int days])), (a_p1, .inl (cI, n_p1, .inl p1)), (a_marks, .inl (cI, 8, .inl marks))] s.heap.size) := ⟨_, rfl⟩
  rw [← hQ]
  generalize hAe : va_A [(a_this, .inr (1, [.ref a_marks, .int people, .int living, .int shown, .int spent, .int days])), (a_p1, .inl (cI, n_p1, .inl p1)), (a_marks, .inl (cI, 8, .inl marks))] s.heap.size = A at hD hQ
  have hA : ∀ q : Nat, s.heap.size ≤ q → A q := fun q h => by rw [← hAe]; exact Or.inr h
  have hS : va_S A s.heap s.heap [] := va_S.rf
  have hl := lv_entry ([.ref a_this, .ref a_p1]) (n := 3) (Nat.le_of_ble_eq_true rfl)
  rw [lg_entry_eq]
  generalize (lg_sl ([.ref a_this, .ref a_p1]) ++ List.replicate (3 - (lg_sl ([.ref a_this, .ref a_p1])).length) Slot.unset).toArray = ls at hl ⊢
  have hl : lv_has ls 3 [(0, .ref a_this), (1, .ref a_p1)] := hl
  generalize ([.ref a_this, .ref a_p1] : List Value).toArray = args at hts hQ ⊢
  have hP : va_P D vwCl [(a_this, .inr (1, [.ref a_marks, .int people, .int living, .int shown, .int spent, .int days])), (a_p1, .inl (cI, n_p1, .inl p1)), (a_marks, .inl (cI, 8, .inl marks))] s.heap := hP
  have hinX1 : ∀ w ∈ u_ws RX1 TX1 6, w ∈ wsX1_takeMarks := by decide +kernel
  have fl_9 := hts (.fieldLink RX1 9 "DoubleChain$Chain" "marks" "[I") (by decide +kernel)
  clear B
  show W p l e xrm_X1_takeMarks s m args below meth c s.heap [] 0 0 Q (F0 m 0 ls [])
  unfold wp_X1_takeMarks at hw
  refine lv_iconst (v := 0) hx hb dX1_takeMarks_0 (by decide) ?_
  refine lv_istore_n (lv' := [(2, .int 0), (0, .ref a_this), (1, .ref a_p1)]) hx hb dX1_takeMarks_1 rfl hl (by decide) rfl (fun ls hl => ?_)
  have EX_2 : ∀ (marks_2 : Nat → Int32) (x2_2 : Int32), ∀ (H : Heap) (locs : List Loc), va_P D vwCl [(a_this, .inr (1, [.ref a_marks, .int people, .int living, .int shown, .int spent, .int days])), (a_p1, .inl (cI, n_p1, .inl p1)), (a_marks, .inl (cI, 8, .inl marks_2))] H → va_D A [(a_this, .inr (1, [.ref a_marks, .int people, .int living, .int shown, .int spent, .int days])), (a_p1, .inl (cI, n_p1, .inl p1)), (a_marks, .inl (cI, 8, .inl marks_2))] → va_S A s.heap H locs → ∀ (ls : Array Slot), lv_has ls 3 [(0, .ref a_this), (1, .ref a_p1), (2, .int x2_2)] → (wk_X1_takeMarks_2 Φ marks_2 x2_2) → W p l e xrm_X1_takeMarks s m args below meth c H locs 0 0 Q (F0 m 27 ls []) := by
    intro marks_2 x2_2 H locs hP hD hS ls hl hw
    unfold wk_X1_takeMarks_2 at hw
    rw [hQ]
    exact W.vret hx hb hr (fun t ht _ => ⟨⟨marks_2, rfl, hw, by rw [ht]; exact hP, hD⟩, hS.F ht⟩) hS.2.2 dX1_takeMarks_27
  generalize (wk_X1_takeMarks_2 Φ) = K_2 at EX_2 hw
  have LP_2 : ∀ n : Nat, ∀ (marks_2 : Nat → Int32) (x2_2 : Int32), ∀ (H : Heap) (locs : List Loc), va_P D vwCl [(a_this, .inr (1, [.ref a_marks, .int people, .int living, .int shown, .int spent, .int days])), (a_p1, .inl (cI, n_p1, .inl p1)), (a_marks, .inl (cI, 8, .inl marks_2))] H → va_D A [(a_this, .inr (1, [.ref a_marks, .int people, .int living, .int shown, .int spent, .int days])), (a_p1, .inl (cI, n_p1, .inl p1)), (a_marks, .inl (cI, 8, .inl marks_2))] → va_S A s.heap H locs → ∀ (ls : Array Slot), lv_has ls 3 [(0, .ref a_this), (1, .ref a_p1), (2, .int x2_2)] → xit2 (wb_X1_takeMarks_2 p1 n_p1 K_2) n marks_2 x2_2 → W p l e xrm_X1_takeMarks s m args below meth c H locs 0 0 Q (F0 m 2 ls []) := by
    intro n
    induction n with
    | zero => intro marks_2 x2_2 H locs hP hD hS ls hl hw; exact (show False from hw).elim
    | succ n ih =>
      intro marks_2 x2_2 H locs hP hD hS ls hl hw
      have hw : wb_X1_takeMarks_2 p1 n_p1 K_2 (xit2 (wb_X1_takeMarks_2 p1 n_p1 K_2) n) marks_2 x2_2 := hw
      generalize xit2 (wb_X1_takeMarks_2 p1 n_p1 K_2) n = rec_2 at ih hw
      unfold wb_X1_takeMarks_2 at hw
      refine lv_iload_n hx hb dX1_takeMarks_2 rfl (lv_at hl 2 rfl) ?_
      refine lv_bipush (v := 8) hx hb dX1_takeMarks_3 (by decide) ?_
      refine lv_icmp_ge (tgt := 27) hx hb dX1_takeMarks_5 (by decide) (fun c_5 => ?_) (fun c_5 => ?_)
      · have hw := hw.1 c_5
        exact EX_2 _ _ _ _ hP hD hS ls (lv_sub hl [0, 1, 2] rfl) hw
      · have hw := hw.2 c_5
        refine lv_aload_n hx hb dX1_takeMarks_8 rfl (lv_at hl 0 rfl) ?_
        refine va_get (D := D) (ci := 1) (v := .ref a_marks) (C := RX1) (T := TX1) (N := 6) hx hb hts hinX1 hown hKK.1 hP 0 rfl rfl 0 (by decide) fl_9 (fun _ h9 => h9) rfl dX1_takeMarks_9 ?_
        refine lv_iload_n hx hb dX1_takeMarks_12 rfl (lv_at hl 2 rfl) ?_
        refine lv_aload_n hx hb dX1_takeMarks_13 rfl (lv_at hl 1 rfl) ?_
        refine lv_iload_n hx hb dX1_takeMarks_14 rfl (lv_at hl 2 rfl) ?_
        refine xcNi (As := [.ref a_p1, .int x2_2]) (rest := [.int x2_2, .ref a_marks]) (wc := [(a_p1, .inl (cI, n_p1, .inl p1))]) ⟨hx, hb, hml, hown, hts⟩ (c_X7_at l D cI cZ cO hw) ⟨va_cnB 2 hts gX1_takeMarks_X7_at_n39 rfl rfl rfl (xn_12 hKK.2) (hts (.initialized RX7) (by decide +kernel)) (by decide +kernel) ⟨Nat.le_of_ble_eq_true rfl, Nat.le_of_ble_eq_true rfl⟩, hts (.static yX7_at) (by decide +kernel), trivial⟩ hKK hP [1] rfl rfl hl.1 rfl (Nat.le_of_ble_eq_true rfl) dX1_takeMarks_15 ⟨Nat.zero_le _, Nat.zero_le _⟩ (fun r_15 hw => ?_)
        refine xwNv (wr := [(a_this, .inr (1, [.ref a_marks, .int people, .int living, .int shown, .int spent, .int days])), (a_p1, .inl (cI, n_p1, .inl p1))]) (As := [.ref a_marks, .int x2_2, .int r_15]) (rest := []) (wc := [(a_marks, .inl (cI, 8, .inl marks_2))]) (fun (u : (Nat → Int32)) => [(a_this, .inr (1, [.ref a_marks, .int people, .int living, .int shown, .int spent, .int days])), (a_p1, .inl (cI, n_p1, .inl p1)), (a_marks, .inl (cI, 8, .inl u))]) ⟨hx, hb, hml, hown, hts⟩ (c_X7_put l D cI cZ cO hw) ⟨va_cnB 3 hts gX1_takeMarks_X7_put_n43 rfl rfl rfl (xn_13 hKK.2) (hts (.initialized RX7) (by decide +kernel)) (by decide +kernel) ⟨Nat.le_of_ble_eq_true rfl, Nat.le_of_ble_eq_true rfl⟩, hts (.static yX7_put) (by decide +kernel), trivial⟩ hKK hP hD hS hA [2] [0, 1] [0, 1, 2] rfl rfl rfl rfl rfl (by decide) (fun _ => rfl) rfl hl.1 rfl (Nat.le_of_ble_eq_true rfl) dX1_takeMarks_18 ⟨Nat.zero_le _, Nat.zero_le _⟩ (fun marks_18 H locs hw hP hD hS => ?_)
        have hP : va_P D vwCl [(a_this, .inr (1, [.ref a_marks, .int people, .int living, .int shown, .int spent, .int days])), (a_p1, .inl (cI, n_p1, .inl p1)), (a_marks, .inl (cI, 8, .inl marks_18))] H := hP
        have hD : va_D A [(a_this, .inr (1, [.ref a_marks, .int people, .int living, .int shown, .int spent, .int days])), (a_p1, .inl (cI, n_p1, .inl p1)), (a_marks, .inl (cI, 8, .inl marks_18))] := hD
        refine lv_iinc (v := (x2_2 + 1)) (lv' := [(2, .int (x2_2 + 1)), (0, .ref a_this), (1, .ref a_p1)]) hx hb dX1_takeMarks_21 hl (k := 2) rfl (by rfl) (by decide) rfl (fun ls hl => ?_)
        refine lv_goto (tgt := 2) hx hb dX1_takeMarks_24 (by decide) ?_
        exact ih _ _ _ _ hP hD hS ls (lv_sub hl [1, 2, 0] rfl) hw
  obtain ⟨n, hw⟩ := hw
  exact LP_2 n _ _ _ _ hP hD hS ls (lv_sub hl [1, 2, 0] rfl) hw
def wp_X1_begin (p1_people : Int32) (p1_marks : Nat → Int32) (marks : Nat → Int32) (Φ : (Nat → Int32) → Int32 → Int32 → Int32 → Int32 → Int32 → Prop) : Prop :=
  (wp_X1_takeMarks p1_marks 8 marks (fun marks_5 => (Φ marks_5 p1_people (((1 : Int32) <<< (p1_people &&& 31)) - 1) 0 0 0)))
abbrev xrm_X1_begin : Room := { frames := 2, cells := 0, slots := 0, locals := 44 }
set_option maxRecDepth 100000 in
set_option maxHeartbeats 4000000 in
theorem c_X1_begin (l : Launch) (D : va_G) (cI cZ cO : ClassId) {a_marks : Nat} {people : Int32} {living : Int32} {shown : Int32} {spent : Int32} {days : Int32} {a_this : Nat} {a_p1_marks : Nat} {a_p1_inWeathers : Nat} {a_p1_inHours : Nat} {a_p1_fears : Nat} {a_p1_weathers : Nat} {a_p1_hours : Nat} {a_p1_dangers : Nat} {p1_pay : Int32} {p1_people : Int32} {p1_days : Int32} {a_p1 : Nat} {p1_marks : Nat → Int32} {marks : Nat → Int32} {Φ : (Nat → Int32) → Int32 → Int32 → Int32 → Int32 → Int32 → Prop} {sz : Nat} (hw : (wp_X1_begin p1_people p1_marks marks Φ)) : Met l yX1_begin wsX1_begin xrm_X1_begin (xPW D cI cZ cO [.ref a_this, .ref a_p1] sz [(a_this, .inr (1, [.ref a_marks, .int people, .int living, .int shown, .int spent, .int days])), (a_p1, .inr (2, [.ref a_p1_marks, .ref a_p1_inWeathers, .ref a_p1_inHours, .ref a_p1_fears, .ref a_p1_weathers, .ref a_p1_hours, .ref a_p1_dangers, .int p1_pay, .int p1_people, .int p1_days])), (a_p1_marks, .inl (cI, 8, .inl p1_marks)), (a_marks, .inl (cI, 8, .inl marks))]) (va_Qv (fun (u : (Nat → Int32) × Int32 × Int32 × Int32 × Int32 × Int32) => Φ u.1 u.2.1 u.2.2.1 u.2.2.2.1 u.2.2.2.2.1 u.2.2.2.2.2) (xB D (va_A [(a_this, .inr (1, [.ref a_marks, .int people, .int living, .int shown, .int spent, .int days])), (a_p1, .inr (2, [.ref a_p1_marks, .ref a_p1_inWeathers, .ref a_p1_inHours, .ref a_p1_fears, .ref a_p1_weathers, .ref a_p1_hours, .ref a_p1_dangers, .int p1_pay, .int p1_people, .int p1_days])), (a_p1_marks, .inl (cI, 8, .inl p1_marks)), (a_marks, .inl (cI, 8, .inl marks))] sz) (fun (u : (Nat → Int32) × Int32 × Int32 × Int32 × Int32 × Int32) => [(a_this, .inr (1, [.ref a_marks, .int u.2.1, .int u.2.2.1, .int u.2.2.2.1, .int u.2.2.2.2.1, .int u.2.2.2.2.2])), (a_p1, .inr (2, [.ref a_p1_marks, .ref a_p1_inWeathers, .ref a_p1_inHours, .ref a_p1_fears, .ref a_p1_weathers, .ref a_p1_hours, .ref a_p1_dangers, .int p1_pay, .int p1_people, .int p1_days])), (a_p1_marks, .inl (cI, 8, .inl p1_marks)), (a_marks, .inl (cI, 8, .inl u.1))])) (va_A [(a_this, .inr (1, [.ref a_marks, .int people, .int living, .int shown, .int spent, .int days])), (a_p1, .inr (2, [.ref a_p1_marks, .ref a_p1_inWeathers, .ref a_p1_inHours, .ref a_p1_fears, .ref a_p1_weathers, .ref a_p1_hours, .ref a_p1_dangers, .int p1_pay, .int p1_people, .int p1_days])), (a_p1_marks, .inl (cI, 8, .inl p1_marks)), (a_marks, .inl (cI, 8, .inl marks))] sz)) 0 0 (va_A [(a_this, .inr (1, [.ref a_marks, .int people, .int living, .int shown, .int spent, .int days])), (a_p1, .inr (2, [.ref a_p1_marks, .ref a_p1_inWeathers, .ref a_p1_inHours, .ref a_p1_fears, .ref a_p1_weathers, .ref a_p1_hours, .ref a_p1_dangers, .int p1_pay, .int p1_people, .int p1_days])), (a_p1_marks, .inl (cI, 8, .inl p1_marks)), (a_marks, .inl (cI, 8, .inl marks))] sz) := by
  refine Met.ofW (cc := cX1_begin) (maxL := 2) (ret := none) (by decide) rfl ?_
  intro p e s m args below meth c s₁ B hml hv
  obtain ⟨rfl, hsz, hP, hKK, hD0⟩ := hv
  have hx := B.exec
  have hb := B.bytes
  have hr := B.returns
  have hts := atoms_spec (ws := wsX1_begin) B.pre
  have hown : s.vm.findClass RX1 = some m.cls := findClass_of_methodNamed B.named
  have hlocks := B.notSynchronized
  subst hsz
  have hD := hD0.self (sz := s.heap.size)
  obtain ⟨Q, hQ⟩ : ∃ Q, Q = MQ below (va_Qv (fun (u : (Nat → Int32) × Int32 × Int32 × Int32 × Int32 × Int32) => Φ u.1 u.2.1 u.2.2.1 u.2.2.2.1 u.2.2.2.2.1 u.2.2.2.2.2) (xB D (va_A [(a_this, .inr (1, [.ref a_marks, .int people, .int living, .int shown, .int spent, .int days])), (a_p1, .inr (2, [.ref a_p1_marks, .ref a_p1_inWeathers, .ref a_p1_inHours, .ref a_p1_fears, .ref a_p1_weathers, .ref a_p1_hours, .ref a_p1_dangers, .int p1_pay, .int p1_people, .int p1_days])), (a_p1_marks, .inl (cI, 8, .inl p1_marks)), (a_marks, .inl (cI, 8, .inl marks))] s.heap.size) (fun (u : (Nat → Int32) × Int32 × Int32 × Int32 × Int32 × Int32) => [(a_this, .inr (1, [.ref a_marks, .int u.2.1, .int u.2.2.1, .int u.2.2.2.1, .int u.2.2.2.2.1, .int u.2.2.2.2.2])), (a_p1, .inr (2, [.ref a_p1_marks, .ref a_p1_inWeathers, .ref a_p1_inHours, .ref a_p1_fears, .ref a_p1_weathers, .ref a_p1_hours, .ref a_p1_dangers, .int p1_pay, .int p1_people, .int p1_days])), (a_p1_marks, .inl (cI, 8, .inl p1_marks)), (a_marks, .inl (cI, 8, .inl u.1))])) (va_A [(a_this, .inr (1, [.ref a_marks, .int people, .int living, .int shown, .int spent, .int days])), (a_p1, .inr (2, [.ref a_p1_marks, .ref a_p1_inWeathers, .ref a_p1_inHours, .ref a_p1_fears, .ref a_p1_weathers, .ref a_p1_hours, .ref a_p1_dangers, .int p1_pay, .int p1_people, .int p1_days])), (a_p1_marks, .inl (cI, 8, .inl p1_marks)), (a_marks, .inl (cI, 8, .inl marks))] s.heap.size)) ([.ref a_this, .ref a_p1] : List Value).toArray s 0 0 (va_A [(a_this, .inr (1, [.ref a_marks, .int people, .int living, .int shown, .int spent, .int days])), (a_p1, .inr (2, [.ref a_p1_marks, .ref a_p1_inWeathers, .ref a_p1_inHours, .ref a_p1_fears, .ref a_p1_weathers, .ref a_p1_hours, .ref a_p1_dangers, .int p1_pay, .int p1_people, .int p1_days])), (a_p1_marks, .inl (cI, 8, .inl p1_marks)), (a_marks, .inl (cI, 8, .inl marks))] s.heap.size) := ⟨_, rfl⟩
  rw [← hQ]
  generalize hAe : va_A [(a_this, .inr (1, [.ref a_marks, .int people, .int living, .int shown, .int spent, .int days])), (a_p1, .inr (2, [.ref a_p1_marks, .ref a_p1_inWeathers, .ref a_p1_inHours, .ref a_p1_fears, .ref a_p1_weathers, .ref a_p1_hours, .ref a_p1_dangers, .int p1_pay, .int p1_people, .int p1_days])), (a_p1_marks, .inl (cI, 8, .inl p1_marks)), (a_marks, .inl (cI, 8, .inl marks))] s.heap.size = A at hD hQ
  have hA : ∀ q : Nat, s.heap.size ≤ q → A q := fun q h => by rw [← hAe]; exact Or.inr h
  have hS : va_S A s.heap s.heap [] := va_S.rf
  have hl := lv_entry ([.ref a_this, .ref a_p1]) (n := 2) (Nat.le_of_ble_eq_true rfl)
  rw [lg_entry_eq]
  generalize (lg_sl ([.ref a_this, .ref a_p1]) ++ List.replicate (2 - (lg_sl ([.ref a_this, .ref a_p1])).length) Slot.unset).toArray = ls at hl ⊢
  have hl : lv_has ls 2 [(0, .ref a_this), (1, .ref a_p1)] := hl
  generalize ([.ref a_this, .ref a_p1] : List Value).toArray = args at hts hQ ⊢
  have hP : va_P D vwCl [(a_this, .inr (1, [.ref a_marks, .int people, .int living, .int shown, .int spent, .int days])), (a_p1, .inr (2, [.ref a_p1_marks, .ref a_p1_inWeathers, .ref a_p1_inHours, .ref a_p1_fears, .ref a_p1_weathers, .ref a_p1_hours, .ref a_p1_dangers, .int p1_pay, .int p1_people, .int p1_days])), (a_p1_marks, .inl (cI, 8, .inl p1_marks)), (a_marks, .inl (cI, 8, .inl marks))] s.heap := hP
  have hinX1 : ∀ w ∈ u_ws RX1 TX1 6, w ∈ wsX1_begin := by decide +kernel
  have hinX2 : ∀ w ∈ u_ws RX2 TX2 10, w ∈ wsX1_begin := by decide +kernel
  have fl_15 := hts (.fieldLink RX1 15 "DoubleChain$Chain" "people" "I") (by decide +kernel)
  have fl_19 := hts (.fieldLink RX1 19 "DoubleChain$Chain" "living" "I") (by decide +kernel)
  have fl_22 := hts (.fieldLink RX1 22 "DoubleChain$Chain" "shown" "I") (by decide +kernel)
  have fl_25 := hts (.fieldLink RX1 25 "DoubleChain$Chain" "spent" "I") (by decide +kernel)
  have fl_28 := hts (.fieldLink RX1 28 "DoubleChain$Chain" "days" "I") (by decide +kernel)
  have fl_31 := hts (.fieldLink RX1 31 "DoubleChain$Court" "marks" "[I") (by decide +kernel)
  have fl_38 := hts (.fieldLink RX1 38 "DoubleChain$Court" "people" "I") (by decide +kernel)
  clear B
  show W p l e xrm_X1_begin s m args below meth c s.heap [] 0 0 Q (F0 m 0 ls [])
  unfold wp_X1_begin at hw
  refine lv_aload_n hx hb dX1_begin_0 rfl (lv_at hl 0 rfl) ?_
  refine lv_aload_n hx hb dX1_begin_1 rfl (lv_at hl 1 rfl) ?_
  refine va_get (D := D) (ci := 2) (v := .ref a_p1_marks) (C := RX2) (T := TX2) (N := 10) hx hb hts hinX2 hown hKK.1 hP 1 rfl rfl 0 (by decide) fl_31 (fun _ h9 => h9) rfl dX1_begin_2 ?_
  refine xwVv (q0 := 0) (ci := 1) (wr := [(a_p1, .inr (2, [.ref a_p1_marks, .ref a_p1_inWeathers, .ref a_p1_inHours, .ref a_p1_fears, .ref a_p1_weathers, .ref a_p1_hours, .ref a_p1_dangers, .int p1_pay, .int p1_people, .int p1_days]))]) (As := [.ref a_p1_marks]) (rest := []) (wc := [(a_this, .inr (1, [.ref a_marks, .int people, .int living, .int shown, .int spent, .int days])), (a_p1_marks, .inl (cI, 8, .inl p1_marks)), (a_marks, .inl (cI, 8, .inl marks))]) (fun (u : (Nat → Int32)) => [(a_this, .inr (1, [.ref a_marks, .int people, .int living, .int shown, .int spent, .int days])), (a_p1, .inr (2, [.ref a_p1_marks, .ref a_p1_inWeathers, .ref a_p1_inHours, .ref a_p1_fears, .ref a_p1_weathers, .ref a_p1_hours, .ref a_p1_dangers, .int p1_pay, .int p1_people, .int p1_days])), (a_p1_marks, .inl (cI, 8, .inl p1_marks)), (a_marks, .inl (cI, 8, .inl u))]) ⟨hx, hb, hml, hown, hts⟩ (c_X1_takeMarks l D cI cZ cO hw) (cwV 1 hts gX1_begin_X1_takeMarks rfl rfl rfl (by decide +kernel) ⟨Nat.le_of_ble_eq_true rfl, Nat.le_of_ble_eq_true rfl⟩) hKK hP hD hS hA [0, 2, 3] [1] [1, 0, 2, 3] rfl rfl rfl rfl rfl (by decide) (fun _ => rfl) rfl rfl rfl hl.1 rfl (Nat.le_of_ble_eq_true rfl) dX1_begin_5 ⟨Nat.zero_le _, Nat.zero_le _⟩ (fun marks_5 H locs hw hP hD hS => ?_)
  have hP : va_P D vwCl [(a_this, .inr (1, [.ref a_marks, .int people, .int living, .int shown, .int spent, .int days])), (a_p1, .inr (2, [.ref a_p1_marks, .ref a_p1_inWeathers, .ref a_p1_inHours, .ref a_p1_fears, .ref a_p1_weathers, .ref a_p1_hours, .ref a_p1_dangers, .int p1_pay, .int p1_people, .int p1_days])), (a_p1_marks, .inl (cI, 8, .inl p1_marks)), (a_marks, .inl (cI, 8, .inl marks_5))] H := hP
  have hD : va_D A [(a_this, .inr (1, [.ref a_marks, .int people, .int living, .int shown, .int spent, .int days])), (a_p1, .inr (2, [.ref a_p1_marks, .ref a_p1_inWeathers, .ref a_p1_inHours, .ref a_p1_fears, .ref a_p1_weathers, .ref a_p1_hours, .ref a_p1_dangers, .int p1_pay, .int p1_people, .int p1_days])), (a_p1_marks, .inl (cI, 8, .inl p1_marks)), (a_marks, .inl (cI, 8, .inl marks_5))] := hD
  refine lv_aload_n hx hb dX1_begin_8 rfl (lv_at hl 0 rfl) ?_
  refine lv_aload_n hx hb dX1_begin_9 rfl (lv_at hl 1 rfl) ?_
  refine va_get (D := D) (ci := 2) (v := .int p1_people) (C := RX2) (T := TX2) (N := 10) hx hb hts hinX2 hown hKK.1 hP 1 rfl rfl 8 (by decide) fl_38 (fun _ h9 => h9) rfl dX1_begin_10 ?_
  refine va_put (D := D) (ci := 1) (v := .int p1_people) (ty := .int) (C := RX1) (T := TX1) (N := 6) hx hb hts hinX1 tyX1 tyX1_ok nmX1 hown hKK.1 hP hD hS 0 rfl rfl 1 (by decide) fl_15 (fun _ h9 => h9) rfl (by decide +kernel) rfl rfl (Nat.le_of_ble_eq_true rfl) dX1_begin_13 (fun H locs hP hD hS => ?_)
  have hP : va_P D vwCl [(a_this, .inr (1, [.ref a_marks, .int p1_people, .int living, .int shown, .int spent, .int days])), (a_p1, .inr (2, [.ref a_p1_marks, .ref a_p1_inWeathers, .ref a_p1_inHours, .ref a_p1_fears, .ref a_p1_weathers, .ref a_p1_hours, .ref a_p1_dangers, .int p1_pay, .int p1_people, .int p1_days])), (a_p1_marks, .inl (cI, 8, .inl p1_marks)), (a_marks, .inl (cI, 8, .inl marks_5))] H := hP
  have hD : va_D A [(a_this, .inr (1, [.ref a_marks, .int p1_people, .int living, .int shown, .int spent, .int days])), (a_p1, .inr (2, [.ref a_p1_marks, .ref a_p1_inWeathers, .ref a_p1_inHours, .ref a_p1_fears, .ref a_p1_weathers, .ref a_p1_hours, .ref a_p1_dangers, .int p1_pay, .int p1_people, .int p1_days])), (a_p1_marks, .inl (cI, 8, .inl p1_marks)), (a_marks, .inl (cI, 8, .inl marks_5))] := hD
  refine lv_aload_n hx hb dX1_begin_16 rfl (lv_at hl 0 rfl) ?_
  refine lv_iconst (v := 1) hx hb dX1_begin_17 (by decide) ?_
  refine lv_aload_n hx hb dX1_begin_18 rfl (lv_at hl 1 rfl) ?_
  refine va_get (D := D) (ci := 2) (v := .int p1_people) (C := RX2) (T := TX2) (N := 10) hx hb hts hinX2 hown hKK.1 hP 1 rfl rfl 8 (by decide) fl_38 (fun _ h9 => h9) rfl dX1_begin_19 ?_
  refine lv_ishl hx hb dX1_begin_22 ?_
  refine lv_iconst (v := 1) hx hb dX1_begin_23 (by decide) ?_
  refine lv_isub hx hb dX1_begin_24 ?_
  refine va_put (D := D) (ci := 1) (v := .int (((1 : Int32) <<< (p1_people &&& 31)) - 1)) (ty := .int) (C := RX1) (T := TX1) (N := 6) hx hb hts hinX1 tyX1 tyX1_ok nmX1 hown hKK.1 hP hD hS 0 rfl rfl 2 (by decide) fl_19 (fun _ h9 => h9) rfl (by decide +kernel) rfl rfl (Nat.le_of_ble_eq_true rfl) dX1_begin_25 (fun H locs hP hD hS => ?_)
  have hP : va_P D vwCl [(a_this, .inr (1, [.ref a_marks, .int p1_people, .int (((1 : Int32) <<< (p1_people &&& 31)) - 1), .int shown, .int spent, .int days])), (a_p1, .inr (2, [.ref a_p1_marks, .ref a_p1_inWeathers, .ref a_p1_inHours, .ref a_p1_fears, .ref a_p1_weathers, .ref a_p1_hours, .ref a_p1_dangers, .int p1_pay, .int p1_people, .int p1_days])), (a_p1_marks, .inl (cI, 8, .inl p1_marks)), (a_marks, .inl (cI, 8, .inl marks_5))] H := hP
  have hD : va_D A [(a_this, .inr (1, [.ref a_marks, .int p1_people, .int (((1 : Int32) <<< (p1_people &&& 31)) - 1), .int shown, .int spent, .int days])), (a_p1, .inr (2, [.ref a_p1_marks, .ref a_p1_inWeathers, .ref a_p1_inHours, .ref a_p1_fears, .ref a_p1_weathers, .ref a_p1_hours, .ref a_p1_dangers, .int p1_pay, .int p1_people, .int p1_days])), (a_p1_marks, .inl (cI, 8, .inl p1_marks)), (a_marks, .inl (cI, 8, .inl marks_5))] := hD
  refine lv_aload_n hx hb dX1_begin_28 rfl (lv_at hl 0 rfl) ?_
  refine lv_iconst (v := 0) hx hb dX1_begin_29 (by decide) ?_
  refine va_put (D := D) (ci := 1) (v := .int 0) (ty := .int) (C := RX1) (T := TX1) (N := 6) hx hb hts hinX1 tyX1 tyX1_ok nmX1 hown hKK.1 hP hD hS 0 rfl rfl 3 (by decide) fl_22 (fun _ h9 => h9) rfl (by decide +kernel) rfl rfl (Nat.le_of_ble_eq_true rfl) dX1_begin_30 (fun H locs hP hD hS => ?_)
  have hP : va_P D vwCl [(a_this, .inr (1, [.ref a_marks, .int p1_people, .int (((1 : Int32) <<< (p1_people &&& 31)) - 1), .int 0, .int spent, .int days])), (a_p1, .inr (2, [.ref a_p1_marks, .ref a_p1_inWeathers, .ref a_p1_inHours, .ref a_p1_fears, .ref a_p1_weathers, .ref a_p1_hours, .ref a_p1_dangers, .int p1_pay, .int p1_people, .int p1_days])), (a_p1_marks, .inl (cI, 8, .inl p1_marks)), (a_marks, .inl (cI, 8, .inl marks_5))] H := hP
  have hD : va_D A [(a_this, .inr (1, [.ref a_marks, .int p1_people, .int (((1 : Int32) <<< (p1_people &&& 31)) - 1), .int 0, .int spent, .int days])), (a_p1, .inr (2, [.ref a_p1_marks, .ref a_p1_inWeathers, .ref a_p1_inHours, .ref a_p1_fears, .ref a_p1_weathers, .ref a_p1_hours, .ref a_p1_dangers, .int p1_pay, .int p1_people, .int p1_days])), (a_p1_marks, .inl (cI, 8, .inl p1_marks)), (a_marks, .inl (cI, 8, .inl marks_5))] := hD
  refine lv_aload_n hx hb dX1_begin_33 rfl (lv_at hl 0 rfl) ?_
  refine lv_iconst (v := 0) hx hb dX1_begin_34 (by decide) ?_
  refine va_put (D := D) (ci := 1) (v := .int 0) (ty := .int) (C := RX1) (T := TX1) (N := 6) hx hb hts hinX1 tyX1 tyX1_ok nmX1 hown hKK.1 hP hD hS 0 rfl rfl 4 (by decide) fl_25 (fun _ h9 => h9) rfl (by decide +kernel) rfl rfl (Nat.le_of_ble_eq_true rfl) dX1_begin_35 (fun H locs hP hD hS => ?_)
  have hP : va_P D vwCl [(a_this, .inr (1, [.ref a_marks, .int p1_people, .int (((1 : Int32) <<< (p1_people &&& 31)) - 1), .int 0, .int 0, .int days])), (a_p1, .inr (2, [.ref a_p1_marks, .ref a_p1_inWeathers, .ref a_p1_inHours, .ref a_p1_fears, .ref a_p1_weathers, .ref a_p1_hours, .ref a_p1_dangers, .int p1_pay, .int p1_people, .int p1_days])), (a_p1_marks, .inl (cI, 8, .inl p1_marks)), (a_marks, .inl (cI, 8, .inl marks_5))] H := hP
  have hD : va_D A [(a_this, .inr (1, [.ref a_marks, .int p1_people, .int (((1 : Int32) <<< (p1_people &&& 31)) - 1), .int 0, .int 0, .int days])), (a_p1, .inr (2, [.ref a_p1_marks, .ref a_p1_inWeathers, .ref a_p1_inHours, .ref a_p1_fears, .ref a_p1_weathers, .ref a_p1_hours, .ref a_p1_dangers, .int p1_pay, .int p1_people, .int p1_days])), (a_p1_marks, .inl (cI, 8, .inl p1_marks)), (a_marks, .inl (cI, 8, .inl marks_5))] := hD
  refine lv_aload_n hx hb dX1_begin_38 rfl (lv_at hl 0 rfl) ?_
  refine lv_iconst (v := 0) hx hb dX1_begin_39 (by decide) ?_
  refine va_put (D := D) (ci := 1) (v := .int 0) (ty := .int) (C := RX1) (T := TX1) (N := 6) hx hb hts hinX1 tyX1 tyX1_ok nmX1 hown hKK.1 hP hD hS 0 rfl rfl 5 (by decide) fl_28 (fun _ h9 => h9) rfl (by decide +kernel) rfl rfl (Nat.le_of_ble_eq_true rfl) dX1_begin_40 (fun H locs hP hD hS => ?_)
  have hP : va_P D vwCl [(a_this, .inr (1, [.ref a_marks, .int p1_people, .int (((1 : Int32) <<< (p1_people &&& 31)) - 1), .int 0, .int 0, .int 0])), (a_p1, .inr (2, [.ref a_p1_marks, .ref a_p1_inWeathers, .ref a_p1_inHours, .ref a_p1_fears, .ref a_p1_weathers, .ref a_p1_hours, .ref a_p1_dangers, .int p1_pay, .int p1_people, .int p1_days])), (a_p1_marks, .inl (cI, 8, .inl p1_marks)), (a_marks, .inl (cI, 8, .inl marks_5))] H := hP
  have hD : va_D A [(a_this, .inr (1, [.ref a_marks, .int p1_people, .int (((1 : Int32) <<< (p1_people &&& 31)) - 1), .int 0, .int 0, .int 0])), (a_p1, .inr (2, [.ref a_p1_marks, .ref a_p1_inWeathers, .ref a_p1_inHours, .ref a_p1_fears, .ref a_p1_weathers, .ref a_p1_hours, .ref a_p1_dangers, .int p1_pay, .int p1_people, .int p1_days])), (a_p1_marks, .inl (cI, 8, .inl p1_marks)), (a_marks, .inl (cI, 8, .inl marks_5))] := hD
  rw [hQ]
  exact W.vret hx hb hr (fun t ht _ => ⟨⟨⟨marks_5, p1_people, (((1 : Int32) <<< (p1_people &&& 31)) - 1), 0, 0, 0⟩, rfl, hw, by rw [ht]; exact hP, hD⟩, hS.F ht⟩) hS.2.2 dX1_begin_43
def wp_X1_become (p1_people : Int32) (p1_living : Int32) (p1_shown : Int32) (p1_spent : Int32) (p1_days : Int32) (p1_marks : Nat → Int32) (marks : Nat → Int32) (Φ : (Nat → Int32) → Int32 → Int32 → Int32 → Int32 → Int32 → Prop) : Prop :=
  (wp_X1_takeMarks p1_marks 8 marks (fun marks_5 => (Φ marks_5 p1_people p1_living p1_shown p1_spent p1_days)))
abbrev xrm_X1_become : Room := { frames := 2, cells := 0, slots := 0, locals := 44 }
set_option maxRecDepth 100000 in
set_option maxHeartbeats 4000000 in
theorem c_X1_become (l : Launch) (D : va_G) (cI cZ cO : ClassId) {a_marks : Nat} {people : Int32} {living : Int32} {shown : Int32} {spent : Int32} {days : Int32} {a_this : Nat} {a_p1_marks : Nat} {p1_people : Int32} {p1_living : Int32} {p1_shown : Int32} {p1_spent : Int32} {p1_days : Int32} {a_p1 : Nat} {p1_marks : Nat → Int32} {marks : Nat → Int32} {Φ : (Nat → Int32) → Int32 → Int32 → Int32 → Int32 → Int32 → Prop} {sz : Nat} (hw : (wp_X1_become p1_people p1_living p1_shown p1_spent p1_days p1_marks marks Φ)) : Met l yX1_become wsX1_become xrm_X1_become (xPW D cI cZ cO [.ref a_this, .ref a_p1] sz [(a_this, .inr (1, [.ref a_marks, .int people, .int living, .int shown, .int spent, .int days])), (a_p1, .inr (1, [.ref a_p1_marks, .int p1_people, .int p1_living, .int p1_shown, .int p1_spent, .int p1_days])), (a_p1_marks, .inl (cI, 8, .inl p1_marks)), (a_marks, .inl (cI, 8, .inl marks))]) (va_Qv (fun (u : (Nat → Int32) × Int32 × Int32 × Int32 × Int32 × Int32) => Φ u.1 u.2.1 u.2.2.1 u.2.2.2.1 u.2.2.2.2.1 u.2.2.2.2.2) (xB D (va_A [(a_this, .inr (1, [.ref a_marks, .int people, .int living, .int shown, .int spent, .int days])), (a_p1, .inr (1, [.ref a_p1_marks, .int p1_people, .int p1_living, .int p1_shown, .int p1_spent, .int p1_days])), (a_p1_marks, .inl (cI, 8, .inl p1_marks)), (a_marks, .inl (cI, 8, .inl marks))] sz) (fun (u : (Nat → Int32) × Int32 × Int32 × Int32 × Int32 × Int32) => [(a_this, .inr (1, [.ref a_marks, .int u.2.1, .int u.2.2.1, .int u.2.2.2.1, .int u.2.2.2.2.1, .int u.2.2.2.2.2])), (a_p1, .inr (1, [.ref a_p1_marks, .int p1_people, .int p1_living, .int p1_shown, .int p1_spent, .int p1_days])), (a_p1_marks, .inl (cI, 8, .inl p1_marks)), (a_marks, .inl (cI, 8, .inl u.1))])) (va_A [(a_this, .inr (1, [.ref a_marks, .int people, .int living, .int shown, .int spent, .int days])), (a_p1, .inr (1, [.ref a_p1_marks, .int p1_people, .int p1_living, .int p1_shown, .int p1_spent, .int p1_days])), (a_p1_marks, .inl (cI, 8, .inl p1_marks)), (a_marks, .inl (cI, 8, .inl marks))] sz)) 0 0 (va_A [(a_this, .inr (1, [.ref a_marks, .int people, .int living, .int shown, .int spent, .int days])), (a_p1, .inr (1, [.ref a_p1_marks, .int p1_people, .int p1_living, .int p1_shown, .int p1_spent, .int p1_days])), (a_p1_marks, .inl (cI, 8, .inl p1_marks)), (a_marks, .inl (cI, 8, .inl marks))] sz) := by
  refine Met.ofW (cc := cX1_become) (maxL := 2) (ret := none) (by decide) rfl ?_
  intro p e s m args below meth c s₁ B hml hv
  obtain ⟨rfl, hsz, hP, hKK, hD0⟩ := hv
  have hx := B.exec
  have hb := B.bytes
  have hr := B.returns
  have hts := atoms_spec (ws := wsX1_become) B.pre
  have hown : s.vm.findClass RX1 = some m.cls := findClass_of_methodNamed B.named
  have hlocks := B.notSynchronized
  subst hsz
  have hD := hD0.self (sz := s.heap.size)
  obtain ⟨Q, hQ⟩ : ∃ Q, Q = MQ below (va_Qv (fun (u : (Nat → Int32) × Int32 × Int32 × Int32 × Int32 × Int32) => Φ u.1 u.2.1 u.2.2.1 u.2.2.2.1 u.2.2.2.2.1 u.2.2.2.2.2) (xB D (va_A [(a_this, .inr (1, [.ref a_marks, .int people, .int living, .int shown, .int spent, .int days])), (a_p1, .inr (1, [.ref a_p1_marks, .int p1_people, .int p1_living, .int p1_shown, .int p1_spent, .int p1_days])), (a_p1_marks, .inl (cI, 8, .inl p1_marks)), (a_marks, .inl (cI, 8, .inl marks))] s.heap.size) (fun (u : (Nat → Int32) × Int32 × Int32 × Int32 × Int32 × Int32) => [(a_this, .inr (1, [.ref a_marks, .int u.2.1, .int u.2.2.1, .int u.2.2.2.1, .int u.2.2.2.2.1, .int u.2.2.2.2.2])), (a_p1, .inr (1, [.ref a_p1_marks, .int p1_people, .int p1_living, .int p1_shown, .int p1_spent, .int p1_days])), (a_p1_marks, .inl (cI, 8, .inl p1_marks)), (a_marks, .inl (cI, 8, .inl u.1))])) (va_A [(a_this, .inr (1, [.ref a_marks, .int people, .int living, .int shown, .int spent, .int days])), (a_p1, .inr (1, [.ref a_p1_marks, .int p1_people, .int p1_living, .int p1_shown, .int p1_spent, .int p1_days])), (a_p1_marks, .inl (cI, 8, .inl p1_marks)), (a_marks, .inl (cI, 8, .inl marks))] s.heap.size)) ([.ref a_this, .ref a_p1] : List Value).toArray s 0 0 (va_A [(a_this, .inr (1, [.ref a_marks, .int people, .int living, .int shown, .int spent, .int days])), (a_p1, .inr (1, [.ref a_p1_marks, .int p1_people, .int p1_living, .int p1_shown, .int p1_spent, .int p1_days])), (a_p1_marks, .inl (cI, 8, .inl p1_marks)), (a_marks, .inl (cI, 8, .inl marks))] s.heap.size) := ⟨_, rfl⟩
  rw [← hQ]
  generalize hAe : va_A [(a_this, .inr (1, [.ref a_marks, .int people, .int living, .int shown, .int spent, .int days])), (a_p1, .inr (1, [.ref a_p1_marks, .int p1_people, .int p1_living, .int p1_shown, .int p1_spent, .int p1_days])), (a_p1_marks, .inl (cI, 8, .inl p1_marks)), (a_marks, .inl (cI, 8, .inl marks))] s.heap.size = A at hD hQ
  have hA : ∀ q : Nat, s.heap.size ≤ q → A q := fun q h => by rw [← hAe]; exact Or.inr h
  have hS : va_S A s.heap s.heap [] := va_S.rf
  have hl := lv_entry ([.ref a_this, .ref a_p1]) (n := 2) (Nat.le_of_ble_eq_true rfl)
  rw [lg_entry_eq]
  generalize (lg_sl ([.ref a_this, .ref a_p1]) ++ List.replicate (2 - (lg_sl ([.ref a_this, .ref a_p1])).length) Slot.unset).toArray = ls at hl ⊢
  have hl : lv_has ls 2 [(0, .ref a_this), (1, .ref a_p1)] := hl
  generalize ([.ref a_this, .ref a_p1] : List Value).toArray = args at hts hQ ⊢
  have hP : va_P D vwCl [(a_this, .inr (1, [.ref a_marks, .int people, .int living, .int shown, .int spent, .int days])), (a_p1, .inr (1, [.ref a_p1_marks, .int p1_people, .int p1_living, .int p1_shown, .int p1_spent, .int p1_days])), (a_p1_marks, .inl (cI, 8, .inl p1_marks)), (a_marks, .inl (cI, 8, .inl marks))] s.heap := hP
  have hinX1 : ∀ w ∈ u_ws RX1 TX1 6, w ∈ wsX1_become := by decide +kernel
  have fl_9 := hts (.fieldLink RX1 9 "DoubleChain$Chain" "marks" "[I") (by decide +kernel)
  have fl_15 := hts (.fieldLink RX1 15 "DoubleChain$Chain" "people" "I") (by decide +kernel)
  have fl_19 := hts (.fieldLink RX1 19 "DoubleChain$Chain" "living" "I") (by decide +kernel)
  have fl_22 := hts (.fieldLink RX1 22 "DoubleChain$Chain" "shown" "I") (by decide +kernel)
  have fl_25 := hts (.fieldLink RX1 25 "DoubleChain$Chain" "spent" "I") (by decide +kernel)
  have fl_28 := hts (.fieldLink RX1 28 "DoubleChain$Chain" "days" "I") (by decide +kernel)
  clear B
  show W p l e xrm_X1_become s m args below meth c s.heap [] 0 0 Q (F0 m 0 ls [])
  unfold wp_X1_become at hw
  refine lv_aload_n hx hb dX1_become_0 rfl (lv_at hl 0 rfl) ?_
  refine lv_aload_n hx hb dX1_become_1 rfl (lv_at hl 1 rfl) ?_
  refine va_get (D := D) (ci := 1) (v := .ref a_p1_marks) (C := RX1) (T := TX1) (N := 6) hx hb hts hinX1 hown hKK.1 hP 1 rfl rfl 0 (by decide) fl_9 (fun _ h9 => h9) rfl dX1_become_2 ?_
  refine xwVv (q0 := 0) (ci := 1) (wr := [(a_p1, .inr (1, [.ref a_p1_marks, .int p1_people, .int p1_living, .int p1_shown, .int p1_spent, .int p1_days]))]) (As := [.ref a_p1_marks]) (rest := []) (wc := [(a_this, .inr (1, [.ref a_marks, .int people, .int living, .int shown, .int spent, .int days])), (a_p1_marks, .inl (cI, 8, .inl p1_marks)), (a_marks, .inl (cI, 8, .inl marks))]) (fun (u : (Nat → Int32)) => [(a_this, .inr (1, [.ref a_marks, .int people, .int living, .int shown, .int spent, .int days])), (a_p1, .inr (1, [.ref a_p1_marks, .int p1_people, .int p1_living, .int p1_shown, .int p1_spent, .int p1_days])), (a_p1_marks, .inl (cI, 8, .inl p1_marks)), (a_marks, .inl (cI, 8, .inl u))]) ⟨hx, hb, hml, hown, hts⟩ (c_X1_takeMarks l D cI cZ cO hw) (cwV 1 hts gX1_become_X1_takeMarks rfl rfl rfl (by decide +kernel) ⟨Nat.le_of_ble_eq_true rfl, Nat.le_of_ble_eq_true rfl⟩) hKK hP hD hS hA [0, 2, 3] [1] [1, 0, 2, 3] rfl rfl rfl rfl rfl (by decide) (fun _ => rfl) rfl rfl rfl hl.1 rfl (Nat.le_of_ble_eq_true rfl) dX1_become_5 ⟨Nat.zero_le _, Nat.zero_le _⟩ (fun marks_5 H locs hw hP hD hS => ?_)
  have hP : va_P D vwCl [(a_this, .inr (1, [.ref a_marks, .int people, .int living, .int shown, .int spent, .int days])), (a_p1, .inr (1, [.ref a_p1_marks, .int p1_people, .int p1_living, .int p1_shown, .int p1_spent, .int p1_days])), (a_p1_marks, .inl (cI, 8, .inl p1_marks)), (a_marks, .inl (cI, 8, .inl marks_5))] H := hP
  have hD : va_D A [(a_this, .inr (1, [.ref a_marks, .int people, .int living, .int shown, .int spent, .int days])), (a_p1, .inr (1, [.ref a_p1_marks, .int p1_people, .int p1_living, .int p1_shown, .int p1_spent, .int p1_days])), (a_p1_marks, .inl (cI, 8, .inl p1_marks)), (a_marks, .inl (cI, 8, .inl marks_5))] := hD
  refine lv_aload_n hx hb dX1_become_8 rfl (lv_at hl 0 rfl) ?_
  refine lv_aload_n hx hb dX1_become_9 rfl (lv_at hl 1 rfl) ?_
  refine va_get (D := D) (ci := 1) (v := .int p1_people) (C := RX1) (T := TX1) (N := 6) hx hb hts hinX1 hown hKK.1 hP 1 rfl rfl 1 (by decide) fl_15 (fun _ h9 => h9) rfl dX1_become_10 ?_
  refine va_put (D := D) (ci := 1) (v := .int p1_people) (ty := .int) (C := RX1) (T := TX1) (N := 6) hx hb hts hinX1 tyX1 tyX1_ok nmX1 hown hKK.1 hP hD hS 0 rfl rfl 1 (by decide) fl_15 (fun _ h9 => h9) rfl (by decide +kernel) rfl rfl (Nat.le_of_ble_eq_true rfl) dX1_become_13 (fun H locs hP hD hS => ?_)
  have hP : va_P D vwCl [(a_this, .inr (1, [.ref a_marks, .int p1_people, .int living, .int shown, .int spent, .int days])), (a_p1, .inr (1, [.ref a_p1_marks, .int p1_people, .int p1_living, .int p1_shown, .int p1_spent, .int p1_days])), (a_p1_marks, .inl (cI, 8, .inl p1_marks)), (a_marks, .inl (cI, 8, .inl marks_5))] H := hP
  have hD : va_D A [(a_this, .inr (1, [.ref a_marks, .int p1_people, .int living, .int shown, .int spent, .int days])), (a_p1, .inr (1, [.ref a_p1_marks, .int p1_people, .int p1_living, .int p1_shown, .int p1_spent, .int p1_days])), (a_p1_marks, .inl (cI, 8, .inl p1_marks)), (a_marks, .inl (cI, 8, .inl marks_5))] := hD
  refine lv_aload_n hx hb dX1_become_16 rfl (lv_at hl 0 rfl) ?_
  refine lv_aload_n hx hb dX1_become_17 rfl (lv_at hl 1 rfl) ?_
  refine va_get (D := D) (ci := 1) (v := .int p1_living) (C := RX1) (T := TX1) (N := 6) hx hb hts hinX1 hown hKK.1 hP 1 rfl rfl 2 (by decide) fl_19 (fun _ h9 => h9) rfl dX1_become_18 ?_
  refine va_put (D := D) (ci := 1) (v := .int p1_living) (ty := .int) (C := RX1) (T := TX1) (N := 6) hx hb hts hinX1 tyX1 tyX1_ok nmX1 hown hKK.1 hP hD hS 0 rfl rfl 2 (by decide) fl_19 (fun _ h9 => h9) rfl (by decide +kernel) rfl rfl (Nat.le_of_ble_eq_true rfl) dX1_become_21 (fun H locs hP hD hS => ?_)
  have hP : va_P D vwCl [(a_this, .inr (1, [.ref a_marks, .int p1_people, .int p1_living, .int shown, .int spent, .int days])), (a_p1, .inr (1, [.ref a_p1_marks, .int p1_people, .int p1_living, .int p1_shown, .int p1_spent, .int p1_days])), (a_p1_marks, .inl (cI, 8, .inl p1_marks)), (a_marks, .inl (cI, 8, .inl marks_5))] H := hP
  have hD : va_D A [(a_this, .inr (1, [.ref a_marks, .int p1_people, .int p1_living, .int shown, .int spent, .int days])), (a_p1, .inr (1, [.ref a_p1_marks, .int p1_people, .int p1_living, .int p1_shown, .int p1_spent, .int p1_days])), (a_p1_marks, .inl (cI, 8, .inl p1_marks)), (a_marks, .inl (cI, 8, .inl marks_5))] := hD
  refine lv_aload_n hx hb dX1_become_24 rfl (lv_at hl 0 rfl) ?_
  refine lv_aload_n hx hb dX1_become_25 rfl (lv_at hl 1 rfl) ?_
  refine va_get (D := D) (ci := 1) (v := .int p1_shown) (C := RX1) (T := TX1) (N := 6) hx hb hts hinX1 hown hKK.1 hP 1 rfl rfl 3 (by decide) fl_22 (fun _ h9 => h9) rfl dX1_become_26 ?_
  refine va_put (D := D) (ci := 1) (v := .int p1_shown) (ty := .int) (C := RX1) (T := TX1) (N := 6) hx hb hts hinX1 tyX1 tyX1_ok nmX1 hown hKK.1 hP hD hS 0 rfl rfl 3 (by decide) fl_22 (fun _ h9 => h9) rfl (by decide +kernel) rfl rfl (Nat.le_of_ble_eq_true rfl) dX1_become_29 (fun H locs hP hD hS => ?_)
  have hP : va_P D vwCl [(a_this, .inr (1, [.ref a_marks, .int p1_people, .int p1_living, .int p1_shown, .int spent, .int days])), (a_p1, .inr (1, [.ref a_p1_marks, .int p1_people, .int p1_living, .int p1_shown, .int p1_spent, .int p1_days])), (a_p1_marks, .inl (cI, 8, .inl p1_marks)), (a_marks, .inl (cI, 8, .inl marks_5))] H := hP
  have hD : va_D A [(a_this, .inr (1, [.ref a_marks, .int p1_people, .int p1_living, .int p1_shown, .int spent, .int days])), (a_p1, .inr (1, [.ref a_p1_marks, .int p1_people, .int p1_living, .int p1_shown, .int p1_spent, .int p1_days])), (a_p1_marks, .inl (cI, 8, .inl p1_marks)), (a_marks, .inl (cI, 8, .inl marks_5))] := hD
  refine lv_aload_n hx hb dX1_become_32 rfl (lv_at hl 0 rfl) ?_
  refine lv_aload_n hx hb dX1_become_33 rfl (lv_at hl 1 rfl) ?_
  refine va_get (D := D) (ci := 1) (v := .int p1_spent) (C := RX1) (T := TX1) (N := 6) hx hb hts hinX1 hown hKK.1 hP 1 rfl rfl 4 (by decide) fl_25 (fun _ h9 => h9) rfl dX1_become_34 ?_
  refine va_put (D := D) (ci := 1) (v := .int p1_spent) (ty := .int) (C := RX1) (T := TX1) (N := 6) hx hb hts hinX1 tyX1 tyX1_ok nmX1 hown hKK.1 hP hD hS 0 rfl rfl 4 (by decide) fl_25 (fun _ h9 => h9) rfl (by decide +kernel) rfl rfl (Nat.le_of_ble_eq_true rfl) dX1_become_37 (fun H locs hP hD hS => ?_)
  have hP : va_P D vwCl [(a_this, .inr (1, [.ref a_marks, .int p1_people, .int p1_living, .int p1_shown, .int p1_spent, .int days])), (a_p1, .inr (1, [.ref a_p1_marks, .int p1_people, .int p1_living, .int p1_shown, .int p1_spent, .int p1_days])), (a_p1_marks, .inl (cI, 8, .inl p1_marks)), (a_marks, .inl (cI, 8, .inl marks_5))] H := hP
  have hD : va_D A [(a_this, .inr (1, [.ref a_marks, .int p1_people, .int p1_living, .int p1_shown, .int p1_spent, .int days])), (a_p1, .inr (1, [.ref a_p1_marks, .int p1_people, .int p1_living, .int p1_shown, .int p1_spent, .int p1_days])), (a_p1_marks, .inl (cI, 8, .inl p1_marks)), (a_marks, .inl (cI, 8, .inl marks_5))] := hD
  refine lv_aload_n hx hb dX1_become_40 rfl (lv_at hl 0 rfl) ?_
  refine lv_aload_n hx hb dX1_become_41 rfl (lv_at hl 1 rfl) ?_
  refine va_get (D := D) (ci := 1) (v := .int p1_days) (C := RX1) (T := TX1) (N := 6) hx hb hts hinX1 hown hKK.1 hP 1 rfl rfl 5 (by decide) fl_28 (fun _ h9 => h9) rfl dX1_become_42 ?_
  refine va_put (D := D) (ci := 1) (v := .int p1_days) (ty := .int) (C := RX1) (T := TX1) (N := 6) hx hb hts hinX1 tyX1 tyX1_ok nmX1 hown hKK.1 hP hD hS 0 rfl rfl 5 (by decide) fl_28 (fun _ h9 => h9) rfl (by decide +kernel) rfl rfl (Nat.le_of_ble_eq_true rfl) dX1_become_45 (fun H locs hP hD hS => ?_)
  have hP : va_P D vwCl [(a_this, .inr (1, [.ref a_marks, .int p1_people, .int p1_living, .int p1_shown, .int p1_spent, .int p1_days])), (a_p1, .inr (1, [.ref a_p1_marks, .int p1_people, .int p1_living, .int p1_shown, .int p1_spent, .int p1_days])), (a_p1_marks, .inl (cI, 8, .inl p1_marks)), (a_marks, .inl (cI, 8, .inl marks_5))] H := hP
  have hD : va_D A [(a_this, .inr (1, [.ref a_marks, .int p1_people, .int p1_living, .int p1_shown, .int p1_spent, .int p1_days])), (a_p1, .inr (1, [.ref a_p1_marks, .int p1_people, .int p1_living, .int p1_shown, .int p1_spent, .int p1_days])), (a_p1_marks, .inl (cI, 8, .inl p1_marks)), (a_marks, .inl (cI, 8, .inl marks_5))] := hD
  rw [hQ]
  exact W.vret hx hb hr (fun t ht _ => ⟨⟨⟨marks_5, p1_people, p1_living, p1_shown, p1_spent, p1_days⟩, rfl, hw, by rw [ht]; exact hP, hD⟩, hS.F ht⟩) hS.2.2 dX1_become_48
def wp_X7_holds (p0 : Int32) (p1 : Int32) (Φ : Int32 → Prop) : Prop :=
  ((((p0 >>> (p1 &&& 31)) &&& 1) = 1 → (Φ 1)) ∧ (¬ ((p0 >>> (p1 &&& 31)) &&& 1) = 1 → (Φ 0)))
abbrev xrm_X7_holds : Room := { frames := 0, cells := 0, slots := 0, locals := 0 }
set_option maxRecDepth 100000 in
set_option maxHeartbeats 4000000 in
theorem c_X7_holds (l : Launch) (D : va_G) (cI cZ cO : ClassId) {p0 : Int32} {p1 : Int32} {Φ : Int32 → Prop} (hw : (wp_X7_holds p0 p1 Φ)) : Met l yX7_holds wsX7_holds xrm_X7_holds (xPR D cI cZ cO [.int p0, .int p1] []) (vp_Si Φ) 0 0 (fun _ => False) := by
  refine Met.ofW (cc := cX7_holds) (maxL := 2) (ret := (some .boolean)) (by decide) rfl ?_
  intro p e s m args below meth c s₁ B hml hv
  obtain ⟨rfl, hP, hKK⟩ := hv
  have hx := B.exec
  have hb := B.bytes
  have hr := B.returns
  have hts := atoms_spec (ws := wsX7_holds) B.pre
  have hown : s.vm.findClass RX7 = some m.cls := findClass_of_methodNamed B.named
  have hlocks := B.notSynchronized
  obtain ⟨Q, hQ⟩ : ∃ Q, Q = MQ below (vp_Si Φ) ([.int p0, .int p1] : List Value).toArray s 0 0 (fun _ => False) := ⟨_, rfl⟩
  rw [← hQ]
  have hl := lv_entry ([.int p0, .int p1]) (n := 2) (Nat.le_of_ble_eq_true rfl)
  rw [lg_entry_eq]
  generalize (lg_sl ([.int p0, .int p1]) ++ List.replicate (2 - (lg_sl ([.int p0, .int p1])).length) Slot.unset).toArray = ls at hl ⊢
  have hl : lv_has ls 2 [(0, .int p0), (1, .int p1)] := hl
  generalize ([.int p0, .int p1] : List Value).toArray = args at hts hQ ⊢
  have hP : va_P D vwCl [] s.heap := hP
  clear B
  show W p l e xrm_X7_holds s m args below meth c s.heap [] 0 0 Q (F0 m 0 ls [])
  unfold wp_X7_holds at hw
  refine lv_iload_n hx hb dX7_holds_0 rfl (lv_at hl 0 rfl) ?_
  refine lv_iload_n hx hb dX7_holds_1 rfl (lv_at hl 1 rfl) ?_
  refine lv_ishr hx hb dX7_holds_2 ?_
  refine lv_iconst (v := 1) hx hb dX7_holds_3 (by decide) ?_
  refine lv_iand hx hb dX7_holds_4 ?_
  refine lv_iconst (v := 1) hx hb dX7_holds_5 (by decide) ?_
  refine lv_icmp_ne (tgt := 13) hx hb dX7_holds_6 (by decide) (fun c_6 => ?_) (fun c_6 => ?_)
  · have hw := hw.2 c_6
    refine lv_iconst (v := 0) hx hb dX7_holds_13 (by decide) ?_
    rw [hQ]
    exact W.zret (v := 0) hx hb hr xvz_0 (fun t ht _ => ⟨0, rfl, hw, ht⟩) (fun _ h => (List.not_mem_nil h).elim) dX7_holds_14
  · have hw := hw.1 c_6
    refine lv_iconst (v := 1) hx hb dX7_holds_9 (by decide) ?_
    refine lv_goto (tgt := 14) hx hb dX7_holds_10 (by decide) ?_
    rw [hQ]
    exact W.zret (v := 1) hx hb hr xvz_1 (fun t ht _ => ⟨1, rfl, hw, ht⟩) (fun _ h => (List.not_mem_nil h).elim) dX7_holds_14
def wp_X1_lives (living : Int32) (p1 : Int32) (Φ : Int32 → Prop) : Prop :=
  (wp_X7_holds living p1 (fun r_5 => ((xvz r_5 ∧ Φ r_5))))
abbrev xrm_X1_lives : Room := { frames := 1, cells := 0, slots := 0, locals := 21 }
set_option maxRecDepth 100000 in
set_option maxHeartbeats 4000000 in
theorem c_X1_lives (l : Launch) (D : va_G) (cI cZ cO : ClassId) {a_marks : Nat} {people : Int32} {living : Int32} {shown : Int32} {spent : Int32} {days : Int32} {a_this : Nat} {p1 : Int32} {Φ : Int32 → Prop} (hw : (wp_X1_lives living p1 Φ)) : Met l yX1_lives wsX1_lives xrm_X1_lives (xPR D cI cZ cO [.ref a_this, .int p1] [(a_this, .inr (1, [.ref a_marks, .int people, .int living, .int shown, .int spent, .int days]))]) (vp_Si Φ) 0 0 (fun _ => False) := by
  refine Met.ofW (cc := cX1_lives) (maxL := 2) (ret := (some .boolean)) (by decide) rfl ?_
  intro p e s m args below meth c s₁ B hml hv
  obtain ⟨rfl, hP, hKK⟩ := hv
  have hx := B.exec
  have hb := B.bytes
  have hr := B.returns
  have hts := atoms_spec (ws := wsX1_lives) B.pre
  have hown : s.vm.findClass RX1 = some m.cls := findClass_of_methodNamed B.named
  have hlocks := B.notSynchronized
  obtain ⟨Q, hQ⟩ : ∃ Q, Q = MQ below (vp_Si Φ) ([.ref a_this, .int p1] : List Value).toArray s 0 0 (fun _ => False) := ⟨_, rfl⟩
  rw [← hQ]
  have hl := lv_entry ([.ref a_this, .int p1]) (n := 2) (Nat.le_of_ble_eq_true rfl)
  rw [lg_entry_eq]
  generalize (lg_sl ([.ref a_this, .int p1]) ++ List.replicate (2 - (lg_sl ([.ref a_this, .int p1])).length) Slot.unset).toArray = ls at hl ⊢
  have hl : lv_has ls 2 [(0, .ref a_this), (1, .int p1)] := hl
  generalize ([.ref a_this, .int p1] : List Value).toArray = args at hts hQ ⊢
  have hP : va_P D vwCl [(a_this, .inr (1, [.ref a_marks, .int people, .int living, .int shown, .int spent, .int days]))] s.heap := hP
  have hinX1 : ∀ w ∈ u_ws RX1 TX1 6, w ∈ wsX1_lives := by decide +kernel
  have fl_19 := hts (.fieldLink RX1 19 "DoubleChain$Chain" "living" "I") (by decide +kernel)
  clear B
  show W p l e xrm_X1_lives s m args below meth c s.heap [] 0 0 Q (F0 m 0 ls [])
  unfold wp_X1_lives at hw
  refine lv_aload_n hx hb dX1_lives_0 rfl (lv_at hl 0 rfl) ?_
  refine va_get (D := D) (ci := 1) (v := .int living) (C := RX1) (T := TX1) (N := 6) hx hb hts hinX1 hown hKK.1 hP 0 rfl rfl 2 (by decide) fl_19 (fun _ h9 => h9) rfl dX1_lives_1 ?_
  refine lv_iload_n hx hb dX1_lives_4 rfl (lv_at hl 1 rfl) ?_
  refine xcNi (As := [.int living, .int p1]) (rest := []) (wc := []) ⟨hx, hb, hml, hown, hts⟩ (c_X7_holds l D cI cZ cO hw) ⟨va_cnB 2 hts gX1_lives_X7_holds_n47 rfl rfl rfl (xn_15 hKK.2) (hts (.initialized RX7) (by decide +kernel)) (by decide +kernel) ⟨Nat.le_of_ble_eq_true rfl, Nat.le_of_ble_eq_true rfl⟩, hts (.static yX7_holds) (by decide +kernel), trivial⟩ hKK hP [] rfl rfl hl.1 rfl (Nat.le_of_ble_eq_true rfl) dX1_lives_5 ⟨Nat.zero_le _, Nat.zero_le _⟩ (fun r_5 hw => ?_)
  obtain ⟨hvz, hw⟩ := hw
  rw [hQ]
  exact W.zret (v := r_5) hx hb hr hvz (fun t ht _ => ⟨r_5, rfl, hw, ht⟩) (fun _ h => (List.not_mem_nil h).elim) dX1_lives_8
def wp_J6_bitCount_0f7a4 (p0 : Int32) (Φ : Int32 → Prop) : Prop :=
  (∀ y_9 : Int32, y_9 = (p0 - (((p0).toUInt32 >>> ((1 : Int32).toUInt32 &&& Int32.toUInt32 31)).toInt32 &&& 1431655765)) → (∀ y_23 : Int32, y_23 = ((y_9 &&& 858993459) + (((y_9).toUInt32 >>> ((2 : Int32).toUInt32 &&& Int32.toUInt32 31)).toInt32 &&& 858993459)) → (∀ y_33 : Int32, y_33 = ((y_23 + ((y_23).toUInt32 >>> ((4 : Int32).toUInt32 &&& Int32.toUInt32 31)).toInt32) &&& 252645135) → (∀ y_40 : Int32, y_40 = (y_33 + ((y_33).toUInt32 >>> ((8 : Int32).toUInt32 &&& Int32.toUInt32 31)).toInt32) → (∀ y_47 : Int32, y_47 = (y_40 + ((y_40).toUInt32 >>> ((16 : Int32).toUInt32 &&& Int32.toUInt32 31)).toInt32) → (Φ (y_47 &&& 63)))))))
abbrev xrm_J6_bitCount_0f7a4 : Room := { frames := 0, cells := 0, slots := 0, locals := 0 }
set_option maxRecDepth 100000 in
set_option maxHeartbeats 4000000 in
theorem c_J6_bitCount_0f7a4 (l : Launch) (D : va_G) (cI cZ cO : ClassId) {p0 : Int32} {Φ : Int32 → Prop} (hw : (wp_J6_bitCount_0f7a4 p0 Φ)) : Met l yJ6_bitCount_0f7a4 wsJ6_bitCount_0f7a4 xrm_J6_bitCount_0f7a4 (xPR D cI cZ cO [.int p0] []) (vp_Si Φ) 0 0 (fun _ => False) := by
  refine Met.ofW (cc := cJ6_bitCount_0f7a4) (maxL := 1) (ret := (some .int)) (by decide) rfl ?_
  intro p e s m args below meth c s₁ B hml hv
  obtain ⟨rfl, hP, hKK⟩ := hv
  have hx := B.exec
  have hb := B.bytes
  have hr := B.returns
  have hts := atoms_spec (ws := wsJ6_bitCount_0f7a4) B.pre
  have hown : s.vm.findClass RJ6 = some m.cls := findClass_of_methodNamed B.named
  have hlocks := B.notSynchronized
  obtain ⟨Q, hQ⟩ : ∃ Q, Q = MQ below (vp_Si Φ) ([.int p0] : List Value).toArray s 0 0 (fun _ => False) := ⟨_, rfl⟩
  rw [← hQ]
  have hl := lv_entry ([.int p0]) (n := 1) (Nat.le_of_ble_eq_true rfl)
  rw [lg_entry_eq]
  generalize (lg_sl ([.int p0]) ++ List.replicate (1 - (lg_sl ([.int p0])).length) Slot.unset).toArray = ls at hl ⊢
  have hl : lv_has ls 1 [(0, .int p0)] := hl
  generalize ([.int p0] : List Value).toArray = args at hts hQ ⊢
  have hP : va_P D vwCl [] s.heap := hP
  clear B
  show W p l e xrm_J6_bitCount_0f7a4 s m args below meth c s.heap [] 0 0 Q (F0 m 0 ls [])
  unfold wp_J6_bitCount_0f7a4 at hw
  refine lv_iload_n hx hb dJ6_bitCount_0f7a4_0 rfl (lv_at hl 0 rfl) ?_
  refine lv_iload_n hx hb dJ6_bitCount_0f7a4_1 rfl (lv_at hl 0 rfl) ?_
  refine lv_iconst (v := 1) hx hb dJ6_bitCount_0f7a4_2 (by decide) ?_
  refine lv_iushr (v := ((p0).toUInt32 >>> ((1 : Int32).toUInt32 &&& Int32.toUInt32 31)).toInt32) hx hb dJ6_bitCount_0f7a4_3 rfl ?_
  refine lv_ldcw (v := 1431655765) hx hb hown (hts (.constant RJ6 265 1431655765) (by decide +kernel)) dJ6_bitCount_0f7a4_4 ?_
  refine lv_iand hx hb dJ6_bitCount_0f7a4_7 ?_
  refine lv_isub hx hb dJ6_bitCount_0f7a4_8 ?_
  refine lv_topi (fun y_9 e_9 => ?_)
  have hw := hw y_9 e_9
  refine lv_istore_n (lv' := [(0, .int y_9)]) hx hb dJ6_bitCount_0f7a4_9 rfl hl (by decide) rfl (fun ls hl => ?_)
  refine lv_iload_n hx hb dJ6_bitCount_0f7a4_10 rfl (lv_at hl 0 rfl) ?_
  refine lv_ldcw (v := 858993459) hx hb hown (hts (.constant RJ6 266 858993459) (by decide +kernel)) dJ6_bitCount_0f7a4_11 ?_
  refine lv_iand hx hb dJ6_bitCount_0f7a4_14 ?_
  refine lv_iload_n hx hb dJ6_bitCount_0f7a4_15 rfl (lv_at hl 0 rfl) ?_
  refine lv_iconst (v := 2) hx hb dJ6_bitCount_0f7a4_16 (by decide) ?_
  refine lv_iushr (v := ((y_9).toUInt32 >>> ((2 : Int32).toUInt32 &&& Int32.toUInt32 31)).toInt32) hx hb dJ6_bitCount_0f7a4_17 rfl ?_
  refine lv_ldcw (v := 858993459) hx hb hown (hts (.constant RJ6 266 858993459) (by decide +kernel)) dJ6_bitCount_0f7a4_18 ?_
  refine lv_iand hx hb dJ6_bitCount_0f7a4_21 ?_
  refine lv_iadd hx hb dJ6_bitCount_0f7a4_22 ?_
  refine lv_topi (fun y_23 e_23 => ?_)
  have hw := hw y_23 e_23
  refine lv_istore_n (lv' := [(0, .int y_23)]) hx hb dJ6_bitCount_0f7a4_23 rfl hl (by decide) rfl (fun ls hl => ?_)
  refine lv_iload_n hx hb dJ6_bitCount_0f7a4_24 rfl (lv_at hl 0 rfl) ?_
  refine lv_iload_n hx hb dJ6_bitCount_0f7a4_25 rfl (lv_at hl 0 rfl) ?_
  refine lv_iconst (v := 4) hx hb dJ6_bitCount_0f7a4_26 (by decide) ?_
  refine lv_iushr (v := ((y_23).toUInt32 >>> ((4 : Int32).toUInt32 &&& Int32.toUInt32 31)).toInt32) hx hb dJ6_bitCount_0f7a4_27 rfl ?_
  refine lv_iadd hx hb dJ6_bitCount_0f7a4_28 ?_
  refine lv_ldcw (v := 252645135) hx hb hown (hts (.constant RJ6 267 252645135) (by decide +kernel)) dJ6_bitCount_0f7a4_29 ?_
  refine lv_iand hx hb dJ6_bitCount_0f7a4_32 ?_
  refine lv_topi (fun y_33 e_33 => ?_)
  have hw := hw y_33 e_33
  refine lv_istore_n (lv' := [(0, .int y_33)]) hx hb dJ6_bitCount_0f7a4_33 rfl hl (by decide) rfl (fun ls hl => ?_)
  refine lv_iload_n hx hb dJ6_bitCount_0f7a4_34 rfl (lv_at hl 0 rfl) ?_
  refine lv_iload_n hx hb dJ6_bitCount_0f7a4_35 rfl (lv_at hl 0 rfl) ?_
  refine lv_bipush (v := 8) hx hb dJ6_bitCount_0f7a4_36 (by decide) ?_
  refine lv_iushr (v := ((y_33).toUInt32 >>> ((8 : Int32).toUInt32 &&& Int32.toUInt32 31)).toInt32) hx hb dJ6_bitCount_0f7a4_38 rfl ?_
  refine lv_iadd hx hb dJ6_bitCount_0f7a4_39 ?_
  refine lv_topi (fun y_40 e_40 => ?_)
  have hw := hw y_40 e_40
  refine lv_istore_n (lv' := [(0, .int y_40)]) hx hb dJ6_bitCount_0f7a4_40 rfl hl (by decide) rfl (fun ls hl => ?_)
  refine lv_iload_n hx hb dJ6_bitCount_0f7a4_41 rfl (lv_at hl 0 rfl) ?_
  refine lv_iload_n hx hb dJ6_bitCount_0f7a4_42 rfl (lv_at hl 0 rfl) ?_
  refine lv_bipush (v := 16) hx hb dJ6_bitCount_0f7a4_43 (by decide) ?_
  refine lv_iushr (v := ((y_40).toUInt32 >>> ((16 : Int32).toUInt32 &&& Int32.toUInt32 31)).toInt32) hx hb dJ6_bitCount_0f7a4_45 rfl ?_
  refine lv_iadd hx hb dJ6_bitCount_0f7a4_46 ?_
  refine lv_topi (fun y_47 e_47 => ?_)
  have hw := hw y_47 e_47
  refine lv_istore_n (lv' := [(0, .int y_47)]) hx hb dJ6_bitCount_0f7a4_47 rfl hl (by decide) rfl (fun ls hl => ?_)
  refine lv_iload_n hx hb dJ6_bitCount_0f7a4_48 rfl (lv_at hl 0 rfl) ?_
  refine lv_bipush (v := 63) hx hb dJ6_bitCount_0f7a4_49 (by decide) ?_
  refine lv_iand hx hb dJ6_bitCount_0f7a4_51 ?_
  rw [hQ]
  exact W.iret (v := (y_47 &&& 63)) hx hb hr (fun t ht _ => ⟨(y_47 &&& 63), rfl, hw, ht⟩) (fun _ h => (List.not_mem_nil h).elim) dJ6_bitCount_0f7a4_52
def wp_X1_aheadOf (living : Int32) (p1 : Int32) (Φ : Int32 → Prop) : Prop :=
  (wp_J6_bitCount_0f7a4 (living &&& (((1 : Int32) <<< (p1 &&& 31)) - 1)) (fun r_10 => (Φ r_10)))
abbrev xrm_X1_aheadOf : Room := { frames := 1, cells := 0, slots := 0, locals := 20 }
set_option maxRecDepth 100000 in
set_option maxHeartbeats 4000000 in
theorem c_X1_aheadOf (l : Launch) (D : va_G) (cI cZ cO : ClassId) {a_marks : Nat} {people : Int32} {living : Int32} {shown : Int32} {spent : Int32} {days : Int32} {a_this : Nat} {p1 : Int32} {Φ : Int32 → Prop} (hw : (wp_X1_aheadOf living p1 Φ)) : Met l yX1_aheadOf wsX1_aheadOf xrm_X1_aheadOf (xPR D cI cZ cO [.ref a_this, .int p1] [(a_this, .inr (1, [.ref a_marks, .int people, .int living, .int shown, .int spent, .int days]))]) (vp_Si Φ) 0 0 (fun _ => False) := by
  refine Met.ofW (cc := cX1_aheadOf) (maxL := 2) (ret := (some .int)) (by decide) rfl ?_
  intro p e s m args below meth c s₁ B hml hv
  obtain ⟨rfl, hP, hKK⟩ := hv
  have hx := B.exec
  have hb := B.bytes
  have hr := B.returns
  have hts := atoms_spec (ws := wsX1_aheadOf) B.pre
  have hown : s.vm.findClass RX1 = some m.cls := findClass_of_methodNamed B.named
  have hlocks := B.notSynchronized
  obtain ⟨Q, hQ⟩ : ∃ Q, Q = MQ below (vp_Si Φ) ([.ref a_this, .int p1] : List Value).toArray s 0 0 (fun _ => False) := ⟨_, rfl⟩
  rw [← hQ]
  have hl := lv_entry ([.ref a_this, .int p1]) (n := 2) (Nat.le_of_ble_eq_true rfl)
  rw [lg_entry_eq]
  generalize (lg_sl ([.ref a_this, .int p1]) ++ List.replicate (2 - (lg_sl ([.ref a_this, .int p1])).length) Slot.unset).toArray = ls at hl ⊢
  have hl : lv_has ls 2 [(0, .ref a_this), (1, .int p1)] := hl
  generalize ([.ref a_this, .int p1] : List Value).toArray = args at hts hQ ⊢
  have hP : va_P D vwCl [(a_this, .inr (1, [.ref a_marks, .int people, .int living, .int shown, .int spent, .int days]))] s.heap := hP
  have hinX1 : ∀ w ∈ u_ws RX1 TX1 6, w ∈ wsX1_aheadOf := by decide +kernel
  have fl_19 := hts (.fieldLink RX1 19 "DoubleChain$Chain" "living" "I") (by decide +kernel)
  clear B
  show W p l e xrm_X1_aheadOf s m args below meth c s.heap [] 0 0 Q (F0 m 0 ls [])
  unfold wp_X1_aheadOf at hw
  refine lv_aload_n hx hb dX1_aheadOf_0 rfl (lv_at hl 0 rfl) ?_
  refine va_get (D := D) (ci := 1) (v := .int living) (C := RX1) (T := TX1) (N := 6) hx hb hts hinX1 hown hKK.1 hP 0 rfl rfl 2 (by decide) fl_19 (fun _ h9 => h9) rfl dX1_aheadOf_1 ?_
  refine lv_iconst (v := 1) hx hb dX1_aheadOf_4 (by decide) ?_
  refine lv_iload_n hx hb dX1_aheadOf_5 rfl (lv_at hl 1 rfl) ?_
  refine lv_ishl hx hb dX1_aheadOf_6 ?_
  refine lv_iconst (v := 1) hx hb dX1_aheadOf_7 (by decide) ?_
  refine lv_isub hx hb dX1_aheadOf_8 ?_
  refine lv_iand hx hb dX1_aheadOf_9 ?_
  refine xcSi (As := [.int (living &&& (((1 : Int32) <<< (p1 &&& 31)) - 1))]) (rest := []) (wc := []) ⟨hx, hb, hml, hown, hts⟩ (c_J6_bitCount_0f7a4 l D cI cZ cO hw) (va_cwS 1 hts gX1_aheadOf_J6_bitCount_0f7a4 rfl rfl rfl (by decide +kernel) ⟨Nat.le_of_ble_eq_true rfl, Nat.le_of_ble_eq_true rfl⟩) hKK hP [] rfl rfl hl.1 rfl (Nat.le_of_ble_eq_true rfl) dX1_aheadOf_10 ⟨Nat.zero_le _, Nat.zero_le _⟩ (fun r_10 hw => ?_)
  rw [hQ]
  exact W.iret (v := r_10) hx hb hr (fun t ht _ => ⟨r_10, rfl, hw, ht⟩) (fun _ h => (List.not_mem_nil h).elim) dX1_aheadOf_13
def wp_X2_goesOut (inWeathers : Nat → Int32) (inHours : Nat → Int32) (fears : Nat → Int32) (p1 : Int32) (p2 : Int32) (p3 : Int32) (p4 : Int32) (Φ : Int32 → Prop) : Prop :=
  (wp_X7_at inWeathers 8 p1 (fun r_5 => (wp_X7_holds r_5 p2 (fun r_9 => ((r_9 = 0 → (wp_X7_at inHours 8 p1 (fun r_20 => (wp_X7_holds r_20 p3 (fun r_24 => ((r_24 = 0 → (wp_X7_at fears 8 p1 (fun r_37 => ((r_37 < p4 → (Φ 0)) ∧ (¬ r_37 < p4 → (Φ 1)))))) ∧ (¬ r_24 = 0 → (Φ 0)))))))) ∧ (¬ r_9 = 0 → (Φ 0)))))))
abbrev xrm_X2_goesOut : Room := { frames := 1, cells := 0, slots := 0, locals := 21 }
set_option maxRecDepth 100000 in
set_option maxHeartbeats 4000000 in
theorem c_X2_goesOut (l : Launch) (D : va_G) (cI cZ cO : ClassId) {a_marks : Nat} {a_inWeathers : Nat} {a_inHours : Nat} {a_fears : Nat} {a_weathers : Nat} {a_hours : Nat} {a_dangers : Nat} {pay : Int32} {people : Int32} {days : Int32} {a_this : Nat} {inWeathers : Nat → Int32} {inHours : Nat → Int32} {fears : Nat → Int32} {p1 : Int32} {p2 : Int32} {p3 : Int32} {p4 : Int32} {Φ : Int32 → Prop} (hw : (wp_X2_goesOut inWeathers inHours fears p1 p2 p3 p4 Φ)) : Met l yX2_goesOut wsX2_goesOut xrm_X2_goesOut (xPR D cI cZ cO [.ref a_this, .int p1, .int p2, .int p3, .int p4] [(a_this, .inr (2, [.ref a_marks, .ref a_inWeathers, .ref a_inHours, .ref a_fears, .ref a_weathers, .ref a_hours, .ref a_dangers, .int pay, .int people, .int days])), (a_inWeathers, .inl (cI, 8, .inl inWeathers)), (a_inHours, .inl (cI, 8, .inl inHours)), (a_fears, .inl (cI, 8, .inl fears))]) (vp_Si Φ) 0 0 (fun _ => False) := by
  refine Met.ofW (cc := cX2_goesOut) (maxL := 5) (ret := (some .boolean)) (by decide) rfl ?_
  intro p e s m args below meth c s₁ B hml hv
  obtain ⟨rfl, hP, hKK⟩ := hv
  have hx := B.exec
  have hb := B.bytes
  have hr := B.returns
  have hts := atoms_spec (ws := wsX2_goesOut) B.pre
  have hown : s.vm.findClass RX2 = some m.cls := findClass_of_methodNamed B.named
  have hlocks := B.notSynchronized
  obtain ⟨Q, hQ⟩ : ∃ Q, Q = MQ below (vp_Si Φ) ([.ref a_this, .int p1, .int p2, .int p3, .int p4] : List Value).toArray s 0 0 (fun _ => False) := ⟨_, rfl⟩
  rw [← hQ]
  have hl := lv_entry ([.ref a_this, .int p1, .int p2, .int p3, .int p4]) (n := 5) (Nat.le_of_ble_eq_true rfl)
  rw [lg_entry_eq]
  generalize (lg_sl ([.ref a_this, .int p1, .int p2, .int p3, .int p4]) ++ List.replicate (5 - (lg_sl ([.ref a_this, .int p1, .int p2, .int p3, .int p4])).length) Slot.unset).toArray = ls at hl ⊢
  have hl : lv_has ls 5 [(0, .ref a_this), (1, .int p1), (2, .int p2), (3, .int p3), (4, .int p4)] := hl
  generalize ([.ref a_this, .int p1, .int p2, .int p3, .int p4] : List Value).toArray = args at hts hQ ⊢
  have hP : va_P D vwCl [(a_this, .inr (2, [.ref a_marks, .ref a_inWeathers, .ref a_inHours, .ref a_fears, .ref a_weathers, .ref a_hours, .ref a_dangers, .int pay, .int people, .int days])), (a_inWeathers, .inl (cI, 8, .inl inWeathers)), (a_inHours, .inl (cI, 8, .inl inHours)), (a_fears, .inl (cI, 8, .inl fears))] s.heap := hP
  have hinX2 : ∀ w ∈ u_ws RX2 TX2 10, w ∈ wsX2_goesOut := by decide +kernel
  have fl_15 := hts (.fieldLink RX2 15 "DoubleChain$Court" "inWeathers" "[I") (by decide +kernel)
  have fl_18 := hts (.fieldLink RX2 18 "DoubleChain$Court" "inHours" "[I") (by decide +kernel)
  have fl_21 := hts (.fieldLink RX2 21 "DoubleChain$Court" "fears" "[I") (by decide +kernel)
  clear B
  show W p l e xrm_X2_goesOut s m args below meth c s.heap [] 0 0 Q (F0 m 0 ls [])
  unfold wp_X2_goesOut at hw
  refine lv_aload_n hx hb dX2_goesOut_0 rfl (lv_at hl 0 rfl) ?_
  refine va_get (D := D) (ci := 2) (v := .ref a_inWeathers) (C := RX2) (T := TX2) (N := 10) hx hb hts hinX2 hown hKK.1 hP 0 rfl rfl 1 (by decide) fl_15 (fun _ h9 => h9) rfl dX2_goesOut_1 ?_
  refine lv_iload_n hx hb dX2_goesOut_4 rfl (lv_at hl 1 rfl) ?_
  refine xcNi (As := [.ref a_inWeathers, .int p1]) (rest := []) (wc := [(a_inWeathers, .inl (cI, 8, .inl inWeathers))]) ⟨hx, hb, hml, hown, hts⟩ (c_X7_at l D cI cZ cO hw) ⟨va_cnB 2 hts gX2_goesOut_X7_at_n51 rfl rfl rfl (xn_14 hKK.2) (hts (.initialized RX7) (by decide +kernel)) (by decide +kernel) ⟨Nat.le_of_ble_eq_true rfl, Nat.le_of_ble_eq_true rfl⟩, hts (.static yX7_at) (by decide +kernel), trivial⟩ hKK hP [1] rfl rfl hl.1 rfl (Nat.le_of_ble_eq_true rfl) dX2_goesOut_5 ⟨Nat.zero_le _, Nat.zero_le _⟩ (fun r_5 hw => ?_)
  refine lv_iload_n hx hb dX2_goesOut_8 rfl (lv_at hl 2 rfl) ?_
  refine xcNi (As := [.int r_5, .int p2]) (rest := []) (wc := []) ⟨hx, hb, hml, hown, hts⟩ (c_X7_holds l D cI cZ cO hw) ⟨va_cnB 2 hts gX2_goesOut_X7_holds_n54 rfl rfl rfl (xn_16 hKK.2) (hts (.initialized RX7) (by decide +kernel)) (by decide +kernel) ⟨Nat.le_of_ble_eq_true rfl, Nat.le_of_ble_eq_true rfl⟩, hts (.static yX7_holds) (by decide +kernel), trivial⟩ hKK hP [] rfl rfl hl.1 rfl (Nat.le_of_ble_eq_true rfl) dX2_goesOut_9 ⟨Nat.zero_le _, Nat.zero_le _⟩ (fun r_9 hw => ?_)
  refine lv_if_ne (tgt := 47) hx hb dX2_goesOut_12 (by decide) (fun c_12 => ?_) (fun c_12 => ?_)
  · have hw := hw.2 c_12
    refine lv_iconst (v := 0) hx hb dX2_goesOut_47 (by decide) ?_
    rw [hQ]
    exact W.zret (v := 0) hx hb hr xvz_0 (fun t ht _ => ⟨0, rfl, hw, ht⟩) (fun _ h => (List.not_mem_nil h).elim) dX2_goesOut_48
  · have hw := hw.1 c_12
    refine lv_aload_n hx hb dX2_goesOut_15 rfl (lv_at hl 0 rfl) ?_
    refine va_get (D := D) (ci := 2) (v := .ref a_inHours) (C := RX2) (T := TX2) (N := 10) hx hb hts hinX2 hown hKK.1 hP 0 rfl rfl 2 (by decide) fl_18 (fun _ h9 => h9) rfl dX2_goesOut_16 ?_
    refine lv_iload_n hx hb dX2_goesOut_19 rfl (lv_at hl 1 rfl) ?_
    refine xcNi (As := [.ref a_inHours, .int p1]) (rest := []) (wc := [(a_inHours, .inl (cI, 8, .inl inHours))]) ⟨hx, hb, hml, hown, hts⟩ (c_X7_at l D cI cZ cO hw) ⟨va_cnB 2 hts gX2_goesOut_X7_at_n51 rfl rfl rfl (xn_14 hKK.2) (hts (.initialized RX7) (by decide +kernel)) (by decide +kernel) ⟨Nat.le_of_ble_eq_true rfl, Nat.le_of_ble_eq_true rfl⟩, hts (.static yX7_at) (by decide +kernel), trivial⟩ hKK hP [2] rfl rfl hl.1 rfl (Nat.le_of_ble_eq_true rfl) dX2_goesOut_20 ⟨Nat.zero_le _, Nat.zero_le _⟩ (fun r_20 hw => ?_)
    refine lv_iload_n hx hb dX2_goesOut_23 rfl (lv_at hl 3 rfl) ?_
    refine xcNi (As := [.int r_20, .int p3]) (rest := []) (wc := []) ⟨hx, hb, hml, hown, hts⟩ (c_X7_holds l D cI cZ cO hw) ⟨va_cnB 2 hts gX2_goesOut_X7_holds_n54 rfl rfl rfl (xn_16 hKK.2) (hts (.initialized RX7) (by decide +kernel)) (by decide +kernel) ⟨Nat.le_of_ble_eq_true rfl, Nat.le_of_ble_eq_true rfl⟩, hts (.static yX7_holds) (by decide +kernel), trivial⟩ hKK hP [] rfl rfl hl.1 rfl (Nat.le_of_ble_eq_true rfl) dX2_goesOut_24 ⟨Nat.zero_le _, Nat.zero_le _⟩ (fun r_24 hw => ?_)
    refine lv_if_ne (tgt := 47) hx hb dX2_goesOut_27 (by decide) (fun c_27 => ?_) (fun c_27 => ?_)
    · have hw := hw.2 c_27
      refine lv_iconst (v := 0) hx hb dX2_goesOut_47 (by decide) ?_
      rw [hQ]
      exact W.zret (v := 0) hx hb hr xvz_0 (fun t ht _ => ⟨0, rfl, hw, ht⟩) (fun _ h => (List.not_mem_nil h).elim) dX2_goesOut_48
    · have hw := hw.1 c_27
      refine lv_iload hx hb dX2_goesOut_30 (lv_at hl 4 rfl) ?_
      refine lv_aload_n hx hb dX2_goesOut_32 rfl (lv_at hl 0 rfl) ?_
      refine va_get (D := D) (ci := 2) (v := .ref a_fears) (C := RX2) (T := TX2) (N := 10) hx hb hts hinX2 hown hKK.1 hP 0 rfl rfl 3 (by decide) fl_21 (fun _ h9 => h9) rfl dX2_goesOut_33 ?_
      refine lv_iload_n hx hb dX2_goesOut_36 rfl (lv_at hl 1 rfl) ?_
      refine xcNi (As := [.ref a_fears, .int p1]) (rest := [.int p4]) (wc := [(a_fears, .inl (cI, 8, .inl fears))]) ⟨hx, hb, hml, hown, hts⟩ (c_X7_at l D cI cZ cO hw) ⟨va_cnB 2 hts gX2_goesOut_X7_at_n51 rfl rfl rfl (xn_14 hKK.2) (hts (.initialized RX7) (by decide +kernel)) (by decide +kernel) ⟨Nat.le_of_ble_eq_true rfl, Nat.le_of_ble_eq_true rfl⟩, hts (.static yX7_at) (by decide +kernel), trivial⟩ hKK hP [3] rfl rfl hl.1 rfl (Nat.le_of_ble_eq_true rfl) dX2_goesOut_37 ⟨Nat.zero_le _, Nat.zero_le _⟩ (fun r_37 hw => ?_)
      refine lv_icmp_gt (tgt := 47) hx hb dX2_goesOut_40 (by decide) (fun c_40 => ?_) (fun c_40 => ?_)
      · have hw := hw.1 c_40
        refine lv_iconst (v := 0) hx hb dX2_goesOut_47 (by decide) ?_
        rw [hQ]
        exact W.zret (v := 0) hx hb hr xvz_0 (fun t ht _ => ⟨0, rfl, hw, ht⟩) (fun _ h => (List.not_mem_nil h).elim) dX2_goesOut_48
      · have hw := hw.2 c_40
        refine lv_iconst (v := 1) hx hb dX2_goesOut_43 (by decide) ?_
        refine lv_goto (tgt := 48) hx hb dX2_goesOut_44 (by decide) ?_
        rw [hQ]
        exact W.zret (v := 1) hx hb hr xvz_1 (fun t ht _ => ⟨1, rfl, hw, ht⟩) (fun _ h => (List.not_mem_nil h).elim) dX2_goesOut_48
def wk_X1_seenBy_3 (Φ : Int32 → Prop) (x5_3 : Int32) : Prop :=
  (Φ (-1))
def wb_X1_seenBy_3 (living : Int32) (p1_inWeathers : Nat → Int32) (p1_inHours : Nat → Int32) (p1_fears : Nat → Int32) (p2 : Int32) (p3 : Int32) (p4 : Int32) (Φ : Int32 → Prop) (K_3 : Int32 → Prop) (rec_3 : Int32 → Prop) (x5_3 : Int32) : Prop :=
  ((8 ≤ x5_3 → (K_3 x5_3)) ∧ (¬ 8 ≤ x5_3 → (wp_X1_lives living x5_3 (fun r_13 => ((r_13 = 0 → (rec_3 (x5_3 + 1))) ∧ (¬ r_13 = 0 → (wp_X2_goesOut p1_inWeathers p1_inHours p1_fears x5_3 p2 p3 p4 (fun r_26 => ((r_26 = 0 → (rec_3 (x5_3 + 1))) ∧ (¬ r_26 = 0 → (Φ x5_3)))))))))))
def wp_X1_seenBy (living : Int32) (p1_inWeathers : Nat → Int32) (p1_inHours : Nat → Int32) (p1_fears : Nat → Int32) (p2 : Int32) (p3 : Int32) (p4 : Int32) (Φ : Int32 → Prop) : Prop :=
  (∃ n : Nat, xit1 (wb_X1_seenBy_3 living p1_inWeathers p1_inHours p1_fears p2 p3 p4 Φ (wk_X1_seenBy_3 Φ)) n 0)
abbrev xrm_X1_seenBy : Room := { frames := 2, cells := 0, slots := 0, locals := 45 }
set_option maxRecDepth 100000 in
set_option maxHeartbeats 4000000 in
theorem c_X1_seenBy (l : Launch) (D : va_G) (cI cZ cO : ClassId) {a_marks : Nat} {people : Int32} {living : Int32} {shown : Int32} {spent : Int32} {days : Int32} {a_this : Nat} {a_p1_marks : Nat} {a_p1_inWeathers : Nat} {a_p1_inHours : Nat} {a_p1_fears : Nat} {a_p1_weathers : Nat} {a_p1_hours : Nat} {a_p1_dangers : Nat} {p1_pay : Int32} {p1_people : Int32} {p1_days : Int32} {a_p1 : Nat} {p1_inWeathers : Nat → Int32} {p1_inHours : Nat → Int32} {p1_fears : Nat → Int32} {p2 : Int32} {p3 : Int32} {p4 : Int32} {Φ : Int32 → Prop} (hw : (wp_X1_seenBy living p1_inWeathers p1_inHours p1_fears p2 p3 p4 Φ)) : Met l yX1_seenBy wsX1_seenBy xrm_X1_seenBy (xPR D cI cZ cO [.ref a_this, .ref a_p1, .int p2, .int p3, .int p4] [(a_this, .inr (1, [.ref a_marks, .int people, .int living, .int shown, .int spent, .int days])), (a_p1, .inr (2, [.ref a_p1_marks, .ref a_p1_inWeathers, .ref a_p1_inHours, .ref a_p1_fears, .ref a_p1_weathers, .ref a_p1_hours, .ref a_p1_dangers, .int p1_pay, .int p1_people, .int p1_days])), (a_p1_inWeathers, .inl (cI, 8, .inl p1_inWeathers)), (a_p1_inHours, .inl (cI, 8, .inl p1_inHours)), (a_p1_fears, .inl (cI, 8, .inl p1_fears))]) (vp_Si Φ) 0 0 (fun _ => False) := by
  refine Met.ofW (cc := cX1_seenBy) (maxL := 6) (ret := (some .int)) (by decide) rfl ?_
  intro p e s m args below meth c s₁ B hml hv
  obtain ⟨rfl, hP, hKK⟩ := hv
  have hx := B.exec
  have hb := B.bytes
  have hr := B.returns
  have hts := atoms_spec (ws := wsX1_seenBy) B.pre
  have hown : s.vm.findClass RX1 = some m.cls := findClass_of_methodNamed B.named
  have hlocks := B.notSynchronized
  obtain ⟨Q, hQ⟩ : ∃ Q, Q = MQ below (vp_Si Φ) ([.ref a_this, .ref a_p1, .int p2, .int p3, .int p4] : List Value).toArray s 0 0 (fun _ => False) := ⟨_, rfl⟩
  rw [← hQ]
  have hl := lv_entry ([.ref a_this, .ref a_p1, .int p2, .int p3, .int p4]) (n := 6) (Nat.le_of_ble_eq_true rfl)
  rw [lg_entry_eq]
  generalize (lg_sl ([.ref a_this, .ref a_p1, .int p2, .int p3, .int p4]) ++ List.replicate (6 - (lg_sl ([.ref a_this, .ref a_p1, .int p2, .int p3, .int p4])).length) Slot.unset).toArray = ls at hl ⊢
  have hl : lv_has ls 6 [(0, .ref a_this), (1, .ref a_p1), (2, .int p2), (3, .int p3), (4, .int p4)] := hl
  generalize ([.ref a_this, .ref a_p1, .int p2, .int p3, .int p4] : List Value).toArray = args at hts hQ ⊢
  have hP : va_P D vwCl [(a_this, .inr (1, [.ref a_marks, .int people, .int living, .int shown, .int spent, .int days])), (a_p1, .inr (2, [.ref a_p1_marks, .ref a_p1_inWeathers, .ref a_p1_inHours, .ref a_p1_fears, .ref a_p1_weathers, .ref a_p1_hours, .ref a_p1_dangers, .int p1_pay, .int p1_people, .int p1_days])), (a_p1_inWeathers, .inl (cI, 8, .inl p1_inWeathers)), (a_p1_inHours, .inl (cI, 8, .inl p1_inHours)), (a_p1_fears, .inl (cI, 8, .inl p1_fears))] s.heap := hP
  clear B
  show W p l e xrm_X1_seenBy s m args below meth c s.heap [] 0 0 Q (F0 m 0 ls [])
  unfold wp_X1_seenBy at hw
  refine lv_iconst (v := 0) hx hb dX1_seenBy_0 (by decide) ?_
  refine lv_istore (lv' := [(5, .int 0), (0, .ref a_this), (1, .ref a_p1), (2, .int p2), (3, .int p3), (4, .int p4)]) hx hb dX1_seenBy_1 hl (by decide) rfl (fun ls hl => ?_)
  have EX_3 : ∀ (x5_3 : Int32), ∀ (ls : Array Slot), lv_has ls 6 [(0, .ref a_this), (1, .ref a_p1), (2, .int p2), (3, .int p3), (4, .int p4), (5, .int x5_3)] → (wk_X1_seenBy_3 Φ x5_3) → W p l e xrm_X1_seenBy s m args below meth c s.heap [] 0 0 Q (F0 m 41 ls []) := by
    intro x5_3 ls hl hw
    unfold wk_X1_seenBy_3 at hw
    refine lv_iconst (v := (-1)) hx hb dX1_seenBy_41 (by decide) ?_
    rw [hQ]
    exact W.iret (v := (-1)) hx hb hr (fun t ht _ => ⟨(-1), rfl, hw, ht⟩) (fun _ h => (List.not_mem_nil h).elim) dX1_seenBy_42
  generalize (wk_X1_seenBy_3 Φ) = K_3 at EX_3 hw
  have LP_3 : ∀ n : Nat, ∀ (x5_3 : Int32), ∀ (ls : Array Slot), lv_has ls 6 [(0, .ref a_this), (1, .ref a_p1), (2, .int p2), (3, .int p3), (4, .int p4), (5, .int x5_3)] → xit1 (wb_X1_seenBy_3 living p1_inWeathers p1_inHours p1_fears p2 p3 p4 Φ K_3) n x5_3 → W p l e xrm_X1_seenBy s m args below meth c s.heap [] 0 0 Q (F0 m 3 ls []) := by
    intro n
    induction n with
    | zero => intro x5_3 ls hl hw; exact (show False from hw).elim
    | succ n ih =>
      intro x5_3 ls hl hw
      have hw : wb_X1_seenBy_3 living p1_inWeathers p1_inHours p1_fears p2 p3 p4 Φ K_3 (xit1 (wb_X1_seenBy_3 living p1_inWeathers p1_inHours p1_fears p2 p3 p4 Φ K_3) n) x5_3 := hw
      generalize xit1 (wb_X1_seenBy_3 living p1_inWeathers p1_inHours p1_fears p2 p3 p4 Φ K_3) n = rec_3 at ih hw
      unfold wb_X1_seenBy_3 at hw
      refine lv_iload hx hb dX1_seenBy_3 (lv_at hl 5 rfl) ?_
      refine lv_bipush (v := 8) hx hb dX1_seenBy_5 (by decide) ?_
      refine lv_icmp_ge (tgt := 41) hx hb dX1_seenBy_7 (by decide) (fun c_7 => ?_) (fun c_7 => ?_)
      · have hw := hw.1 c_7
        exact EX_3 _ ls (lv_sub hl [0, 1, 2, 3, 4, 5] rfl) hw
      · have hw := hw.2 c_7
        refine lv_aload_n hx hb dX1_seenBy_10 rfl (lv_at hl 0 rfl) ?_
        refine lv_iload hx hb dX1_seenBy_11 (lv_at hl 5 rfl) ?_
        refine xcVi (q0 := 0) (ci := 1) (As := [.int x5_3]) (rest := []) (wc := [(a_this, .inr (1, [.ref a_marks, .int people, .int living, .int shown, .int spent, .int days]))]) ⟨hx, hb, hml, hown, hts⟩ (c_X1_lives l D cI cZ cO hw) (cwV 1 hts gX1_seenBy_X1_lives rfl rfl rfl (by decide +kernel) ⟨Nat.le_of_ble_eq_true rfl, Nat.le_of_ble_eq_true rfl⟩) hKK hP [0] rfl rfl rfl rfl hl.1 rfl (Nat.le_of_ble_eq_true rfl) dX1_seenBy_13 ⟨Nat.zero_le _, Nat.zero_le _⟩ (fun r_13 hw => ?_)
        refine lv_if_eq (tgt := 35) hx hb dX1_seenBy_16 (by decide) (fun c_16 => ?_) (fun c_16 => ?_)
        · have hw := hw.1 c_16
          refine lv_iinc (v := (x5_3 + 1)) (lv' := [(5, .int (x5_3 + 1)), (0, .ref a_this), (1, .ref a_p1), (2, .int p2), (3, .int p3), (4, .int p4)]) hx hb dX1_seenBy_35 hl (k := 5) rfl (by rfl) (by decide) rfl (fun ls hl => ?_)
          refine lv_goto (tgt := 3) hx hb dX1_seenBy_38 (by decide) ?_
          exact ih _ ls (lv_sub hl [1, 2, 3, 4, 5, 0] rfl) hw
        · have hw := hw.2 c_16
          refine lv_aload_n hx hb dX1_seenBy_19 rfl (lv_at hl 1 rfl) ?_
          refine lv_iload hx hb dX1_seenBy_20 (lv_at hl 5 rfl) ?_
          refine lv_iload_n hx hb dX1_seenBy_22 rfl (lv_at hl 2 rfl) ?_
          refine lv_iload_n hx hb dX1_seenBy_23 rfl (lv_at hl 3 rfl) ?_
          refine lv_iload hx hb dX1_seenBy_24 (lv_at hl 4 rfl) ?_
          refine xcVi (q0 := 1) (ci := 2) (As := [.int x5_3, .int p2, .int p3, .int p4]) (rest := []) (wc := [(a_p1, .inr (2, [.ref a_p1_marks, .ref a_p1_inWeathers, .ref a_p1_inHours, .ref a_p1_fears, .ref a_p1_weathers, .ref a_p1_hours, .ref a_p1_dangers, .int p1_pay, .int p1_people, .int p1_days])), (a_p1_inWeathers, .inl (cI, 8, .inl p1_inWeathers)), (a_p1_inHours, .inl (cI, 8, .inl p1_inHours)), (a_p1_fears, .inl (cI, 8, .inl p1_fears))]) ⟨hx, hb, hml, hown, hts⟩ (c_X2_goesOut l D cI cZ cO hw) (cwV 4 hts gX1_seenBy_X2_goesOut rfl rfl rfl (by decide +kernel) ⟨Nat.le_of_ble_eq_true rfl, Nat.le_of_ble_eq_true rfl⟩) hKK hP [1, 2, 3, 4] rfl rfl rfl rfl hl.1 rfl (Nat.le_of_ble_eq_true rfl) dX1_seenBy_26 ⟨Nat.zero_le _, Nat.zero_le _⟩ (fun r_26 hw => ?_)
          refine lv_if_eq (tgt := 35) hx hb dX1_seenBy_29 (by decide) (fun c_29 => ?_) (fun c_29 => ?_)
          · have hw := hw.1 c_29
            refine lv_iinc (v := (x5_3 + 1)) (lv' := [(5, .int (x5_3 + 1)), (0, .ref a_this), (1, .ref a_p1), (2, .int p2), (3, .int p3), (4, .int p4)]) hx hb dX1_seenBy_35 hl (k := 5) rfl (by rfl) (by decide) rfl (fun ls hl => ?_)
            refine lv_goto (tgt := 3) hx hb dX1_seenBy_38 (by decide) ?_
            exact ih _ ls (lv_sub hl [1, 2, 3, 4, 5, 0] rfl) hw
          · have hw := hw.2 c_29
            refine lv_iload hx hb dX1_seenBy_32 (lv_at hl 5 rfl) ?_
            rw [hQ]
            exact W.iret (v := x5_3) hx hb hr (fun t ht _ => ⟨x5_3, rfl, hw, ht⟩) (fun _ h => (List.not_mem_nil h).elim) dX1_seenBy_34
  obtain ⟨n, hw⟩ := hw
  exact LP_3 n _ ls (lv_sub hl [1, 2, 3, 4, 5, 0] rfl) hw
def wp_X2_onDay (days : Int32) (p1 : Nat → Int32) (n_p1 : Nat) (p2 : Int32) (Φ : Int32 → Prop) : Prop :=
  ((days ≤ 0 → (Φ 0)) ∧ (¬ days ≤ 0 → (¬ days = 0 ∧ (wp_X7_at p1 n_p1 (p2 - p2 / days * days) (fun r_14 => (Φ r_14))))))
abbrev xrm_X2_onDay : Room := { frames := 1, cells := 0, slots := 0, locals := 21 }
set_option maxRecDepth 100000 in
set_option maxHeartbeats 4000000 in
theorem c_X2_onDay (l : Launch) (D : va_G) (cI cZ cO : ClassId) {a_marks : Nat} {a_inWeathers : Nat} {a_inHours : Nat} {a_fears : Nat} {a_weathers : Nat} {a_hours : Nat} {a_dangers : Nat} {pay : Int32} {people : Int32} {days : Int32} {a_this : Nat} {p1 : Nat → Int32} {a_p1 : Nat} {n_p1 : Nat} {p2 : Int32} {Φ : Int32 → Prop} (hw : (wp_X2_onDay days p1 n_p1 p2 Φ)) : Met l yX2_onDay wsX2_onDay xrm_X2_onDay (xPR D cI cZ cO [.ref a_this, .ref a_p1, .int p2] [(a_this, .inr (2, [.ref a_marks, .ref a_inWeathers, .ref a_inHours, .ref a_fears, .ref a_weathers, .ref a_hours, .ref a_dangers, .int pay, .int people, .int days])), (a_p1, .inl (cI, n_p1, .inl p1))]) (vp_Si Φ) 0 0 (fun _ => False) := by
  refine Met.ofW (cc := cX2_onDay) (maxL := 3) (ret := (some .int)) (by decide) rfl ?_
  intro p e s m args below meth c s₁ B hml hv
  obtain ⟨rfl, hP, hKK⟩ := hv
  have hx := B.exec
  have hb := B.bytes
  have hr := B.returns
  have hts := atoms_spec (ws := wsX2_onDay) B.pre
  have hown : s.vm.findClass RX2 = some m.cls := findClass_of_methodNamed B.named
  have hlocks := B.notSynchronized
  obtain ⟨Q, hQ⟩ : ∃ Q, Q = MQ below (vp_Si Φ) ([.ref a_this, .ref a_p1, .int p2] : List Value).toArray s 0 0 (fun _ => False) := ⟨_, rfl⟩
  rw [← hQ]
  have hl := lv_entry ([.ref a_this, .ref a_p1, .int p2]) (n := 3) (Nat.le_of_ble_eq_true rfl)
  rw [lg_entry_eq]
  generalize (lg_sl ([.ref a_this, .ref a_p1, .int p2]) ++ List.replicate (3 - (lg_sl ([.ref a_this, .ref a_p1, .int p2])).length) Slot.unset).toArray = ls at hl ⊢
  have hl : lv_has ls 3 [(0, .ref a_this), (1, .ref a_p1), (2, .int p2)] := hl
  generalize ([.ref a_this, .ref a_p1, .int p2] : List Value).toArray = args at hts hQ ⊢
  have hP : va_P D vwCl [(a_this, .inr (2, [.ref a_marks, .ref a_inWeathers, .ref a_inHours, .ref a_fears, .ref a_weathers, .ref a_hours, .ref a_dangers, .int pay, .int people, .int days])), (a_p1, .inl (cI, n_p1, .inl p1))] s.heap := hP
  have hinX2 : ∀ w ∈ u_ws RX2 TX2 10, w ∈ wsX2_onDay := by decide +kernel
  have fl_40 := hts (.fieldLink RX2 40 "DoubleChain$Court" "days" "I") (by decide +kernel)
  clear B
  show W p l e xrm_X2_onDay s m args below meth c s.heap [] 0 0 Q (F0 m 0 ls [])
  unfold wp_X2_onDay at hw
  refine lv_aload_n hx hb dX2_onDay_0 rfl (lv_at hl 0 rfl) ?_
  refine va_get (D := D) (ci := 2) (v := .int days) (C := RX2) (T := TX2) (N := 10) hx hb hts hinX2 hown hKK.1 hP 0 rfl rfl 9 (by decide) fl_40 (fun _ h9 => h9) rfl dX2_onDay_1 ?_
  refine lv_if_le (tgt := 20) hx hb dX2_onDay_4 (by decide) (fun c_4 => ?_) (fun c_4 => ?_)
  · have hw := hw.1 c_4
    refine lv_iconst (v := 0) hx hb dX2_onDay_20 (by decide) ?_
    rw [hQ]
    exact W.iret (v := 0) hx hb hr (fun t ht _ => ⟨0, rfl, hw, ht⟩) (fun _ h => (List.not_mem_nil h).elim) dX2_onDay_21
  · have hw := hw.2 c_4
    refine lv_aload_n hx hb dX2_onDay_7 rfl (lv_at hl 1 rfl) ?_
    refine lv_iload_n hx hb dX2_onDay_8 rfl (lv_at hl 2 rfl) ?_
    refine lv_aload_n hx hb dX2_onDay_9 rfl (lv_at hl 0 rfl) ?_
    refine va_get (D := D) (ci := 2) (v := .int days) (C := RX2) (T := TX2) (N := 10) hx hb hts hinX2 hown hKK.1 hP 0 rfl rfl 9 (by decide) fl_40 (fun _ h9 => h9) rfl dX2_onDay_10 ?_
    obtain ⟨hnz, hw⟩ := hw
    refine lv_irem hx hb dX2_onDay_13 hnz ?_
    refine xcNi (As := [.ref a_p1, .int (p2 - p2 / days * days)]) (rest := []) (wc := [(a_p1, .inl (cI, n_p1, .inl p1))]) ⟨hx, hb, hml, hown, hts⟩ (c_X7_at l D cI cZ cO hw) ⟨va_cnB 2 hts gX2_onDay_X7_at_n51 rfl rfl rfl (xn_14 hKK.2) (hts (.initialized RX7) (by decide +kernel)) (by decide +kernel) ⟨Nat.le_of_ble_eq_true rfl, Nat.le_of_ble_eq_true rfl⟩, hts (.static yX7_at) (by decide +kernel), trivial⟩ hKK hP [1] rfl rfl hl.1 rfl (Nat.le_of_ble_eq_true rfl) dX2_onDay_14 ⟨Nat.zero_le _, Nat.zero_le _⟩ (fun r_14 hw => ?_)
    refine lv_goto (tgt := 21) hx hb dX2_onDay_17 (by decide) ?_
    rw [hQ]
    exact W.iret (v := r_14) hx hb hr (fun t ht _ => ⟨r_14, rfl, hw, ht⟩) (fun _ h => (List.not_mem_nil h).elim) dX2_onDay_21
def wp_X2_weatherOn (days : Int32) (weathers : Nat → Int32) (p1 : Int32) (Φ : Int32 → Prop) : Prop :=
  (wp_X2_onDay days weathers 10 p1 (fun r_6 => (Φ r_6)))
abbrev xrm_X2_weatherOn : Room := { frames := 2, cells := 0, slots := 0, locals := 43 }
set_option maxRecDepth 100000 in
set_option maxHeartbeats 4000000 in
theorem c_X2_weatherOn (l : Launch) (D : va_G) (cI cZ cO : ClassId) {a_marks : Nat} {a_inWeathers : Nat} {a_inHours : Nat} {a_fears : Nat} {a_weathers : Nat} {a_hours : Nat} {a_dangers : Nat} {pay : Int32} {people : Int32} {days : Int32} {a_this : Nat} {weathers : Nat → Int32} {p1 : Int32} {Φ : Int32 → Prop} (hw : (wp_X2_weatherOn days weathers p1 Φ)) : Met l yX2_weatherOn wsX2_weatherOn xrm_X2_weatherOn (xPR D cI cZ cO [.ref a_this, .int p1] [(a_this, .inr (2, [.ref a_marks, .ref a_inWeathers, .ref a_inHours, .ref a_fears, .ref a_weathers, .ref a_hours, .ref a_dangers, .int pay, .int people, .int days])), (a_weathers, .inl (cI, 10, .inl weathers))]) (vp_Si Φ) 0 0 (fun _ => False) := by
  refine Met.ofW (cc := cX2_weatherOn) (maxL := 2) (ret := (some .int)) (by decide) rfl ?_
  intro p e s m args below meth c s₁ B hml hv
  obtain ⟨rfl, hP, hKK⟩ := hv
  have hx := B.exec
  have hb := B.bytes
  have hr := B.returns
  have hts := atoms_spec (ws := wsX2_weatherOn) B.pre
  have hown : s.vm.findClass RX2 = some m.cls := findClass_of_methodNamed B.named
  have hlocks := B.notSynchronized
  obtain ⟨Q, hQ⟩ : ∃ Q, Q = MQ below (vp_Si Φ) ([.ref a_this, .int p1] : List Value).toArray s 0 0 (fun _ => False) := ⟨_, rfl⟩
  rw [← hQ]
  have hl := lv_entry ([.ref a_this, .int p1]) (n := 2) (Nat.le_of_ble_eq_true rfl)
  rw [lg_entry_eq]
  generalize (lg_sl ([.ref a_this, .int p1]) ++ List.replicate (2 - (lg_sl ([.ref a_this, .int p1])).length) Slot.unset).toArray = ls at hl ⊢
  have hl : lv_has ls 2 [(0, .ref a_this), (1, .int p1)] := hl
  generalize ([.ref a_this, .int p1] : List Value).toArray = args at hts hQ ⊢
  have hP : va_P D vwCl [(a_this, .inr (2, [.ref a_marks, .ref a_inWeathers, .ref a_inHours, .ref a_fears, .ref a_weathers, .ref a_hours, .ref a_dangers, .int pay, .int people, .int days])), (a_weathers, .inl (cI, 10, .inl weathers))] s.heap := hP
  have hinX2 : ∀ w ∈ u_ws RX2 TX2 10, w ∈ wsX2_weatherOn := by decide +kernel
  have fl_24 := hts (.fieldLink RX2 24 "DoubleChain$Court" "weathers" "[I") (by decide +kernel)
  clear B
  show W p l e xrm_X2_weatherOn s m args below meth c s.heap [] 0 0 Q (F0 m 0 ls [])
  unfold wp_X2_weatherOn at hw
  refine lv_aload_n hx hb dX2_weatherOn_0 rfl (lv_at hl 0 rfl) ?_
  refine lv_aload_n hx hb dX2_weatherOn_1 rfl (lv_at hl 0 rfl) ?_
  refine va_get (D := D) (ci := 2) (v := .ref a_weathers) (C := RX2) (T := TX2) (N := 10) hx hb hts hinX2 hown hKK.1 hP 0 rfl rfl 4 (by decide) fl_24 (fun _ h9 => h9) rfl dX2_weatherOn_2 ?_
  refine lv_iload_n hx hb dX2_weatherOn_5 rfl (lv_at hl 1 rfl) ?_
  refine xcVi (q0 := 0) (ci := 2) (As := [.ref a_weathers, .int p1]) (rest := []) (wc := [(a_this, .inr (2, [.ref a_marks, .ref a_inWeathers, .ref a_inHours, .ref a_fears, .ref a_weathers, .ref a_hours, .ref a_dangers, .int pay, .int people, .int days])), (a_weathers, .inl (cI, 10, .inl weathers))]) ⟨hx, hb, hml, hown, hts⟩ (c_X2_onDay l D cI cZ cO hw) (cwV 2 hts gX2_weatherOn_X2_onDay rfl rfl rfl (by decide +kernel) ⟨Nat.le_of_ble_eq_true rfl, Nat.le_of_ble_eq_true rfl⟩) hKK hP [0, 1] rfl rfl rfl rfl hl.1 rfl (Nat.le_of_ble_eq_true rfl) dX2_weatherOn_6 ⟨Nat.zero_le _, Nat.zero_le _⟩ (fun r_6 hw => ?_)
  rw [hQ]
  exact W.iret (v := r_6) hx hb hr (fun t ht _ => ⟨r_6, rfl, hw, ht⟩) (fun _ h => (List.not_mem_nil h).elim) dX2_weatherOn_9
def wp_X2_hourOn (days : Int32) (hours : Nat → Int32) (p1 : Int32) (Φ : Int32 → Prop) : Prop :=
  (wp_X2_onDay days hours 10 p1 (fun r_6 => (Φ r_6)))
abbrev xrm_X2_hourOn : Room := { frames := 2, cells := 0, slots := 0, locals := 43 }
set_option maxRecDepth 100000 in
set_option maxHeartbeats 4000000 in
theorem c_X2_hourOn (l : Launch) (D : va_G) (cI cZ cO : ClassId) {a_marks : Nat} {a_inWeathers : Nat} {a_inHours : Nat} {a_fears : Nat} {a_weathers : Nat} {a_hours : Nat} {a_dangers : Nat} {pay : Int32} {people : Int32} {days : Int32} {a_this : Nat} {hours : Nat → Int32} {p1 : Int32} {Φ : Int32 → Prop} (hw : (wp_X2_hourOn days hours p1 Φ)) : Met l yX2_hourOn wsX2_hourOn xrm_X2_hourOn (xPR D cI cZ cO [.ref a_this, .int p1] [(a_this, .inr (2, [.ref a_marks, .ref a_inWeathers, .ref a_inHours, .ref a_fears, .ref a_weathers, .ref a_hours, .ref a_dangers, .int pay, .int people, .int days])), (a_hours, .inl (cI, 10, .inl hours))]) (vp_Si Φ) 0 0 (fun _ => False) := by
  refine Met.ofW (cc := cX2_hourOn) (maxL := 2) (ret := (some .int)) (by decide) rfl ?_
  intro p e s m args below meth c s₁ B hml hv
  obtain ⟨rfl, hP, hKK⟩ := hv
  have hx := B.exec
  have hb := B.bytes
  have hr := B.returns
  have hts := atoms_spec (ws := wsX2_hourOn) B.pre
  have hown : s.vm.findClass RX2 = some m.cls := findClass_of_methodNamed B.named
  have hlocks := B.notSynchronized
  obtain ⟨Q, hQ⟩ : ∃ Q, Q = MQ below (vp_Si Φ) ([.ref a_this, .int p1] : List Value).toArray s 0 0 (fun _ => False) := ⟨_, rfl⟩
  rw [← hQ]
  have hl := lv_entry ([.ref a_this, .int p1]) (n := 2) (Nat.le_of_ble_eq_true rfl)
  rw [lg_entry_eq]
  generalize (lg_sl ([.ref a_this, .int p1]) ++ List.replicate (2 - (lg_sl ([.ref a_this, .int p1])).length) Slot.unset).toArray = ls at hl ⊢
  have hl : lv_has ls 2 [(0, .ref a_this), (1, .int p1)] := hl
  generalize ([.ref a_this, .int p1] : List Value).toArray = args at hts hQ ⊢
  have hP : va_P D vwCl [(a_this, .inr (2, [.ref a_marks, .ref a_inWeathers, .ref a_inHours, .ref a_fears, .ref a_weathers, .ref a_hours, .ref a_dangers, .int pay, .int people, .int days])), (a_hours, .inl (cI, 10, .inl hours))] s.heap := hP
  have hinX2 : ∀ w ∈ u_ws RX2 TX2 10, w ∈ wsX2_hourOn := by decide +kernel
  have fl_27 := hts (.fieldLink RX2 27 "DoubleChain$Court" "hours" "[I") (by decide +kernel)
  clear B
  show W p l e xrm_X2_hourOn s m args below meth c s.heap [] 0 0 Q (F0 m 0 ls [])
  unfold wp_X2_hourOn at hw
  refine lv_aload_n hx hb dX2_hourOn_0 rfl (lv_at hl 0 rfl) ?_
  refine lv_aload_n hx hb dX2_hourOn_1 rfl (lv_at hl 0 rfl) ?_
  refine va_get (D := D) (ci := 2) (v := .ref a_hours) (C := RX2) (T := TX2) (N := 10) hx hb hts hinX2 hown hKK.1 hP 0 rfl rfl 5 (by decide) fl_27 (fun _ h9 => h9) rfl dX2_hourOn_2 ?_
  refine lv_iload_n hx hb dX2_hourOn_5 rfl (lv_at hl 1 rfl) ?_
  refine xcVi (q0 := 0) (ci := 2) (As := [.ref a_hours, .int p1]) (rest := []) (wc := [(a_this, .inr (2, [.ref a_marks, .ref a_inWeathers, .ref a_inHours, .ref a_fears, .ref a_weathers, .ref a_hours, .ref a_dangers, .int pay, .int people, .int days])), (a_hours, .inl (cI, 10, .inl hours))]) ⟨hx, hb, hml, hown, hts⟩ (c_X2_onDay l D cI cZ cO hw) (cwV 2 hts gX2_hourOn_X2_onDay rfl rfl rfl (by decide +kernel) ⟨Nat.le_of_ble_eq_true rfl, Nat.le_of_ble_eq_true rfl⟩) hKK hP [0, 1] rfl rfl rfl rfl hl.1 rfl (Nat.le_of_ble_eq_true rfl) dX2_hourOn_6 ⟨Nat.zero_le _, Nat.zero_le _⟩ (fun r_6 hw => ?_)
  rw [hQ]
  exact W.iret (v := r_6) hx hb hr (fun t ht _ => ⟨r_6, rfl, hw, ht⟩) (fun _ h => (List.not_mem_nil h).elim) dX2_hourOn_9
def wp_X2_dangerOn (days : Int32) (dangers : Nat → Int32) (p1 : Int32) (Φ : Int32 → Prop) : Prop :=
  (wp_X2_onDay days dangers 10 p1 (fun r_6 => (Φ r_6)))
abbrev xrm_X2_dangerOn : Room := { frames := 2, cells := 0, slots := 0, locals := 43 }
set_option maxRecDepth 100000 in
set_option maxHeartbeats 4000000 in
theorem c_X2_dangerOn (l : Launch) (D : va_G) (cI cZ cO : ClassId) {a_marks : Nat} {a_inWeathers : Nat} {a_inHours : Nat} {a_fears : Nat} {a_weathers : Nat} {a_hours : Nat} {a_dangers : Nat} {pay : Int32} {people : Int32} {days : Int32} {a_this : Nat} {dangers : Nat → Int32} {p1 : Int32} {Φ : Int32 → Prop} (hw : (wp_X2_dangerOn days dangers p1 Φ)) : Met l yX2_dangerOn wsX2_dangerOn xrm_X2_dangerOn (xPR D cI cZ cO [.ref a_this, .int p1] [(a_this, .inr (2, [.ref a_marks, .ref a_inWeathers, .ref a_inHours, .ref a_fears, .ref a_weathers, .ref a_hours, .ref a_dangers, .int pay, .int people, .int days])), (a_dangers, .inl (cI, 10, .inl dangers))]) (vp_Si Φ) 0 0 (fun _ => False) := by
  refine Met.ofW (cc := cX2_dangerOn) (maxL := 2) (ret := (some .int)) (by decide) rfl ?_
  intro p e s m args below meth c s₁ B hml hv
  obtain ⟨rfl, hP, hKK⟩ := hv
  have hx := B.exec
  have hb := B.bytes
  have hr := B.returns
  have hts := atoms_spec (ws := wsX2_dangerOn) B.pre
  have hown : s.vm.findClass RX2 = some m.cls := findClass_of_methodNamed B.named
  have hlocks := B.notSynchronized
  obtain ⟨Q, hQ⟩ : ∃ Q, Q = MQ below (vp_Si Φ) ([.ref a_this, .int p1] : List Value).toArray s 0 0 (fun _ => False) := ⟨_, rfl⟩
  rw [← hQ]
  have hl := lv_entry ([.ref a_this, .int p1]) (n := 2) (Nat.le_of_ble_eq_true rfl)
  rw [lg_entry_eq]
  generalize (lg_sl ([.ref a_this, .int p1]) ++ List.replicate (2 - (lg_sl ([.ref a_this, .int p1])).length) Slot.unset).toArray = ls at hl ⊢
  have hl : lv_has ls 2 [(0, .ref a_this), (1, .int p1)] := hl
  generalize ([.ref a_this, .int p1] : List Value).toArray = args at hts hQ ⊢
  have hP : va_P D vwCl [(a_this, .inr (2, [.ref a_marks, .ref a_inWeathers, .ref a_inHours, .ref a_fears, .ref a_weathers, .ref a_hours, .ref a_dangers, .int pay, .int people, .int days])), (a_dangers, .inl (cI, 10, .inl dangers))] s.heap := hP
  have hinX2 : ∀ w ∈ u_ws RX2 TX2 10, w ∈ wsX2_dangerOn := by decide +kernel
  have fl_30 := hts (.fieldLink RX2 30 "DoubleChain$Court" "dangers" "[I") (by decide +kernel)
  clear B
  show W p l e xrm_X2_dangerOn s m args below meth c s.heap [] 0 0 Q (F0 m 0 ls [])
  unfold wp_X2_dangerOn at hw
  refine lv_aload_n hx hb dX2_dangerOn_0 rfl (lv_at hl 0 rfl) ?_
  refine lv_aload_n hx hb dX2_dangerOn_1 rfl (lv_at hl 0 rfl) ?_
  refine va_get (D := D) (ci := 2) (v := .ref a_dangers) (C := RX2) (T := TX2) (N := 10) hx hb hts hinX2 hown hKK.1 hP 0 rfl rfl 6 (by decide) fl_30 (fun _ h9 => h9) rfl dX2_dangerOn_2 ?_
  refine lv_iload_n hx hb dX2_dangerOn_5 rfl (lv_at hl 1 rfl) ?_
  refine xcVi (q0 := 0) (ci := 2) (As := [.ref a_dangers, .int p1]) (rest := []) (wc := [(a_this, .inr (2, [.ref a_marks, .ref a_inWeathers, .ref a_inHours, .ref a_fears, .ref a_weathers, .ref a_hours, .ref a_dangers, .int pay, .int people, .int days])), (a_dangers, .inl (cI, 10, .inl dangers))]) ⟨hx, hb, hml, hown, hts⟩ (c_X2_onDay l D cI cZ cO hw) (cwV 2 hts gX2_dangerOn_X2_onDay rfl rfl rfl (by decide +kernel) ⟨Nat.le_of_ble_eq_true rfl, Nat.le_of_ble_eq_true rfl⟩) hKK hP [0, 1] rfl rfl rfl rfl hl.1 rfl (Nat.le_of_ble_eq_true rfl) dX2_dangerOn_6 ⟨Nat.zero_le _, Nat.zero_le _⟩ (fun r_6 hw => ?_)
  rw [hQ]
  exact W.iret (v := r_6) hx hb hr (fun t ht _ => ⟨r_6, rfl, hw, ht⟩) (fun _ h => (List.not_mem_nil h).elim) dX2_dangerOn_9
def wp_X1_seenOn (living : Int32) (p1_days : Int32) (p1_weathers : Nat → Int32) (p1_hours : Nat → Int32) (p1_dangers : Nat → Int32) (p1_inWeathers : Nat → Int32) (p1_inHours : Nat → Int32) (p1_fears : Nat → Int32) (p2 : Int32) (Φ : Int32 → Prop) : Prop :=
  (wp_X2_weatherOn p1_days p1_weathers p2 (fun r_4 => (wp_X2_hourOn p1_days p1_hours p2 (fun r_9 => (wp_X2_dangerOn p1_days p1_dangers p2 (fun r_14 => (wp_X1_seenBy living p1_inWeathers p1_inHours p1_fears r_4 r_9 r_14 (fun r_17 => (Φ r_17)))))))))
abbrev xrm_X1_seenOn : Room := { frames := 3, cells := 0, slots := 0, locals := 70 }
set_option maxRecDepth 100000 in
set_option maxHeartbeats 4000000 in
theorem c_X1_seenOn (l : Launch) (D : va_G) (cI cZ cO : ClassId) {a_marks : Nat} {people : Int32} {living : Int32} {shown : Int32} {spent : Int32} {days : Int32} {a_this : Nat} {a_p1_marks : Nat} {a_p1_inWeathers : Nat} {a_p1_inHours : Nat} {a_p1_fears : Nat} {a_p1_weathers : Nat} {a_p1_hours : Nat} {a_p1_dangers : Nat} {p1_pay : Int32} {p1_people : Int32} {p1_days : Int32} {a_p1 : Nat} {p1_weathers : Nat → Int32} {p1_hours : Nat → Int32} {p1_dangers : Nat → Int32} {p1_inWeathers : Nat → Int32} {p1_inHours : Nat → Int32} {p1_fears : Nat → Int32} {p2 : Int32} {Φ : Int32 → Prop} (hw : (wp_X1_seenOn living p1_days p1_weathers p1_hours p1_dangers p1_inWeathers p1_inHours p1_fears p2 Φ)) : Met l yX1_seenOn wsX1_seenOn xrm_X1_seenOn (xPR D cI cZ cO [.ref a_this, .ref a_p1, .int p2] [(a_this, .inr (1, [.ref a_marks, .int people, .int living, .int shown, .int spent, .int days])), (a_p1, .inr (2, [.ref a_p1_marks, .ref a_p1_inWeathers, .ref a_p1_inHours, .ref a_p1_fears, .ref a_p1_weathers, .ref a_p1_hours, .ref a_p1_dangers, .int p1_pay, .int p1_people, .int p1_days])), (a_p1_weathers, .inl (cI, 10, .inl p1_weathers)), (a_p1_hours, .inl (cI, 10, .inl p1_hours)), (a_p1_dangers, .inl (cI, 10, .inl p1_dangers)), (a_p1_inWeathers, .inl (cI, 8, .inl p1_inWeathers)), (a_p1_inHours, .inl (cI, 8, .inl p1_inHours)), (a_p1_fears, .inl (cI, 8, .inl p1_fears))]) (vp_Si Φ) 0 0 (fun _ => False) := by
  refine Met.ofW (cc := cX1_seenOn) (maxL := 3) (ret := (some .int)) (by decide) rfl ?_
  intro p e s m args below meth c s₁ B hml hv
  obtain ⟨rfl, hP, hKK⟩ := hv
  have hx := B.exec
  have hb := B.bytes
  have hr := B.returns
  have hts := atoms_spec (ws := wsX1_seenOn) B.pre
  have hown : s.vm.findClass RX1 = some m.cls := findClass_of_methodNamed B.named
  have hlocks := B.notSynchronized
  obtain ⟨Q, hQ⟩ : ∃ Q, Q = MQ below (vp_Si Φ) ([.ref a_this, .ref a_p1, .int p2] : List Value).toArray s 0 0 (fun _ => False) := ⟨_, rfl⟩
  rw [← hQ]
  have hl := lv_entry ([.ref a_this, .ref a_p1, .int p2]) (n := 3) (Nat.le_of_ble_eq_true rfl)
  rw [lg_entry_eq]
  generalize (lg_sl ([.ref a_this, .ref a_p1, .int p2]) ++ List.replicate (3 - (lg_sl ([.ref a_this, .ref a_p1, .int p2])).length) Slot.unset).toArray = ls at hl ⊢
  have hl : lv_has ls 3 [(0, .ref a_this), (1, .ref a_p1), (2, .int p2)] := hl
  generalize ([.ref a_this, .ref a_p1, .int p2] : List Value).toArray = args at hts hQ ⊢
  have hP : va_P D vwCl [(a_this, .inr (1, [.ref a_marks, .int people, .int living, .int shown, .int spent, .int days])), (a_p1, .inr (2, [.ref a_p1_marks, .ref a_p1_inWeathers, .ref a_p1_inHours, .ref a_p1_fears, .ref a_p1_weathers, .ref a_p1_hours, .ref a_p1_dangers, .int p1_pay, .int p1_people, .int p1_days])), (a_p1_weathers, .inl (cI, 10, .inl p1_weathers)), (a_p1_hours, .inl (cI, 10, .inl p1_hours)), (a_p1_dangers, .inl (cI, 10, .inl p1_dangers)), (a_p1_inWeathers, .inl (cI, 8, .inl p1_inWeathers)), (a_p1_inHours, .inl (cI, 8, .inl p1_inHours)), (a_p1_fears, .inl (cI, 8, .inl p1_fears))] s.heap := hP
  clear B
  show W p l e xrm_X1_seenOn s m args below meth c s.heap [] 0 0 Q (F0 m 0 ls [])
  unfold wp_X1_seenOn at hw
  refine lv_aload_n hx hb dX1_seenOn_0 rfl (lv_at hl 0 rfl) ?_
  refine lv_aload_n hx hb dX1_seenOn_1 rfl (lv_at hl 1 rfl) ?_
  refine lv_aload_n hx hb dX1_seenOn_2 rfl (lv_at hl 1 rfl) ?_
  refine lv_iload_n hx hb dX1_seenOn_3 rfl (lv_at hl 2 rfl) ?_
  refine xcVi (q0 := 1) (ci := 2) (As := [.int p2]) (rest := [.ref a_p1, .ref a_this]) (wc := [(a_p1, .inr (2, [.ref a_p1_marks, .ref a_p1_inWeathers, .ref a_p1_inHours, .ref a_p1_fears, .ref a_p1_weathers, .ref a_p1_hours, .ref a_p1_dangers, .int p1_pay, .int p1_people, .int p1_days])), (a_p1_weathers, .inl (cI, 10, .inl p1_weathers))]) ⟨hx, hb, hml, hown, hts⟩ (c_X2_weatherOn l D cI cZ cO hw) (cwV 1 hts gX1_seenOn_X2_weatherOn rfl rfl rfl (by decide +kernel) ⟨Nat.le_of_ble_eq_true rfl, Nat.le_of_ble_eq_true rfl⟩) hKK hP [1, 2] rfl rfl rfl rfl hl.1 rfl (Nat.le_of_ble_eq_true rfl) dX1_seenOn_4 ⟨Nat.zero_le _, Nat.zero_le _⟩ (fun r_4 hw => ?_)
  refine lv_aload_n hx hb dX1_seenOn_7 rfl (lv_at hl 1 rfl) ?_
  refine lv_iload_n hx hb dX1_seenOn_8 rfl (lv_at hl 2 rfl) ?_
  refine xcVi (q0 := 1) (ci := 2) (As := [.int p2]) (rest := [.int r_4, .ref a_p1, .ref a_this]) (wc := [(a_p1, .inr (2, [.ref a_p1_marks, .ref a_p1_inWeathers, .ref a_p1_inHours, .ref a_p1_fears, .ref a_p1_weathers, .ref a_p1_hours, .ref a_p1_dangers, .int p1_pay, .int p1_people, .int p1_days])), (a_p1_hours, .inl (cI, 10, .inl p1_hours))]) ⟨hx, hb, hml, hown, hts⟩ (c_X2_hourOn l D cI cZ cO hw) (cwV 1 hts gX1_seenOn_X2_hourOn rfl rfl rfl (by decide +kernel) ⟨Nat.le_of_ble_eq_true rfl, Nat.le_of_ble_eq_true rfl⟩) hKK hP [1, 3] rfl rfl rfl rfl hl.1 rfl (Nat.le_of_ble_eq_true rfl) dX1_seenOn_9 ⟨Nat.zero_le _, Nat.zero_le _⟩ (fun r_9 hw => ?_)
  refine lv_aload_n hx hb dX1_seenOn_12 rfl (lv_at hl 1 rfl) ?_
  refine lv_iload_n hx hb dX1_seenOn_13 rfl (lv_at hl 2 rfl) ?_
  refine xcVi (q0 := 1) (ci := 2) (As := [.int p2]) (rest := [.int r_9, .int r_4, .ref a_p1, .ref a_this]) (wc := [(a_p1, .inr (2, [.ref a_p1_marks, .ref a_p1_inWeathers, .ref a_p1_inHours, .ref a_p1_fears, .ref a_p1_weathers, .ref a_p1_hours, .ref a_p1_dangers, .int p1_pay, .int p1_people, .int p1_days])), (a_p1_dangers, .inl (cI, 10, .inl p1_dangers))]) ⟨hx, hb, hml, hown, hts⟩ (c_X2_dangerOn l D cI cZ cO hw) (cwV 1 hts gX1_seenOn_X2_dangerOn rfl rfl rfl (by decide +kernel) ⟨Nat.le_of_ble_eq_true rfl, Nat.le_of_ble_eq_true rfl⟩) hKK hP [1, 4] rfl rfl rfl rfl hl.1 rfl (Nat.le_of_ble_eq_true rfl) dX1_seenOn_14 ⟨Nat.zero_le _, Nat.zero_le _⟩ (fun r_14 hw => ?_)
  refine xcVi (q0 := 0) (ci := 1) (As := [.ref a_p1, .int r_4, .int r_9, .int r_14]) (rest := []) (wc := [(a_this, .inr (1, [.ref a_marks, .int people, .int living, .int shown, .int spent, .int days])), (a_p1, .inr (2, [.ref a_p1_marks, .ref a_p1_inWeathers, .ref a_p1_inHours, .ref a_p1_fears, .ref a_p1_weathers, .ref a_p1_hours, .ref a_p1_dangers, .int p1_pay, .int p1_people, .int p1_days])), (a_p1_inWeathers, .inl (cI, 8, .inl p1_inWeathers)), (a_p1_inHours, .inl (cI, 8, .inl p1_inHours)), (a_p1_fears, .inl (cI, 8, .inl p1_fears))]) ⟨hx, hb, hml, hown, hts⟩ (c_X1_seenBy l D cI cZ cO hw) (cwV 4 hts gX1_seenOn_X1_seenBy rfl rfl rfl (by decide +kernel) ⟨Nat.le_of_ble_eq_true rfl, Nat.le_of_ble_eq_true rfl⟩) hKK hP [0, 1, 5, 6, 7] rfl rfl rfl rfl hl.1 rfl (Nat.le_of_ble_eq_true rfl) dX1_seenOn_17 ⟨Nat.zero_le _, Nat.zero_le _⟩ (fun r_17 hw => ?_)
  rw [hQ]
  exact W.iret (v := r_17) hx hb hr (fun t ht _ => ⟨r_17, rfl, hw, ht⟩) (fun _ h => (List.not_mem_nil h).elim) dX1_seenOn_20
def wp_X2_goesOutOn (days : Int32) (weathers : Nat → Int32) (hours : Nat → Int32) (dangers : Nat → Int32) (inWeathers : Nat → Int32) (inHours : Nat → Int32) (fears : Nat → Int32) (p1 : Int32) (p2 : Int32) (Φ : Int32 → Prop) : Prop :=
  (wp_X2_weatherOn days weathers p2 (fun r_4 => (wp_X2_hourOn days hours p2 (fun r_9 => (wp_X2_dangerOn days dangers p2 (fun r_14 => (wp_X2_goesOut inWeathers inHours fears p1 r_4 r_9 r_14 (fun r_17 => ((xvz r_17 ∧ Φ r_17))))))))))
abbrev xrm_X2_goesOutOn : Room := { frames := 3, cells := 0, slots := 0, locals := 64 }
set_option maxRecDepth 100000 in
set_option maxHeartbeats 4000000 in
theorem c_X2_goesOutOn (l : Launch) (D : va_G) (cI cZ cO : ClassId) {a_marks : Nat} {a_inWeathers : Nat} {a_inHours : Nat} {a_fears : Nat} {a_weathers : Nat} {a_hours : Nat} {a_dangers : Nat} {pay : Int32} {people : Int32} {days : Int32} {a_this : Nat} {weathers : Nat → Int32} {hours : Nat → Int32} {dangers : Nat → Int32} {inWeathers : Nat → Int32} {inHours : Nat → Int32} {fears : Nat → Int32} {p1 : Int32} {p2 : Int32} {Φ : Int32 → Prop} (hw : (wp_X2_goesOutOn days weathers hours dangers inWeathers inHours fears p1 p2 Φ)) : Met l yX2_goesOutOn wsX2_goesOutOn xrm_X2_goesOutOn (xPR D cI cZ cO [.ref a_this, .int p1, .int p2] [(a_this, .inr (2, [.ref a_marks, .ref a_inWeathers, .ref a_inHours, .ref a_fears, .ref a_weathers, .ref a_hours, .ref a_dangers, .int pay, .int people, .int days])), (a_weathers, .inl (cI, 10, .inl weathers)), (a_hours, .inl (cI, 10, .inl hours)), (a_dangers, .inl (cI, 10, .inl dangers)), (a_inWeathers, .inl (cI, 8, .inl inWeathers)), (a_inHours, .inl (cI, 8, .inl inHours)), (a_fears, .inl (cI, 8, .inl fears))]) (vp_Si Φ) 0 0 (fun _ => False) := by
  refine Met.ofW (cc := cX2_goesOutOn) (maxL := 3) (ret := (some .boolean)) (by decide) rfl ?_
  intro p e s m args below meth c s₁ B hml hv
  obtain ⟨rfl, hP, hKK⟩ := hv
  have hx := B.exec
  have hb := B.bytes
  have hr := B.returns
  have hts := atoms_spec (ws := wsX2_goesOutOn) B.pre
  have hown : s.vm.findClass RX2 = some m.cls := findClass_of_methodNamed B.named
  have hlocks := B.notSynchronized
  obtain ⟨Q, hQ⟩ : ∃ Q, Q = MQ below (vp_Si Φ) ([.ref a_this, .int p1, .int p2] : List Value).toArray s 0 0 (fun _ => False) := ⟨_, rfl⟩
  rw [← hQ]
  have hl := lv_entry ([.ref a_this, .int p1, .int p2]) (n := 3) (Nat.le_of_ble_eq_true rfl)
  rw [lg_entry_eq]
  generalize (lg_sl ([.ref a_this, .int p1, .int p2]) ++ List.replicate (3 - (lg_sl ([.ref a_this, .int p1, .int p2])).length) Slot.unset).toArray = ls at hl ⊢
  have hl : lv_has ls 3 [(0, .ref a_this), (1, .int p1), (2, .int p2)] := hl
  generalize ([.ref a_this, .int p1, .int p2] : List Value).toArray = args at hts hQ ⊢
  have hP : va_P D vwCl [(a_this, .inr (2, [.ref a_marks, .ref a_inWeathers, .ref a_inHours, .ref a_fears, .ref a_weathers, .ref a_hours, .ref a_dangers, .int pay, .int people, .int days])), (a_weathers, .inl (cI, 10, .inl weathers)), (a_hours, .inl (cI, 10, .inl hours)), (a_dangers, .inl (cI, 10, .inl dangers)), (a_inWeathers, .inl (cI, 8, .inl inWeathers)), (a_inHours, .inl (cI, 8, .inl inHours)), (a_fears, .inl (cI, 8, .inl fears))] s.heap := hP
  clear B
  show W p l e xrm_X2_goesOutOn s m args below meth c s.heap [] 0 0 Q (F0 m 0 ls [])
  unfold wp_X2_goesOutOn at hw
  refine lv_aload_n hx hb dX2_goesOutOn_0 rfl (lv_at hl 0 rfl) ?_
  refine lv_iload_n hx hb dX2_goesOutOn_1 rfl (lv_at hl 1 rfl) ?_
  refine lv_aload_n hx hb dX2_goesOutOn_2 rfl (lv_at hl 0 rfl) ?_
  refine lv_iload_n hx hb dX2_goesOutOn_3 rfl (lv_at hl 2 rfl) ?_
  refine xcVi (q0 := 0) (ci := 2) (As := [.int p2]) (rest := [.int p1, .ref a_this]) (wc := [(a_this, .inr (2, [.ref a_marks, .ref a_inWeathers, .ref a_inHours, .ref a_fears, .ref a_weathers, .ref a_hours, .ref a_dangers, .int pay, .int people, .int days])), (a_weathers, .inl (cI, 10, .inl weathers))]) ⟨hx, hb, hml, hown, hts⟩ (c_X2_weatherOn l D cI cZ cO hw) (cwV 1 hts gX2_goesOutOn_X2_weatherOn rfl rfl rfl (by decide +kernel) ⟨Nat.le_of_ble_eq_true rfl, Nat.le_of_ble_eq_true rfl⟩) hKK hP [0, 1] rfl rfl rfl rfl hl.1 rfl (Nat.le_of_ble_eq_true rfl) dX2_goesOutOn_4 ⟨Nat.zero_le _, Nat.zero_le _⟩ (fun r_4 hw => ?_)
  refine lv_aload_n hx hb dX2_goesOutOn_7 rfl (lv_at hl 0 rfl) ?_
  refine lv_iload_n hx hb dX2_goesOutOn_8 rfl (lv_at hl 2 rfl) ?_
  refine xcVi (q0 := 0) (ci := 2) (As := [.int p2]) (rest := [.int r_4, .int p1, .ref a_this]) (wc := [(a_this, .inr (2, [.ref a_marks, .ref a_inWeathers, .ref a_inHours, .ref a_fears, .ref a_weathers, .ref a_hours, .ref a_dangers, .int pay, .int people, .int days])), (a_hours, .inl (cI, 10, .inl hours))]) ⟨hx, hb, hml, hown, hts⟩ (c_X2_hourOn l D cI cZ cO hw) (cwV 1 hts gX2_goesOutOn_X2_hourOn rfl rfl rfl (by decide +kernel) ⟨Nat.le_of_ble_eq_true rfl, Nat.le_of_ble_eq_true rfl⟩) hKK hP [0, 2] rfl rfl rfl rfl hl.1 rfl (Nat.le_of_ble_eq_true rfl) dX2_goesOutOn_9 ⟨Nat.zero_le _, Nat.zero_le _⟩ (fun r_9 hw => ?_)
  refine lv_aload_n hx hb dX2_goesOutOn_12 rfl (lv_at hl 0 rfl) ?_
  refine lv_iload_n hx hb dX2_goesOutOn_13 rfl (lv_at hl 2 rfl) ?_
  refine xcVi (q0 := 0) (ci := 2) (As := [.int p2]) (rest := [.int r_9, .int r_4, .int p1, .ref a_this]) (wc := [(a_this, .inr (2, [.ref a_marks, .ref a_inWeathers, .ref a_inHours, .ref a_fears, .ref a_weathers, .ref a_hours, .ref a_dangers, .int pay, .int people, .int days])), (a_dangers, .inl (cI, 10, .inl dangers))]) ⟨hx, hb, hml, hown, hts⟩ (c_X2_dangerOn l D cI cZ cO hw) (cwV 1 hts gX2_goesOutOn_X2_dangerOn rfl rfl rfl (by decide +kernel) ⟨Nat.le_of_ble_eq_true rfl, Nat.le_of_ble_eq_true rfl⟩) hKK hP [0, 3] rfl rfl rfl rfl hl.1 rfl (Nat.le_of_ble_eq_true rfl) dX2_goesOutOn_14 ⟨Nat.zero_le _, Nat.zero_le _⟩ (fun r_14 hw => ?_)
  refine xcVi (q0 := 0) (ci := 2) (As := [.int p1, .int r_4, .int r_9, .int r_14]) (rest := []) (wc := [(a_this, .inr (2, [.ref a_marks, .ref a_inWeathers, .ref a_inHours, .ref a_fears, .ref a_weathers, .ref a_hours, .ref a_dangers, .int pay, .int people, .int days])), (a_inWeathers, .inl (cI, 8, .inl inWeathers)), (a_inHours, .inl (cI, 8, .inl inHours)), (a_fears, .inl (cI, 8, .inl fears))]) ⟨hx, hb, hml, hown, hts⟩ (c_X2_goesOut l D cI cZ cO hw) (cwV 4 hts gX2_goesOutOn_X2_goesOut rfl rfl rfl (by decide +kernel) ⟨Nat.le_of_ble_eq_true rfl, Nat.le_of_ble_eq_true rfl⟩) hKK hP [0, 4, 5, 6] rfl rfl rfl rfl hl.1 rfl (Nat.le_of_ble_eq_true rfl) dX2_goesOutOn_17 ⟨Nat.zero_le _, Nat.zero_le _⟩ (fun r_17 hw => ?_)
  obtain ⟨hvz, hw⟩ := hw
  rw [hQ]
  exact W.zret (v := r_17) hx hb hr hvz (fun t ht _ => ⟨r_17, rfl, hw, ht⟩) (fun _ h => (List.not_mem_nil h).elim) dX2_goesOutOn_20
def wk_X2_goersOn_4 (Φ : Int32 → Prop) (x2_4 : Int32) (x3_4 : Int32) : Prop :=
  (Φ x2_4)
def wb_X2_goersOn_4 (days : Int32) (weathers : Nat → Int32) (hours : Nat → Int32) (dangers : Nat → Int32) (inWeathers : Nat → Int32) (inHours : Nat → Int32) (fears : Nat → Int32) (p1 : Int32) (K_4 : Int32 → Int32 → Prop) (rec_4 : Int32 → Int32 → Prop) (x2_4 : Int32) (x3_4 : Int32) : Prop :=
  ((8 ≤ x3_4 → (K_4 x2_4 x3_4)) ∧ (¬ 8 ≤ x3_4 → (wp_X2_goesOutOn days weathers hours dangers inWeathers inHours fears x3_4 p1 (fun r_13 => ((r_13 = 0 → (rec_4 x2_4 (x3_4 + 1))) ∧ (¬ r_13 = 0 → (rec_4 (x2_4 ||| ((1 : Int32) <<< (x3_4 &&& 31))) (x3_4 + 1))))))))
def wp_X2_goersOn (days : Int32) (weathers : Nat → Int32) (hours : Nat → Int32) (dangers : Nat → Int32) (inWeathers : Nat → Int32) (inHours : Nat → Int32) (fears : Nat → Int32) (p1 : Int32) (Φ : Int32 → Prop) : Prop :=
  (∃ n : Nat, xit2 (wb_X2_goersOn_4 days weathers hours dangers inWeathers inHours fears p1 (wk_X2_goersOn_4 Φ)) n 0 0)
abbrev xrm_X2_goersOn : Room := { frames := 4, cells := 0, slots := 0, locals := 86 }
set_option maxRecDepth 100000 in
set_option maxHeartbeats 4000000 in
theorem c_X2_goersOn (l : Launch) (D : va_G) (cI cZ cO : ClassId) {a_marks : Nat} {a_inWeathers : Nat} {a_inHours : Nat} {a_fears : Nat} {a_weathers : Nat} {a_hours : Nat} {a_dangers : Nat} {pay : Int32} {people : Int32} {days : Int32} {a_this : Nat} {weathers : Nat → Int32} {hours : Nat → Int32} {dangers : Nat → Int32} {inWeathers : Nat → Int32} {inHours : Nat → Int32} {fears : Nat → Int32} {p1 : Int32} {Φ : Int32 → Prop} (hw : (wp_X2_goersOn days weathers hours dangers inWeathers inHours fears p1 Φ)) : Met l yX2_goersOn wsX2_goersOn xrm_X2_goersOn (xPR D cI cZ cO [.ref a_this, .int p1] [(a_this, .inr (2, [.ref a_marks, .ref a_inWeathers, .ref a_inHours, .ref a_fears, .ref a_weathers, .ref a_hours, .ref a_dangers, .int pay, .int people, .int days])), (a_weathers, .inl (cI, 10, .inl weathers)), (a_hours, .inl (cI, 10, .inl hours)), (a_dangers, .inl (cI, 10, .inl dangers)), (a_inWeathers, .inl (cI, 8, .inl inWeathers)), (a_inHours, .inl (cI, 8, .inl inHours)), (a_fears, .inl (cI, 8, .inl fears))]) (vp_Si Φ) 0 0 (fun _ => False) := by
  refine Met.ofW (cc := cX2_goersOn) (maxL := 4) (ret := (some .int)) (by decide) rfl ?_
  intro p e s m args below meth c s₁ B hml hv
  obtain ⟨rfl, hP, hKK⟩ := hv
  have hx := B.exec
  have hb := B.bytes
  have hr := B.returns
  have hts := atoms_spec (ws := wsX2_goersOn) B.pre
  have hown : s.vm.findClass RX2 = some m.cls := findClass_of_methodNamed B.named
  have hlocks := B.notSynchronized
  obtain ⟨Q, hQ⟩ : ∃ Q, Q = MQ below (vp_Si Φ) ([.ref a_this, .int p1] : List Value).toArray s 0 0 (fun _ => False) := ⟨_, rfl⟩
  rw [← hQ]
  have hl := lv_entry ([.ref a_this, .int p1]) (n := 4) (Nat.le_of_ble_eq_true rfl)
  rw [lg_entry_eq]
  generalize (lg_sl ([.ref a_this, .int p1]) ++ List.replicate (4 - (lg_sl ([.ref a_this, .int p1])).length) Slot.unset).toArray = ls at hl ⊢
  have hl : lv_has ls 4 [(0, .ref a_this), (1, .int p1)] := hl
  generalize ([.ref a_this, .int p1] : List Value).toArray = args at hts hQ ⊢
  have hP : va_P D vwCl [(a_this, .inr (2, [.ref a_marks, .ref a_inWeathers, .ref a_inHours, .ref a_fears, .ref a_weathers, .ref a_hours, .ref a_dangers, .int pay, .int people, .int days])), (a_weathers, .inl (cI, 10, .inl weathers)), (a_hours, .inl (cI, 10, .inl hours)), (a_dangers, .inl (cI, 10, .inl dangers)), (a_inWeathers, .inl (cI, 8, .inl inWeathers)), (a_inHours, .inl (cI, 8, .inl inHours)), (a_fears, .inl (cI, 8, .inl fears))] s.heap := hP
  clear B
  show W p l e xrm_X2_goersOn s m args below meth c s.heap [] 0 0 Q (F0 m 0 ls [])
  unfold wp_X2_goersOn at hw
  refine lv_iconst (v := 0) hx hb dX2_goersOn_0 (by decide) ?_
  refine lv_istore_n (lv' := [(2, .int 0), (0, .ref a_this), (1, .int p1)]) hx hb dX2_goersOn_1 rfl hl (by decide) rfl (fun ls hl => ?_)
  refine lv_iconst (v := 0) hx hb dX2_goersOn_2 (by decide) ?_
  refine lv_istore_n (lv' := [(3, .int 0), (2, .int 0), (0, .ref a_this), (1, .int p1)]) hx hb dX2_goersOn_3 rfl hl (by decide) rfl (fun ls hl => ?_)
  have EX_4 : ∀ (x2_4 : Int32) (x3_4 : Int32), ∀ (ls : Array Slot), lv_has ls 4 [(0, .ref a_this), (1, .int p1), (2, .int x2_4), (3, .int x3_4)] → (wk_X2_goersOn_4 Φ x2_4 x3_4) → W p l e xrm_X2_goersOn s m args below meth c s.heap [] 0 0 Q (F0 m 31 ls []) := by
    intro x2_4 x3_4 ls hl hw
    unfold wk_X2_goersOn_4 at hw
    refine lv_iload_n hx hb dX2_goersOn_31 rfl (lv_at hl 2 rfl) ?_
    rw [hQ]
    exact W.iret (v := x2_4) hx hb hr (fun t ht _ => ⟨x2_4, rfl, hw, ht⟩) (fun _ h => (List.not_mem_nil h).elim) dX2_goersOn_32
  generalize (wk_X2_goersOn_4 Φ) = K_4 at EX_4 hw
  have LP_4 : ∀ n : Nat, ∀ (x2_4 : Int32) (x3_4 : Int32), ∀ (ls : Array Slot), lv_has ls 4 [(0, .ref a_this), (1, .int p1), (2, .int x2_4), (3, .int x3_4)] → xit2 (wb_X2_goersOn_4 days weathers hours dangers inWeathers inHours fears p1 K_4) n x2_4 x3_4 → W p l e xrm_X2_goersOn s m args below meth c s.heap [] 0 0 Q (F0 m 4 ls []) := by
    intro n
    induction n with
    | zero => intro x2_4 x3_4 ls hl hw; exact (show False from hw).elim
    | succ n ih =>
      intro x2_4 x3_4 ls hl hw
      have hw : wb_X2_goersOn_4 days weathers hours dangers inWeathers inHours fears p1 K_4 (xit2 (wb_X2_goersOn_4 days weathers hours dangers inWeathers inHours fears p1 K_4) n) x2_4 x3_4 := hw
      generalize xit2 (wb_X2_goersOn_4 days weathers hours dangers inWeathers inHours fears p1 K_4) n = rec_4 at ih hw
      unfold wb_X2_goersOn_4 at hw
      refine lv_iload_n hx hb dX2_goersOn_4 rfl (lv_at hl 3 rfl) ?_
      refine lv_bipush (v := 8) hx hb dX2_goersOn_5 (by decide) ?_
      refine lv_icmp_ge (tgt := 31) hx hb dX2_goersOn_7 (by decide) (fun c_7 => ?_) (fun c_7 => ?_)
      · have hw := hw.1 c_7
        exact EX_4 _ _ ls (lv_sub hl [0, 1, 2, 3] rfl) hw
      · have hw := hw.2 c_7
        refine lv_aload_n hx hb dX2_goersOn_10 rfl (lv_at hl 0 rfl) ?_
        refine lv_iload_n hx hb dX2_goersOn_11 rfl (lv_at hl 3 rfl) ?_
        refine lv_iload_n hx hb dX2_goersOn_12 rfl (lv_at hl 1 rfl) ?_
        refine xcVi (q0 := 0) (ci := 2) (As := [.int x3_4, .int p1]) (rest := []) (wc := [(a_this, .inr (2, [.ref a_marks, .ref a_inWeathers, .ref a_inHours, .ref a_fears, .ref a_weathers, .ref a_hours, .ref a_dangers, .int pay, .int people, .int days])), (a_weathers, .inl (cI, 10, .inl weathers)), (a_hours, .inl (cI, 10, .inl hours)), (a_dangers, .inl (cI, 10, .inl dangers)), (a_inWeathers, .inl (cI, 8, .inl inWeathers)), (a_inHours, .inl (cI, 8, .inl inHours)), (a_fears, .inl (cI, 8, .inl fears))]) ⟨hx, hb, hml, hown, hts⟩ (c_X2_goesOutOn l D cI cZ cO hw) (cwV 2 hts gX2_goersOn_X2_goesOutOn rfl rfl rfl (by decide +kernel) ⟨Nat.le_of_ble_eq_true rfl, Nat.le_of_ble_eq_true rfl⟩) hKK hP [0, 1, 2, 3, 4, 5, 6] rfl rfl rfl rfl hl.1 rfl (Nat.le_of_ble_eq_true rfl) dX2_goersOn_13 ⟨Nat.zero_le _, Nat.zero_le _⟩ (fun r_13 hw => ?_)
        refine lv_if_eq (tgt := 25) hx hb dX2_goersOn_16 (by decide) (fun c_16 => ?_) (fun c_16 => ?_)
        · have hw := hw.1 c_16
          refine lv_iinc (v := (x3_4 + 1)) (lv' := [(3, .int (x3_4 + 1)), (0, .ref a_this), (1, .int p1), (2, .int x2_4)]) hx hb dX2_goersOn_25 hl (k := 3) rfl (by rfl) (by decide) rfl (fun ls hl => ?_)
          refine lv_goto (tgt := 4) hx hb dX2_goersOn_28 (by decide) ?_
          exact ih _ _ ls (lv_sub hl [1, 2, 3, 0] rfl) hw
        · have hw := hw.2 c_16
          refine lv_iload_n hx hb dX2_goersOn_19 rfl (lv_at hl 2 rfl) ?_
          refine lv_iconst (v := 1) hx hb dX2_goersOn_20 (by decide) ?_
          refine lv_iload_n hx hb dX2_goersOn_21 rfl (lv_at hl 3 rfl) ?_
          refine lv_ishl hx hb dX2_goersOn_22 ?_
          refine lv_ior hx hb dX2_goersOn_23 ?_
          refine lv_istore_n (lv' := [(2, .int (x2_4 ||| ((1 : Int32) <<< (x3_4 &&& 31)))), (0, .ref a_this), (1, .int p1), (3, .int x3_4)]) hx hb dX2_goersOn_24 rfl hl (by decide) rfl (fun ls hl => ?_)
          refine lv_iinc (v := (x3_4 + 1)) (lv' := [(3, .int (x3_4 + 1)), (2, .int (x2_4 ||| ((1 : Int32) <<< (x3_4 &&& 31)))), (0, .ref a_this), (1, .int p1)]) hx hb dX2_goersOn_25 hl (k := 3) rfl (by rfl) (by decide) rfl (fun ls hl => ?_)
          refine lv_goto (tgt := 4) hx hb dX2_goersOn_28 (by decide) ?_
          exact ih _ _ ls (lv_sub hl [2, 3, 1, 0] rfl) hw
  obtain ⟨n, hw⟩ := hw
  exact LP_4 n _ _ ls (lv_sub hl [2, 3, 1, 0] rfl) hw
def wp_X1_goersOn (living : Int32) (p1_days : Int32) (p1_weathers : Nat → Int32) (p1_hours : Nat → Int32) (p1_dangers : Nat → Int32) (p1_inWeathers : Nat → Int32) (p1_inHours : Nat → Int32) (p1_fears : Nat → Int32) (p2 : Int32) (Φ : Int32 → Prop) : Prop :=
  (wp_X2_goersOn p1_days p1_weathers p1_hours p1_dangers p1_inWeathers p1_inHours p1_fears p2 (fun r_6 => (Φ (living &&& r_6))))
abbrev xrm_X1_goersOn : Room := { frames := 5, cells := 0, slots := 0, locals := 109 }
set_option maxRecDepth 100000 in
set_option maxHeartbeats 4000000 in
theorem c_X1_goersOn (l : Launch) (D : va_G) (cI cZ cO : ClassId) {a_marks : Nat} {people : Int32} {living : Int32} {shown : Int32} {spent : Int32} {days : Int32} {a_this : Nat} {a_p1_marks : Nat} {a_p1_inWeathers : Nat} {a_p1_inHours : Nat} {a_p1_fears : Nat} {a_p1_weathers : Nat} {a_p1_hours : Nat} {a_p1_dangers : Nat} {p1_pay : Int32} {p1_people : Int32} {p1_days : Int32} {a_p1 : Nat} {p1_weathers : Nat → Int32} {p1_hours : Nat → Int32} {p1_dangers : Nat → Int32} {p1_inWeathers : Nat → Int32} {p1_inHours : Nat → Int32} {p1_fears : Nat → Int32} {p2 : Int32} {Φ : Int32 → Prop} (hw : (wp_X1_goersOn living p1_days p1_weathers p1_hours p1_dangers p1_inWeathers p1_inHours p1_fears p2 Φ)) : Met l yX1_goersOn wsX1_goersOn xrm_X1_goersOn (xPR D cI cZ cO [.ref a_this, .ref a_p1, .int p2] [(a_this, .inr (1, [.ref a_marks, .int people, .int living, .int shown, .int spent, .int days])), (a_p1, .inr (2, [.ref a_p1_marks, .ref a_p1_inWeathers, .ref a_p1_inHours, .ref a_p1_fears, .ref a_p1_weathers, .ref a_p1_hours, .ref a_p1_dangers, .int p1_pay, .int p1_people, .int p1_days])), (a_p1_weathers, .inl (cI, 10, .inl p1_weathers)), (a_p1_hours, .inl (cI, 10, .inl p1_hours)), (a_p1_dangers, .inl (cI, 10, .inl p1_dangers)), (a_p1_inWeathers, .inl (cI, 8, .inl p1_inWeathers)), (a_p1_inHours, .inl (cI, 8, .inl p1_inHours)), (a_p1_fears, .inl (cI, 8, .inl p1_fears))]) (vp_Si Φ) 0 0 (fun _ => False) := by
  refine Met.ofW (cc := cX1_goersOn) (maxL := 3) (ret := (some .int)) (by decide) rfl ?_
  intro p e s m args below meth c s₁ B hml hv
  obtain ⟨rfl, hP, hKK⟩ := hv
  have hx := B.exec
  have hb := B.bytes
  have hr := B.returns
  have hts := atoms_spec (ws := wsX1_goersOn) B.pre
  have hown : s.vm.findClass RX1 = some m.cls := findClass_of_methodNamed B.named
  have hlocks := B.notSynchronized
  obtain ⟨Q, hQ⟩ : ∃ Q, Q = MQ below (vp_Si Φ) ([.ref a_this, .ref a_p1, .int p2] : List Value).toArray s 0 0 (fun _ => False) := ⟨_, rfl⟩
  rw [← hQ]
  have hl := lv_entry ([.ref a_this, .ref a_p1, .int p2]) (n := 3) (Nat.le_of_ble_eq_true rfl)
  rw [lg_entry_eq]
  generalize (lg_sl ([.ref a_this, .ref a_p1, .int p2]) ++ List.replicate (3 - (lg_sl ([.ref a_this, .ref a_p1, .int p2])).length) Slot.unset).toArray = ls at hl ⊢
  have hl : lv_has ls 3 [(0, .ref a_this), (1, .ref a_p1), (2, .int p2)] := hl
  generalize ([.ref a_this, .ref a_p1, .int p2] : List Value).toArray = args at hts hQ ⊢
  have hP : va_P D vwCl [(a_this, .inr (1, [.ref a_marks, .int people, .int living, .int shown, .int spent, .int days])), (a_p1, .inr (2, [.ref a_p1_marks, .ref a_p1_inWeathers, .ref a_p1_inHours, .ref a_p1_fears, .ref a_p1_weathers, .ref a_p1_hours, .ref a_p1_dangers, .int p1_pay, .int p1_people, .int p1_days])), (a_p1_weathers, .inl (cI, 10, .inl p1_weathers)), (a_p1_hours, .inl (cI, 10, .inl p1_hours)), (a_p1_dangers, .inl (cI, 10, .inl p1_dangers)), (a_p1_inWeathers, .inl (cI, 8, .inl p1_inWeathers)), (a_p1_inHours, .inl (cI, 8, .inl p1_inHours)), (a_p1_fears, .inl (cI, 8, .inl p1_fears))] s.heap := hP
  have hinX1 : ∀ w ∈ u_ws RX1 TX1 6, w ∈ wsX1_goersOn := by decide +kernel
  have fl_19 := hts (.fieldLink RX1 19 "DoubleChain$Chain" "living" "I") (by decide +kernel)
  clear B
  show W p l e xrm_X1_goersOn s m args below meth c s.heap [] 0 0 Q (F0 m 0 ls [])
  unfold wp_X1_goersOn at hw
  refine lv_aload_n hx hb dX1_goersOn_0 rfl (lv_at hl 0 rfl) ?_
  refine va_get (D := D) (ci := 1) (v := .int living) (C := RX1) (T := TX1) (N := 6) hx hb hts hinX1 hown hKK.1 hP 0 rfl rfl 2 (by decide) fl_19 (fun _ h9 => h9) rfl dX1_goersOn_1 ?_
  refine lv_aload_n hx hb dX1_goersOn_4 rfl (lv_at hl 1 rfl) ?_
  refine lv_iload_n hx hb dX1_goersOn_5 rfl (lv_at hl 2 rfl) ?_
  refine xcVi (q0 := 1) (ci := 2) (As := [.int p2]) (rest := [.int living]) (wc := [(a_p1, .inr (2, [.ref a_p1_marks, .ref a_p1_inWeathers, .ref a_p1_inHours, .ref a_p1_fears, .ref a_p1_weathers, .ref a_p1_hours, .ref a_p1_dangers, .int p1_pay, .int p1_people, .int p1_days])), (a_p1_weathers, .inl (cI, 10, .inl p1_weathers)), (a_p1_hours, .inl (cI, 10, .inl p1_hours)), (a_p1_dangers, .inl (cI, 10, .inl p1_dangers)), (a_p1_inWeathers, .inl (cI, 8, .inl p1_inWeathers)), (a_p1_inHours, .inl (cI, 8, .inl p1_inHours)), (a_p1_fears, .inl (cI, 8, .inl p1_fears))]) ⟨hx, hb, hml, hown, hts⟩ (c_X2_goersOn l D cI cZ cO hw) (cwV 1 hts gX1_goersOn_X2_goersOn rfl rfl rfl (by decide +kernel) ⟨Nat.le_of_ble_eq_true rfl, Nat.le_of_ble_eq_true rfl⟩) hKK hP [1, 2, 3, 4, 5, 6, 7] rfl rfl rfl rfl hl.1 rfl (Nat.le_of_ble_eq_true rfl) dX1_goersOn_6 ⟨Nat.zero_le _, Nat.zero_le _⟩ (fun r_6 hw => ?_)
  refine lv_iand hx hb dX1_goersOn_9 ?_
  rw [hQ]
  exact W.iret (v := (living &&& r_6)) hx hb hr (fun t ht _ => ⟨(living &&& r_6), rfl, hw, ht⟩) (fun _ h => (List.not_mem_nil h).elim) dX1_goersOn_10
def wp_X2_payAt (pay : Int32) (p1 : Int32) (Φ : Int32 → Prop) : Prop :=
  (Φ (pay >>> (p1 &&& 31)))
abbrev xrm_X2_payAt : Room := { frames := 0, cells := 0, slots := 0, locals := 0 }
set_option maxRecDepth 100000 in
set_option maxHeartbeats 4000000 in
theorem c_X2_payAt (l : Launch) (D : va_G) (cI cZ cO : ClassId) {a_marks : Nat} {a_inWeathers : Nat} {a_inHours : Nat} {a_fears : Nat} {a_weathers : Nat} {a_hours : Nat} {a_dangers : Nat} {pay : Int32} {people : Int32} {days : Int32} {a_this : Nat} {p1 : Int32} {Φ : Int32 → Prop} (hw : (wp_X2_payAt pay p1 Φ)) : Met l yX2_payAt wsX2_payAt xrm_X2_payAt (xPR D cI cZ cO [.ref a_this, .int p1] [(a_this, .inr (2, [.ref a_marks, .ref a_inWeathers, .ref a_inHours, .ref a_fears, .ref a_weathers, .ref a_hours, .ref a_dangers, .int pay, .int people, .int days]))]) (vp_Si Φ) 0 0 (fun _ => False) := by
  refine Met.ofW (cc := cX2_payAt) (maxL := 2) (ret := (some .int)) (by decide) rfl ?_
  intro p e s m args below meth c s₁ B hml hv
  obtain ⟨rfl, hP, hKK⟩ := hv
  have hx := B.exec
  have hb := B.bytes
  have hr := B.returns
  have hts := atoms_spec (ws := wsX2_payAt) B.pre
  have hown : s.vm.findClass RX2 = some m.cls := findClass_of_methodNamed B.named
  have hlocks := B.notSynchronized
  obtain ⟨Q, hQ⟩ : ∃ Q, Q = MQ below (vp_Si Φ) ([.ref a_this, .int p1] : List Value).toArray s 0 0 (fun _ => False) := ⟨_, rfl⟩
  rw [← hQ]
  have hl := lv_entry ([.ref a_this, .int p1]) (n := 2) (Nat.le_of_ble_eq_true rfl)
  rw [lg_entry_eq]
  generalize (lg_sl ([.ref a_this, .int p1]) ++ List.replicate (2 - (lg_sl ([.ref a_this, .int p1])).length) Slot.unset).toArray = ls at hl ⊢
  have hl : lv_has ls 2 [(0, .ref a_this), (1, .int p1)] := hl
  generalize ([.ref a_this, .int p1] : List Value).toArray = args at hts hQ ⊢
  have hP : va_P D vwCl [(a_this, .inr (2, [.ref a_marks, .ref a_inWeathers, .ref a_inHours, .ref a_fears, .ref a_weathers, .ref a_hours, .ref a_dangers, .int pay, .int people, .int days]))] s.heap := hP
  have hinX2 : ∀ w ∈ u_ws RX2 TX2 10, w ∈ wsX2_payAt := by decide +kernel
  have fl_33 := hts (.fieldLink RX2 33 "DoubleChain$Court" "pay" "I") (by decide +kernel)
  clear B
  show W p l e xrm_X2_payAt s m args below meth c s.heap [] 0 0 Q (F0 m 0 ls [])
  unfold wp_X2_payAt at hw
  refine lv_aload_n hx hb dX2_payAt_0 rfl (lv_at hl 0 rfl) ?_
  refine va_get (D := D) (ci := 2) (v := .int pay) (C := RX2) (T := TX2) (N := 10) hx hb hts hinX2 hown hKK.1 hP 0 rfl rfl 7 (by decide) fl_33 (fun _ h9 => h9) rfl dX2_payAt_1 ?_
  refine lv_iload_n hx hb dX2_payAt_4 rfl (lv_at hl 1 rfl) ?_
  refine lv_ishr hx hb dX2_payAt_5 ?_
  rw [hQ]
  exact W.iret (v := (pay >>> (p1 &&& 31))) hx hb hr (fun t ht _ => ⟨(pay >>> (p1 &&& 31)), rfl, hw, ht⟩) (fun _ h => (List.not_mem_nil h).elim) dX2_payAt_6
def wp_X7_leastOf (p0 : Int32) (Φ : Int32 → Prop) : Prop :=
  (Φ (p0 &&& (-p0)))
abbrev xrm_X7_leastOf : Room := { frames := 0, cells := 0, slots := 0, locals := 0 }
set_option maxRecDepth 100000 in
set_option maxHeartbeats 4000000 in
theorem c_X7_leastOf (l : Launch) (D : va_G) (cI cZ cO : ClassId) {p0 : Int32} {Φ : Int32 → Prop} (hw : (wp_X7_leastOf p0 Φ)) : Met l yX7_leastOf wsX7_leastOf xrm_X7_leastOf (xPR D cI cZ cO [.int p0] []) (vp_Si Φ) 0 0 (fun _ => False) := by
  refine Met.ofW (cc := cX7_leastOf) (maxL := 1) (ret := (some .int)) (by decide) rfl ?_
  intro p e s m args below meth c s₁ B hml hv
  obtain ⟨rfl, hP, hKK⟩ := hv
  have hx := B.exec
  have hb := B.bytes
  have hr := B.returns
  have hts := atoms_spec (ws := wsX7_leastOf) B.pre
  have hown : s.vm.findClass RX7 = some m.cls := findClass_of_methodNamed B.named
  have hlocks := B.notSynchronized
  obtain ⟨Q, hQ⟩ : ∃ Q, Q = MQ below (vp_Si Φ) ([.int p0] : List Value).toArray s 0 0 (fun _ => False) := ⟨_, rfl⟩
  rw [← hQ]
  have hl := lv_entry ([.int p0]) (n := 1) (Nat.le_of_ble_eq_true rfl)
  rw [lg_entry_eq]
  generalize (lg_sl ([.int p0]) ++ List.replicate (1 - (lg_sl ([.int p0])).length) Slot.unset).toArray = ls at hl ⊢
  have hl : lv_has ls 1 [(0, .int p0)] := hl
  generalize ([.int p0] : List Value).toArray = args at hts hQ ⊢
  have hP : va_P D vwCl [] s.heap := hP
  clear B
  show W p l e xrm_X7_leastOf s m args below meth c s.heap [] 0 0 Q (F0 m 0 ls [])
  unfold wp_X7_leastOf at hw
  refine lv_iload_n hx hb dX7_leastOf_0 rfl (lv_at hl 0 rfl) ?_
  refine lv_iload_n hx hb dX7_leastOf_1 rfl (lv_at hl 0 rfl) ?_
  refine lv_ineg hx hb dX7_leastOf_2 ?_
  refine lv_iand hx hb dX7_leastOf_3 ?_
  rw [hQ]
  exact W.iret (v := (p0 &&& (-p0))) hx hb hr (fun t ht _ => ⟨(p0 &&& (-p0)), rfl, hw, ht⟩) (fun _ h => (List.not_mem_nil h).elim) dX7_leastOf_4
def wp_X1_copied (p1 : Int32) (p2 : Int32) (Φ : Int32 → Prop) : Prop :=
  (((p2 &&& (p1 ^^^ (-1))) = 0 → (wp_X7_leastOf (p1 &&& (p2 ^^^ (-1))) (fun r_23 => (Φ (p1 &&& (r_23 ^^^ (-1))))))) ∧ (¬ (p2 &&& (p1 ^^^ (-1))) = 0 → (wp_X7_leastOf (p2 &&& (p1 ^^^ (-1))) (fun r_12 => (Φ (p1 ||| r_12))))))
abbrev xrm_X1_copied : Room := { frames := 1, cells := 0, slots := 0, locals := 20 }
set_option maxRecDepth 100000 in
set_option maxHeartbeats 4000000 in
theorem c_X1_copied (l : Launch) (D : va_G) (cI cZ cO : ClassId) {a_marks : Nat} {people : Int32} {living : Int32} {shown : Int32} {spent : Int32} {days : Int32} {a_this : Nat} {p1 : Int32} {p2 : Int32} {Φ : Int32 → Prop} (hw : (wp_X1_copied p1 p2 Φ)) : Met l yX1_copied wsX1_copied xrm_X1_copied (xPR D cI cZ cO [.ref a_this, .int p1, .int p2] [(a_this, .inr (1, [.ref a_marks, .int people, .int living, .int shown, .int spent, .int days]))]) (vp_Si Φ) 0 0 (fun _ => False) := by
  refine Met.ofW (cc := cX1_copied) (maxL := 4) (ret := (some .int)) (by decide) rfl ?_
  intro p e s m args below meth c s₁ B hml hv
  obtain ⟨rfl, hP, hKK⟩ := hv
  have hx := B.exec
  have hb := B.bytes
  have hr := B.returns
  have hts := atoms_spec (ws := wsX1_copied) B.pre
  have hown : s.vm.findClass RX1 = some m.cls := findClass_of_methodNamed B.named
  have hlocks := B.notSynchronized
  obtain ⟨Q, hQ⟩ : ∃ Q, Q = MQ below (vp_Si Φ) ([.ref a_this, .int p1, .int p2] : List Value).toArray s 0 0 (fun _ => False) := ⟨_, rfl⟩
  rw [← hQ]
  have hl := lv_entry ([.ref a_this, .int p1, .int p2]) (n := 4) (Nat.le_of_ble_eq_true rfl)
  rw [lg_entry_eq]
  generalize (lg_sl ([.ref a_this, .int p1, .int p2]) ++ List.replicate (4 - (lg_sl ([.ref a_this, .int p1, .int p2])).length) Slot.unset).toArray = ls at hl ⊢
  have hl : lv_has ls 4 [(0, .ref a_this), (1, .int p1), (2, .int p2)] := hl
  generalize ([.ref a_this, .int p1, .int p2] : List Value).toArray = args at hts hQ ⊢
  have hP : va_P D vwCl [(a_this, .inr (1, [.ref a_marks, .int people, .int living, .int shown, .int spent, .int days]))] s.heap := hP
  clear B
  show W p l e xrm_X1_copied s m args below meth c s.heap [] 0 0 Q (F0 m 0 ls [])
  unfold wp_X1_copied at hw
  refine lv_iload_n hx hb dX1_copied_0 rfl (lv_at hl 2 rfl) ?_
  refine lv_iload_n hx hb dX1_copied_1 rfl (lv_at hl 1 rfl) ?_
  refine lv_iconst (v := (-1)) hx hb dX1_copied_2 (by decide) ?_
  refine lv_ixor hx hb dX1_copied_3 ?_
  refine lv_iand hx hb dX1_copied_4 ?_
  refine lv_istore_n (lv' := [(3, .int (p2 &&& (p1 ^^^ (-1)))), (0, .ref a_this), (1, .int p1), (2, .int p2)]) hx hb dX1_copied_5 rfl hl (by decide) rfl (fun ls hl => ?_)
  refine lv_iload_n hx hb dX1_copied_6 rfl (lv_at hl 0 rfl) ?_
  refine lv_if_eq (tgt := 17) hx hb dX1_copied_7 (by decide) (fun c_7 => ?_) (fun c_7 => ?_)
  · have hw := hw.1 c_7
    refine lv_iload_n hx hb dX1_copied_17 rfl (lv_at hl 2 rfl) ?_
    refine lv_iload_n hx hb dX1_copied_18 rfl (lv_at hl 2 rfl) ?_
    refine lv_iload_n hx hb dX1_copied_19 rfl (lv_at hl 3 rfl) ?_
    refine lv_iconst (v := (-1)) hx hb dX1_copied_20 (by decide) ?_
    refine lv_ixor hx hb dX1_copied_21 ?_
    refine lv_iand hx hb dX1_copied_22 ?_
    refine xcNi (As := [.int (p1 &&& (p2 ^^^ (-1)))]) (rest := [.int p1]) (wc := []) ⟨hx, hb, hml, hown, hts⟩ (c_X7_leastOf l D cI cZ cO hw) ⟨va_cnB 1 hts gX1_copied_X7_leastOf_n101 rfl rfl rfl (xn_17 hKK.2) (hts (.initialized RX7) (by decide +kernel)) (by decide +kernel) ⟨Nat.le_of_ble_eq_true rfl, Nat.le_of_ble_eq_true rfl⟩, hts (.static yX7_leastOf) (by decide +kernel), trivial⟩ hKK hP [] rfl rfl hl.1 rfl (Nat.le_of_ble_eq_true rfl) dX1_copied_23 ⟨Nat.zero_le _, Nat.zero_le _⟩ (fun r_23 hw => ?_)
    refine lv_iconst (v := (-1)) hx hb dX1_copied_26 (by decide) ?_
    refine lv_ixor hx hb dX1_copied_27 ?_
    refine lv_iand hx hb dX1_copied_28 ?_
    rw [hQ]
    exact W.iret (v := (p1 &&& (r_23 ^^^ (-1)))) hx hb hr (fun t ht _ => ⟨(p1 &&& (r_23 ^^^ (-1))), rfl, hw, ht⟩) (fun _ h => (List.not_mem_nil h).elim) dX1_copied_29
  · have hw := hw.2 c_7
    refine lv_iload_n hx hb dX1_copied_10 rfl (lv_at hl 2 rfl) ?_
    refine lv_iload_n hx hb dX1_copied_11 rfl (lv_at hl 0 rfl) ?_
    refine xcNi (As := [.int (p2 &&& (p1 ^^^ (-1)))]) (rest := [.int p1]) (wc := []) ⟨hx, hb, hml, hown, hts⟩ (c_X7_leastOf l D cI cZ cO hw) ⟨va_cnB 1 hts gX1_copied_X7_leastOf_n101 rfl rfl rfl (xn_17 hKK.2) (hts (.initialized RX7) (by decide +kernel)) (by decide +kernel) ⟨Nat.le_of_ble_eq_true rfl, Nat.le_of_ble_eq_true rfl⟩, hts (.static yX7_leastOf) (by decide +kernel), trivial⟩ hKK hP [] rfl rfl hl.1 rfl (Nat.le_of_ble_eq_true rfl) dX1_copied_12 ⟨Nat.zero_le _, Nat.zero_le _⟩ (fun r_12 hw => ?_)
    refine lv_ior hx hb dX1_copied_15 ?_
    rw [hQ]
    exact W.iret (v := (p1 ||| r_12)) hx hb hr (fun t ht _ => ⟨(p1 ||| r_12), rfl, hw, ht⟩) (fun _ h => (List.not_mem_nil h).elim) dX1_copied_16
def wk_X1_copyMarks_5 (Φ : (Nat → Int32) → Prop) (marks_5 : Nat → Int32) (x1_5 : Int32) (x2_5 : Int32) : Prop :=
  (Φ marks_5)
def wb_X1_copyMarks_5 (living : Int32) (K_5 : (Nat → Int32) → Int32 → Int32 → Prop) (rec_5 : (Nat → Int32) → Int32 → Int32 → Prop) (marks_5 : Nat → Int32) (x1_5 : Int32) (x2_5 : Int32) : Prop :=
  ((x2_5 < 0 → (K_5 marks_5 x1_5 x2_5)) ∧ (¬ x2_5 < 0 → (wp_X1_lives living x2_5 (fun r_11 => ((r_11 = 0 → (rec_5 marks_5 x1_5 (x2_5 + (-1)))) ∧ (¬ r_11 = 0 → ((x1_5 = (-1) → (rec_5 marks_5 x2_5 (x2_5 + (-1)))) ∧ (¬ x1_5 = (-1) → (wp_X7_at marks_5 8 x1_5 (fun r_33 => (wp_X7_at marks_5 8 x2_5 (fun r_41 => (wp_X1_copied r_33 r_41 (fun r_44 => (wp_X7_put marks_5 8 x1_5 r_44 (fun marks_47 => (rec_5 marks_47 x2_5 (x2_5 + (-1)))))))))))))))))))
def wp_X1_copyMarks (living : Int32) (marks : Nat → Int32) (Φ : (Nat → Int32) → Prop) : Prop :=
  (∃ n : Nat, xit3 (wb_X1_copyMarks_5 living (wk_X1_copyMarks_5 Φ)) n marks (-1) 7)
abbrev xrm_X1_copyMarks : Room := { frames := 2, cells := 0, slots := 0, locals := 43 }
set_option maxRecDepth 100000 in
set_option maxHeartbeats 4000000 in
theorem c_X1_copyMarks (l : Launch) (D : va_G) (cI cZ cO : ClassId) {a_marks : Nat} {people : Int32} {living : Int32} {shown : Int32} {spent : Int32} {days : Int32} {a_this : Nat} {marks : Nat → Int32} {Φ : (Nat → Int32) → Prop} {sz : Nat} (hw : (wp_X1_copyMarks living marks Φ)) : Met l yX1_copyMarks wsX1_copyMarks xrm_X1_copyMarks (xPW D cI cZ cO [.ref a_this] sz [(a_this, .inr (1, [.ref a_marks, .int people, .int living, .int shown, .int spent, .int days])), (a_marks, .inl (cI, 8, .inl marks))]) (va_Qv (fun (u : (Nat → Int32)) => Φ u) (xB D (va_A [(a_this, .inr (1, [.ref a_marks, .int people, .int living, .int shown, .int spent, .int days])), (a_marks, .inl (cI, 8, .inl marks))] sz) (fun (u : (Nat → Int32)) => [(a_this, .inr (1, [.ref a_marks, .int people, .int living, .int shown, .int spent, .int days])), (a_marks, .inl (cI, 8, .inl u))])) (va_A [(a_this, .inr (1, [.ref a_marks, .int people, .int living, .int shown, .int spent, .int days])), (a_marks, .inl (cI, 8, .inl marks))] sz)) 0 0 (va_A [(a_this, .inr (1, [.ref a_marks, .int people, .int living, .int shown, .int spent, .int days])), (a_marks, .inl (cI, 8, .inl marks))] sz) := by
  refine Met.ofW (cc := cX1_copyMarks) (maxL := 3) (ret := none) (by decide) rfl ?_
  intro p e s m args below meth c s₁ B hml hv
  obtain ⟨rfl, hsz, hP, hKK, hD0⟩ := hv
  have hx := B.exec
  have hb := B.bytes
  have hr := B.returns
  have hts := atoms_spec (ws := wsX1_copyMarks) B.pre
  have hown : s.vm.findClass RX1 = some m.cls := findClass_of_methodNamed B.named
  have hlocks := B.notSynchronized
  subst hsz
  have hD := hD0.self (sz := s.heap.size)
  obtain ⟨Q, hQ⟩ : ∃ Q, Q = MQ below (va_Qv (fun (u : (Nat → Int32)) => Φ u) (xB D (va_A [(a_this, .inr (1, [.ref a_marks, .int people, .int living, .int shown, .int spent, .int days])), (a_marks, .inl (cI, 8, .inl marks))] s.heap.size) (fun (u : (Nat → Int32)) => [(a_this, .inr (1, [.ref a_marks, .int people, .int living, .int shown, .int spent, .int days])), (a_marks, .inl (cI, 8, .inl u))])) (va_A [(a_this, .inr (1, [.ref a_marks, .int people, .int living, .int shown, .int spent, .int days])), (a_marks, .inl (cI, 8, .inl marks))] s.heap.size)) ([.ref a_this] : List Value).toArray s 0 0 (va_A [(a_this, .inr (1, [.ref a_marks, .int people, .int living, .int shown, .int spent, .int days])), (a_marks, .inl (cI, 8, .inl marks))] s.heap.size) := ⟨_, rfl⟩
  rw [← hQ]
  generalize hAe : va_A [(a_this, .inr (1, [.ref a_marks, .int people, .int living, .int shown, .int spent, .int days])), (a_marks, .inl (cI, 8, .inl marks))] s.heap.size = A at hD hQ
  have hA : ∀ q : Nat, s.heap.size ≤ q → A q := fun q h => by rw [← hAe]; exact Or.inr h
  have hS : va_S A s.heap s.heap [] := va_S.rf
  have hl := lv_entry ([.ref a_this]) (n := 3) (Nat.le_of_ble_eq_true rfl)
  rw [lg_entry_eq]
  generalize (lg_sl ([.ref a_this]) ++ List.replicate (3 - (lg_sl ([.ref a_this])).length) Slot.unset).toArray = ls at hl ⊢
  have hl : lv_has ls 3 [(0, .ref a_this)] := hl
  generalize ([.ref a_this] : List Value).toArray = args at hts hQ ⊢
  have hP : va_P D vwCl [(a_this, .inr (1, [.ref a_marks, .int people, .int living, .int shown, .int spent, .int days])), (a_marks, .inl (cI, 8, .inl marks))] s.heap := hP
  have hinX1 : ∀ w ∈ u_ws RX1 TX1 6, w ∈ wsX1_copyMarks := by decide +kernel
  have fl_9 := hts (.fieldLink RX1 9 "DoubleChain$Chain" "marks" "[I") (by decide +kernel)
  clear B
  show W p l e xrm_X1_copyMarks s m args below meth c s.heap [] 0 0 Q (F0 m 0 ls [])
  unfold wp_X1_copyMarks at hw
  refine lv_iconst (v := (-1)) hx hb dX1_copyMarks_0 (by decide) ?_
  refine lv_istore_n (lv' := [(1, .int (-1)), (0, .ref a_this)]) hx hb dX1_copyMarks_1 rfl hl (by decide) rfl (fun ls hl => ?_)
  refine lv_bipush (v := 7) hx hb dX1_copyMarks_2 (by decide) ?_
  refine lv_istore_n (lv' := [(2, .int 7), (1, .int (-1)), (0, .ref a_this)]) hx hb dX1_copyMarks_4 rfl hl (by decide) rfl (fun ls hl => ?_)
  have EX_5 : ∀ (marks_5 : Nat → Int32) (x1_5 : Int32) (x2_5 : Int32), ∀ (H : Heap) (locs : List Loc), va_P D vwCl [(a_this, .inr (1, [.ref a_marks, .int people, .int living, .int shown, .int spent, .int days])), (a_marks, .inl (cI, 8, .inl marks_5))] H → va_D A [(a_this, .inr (1, [.ref a_marks, .int people, .int living, .int shown, .int spent, .int days])), (a_marks, .inl (cI, 8, .inl marks_5))] → va_S A s.heap H locs → ∀ (ls : Array Slot), lv_has ls 3 [(0, .ref a_this), (1, .int x1_5), (2, .int x2_5)] → (wk_X1_copyMarks_5 Φ marks_5 x1_5 x2_5) → W p l e xrm_X1_copyMarks s m args below meth c H locs 0 0 Q (F0 m 58 ls []) := by
    intro marks_5 x1_5 x2_5 H locs hP hD hS ls hl hw
    unfold wk_X1_copyMarks_5 at hw
    rw [hQ]
    exact W.vret hx hb hr (fun t ht _ => ⟨⟨marks_5, rfl, hw, by rw [ht]; exact hP, hD⟩, hS.F ht⟩) hS.2.2 dX1_copyMarks_58
  generalize (wk_X1_copyMarks_5 Φ) = K_5 at EX_5 hw
  have LP_5 : ∀ n : Nat, ∀ (marks_5 : Nat → Int32) (x1_5 : Int32) (x2_5 : Int32), ∀ (H : Heap) (locs : List Loc), va_P D vwCl [(a_this, .inr (1, [.ref a_marks, .int people, .int living, .int shown, .int spent, .int days])), (a_marks, .inl (cI, 8, .inl marks_5))] H → va_D A [(a_this, .inr (1, [.ref a_marks, .int people, .int living, .int shown, .int spent, .int days])), (a_marks, .inl (cI, 8, .inl marks_5))] → va_S A s.heap H locs → ∀ (ls : Array Slot), lv_has ls 3 [(0, .ref a_this), (1, .int x1_5), (2, .int x2_5)] → xit3 (wb_X1_copyMarks_5 living K_5) n marks_5 x1_5 x2_5 → W p l e xrm_X1_copyMarks s m args below meth c H locs 0 0 Q (F0 m 5 ls []) := by
    intro n
    induction n with
    | zero => intro marks_5 x1_5 x2_5 H locs hP hD hS ls hl hw; exact (show False from hw).elim
    | succ n ih =>
      intro marks_5 x1_5 x2_5 H locs hP hD hS ls hl hw
      have hw : wb_X1_copyMarks_5 living K_5 (xit3 (wb_X1_copyMarks_5 living K_5) n) marks_5 x1_5 x2_5 := hw
      generalize xit3 (wb_X1_copyMarks_5 living K_5) n = rec_5 at ih hw
      unfold wb_X1_copyMarks_5 at hw
      refine lv_iload_n hx hb dX1_copyMarks_5 rfl (lv_at hl 2 rfl) ?_
      refine lv_if_lt (tgt := 58) hx hb dX1_copyMarks_6 (by decide) (fun c_6 => ?_) (fun c_6 => ?_)
      · have hw := hw.1 c_6
        exact EX_5 _ _ _ _ _ hP hD hS ls (lv_sub hl [0, 1, 2] rfl) hw
      · have hw := hw.2 c_6
        refine lv_aload_n hx hb dX1_copyMarks_9 rfl (lv_at hl 0 rfl) ?_
        refine lv_iload_n hx hb dX1_copyMarks_10 rfl (lv_at hl 2 rfl) ?_
        refine xcVi (q0 := 0) (ci := 1) (As := [.int x2_5]) (rest := []) (wc := [(a_this, .inr (1, [.ref a_marks, .int people, .int living, .int shown, .int spent, .int days]))]) ⟨hx, hb, hml, hown, hts⟩ (c_X1_lives l D cI cZ cO hw) (cwV 1 hts gX1_copyMarks_X1_lives rfl rfl rfl (by decide +kernel) ⟨Nat.le_of_ble_eq_true rfl, Nat.le_of_ble_eq_true rfl⟩) hKK hP [0] rfl rfl rfl rfl hl.1 rfl (Nat.le_of_ble_eq_true rfl) dX1_copyMarks_11 ⟨Nat.zero_le _, Nat.zero_le _⟩ (fun r_11 hw => ?_)
        refine lv_if_eq (tgt := 52) hx hb dX1_copyMarks_14 (by decide) (fun c_14 => ?_) (fun c_14 => ?_)
        · have hw := hw.1 c_14
          refine lv_iinc (v := (x2_5 + (-1))) (lv' := [(2, .int (x2_5 + (-1))), (0, .ref a_this), (1, .int x1_5)]) hx hb dX1_copyMarks_52 hl (k := 2) rfl (by rfl) (by decide) rfl (fun ls hl => ?_)
          refine lv_goto (tgt := 5) hx hb dX1_copyMarks_55 (by decide) ?_
          exact ih _ _ _ _ _ hP hD hS ls (lv_sub hl [1, 2, 0] rfl) hw
        · have hw := hw.2 c_14
          refine lv_iload_n hx hb dX1_copyMarks_17 rfl (lv_at hl 1 rfl) ?_
          refine lv_iconst (v := (-1)) hx hb dX1_copyMarks_18 (by decide) ?_
          refine lv_icmp_eq (tgt := 50) hx hb dX1_copyMarks_19 (by decide) (fun c_19 => ?_) (fun c_19 => ?_)
          · have hw := hw.1 c_19
            refine lv_iload_n hx hb dX1_copyMarks_50 rfl (lv_at hl 2 rfl) ?_
            refine lv_istore_n (lv' := [(1, .int x2_5), (0, .ref a_this), (2, .int x2_5)]) hx hb dX1_copyMarks_51 rfl hl (by decide) rfl (fun ls hl => ?_)
            refine lv_iinc (v := (x2_5 + (-1))) (lv' := [(2, .int (x2_5 + (-1))), (1, .int x2_5), (0, .ref a_this)]) hx hb dX1_copyMarks_52 hl (k := 2) rfl (by rfl) (by decide) rfl (fun ls hl => ?_)
            refine lv_goto (tgt := 5) hx hb dX1_copyMarks_55 (by decide) ?_
            exact ih _ _ _ _ _ hP hD hS ls (lv_sub hl [2, 1, 0] rfl) hw
          · have hw := hw.2 c_19
            refine lv_aload_n hx hb dX1_copyMarks_22 rfl (lv_at hl 0 rfl) ?_
            refine va_get (D := D) (ci := 1) (v := .ref a_marks) (C := RX1) (T := TX1) (N := 6) hx hb hts hinX1 hown hKK.1 hP 0 rfl rfl 0 (by decide) fl_9 (fun _ h9 => h9) rfl dX1_copyMarks_23 ?_
            refine lv_iload_n hx hb dX1_copyMarks_26 rfl (lv_at hl 1 rfl) ?_
            refine lv_aload_n hx hb dX1_copyMarks_27 rfl (lv_at hl 0 rfl) ?_
            refine lv_aload_n hx hb dX1_copyMarks_28 rfl (lv_at hl 0 rfl) ?_
            refine va_get (D := D) (ci := 1) (v := .ref a_marks) (C := RX1) (T := TX1) (N := 6) hx hb hts hinX1 hown hKK.1 hP 0 rfl rfl 0 (by decide) fl_9 (fun _ h9 => h9) rfl dX1_copyMarks_29 ?_
            refine lv_iload_n hx hb dX1_copyMarks_32 rfl (lv_at hl 1 rfl) ?_
            refine xcNi (As := [.ref a_marks, .int x1_5]) (rest := [.ref a_this, .int x1_5, .ref a_marks]) (wc := [(a_marks, .inl (cI, 8, .inl marks_5))]) ⟨hx, hb, hml, hown, hts⟩ (c_X7_at l D cI cZ cO hw) ⟨va_cnB 2 hts gX1_copyMarks_X7_at_n39 rfl rfl rfl (xn_12 hKK.2) (hts (.initialized RX7) (by decide +kernel)) (by decide +kernel) ⟨Nat.le_of_ble_eq_true rfl, Nat.le_of_ble_eq_true rfl⟩, hts (.static yX7_at) (by decide +kernel), trivial⟩ hKK hP [1] rfl rfl hl.1 rfl (Nat.le_of_ble_eq_true rfl) dX1_copyMarks_33 ⟨Nat.zero_le _, Nat.zero_le _⟩ (fun r_33 hw => ?_)
            refine lv_aload_n hx hb dX1_copyMarks_36 rfl (lv_at hl 0 rfl) ?_
            refine va_get (D := D) (ci := 1) (v := .ref a_marks) (C := RX1) (T := TX1) (N := 6) hx hb hts hinX1 hown hKK.1 hP 0 rfl rfl 0 (by decide) fl_9 (fun _ h9 => h9) rfl dX1_copyMarks_37 ?_
            refine lv_iload_n hx hb dX1_copyMarks_40 rfl (lv_at hl 2 rfl) ?_
            refine xcNi (As := [.ref a_marks, .int x2_5]) (rest := [.int r_33, .ref a_this, .int x1_5, .ref a_marks]) (wc := [(a_marks, .inl (cI, 8, .inl marks_5))]) ⟨hx, hb, hml, hown, hts⟩ (c_X7_at l D cI cZ cO hw) ⟨va_cnB 2 hts gX1_copyMarks_X7_at_n39 rfl rfl rfl (xn_12 hKK.2) (hts (.initialized RX7) (by decide +kernel)) (by decide +kernel) ⟨Nat.le_of_ble_eq_true rfl, Nat.le_of_ble_eq_true rfl⟩, hts (.static yX7_at) (by decide +kernel), trivial⟩ hKK hP [1] rfl rfl hl.1 rfl (Nat.le_of_ble_eq_true rfl) dX1_copyMarks_41 ⟨Nat.zero_le _, Nat.zero_le _⟩ (fun r_41 hw => ?_)
            refine xcVi (q0 := 0) (ci := 1) (As := [.int r_33, .int r_41]) (rest := [.int x1_5, .ref a_marks]) (wc := [(a_this, .inr (1, [.ref a_marks, .int people, .int living, .int shown, .int spent, .int days]))]) ⟨hx, hb, hml, hown, hts⟩ (c_X1_copied l D cI cZ cO hw) (cwV 2 hts gX1_copyMarks_X1_copied rfl rfl rfl (by decide +kernel) ⟨Nat.le_of_ble_eq_true rfl, Nat.le_of_ble_eq_true rfl⟩) hKK hP [0] rfl rfl rfl rfl hl.1 rfl (Nat.le_of_ble_eq_true rfl) dX1_copyMarks_44 ⟨Nat.zero_le _, Nat.zero_le _⟩ (fun r_44 hw => ?_)
            refine xwNv (wr := [(a_this, .inr (1, [.ref a_marks, .int people, .int living, .int shown, .int spent, .int days]))]) (As := [.ref a_marks, .int x1_5, .int r_44]) (rest := []) (wc := [(a_marks, .inl (cI, 8, .inl marks_5))]) (fun (u : (Nat → Int32)) => [(a_this, .inr (1, [.ref a_marks, .int people, .int living, .int shown, .int spent, .int days])), (a_marks, .inl (cI, 8, .inl u))]) ⟨hx, hb, hml, hown, hts⟩ (c_X7_put l D cI cZ cO hw) ⟨va_cnB 3 hts gX1_copyMarks_X7_put_n43 rfl rfl rfl (xn_13 hKK.2) (hts (.initialized RX7) (by decide +kernel)) (by decide +kernel) ⟨Nat.le_of_ble_eq_true rfl, Nat.le_of_ble_eq_true rfl⟩, hts (.static yX7_put) (by decide +kernel), trivial⟩ hKK hP hD hS hA [1] [0] [0, 1] rfl rfl rfl rfl rfl (by decide) (fun _ => rfl) rfl hl.1 rfl (Nat.le_of_ble_eq_true rfl) dX1_copyMarks_47 ⟨Nat.zero_le _, Nat.zero_le _⟩ (fun marks_47 H locs hw hP hD hS => ?_)
            have hP : va_P D vwCl [(a_this, .inr (1, [.ref a_marks, .int people, .int living, .int shown, .int spent, .int days])), (a_marks, .inl (cI, 8, .inl marks_47))] H := hP
            have hD : va_D A [(a_this, .inr (1, [.ref a_marks, .int people, .int living, .int shown, .int spent, .int days])), (a_marks, .inl (cI, 8, .inl marks_47))] := hD
            refine lv_iload_n hx hb dX1_copyMarks_50 rfl (lv_at hl 2 rfl) ?_
            refine lv_istore_n (lv' := [(1, .int x2_5), (0, .ref a_this), (2, .int x2_5)]) hx hb dX1_copyMarks_51 rfl hl (by decide) rfl (fun ls hl => ?_)
            refine lv_iinc (v := (x2_5 + (-1))) (lv' := [(2, .int (x2_5 + (-1))), (1, .int x2_5), (0, .ref a_this)]) hx hb dX1_copyMarks_52 hl (k := 2) rfl (by rfl) (by decide) rfl (fun ls hl => ?_)
            refine lv_goto (tgt := 5) hx hb dX1_copyMarks_55 (by decide) ?_
            exact ih _ _ _ _ _ hP hD hS ls (lv_sub hl [2, 1, 0] rfl) hw
  obtain ⟨n, hw⟩ := hw
  exact LP_5 n _ _ _ _ _ hP hD hS ls (lv_sub hl [2, 1, 0] rfl) hw
def wk_X1_passDay_38 (living : Int32) (days : Int32) (marks : Nat → Int32) (Φ : (Nat → Int32) → Int32 → Int32 → Int32 → Prop) (shown_27 : Int32) (spent_38 : Int32) (x4_38 : Int32) : Prop :=
  (wp_X1_copyMarks living marks (fun marks_71 => (Φ marks_71 (days + 1) spent_38 shown_27)))
def wb_X1_passDay_38 (p1_pay : Int32) (r_31 : Int32) (K_38 : Int32 → Int32 → Prop) (rec_38 : Int32 → Int32 → Prop) (spent_38 : Int32) (x4_38 : Int32) : Prop :=
  ((r_31 ≤ x4_38 → (K_38 spent_38 x4_38)) ∧ (¬ r_31 ≤ x4_38 → (wp_X2_payAt p1_pay x4_38 (fun r_54 => (rec_38 (if (spent_38 + r_54) < 999999 then (spent_38 + r_54) else 999999) (x4_38 + 1))))))
def wj_X1_passDay_27 (living : Int32) (spent : Int32) (days : Int32) (p1_pay : Int32) (marks : Nat → Int32) (Φ : (Nat → Int32) → Int32 → Int32 → Int32 → Prop) (x2_27 : Int32) (shown_27 : Int32) : Prop :=
  (wp_J6_bitCount_0f7a4 living (fun r_31 => (∃ n : Nat, xit2 (wb_X1_passDay_38 p1_pay r_31 (wk_X1_passDay_38 living days marks Φ shown_27)) n spent 0)))
def wp_X1_passDay (living : Int32) (shown : Int32) (spent : Int32) (days : Int32) (p1_pay : Int32) (p1_days : Int32) (p1_weathers : Nat → Int32) (p1_hours : Nat → Int32) (p1_dangers : Nat → Int32) (p1_inWeathers : Nat → Int32) (p1_inHours : Nat → Int32) (p1_fears : Nat → Int32) (marks : Nat → Int32) (Φ : (Nat → Int32) → Int32 → Int32 → Int32 → Prop) : Prop :=
  (wp_X1_seenOn living p1_days p1_weathers p1_hours p1_dangers p1_inWeathers p1_inHours p1_fears days (fun r_6 => ((r_6 = (-1) → (wj_X1_passDay_27 living spent days p1_pay marks Φ r_6 shown)) ∧ (¬ r_6 = (-1) → (wj_X1_passDay_27 living spent days p1_pay marks Φ r_6 (shown ||| ((1 : Int32) <<< (r_6 &&& 31))))))))
abbrev xrm_X1_passDay : Room := { frames := 4, cells := 0, slots := 0, locals := 92 }
set_option maxRecDepth 100000 in
set_option maxHeartbeats 4000000 in
theorem c_X1_passDay (l : Launch) (D : va_G) (cI cZ cO : ClassId) {a_marks : Nat} {people : Int32} {living : Int32} {shown : Int32} {spent : Int32} {days : Int32} {a_this : Nat} {a_p1_marks : Nat} {a_p1_inWeathers : Nat} {a_p1_inHours : Nat} {a_p1_fears : Nat} {a_p1_weathers : Nat} {a_p1_hours : Nat} {a_p1_dangers : Nat} {p1_pay : Int32} {p1_people : Int32} {p1_days : Int32} {a_p1 : Nat} {p1_weathers : Nat → Int32} {p1_hours : Nat → Int32} {p1_dangers : Nat → Int32} {p1_inWeathers : Nat → Int32} {p1_inHours : Nat → Int32} {p1_fears : Nat → Int32} {marks : Nat → Int32} {Φ : (Nat → Int32) → Int32 → Int32 → Int32 → Prop} {sz : Nat} (hw : (wp_X1_passDay living shown spent days p1_pay p1_days p1_weathers p1_hours p1_dangers p1_inWeathers p1_inHours p1_fears marks Φ)) : Met l yX1_passDay wsX1_passDay xrm_X1_passDay (xPW D cI cZ cO [.ref a_this, .ref a_p1] sz [(a_this, .inr (1, [.ref a_marks, .int people, .int living, .int shown, .int spent, .int days])), (a_p1, .inr (2, [.ref a_p1_marks, .ref a_p1_inWeathers, .ref a_p1_inHours, .ref a_p1_fears, .ref a_p1_weathers, .ref a_p1_hours, .ref a_p1_dangers, .int p1_pay, .int p1_people, .int p1_days])), (a_p1_weathers, .inl (cI, 10, .inl p1_weathers)), (a_p1_hours, .inl (cI, 10, .inl p1_hours)), (a_p1_dangers, .inl (cI, 10, .inl p1_dangers)), (a_p1_inWeathers, .inl (cI, 8, .inl p1_inWeathers)), (a_p1_inHours, .inl (cI, 8, .inl p1_inHours)), (a_p1_fears, .inl (cI, 8, .inl p1_fears)), (a_marks, .inl (cI, 8, .inl marks))]) (va_Qv (fun (u : (Nat → Int32) × Int32 × Int32 × Int32) => Φ u.1 u.2.1 u.2.2.1 u.2.2.2) (xB D (va_A [(a_this, .inr (1, [.ref a_marks, .int people, .int living, .int shown, .int spent, .int days])), (a_p1, .inr (2, [.ref a_p1_marks, .ref a_p1_inWeathers, .ref a_p1_inHours, .ref a_p1_fears, .ref a_p1_weathers, .ref a_p1_hours, .ref a_p1_dangers, .int p1_pay, .int p1_people, .int p1_days])), (a_p1_weathers, .inl (cI, 10, .inl p1_weathers)), (a_p1_hours, .inl (cI, 10, .inl p1_hours)), (a_p1_dangers, .inl (cI, 10, .inl p1_dangers)), (a_p1_inWeathers, .inl (cI, 8, .inl p1_inWeathers)), (a_p1_inHours, .inl (cI, 8, .inl p1_inHours)), (a_p1_fears, .inl (cI, 8, .inl p1_fears)), (a_marks, .inl (cI, 8, .inl marks))] sz) (fun (u : (Nat → Int32) × Int32 × Int32 × Int32) => [(a_this, .inr (1, [.ref a_marks, .int people, .int living, .int u.2.2.2, .int u.2.2.1, .int u.2.1])), (a_p1, .inr (2, [.ref a_p1_marks, .ref a_p1_inWeathers, .ref a_p1_inHours, .ref a_p1_fears, .ref a_p1_weathers, .ref a_p1_hours, .ref a_p1_dangers, .int p1_pay, .int p1_people, .int p1_days])), (a_p1_weathers, .inl (cI, 10, .inl p1_weathers)), (a_p1_hours, .inl (cI, 10, .inl p1_hours)), (a_p1_dangers, .inl (cI, 10, .inl p1_dangers)), (a_p1_inWeathers, .inl (cI, 8, .inl p1_inWeathers)), (a_p1_inHours, .inl (cI, 8, .inl p1_inHours)), (a_p1_fears, .inl (cI, 8, .inl p1_fears)), (a_marks, .inl (cI, 8, .inl u.1))])) (va_A [(a_this, .inr (1, [.ref a_marks, .int people, .int living, .int shown, .int spent, .int days])), (a_p1, .inr (2, [.ref a_p1_marks, .ref a_p1_inWeathers, .ref a_p1_inHours, .ref a_p1_fears, .ref a_p1_weathers, .ref a_p1_hours, .ref a_p1_dangers, .int p1_pay, .int p1_people, .int p1_days])), (a_p1_weathers, .inl (cI, 10, .inl p1_weathers)), (a_p1_hours, .inl (cI, 10, .inl p1_hours)), (a_p1_dangers, .inl (cI, 10, .inl p1_dangers)), (a_p1_inWeathers, .inl (cI, 8, .inl p1_inWeathers)), (a_p1_inHours, .inl (cI, 8, .inl p1_inHours)), (a_p1_fears, .inl (cI, 8, .inl p1_fears)), (a_marks, .inl (cI, 8, .inl marks))] sz)) 0 0 (va_A [(a_this, .inr (1, [.ref a_marks, .int people, .int living, .int shown, .int spent, .int days])), (a_p1, .inr (2, [.ref a_p1_marks, .ref a_p1_inWeathers, .ref a_p1_inHours, .ref a_p1_fears, .ref a_p1_weathers, .ref a_p1_hours, .ref a_p1_dangers, .int p1_pay, .int p1_people, .int p1_days])), (a_p1_weathers, .inl (cI, 10, .inl p1_weathers)), (a_p1_hours, .inl (cI, 10, .inl p1_hours)), (a_p1_dangers, .inl (cI, 10, .inl p1_dangers)), (a_p1_inWeathers, .inl (cI, 8, .inl p1_inWeathers)), (a_p1_inHours, .inl (cI, 8, .inl p1_inHours)), (a_p1_fears, .inl (cI, 8, .inl p1_fears)), (a_marks, .inl (cI, 8, .inl marks))] sz) := by
  refine Met.ofW (cc := cX1_passDay) (maxL := 5) (ret := none) (by decide) rfl ?_
  intro p e s m args below meth c s₁ B hml hv
  obtain ⟨rfl, hsz, hP, hKK, hD0⟩ := hv
  have hx := B.exec
  have hb := B.bytes
  have hr := B.returns
  have hts := atoms_spec (ws := wsX1_passDay) B.pre
  have hown : s.vm.findClass RX1 = some m.cls := findClass_of_methodNamed B.named
  have hlocks := B.notSynchronized
  subst hsz
  have hD := hD0.self (sz := s.heap.size)
  obtain ⟨Q, hQ⟩ : ∃ Q, Q = MQ below (va_Qv (fun (u : (Nat → Int32) × Int32 × Int32 × Int32) => Φ u.1 u.2.1 u.2.2.1 u.2.2.2) (xB D (va_A [(a_this, .inr (1, [.ref a_marks, .int people, .int living, .int shown, .int spent, .int days])), (a_p1, .inr (2, [.ref a_p1_marks, .ref a_p1_inWeathers, .ref a_p1_inHours, .ref a_p1_fears, .ref a_p1_weathers, .ref a_p1_hours, .ref a_p1_dangers, .int p1_pay, .int p1_people, .int p1_days])), (a_p1_weathers, .inl (cI, 10, .inl p1_weathers)), (a_p1_hours, .inl (cI, 10, .inl p1_hours)), (a_p1_dangers, .inl (cI, 10, .inl p1_dangers)), (a_p1_inWeathers, .inl (cI, 8, .inl p1_inWeathers)), (a_p1_inHours, .inl (cI, 8, .inl p1_inHours)), (a_p1_fears, .inl (cI, 8, .inl p1_fears)), (a_marks, .inl (cI, 8, .inl marks))] s.heap.size) (fun (u : (Nat → Int32) × Int32 × Int32 × Int32) => [(a_this, .inr (1, [.ref a_marks, .int people, .int living, .int u.2.2.2, .int u.2.2.1, .int u.2.1])), (a_p1, .inr (2, [.ref a_p1_marks, .ref a_p1_inWeathers, .ref a_p1_inHours, .ref a_p1_fears, .ref a_p1_weathers, .ref a_p1_hours, .ref a_p1_dangers, .int p1_pay, .int p1_people, .int p1_days])), (a_p1_weathers, .inl (cI, 10, .inl p1_weathers)), (a_p1_hours, .inl (cI, 10, .inl p1_hours)), (a_p1_dangers, .inl (cI, 10, .inl p1_dangers)), (a_p1_inWeathers, .inl (cI, 8, .inl p1_inWeathers)), (a_p1_inHours, .inl (cI, 8, .inl p1_inHours)), (a_p1_fears, .inl (cI, 8, .inl p1_fears)), (a_marks, .inl (cI, 8, .inl u.1))])) (va_A [(a_this, .inr (1, [.ref a_marks, .int people, .int living, .int shown, .int spent, .int days])), (a_p1, .inr (2, [.ref a_p1_marks, .ref a_p1_inWeathers, .ref a_p1_inHours, .ref a_p1_fears, .ref a_p1_weathers, .ref a_p1_hours, .ref a_p1_dangers, .int p1_pay, .int p1_people, .int p1_days])), (a_p1_weathers, .inl (cI, 10, .inl p1_weathers)), (a_p1_hours, .inl (cI, 10, .inl p1_hours)), (a_p1_dangers, .inl (cI, 10, .inl p1_dangers)), (a_p1_inWeathers, .inl (cI, 8, .inl p1_inWeathers)), (a_p1_inHours, .inl (cI, 8, .inl p1_inHours)), (a_p1_fears, .inl (cI, 8, .inl p1_fears)), (a_marks, .inl (cI, 8, .inl marks))] s.heap.size)) ([.ref a_this, .ref a_p1] : List Value).toArray s 0 0 (va_A [(a_this, .inr (1, [.ref a_marks, .int people, .int living, .int shown, .int spent, .int days])), (a_p1, .inr (2, [.ref a_p1_marks, .ref a_p1_inWeathers, .ref a_p1_inHours, .ref a_p1_fears, .ref a_p1_weathers, .ref a_p1_hours, .ref a_p1_dangers, .int p1_pay, .int p1_people, .int p1_days])), (a_p1_weathers, .inl (cI, 10, .inl p1_weathers)), (a_p1_hours, .inl (cI, 10, .inl p1_hours)), (a_p1_dangers, .inl (cI, 10, .inl p1_dangers)), (a_p1_inWeathers, .inl (cI, 8, .inl p1_inWeathers)), (a_p1_inHours, .inl (cI, 8, .inl p1_inHours)), (a_p1_fears, .inl (cI, 8, .inl p1_fears)), (a_marks, .inl (cI, 8, .inl marks))] s.heap.size) := ⟨_, rfl⟩
  rw [← hQ]
  generalize hAe : va_A [(a_this, .inr (1, [.ref a_marks, .int people, .int living, .int shown, .int spent, .int days])), (a_p1, .inr (2, [.ref a_p1_marks, .ref a_p1_inWeathers, .ref a_p1_inHours, .ref a_p1_fears, .ref a_p1_weathers, .ref a_p1_hours, .ref a_p1_dangers, .int p1_pay, .int p1_people, .int p1_days])), (a_p1_weathers, .inl (cI, 10, .inl p1_weathers)), (a_p1_hours, .inl (cI, 10, .inl p1_hours)), (a_p1_dangers, .inl (cI, 10, .inl p1_dangers)), (a_p1_inWeathers, .inl (cI, 8, .inl p1_inWeathers)), (a_p1_inHours, .inl (cI, 8, .inl p1_inHours)), (a_p1_fears, .inl (cI, 8, .inl p1_fears)), (a_marks, .inl (cI, 8, .inl marks))] s.heap.size = A at hD hQ
  have hA : ∀ q : Nat, s.heap.size ≤ q → A q := fun q h => by rw [← hAe]; exact Or.inr h
  have hS : va_S A s.heap s.heap [] := va_S.rf
  have hl := lv_entry ([.ref a_this, .ref a_p1]) (n := 5) (Nat.le_of_ble_eq_true rfl)
  rw [lg_entry_eq]
  generalize (lg_sl ([.ref a_this, .ref a_p1]) ++ List.replicate (5 - (lg_sl ([.ref a_this, .ref a_p1])).length) Slot.unset).toArray = ls at hl ⊢
  have hl : lv_has ls 5 [(0, .ref a_this), (1, .ref a_p1)] := hl
  generalize ([.ref a_this, .ref a_p1] : List Value).toArray = args at hts hQ ⊢
  have hP : va_P D vwCl [(a_this, .inr (1, [.ref a_marks, .int people, .int living, .int shown, .int spent, .int days])), (a_p1, .inr (2, [.ref a_p1_marks, .ref a_p1_inWeathers, .ref a_p1_inHours, .ref a_p1_fears, .ref a_p1_weathers, .ref a_p1_hours, .ref a_p1_dangers, .int p1_pay, .int p1_people, .int p1_days])), (a_p1_weathers, .inl (cI, 10, .inl p1_weathers)), (a_p1_hours, .inl (cI, 10, .inl p1_hours)), (a_p1_dangers, .inl (cI, 10, .inl p1_dangers)), (a_p1_inWeathers, .inl (cI, 8, .inl p1_inWeathers)), (a_p1_inHours, .inl (cI, 8, .inl p1_inHours)), (a_p1_fears, .inl (cI, 8, .inl p1_fears)), (a_marks, .inl (cI, 8, .inl marks))] s.heap := hP
  have hinX1 : ∀ w ∈ u_ws RX1 TX1 6, w ∈ wsX1_passDay := by decide +kernel
  have fl_19 := hts (.fieldLink RX1 19 "DoubleChain$Chain" "living" "I") (by decide +kernel)
  have fl_22 := hts (.fieldLink RX1 22 "DoubleChain$Chain" "shown" "I") (by decide +kernel)
  have fl_25 := hts (.fieldLink RX1 25 "DoubleChain$Chain" "spent" "I") (by decide +kernel)
  have fl_28 := hts (.fieldLink RX1 28 "DoubleChain$Chain" "days" "I") (by decide +kernel)
  clear B
  show W p l e xrm_X1_passDay s m args below meth c s.heap [] 0 0 Q (F0 m 0 ls [])
  unfold wp_X1_passDay at hw
  have JN_27 : ∀ (x2_27 : Int32) (shown_27 : Int32), ∀ (H : Heap) (locs : List Loc), va_P D vwCl [(a_this, .inr (1, [.ref a_marks, .int people, .int living, .int shown_27, .int spent, .int days])), (a_p1, .inr (2, [.ref a_p1_marks, .ref a_p1_inWeathers, .ref a_p1_inHours, .ref a_p1_fears, .ref a_p1_weathers, .ref a_p1_hours, .ref a_p1_dangers, .int p1_pay, .int p1_people, .int p1_days])), (a_p1_weathers, .inl (cI, 10, .inl p1_weathers)), (a_p1_hours, .inl (cI, 10, .inl p1_hours)), (a_p1_dangers, .inl (cI, 10, .inl p1_dangers)), (a_p1_inWeathers, .inl (cI, 8, .inl p1_inWeathers)), (a_p1_inHours, .inl (cI, 8, .inl p1_inHours)), (a_p1_fears, .inl (cI, 8, .inl p1_fears)), (a_marks, .inl (cI, 8, .inl marks))] H → va_D A [(a_this, .inr (1, [.ref a_marks, .int people, .int living, .int shown_27, .int spent, .int days])), (a_p1, .inr (2, [.ref a_p1_marks, .ref a_p1_inWeathers, .ref a_p1_inHours, .ref a_p1_fears, .ref a_p1_weathers, .ref a_p1_hours, .ref a_p1_dangers, .int p1_pay, .int p1_people, .int p1_days])), (a_p1_weathers, .inl (cI, 10, .inl p1_weathers)), (a_p1_hours, .inl (cI, 10, .inl p1_hours)), (a_p1_dangers, .inl (cI, 10, .inl p1_dangers)), (a_p1_inWeathers, .inl (cI, 8, .inl p1_inWeathers)), (a_p1_inHours, .inl (cI, 8, .inl p1_inHours)), (a_p1_fears, .inl (cI, 8, .inl p1_fears)), (a_marks, .inl (cI, 8, .inl marks))] → va_S A s.heap H locs → ∀ (ls : Array Slot), lv_has ls 5 [(0, .ref a_this), (1, .ref a_p1), (2, .int x2_27)] → (wj_X1_passDay_27 living spent days p1_pay marks Φ x2_27 shown_27) → W p l e xrm_X1_passDay s m args below meth c H locs 0 0 Q (F0 m 27 ls []) := by
    intro x2_27 shown_27 H locs hP hD hS ls hl hw
    unfold wj_X1_passDay_27 at hw
    refine lv_aload_n hx hb dX1_passDay_27 rfl (lv_at hl 0 rfl) ?_
    refine va_get (D := D) (ci := 1) (v := .int living) (C := RX1) (T := TX1) (N := 6) hx hb hts hinX1 hown hKK.1 hP 0 rfl rfl 2 (by decide) fl_19 (fun _ h9 => h9) rfl dX1_passDay_28 ?_
    refine xcSi (As := [.int living]) (rest := []) (wc := []) ⟨hx, hb, hml, hown, hts⟩ (c_J6_bitCount_0f7a4 l D cI cZ cO hw) (va_cwS 1 hts gX1_passDay_J6_bitCount_0f7a4 rfl rfl rfl (by decide +kernel) ⟨Nat.le_of_ble_eq_true rfl, Nat.le_of_ble_eq_true rfl⟩) hKK hP [] rfl rfl hl.1 rfl (Nat.le_of_ble_eq_true rfl) dX1_passDay_31 ⟨Nat.zero_le _, Nat.zero_le _⟩ (fun r_31 hw => ?_)
    refine lv_istore_n (lv' := [(3, .int r_31), (0, .ref a_this), (1, .ref a_p1), (2, .int x2_27)]) hx hb dX1_passDay_34 rfl hl (by decide) rfl (fun ls hl => ?_)
    refine lv_iconst (v := 0) hx hb dX1_passDay_35 (by decide) ?_
    refine lv_istore (lv' := [(4, .int 0), (3, .int r_31), (0, .ref a_this), (1, .ref a_p1), (2, .int x2_27)]) hx hb dX1_passDay_36 hl (by decide) rfl (fun ls hl => ?_)
    have EX_38 : ∀ (spent_38 : Int32) (x4_38 : Int32), ∀ (H : Heap) (locs : List Loc), va_P D vwCl [(a_this, .inr (1, [.ref a_marks, .int people, .int living, .int shown_27, .int spent_38, .int days])), (a_p1, .inr (2, [.ref a_p1_marks, .ref a_p1_inWeathers, .ref a_p1_inHours, .ref a_p1_fears, .ref a_p1_weathers, .ref a_p1_hours, .ref a_p1_dangers, .int p1_pay, .int p1_people, .int p1_days])), (a_p1_weathers, .inl (cI, 10, .inl p1_weathers)), (a_p1_hours, .inl (cI, 10, .inl p1_hours)), (a_p1_dangers, .inl (cI, 10, .inl p1_dangers)), (a_p1_inWeathers, .inl (cI, 8, .inl p1_inWeathers)), (a_p1_inHours, .inl (cI, 8, .inl p1_inHours)), (a_p1_fears, .inl (cI, 8, .inl p1_fears)), (a_marks, .inl (cI, 8, .inl marks))] H → va_D A [(a_this, .inr (1, [.ref a_marks, .int people, .int living, .int shown_27, .int spent_38, .int days])), (a_p1, .inr (2, [.ref a_p1_marks, .ref a_p1_inWeathers, .ref a_p1_inHours, .ref a_p1_fears, .ref a_p1_weathers, .ref a_p1_hours, .ref a_p1_dangers, .int p1_pay, .int p1_people, .int p1_days])), (a_p1_weathers, .inl (cI, 10, .inl p1_weathers)), (a_p1_hours, .inl (cI, 10, .inl p1_hours)), (a_p1_dangers, .inl (cI, 10, .inl p1_dangers)), (a_p1_inWeathers, .inl (cI, 8, .inl p1_inWeathers)), (a_p1_inHours, .inl (cI, 8, .inl p1_inHours)), (a_p1_fears, .inl (cI, 8, .inl p1_fears)), (a_marks, .inl (cI, 8, .inl marks))] → va_S A s.heap H locs → ∀ (ls : Array Slot), lv_has ls 5 [(0, .ref a_this), (1, .ref a_p1), (2, .int x2_27), (3, .int r_31), (4, .int x4_38)] → (wk_X1_passDay_38 living days marks Φ shown_27 spent_38 x4_38) → W p l e xrm_X1_passDay s m args below meth c H locs 0 0 Q (F0 m 70 ls []) := by
      intro spent_38 x4_38 H locs hP hD hS ls hl hw
      unfold wk_X1_passDay_38 at hw
      refine lv_aload_n hx hb dX1_passDay_70 rfl (lv_at hl 0 rfl) ?_
      refine xwVv (q0 := 0) (ci := 1) (wr := [(a_p1, .inr (2, [.ref a_p1_marks, .ref a_p1_inWeathers, .ref a_p1_inHours, .ref a_p1_fears, .ref a_p1_weathers, .ref a_p1_hours, .ref a_p1_dangers, .int p1_pay, .int p1_people, .int p1_days])), (a_p1_weathers, .inl (cI, 10, .inl p1_weathers)), (a_p1_hours, .inl (cI, 10, .inl p1_hours)), (a_p1_dangers, .inl (cI, 10, .inl p1_dangers)), (a_p1_inWeathers, .inl (cI, 8, .inl p1_inWeathers)), (a_p1_inHours, .inl (cI, 8, .inl p1_inHours)), (a_p1_fears, .inl (cI, 8, .inl p1_fears))]) (As := []) (rest := []) (wc := [(a_this, .inr (1, [.ref a_marks, .int people, .int living, .int shown_27, .int spent_38, .int days])), (a_marks, .inl (cI, 8, .inl marks))]) (fun (u : (Nat → Int32)) => [(a_this, .inr (1, [.ref a_marks, .int people, .int living, .int shown_27, .int spent_38, .int days])), (a_p1, .inr (2, [.ref a_p1_marks, .ref a_p1_inWeathers, .ref a_p1_inHours, .ref a_p1_fears, .ref a_p1_weathers, .ref a_p1_hours, .ref a_p1_dangers, .int p1_pay, .int p1_people, .int p1_days])), (a_p1_weathers, .inl (cI, 10, .inl p1_weathers)), (a_p1_hours, .inl (cI, 10, .inl p1_hours)), (a_p1_dangers, .inl (cI, 10, .inl p1_dangers)), (a_p1_inWeathers, .inl (cI, 8, .inl p1_inWeathers)), (a_p1_inHours, .inl (cI, 8, .inl p1_inHours)), (a_p1_fears, .inl (cI, 8, .inl p1_fears)), (a_marks, .inl (cI, 8, .inl u))]) ⟨hx, hb, hml, hown, hts⟩ (c_X1_copyMarks l D cI cZ cO hw) (cwV 0 hts gX1_passDay_X1_copyMarks rfl rfl rfl (by decide +kernel) ⟨Nat.le_of_ble_eq_true rfl, Nat.le_of_ble_eq_true rfl⟩) hKK hP hD hS hA [0, 8] [1, 2, 3, 4, 5, 6, 7] [7, 0, 1, 2, 3, 4, 5, 6, 8] rfl rfl rfl rfl rfl (by decide) (fun _ => rfl) rfl rfl rfl hl.1 rfl (Nat.le_of_ble_eq_true rfl) dX1_passDay_71 ⟨Nat.zero_le _, Nat.zero_le _⟩ (fun marks_71 H locs hw hP hD hS => ?_)
      have hP : va_P D vwCl [(a_this, .inr (1, [.ref a_marks, .int people, .int living, .int shown_27, .int spent_38, .int days])), (a_p1, .inr (2, [.ref a_p1_marks, .ref a_p1_inWeathers, .ref a_p1_inHours, .ref a_p1_fears, .ref a_p1_weathers, .ref a_p1_hours, .ref a_p1_dangers, .int p1_pay, .int p1_people, .int p1_days])), (a_p1_weathers, .inl (cI, 10, .inl p1_weathers)), (a_p1_hours, .inl (cI, 10, .inl p1_hours)), (a_p1_dangers, .inl (cI, 10, .inl p1_dangers)), (a_p1_inWeathers, .inl (cI, 8, .inl p1_inWeathers)), (a_p1_inHours, .inl (cI, 8, .inl p1_inHours)), (a_p1_fears, .inl (cI, 8, .inl p1_fears)), (a_marks, .inl (cI, 8, .inl marks_71))] H := hP
      have hD : va_D A [(a_this, .inr (1, [.ref a_marks, .int people, .int living, .int shown_27, .int spent_38, .int days])), (a_p1, .inr (2, [.ref a_p1_marks, .ref a_p1_inWeathers, .ref a_p1_inHours, .ref a_p1_fears, .ref a_p1_weathers, .ref a_p1_hours, .ref a_p1_dangers, .int p1_pay, .int p1_people, .int p1_days])), (a_p1_weathers, .inl (cI, 10, .inl p1_weathers)), (a_p1_hours, .inl (cI, 10, .inl p1_hours)), (a_p1_dangers, .inl (cI, 10, .inl p1_dangers)), (a_p1_inWeathers, .inl (cI, 8, .inl p1_inWeathers)), (a_p1_inHours, .inl (cI, 8, .inl p1_inHours)), (a_p1_fears, .inl (cI, 8, .inl p1_fears)), (a_marks, .inl (cI, 8, .inl marks_71))] := hD
      refine lv_aload_n hx hb dX1_passDay_74 rfl (lv_at hl 0 rfl) ?_
      refine lv_dup hx hb dX1_passDay_75 rfl ?_
      refine va_get (D := D) (ci := 1) (v := .int days) (C := RX1) (T := TX1) (N := 6) hx hb hts hinX1 hown hKK.1 hP 0 rfl rfl 5 (by decide) fl_28 (fun _ h9 => h9) rfl dX1_passDay_76 ?_
      refine lv_iconst (v := 1) hx hb dX1_passDay_79 (by decide) ?_
      refine lv_iadd hx hb dX1_passDay_80 ?_
      refine va_put (D := D) (ci := 1) (v := .int (days + 1)) (ty := .int) (C := RX1) (T := TX1) (N := 6) hx hb hts hinX1 tyX1 tyX1_ok nmX1 hown hKK.1 hP hD hS 0 rfl rfl 5 (by decide) fl_28 (fun _ h9 => h9) rfl (by decide +kernel) rfl rfl (Nat.le_of_ble_eq_true rfl) dX1_passDay_81 (fun H locs hP hD hS => ?_)
      have hP : va_P D vwCl [(a_this, .inr (1, [.ref a_marks, .int people, .int living, .int shown_27, .int spent_38, .int (days + 1)])), (a_p1, .inr (2, [.ref a_p1_marks, .ref a_p1_inWeathers, .ref a_p1_inHours, .ref a_p1_fears, .ref a_p1_weathers, .ref a_p1_hours, .ref a_p1_dangers, .int p1_pay, .int p1_people, .int p1_days])), (a_p1_weathers, .inl (cI, 10, .inl p1_weathers)), (a_p1_hours, .inl (cI, 10, .inl p1_hours)), (a_p1_dangers, .inl (cI, 10, .inl p1_dangers)), (a_p1_inWeathers, .inl (cI, 8, .inl p1_inWeathers)), (a_p1_inHours, .inl (cI, 8, .inl p1_inHours)), (a_p1_fears, .inl (cI, 8, .inl p1_fears)), (a_marks, .inl (cI, 8, .inl marks_71))] H := hP
      have hD : va_D A [(a_this, .inr (1, [.ref a_marks, .int people, .int living, .int shown_27, .int spent_38, .int (days + 1)])), (a_p1, .inr (2, [.ref a_p1_marks, .ref a_p1_inWeathers, .ref a_p1_inHours, .ref a_p1_fears, .ref a_p1_weathers, .ref a_p1_hours, .ref a_p1_dangers, .int p1_pay, .int p1_people, .int p1_days])), (a_p1_weathers, .inl (cI, 10, .inl p1_weathers)), (a_p1_hours, .inl (cI, 10, .inl p1_hours)), (a_p1_dangers, .inl (cI, 10, .inl p1_dangers)), (a_p1_inWeathers, .inl (cI, 8, .inl p1_inWeathers)), (a_p1_inHours, .inl (cI, 8, .inl p1_inHours)), (a_p1_fears, .inl (cI, 8, .inl p1_fears)), (a_marks, .inl (cI, 8, .inl marks_71))] := hD
      rw [hQ]
      exact W.vret hx hb hr (fun t ht _ => ⟨⟨⟨marks_71, (days + 1), spent_38, shown_27⟩, rfl, hw, by rw [ht]; exact hP, hD⟩, hS.F ht⟩) hS.2.2 dX1_passDay_84
    generalize (wk_X1_passDay_38 living days marks Φ shown_27) = K_38 at EX_38 hw
    have LP_38 : ∀ n : Nat, ∀ (spent_38 : Int32) (x4_38 : Int32), ∀ (H : Heap) (locs : List Loc), va_P D vwCl [(a_this, .inr (1, [.ref a_marks, .int people, .int living, .int shown_27, .int spent_38, .int days])), (a_p1, .inr (2, [.ref a_p1_marks, .ref a_p1_inWeathers, .ref a_p1_inHours, .ref a_p1_fears, .ref a_p1_weathers, .ref a_p1_hours, .ref a_p1_dangers, .int p1_pay, .int p1_people, .int p1_days])), (a_p1_weathers, .inl (cI, 10, .inl p1_weathers)), (a_p1_hours, .inl (cI, 10, .inl p1_hours)), (a_p1_dangers, .inl (cI, 10, .inl p1_dangers)), (a_p1_inWeathers, .inl (cI, 8, .inl p1_inWeathers)), (a_p1_inHours, .inl (cI, 8, .inl p1_inHours)), (a_p1_fears, .inl (cI, 8, .inl p1_fears)), (a_marks, .inl (cI, 8, .inl marks))] H → va_D A [(a_this, .inr (1, [.ref a_marks, .int people, .int living, .int shown_27, .int spent_38, .int days])), (a_p1, .inr (2, [.ref a_p1_marks, .ref a_p1_inWeathers, .ref a_p1_inHours, .ref a_p1_fears, .ref a_p1_weathers, .ref a_p1_hours, .ref a_p1_dangers, .int p1_pay, .int p1_people, .int p1_days])), (a_p1_weathers, .inl (cI, 10, .inl p1_weathers)), (a_p1_hours, .inl (cI, 10, .inl p1_hours)), (a_p1_dangers, .inl (cI, 10, .inl p1_dangers)), (a_p1_inWeathers, .inl (cI, 8, .inl p1_inWeathers)), (a_p1_inHours, .inl (cI, 8, .inl p1_inHours)), (a_p1_fears, .inl (cI, 8, .inl p1_fears)), (a_marks, .inl (cI, 8, .inl marks))] → va_S A s.heap H locs → ∀ (ls : Array Slot), lv_has ls 5 [(0, .ref a_this), (1, .ref a_p1), (2, .int x2_27), (3, .int r_31), (4, .int x4_38)] → xit2 (wb_X1_passDay_38 p1_pay r_31 K_38) n spent_38 x4_38 → W p l e xrm_X1_passDay s m args below meth c H locs 0 0 Q (F0 m 38 ls []) := by
      intro n
      induction n with
      | zero => intro spent_38 x4_38 H locs hP hD hS ls hl hw; exact (show False from hw).elim
      | succ n ih =>
        intro spent_38 x4_38 H locs hP hD hS ls hl hw
        have hw : wb_X1_passDay_38 p1_pay r_31 K_38 (xit2 (wb_X1_passDay_38 p1_pay r_31 K_38) n) spent_38 x4_38 := hw
        generalize xit2 (wb_X1_passDay_38 p1_pay r_31 K_38) n = rec_38 at ih hw
        unfold wb_X1_passDay_38 at hw
        refine lv_iload hx hb dX1_passDay_38 (lv_at hl 4 rfl) ?_
        refine lv_iload_n hx hb dX1_passDay_40 rfl (lv_at hl 3 rfl) ?_
        refine lv_icmp_ge (tgt := 70) hx hb dX1_passDay_41 (by decide) (fun c_41 => ?_) (fun c_41 => ?_)
        · have hw := hw.1 c_41
          exact EX_38 _ _ _ _ hP hD hS ls (lv_sub hl [0, 1, 2, 3, 4] rfl) hw
        · have hw := hw.2 c_41
          refine lv_aload_n hx hb dX1_passDay_44 rfl (lv_at hl 0 rfl) ?_
          refine lv_ldc (v := 999999) hx hb hown (hts (.constant RX1 85 999999) (by decide +kernel)) dX1_passDay_45 ?_
          refine lv_aload_n hx hb dX1_passDay_47 rfl (lv_at hl 0 rfl) ?_
          refine va_get (D := D) (ci := 1) (v := .int spent_38) (C := RX1) (T := TX1) (N := 6) hx hb hts hinX1 hown hKK.1 hP 0 rfl rfl 4 (by decide) fl_25 (fun _ h9 => h9) rfl dX1_passDay_48 ?_
          refine lv_aload_n hx hb dX1_passDay_51 rfl (lv_at hl 1 rfl) ?_
          refine lv_iload hx hb dX1_passDay_52 (lv_at hl 4 rfl) ?_
          refine xcVi (q0 := 1) (ci := 2) (As := [.int x4_38]) (rest := [.int spent_38, .int 999999, .ref a_this]) (wc := [(a_p1, .inr (2, [.ref a_p1_marks, .ref a_p1_inWeathers, .ref a_p1_inHours, .ref a_p1_fears, .ref a_p1_weathers, .ref a_p1_hours, .ref a_p1_dangers, .int p1_pay, .int p1_people, .int p1_days]))]) ⟨hx, hb, hml, hown, hts⟩ (c_X2_payAt l D cI cZ cO hw) (cwV 1 hts gX1_passDay_X2_payAt rfl rfl rfl (by decide +kernel) ⟨Nat.le_of_ble_eq_true rfl, Nat.le_of_ble_eq_true rfl⟩) hKK hP [1] rfl rfl rfl rfl hl.1 rfl (Nat.le_of_ble_eq_true rfl) dX1_passDay_54 ⟨Nat.zero_le _, Nat.zero_le _⟩ (fun r_54 hw => ?_)
          refine lv_iadd hx hb dX1_passDay_57 ?_
          refine va_mmin hx hb (hml.trans hl.1.symm) hown (hts (.methodLink RX1 89 Lib.Math.min.name) (by decide +kernel)) (hts (.static Lib.Math.min.name) (by decide +kernel)) (hts (.initialized "java/lang/Math") (by decide +kernel)) (hts (.code Lib.Math.min.name Lib.Math.min.code 2 (some .int)) (by decide +kernel)) (Nat.le_of_ble_eq_true rfl) (Nat.le_of_ble_eq_true rfl) (Nat.zero_le _) (Nat.zero_le _) dX1_passDay_58 ?_
          refine va_put (D := D) (ci := 1) (v := .int (if (spent_38 + r_54) < 999999 then (spent_38 + r_54) else 999999)) (ty := .int) (C := RX1) (T := TX1) (N := 6) hx hb hts hinX1 tyX1 tyX1_ok nmX1 hown hKK.1 hP hD hS 0 rfl rfl 4 (by decide) fl_25 (fun _ h9 => h9) rfl (by decide +kernel) rfl rfl (Nat.le_of_ble_eq_true rfl) dX1_passDay_61 (fun H locs hP hD hS => ?_)
          have hP : va_P D vwCl [(a_this, .inr (1, [.ref a_marks, .int people, .int living, .int shown_27, .int (if (spent_38 + r_54) < 999999 then (spent_38 + r_54) else 999999), .int days])), (a_p1, .inr (2, [.ref a_p1_marks, .ref a_p1_inWeathers, .ref a_p1_inHours, .ref a_p1_fears, .ref a_p1_weathers, .ref a_p1_hours, .ref a_p1_dangers, .int p1_pay, .int p1_people, .int p1_days])), (a_p1_weathers, .inl (cI, 10, .inl p1_weathers)), (a_p1_hours, .inl (cI, 10, .inl p1_hours)), (a_p1_dangers, .inl (cI, 10, .inl p1_dangers)), (a_p1_inWeathers, .inl (cI, 8, .inl p1_inWeathers)), (a_p1_inHours, .inl (cI, 8, .inl p1_inHours)), (a_p1_fears, .inl (cI, 8, .inl p1_fears)), (a_marks, .inl (cI, 8, .inl marks))] H := hP
          have hD : va_D A [(a_this, .inr (1, [.ref a_marks, .int people, .int living, .int shown_27, .int (if (spent_38 + r_54) < 999999 then (spent_38 + r_54) else 999999), .int days])), (a_p1, .inr (2, [.ref a_p1_marks, .ref a_p1_inWeathers, .ref a_p1_inHours, .ref a_p1_fears, .ref a_p1_weathers, .ref a_p1_hours, .ref a_p1_dangers, .int p1_pay, .int p1_people, .int p1_days])), (a_p1_weathers, .inl (cI, 10, .inl p1_weathers)), (a_p1_hours, .inl (cI, 10, .inl p1_hours)), (a_p1_dangers, .inl (cI, 10, .inl p1_dangers)), (a_p1_inWeathers, .inl (cI, 8, .inl p1_inWeathers)), (a_p1_inHours, .inl (cI, 8, .inl p1_inHours)), (a_p1_fears, .inl (cI, 8, .inl p1_fears)), (a_marks, .inl (cI, 8, .inl marks))] := hD
          refine lv_iinc (v := (x4_38 + 1)) (lv' := [(4, .int (x4_38 + 1)), (0, .ref a_this), (1, .ref a_p1), (2, .int x2_27), (3, .int r_31)]) hx hb dX1_passDay_64 hl (k := 4) rfl (by rfl) (by decide) rfl (fun ls hl => ?_)
          refine lv_goto (tgt := 38) hx hb dX1_passDay_67 (by decide) ?_
          exact ih _ _ _ _ hP hD hS ls (lv_sub hl [1, 2, 3, 4, 0] rfl) hw
    obtain ⟨n, hw⟩ := hw
    exact LP_38 n _ _ _ _ hP hD hS ls (lv_sub hl [2, 3, 4, 1, 0] rfl) hw
  refine lv_aload_n hx hb dX1_passDay_0 rfl (lv_at hl 0 rfl) ?_
  refine lv_aload_n hx hb dX1_passDay_1 rfl (lv_at hl 1 rfl) ?_
  refine lv_aload_n hx hb dX1_passDay_2 rfl (lv_at hl 0 rfl) ?_
  refine va_get (D := D) (ci := 1) (v := .int days) (C := RX1) (T := TX1) (N := 6) hx hb hts hinX1 hown hKK.1 hP 0 rfl rfl 5 (by decide) fl_28 (fun _ h9 => h9) rfl dX1_passDay_3 ?_
  refine xcVi (q0 := 0) (ci := 1) (As := [.ref a_p1, .int days]) (rest := []) (wc := [(a_this, .inr (1, [.ref a_marks, .int people, .int living, .int shown, .int spent, .int days])), (a_p1, .inr (2, [.ref a_p1_marks, .ref a_p1_inWeathers, .ref a_p1_inHours, .ref a_p1_fears, .ref a_p1_weathers, .ref a_p1_hours, .ref a_p1_dangers, .int p1_pay, .int p1_people, .int p1_days])), (a_p1_weathers, .inl (cI, 10, .inl p1_weathers)), (a_p1_hours, .inl (cI, 10, .inl p1_hours)), (a_p1_dangers, .inl (cI, 10, .inl p1_dangers)), (a_p1_inWeathers, .inl (cI, 8, .inl p1_inWeathers)), (a_p1_inHours, .inl (cI, 8, .inl p1_inHours)), (a_p1_fears, .inl (cI, 8, .inl p1_fears))]) ⟨hx, hb, hml, hown, hts⟩ (c_X1_seenOn l D cI cZ cO hw) (cwV 2 hts gX1_passDay_X1_seenOn rfl rfl rfl (by decide +kernel) ⟨Nat.le_of_ble_eq_true rfl, Nat.le_of_ble_eq_true rfl⟩) hKK hP [0, 1, 2, 3, 4, 5, 6, 7] rfl rfl rfl rfl hl.1 rfl (Nat.le_of_ble_eq_true rfl) dX1_passDay_6 ⟨Nat.zero_le _, Nat.zero_le _⟩ (fun r_6 hw => ?_)
  refine lv_istore_n (lv' := [(2, .int r_6), (0, .ref a_this), (1, .ref a_p1)]) hx hb dX1_passDay_9 rfl hl (by decide) rfl (fun ls hl => ?_)
  refine lv_iload_n hx hb dX1_passDay_10 rfl (lv_at hl 0 rfl) ?_
  refine lv_iconst (v := (-1)) hx hb dX1_passDay_11 (by decide) ?_
  refine lv_icmp_eq (tgt := 27) hx hb dX1_passDay_12 (by decide) (fun c_12 => ?_) (fun c_12 => ?_)
  · have hw := hw.1 c_12
    exact JN_27 _ _ _ _ hP hD hS ls (lv_sub hl [1, 2, 0] rfl) hw
  · have hw := hw.2 c_12
    refine lv_aload_n hx hb dX1_passDay_15 rfl (lv_at hl 1 rfl) ?_
    refine lv_dup hx hb dX1_passDay_16 rfl ?_
    refine va_get (D := D) (ci := 1) (v := .int shown) (C := RX1) (T := TX1) (N := 6) hx hb hts hinX1 hown hKK.1 hP 0 rfl rfl 3 (by decide) fl_22 (fun _ h9 => h9) rfl dX1_passDay_17 ?_
    refine lv_iconst (v := 1) hx hb dX1_passDay_20 (by decide) ?_
    refine lv_iload_n hx hb dX1_passDay_21 rfl (lv_at hl 0 rfl) ?_
    refine lv_ishl hx hb dX1_passDay_22 ?_
    refine lv_ior hx hb dX1_passDay_23 ?_
    refine va_put (D := D) (ci := 1) (v := .int (shown ||| ((1 : Int32) <<< (r_6 &&& 31)))) (ty := .int) (C := RX1) (T := TX1) (N := 6) hx hb hts hinX1 tyX1 tyX1_ok nmX1 hown hKK.1 hP hD hS 0 rfl rfl 3 (by decide) fl_22 (fun _ h9 => h9) rfl (by decide +kernel) rfl rfl (Nat.le_of_ble_eq_true rfl) dX1_passDay_24 (fun H locs hP hD hS => ?_)
    have hP : va_P D vwCl [(a_this, .inr (1, [.ref a_marks, .int people, .int living, .int (shown ||| ((1 : Int32) <<< (r_6 &&& 31))), .int spent, .int days])), (a_p1, .inr (2, [.ref a_p1_marks, .ref a_p1_inWeathers, .ref a_p1_inHours, .ref a_p1_fears, .ref a_p1_weathers, .ref a_p1_hours, .ref a_p1_dangers, .int p1_pay, .int p1_people, .int p1_days])), (a_p1_weathers, .inl (cI, 10, .inl p1_weathers)), (a_p1_hours, .inl (cI, 10, .inl p1_hours)), (a_p1_dangers, .inl (cI, 10, .inl p1_dangers)), (a_p1_inWeathers, .inl (cI, 8, .inl p1_inWeathers)), (a_p1_inHours, .inl (cI, 8, .inl p1_inHours)), (a_p1_fears, .inl (cI, 8, .inl p1_fears)), (a_marks, .inl (cI, 8, .inl marks))] H := hP
    have hD : va_D A [(a_this, .inr (1, [.ref a_marks, .int people, .int living, .int (shown ||| ((1 : Int32) <<< (r_6 &&& 31))), .int spent, .int days])), (a_p1, .inr (2, [.ref a_p1_marks, .ref a_p1_inWeathers, .ref a_p1_inHours, .ref a_p1_fears, .ref a_p1_weathers, .ref a_p1_hours, .ref a_p1_dangers, .int p1_pay, .int p1_people, .int p1_days])), (a_p1_weathers, .inl (cI, 10, .inl p1_weathers)), (a_p1_hours, .inl (cI, 10, .inl p1_hours)), (a_p1_dangers, .inl (cI, 10, .inl p1_dangers)), (a_p1_inWeathers, .inl (cI, 8, .inl p1_inWeathers)), (a_p1_inHours, .inl (cI, 8, .inl p1_inHours)), (a_p1_fears, .inl (cI, 8, .inl p1_fears)), (a_marks, .inl (cI, 8, .inl marks))] := hD
    exact JN_27 _ _ _ _ hP hD hS ls (lv_sub hl [1, 2, 0] rfl) hw
def wp_X1_loseSeen (living : Int32) (days : Int32) (p1_days : Int32) (p1_weathers : Nat → Int32) (p1_hours : Nat → Int32) (p1_dangers : Nat → Int32) (p1_inWeathers : Nat → Int32) (p1_inHours : Nat → Int32) (p1_fears : Nat → Int32) (Φ : Int32 → Int32 → Prop) : Prop :=
  (wp_X1_seenOn living p1_days p1_weathers p1_hours p1_dangers p1_inWeathers p1_inHours p1_fears days (fun r_6 => ((r_6 = (-1) → (Φ r_6 living)) ∧ (¬ r_6 = (-1) → (Φ r_6 (living &&& (((1 : Int32) <<< (r_6 &&& 31)) ^^^ (-1))))))))
abbrev xrm_X1_loseSeen : Room := { frames := 4, cells := 0, slots := 0, locals := 92 }
set_option maxRecDepth 100000 in
set_option maxHeartbeats 4000000 in
theorem c_X1_loseSeen (l : Launch) (D : va_G) (cI cZ cO : ClassId) {a_marks : Nat} {people : Int32} {living : Int32} {shown : Int32} {spent : Int32} {days : Int32} {a_this : Nat} {a_p1_marks : Nat} {a_p1_inWeathers : Nat} {a_p1_inHours : Nat} {a_p1_fears : Nat} {a_p1_weathers : Nat} {a_p1_hours : Nat} {a_p1_dangers : Nat} {p1_pay : Int32} {p1_people : Int32} {p1_days : Int32} {a_p1 : Nat} {p1_weathers : Nat → Int32} {p1_hours : Nat → Int32} {p1_dangers : Nat → Int32} {p1_inWeathers : Nat → Int32} {p1_inHours : Nat → Int32} {p1_fears : Nat → Int32} {Φ : Int32 → Int32 → Prop} {sz : Nat} (hw : (wp_X1_loseSeen living days p1_days p1_weathers p1_hours p1_dangers p1_inWeathers p1_inHours p1_fears Φ)) : Met l yX1_loseSeen wsX1_loseSeen xrm_X1_loseSeen (xPW D cI cZ cO [.ref a_this, .ref a_p1] sz [(a_this, .inr (1, [.ref a_marks, .int people, .int living, .int shown, .int spent, .int days])), (a_p1, .inr (2, [.ref a_p1_marks, .ref a_p1_inWeathers, .ref a_p1_inHours, .ref a_p1_fears, .ref a_p1_weathers, .ref a_p1_hours, .ref a_p1_dangers, .int p1_pay, .int p1_people, .int p1_days])), (a_p1_weathers, .inl (cI, 10, .inl p1_weathers)), (a_p1_hours, .inl (cI, 10, .inl p1_hours)), (a_p1_dangers, .inl (cI, 10, .inl p1_dangers)), (a_p1_inWeathers, .inl (cI, 8, .inl p1_inWeathers)), (a_p1_inHours, .inl (cI, 8, .inl p1_inHours)), (a_p1_fears, .inl (cI, 8, .inl p1_fears))]) (va_Qi (fun (r : Int32) (u : Int32) => Φ r u) (xB D (va_A [(a_this, .inr (1, [.ref a_marks, .int people, .int living, .int shown, .int spent, .int days])), (a_p1, .inr (2, [.ref a_p1_marks, .ref a_p1_inWeathers, .ref a_p1_inHours, .ref a_p1_fears, .ref a_p1_weathers, .ref a_p1_hours, .ref a_p1_dangers, .int p1_pay, .int p1_people, .int p1_days])), (a_p1_weathers, .inl (cI, 10, .inl p1_weathers)), (a_p1_hours, .inl (cI, 10, .inl p1_hours)), (a_p1_dangers, .inl (cI, 10, .inl p1_dangers)), (a_p1_inWeathers, .inl (cI, 8, .inl p1_inWeathers)), (a_p1_inHours, .inl (cI, 8, .inl p1_inHours)), (a_p1_fears, .inl (cI, 8, .inl p1_fears))] sz) (fun (u : Int32) => [(a_this, .inr (1, [.ref a_marks, .int people, .int u, .int shown, .int spent, .int days])), (a_p1, .inr (2, [.ref a_p1_marks, .ref a_p1_inWeathers, .ref a_p1_inHours, .ref a_p1_fears, .ref a_p1_weathers, .ref a_p1_hours, .ref a_p1_dangers, .int p1_pay, .int p1_people, .int p1_days])), (a_p1_weathers, .inl (cI, 10, .inl p1_weathers)), (a_p1_hours, .inl (cI, 10, .inl p1_hours)), (a_p1_dangers, .inl (cI, 10, .inl p1_dangers)), (a_p1_inWeathers, .inl (cI, 8, .inl p1_inWeathers)), (a_p1_inHours, .inl (cI, 8, .inl p1_inHours)), (a_p1_fears, .inl (cI, 8, .inl p1_fears))])) (va_A [(a_this, .inr (1, [.ref a_marks, .int people, .int living, .int shown, .int spent, .int days])), (a_p1, .inr (2, [.ref a_p1_marks, .ref a_p1_inWeathers, .ref a_p1_inHours, .ref a_p1_fears, .ref a_p1_weathers, .ref a_p1_hours, .ref a_p1_dangers, .int p1_pay, .int p1_people, .int p1_days])), (a_p1_weathers, .inl (cI, 10, .inl p1_weathers)), (a_p1_hours, .inl (cI, 10, .inl p1_hours)), (a_p1_dangers, .inl (cI, 10, .inl p1_dangers)), (a_p1_inWeathers, .inl (cI, 8, .inl p1_inWeathers)), (a_p1_inHours, .inl (cI, 8, .inl p1_inHours)), (a_p1_fears, .inl (cI, 8, .inl p1_fears))] sz)) 0 0 (va_A [(a_this, .inr (1, [.ref a_marks, .int people, .int living, .int shown, .int spent, .int days])), (a_p1, .inr (2, [.ref a_p1_marks, .ref a_p1_inWeathers, .ref a_p1_inHours, .ref a_p1_fears, .ref a_p1_weathers, .ref a_p1_hours, .ref a_p1_dangers, .int p1_pay, .int p1_people, .int p1_days])), (a_p1_weathers, .inl (cI, 10, .inl p1_weathers)), (a_p1_hours, .inl (cI, 10, .inl p1_hours)), (a_p1_dangers, .inl (cI, 10, .inl p1_dangers)), (a_p1_inWeathers, .inl (cI, 8, .inl p1_inWeathers)), (a_p1_inHours, .inl (cI, 8, .inl p1_inHours)), (a_p1_fears, .inl (cI, 8, .inl p1_fears))] sz) := by
  refine Met.ofW (cc := cX1_loseSeen) (maxL := 3) (ret := (some .int)) (by decide) rfl ?_
  intro p e s m args below meth c s₁ B hml hv
  obtain ⟨rfl, hsz, hP, hKK, hD0⟩ := hv
  have hx := B.exec
  have hb := B.bytes
  have hr := B.returns
  have hts := atoms_spec (ws := wsX1_loseSeen) B.pre
  have hown : s.vm.findClass RX1 = some m.cls := findClass_of_methodNamed B.named
  have hlocks := B.notSynchronized
  subst hsz
  have hD := hD0.self (sz := s.heap.size)
  obtain ⟨Q, hQ⟩ : ∃ Q, Q = MQ below (va_Qi (fun (r : Int32) (u : Int32) => Φ r u) (xB D (va_A [(a_this, .inr (1, [.ref a_marks, .int people, .int living, .int shown, .int spent, .int days])), (a_p1, .inr (2, [.ref a_p1_marks, .ref a_p1_inWeathers, .ref a_p1_inHours, .ref a_p1_fears, .ref a_p1_weathers, .ref a_p1_hours, .ref a_p1_dangers, .int p1_pay, .int p1_people, .int p1_days])), (a_p1_weathers, .inl (cI, 10, .inl p1_weathers)), (a_p1_hours, .inl (cI, 10, .inl p1_hours)), (a_p1_dangers, .inl (cI, 10, .inl p1_dangers)), (a_p1_inWeathers, .inl (cI, 8, .inl p1_inWeathers)), (a_p1_inHours, .inl (cI, 8, .inl p1_inHours)), (a_p1_fears, .inl (cI, 8, .inl p1_fears))] s.heap.size) (fun (u : Int32) => [(a_this, .inr (1, [.ref a_marks, .int people, .int u, .int shown, .int spent, .int days])), (a_p1, .inr (2, [.ref a_p1_marks, .ref a_p1_inWeathers, .ref a_p1_inHours, .ref a_p1_fears, .ref a_p1_weathers, .ref a_p1_hours, .ref a_p1_dangers, .int p1_pay, .int p1_people, .int p1_days])), (a_p1_weathers, .inl (cI, 10, .inl p1_weathers)), (a_p1_hours, .inl (cI, 10, .inl p1_hours)), (a_p1_dangers, .inl (cI, 10, .inl p1_dangers)), (a_p1_inWeathers, .inl (cI, 8, .inl p1_inWeathers)), (a_p1_inHours, .inl (cI, 8, .inl p1_inHours)), (a_p1_fears, .inl (cI, 8, .inl p1_fears))])) (va_A [(a_this, .inr (1, [.ref a_marks, .int people, .int living, .int shown, .int spent, .int days])), (a_p1, .inr (2, [.ref a_p1_marks, .ref a_p1_inWeathers, .ref a_p1_inHours, .ref a_p1_fears, .ref a_p1_weathers, .ref a_p1_hours, .ref a_p1_dangers, .int p1_pay, .int p1_people, .int p1_days])), (a_p1_weathers, .inl (cI, 10, .inl p1_weathers)), (a_p1_hours, .inl (cI, 10, .inl p1_hours)), (a_p1_dangers, .inl (cI, 10, .inl p1_dangers)), (a_p1_inWeathers, .inl (cI, 8, .inl p1_inWeathers)), (a_p1_inHours, .inl (cI, 8, .inl p1_inHours)), (a_p1_fears, .inl (cI, 8, .inl p1_fears))] s.heap.size)) ([.ref a_this, .ref a_p1] : List Value).toArray s 0 0 (va_A [(a_this, .inr (1, [.ref a_marks, .int people, .int living, .int shown, .int spent, .int days])), (a_p1, .inr (2, [.ref a_p1_marks, .ref a_p1_inWeathers, .ref a_p1_inHours, .ref a_p1_fears, .ref a_p1_weathers, .ref a_p1_hours, .ref a_p1_dangers, .int p1_pay, .int p1_people, .int p1_days])), (a_p1_weathers, .inl (cI, 10, .inl p1_weathers)), (a_p1_hours, .inl (cI, 10, .inl p1_hours)), (a_p1_dangers, .inl (cI, 10, .inl p1_dangers)), (a_p1_inWeathers, .inl (cI, 8, .inl p1_inWeathers)), (a_p1_inHours, .inl (cI, 8, .inl p1_inHours)), (a_p1_fears, .inl (cI, 8, .inl p1_fears))] s.heap.size) := ⟨_, rfl⟩
  rw [← hQ]
  generalize hAe : va_A [(a_this, .inr (1, [.ref a_marks, .int people, .int living, .int shown, .int spent, .int days])), (a_p1, .inr (2, [.ref a_p1_marks, .ref a_p1_inWeathers, .ref a_p1_inHours, .ref a_p1_fears, .ref a_p1_weathers, .ref a_p1_hours, .ref a_p1_dangers, .int p1_pay, .int p1_people, .int p1_days])), (a_p1_weathers, .inl (cI, 10, .inl p1_weathers)), (a_p1_hours, .inl (cI, 10, .inl p1_hours)), (a_p1_dangers, .inl (cI, 10, .inl p1_dangers)), (a_p1_inWeathers, .inl (cI, 8, .inl p1_inWeathers)), (a_p1_inHours, .inl (cI, 8, .inl p1_inHours)), (a_p1_fears, .inl (cI, 8, .inl p1_fears))] s.heap.size = A at hD hQ
  have hA : ∀ q : Nat, s.heap.size ≤ q → A q := fun q h => by rw [← hAe]; exact Or.inr h
  have hS : va_S A s.heap s.heap [] := va_S.rf
  have hl := lv_entry ([.ref a_this, .ref a_p1]) (n := 3) (Nat.le_of_ble_eq_true rfl)
  rw [lg_entry_eq]
  generalize (lg_sl ([.ref a_this, .ref a_p1]) ++ List.replicate (3 - (lg_sl ([.ref a_this, .ref a_p1])).length) Slot.unset).toArray = ls at hl ⊢
  have hl : lv_has ls 3 [(0, .ref a_this), (1, .ref a_p1)] := hl
  generalize ([.ref a_this, .ref a_p1] : List Value).toArray = args at hts hQ ⊢
  have hP : va_P D vwCl [(a_this, .inr (1, [.ref a_marks, .int people, .int living, .int shown, .int spent, .int days])), (a_p1, .inr (2, [.ref a_p1_marks, .ref a_p1_inWeathers, .ref a_p1_inHours, .ref a_p1_fears, .ref a_p1_weathers, .ref a_p1_hours, .ref a_p1_dangers, .int p1_pay, .int p1_people, .int p1_days])), (a_p1_weathers, .inl (cI, 10, .inl p1_weathers)), (a_p1_hours, .inl (cI, 10, .inl p1_hours)), (a_p1_dangers, .inl (cI, 10, .inl p1_dangers)), (a_p1_inWeathers, .inl (cI, 8, .inl p1_inWeathers)), (a_p1_inHours, .inl (cI, 8, .inl p1_inHours)), (a_p1_fears, .inl (cI, 8, .inl p1_fears))] s.heap := hP
  have hinX1 : ∀ w ∈ u_ws RX1 TX1 6, w ∈ wsX1_loseSeen := by decide +kernel
  have fl_19 := hts (.fieldLink RX1 19 "DoubleChain$Chain" "living" "I") (by decide +kernel)
  have fl_28 := hts (.fieldLink RX1 28 "DoubleChain$Chain" "days" "I") (by decide +kernel)
  clear B
  show W p l e xrm_X1_loseSeen s m args below meth c s.heap [] 0 0 Q (F0 m 0 ls [])
  unfold wp_X1_loseSeen at hw
  refine lv_aload_n hx hb dX1_loseSeen_0 rfl (lv_at hl 0 rfl) ?_
  refine lv_aload_n hx hb dX1_loseSeen_1 rfl (lv_at hl 1 rfl) ?_
  refine lv_aload_n hx hb dX1_loseSeen_2 rfl (lv_at hl 0 rfl) ?_
  refine va_get (D := D) (ci := 1) (v := .int days) (C := RX1) (T := TX1) (N := 6) hx hb hts hinX1 hown hKK.1 hP 0 rfl rfl 5 (by decide) fl_28 (fun _ h9 => h9) rfl dX1_loseSeen_3 ?_
  refine xcVi (q0 := 0) (ci := 1) (As := [.ref a_p1, .int days]) (rest := []) (wc := [(a_this, .inr (1, [.ref a_marks, .int people, .int living, .int shown, .int spent, .int days])), (a_p1, .inr (2, [.ref a_p1_marks, .ref a_p1_inWeathers, .ref a_p1_inHours, .ref a_p1_fears, .ref a_p1_weathers, .ref a_p1_hours, .ref a_p1_dangers, .int p1_pay, .int p1_people, .int p1_days])), (a_p1_weathers, .inl (cI, 10, .inl p1_weathers)), (a_p1_hours, .inl (cI, 10, .inl p1_hours)), (a_p1_dangers, .inl (cI, 10, .inl p1_dangers)), (a_p1_inWeathers, .inl (cI, 8, .inl p1_inWeathers)), (a_p1_inHours, .inl (cI, 8, .inl p1_inHours)), (a_p1_fears, .inl (cI, 8, .inl p1_fears))]) ⟨hx, hb, hml, hown, hts⟩ (c_X1_seenOn l D cI cZ cO hw) (cwV 2 hts gX1_loseSeen_X1_seenOn rfl rfl rfl (by decide +kernel) ⟨Nat.le_of_ble_eq_true rfl, Nat.le_of_ble_eq_true rfl⟩) hKK hP [0, 1, 2, 3, 4, 5, 6, 7] rfl rfl rfl rfl hl.1 rfl (Nat.le_of_ble_eq_true rfl) dX1_loseSeen_6 ⟨Nat.zero_le _, Nat.zero_le _⟩ (fun r_6 hw => ?_)
  refine lv_istore_n (lv' := [(2, .int r_6), (0, .ref a_this), (1, .ref a_p1)]) hx hb dX1_loseSeen_9 rfl hl (by decide) rfl (fun ls hl => ?_)
  refine lv_iload_n hx hb dX1_loseSeen_10 rfl (lv_at hl 0 rfl) ?_
  refine lv_iconst (v := (-1)) hx hb dX1_loseSeen_11 (by decide) ?_
  refine lv_icmp_eq (tgt := 29) hx hb dX1_loseSeen_12 (by decide) (fun c_12 => ?_) (fun c_12 => ?_)
  · have hw := hw.1 c_12
    refine lv_iload_n hx hb dX1_loseSeen_29 rfl (lv_at hl 0 rfl) ?_
    rw [hQ]
    exact W.iret (v := r_6) hx hb hr (fun t ht _ => ⟨⟨r_6, living, rfl, hw, by rw [ht]; exact hP, hD⟩, hS.F ht⟩) hS.2.2 dX1_loseSeen_30
  · have hw := hw.2 c_12
    refine lv_aload_n hx hb dX1_loseSeen_15 rfl (lv_at hl 1 rfl) ?_
    refine lv_dup hx hb dX1_loseSeen_16 rfl ?_
    refine va_get (D := D) (ci := 1) (v := .int living) (C := RX1) (T := TX1) (N := 6) hx hb hts hinX1 hown hKK.1 hP 0 rfl rfl 2 (by decide) fl_19 (fun _ h9 => h9) rfl dX1_loseSeen_17 ?_
    refine lv_iconst (v := 1) hx hb dX1_loseSeen_20 (by decide) ?_
    refine lv_iload_n hx hb dX1_loseSeen_21 rfl (lv_at hl 0 rfl) ?_
    refine lv_ishl hx hb dX1_loseSeen_22 ?_
    refine lv_iconst (v := (-1)) hx hb dX1_loseSeen_23 (by decide) ?_
    refine lv_ixor hx hb dX1_loseSeen_24 ?_
    refine lv_iand hx hb dX1_loseSeen_25 ?_
    refine va_put (D := D) (ci := 1) (v := .int (living &&& (((1 : Int32) <<< (r_6 &&& 31)) ^^^ (-1)))) (ty := .int) (C := RX1) (T := TX1) (N := 6) hx hb hts hinX1 tyX1 tyX1_ok nmX1 hown hKK.1 hP hD hS 0 rfl rfl 2 (by decide) fl_19 (fun _ h9 => h9) rfl (by decide +kernel) rfl rfl (Nat.le_of_ble_eq_true rfl) dX1_loseSeen_26 (fun H locs hP hD hS => ?_)
    have hP : va_P D vwCl [(a_this, .inr (1, [.ref a_marks, .int people, .int (living &&& (((1 : Int32) <<< (r_6 &&& 31)) ^^^ (-1))), .int shown, .int spent, .int days])), (a_p1, .inr (2, [.ref a_p1_marks, .ref a_p1_inWeathers, .ref a_p1_inHours, .ref a_p1_fears, .ref a_p1_weathers, .ref a_p1_hours, .ref a_p1_dangers, .int p1_pay, .int p1_people, .int p1_days])), (a_p1_weathers, .inl (cI, 10, .inl p1_weathers)), (a_p1_hours, .inl (cI, 10, .inl p1_hours)), (a_p1_dangers, .inl (cI, 10, .inl p1_dangers)), (a_p1_inWeathers, .inl (cI, 8, .inl p1_inWeathers)), (a_p1_inHours, .inl (cI, 8, .inl p1_inHours)), (a_p1_fears, .inl (cI, 8, .inl p1_fears))] H := hP
    have hD : va_D A [(a_this, .inr (1, [.ref a_marks, .int people, .int (living &&& (((1 : Int32) <<< (r_6 &&& 31)) ^^^ (-1))), .int shown, .int spent, .int days])), (a_p1, .inr (2, [.ref a_p1_marks, .ref a_p1_inWeathers, .ref a_p1_inHours, .ref a_p1_fears, .ref a_p1_weathers, .ref a_p1_hours, .ref a_p1_dangers, .int p1_pay, .int p1_people, .int p1_days])), (a_p1_weathers, .inl (cI, 10, .inl p1_weathers)), (a_p1_hours, .inl (cI, 10, .inl p1_hours)), (a_p1_dangers, .inl (cI, 10, .inl p1_dangers)), (a_p1_inWeathers, .inl (cI, 8, .inl p1_inWeathers)), (a_p1_inHours, .inl (cI, 8, .inl p1_inHours)), (a_p1_fears, .inl (cI, 8, .inl p1_fears))] := hD
    refine lv_iload_n hx hb dX1_loseSeen_29 rfl (lv_at hl 0 rfl) ?_
    rw [hQ]
    exact W.iret (v := r_6) hx hb hr (fun t ht _ => ⟨⟨r_6, (living &&& (((1 : Int32) <<< (r_6 &&& 31)) ^^^ (-1))), rfl, hw, by rw [ht]; exact hP, hD⟩, hS.F ht⟩) hS.2.2 dX1_loseSeen_30
def wk_X1_takeOn_7 (people : Int32) (living : Int32) (Φ : Int32 → Int32 → Int32 → (Nat → Int32) → Prop) (marks_7 : Nat → Int32) (x2_7 : Int32) : Prop :=
  (Φ people (living ||| ((1 : Int32) <<< (people &&& 31))) (people + 1) marks_7)
def wb_X1_takeOn_7 (people : Int32) (living : Int32) (K_7 : (Nat → Int32) → Int32 → Prop) (rec_7 : (Nat → Int32) → Int32 → Prop) (marks_7 : Nat → Int32) (x2_7 : Int32) : Prop :=
  ((people ≤ x2_7 → (K_7 marks_7 x2_7)) ∧ (¬ people ≤ x2_7 → (wp_X1_lives living x2_7 (fun r_17 => ((r_17 = 0 → (rec_7 marks_7 (x2_7 + 1))) ∧ (¬ r_17 = 0 → (wp_X7_at marks_7 8 x2_7 (fun r_33 => (wp_X7_put marks_7 8 people r_33 (fun marks_36 => (rec_7 marks_36 (x2_7 + 1))))))))))))
def wp_X1_takeOn (people : Int32) (living : Int32) (marks : Nat → Int32) (Φ : Int32 → Int32 → Int32 → (Nat → Int32) → Prop) : Prop :=
  (∃ n : Nat, xit2 (wb_X1_takeOn_7 people living (wk_X1_takeOn_7 people living Φ)) n marks 0)
abbrev xrm_X1_takeOn : Room := { frames := 2, cells := 0, slots := 0, locals := 42 }
set_option maxRecDepth 100000 in
set_option maxHeartbeats 4000000 in
theorem c_X1_takeOn (l : Launch) (D : va_G) (cI cZ cO : ClassId) {a_marks : Nat} {people : Int32} {living : Int32} {shown : Int32} {spent : Int32} {days : Int32} {a_this : Nat} {marks : Nat → Int32} {Φ : Int32 → Int32 → Int32 → (Nat → Int32) → Prop} {sz : Nat} (hw : (wp_X1_takeOn people living marks Φ)) : Met l yX1_takeOn wsX1_takeOn xrm_X1_takeOn (xPW D cI cZ cO [.ref a_this] sz [(a_this, .inr (1, [.ref a_marks, .int people, .int living, .int shown, .int spent, .int days])), (a_marks, .inl (cI, 8, .inl marks))]) (va_Qi (fun (r : Int32) (u : Int32 × Int32 × (Nat → Int32)) => Φ r u.1 u.2.1 u.2.2) (xB D (va_A [(a_this, .inr (1, [.ref a_marks, .int people, .int living, .int shown, .int spent, .int days])), (a_marks, .inl (cI, 8, .inl marks))] sz) (fun (u : Int32 × Int32 × (Nat → Int32)) => [(a_this, .inr (1, [.ref a_marks, .int u.2.1, .int u.1, .int shown, .int spent, .int days])), (a_marks, .inl (cI, 8, .inl u.2.2))])) (va_A [(a_this, .inr (1, [.ref a_marks, .int people, .int living, .int shown, .int spent, .int days])), (a_marks, .inl (cI, 8, .inl marks))] sz)) 0 0 (va_A [(a_this, .inr (1, [.ref a_marks, .int people, .int living, .int shown, .int spent, .int days])), (a_marks, .inl (cI, 8, .inl marks))] sz) := by
  refine Met.ofW (cc := cX1_takeOn) (maxL := 3) (ret := (some .int)) (by decide) rfl ?_
  intro p e s m args below meth c s₁ B hml hv
  obtain ⟨rfl, hsz, hP, hKK, hD0⟩ := hv
  have hx := B.exec
  have hb := B.bytes
  have hr := B.returns
  have hts := atoms_spec (ws := wsX1_takeOn) B.pre
  have hown : s.vm.findClass RX1 = some m.cls := findClass_of_methodNamed B.named
  have hlocks := B.notSynchronized
  subst hsz
  have hD := hD0.self (sz := s.heap.size)
  obtain ⟨Q, hQ⟩ : ∃ Q, Q = MQ below (va_Qi (fun (r : Int32) (u : Int32 × Int32 × (Nat → Int32)) => Φ r u.1 u.2.1 u.2.2) (xB D (va_A [(a_this, .inr (1, [.ref a_marks, .int people, .int living, .int shown, .int spent, .int days])), (a_marks, .inl (cI, 8, .inl marks))] s.heap.size) (fun (u : Int32 × Int32 × (Nat → Int32)) => [(a_this, .inr (1, [.ref a_marks, .int u.2.1, .int u.1, .int shown, .int spent, .int days])), (a_marks, .inl (cI, 8, .inl u.2.2))])) (va_A [(a_this, .inr (1, [.ref a_marks, .int people, .int living, .int shown, .int spent, .int days])), (a_marks, .inl (cI, 8, .inl marks))] s.heap.size)) ([.ref a_this] : List Value).toArray s 0 0 (va_A [(a_this, .inr (1, [.ref a_marks, .int people, .int living, .int shown, .int spent, .int days])), (a_marks, .inl (cI, 8, .inl marks))] s.heap.size) := ⟨_, rfl⟩
  rw [← hQ]
  generalize hAe : va_A [(a_this, .inr (1, [.ref a_marks, .int people, .int living, .int shown, .int spent, .int days])), (a_marks, .inl (cI, 8, .inl marks))] s.heap.size = A at hD hQ
  have hA : ∀ q : Nat, s.heap.size ≤ q → A q := fun q h => by rw [← hAe]; exact Or.inr h
  have hS : va_S A s.heap s.heap [] := va_S.rf
  have hl := lv_entry ([.ref a_this]) (n := 3) (Nat.le_of_ble_eq_true rfl)
  rw [lg_entry_eq]
  generalize (lg_sl ([.ref a_this]) ++ List.replicate (3 - (lg_sl ([.ref a_this])).length) Slot.unset).toArray = ls at hl ⊢
  have hl : lv_has ls 3 [(0, .ref a_this)] := hl
  generalize ([.ref a_this] : List Value).toArray = args at hts hQ ⊢
  have hP : va_P D vwCl [(a_this, .inr (1, [.ref a_marks, .int people, .int living, .int shown, .int spent, .int days])), (a_marks, .inl (cI, 8, .inl marks))] s.heap := hP
  have hinX1 : ∀ w ∈ u_ws RX1 TX1 6, w ∈ wsX1_takeOn := by decide +kernel
  have fl_9 := hts (.fieldLink RX1 9 "DoubleChain$Chain" "marks" "[I") (by decide +kernel)
  have fl_15 := hts (.fieldLink RX1 15 "DoubleChain$Chain" "people" "I") (by decide +kernel)
  have fl_19 := hts (.fieldLink RX1 19 "DoubleChain$Chain" "living" "I") (by decide +kernel)
  clear B
  show W p l e xrm_X1_takeOn s m args below meth c s.heap [] 0 0 Q (F0 m 0 ls [])
  unfold wp_X1_takeOn at hw
  refine lv_aload_n hx hb dX1_takeOn_0 rfl (lv_at hl 0 rfl) ?_
  refine va_get (D := D) (ci := 1) (v := .int people) (C := RX1) (T := TX1) (N := 6) hx hb hts hinX1 hown hKK.1 hP 0 rfl rfl 1 (by decide) fl_15 (fun _ h9 => h9) rfl dX1_takeOn_1 ?_
  refine lv_istore_n (lv' := [(1, .int people), (0, .ref a_this)]) hx hb dX1_takeOn_4 rfl hl (by decide) rfl (fun ls hl => ?_)
  refine lv_iconst (v := 0) hx hb dX1_takeOn_5 (by decide) ?_
  refine lv_istore_n (lv' := [(2, .int 0), (1, .int people), (0, .ref a_this)]) hx hb dX1_takeOn_6 rfl hl (by decide) rfl (fun ls hl => ?_)
  have EX_7 : ∀ (marks_7 : Nat → Int32) (x2_7 : Int32), ∀ (H : Heap) (locs : List Loc), va_P D vwCl [(a_this, .inr (1, [.ref a_marks, .int people, .int living, .int shown, .int spent, .int days])), (a_marks, .inl (cI, 8, .inl marks_7))] H → va_D A [(a_this, .inr (1, [.ref a_marks, .int people, .int living, .int shown, .int spent, .int days])), (a_marks, .inl (cI, 8, .inl marks_7))] → va_S A s.heap H locs → ∀ (ls : Array Slot), lv_has ls 3 [(0, .ref a_this), (1, .int people), (2, .int x2_7)] → (wk_X1_takeOn_7 people living Φ marks_7 x2_7) → W p l e xrm_X1_takeOn s m args below meth c H locs 0 0 Q (F0 m 45 ls []) := by
    intro marks_7 x2_7 H locs hP hD hS ls hl hw
    unfold wk_X1_takeOn_7 at hw
    refine lv_aload_n hx hb dX1_takeOn_45 rfl (lv_at hl 0 rfl) ?_
    refine lv_dup hx hb dX1_takeOn_46 rfl ?_
    refine va_get (D := D) (ci := 1) (v := .int living) (C := RX1) (T := TX1) (N := 6) hx hb hts hinX1 hown hKK.1 hP 0 rfl rfl 2 (by decide) fl_19 (fun _ h9 => h9) rfl dX1_takeOn_47 ?_
    refine lv_iconst (v := 1) hx hb dX1_takeOn_50 (by decide) ?_
    refine lv_iload_n hx hb dX1_takeOn_51 rfl (lv_at hl 1 rfl) ?_
    refine lv_ishl hx hb dX1_takeOn_52 ?_
    refine lv_ior hx hb dX1_takeOn_53 ?_
    refine va_put (D := D) (ci := 1) (v := .int (living ||| ((1 : Int32) <<< (people &&& 31)))) (ty := .int) (C := RX1) (T := TX1) (N := 6) hx hb hts hinX1 tyX1 tyX1_ok nmX1 hown hKK.1 hP hD hS 0 rfl rfl 2 (by decide) fl_19 (fun _ h9 => h9) rfl (by decide +kernel) rfl rfl (Nat.le_of_ble_eq_true rfl) dX1_takeOn_54 (fun H locs hP hD hS => ?_)
    have hP : va_P D vwCl [(a_this, .inr (1, [.ref a_marks, .int people, .int (living ||| ((1 : Int32) <<< (people &&& 31))), .int shown, .int spent, .int days])), (a_marks, .inl (cI, 8, .inl marks_7))] H := hP
    have hD : va_D A [(a_this, .inr (1, [.ref a_marks, .int people, .int (living ||| ((1 : Int32) <<< (people &&& 31))), .int shown, .int spent, .int days])), (a_marks, .inl (cI, 8, .inl marks_7))] := hD
    refine lv_aload_n hx hb dX1_takeOn_57 rfl (lv_at hl 0 rfl) ?_
    refine lv_dup hx hb dX1_takeOn_58 rfl ?_
    refine va_get (D := D) (ci := 1) (v := .int people) (C := RX1) (T := TX1) (N := 6) hx hb hts hinX1 hown hKK.1 hP 0 rfl rfl 1 (by decide) fl_15 (fun _ h9 => h9) rfl dX1_takeOn_59 ?_
    refine lv_iconst (v := 1) hx hb dX1_takeOn_62 (by decide) ?_
    refine lv_iadd hx hb dX1_takeOn_63 ?_
    refine va_put (D := D) (ci := 1) (v := .int (people + 1)) (ty := .int) (C := RX1) (T := TX1) (N := 6) hx hb hts hinX1 tyX1 tyX1_ok nmX1 hown hKK.1 hP hD hS 0 rfl rfl 1 (by decide) fl_15 (fun _ h9 => h9) rfl (by decide +kernel) rfl rfl (Nat.le_of_ble_eq_true rfl) dX1_takeOn_64 (fun H locs hP hD hS => ?_)
    have hP : va_P D vwCl [(a_this, .inr (1, [.ref a_marks, .int (people + 1), .int (living ||| ((1 : Int32) <<< (people &&& 31))), .int shown, .int spent, .int days])), (a_marks, .inl (cI, 8, .inl marks_7))] H := hP
    have hD : va_D A [(a_this, .inr (1, [.ref a_marks, .int (people + 1), .int (living ||| ((1 : Int32) <<< (people &&& 31))), .int shown, .int spent, .int days])), (a_marks, .inl (cI, 8, .inl marks_7))] := hD
    refine lv_iload_n hx hb dX1_takeOn_67 rfl (lv_at hl 1 rfl) ?_
    rw [hQ]
    exact W.iret (v := people) hx hb hr (fun t ht _ => ⟨⟨people, ⟨(living ||| ((1 : Int32) <<< (people &&& 31))), (people + 1), marks_7⟩, rfl, hw, by rw [ht]; exact hP, hD⟩, hS.F ht⟩) hS.2.2 dX1_takeOn_68
  generalize (wk_X1_takeOn_7 people living Φ) = K_7 at EX_7 hw
  have LP_7 : ∀ n : Nat, ∀ (marks_7 : Nat → Int32) (x2_7 : Int32), ∀ (H : Heap) (locs : List Loc), va_P D vwCl [(a_this, .inr (1, [.ref a_marks, .int people, .int living, .int shown, .int spent, .int days])), (a_marks, .inl (cI, 8, .inl marks_7))] H → va_D A [(a_this, .inr (1, [.ref a_marks, .int people, .int living, .int shown, .int spent, .int days])), (a_marks, .inl (cI, 8, .inl marks_7))] → va_S A s.heap H locs → ∀ (ls : Array Slot), lv_has ls 3 [(0, .ref a_this), (1, .int people), (2, .int x2_7)] → xit2 (wb_X1_takeOn_7 people living K_7) n marks_7 x2_7 → W p l e xrm_X1_takeOn s m args below meth c H locs 0 0 Q (F0 m 7 ls []) := by
    intro n
    induction n with
    | zero => intro marks_7 x2_7 H locs hP hD hS ls hl hw; exact (show False from hw).elim
    | succ n ih =>
      intro marks_7 x2_7 H locs hP hD hS ls hl hw
      have hw : wb_X1_takeOn_7 people living K_7 (xit2 (wb_X1_takeOn_7 people living K_7) n) marks_7 x2_7 := hw
      generalize xit2 (wb_X1_takeOn_7 people living K_7) n = rec_7 at ih hw
      unfold wb_X1_takeOn_7 at hw
      refine lv_iload_n hx hb dX1_takeOn_7 rfl (lv_at hl 2 rfl) ?_
      refine lv_aload_n hx hb dX1_takeOn_8 rfl (lv_at hl 0 rfl) ?_
      refine va_get (D := D) (ci := 1) (v := .int people) (C := RX1) (T := TX1) (N := 6) hx hb hts hinX1 hown hKK.1 hP 0 rfl rfl 1 (by decide) fl_15 (fun _ h9 => h9) rfl dX1_takeOn_9 ?_
      refine lv_icmp_ge (tgt := 45) hx hb dX1_takeOn_12 (by decide) (fun c_12 => ?_) (fun c_12 => ?_)
      · have hw := hw.1 c_12
        exact EX_7 _ _ _ _ hP hD hS ls (lv_sub hl [0, 1, 2] rfl) hw
      · have hw := hw.2 c_12
        refine lv_aload_n hx hb dX1_takeOn_15 rfl (lv_at hl 0 rfl) ?_
        refine lv_iload_n hx hb dX1_takeOn_16 rfl (lv_at hl 2 rfl) ?_
        refine xcVi (q0 := 0) (ci := 1) (As := [.int x2_7]) (rest := []) (wc := [(a_this, .inr (1, [.ref a_marks, .int people, .int living, .int shown, .int spent, .int days]))]) ⟨hx, hb, hml, hown, hts⟩ (c_X1_lives l D cI cZ cO hw) (cwV 1 hts gX1_takeOn_X1_lives rfl rfl rfl (by decide +kernel) ⟨Nat.le_of_ble_eq_true rfl, Nat.le_of_ble_eq_true rfl⟩) hKK hP [0] rfl rfl rfl rfl hl.1 rfl (Nat.le_of_ble_eq_true rfl) dX1_takeOn_17 ⟨Nat.zero_le _, Nat.zero_le _⟩ (fun r_17 hw => ?_)
        refine lv_if_eq (tgt := 39) hx hb dX1_takeOn_20 (by decide) (fun c_20 => ?_) (fun c_20 => ?_)
        · have hw := hw.1 c_20
          refine lv_iinc (v := (x2_7 + 1)) (lv' := [(2, .int (x2_7 + 1)), (0, .ref a_this), (1, .int people)]) hx hb dX1_takeOn_39 hl (k := 2) rfl (by rfl) (by decide) rfl (fun ls hl => ?_)
          refine lv_goto (tgt := 7) hx hb dX1_takeOn_42 (by decide) ?_
          exact ih _ _ _ _ hP hD hS ls (lv_sub hl [1, 2, 0] rfl) hw
        · have hw := hw.2 c_20
          refine lv_aload_n hx hb dX1_takeOn_23 rfl (lv_at hl 0 rfl) ?_
          refine va_get (D := D) (ci := 1) (v := .ref a_marks) (C := RX1) (T := TX1) (N := 6) hx hb hts hinX1 hown hKK.1 hP 0 rfl rfl 0 (by decide) fl_9 (fun _ h9 => h9) rfl dX1_takeOn_24 ?_
          refine lv_iload_n hx hb dX1_takeOn_27 rfl (lv_at hl 1 rfl) ?_
          refine lv_aload_n hx hb dX1_takeOn_28 rfl (lv_at hl 0 rfl) ?_
          refine va_get (D := D) (ci := 1) (v := .ref a_marks) (C := RX1) (T := TX1) (N := 6) hx hb hts hinX1 hown hKK.1 hP 0 rfl rfl 0 (by decide) fl_9 (fun _ h9 => h9) rfl dX1_takeOn_29 ?_
          refine lv_iload_n hx hb dX1_takeOn_32 rfl (lv_at hl 2 rfl) ?_
          refine xcNi (As := [.ref a_marks, .int x2_7]) (rest := [.int people, .ref a_marks]) (wc := [(a_marks, .inl (cI, 8, .inl marks_7))]) ⟨hx, hb, hml, hown, hts⟩ (c_X7_at l D cI cZ cO hw) ⟨va_cnB 2 hts gX1_takeOn_X7_at_n39 rfl rfl rfl (xn_12 hKK.2) (hts (.initialized RX7) (by decide +kernel)) (by decide +kernel) ⟨Nat.le_of_ble_eq_true rfl, Nat.le_of_ble_eq_true rfl⟩, hts (.static yX7_at) (by decide +kernel), trivial⟩ hKK hP [1] rfl rfl hl.1 rfl (Nat.le_of_ble_eq_true rfl) dX1_takeOn_33 ⟨Nat.zero_le _, Nat.zero_le _⟩ (fun r_33 hw => ?_)
          refine xwNv (wr := [(a_this, .inr (1, [.ref a_marks, .int people, .int living, .int shown, .int spent, .int days]))]) (As := [.ref a_marks, .int people, .int r_33]) (rest := []) (wc := [(a_marks, .inl (cI, 8, .inl marks_7))]) (fun (u : (Nat → Int32)) => [(a_this, .inr (1, [.ref a_marks, .int people, .int living, .int shown, .int spent, .int days])), (a_marks, .inl (cI, 8, .inl u))]) ⟨hx, hb, hml, hown, hts⟩ (c_X7_put l D cI cZ cO hw) ⟨va_cnB 3 hts gX1_takeOn_X7_put_n43 rfl rfl rfl (xn_13 hKK.2) (hts (.initialized RX7) (by decide +kernel)) (by decide +kernel) ⟨Nat.le_of_ble_eq_true rfl, Nat.le_of_ble_eq_true rfl⟩, hts (.static yX7_put) (by decide +kernel), trivial⟩ hKK hP hD hS hA [1] [0] [0, 1] rfl rfl rfl rfl rfl (by decide) (fun _ => rfl) rfl hl.1 rfl (Nat.le_of_ble_eq_true rfl) dX1_takeOn_36 ⟨Nat.zero_le _, Nat.zero_le _⟩ (fun marks_36 H locs hw hP hD hS => ?_)
          have hP : va_P D vwCl [(a_this, .inr (1, [.ref a_marks, .int people, .int living, .int shown, .int spent, .int days])), (a_marks, .inl (cI, 8, .inl marks_36))] H := hP
          have hD : va_D A [(a_this, .inr (1, [.ref a_marks, .int people, .int living, .int shown, .int spent, .int days])), (a_marks, .inl (cI, 8, .inl marks_36))] := hD
          refine lv_iinc (v := (x2_7 + 1)) (lv' := [(2, .int (x2_7 + 1)), (0, .ref a_this), (1, .int people)]) hx hb dX1_takeOn_39 hl (k := 2) rfl (by rfl) (by decide) rfl (fun ls hl => ?_)
          refine lv_goto (tgt := 7) hx hb dX1_takeOn_42 (by decide) ?_
          exact ih _ _ _ _ hP hD hS ls (lv_sub hl [1, 2, 0] rfl) hw
  obtain ⟨n, hw⟩ := hw
  exact LP_7 n _ _ _ _ hP hD hS ls (lv_sub hl [2, 1, 0] rfl) hw
def wk_X1_alike_4 (Φ : Int32 → Prop) (x2_4 : Int32) (x3_4 : Int32) : Prop :=
  (Φ x2_4)
def wb_X1_alike_4 (living : Int32) (marks : Nat → Int32) (p1 : Int32) (K_4 : Int32 → Int32 → Prop) (rec_4 : Int32 → Int32 → Prop) (x2_4 : Int32) (x3_4 : Int32) : Prop :=
  ((8 ≤ x3_4 → (K_4 x2_4 x3_4)) ∧ (¬ 8 ≤ x3_4 → (wp_X1_lives living x3_4 (fun r_12 => ((r_12 = 0 → (rec_4 x2_4 (x3_4 + 1))) ∧ (¬ r_12 = 0 → (wp_X7_at marks 8 x3_4 (fun r_23 => (wp_X7_at marks 8 p1 (fun r_31 => ((r_23 = r_31 → (rec_4 (x2_4 ||| ((1 : Int32) <<< (x3_4 &&& 31))) (x3_4 + 1))) ∧ (¬ r_23 = r_31 → (rec_4 x2_4 (x3_4 + 1))))))))))))))
def wp_X1_alike (living : Int32) (marks : Nat → Int32) (p1 : Int32) (Φ : Int32 → Prop) : Prop :=
  (∃ n : Nat, xit2 (wb_X1_alike_4 living marks p1 (wk_X1_alike_4 Φ)) n 0 0)
abbrev xrm_X1_alike : Room := { frames := 2, cells := 0, slots := 0, locals := 42 }
set_option maxRecDepth 100000 in
set_option maxHeartbeats 4000000 in
theorem c_X1_alike (l : Launch) (D : va_G) (cI cZ cO : ClassId) {a_marks : Nat} {people : Int32} {living : Int32} {shown : Int32} {spent : Int32} {days : Int32} {a_this : Nat} {marks : Nat → Int32} {p1 : Int32} {Φ : Int32 → Prop} (hw : (wp_X1_alike living marks p1 Φ)) : Met l yX1_alike wsX1_alike xrm_X1_alike (xPR D cI cZ cO [.ref a_this, .int p1] [(a_this, .inr (1, [.ref a_marks, .int people, .int living, .int shown, .int spent, .int days])), (a_marks, .inl (cI, 8, .inl marks))]) (vp_Si Φ) 0 0 (fun _ => False) := by
  refine Met.ofW (cc := cX1_alike) (maxL := 4) (ret := (some .int)) (by decide) rfl ?_
  intro p e s m args below meth c s₁ B hml hv
  obtain ⟨rfl, hP, hKK⟩ := hv
  have hx := B.exec
  have hb := B.bytes
  have hr := B.returns
  have hts := atoms_spec (ws := wsX1_alike) B.pre
  have hown : s.vm.findClass RX1 = some m.cls := findClass_of_methodNamed B.named
  have hlocks := B.notSynchronized
  obtain ⟨Q, hQ⟩ : ∃ Q, Q = MQ below (vp_Si Φ) ([.ref a_this, .int p1] : List Value).toArray s 0 0 (fun _ => False) := ⟨_, rfl⟩
  rw [← hQ]
  have hl := lv_entry ([.ref a_this, .int p1]) (n := 4) (Nat.le_of_ble_eq_true rfl)
  rw [lg_entry_eq]
  generalize (lg_sl ([.ref a_this, .int p1]) ++ List.replicate (4 - (lg_sl ([.ref a_this, .int p1])).length) Slot.unset).toArray = ls at hl ⊢
  have hl : lv_has ls 4 [(0, .ref a_this), (1, .int p1)] := hl
  generalize ([.ref a_this, .int p1] : List Value).toArray = args at hts hQ ⊢
  have hP : va_P D vwCl [(a_this, .inr (1, [.ref a_marks, .int people, .int living, .int shown, .int spent, .int days])), (a_marks, .inl (cI, 8, .inl marks))] s.heap := hP
  have hinX1 : ∀ w ∈ u_ws RX1 TX1 6, w ∈ wsX1_alike := by decide +kernel
  have fl_9 := hts (.fieldLink RX1 9 "DoubleChain$Chain" "marks" "[I") (by decide +kernel)
  clear B
  show W p l e xrm_X1_alike s m args below meth c s.heap [] 0 0 Q (F0 m 0 ls [])
  unfold wp_X1_alike at hw
  refine lv_iconst (v := 0) hx hb dX1_alike_0 (by decide) ?_
  refine lv_istore_n (lv' := [(2, .int 0), (0, .ref a_this), (1, .int p1)]) hx hb dX1_alike_1 rfl hl (by decide) rfl (fun ls hl => ?_)
  refine lv_iconst (v := 0) hx hb dX1_alike_2 (by decide) ?_
  refine lv_istore_n (lv' := [(3, .int 0), (2, .int 0), (0, .ref a_this), (1, .int p1)]) hx hb dX1_alike_3 rfl hl (by decide) rfl (fun ls hl => ?_)
  have EX_4 : ∀ (x2_4 : Int32) (x3_4 : Int32), ∀ (ls : Array Slot), lv_has ls 4 [(0, .ref a_this), (1, .int p1), (2, .int x2_4), (3, .int x3_4)] → (wk_X1_alike_4 Φ x2_4 x3_4) → W p l e xrm_X1_alike s m args below meth c s.heap [] 0 0 Q (F0 m 49 ls []) := by
    intro x2_4 x3_4 ls hl hw
    unfold wk_X1_alike_4 at hw
    refine lv_iload_n hx hb dX1_alike_49 rfl (lv_at hl 2 rfl) ?_
    rw [hQ]
    exact W.iret (v := x2_4) hx hb hr (fun t ht _ => ⟨x2_4, rfl, hw, ht⟩) (fun _ h => (List.not_mem_nil h).elim) dX1_alike_50
  generalize (wk_X1_alike_4 Φ) = K_4 at EX_4 hw
  have LP_4 : ∀ n : Nat, ∀ (x2_4 : Int32) (x3_4 : Int32), ∀ (ls : Array Slot), lv_has ls 4 [(0, .ref a_this), (1, .int p1), (2, .int x2_4), (3, .int x3_4)] → xit2 (wb_X1_alike_4 living marks p1 K_4) n x2_4 x3_4 → W p l e xrm_X1_alike s m args below meth c s.heap [] 0 0 Q (F0 m 4 ls []) := by
    intro n
    induction n with
    | zero => intro x2_4 x3_4 ls hl hw; exact (show False from hw).elim
    | succ n ih =>
      intro x2_4 x3_4 ls hl hw
      have hw : wb_X1_alike_4 living marks p1 K_4 (xit2 (wb_X1_alike_4 living marks p1 K_4) n) x2_4 x3_4 := hw
      generalize xit2 (wb_X1_alike_4 living marks p1 K_4) n = rec_4 at ih hw
      unfold wb_X1_alike_4 at hw
      refine lv_iload_n hx hb dX1_alike_4 rfl (lv_at hl 3 rfl) ?_
      refine lv_bipush (v := 8) hx hb dX1_alike_5 (by decide) ?_
      refine lv_icmp_ge (tgt := 49) hx hb dX1_alike_7 (by decide) (fun c_7 => ?_) (fun c_7 => ?_)
      · have hw := hw.1 c_7
        exact EX_4 _ _ ls (lv_sub hl [0, 1, 2, 3] rfl) hw
      · have hw := hw.2 c_7
        refine lv_aload_n hx hb dX1_alike_10 rfl (lv_at hl 0 rfl) ?_
        refine lv_iload_n hx hb dX1_alike_11 rfl (lv_at hl 3 rfl) ?_
        refine xcVi (q0 := 0) (ci := 1) (As := [.int x3_4]) (rest := []) (wc := [(a_this, .inr (1, [.ref a_marks, .int people, .int living, .int shown, .int spent, .int days]))]) ⟨hx, hb, hml, hown, hts⟩ (c_X1_lives l D cI cZ cO hw) (cwV 1 hts gX1_alike_X1_lives rfl rfl rfl (by decide +kernel) ⟨Nat.le_of_ble_eq_true rfl, Nat.le_of_ble_eq_true rfl⟩) hKK hP [0] rfl rfl rfl rfl hl.1 rfl (Nat.le_of_ble_eq_true rfl) dX1_alike_12 ⟨Nat.zero_le _, Nat.zero_le _⟩ (fun r_12 hw => ?_)
        refine lv_if_eq (tgt := 43) hx hb dX1_alike_15 (by decide) (fun c_15 => ?_) (fun c_15 => ?_)
        · have hw := hw.1 c_15
          refine lv_iinc (v := (x3_4 + 1)) (lv' := [(3, .int (x3_4 + 1)), (0, .ref a_this), (1, .int p1), (2, .int x2_4)]) hx hb dX1_alike_43 hl (k := 3) rfl (by rfl) (by decide) rfl (fun ls hl => ?_)
          refine lv_goto (tgt := 4) hx hb dX1_alike_46 (by decide) ?_
          exact ih _ _ ls (lv_sub hl [1, 2, 3, 0] rfl) hw
        · have hw := hw.2 c_15
          refine lv_aload_n hx hb dX1_alike_18 rfl (lv_at hl 0 rfl) ?_
          refine va_get (D := D) (ci := 1) (v := .ref a_marks) (C := RX1) (T := TX1) (N := 6) hx hb hts hinX1 hown hKK.1 hP 0 rfl rfl 0 (by decide) fl_9 (fun _ h9 => h9) rfl dX1_alike_19 ?_
          refine lv_iload_n hx hb dX1_alike_22 rfl (lv_at hl 3 rfl) ?_
          refine xcNi (As := [.ref a_marks, .int x3_4]) (rest := []) (wc := [(a_marks, .inl (cI, 8, .inl marks))]) ⟨hx, hb, hml, hown, hts⟩ (c_X7_at l D cI cZ cO hw) ⟨va_cnB 2 hts gX1_alike_X7_at_n39 rfl rfl rfl (xn_12 hKK.2) (hts (.initialized RX7) (by decide +kernel)) (by decide +kernel) ⟨Nat.le_of_ble_eq_true rfl, Nat.le_of_ble_eq_true rfl⟩, hts (.static yX7_at) (by decide +kernel), trivial⟩ hKK hP [1] rfl rfl hl.1 rfl (Nat.le_of_ble_eq_true rfl) dX1_alike_23 ⟨Nat.zero_le _, Nat.zero_le _⟩ (fun r_23 hw => ?_)
          refine lv_aload_n hx hb dX1_alike_26 rfl (lv_at hl 0 rfl) ?_
          refine va_get (D := D) (ci := 1) (v := .ref a_marks) (C := RX1) (T := TX1) (N := 6) hx hb hts hinX1 hown hKK.1 hP 0 rfl rfl 0 (by decide) fl_9 (fun _ h9 => h9) rfl dX1_alike_27 ?_
          refine lv_iload_n hx hb dX1_alike_30 rfl (lv_at hl 1 rfl) ?_
          refine xcNi (As := [.ref a_marks, .int p1]) (rest := [.int r_23]) (wc := [(a_marks, .inl (cI, 8, .inl marks))]) ⟨hx, hb, hml, hown, hts⟩ (c_X7_at l D cI cZ cO hw) ⟨va_cnB 2 hts gX1_alike_X7_at_n39 rfl rfl rfl (xn_12 hKK.2) (hts (.initialized RX7) (by decide +kernel)) (by decide +kernel) ⟨Nat.le_of_ble_eq_true rfl, Nat.le_of_ble_eq_true rfl⟩, hts (.static yX7_at) (by decide +kernel), trivial⟩ hKK hP [1] rfl rfl hl.1 rfl (Nat.le_of_ble_eq_true rfl) dX1_alike_31 ⟨Nat.zero_le _, Nat.zero_le _⟩ (fun r_31 hw => ?_)
          refine lv_icmp_ne (tgt := 43) hx hb dX1_alike_34 (by decide) (fun c_34 => ?_) (fun c_34 => ?_)
          · have hw := hw.2 c_34
            refine lv_iinc (v := (x3_4 + 1)) (lv' := [(3, .int (x3_4 + 1)), (0, .ref a_this), (1, .int p1), (2, .int x2_4)]) hx hb dX1_alike_43 hl (k := 3) rfl (by rfl) (by decide) rfl (fun ls hl => ?_)
            refine lv_goto (tgt := 4) hx hb dX1_alike_46 (by decide) ?_
            exact ih _ _ ls (lv_sub hl [1, 2, 3, 0] rfl) hw
          · have hw := hw.1 c_34
            refine lv_iload_n hx hb dX1_alike_37 rfl (lv_at hl 2 rfl) ?_
            refine lv_iconst (v := 1) hx hb dX1_alike_38 (by decide) ?_
            refine lv_iload_n hx hb dX1_alike_39 rfl (lv_at hl 3 rfl) ?_
            refine lv_ishl hx hb dX1_alike_40 ?_
            refine lv_ior hx hb dX1_alike_41 ?_
            refine lv_istore_n (lv' := [(2, .int (x2_4 ||| ((1 : Int32) <<< (x3_4 &&& 31)))), (0, .ref a_this), (1, .int p1), (3, .int x3_4)]) hx hb dX1_alike_42 rfl hl (by decide) rfl (fun ls hl => ?_)
            refine lv_iinc (v := (x3_4 + 1)) (lv' := [(3, .int (x3_4 + 1)), (2, .int (x2_4 ||| ((1 : Int32) <<< (x3_4 &&& 31)))), (0, .ref a_this), (1, .int p1)]) hx hb dX1_alike_43 hl (k := 3) rfl (by rfl) (by decide) rfl (fun ls hl => ?_)
            refine lv_goto (tgt := 4) hx hb dX1_alike_46 (by decide) ?_
            exact ih _ _ ls (lv_sub hl [2, 3, 1, 0] rfl) hw
  obtain ⟨n, hw⟩ := hw
  exact LP_4 n _ _ ls (lv_sub hl [2, 3, 1, 0] rfl) hw
def wk_X1_countClasses_4 (Φ : Int32 → Prop) (x1_4 : Int32) (x2_4 : Int32) : Prop :=
  (Φ x1_4)
def wb_X1_countClasses_4 (living : Int32) (marks : Nat → Int32) (K_4 : Int32 → Int32 → Prop) (rec_4 : Int32 → Int32 → Prop) (x1_4 : Int32) (x2_4 : Int32) : Prop :=
  ((8 ≤ x2_4 → (K_4 x1_4 x2_4)) ∧ (¬ 8 ≤ x2_4 → (wp_X1_lives living x2_4 (fun r_12 => ((r_12 = 0 → (rec_4 x1_4 (x2_4 + 1))) ∧ (¬ r_12 = 0 → (wp_X1_alike living marks x2_4 (fun r_20 => (wp_X7_leastOf r_20 (fun r_23 => ((r_23 = ((1 : Int32) <<< (x2_4 &&& 31)) → (rec_4 (x1_4 + 1) (x2_4 + 1))) ∧ (¬ r_23 = ((1 : Int32) <<< (x2_4 &&& 31)) → (rec_4 x1_4 (x2_4 + 1))))))))))))))
def wp_X1_countClasses (living : Int32) (marks : Nat → Int32) (Φ : Int32 → Prop) : Prop :=
  (∃ n : Nat, xit2 (wb_X1_countClasses_4 living marks (wk_X1_countClasses_4 Φ)) n 0 0)
abbrev xrm_X1_countClasses : Room := { frames := 3, cells := 0, slots := 0, locals := 65 }
set_option maxRecDepth 100000 in
set_option maxHeartbeats 4000000 in
theorem c_X1_countClasses (l : Launch) (D : va_G) (cI cZ cO : ClassId) {a_marks : Nat} {people : Int32} {living : Int32} {shown : Int32} {spent : Int32} {days : Int32} {a_this : Nat} {marks : Nat → Int32} {Φ : Int32 → Prop} (hw : (wp_X1_countClasses living marks Φ)) : Met l yX1_countClasses wsX1_countClasses xrm_X1_countClasses (xPR D cI cZ cO [.ref a_this] [(a_this, .inr (1, [.ref a_marks, .int people, .int living, .int shown, .int spent, .int days])), (a_marks, .inl (cI, 8, .inl marks))]) (vp_Si Φ) 0 0 (fun _ => False) := by
  refine Met.ofW (cc := cX1_countClasses) (maxL := 3) (ret := (some .int)) (by decide) rfl ?_
  intro p e s m args below meth c s₁ B hml hv
  obtain ⟨rfl, hP, hKK⟩ := hv
  have hx := B.exec
  have hb := B.bytes
  have hr := B.returns
  have hts := atoms_spec (ws := wsX1_countClasses) B.pre
  have hown : s.vm.findClass RX1 = some m.cls := findClass_of_methodNamed B.named
  have hlocks := B.notSynchronized
  obtain ⟨Q, hQ⟩ : ∃ Q, Q = MQ below (vp_Si Φ) ([.ref a_this] : List Value).toArray s 0 0 (fun _ => False) := ⟨_, rfl⟩
  rw [← hQ]
  have hl := lv_entry ([.ref a_this]) (n := 3) (Nat.le_of_ble_eq_true rfl)
  rw [lg_entry_eq]
  generalize (lg_sl ([.ref a_this]) ++ List.replicate (3 - (lg_sl ([.ref a_this])).length) Slot.unset).toArray = ls at hl ⊢
  have hl : lv_has ls 3 [(0, .ref a_this)] := hl
  generalize ([.ref a_this] : List Value).toArray = args at hts hQ ⊢
  have hP : va_P D vwCl [(a_this, .inr (1, [.ref a_marks, .int people, .int living, .int shown, .int spent, .int days])), (a_marks, .inl (cI, 8, .inl marks))] s.heap := hP
  clear B
  show W p l e xrm_X1_countClasses s m args below meth c s.heap [] 0 0 Q (F0 m 0 ls [])
  unfold wp_X1_countClasses at hw
  refine lv_iconst (v := 0) hx hb dX1_countClasses_0 (by decide) ?_
  refine lv_istore_n (lv' := [(1, .int 0), (0, .ref a_this)]) hx hb dX1_countClasses_1 rfl hl (by decide) rfl (fun ls hl => ?_)
  refine lv_iconst (v := 0) hx hb dX1_countClasses_2 (by decide) ?_
  refine lv_istore_n (lv' := [(2, .int 0), (1, .int 0), (0, .ref a_this)]) hx hb dX1_countClasses_3 rfl hl (by decide) rfl (fun ls hl => ?_)
  have EX_4 : ∀ (x1_4 : Int32) (x2_4 : Int32), ∀ (ls : Array Slot), lv_has ls 3 [(0, .ref a_this), (1, .int x1_4), (2, .int x2_4)] → (wk_X1_countClasses_4 Φ x1_4 x2_4) → W p l e xrm_X1_countClasses s m args below meth c s.heap [] 0 0 Q (F0 m 41 ls []) := by
    intro x1_4 x2_4 ls hl hw
    unfold wk_X1_countClasses_4 at hw
    refine lv_iload_n hx hb dX1_countClasses_41 rfl (lv_at hl 1 rfl) ?_
    rw [hQ]
    exact W.iret (v := x1_4) hx hb hr (fun t ht _ => ⟨x1_4, rfl, hw, ht⟩) (fun _ h => (List.not_mem_nil h).elim) dX1_countClasses_42
  generalize (wk_X1_countClasses_4 Φ) = K_4 at EX_4 hw
  have LP_4 : ∀ n : Nat, ∀ (x1_4 : Int32) (x2_4 : Int32), ∀ (ls : Array Slot), lv_has ls 3 [(0, .ref a_this), (1, .int x1_4), (2, .int x2_4)] → xit2 (wb_X1_countClasses_4 living marks K_4) n x1_4 x2_4 → W p l e xrm_X1_countClasses s m args below meth c s.heap [] 0 0 Q (F0 m 4 ls []) := by
    intro n
    induction n with
    | zero => intro x1_4 x2_4 ls hl hw; exact (show False from hw).elim
    | succ n ih =>
      intro x1_4 x2_4 ls hl hw
      have hw : wb_X1_countClasses_4 living marks K_4 (xit2 (wb_X1_countClasses_4 living marks K_4) n) x1_4 x2_4 := hw
      generalize xit2 (wb_X1_countClasses_4 living marks K_4) n = rec_4 at ih hw
      unfold wb_X1_countClasses_4 at hw
      refine lv_iload_n hx hb dX1_countClasses_4 rfl (lv_at hl 2 rfl) ?_
      refine lv_bipush (v := 8) hx hb dX1_countClasses_5 (by decide) ?_
      refine lv_icmp_ge (tgt := 41) hx hb dX1_countClasses_7 (by decide) (fun c_7 => ?_) (fun c_7 => ?_)
      · have hw := hw.1 c_7
        exact EX_4 _ _ ls (lv_sub hl [0, 1, 2] rfl) hw
      · have hw := hw.2 c_7
        refine lv_aload_n hx hb dX1_countClasses_10 rfl (lv_at hl 0 rfl) ?_
        refine lv_iload_n hx hb dX1_countClasses_11 rfl (lv_at hl 2 rfl) ?_
        refine xcVi (q0 := 0) (ci := 1) (As := [.int x2_4]) (rest := []) (wc := [(a_this, .inr (1, [.ref a_marks, .int people, .int living, .int shown, .int spent, .int days]))]) ⟨hx, hb, hml, hown, hts⟩ (c_X1_lives l D cI cZ cO hw) (cwV 1 hts gX1_countClasses_X1_lives rfl rfl rfl (by decide +kernel) ⟨Nat.le_of_ble_eq_true rfl, Nat.le_of_ble_eq_true rfl⟩) hKK hP [0] rfl rfl rfl rfl hl.1 rfl (Nat.le_of_ble_eq_true rfl) dX1_countClasses_12 ⟨Nat.zero_le _, Nat.zero_le _⟩ (fun r_12 hw => ?_)
        refine lv_if_eq (tgt := 35) hx hb dX1_countClasses_15 (by decide) (fun c_15 => ?_) (fun c_15 => ?_)
        · have hw := hw.1 c_15
          refine lv_iinc (v := (x2_4 + 1)) (lv' := [(2, .int (x2_4 + 1)), (0, .ref a_this), (1, .int x1_4)]) hx hb dX1_countClasses_35 hl (k := 2) rfl (by rfl) (by decide) rfl (fun ls hl => ?_)
          refine lv_goto (tgt := 4) hx hb dX1_countClasses_38 (by decide) ?_
          exact ih _ _ ls (lv_sub hl [1, 2, 0] rfl) hw
        · have hw := hw.2 c_15
          refine lv_aload_n hx hb dX1_countClasses_18 rfl (lv_at hl 0 rfl) ?_
          refine lv_iload_n hx hb dX1_countClasses_19 rfl (lv_at hl 2 rfl) ?_
          refine xcVi (q0 := 0) (ci := 1) (As := [.int x2_4]) (rest := []) (wc := [(a_this, .inr (1, [.ref a_marks, .int people, .int living, .int shown, .int spent, .int days])), (a_marks, .inl (cI, 8, .inl marks))]) ⟨hx, hb, hml, hown, hts⟩ (c_X1_alike l D cI cZ cO hw) (cwV 1 hts gX1_countClasses_X1_alike rfl rfl rfl (by decide +kernel) ⟨Nat.le_of_ble_eq_true rfl, Nat.le_of_ble_eq_true rfl⟩) hKK hP [0, 1] rfl rfl rfl rfl hl.1 rfl (Nat.le_of_ble_eq_true rfl) dX1_countClasses_20 ⟨Nat.zero_le _, Nat.zero_le _⟩ (fun r_20 hw => ?_)
          refine xcNi (As := [.int r_20]) (rest := []) (wc := []) ⟨hx, hb, hml, hown, hts⟩ (c_X7_leastOf l D cI cZ cO hw) ⟨va_cnB 1 hts gX1_countClasses_X7_leastOf_n101 rfl rfl rfl (xn_17 hKK.2) (hts (.initialized RX7) (by decide +kernel)) (by decide +kernel) ⟨Nat.le_of_ble_eq_true rfl, Nat.le_of_ble_eq_true rfl⟩, hts (.static yX7_leastOf) (by decide +kernel), trivial⟩ hKK hP [] rfl rfl hl.1 rfl (Nat.le_of_ble_eq_true rfl) dX1_countClasses_23 ⟨Nat.zero_le _, Nat.zero_le _⟩ (fun r_23 hw => ?_)
          refine lv_iconst (v := 1) hx hb dX1_countClasses_26 (by decide) ?_
          refine lv_iload_n hx hb dX1_countClasses_27 rfl (lv_at hl 2 rfl) ?_
          refine lv_ishl hx hb dX1_countClasses_28 ?_
          refine lv_icmp_ne (tgt := 35) hx hb dX1_countClasses_29 (by decide) (fun c_29 => ?_) (fun c_29 => ?_)
          · have hw := hw.2 c_29
            refine lv_iinc (v := (x2_4 + 1)) (lv' := [(2, .int (x2_4 + 1)), (0, .ref a_this), (1, .int x1_4)]) hx hb dX1_countClasses_35 hl (k := 2) rfl (by rfl) (by decide) rfl (fun ls hl => ?_)
            refine lv_goto (tgt := 4) hx hb dX1_countClasses_38 (by decide) ?_
            exact ih _ _ ls (lv_sub hl [1, 2, 0] rfl) hw
          · have hw := hw.1 c_29
            refine lv_iinc (v := (x1_4 + 1)) (lv' := [(1, .int (x1_4 + 1)), (0, .ref a_this), (2, .int x2_4)]) hx hb dX1_countClasses_32 hl (k := 1) rfl (by rfl) (by decide) rfl (fun ls hl => ?_)
            refine lv_iinc (v := (x2_4 + 1)) (lv' := [(2, .int (x2_4 + 1)), (1, .int (x1_4 + 1)), (0, .ref a_this)]) hx hb dX1_countClasses_35 hl (k := 2) rfl (by rfl) (by decide) rfl (fun ls hl => ?_)
            refine lv_goto (tgt := 4) hx hb dX1_countClasses_38 (by decide) ?_
            exact ih _ _ ls (lv_sub hl [2, 1, 0] rfl) hw
  obtain ⟨n, hw⟩ := hw
  exact LP_4 n _ _ ls (lv_sub hl [2, 1, 0] rfl) hw
