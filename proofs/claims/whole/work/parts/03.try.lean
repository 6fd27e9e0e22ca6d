def wp_X7_at (p0 : Nat → Int32) (n_p0 : Nat) (p1 : Int32) (Φ : Int32 → Prop) : Prop :=
  ((p1 < 0 → (Φ 0)) ∧ (¬ p1 < 0 → (((Int32.ofNat n_p0) ≤ p1 → (Φ 0)) ∧ (¬ (Int32.ofNat n_p0) ≤ p1 → (vp_in p1 n_p0 ∧ (Φ (p0 p1.toNatClampNeg)))))))
abbrev xrm_X7_at : Room := { frames := 0, cells := 0, slots := 0, locals := 0 }
set_option maxRecDepth 100000 in
set_option maxHeartbeats 4000000 in
theorem c_X7_at (l : Launch) (D : va_G) (cI cZ cO : ClassId) {p0 : Nat → Int32} {a_p0 : Nat} {n_p0 : Nat} {p1 : Int32} {Φ : Int32 → Prop} (hw : (wp_X7_at p0 n_p0 p1 Φ)) : Met l yX7_at wsX7_at xrm_X7_at (xPR D cI cZ cO [.ref a_p0, .int p1] [(a_p0, .inl (cI, n_p0, .inl p0))]) (vp_Si Φ) 0 0 (fun _ => False) := by
  refine Met.ofW (cc := cX7_at) (maxL := 2) (ret := (some .int)) (by decide) rfl ?_
  intro p e s m args below meth c s₁ B hml hv
  obtain ⟨rfl, hP, hKK⟩ := hv
  have hx := B.exec
  have hb := B.bytes
  have hr := B.returns
  have hts := atoms_spec (ws := wsX7_at) B.pre
  have hown : s.vm.findClass RX7 = some m.cls := findClass_of_methodNamed B.named
  have hlocks := B.notSynchronized
  obtain ⟨Q, hQ⟩ : ∃ Q, Q = MQ below (vp_Si Φ) ([.ref a_p0, .int p1] : List Value).toArray s 0 0 (fun _ => False) := ⟨_, rfl⟩
  rw [← hQ]
  have hl := lv_entry ([.ref a_p0, .int p1]) (n := 2) (Nat.le_of_ble_eq_true rfl)
  rw [lg_entry_eq]
  generalize (lg_sl ([.ref a_p0, .int p1]) ++ List.replicate (2 - (lg_sl ([.ref a_p0, .int p1])).length) Slot.unset).toArray = ls at hl ⊢
  have hl : lv_has ls 2 [(0, .ref a_p0), (1, .int p1)] := hl
  generalize ([.ref a_p0, .int p1] : List Value).toArray = args at hts hQ ⊢
  have hP : va_P D vwCl [(a_p0, .inl (cI, n_p0, .inl p0))] s.heap := hP
  clear B
  show W p l e xrm_X7_at s m args below meth c s.heap [] 0 0 Q (F0 m 0 ls [])
  unfold wp_X7_at at hw
  refine lv_iload_n hx hb dX7_at_0 rfl (lv_at hl 1 rfl) ?_
  refine lv_if_lt (tgt := 16) hx hb dX7_at_1 (by decide) (fun c_1 => ?_) (fun c_1 => ?_)
  · have hw := hw.1 c_1
    refine lv_iconst (v := 0) hx hb dX7_at_16 (by decide) ?_
    rw [hQ]
    exact W.iret (v := 0) hx hb hr (fun t ht _ => ⟨0, rfl, hw, ht⟩) (fun _ h => (List.not_mem_nil h).elim) dX7_at_17
  · have hw := hw.2 c_1
    refine lv_iload_n hx hb dX7_at_4 rfl (lv_at hl 1 rfl) ?_
    refine lv_aload_n hx hb dX7_at_5 rfl (lv_at hl 0 rfl) ?_
    refine va_alen (v := (Int32.ofNat n_p0)) hx hb hKK.1 hP 0 0 rfl rfl rfl dX7_at_6 ?_
    refine lv_icmp_ge (tgt := 16) hx hb dX7_at_7 (by decide) (fun c_7 => ?_) (fun c_7 => ?_)
    · have hw := hw.1 c_7
      refine lv_iconst (v := 0) hx hb dX7_at_16 (by decide) ?_
      rw [hQ]
      exact W.iret (v := 0) hx hb hr (fun t ht _ => ⟨0, rfl, hw, ht⟩) (fun _ h => (List.not_mem_nil h).elim) dX7_at_17
    · have hw := hw.2 c_7
      refine lv_aload_n hx hb dX7_at_10 rfl (lv_at hl 0 rfl) ?_
      refine lv_iload_n hx hb dX7_at_11 rfl (lv_at hl 1 rfl) ?_
      obtain ⟨hin, hw⟩ := hw
      refine va_iald hx hb hKK.1 hP 0 0 rfl rfl hin dX7_at_12 ?_
      refine lv_goto (tgt := 17) hx hb dX7_at_13 (by decide) ?_
      rw [hQ]
      exact W.iret (v := (p0 p1.toNatClampNeg)) hx hb hr (fun t ht _ => ⟨(p0 p1.toNatClampNeg), rfl, hw, ht⟩) (fun _ h => (List.not_mem_nil h).elim) dX7_at_17
def wp_X7_holds (p0 : Int32) (p1 : Int32) (Φ : Int32 → Prop) : Prop :=
  ((((p0 >>> (p1 &&& 31)) &&& 1) = 1 → (Φ 1)) ∧ (¬ ((p0 >>> (p1 &&& 31)) &&& 1) = 1 → (Φ 0)))
abbrev xrm_X7_holds : Room := { frames := 0, cells := 0, slots := 0, locals := 0 }
set_option maxRecDepth 100000 in
set_option maxHeartbeats 4000000 in
theorem c_X7_holds (l : Launch) (D : va_G) (cI cZ cO : ClassId) {p0 : Int32} {p1 : Int32} {Φ : Int32 → Prop} (hw : (wp_X7_holds p0 p1 Φ)) : Met l yX7_holds wsX7_holds xrm_X7_holds (xPR D cI cZ cO [.int p0, .int p1] []) (vp_Si Φ) 0 0 (fun _ => False) := by
  refine Met.ofW (cc := cX7_holds) (maxL := 2) (ret := (some .boolean)) (by decide) rfl ?_
  intro p e s m args below meth c s₁ B hml hv
  obtain ⟨rfl, hP, hKK⟩ := hv
  have hx := B.exec
  have hb := B.bytes
  have hr := B.returns
  have hts := atoms_spec (ws := wsX7_holds) B.pre
  have hown : s.vm.findClass RX7 = some m.cls := findClass_of_methodNamed B.named
  have hlocks := B.notSynchronized
  obtain ⟨Q, hQ⟩ : ∃ Q, Q = MQ below (vp_Si Φ) ([.int p0, .int p1] : List Value).toArray s 0 0 (fun _ => False) := ⟨_, rfl⟩
  rw [← hQ]
  have hl := lv_entry ([.int p0, .int p1]) (n := 2) (Nat.le_of_ble_eq_true rfl)
  rw [lg_entry_eq]
  generalize (lg_sl ([.int p0, .int p1]) ++ List.replicate (2 - (lg_sl ([.int p0, .int p1])).length) Slot.unset).toArray = ls at hl ⊢
  have hl : lv_has ls 2 [(0, .int p0), (1, .int p1)] := hl
  generalize ([.int p0, .int p1] : List Value).toArray = args at hts hQ ⊢
  have hP : va_P D vwCl [] s.heap := hP
  clear B
  show W p l e xrm_X7_holds s m args below meth c s.heap [] 0 0 Q (F0 m 0 ls [])
  unfold wp_X7_holds at hw
  refine lv_iload_n hx hb dX7_holds_0 rfl (lv_at hl 0 rfl) ?_
  refine lv_iload_n hx hb dX7_holds_1 rfl (lv_at hl 1 rfl) ?_
  refine lv_ishr hx hb dX7_holds_2 ?_
  refine lv_iconst (v := 1) hx hb dX7_holds_3 (by decide) ?_
  refine lv_iand hx hb dX7_holds_4 ?_
  refine lv_iconst (v := 1) hx hb dX7_holds_5 (by decide) ?_
  refine lv_icmp_ne (tgt := 13) hx hb dX7_holds_6 (by decide) (fun c_6 => ?_) (fun c_6 => ?_)
  · have hw := hw.2 c_6
    refine lv_iconst (v := 0) hx hb dX7_holds_13 (by decide) ?_
    rw [hQ]
    exact W.zret (v := 0) hx hb hr xvz_0 (fun t ht _ => ⟨0, rfl, hw, ht⟩) (fun _ h => (List.not_mem_nil h).elim) dX7_holds_14
  · have hw := hw.1 c_6
    refine lv_iconst (v := 1) hx hb dX7_holds_9 (by decide) ?_
    refine lv_goto (tgt := 14) hx hb dX7_holds_10 (by decide) ?_
    rw [hQ]
    exact W.zret (v := 1) hx hb hr xvz_1 (fun t ht _ => ⟨1, rfl, hw, ht⟩) (fun _ h => (List.not_mem_nil h).elim) dX7_holds_14
def wp_X7_within (p0 : Int32) (p1 : Int32) (p2 : Int32) (Φ : Int32 → Prop) : Prop :=
  ((p0 < p1 → (Φ 0)) ∧ (¬ p0 < p1 → ((p2 < p0 → (Φ 0)) ∧ (¬ p2 < p0 → (Φ 1)))))
abbrev xrm_X7_within : Room := { frames := 0, cells := 0, slots := 0, locals := 0 }
set_option maxRecDepth 100000 in
set_option maxHeartbeats 4000000 in
theorem c_X7_within (l : Launch) (D : va_G) (cI cZ cO : ClassId) {p0 : Int32} {p1 : Int32} {p2 : Int32} {Φ : Int32 → Prop} (hw : (wp_X7_within p0 p1 p2 Φ)) : Met l yX7_within wsX7_within xrm_X7_within (xPR D cI cZ cO [.int p0, .int p1, .int p2] []) (vp_Si Φ) 0 0 (fun _ => False) := by
  refine Met.ofW (cc := cX7_within) (maxL := 3) (ret := (some .boolean)) (by decide) rfl ?_
  intro p e s m args below meth c s₁ B hml hv
  obtain ⟨rfl, hP, hKK⟩ := hv
  have hx := B.exec
  have hb := B.bytes
  have hr := B.returns
  have hts := atoms_spec (ws := wsX7_within) B.pre
  have hown : s.vm.findClass RX7 = some m.cls := findClass_of_methodNamed B.named
  have hlocks := B.notSynchronized
  obtain ⟨Q, hQ⟩ : ∃ Q, Q = MQ below (vp_Si Φ) ([.int p0, .int p1, .int p2] : List Value).toArray s 0 0 (fun _ => False) := ⟨_, rfl⟩
  rw [← hQ]
  have hl := lv_entry ([.int p0, .int p1, .int p2]) (n := 3) (Nat.le_of_ble_eq_true rfl)
  rw [lg_entry_eq]
  generalize (lg_sl ([.int p0, .int p1, .int p2]) ++ List.replicate (3 - (lg_sl ([.int p0, .int p1, .int p2])).length) Slot.unset).toArray = ls at hl ⊢
  have hl : lv_has ls 3 [(0, .int p0), (1, .int p1), (2, .int p2)] := hl
  generalize ([.int p0, .int p1, .int p2] : List Value).toArray = args at hts hQ ⊢
  have hP : va_P D vwCl [] s.heap := hP
  clear B
  show W p l e xrm_X7_within s m args below meth c s.heap [] 0 0 Q (F0 m 0 ls [])
  unfold wp_X7_within at hw
  refine lv_iload_n hx hb dX7_within_0 rfl (lv_at hl 0 rfl) ?_
  refine lv_iload_n hx hb dX7_within_1 rfl (lv_at hl 1 rfl) ?_
  refine lv_icmp_lt (tgt := 14) hx hb dX7_within_2 (by decide) (fun c_2 => ?_) (fun c_2 => ?_)
  · have hw := hw.1 c_2
    refine lv_iconst (v := 0) hx hb dX7_within_14 (by decide) ?_
    rw [hQ]
    exact W.zret (v := 0) hx hb hr xvz_0 (fun t ht _ => ⟨0, rfl, hw, ht⟩) (fun _ h => (List.not_mem_nil h).elim) dX7_within_15
  · have hw := hw.2 c_2
    refine lv_iload_n hx hb dX7_within_5 rfl (lv_at hl 0 rfl) ?_
    refine lv_iload_n hx hb dX7_within_6 rfl (lv_at hl 2 rfl) ?_
    refine lv_icmp_gt (tgt := 14) hx hb dX7_within_7 (by decide) (fun c_7 => ?_) (fun c_7 => ?_)
    · have hw := hw.1 c_7
      refine lv_iconst (v := 0) hx hb dX7_within_14 (by decide) ?_
      rw [hQ]
      exact W.zret (v := 0) hx hb hr xvz_0 (fun t ht _ => ⟨0, rfl, hw, ht⟩) (fun _ h => (List.not_mem_nil h).elim) dX7_within_15
    · have hw := hw.2 c_7
      refine lv_iconst (v := 1) hx hb dX7_within_10 (by decide) ?_
      refine lv_goto (tgt := 15) hx hb dX7_within_11 (by decide) ?_
      rw [hQ]
      exact W.zret (v := 1) hx hb hr xvz_1 (fun t ht _ => ⟨1, rfl, hw, ht⟩) (fun _ h => (List.not_mem_nil h).elim) dX7_within_15
def wp_X7_put (p0 : Nat → Int32) (n_p0 : Nat) (p1 : Int32) (p2 : Int32) (Φ : (Nat → Int32) → Prop) : Prop :=
  ((p1 < 0 → (Φ p0)) ∧ (¬ p1 < 0 → (((Int32.ofNat n_p0) ≤ p1 → (Φ p0)) ∧ (¬ (Int32.ofNat n_p0) ≤ p1 → (vp_in p1 n_p0 ∧ (Φ (upd p0 p1.toNatClampNeg p2)))))))
abbrev xrm_X7_put : Room := { frames := 0, cells := 0, slots := 0, locals := 0 }
set_option maxRecDepth 100000 in
set_option maxHeartbeats 4000000 in
theorem c_X7_put (l : Launch) (D : va_G) (cI cZ cO : ClassId) {p0 : Nat → Int32} {a_p0 : Nat} {n_p0 : Nat} {p1 : Int32} {p2 : Int32} {Φ : (Nat → Int32) → Prop} {sz : Nat} (hw : (wp_X7_put p0 n_p0 p1 p2 Φ)) : Met l yX7_put wsX7_put xrm_X7_put (xPW D cI cZ cO [.ref a_p0, .int p1, .int p2] sz [(a_p0, .inl (cI, n_p0, .inl p0))]) (va_Qv (fun (u : (Nat → Int32)) => Φ u) (xB D (va_A [(a_p0, .inl (cI, n_p0, .inl p0))] sz) (fun (u : (Nat → Int32)) => [(a_p0, .inl (cI, n_p0, .inl u))])) (va_A [(a_p0, .inl (cI, n_p0, .inl p0))] sz)) 0 0 (va_A [(a_p0, .inl (cI, n_p0, .inl p0))] sz) := by
  refine Met.ofW (cc := cX7_put) (maxL := 3) (ret := none) (by decide) rfl ?_
  intro p e s m args below meth c s₁ B hml hv
  obtain ⟨rfl, hsz, hP, hKK, hD0⟩ := hv
  have hx := B.exec
  have hb := B.bytes
  have hr := B.returns
  have hts := atoms_spec (ws := wsX7_put) B.pre
  have hown : s.vm.findClass RX7 = some m.cls := findClass_of_methodNamed B.named
  have hlocks := B.notSynchronized
  subst hsz
  have hD := hD0.self (sz := s.heap.size)
  obtain ⟨Q, hQ⟩ : ∃ Q, Q = MQ below (va_Qv (fun (u : (Nat → Int32)) => Φ u) (xB D (va_A [(a_p0, .inl (cI, n_p0, .inl p0))] s.heap.size) (fun (u : (Nat → Int32)) => [(a_p0, .inl (cI, n_p0, .inl u))])) (va_A [(a_p0, .inl (cI, n_p0, .inl p0))] s.heap.size)) ([.ref a_p0, .int p1, .int p2] : List Value).toArray s 0 0 (va_A [(a_p0, .inl (cI, n_p0, .inl p0))] s.heap.size) := ⟨_, rfl⟩
  rw [← hQ]
  generalize hAe : va_A [(a_p0, .inl (cI, n_p0, .inl p0))] s.heap.size = A at hD hQ
  have hA : ∀ q : Nat, s.heap.size ≤ q → A q := fun q h => by rw [← hAe]; exact Or.inr h
  have hS : va_S A s.heap s.heap [] := va_S.rf
  have hl := lv_entry ([.ref a_p0, .int p1, .int p2]) (n := 3) (Nat.le_of_ble_eq_true rfl)
  rw [lg_entry_eq]
  generalize (lg_sl ([.ref a_p0, .int p1, .int p2]) ++ List.replicate (3 - (lg_sl ([.ref a_p0, .int p1, .int p2])).length) Slot.unset).toArray = ls at hl ⊢
  have hl : lv_has ls 3 [(0, .ref a_p0), (1, .int p1), (2, .int p2)] := hl
  generalize ([.ref a_p0, .int p1, .int p2] : List Value).toArray = args at hts hQ ⊢
  have hP : va_P D vwCl [(a_p0, .inl (cI, n_p0, .inl p0))] s.heap := hP
  clear B
  show W p l e xrm_X7_put s m args below meth c s.heap [] 0 0 Q (F0 m 0 ls [])
  unfold wp_X7_put at hw
  refine lv_iload_n hx hb dX7_put_0 rfl (lv_at hl 1 rfl) ?_
  refine lv_if_lt (tgt := 14) hx hb dX7_put_1 (by decide) (fun c_1 => ?_) (fun c_1 => ?_)
  · have hw := hw.1 c_1
    rw [hQ]
    exact W.vret hx hb hr (fun t ht _ => ⟨⟨p0, rfl, hw, by rw [ht]; exact hP, hD⟩, hS.F ht⟩) hS.2.2 dX7_put_14
  · have hw := hw.2 c_1
    refine lv_iload_n hx hb dX7_put_4 rfl (lv_at hl 1 rfl) ?_
    refine lv_aload_n hx hb dX7_put_5 rfl (lv_at hl 0 rfl) ?_
    refine va_alen (v := (Int32.ofNat n_p0)) hx hb hKK.1 hP 0 0 rfl rfl rfl dX7_put_6 ?_
    refine lv_icmp_ge (tgt := 14) hx hb dX7_put_7 (by decide) (fun c_7 => ?_) (fun c_7 => ?_)
    · have hw := hw.1 c_7
      rw [hQ]
      exact W.vret hx hb hr (fun t ht _ => ⟨⟨p0, rfl, hw, by rw [ht]; exact hP, hD⟩, hS.F ht⟩) hS.2.2 dX7_put_14
    · have hw := hw.2 c_7
      refine lv_aload_n hx hb dX7_put_10 rfl (lv_at hl 0 rfl) ?_
      refine lv_iload_n hx hb dX7_put_11 rfl (lv_at hl 1 rfl) ?_
      refine lv_iload_n hx hb dX7_put_12 rfl (lv_at hl 2 rfl) ?_
      obtain ⟨hin, hw⟩ := hw
      refine va_iast hx hb hKK.1 hP hD hS 0 0 rfl rfl hin dX7_put_13 (fun H locs hP hD hS => ?_)
      have hP : va_P D vwCl [(a_p0, .inl (cI, n_p0, .inl (upd p0 p1.toNatClampNeg p2)))] H := hP
      have hD : va_D A [(a_p0, .inl (cI, n_p0, .inl (upd p0 p1.toNatClampNeg p2)))] := hD
      rw [hQ]
      exact W.vret hx hb hr (fun t ht _ => ⟨⟨(upd p0 p1.toNatClampNeg p2), rfl, hw, by rw [ht]; exact hP, hD⟩, hS.F ht⟩) hS.2.2 dX7_put_14
def wp_X7_leastOf (p0 : Int32) (Φ : Int32 → Prop) : Prop :=
  (Φ (p0 &&& (-p0)))
abbrev xrm_X7_leastOf : Room := { frames := 0, cells := 0, slots := 0, locals := 0 }
set_option maxRecDepth 100000 in
set_option maxHeartbeats 4000000 in
theorem c_X7_leastOf (l : Launch) (D : va_G) (cI cZ cO : ClassId) {p0 : Int32} {Φ : Int32 → Prop} (hw : (wp_X7_leastOf p0 Φ)) : Met l yX7_leastOf wsX7_leastOf xrm_X7_leastOf (xPR D cI cZ cO [.int p0] []) (vp_Si Φ) 0 0 (fun _ => False) := by
  refine Met.ofW (cc := cX7_leastOf) (maxL := 1) (ret := (some .int)) (by decide) rfl ?_
  intro p e s m args below meth c s₁ B hml hv
  obtain ⟨rfl, hP, hKK⟩ := hv
  have hx := B.exec
  have hb := B.bytes
  have hr := B.returns
  have hts := atoms_spec (ws := wsX7_leastOf) B.pre
  have hown : s.vm.findClass RX7 = some m.cls := findClass_of_methodNamed B.named
  have hlocks := B.notSynchronized
  obtain ⟨Q, hQ⟩ : ∃ Q, Q = MQ below (vp_Si Φ) ([.int p0] : List Value).toArray s 0 0 (fun _ => False) := ⟨_, rfl⟩
  rw [← hQ]
  have hl := lv_entry ([.int p0]) (n := 1) (Nat.le_of_ble_eq_true rfl)
  rw [lg_entry_eq]
  generalize (lg_sl ([.int p0]) ++ List.replicate (1 - (lg_sl ([.int p0])).length) Slot.unset).toArray = ls at hl ⊢
  have hl : lv_has ls 1 [(0, .int p0)] := hl
  generalize ([.int p0] : List Value).toArray = args at hts hQ ⊢
  have hP : va_P D vwCl [] s.heap := hP
  clear B
  show W p l e xrm_X7_leastOf s m args below meth c s.heap [] 0 0 Q (F0 m 0 ls [])
  unfold wp_X7_leastOf at hw
  refine lv_iload_n hx hb dX7_leastOf_0 rfl (lv_at hl 0 rfl) ?_
  refine lv_iload_n hx hb dX7_leastOf_1 rfl (lv_at hl 0 rfl) ?_
  refine lv_ineg hx hb dX7_leastOf_2 ?_
  refine lv_iand hx hb dX7_leastOf_3 ?_
  rw [hQ]
  exact W.iret (v := (p0 &&& (-p0))) hx hb hr (fun t ht _ => ⟨(p0 &&& (-p0)), rfl, hw, ht⟩) (fun _ h => (List.not_mem_nil h).elim) dX7_leastOf_4
def wp_X1_lives (living : Int32) (p1 : Int32) (Φ : Int32 → Prop) : Prop :=
  (wp_X7_holds living p1 (fun r_5 => ((xvz r_5 ∧ Φ r_5))))
abbrev xrm_X1_lives : Room := { frames := 1, cells := 0, slots := 0, locals := 21 }
set_option maxRecDepth 100000 in
set_option maxHeartbeats 4000000 in
theorem c_X1_lives (l : Launch) (D : va_G) (cI cZ cO : ClassId) {a_marks : Nat} {people : Int32} {living : Int32} {shown : Int32} {spent : Int32} {days : Int32} {a_this : Nat} {p1 : Int32} {Φ : Int32 → Prop} (hw : (wp_X1_lives living p1 Φ)) : Met l yX1_lives wsX1_lives xrm_X1_lives (xPR D cI cZ cO [.ref a_this, .int p1] [(a_this, .inr (1, [.ref a_marks, .int people, .int living, .int shown, .int spent, .int days]))]) (vp_Si Φ) 0 0 (fun _ => False) := by
  refine Met.ofW (cc := cX1_lives) (maxL := 2) (ret := (some .boolean)) (by decide) rfl ?_
  intro p e s m args below meth c s₁ B hml hv
  obtain ⟨rfl, hP, hKK⟩ := hv
  have hx := B.exec
  have hb := B.bytes
  have hr := B.returns
  have hts := atoms_spec (ws := wsX1_lives) B.pre
  have hown : s.vm.findClass RX1 = some m.cls := findClass_of_methodNamed B.named
  have hlocks := B.notSynchronized
  obtain ⟨Q, hQ⟩ : ∃ Q, Q = MQ below (vp_Si Φ) ([.ref a_this, .int p1] : List Value).toArray s 0 0 (fun _ => False) := ⟨_, rfl⟩
  rw [← hQ]
  have hl := lv_entry ([.ref a_this, .int p1]) (n := 2) (Nat.le_of_ble_eq_true rfl)
  rw [lg_entry_eq]
  generalize (lg_sl ([.ref a_this, .int p1]) ++ List.replicate (2 - (lg_sl ([.ref a_this, .int p1])).length) Slot.unset).toArray = ls at hl ⊢
  have hl : lv_has ls 2 [(0, .ref a_this), (1, .int p1)] := hl
  generalize ([.ref a_this, .int p1] : List Value).toArray = args at hts hQ ⊢
  have hP : va_P D vwCl [(a_this, .inr (1, [.ref a_marks, .int people, .int living, .int shown, .int spent, .int days]))] s.heap := hP
  have hinX1 : ∀ w ∈ u_ws RX1 TX1 6, w ∈ wsX1_lives := by decide +kernel
  have fl_19 := hts (.fieldLink RX1 19 "DoubleChain$Chain" "living" "I") (by decide +kernel)
  clear B
  show W p l e xrm_X1_lives s m args below meth c s.heap [] 0 0 Q (F0 m 0 ls [])
  unfold wp_X1_lives at hw
  refine lv_aload_n hx hb dX1_lives_0 rfl (lv_at hl 0 rfl) ?_
  refine va_get (D := D) (ci := 1) (v := .int living) (C := RX1) (T := TX1) (N := 6) hx hb hts hinX1 hown hKK.1 hP 0 rfl rfl 2 (by decide) fl_19 (fun _ h9 => h9) rfl dX1_lives_1 ?_
  refine lv_iload_n hx hb dX1_lives_4 rfl (lv_at hl 1 rfl) ?_
  refine xcNi (As := [.int living, .int p1]) (rest := []) (wc := []) ⟨hx, hb, hml, hown, hts⟩ (c_X7_holds l D cI cZ cO hw) ⟨va_cnB 2 hts gX1_lives_X7_holds_n47 rfl rfl rfl (xn_15 hKK.2) (hts (.initialized RX7) (by decide +kernel)) (by decide +kernel) ⟨Nat.le_of_ble_eq_true rfl, Nat.le_of_ble_eq_true rfl⟩, hts (.static yX7_holds) (by decide +kernel), trivial⟩ hKK hP [] rfl rfl hl.1 rfl (Nat.le_of_ble_eq_true rfl) dX1_lives_5 ⟨Nat.zero_le _, Nat.zero_le _⟩ (fun r_5 hw => ?_)
  obtain ⟨hvz, hw⟩ := hw
  rw [hQ]
  exact W.zret (v := r_5) hx hb hr hvz (fun t ht _ => ⟨r_5, rfl, hw, ht⟩) (fun _ h => (List.not_mem_nil h).elim) dX1_lives_8
def wp_X2_goesOut (inWeathers : Nat → Int32) (inHours : Nat → Int32) (fears : Nat → Int32) (p1 : Int32) (p2 : Int32) (p3 : Int32) (p4 : Int32) (Φ : Int32 → Prop) : Prop :=
  (wp_X7_at inWeathers 8 p1 (fun r_5 => (wp_X7_holds r_5 p2 (fun r_9 => ((r_9 = 0 → (wp_X7_at inHours 8 p1 (fun r_20 => (wp_X7_holds r_20 p3 (fun r_24 => ((r_24 = 0 → (wp_X7_at fears 8 p1 (fun r_37 => ((r_37 < p4 → (Φ 0)) ∧ (¬ r_37 < p4 → (Φ 1)))))) ∧ (¬ r_24 = 0 → (Φ 0)))))))) ∧ (¬ r_9 = 0 → (Φ 0)))))))
abbrev xrm_X2_goesOut : Room := { frames := 1, cells := 0, slots := 0, locals := 21 }
set_option maxRecDepth 100000 in
set_option maxHeartbeats 4000000 in
theorem c_X2_goesOut (l : Launch) (D : va_G) (cI cZ cO : ClassId) {a_marks : Nat} {a_inWeathers : Nat} {a_inHours : Nat} {a_fears : Nat} {a_weathers : Nat} {a_hours : Nat} {a_dangers : Nat} {pay : Int32} {people : Int32} {days : Int32} {a_this : Nat} {inWeathers : Nat → Int32} {inHours : Nat → Int32} {fears : Nat → Int32} {p1 : Int32} {p2 : Int32} {p3 : Int32} {p4 : Int32} {Φ : Int32 → Prop} (hw : (wp_X2_goesOut inWeathers inHours fears p1 p2 p3 p4 Φ)) : Met l yX2_goesOut wsX2_goesOut xrm_X2_goesOut (xPR D cI cZ cO [.ref a_this, .int p1, .int p2, .int p3, .int p4] [(a_this, .inr (2, [.ref a_marks, .ref a_inWeathers, .ref a_inHours, .ref a_fears, .ref a_weathers, .ref a_hours, .ref a_dangers, .int pay, .int people, .int days])), (a_inWeathers, .inl (cI, 8, .inl inWeathers)), (a_inHours, .inl (cI, 8, .inl inHours)), (a_fears, .inl (cI, 8, .inl fears))]) (vp_Si Φ) 0 0 (fun _ => False) := by
  refine Met.ofW (cc := cX2_goesOut) (maxL := 5) (ret := (some .boolean)) (by decide) rfl ?_
  intro p e s m args below meth c s₁ B hml hv
  obtain ⟨rfl, hP, hKK⟩ := hv
  have hx := B.exec
  have hb := B.bytes
  have hr := B.returns
  have hts := atoms_spec (ws := wsX2_goesOut) B.pre
  have hown : s.vm.findClass RX2 = some m.cls := findClass_of_methodNamed B.named
  have hlocks := B.notSynchronized
  obtain ⟨Q, hQ⟩ : ∃ Q, Q = MQ below (vp_Si Φ) ([.ref a_this, .int p1, .int p2, .int p3, .int p4] : List Value).toArray s 0 0 (fun _ => False) := ⟨_, rfl⟩
  rw [← hQ]
  have hl := lv_entry ([.ref a_this, .int p1, .int p2, .int p3, .int p4]) (n := 5) (Nat.le_of_ble_eq_true rfl)
  rw [lg_entry_eq]
  generalize (lg_sl ([.ref a_this, .int p1, .int p2, .int p3, .int p4]) ++ List.replicate (5 - (lg_sl ([.ref a_this, .int p1, .int p2, .int p3, .int p4])).length) Slot.unset).toArray = ls at hl ⊢
  have hl : lv_has ls 5 [(0, .ref a_this), (1, .int p1), (2, .int p2), (3, .int p3), (4, .int p4)] := hl
  generalize ([.ref a_this, .int p1, .int p2, .int p3, .int p4] : List Value).toArray = args at hts hQ ⊢
  have hP : va_P D vwCl [(a_this, .inr (2, [.ref a_marks, .ref a_inWeathers, .ref a_inHours, .ref a_fears, .ref a_weathers, .ref a_hours, .ref a_dangers, .int pay, .int people, .int days])), (a_inWeathers, .inl (cI, 8, .inl inWeathers)), (a_inHours, .inl (cI, 8, .inl inHours)), (a_fears, .inl (cI, 8, .inl fears))] s.heap := hP
  have hinX2 : ∀ w ∈ u_ws RX2 TX2 10, w ∈ wsX2_goesOut := by decide +kernel
  have fl_15 := hts (.fieldLink RX2 15 "DoubleChain$Court" "inWeathers" "[I") (by decide +kernel)
  have fl_18 := hts (.fieldLink RX2 18 "DoubleChain$Court" "inHours" "[I") (by decide +kernel)
  have fl_21 := hts (.fieldLink RX2 21 "DoubleChain$Court" "fears" "[I") (by decide +kernel)
  clear B
  show W p l e xrm_X2_goesOut s m args below meth c s.heap [] 0 0 Q (F0 m 0 ls [])
  unfold wp_X2_goesOut at hw
  refine lv_aload_n hx hb dX2_goesOut_0 rfl (lv_at hl 0 rfl) ?_
  refine va_get (D := D) (ci := 2) (v := .ref a_inWeathers) (C := RX2) (T := TX2) (N := 10) hx hb hts hinX2 hown hKK.1 hP 0 rfl rfl 1 (by decide) fl_15 (fun _ h9 => h9) rfl dX2_goesOut_1 ?_
  refine lv_iload_n hx hb dX2_goesOut_4 rfl (lv_at hl 1 rfl) ?_
  refine xcNi (As := [.ref a_inWeathers, .int p1]) (rest := []) (wc := [(a_inWeathers, .inl (cI, 8, .inl inWeathers))]) ⟨hx, hb, hml, hown, hts⟩ (c_X7_at l D cI cZ cO hw) ⟨va_cnB 2 hts gX2_goesOut_X7_at_n51 rfl rfl rfl (xn_14 hKK.2) (hts (.initialized RX7) (by decide +kernel)) (by decide +kernel) ⟨Nat.le_of_ble_eq_true rfl, Nat.le_of_ble_eq_true rfl⟩, hts (.static yX7_at) (by decide +kernel), trivial⟩ hKK hP [1] rfl rfl hl.1 rfl (Nat.le_of_ble_eq_true rfl) dX2_goesOut_5 ⟨Nat.zero_le _, Nat.zero_le _⟩ (fun r_5 hw => ?_)
  refine lv_iload_n hx hb dX2_goesOut_8 rfl (lv_at hl 2 rfl) ?_
  refine xcNi (As := [.int r_5, .int p2]) (rest := []) (wc := []) ⟨hx, hb, hml, hown, hts⟩ (c_X7_holds l D cI cZ cO hw) ⟨va_cnB 2 hts gX2_goesOut_X7_holds_n54 rfl rfl rfl (xn_16 hKK.2) (hts (.initialized RX7) (by decide +kernel)) (by decide +kernel) ⟨Nat.le_of_ble_eq_true rfl, Nat.le_of_ble_eq_true rfl⟩, hts (.static yX7_holds) (by decide +kernel), trivial⟩ hKK hP [] rfl rfl hl.1 rfl (Nat.le_of_ble_eq_true rfl) dX2_goesOut_9 ⟨Nat.zero_le _, Nat.zero_le _⟩ (fun r_9 hw => ?_)
  refine lv_if_ne (tgt := 47) hx hb dX2_goesOut_12 (by decide) (fun c_12 => ?_) (fun c_12 => ?_)
  · have hw := hw.2 c_12
    refine lv_iconst (v := 0) hx hb dX2_goesOut_47 (by decide) ?_
    rw [hQ]
    exact W.zret (v := 0) hx hb hr xvz_0 (fun t ht _ => ⟨0, rfl, hw, ht⟩) (fun _ h => (List.not_mem_nil h).elim) dX2_goesOut_48
  · have hw := hw.1 c_12
    refine lv_aload_n hx hb dX2_goesOut_15 rfl (lv_at hl 0 rfl) ?_
    refine va_get (D := D) (ci := 2) (v := .ref a_inHours) (C := RX2) (T := TX2) (N := 10) hx hb hts hinX2 hown hKK.1 hP 0 rfl rfl 2 (by decide) fl_18 (fun _ h9 => h9) rfl dX2_goesOut_16 ?_
    refine lv_iload_n hx hb dX2_goesOut_19 rfl (lv_at hl 1 rfl) ?_
    refine xcNi (As := [.ref a_inHours, .int p1]) (rest := []) (wc := [(a_inHours, .inl (cI, 8, .inl inHours))]) ⟨hx, hb, hml, hown, hts⟩ (c_X7_at l D cI cZ cO hw) ⟨va_cnB 2 hts gX2_goesOut_X7_at_n51 rfl rfl rfl (xn_14 hKK.2) (hts (.initialized RX7) (by decide +kernel)) (by decide +kernel) ⟨Nat.le_of_ble_eq_true rfl, Nat.le_of_ble_eq_true rfl⟩, hts (.static yX7_at) (by decide +kernel), trivial⟩ hKK hP [2] rfl rfl hl.1 rfl (Nat.le_of_ble_eq_true rfl) dX2_goesOut_20 ⟨Nat.zero_le _, Nat.zero_le _⟩ (fun r_20 hw => ?_)
    refine lv_iload_n hx hb dX2_goesOut_23 rfl (lv_at hl 3 rfl) ?_
    refine xcNi (As := [.int r_20, .int p3]) (rest := []) (wc := []) ⟨hx, hb, hml, hown, hts⟩ (c_X7_holds l D cI cZ cO hw) ⟨va_cnB 2 hts gX2_goesOut_X7_holds_n54 rfl rfl rfl (xn_16 hKK.2) (hts (.initialized RX7) (by decide +kernel)) (by decide +kernel) ⟨Nat.le_of_ble_eq_true rfl, Nat.le_of_ble_eq_true rfl⟩, hts (.static yX7_holds) (by decide +kernel), trivial⟩ hKK hP [] rfl rfl hl.1 rfl (Nat.le_of_ble_eq_true rfl) dX2_goesOut_24 ⟨Nat.zero_le _, Nat.zero_le _⟩ (fun r_24 hw => ?_)
    refine lv_if_ne (tgt := 47) hx hb dX2_goesOut_27 (by decide) (fun c_27 => ?_) (fun c_27 => ?_)
    · have hw := hw.2 c_27
      refine lv_iconst (v := 0) hx hb dX2_goesOut_47 (by decide) ?_
      rw [hQ]
      exact W.zret (v := 0) hx hb hr xvz_0 (fun t ht _ => ⟨0, rfl, hw, ht⟩) (fun _ h => (List.not_mem_nil h).elim) dX2_goesOut_48
    · have hw := hw.1 c_27
      refine lv_iload hx hb dX2_goesOut_30 (lv_at hl 4 rfl) ?_
      refine lv_aload_n hx hb dX2_goesOut_32 rfl (lv_at hl 0 rfl) ?_
      refine va_get (D := D) (ci := 2) (v := .ref a_fears) (C := RX2) (T := TX2) (N := 10) hx hb hts hinX2 hown hKK.1 hP 0 rfl rfl 3 (by decide) fl_21 (fun _ h9 => h9) rfl dX2_goesOut_33 ?_
      refine lv_iload_n hx hb dX2_goesOut_36 rfl (lv_at hl 1 rfl) ?_
      refine xcNi (As := [.ref a_fears, .int p1]) (rest := [.int p4]) (wc := [(a_fears, .inl (cI, 8, .inl fears))]) ⟨hx, hb, hml, hown, hts⟩ (c_X7_at l D cI cZ cO hw) ⟨va_cnB 2 hts gX2_goesOut_X7_at_n51 rfl rfl rfl (xn_14 hKK.2) (hts (.initialized RX7) (by decide +kernel)) (by decide +kernel) ⟨Nat.le_of_ble_eq_true rfl, Nat.le_of_ble_eq_true rfl⟩, hts (.static yX7_at) (by decide +kernel), trivial⟩ hKK hP [3] rfl rfl hl.1 rfl (Nat.le_of_ble_eq_true rfl) dX2_goesOut_37 ⟨Nat.zero_le _, Nat.zero_le _⟩ (fun r_37 hw => ?_)
      refine lv_icmp_gt (tgt := 47) hx hb dX2_goesOut_40 (by decide) (fun c_40 => ?_) (fun c_40 => ?_)
      · have hw := hw.1 c_40
        refine lv_iconst (v := 0) hx hb dX2_goesOut_47 (by decide) ?_
        rw [hQ]
        exact W.zret (v := 0) hx hb hr xvz_0 (fun t ht _ => ⟨0, rfl, hw, ht⟩) (fun _ h => (List.not_mem_nil h).elim) dX2_goesOut_48
      · have hw := hw.2 c_40
        refine lv_iconst (v := 1) hx hb dX2_goesOut_43 (by decide) ?_
        refine lv_goto (tgt := 48) hx hb dX2_goesOut_44 (by decide) ?_
        rw [hQ]
        exact W.zret (v := 1) hx hb hr xvz_1 (fun t ht _ => ⟨1, rfl, hw, ht⟩) (fun _ h => (List.not_mem_nil h).elim) dX2_goesOut_48
def wk_X1_seenBy_3 (Φ : Int32 → Prop) (x5_3 : Int32) : Prop :=
  (Φ (-1))
def wb_X1_seenBy_3 (living : Int32) (p1_inWeathers : Nat → Int32) (p1_inHours : Nat → Int32) (p1_fears : Nat → Int32) (p2 : Int32) (p3 : Int32) (p4 : Int32) (Φ : Int32 → Prop) (K_3 : Int32 → Prop) (rec_3 : Int32 → Prop) (x5_3 : Int32) : Prop :=
  ((8 ≤ x5_3 → (K_3 x5_3)) ∧ (¬ 8 ≤ x5_3 → (wp_X1_lives living x5_3 (fun r_13 => ((r_13 = 0 → (rec_3 (x5_3 + 1))) ∧ (¬ r_13 = 0 → (wp_X2_goesOut p1_inWeathers p1_inHours p1_fears x5_3 p2 p3 p4 (fun r_26 => ((r_26 = 0 → (rec_3 (x5_3 + 1))) ∧ (¬ r_26 = 0 → (Φ x5_3)))))))))))
def wp_X1_seenBy (living : Int32) (p1_inWeathers : Nat → Int32) (p1_inHours : Nat → Int32) (p1_fears : Nat → Int32) (p2 : Int32) (p3 : Int32) (p4 : Int32) (Φ : Int32 → Prop) : Prop :=
  (∃ n : Nat, xit1 (wb_X1_seenBy_3 living p1_inWeathers p1_inHours p1_fears p2 p3 p4 Φ (wk_X1_seenBy_3 Φ)) n 0)
abbrev xrm_X1_seenBy : Room := { frames := 2, cells := 0, slots := 0, locals := 45 }
set_option maxRecDepth 100000 in
set_option maxHeartbeats 4000000 in
theorem c_X1_seenBy (l : Launch) (D : va_G) (cI cZ cO : ClassId) {a_marks : Nat} {people : Int32} {living : Int32} {shown : Int32} {spent : Int32} {days : Int32} {a_this : Nat} {a_p1_marks : Nat} {a_p1_inWeathers : Nat} {a_p1_inHours : Nat} {a_p1_fears : Nat} {a_p1_weathers : Nat} {a_p1_hours : Nat} {a_p1_dangers : Nat} {p1_pay : Int32} {p1_people : Int32} {p1_days : Int32} {a_p1 : Nat} {p1_inWeathers : Nat → Int32} {p1_inHours : Nat → Int32} {p1_fears : Nat → Int32} {p2 : Int32} {p3 : Int32} {p4 : Int32} {Φ : Int32 → Prop} (hw : (wp_X1_seenBy living p1_inWeathers p1_inHours p1_fears p2 p3 p4 Φ)) : Met l yX1_seenBy wsX1_seenBy xrm_X1_seenBy (xPR D cI cZ cO [.ref a_this, .ref a_p1, .int p2, .int p3, .int p4] [(a_this, .inr (1, [.ref a_marks, .int people, .int living, .int shown, .int spent, .int days])), (a_p1, .inr (2, [.ref a_p1_marks, .ref a_p1_inWeathers, .ref a_p1_inHours, .ref a_p1_fears, .ref a_p1_weathers, .ref a_p1_hours, .ref a_p1_dangers, .int p1_pay, .int p1_people, .int p1_days])), (a_p1_inWeathers, .inl (cI, 8, .inl p1_inWeathers)), (a_p1_inHours, .inl (cI, 8, .inl p1_inHours)), (a_p1_fears, .inl (cI, 8, .inl p1_fears))]) (vp_Si Φ) 0 0 (fun _ => False) := by
  refine Met.ofW (cc := cX1_seenBy) (maxL := 6) (ret := (some .int)) (by decide) rfl ?_
  intro p e s m args below meth c s₁ B hml hv
  obtain ⟨rfl, hP, hKK⟩ := hv
  have hx := B.exec
  have hb := B.bytes
  have hr := B.returns
  have hts := atoms_spec (ws := wsX1_seenBy) B.pre
  have hown : s.vm.findClass RX1 = some m.cls := findClass_of_methodNamed B.named
  have hlocks := B.notSynchronized
  obtain ⟨Q, hQ⟩ : ∃ Q, Q = MQ below (vp_Si Φ) ([.ref a_this, .ref a_p1, .int p2, .int p3, .int p4] : List Value).toArray s 0 0 (fun _ => False) := ⟨_, rfl⟩
  rw [← hQ]
  have hl := lv_entry ([.ref a_this, .ref a_p1, .int p2, .int p3, .int p4]) (n := 6) (Nat.le_of_ble_eq_true rfl)
  rw [lg_entry_eq]
  generalize (lg_sl ([.ref a_this, .ref a_p1, .int p2, .int p3, .int p4]) ++ List.replicate (6 - (lg_sl ([.ref a_this, .ref a_p1, .int p2, .int p3, .int p4])).length) Slot.unset).toArray = ls at hl ⊢
  have hl : lv_has ls 6 [(0, .ref a_this), (1, .ref a_p1), (2, .int p2), (3, .int p3), (4, .int p4)] := hl
  generalize ([.ref a_this, .ref a_p1, .int p2, .int p3, .int p4] : List Value).toArray = args at hts hQ ⊢
  have hP : va_P D vwCl [(a_this, .inr (1, [.ref a_marks, .int people, .int living, .int shown, .int spent, .int days])), (a_p1, .inr (2, [.ref a_p1_marks, .ref a_p1_inWeathers, .ref a_p1_inHours, .ref a_p1_fears, .ref a_p1_weathers, .ref a_p1_hours, .ref a_p1_dangers, .int p1_pay, .int p1_people, .int p1_days])), (a_p1_inWeathers, .inl (cI, 8, .inl p1_inWeathers)), (a_p1_inHours, .inl (cI, 8, .inl p1_inHours)), (a_p1_fears, .inl (cI, 8, .inl p1_fears))] s.heap := hP
  clear B
  show W p l e xrm_X1_seenBy s m args below meth c s.heap [] 0 0 Q (F0 m 0 ls [])
  unfold wp_X1_seenBy at hw
  refine lv_iconst (v := 0) hx hb dX1_seenBy_0 (by decide) ?_
  refine lv_istore (lv' := [(5, .int 0), (0, .ref a_this), (1, .ref a_p1), (2, .int p2), (3, .int p3), (4, .int p4)]) hx hb dX1_seenBy_1 hl (by decide) rfl (fun ls hl => ?_)
  have EX_3 : ∀ (x5_3 : Int32), ∀ (ls : Array Slot), lv_has ls 6 [(0, .ref a_this), (1, .ref a_p1), (2, .int p2), (3, .int p3), (4, .int p4), (5, .int x5_3)] → (wk_X1_seenBy_3 Φ x5_3) → W p l e xrm_X1_seenBy s m args below meth c s.heap [] 0 0 Q (F0 m 41 ls []) := by
    intro x5_3 ls hl hw
    unfold wk_X1_seenBy_3 at hw
    refine lv_iconst (v := (-1)) hx hb dX1_seenBy_41 (by decide) ?_
    rw [hQ]
    exact W.iret (v := (-1)) hx hb hr (fun t ht _ => ⟨(-1), rfl, hw, ht⟩) (fun _ h => (List.not_mem_nil h).elim) dX1_seenBy_42
  generalize (wk_X1_seenBy_3 Φ) = K_3 at EX_3 hw
  have LP_3 : ∀ n : Nat, ∀ (x5_3 : Int32), ∀ (ls : Array Slot), lv_has ls 6 [(0, .ref a_this), (1, .ref a_p1), (2, .int p2), (3, .int p3), (4, .int p4), (5, .int x5_3)] → xit1 (wb_X1_seenBy_3 living p1_inWeathers p1_inHours p1_fears p2 p3 p4 Φ K_3) n x5_3 → W p l e xrm_X1_seenBy s m args below meth c s.heap [] 0 0 Q (F0 m 3 ls []) := by
    intro n
    induction n with
    | zero => intro x5_3 ls hl hw; exact (show False from hw).elim
    | succ n ih =>
      intro x5_3 ls hl hw
      have hw : wb_X1_seenBy_3 living p1_inWeathers p1_inHours p1_fears p2 p3 p4 Φ K_3 (xit1 (wb_X1_seenBy_3 living p1_inWeathers p1_inHours p1_fears p2 p3 p4 Φ K_3) n) x5_3 := hw
      generalize xit1 (wb_X1_seenBy_3 living p1_inWeathers p1_inHours p1_fears p2 p3 p4 Φ K_3) n = rec_3 at ih hw
      unfold wb_X1_seenBy_3 at hw
      refine lv_iload hx hb dX1_seenBy_3 (lv_at hl 5 rfl) ?_
      refine lv_bipush (v := 8) hx hb dX1_seenBy_5 (by decide) ?_
      refine lv_icmp_ge (tgt := 41) hx hb dX1_seenBy_7 (by decide) (fun c_7 => ?_) (fun c_7 => ?_)
      · have hw := hw.1 c_7
        exact EX_3 _ ls (lv_sub hl [0, 1, 2, 3, 4, 5] rfl) hw
      · have hw := hw.2 c_7
        refine lv_aload_n hx hb dX1_seenBy_10 rfl (lv_at hl 0 rfl) ?_
        refine lv_iload hx hb dX1_seenBy_11 (lv_at hl 5 rfl) ?_
        refine xcVi (q0 := 0) (ci := 1) (As := [.int x5_3]) (rest := []) (wc := [(a_this, .inr (1, [.ref a_marks, .int people, .int living, .int shown, .int spent, .int days]))]) ⟨hx, hb, hml, hown, hts⟩ (c_X1_lives l D cI cZ cO hw) (cwV 1 hts gX1_seenBy_X1_lives rfl rfl rfl (by decide +kernel) ⟨Nat.le_of_ble_eq_true rfl, Nat.le_of_ble_eq_true rfl⟩) hKK hP [0] rfl rfl rfl rfl hl.1 rfl (Nat.le_of_ble_eq_true rfl) dX1_seenBy_13 ⟨Nat.zero_le _, Nat.zero_le _⟩ (fun r_13 hw => ?_)
        refine lv_if_eq (tgt := 35) hx hb dX1_seenBy_16 (by decide) (fun c_16 => ?_) (fun c_16 => ?_)
        · have hw := hw.1 c_16
          refine lv_iinc (v := (x5_3 + 1)) (lv' := [(5, .int (x5_3 + 1)), (0, .ref a_this), (1, .ref a_p1), (2, .int p2), (3, .int p3), (4, .int p4)]) hx hb dX1_seenBy_35 hl (k := 5) rfl (by rfl) (by decide) rfl (fun ls hl => ?_)
          refine lv_goto (tgt := 3) hx hb dX1_seenBy_38 (by decide) ?_
          exact ih _ ls (lv_sub hl [1, 2, 3, 4, 5, 0] rfl) hw
        · have hw := hw.2 c_16
          refine lv_aload_n hx hb dX1_seenBy_19 rfl (lv_at hl 1 rfl) ?_
          refine lv_iload hx hb dX1_seenBy_20 (lv_at hl 5 rfl) ?_
          refine lv_iload_n hx hb dX1_seenBy_22 rfl (lv_at hl 2 rfl) ?_
          refine lv_iload_n hx hb dX1_seenBy_23 rfl (lv_at hl 3 rfl) ?_
          refine lv_iload hx hb dX1_seenBy_24 (lv_at hl 4 rfl) ?_
          refine xcVi (q0 := 1) (ci := 2) (As := [.int x5_3, .int p2, .int p3, .int p4]) (rest := []) (wc := [(a_p1, .inr (2, [.ref a_p1_marks, .ref a_p1_inWeathers, .ref a_p1_inHours, .ref a_p1_fears, .ref a_p1_weathers, .ref a_p1_hours, .ref a_p1_dangers, .int p1_pay, .int p1_people, .int p1_days])), (a_p1_inWeathers, .inl (cI, 8, .inl p1_inWeathers)), (a_p1_inHours, .inl (cI, 8, .inl p1_inHours)), (a_p1_fears, .inl (cI, 8, .inl p1_fears))]) ⟨hx, hb, hml, hown, hts⟩ (c_X2_goesOut l D cI cZ cO hw) (cwV 4 hts gX1_seenBy_X2_goesOut rfl rfl rfl (by decide +kernel) ⟨Nat.le_of_ble_eq_true rfl, Nat.le_of_ble_eq_true rfl⟩) hKK hP [1, 2, 3, 4] rfl rfl rfl rfl hl.1 rfl (Nat.le_of_ble_eq_true rfl) dX1_seenBy_26 ⟨Nat.zero_le _, Nat.zero_le _⟩ (fun r_26 hw => ?_)
          refine lv_if_eq (tgt := 35) hx hb dX1_seenBy_29 (by decide) (fun c_29 => ?_) (fun c_29 => ?_)
          · have hw := hw.1 c_29
            refine lv_iinc (v := (x5_3 + 1)) (lv' := [(5, .int (x5_3 + 1)), (0, .ref a_this), (1, .ref a_p1), (2, .int p2), (3, .int p3), (4, .int p4)]) hx hb dX1_seenBy_35 hl (k := 5) rfl (by rfl) (by decide) rfl (fun ls hl => ?_)
            refine lv_goto (tgt := 3) hx hb dX1_seenBy_38 (by decide) ?_
            exact ih _ ls (lv_sub hl [1, 2, 3, 4, 5, 0] rfl) hw
          · have hw := hw.2 c_29
            refine lv_iload hx hb dX1_seenBy_32 (lv_at hl 5 rfl) ?_
            rw [hQ]
            exact W.iret (v := x5_3) hx hb hr (fun t ht _ => ⟨x5_3, rfl, hw, ht⟩) (fun _ h => (List.not_mem_nil h).elim) dX1_seenBy_34
  obtain ⟨n, hw⟩ := hw
  exact LP_3 n _ ls (lv_sub hl [1, 2, 3, 4, 5, 0] rfl) hw

