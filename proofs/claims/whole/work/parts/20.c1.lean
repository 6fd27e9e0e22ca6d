def wk_X1_isUnlikeThoseBehind_4 (Φ : Int32 → Prop) (x3_4 : Int32) : Prop :=
  (Φ 1)
def wb_X1_isUnlikeThoseBehind_4 (living : Int32) (marks : Nat → Int32) (p1 : Int32) (p2 : Int32) (Φ : Int32 → Prop) (K_4 : Int32 → Prop) (rec_4 : Int32 → Prop) (x3_4 : Int32) : Prop :=
  ((8 ≤ x3_4 → (K_4 x3_4)) ∧ (¬ 8 ≤ x3_4 → (wp_X1_lives living x3_4 (fun r_12 => ((r_12 = 0 → (rec_4 (x3_4 + 1))) ∧ (¬ r_12 = 0 → (wp_X7_at marks 8 p1 (fun r_23 => (wp_X7_at marks 8 x3_4 (fun r_31 => ((((r_23 ^^^ r_31) &&& p2) = 0 → (Φ 0)) ∧ (¬ ((r_23 ^^^ r_31) &&& p2) = 0 → (rec_4 (x3_4 + 1))))))))))))))
def wp_X1_isUnlikeThoseBehind (living : Int32) (marks : Nat → Int32) (p1 : Int32) (p2 : Int32) (Φ : Int32 → Prop) : Prop :=
  (∃ n : Nat, xit1 (wb_X1_isUnlikeThoseBehind_4 living marks p1 p2 Φ (wk_X1_isUnlikeThoseBehind_4 Φ)) n (p1 + 1))
abbrev xrm_X1_isUnlikeThoseBehind : Room := { frames := 2, cells := 0, slots := 0, locals := 42 }
set_option maxRecDepth 100000 in
set_option maxHeartbeats 4000000 in
theorem c_X1_isUnlikeThoseBehind (l : Launch) (D : va_G) (cI cZ cO : ClassId) {a_marks : Nat} {people : Int32} {living : Int32} {shown : Int32} {spent : Int32} {days : Int32} {a_this : Nat} {marks : Nat → Int32} {p1 : Int32} {p2 : Int32} {Φ : Int32 → Prop} (hw : (wp_X1_isUnlikeThoseBehind living marks p1 p2 Φ)) : Met l yX1_isUnlikeThoseBehind wsX1_isUnlikeThoseBehind xrm_X1_isUnlikeThoseBehind (xPR D cI cZ cO [.ref a_this, .int p1, .int p2] [(a_this, .inr (1, [.ref a_marks, .int people, .int living, .int shown, .int spent, .int days])), (a_marks, .inl (cI, 8, .inl marks))]) (vp_Si Φ) 0 0 (fun _ => False) := by
  refine Met.ofW (cc := cX1_isUnlikeThoseBehind) (maxL := 4) (ret := (some .boolean)) (by decide) rfl ?_
  intro p e s m args below meth c s₁ B hml hv
  obtain ⟨rfl, hP, hKK⟩ := hv
  have hx := B.exec
  have hb := B.bytes
  have hr := B.returns
  have hts := atoms_spec (ws := wsX1_isUnlikeThoseBehind) B.pre
  have hown : s.vm.findClass RX1 = some m.cls := findClass_of_methodNamed B.named
  have hlocks := B.notSynchronized
  obtain ⟨Q, hQ⟩ : ∃ Q, Q = MQ below (vp_Si Φ) ([.ref a_this, .int p1, .int p2] : List Value).toArray s 0 0 (fun _ => False) := ⟨_, rfl⟩
  rw [← hQ]
  have hl := lv_entry ([.ref a_this, .int p1, .int p2]) (n := 4) (Nat.le_of_ble_eq_true rfl)
  rw [lg_entry_eq]
  generalize (lg_sl ([.ref a_this, .int p1, .int p2]) ++ List.replicate (4 - (lg_sl ([.ref a_this, .int p1, .int p2])).length) Slot.unset).toArray = ls at hl ⊢
  have hl : lv_has ls 4 [(0, .ref a_this), (1, .int p1), (2, .int p2)] := hl
  generalize ([.ref a_this, .int p1, .int p2] : List Value).toArray = args at hts hQ ⊢
  have hP : va_P D vwCl [(a_this, .inr (1, [.ref a_marks, .int people, .int living, .int shown, .int spent, .int days])), (a_marks, .inl (cI, 8, .inl marks))] s.heap := hP
  have hinX1 : ∀ w ∈ u_ws RX1 TX1 6, w ∈ wsX1_isUnlikeThoseBehind := by decide +kernel
  have fl_9 := hts (.fieldLink RX1 9 "DoubleChain$Chain" "marks" "[I") (by decide +kernel)
  clear B
  show W p l e xrm_X1_isUnlikeThoseBehind s m args below meth c s.heap [] 0 0 Q (F0 m 0 ls [])
  unfold wp_X1_isUnlikeThoseBehind at hw
  refine lv_iload_n hx hb dX1_isUnlikeThoseBehind_0 rfl (lv_at hl 1 rfl) ?_
  refine lv_iconst (v := 1) hx hb dX1_isUnlikeThoseBehind_1 (by decide) ?_
  refine lv_iadd hx hb dX1_isUnlikeThoseBehind_2 ?_
  refine lv_istore_n (lv' := [(3, .int (p1 + 1)), (0, .ref a_this), (1, .int p1), (2, .int p2)]) hx hb dX1_isUnlikeThoseBehind_3 rfl hl (by decide) rfl (fun ls hl => ?_)
  have EX_4 : ∀ (x3_4 : Int32), ∀ (ls : Array Slot), lv_has ls 4 [(0, .ref a_this), (1, .int p1), (2, .int p2), (3, .int x3_4)] → (wk_X1_isUnlikeThoseBehind_4 Φ x3_4) → W p l e xrm_X1_isUnlikeThoseBehind s m args below meth c s.heap [] 0 0 Q (F0 m 48 ls []) := by
    intro x3_4 ls hl hw
    unfold wk_X1_isUnlikeThoseBehind_4 at hw
    refine lv_iconst (v := 1) hx hb dX1_isUnlikeThoseBehind_48 (by decide) ?_
    rw [hQ]
    exact W.zret (v := 1) hx hb hr xvz_1 (fun t ht _ => ⟨1, rfl, hw, ht⟩) (fun _ h => (List.not_mem_nil h).elim) dX1_isUnlikeThoseBehind_49
  generalize (wk_X1_isUnlikeThoseBehind_4 Φ) = K_4 at EX_4 hw
  have LP_4 : ∀ n : Nat, ∀ (x3_4 : Int32), ∀ (ls : Array Slot), lv_has ls 4 [(0, .ref a_this), (1, .int p1), (2, .int p2), (3, .int x3_4)] → xit1 (wb_X1_isUnlikeThoseBehind_4 living marks p1 p2 Φ K_4) n x3_4 → W p l e xrm_X1_isUnlikeThoseBehind s m args below meth c s.heap [] 0 0 Q (F0 m 4 ls []) := by
    intro n
    induction n with
    | zero => intro x3_4 ls hl hw; exact (show False from hw).elim
    | succ n ih =>
      intro x3_4 ls hl hw
      have hw : wb_X1_isUnlikeThoseBehind_4 living marks p1 p2 Φ K_4 (xit1 (wb_X1_isUnlikeThoseBehind_4 living marks p1 p2 Φ K_4) n) x3_4 := hw
      generalize xit1 (wb_X1_isUnlikeThoseBehind_4 living marks p1 p2 Φ K_4) n = rec_4 at ih hw
      unfold wb_X1_isUnlikeThoseBehind_4 at hw
      refine lv_iload_n hx hb dX1_isUnlikeThoseBehind_4 rfl (lv_at hl 3 rfl) ?_
      refine lv_bipush (v := 8) hx hb dX1_isUnlikeThoseBehind_5 (by decide) ?_
      refine lv_icmp_ge (tgt := 48) hx hb dX1_isUnlikeThoseBehind_7 (by decide) (fun c_7 => ?_) (fun c_7 => ?_)
      · have hw := hw.1 c_7
        exact EX_4 _ ls (lv_sub hl [0, 1, 2, 3] rfl) hw
      · have hw := hw.2 c_7
        refine lv_aload_n hx hb dX1_isUnlikeThoseBehind_10 rfl (lv_at hl 0 rfl) ?_
        refine lv_iload_n hx hb dX1_isUnlikeThoseBehind_11 rfl (lv_at hl 3 rfl) ?_
        refine xcVi (q0 := 0) (ci := 1) (As := [.int x3_4]) (rest := []) (wc := [(a_this, .inr (1, [.ref a_marks, .int people, .int living, .int shown, .int spent, .int days]))]) ⟨hx, hb, hml, hown, hts⟩ (c_X1_lives l D cI cZ cO hw) (cwV 1 hts gX1_isUnlikeThoseBehind_X1_lives rfl rfl rfl (by decide +kernel) ⟨Nat.le_of_ble_eq_true rfl, Nat.le_of_ble_eq_true rfl⟩) hKK hP [0] rfl rfl rfl rfl hl.1 rfl (Nat.le_of_ble_eq_true rfl) dX1_isUnlikeThoseBehind_12 ⟨Nat.zero_le _, Nat.zero_le _⟩ (fun r_12 hw => ?_)
        refine lv_if_eq (tgt := 42) hx hb dX1_isUnlikeThoseBehind_15 (by decide) (fun c_15 => ?_) (fun c_15 => ?_)
        · have hw := hw.1 c_15
          refine lv_iinc (v := (x3_4 + 1)) (lv' := [(3, .int (x3_4 + 1)), (0, .ref a_this), (1, .int p1), (2, .int p2)]) hx hb dX1_isUnlikeThoseBehind_42 hl (k := 3) rfl (by rfl) (by decide) rfl (fun ls hl => ?_)
          refine lv_goto (tgt := 4) hx hb dX1_isUnlikeThoseBehind_45 (by decide) ?_
          exact ih _ ls (lv_sub hl [1, 2, 3, 0] rfl) hw
        · have hw := hw.2 c_15
          refine lv_aload_n hx hb dX1_isUnlikeThoseBehind_18 rfl (lv_at hl 0 rfl) ?_
          refine va_get (D := D) (ci := 1) (v := .ref a_marks) (C := RX1) (T := TX1) (N := 6) hx hb hts hinX1 hown hKK.1 hP 0 rfl rfl 0 (by decide) fl_9 (fun _ h9 => h9) rfl dX1_isUnlikeThoseBehind_19 ?_
          refine lv_iload_n hx hb dX1_isUnlikeThoseBehind_22 rfl (lv_at hl 1 rfl) ?_
          refine xcNi (As := [.ref a_marks, .int p1]) (rest := []) (wc := [(a_marks, .inl (cI, 8, .inl marks))]) ⟨hx, hb, hml, hown, hts⟩ (c_X7_at l D cI cZ cO hw) ⟨va_cnB 2 hts gX1_isUnlikeThoseBehind_X7_at_n39 rfl rfl rfl (xn_12 hKK.2) (hts (.initialized RX7) (by decide +kernel)) (by decide +kernel) ⟨Nat.le_of_ble_eq_true rfl, Nat.le_of_ble_eq_true rfl⟩, hts (.static yX7_at) (by decide +kernel), trivial⟩ hKK hP [1] rfl rfl hl.1 rfl (Nat.le_of_ble_eq_true rfl) dX1_isUnlikeThoseBehind_23 ⟨Nat.zero_le _, Nat.zero_le _⟩ (fun r_23 hw => ?_)
          refine lv_aload_n hx hb dX1_isUnlikeThoseBehind_26 rfl (lv_at hl 0 rfl) ?_
          refine va_get (D := D) (ci := 1) (v := .ref a_marks) (C := RX1) (T := TX1) (N := 6) hx hb hts hinX1 hown hKK.1 hP 0 rfl rfl 0 (by decide) fl_9 (fun _ h9 => h9) rfl dX1_isUnlikeThoseBehind_27 ?_
          refine lv_iload_n hx hb dX1_isUnlikeThoseBehind_30 rfl (lv_at hl 3 rfl) ?_
          refine xcNi (As := [.ref a_marks, .int x3_4]) (rest := [.int r_23]) (wc := [(a_marks, .inl (cI, 8, .inl marks))]) ⟨hx, hb, hml, hown, hts⟩ (c_X7_at l D cI cZ cO hw) ⟨va_cnB 2 hts gX1_isUnlikeThoseBehind_X7_at_n39 rfl rfl rfl (xn_12 hKK.2) (hts (.initialized RX7) (by decide +kernel)) (by decide +kernel) ⟨Nat.le_of_ble_eq_true rfl, Nat.le_of_ble_eq_true rfl⟩, hts (.static yX7_at) (by decide +kernel), trivial⟩ hKK hP [1] rfl rfl hl.1 rfl (Nat.le_of_ble_eq_true rfl) dX1_isUnlikeThoseBehind_31 ⟨Nat.zero_le _, Nat.zero_le _⟩ (fun r_31 hw => ?_)
          refine lv_ixor hx hb dX1_isUnlikeThoseBehind_34 ?_
          refine lv_iload_n hx hb dX1_isUnlikeThoseBehind_35 rfl (lv_at hl 2 rfl) ?_
          refine lv_iand hx hb dX1_isUnlikeThoseBehind_36 ?_
          refine lv_if_ne (tgt := 42) hx hb dX1_isUnlikeThoseBehind_37 (by decide) (fun c_37 => ?_) (fun c_37 => ?_)
          · have hw := hw.2 c_37
            refine lv_iinc (v := (x3_4 + 1)) (lv' := [(3, .int (x3_4 + 1)), (0, .ref a_this), (1, .int p1), (2, .int p2)]) hx hb dX1_isUnlikeThoseBehind_42 hl (k := 3) rfl (by rfl) (by decide) rfl (fun ls hl => ?_)
            refine lv_goto (tgt := 4) hx hb dX1_isUnlikeThoseBehind_45 (by decide) ?_
            exact ih _ ls (lv_sub hl [1, 2, 3, 0] rfl) hw
          · have hw := hw.1 c_37
            refine lv_iconst (v := 0) hx hb dX1_isUnlikeThoseBehind_40 (by decide) ?_
            rw [hQ]
            exact W.zret (v := 0) hx hb hr xvz_0 (fun t ht _ => ⟨0, rfl, hw, ht⟩) (fun _ h => (List.not_mem_nil h).elim) dX1_isUnlikeThoseBehind_41
  obtain ⟨n, hw⟩ := hw
  exact LP_4 n _ ls (lv_sub hl [1, 2, 3, 0] rfl) hw
def wk_X1_isToldBy_2 (Φ : Int32 → Prop) (x3_2 : Int32) : Prop :=
  (Φ 1)
def wb_X1_isToldBy_2 (living : Int32) (marks : Nat → Int32) (p1 : Int32) (p2 : Int32) (Φ : Int32 → Prop) (K_2 : Int32 → Prop) (rec_2 : Int32 → Prop) (x3_2 : Int32) : Prop :=
  ((8 ≤ x3_2 → (K_2 x3_2)) ∧ (¬ 8 ≤ x3_2 → (wp_X1_lives living x3_2 (fun r_10 => ((r_10 = 0 → (rec_2 (x3_2 + 1))) ∧ (¬ r_10 = 0 → ((p2 = 0 → (wp_X1_aheadOf living x3_2 (fun r_22 => ((r_22 = 0 → (wp_X1_isUnlikeThoseBehind living marks x3_2 p1 (fun r_31 => ((r_31 = 0 → (Φ 0)) ∧ (¬ r_31 = 0 → (rec_2 (x3_2 + 1))))))) ∧ (¬ r_22 = 0 → (rec_2 (x3_2 + 1))))))) ∧ (¬ p2 = 0 → (wp_X1_isUnlikeThoseBehind living marks x3_2 p1 (fun r_31 => ((r_31 = 0 → (Φ 0)) ∧ (¬ r_31 = 0 → (rec_2 (x3_2 + 1))))))))))))))
def wp_X1_isToldBy (living : Int32) (marks : Nat → Int32) (p1 : Int32) (p2 : Int32) (Φ : Int32 → Prop) : Prop :=
  (∃ n : Nat, xit1 (wb_X1_isToldBy_2 living marks p1 p2 Φ (wk_X1_isToldBy_2 Φ)) n 0)
abbrev xrm_X1_isToldBy : Room := { frames := 3, cells := 0, slots := 0, locals := 65 }
set_option maxRecDepth 100000 in
set_option maxHeartbeats 4000000 in
theorem c_X1_isToldBy (l : Launch) (D : va_G) (cI cZ cO : ClassId) {a_marks : Nat} {people : Int32} {living : Int32} {shown : Int32} {spent : Int32} {days : Int32} {a_this : Nat} {marks : Nat → Int32} {p1 : Int32} {p2 : Int32} {Φ : Int32 → Prop} (hw : (wp_X1_isToldBy living marks p1 p2 Φ)) : Met l yX1_isToldBy wsX1_isToldBy xrm_X1_isToldBy (xPR D cI cZ cO [.ref a_this, .int p1, .int p2] [(a_this, .inr (1, [.ref a_marks, .int people, .int living, .int shown, .int spent, .int days])), (a_marks, .inl (cI, 8, .inl marks))]) (vp_Si Φ) 0 0 (fun _ => False) := by
  refine Met.ofW (cc := cX1_isToldBy) (maxL := 4) (ret := (some .boolean)) (by decide) rfl ?_
  intro p e s m args below meth c s₁ B hml hv
  obtain ⟨rfl, hP, hKK⟩ := hv
  have hx := B.exec
  have hb := B.bytes
  have hr := B.returns
  have hts := atoms_spec (ws := wsX1_isToldBy) B.pre
  have hown : s.vm.findClass RX1 = some m.cls := findClass_of_methodNamed B.named
  have hlocks := B.notSynchronized
  obtain ⟨Q, hQ⟩ : ∃ Q, Q = MQ below (vp_Si Φ) ([.ref a_this, .int p1, .int p2] : List Value).toArray s 0 0 (fun _ => False) := ⟨_, rfl⟩
  rw [← hQ]
  have hl := lv_entry ([.ref a_this, .int p1, .int p2]) (n := 4) (Nat.le_of_ble_eq_true rfl)
  rw [lg_entry_eq]
  generalize (lg_sl ([.ref a_this, .int p1, .int p2]) ++ List.replicate (4 - (lg_sl ([.ref a_this, .int p1, .int p2])).length) Slot.unset).toArray = ls at hl ⊢
  have hl : lv_has ls 4 [(0, .ref a_this), (1, .int p1), (2, .int p2)] := hl
  generalize ([.ref a_this, .int p1, .int p2] : List Value).toArray = args at hts hQ ⊢
  have hP : va_P D vwCl [(a_this, .inr (1, [.ref a_marks, .int people, .int living, .int shown, .int spent, .int days])), (a_marks, .inl (cI, 8, .inl marks))] s.heap := hP
  clear B
  show W p l e xrm_X1_isToldBy s m args below meth c s.heap [] 0 0 Q (F0 m 0 ls [])
  unfold wp_X1_isToldBy at hw
  refine lv_iconst (v := 0) hx hb dX1_isToldBy_0 (by decide) ?_
  refine lv_istore_n (lv' := [(3, .int 0), (0, .ref a_this), (1, .int p1), (2, .int p2)]) hx hb dX1_isToldBy_1 rfl hl (by decide) rfl (fun ls hl => ?_)
  have EX_2 : ∀ (x3_2 : Int32), ∀ (ls : Array Slot), lv_has ls 4 [(0, .ref a_this), (1, .int p1), (2, .int p2), (3, .int x3_2)] → (wk_X1_isToldBy_2 Φ x3_2) → W p l e xrm_X1_isToldBy s m args below meth c s.heap [] 0 0 Q (F0 m 45 ls []) := by
    intro x3_2 ls hl hw
    unfold wk_X1_isToldBy_2 at hw
    refine lv_iconst (v := 1) hx hb dX1_isToldBy_45 (by decide) ?_
    rw [hQ]
    exact W.zret (v := 1) hx hb hr xvz_1 (fun t ht _ => ⟨1, rfl, hw, ht⟩) (fun _ h => (List.not_mem_nil h).elim) dX1_isToldBy_46
  generalize (wk_X1_isToldBy_2 Φ) = K_2 at EX_2 hw
  have LP_2 : ∀ n : Nat, ∀ (x3_2 : Int32), ∀ (ls : Array Slot), lv_has ls 4 [(0, .ref a_this), (1, .int p1), (2, .int p2), (3, .int x3_2)] → xit1 (wb_X1_isToldBy_2 living marks p1 p2 Φ K_2) n x3_2 → W p l e xrm_X1_isToldBy s m args below meth c s.heap [] 0 0 Q (F0 m 2 ls []) := by
    intro n
    induction n with
    | zero => intro x3_2 ls hl hw; exact (show False from hw).elim
    | succ n ih =>
      intro x3_2 ls hl hw
      have hw : wb_X1_isToldBy_2 living marks p1 p2 Φ K_2 (xit1 (wb_X1_isToldBy_2 living marks p1 p2 Φ K_2) n) x3_2 := hw
      generalize xit1 (wb_X1_isToldBy_2 living marks p1 p2 Φ K_2) n = rec_2 at ih hw
      unfold wb_X1_isToldBy_2 at hw
      refine lv_iload_n hx hb dX1_isToldBy_2 rfl (lv_at hl 3 rfl) ?_
      refine lv_bipush (v := 8) hx hb dX1_isToldBy_3 (by decide) ?_
      refine lv_icmp_ge (tgt := 45) hx hb dX1_isToldBy_5 (by decide) (fun c_5 => ?_) (fun c_5 => ?_)
      · have hw := hw.1 c_5
        exact EX_2 _ ls (lv_sub hl [0, 1, 2, 3] rfl) hw
      · have hw := hw.2 c_5
        refine lv_aload_n hx hb dX1_isToldBy_8 rfl (lv_at hl 0 rfl) ?_
        refine lv_iload_n hx hb dX1_isToldBy_9 rfl (lv_at hl 3 rfl) ?_
        refine xcVi (q0 := 0) (ci := 1) (As := [.int x3_2]) (rest := []) (wc := [(a_this, .inr (1, [.ref a_marks, .int people, .int living, .int shown, .int spent, .int days]))]) ⟨hx, hb, hml, hown, hts⟩ (c_X1_lives l D cI cZ cO hw) (cwV 1 hts gX1_isToldBy_X1_lives rfl rfl rfl (by decide +kernel) ⟨Nat.le_of_ble_eq_true rfl, Nat.le_of_ble_eq_true rfl⟩) hKK hP [0] rfl rfl rfl rfl hl.1 rfl (Nat.le_of_ble_eq_true rfl) dX1_isToldBy_10 ⟨Nat.zero_le _, Nat.zero_le _⟩ (fun r_10 hw => ?_)
        refine lv_if_eq (tgt := 39) hx hb dX1_isToldBy_13 (by decide) (fun c_13 => ?_) (fun c_13 => ?_)
        · have hw := hw.1 c_13
          refine lv_iinc (v := (x3_2 + 1)) (lv' := [(3, .int (x3_2 + 1)), (0, .ref a_this), (1, .int p1), (2, .int p2)]) hx hb dX1_isToldBy_39 hl (k := 3) rfl (by rfl) (by decide) rfl (fun ls hl => ?_)
          refine lv_goto (tgt := 2) hx hb dX1_isToldBy_42 (by decide) ?_
          exact ih _ ls (lv_sub hl [1, 2, 3, 0] rfl) hw
        · have hw := hw.2 c_13
          refine lv_iload_n hx hb dX1_isToldBy_16 rfl (lv_at hl 2 rfl) ?_
          refine lv_if_ne (tgt := 28) hx hb dX1_isToldBy_17 (by decide) (fun c_17 => ?_) (fun c_17 => ?_)
          · have hw := hw.2 c_17
            refine lv_aload_n hx hb dX1_isToldBy_28 rfl (lv_at hl 0 rfl) ?_
            refine lv_iload_n hx hb dX1_isToldBy_29 rfl (lv_at hl 3 rfl) ?_
            refine lv_iload_n hx hb dX1_isToldBy_30 rfl (lv_at hl 1 rfl) ?_
            refine xcVi (q0 := 0) (ci := 1) (As := [.int x3_2, .int p1]) (rest := []) (wc := [(a_this, .inr (1, [.ref a_marks, .int people, .int living, .int shown, .int spent, .int days])), (a_marks, .inl (cI, 8, .inl marks))]) ⟨hx, hb, hml, hown, hts⟩ (c_X1_isUnlikeThoseBehind l D cI cZ cO hw) (cwV 2 hts gX1_isToldBy_X1_isUnlikeThoseBehind rfl rfl rfl (by decide +kernel) ⟨Nat.le_of_ble_eq_true rfl, Nat.le_of_ble_eq_true rfl⟩) hKK hP [0, 1] rfl rfl rfl rfl hl.1 rfl (Nat.le_of_ble_eq_true rfl) dX1_isToldBy_31 ⟨Nat.zero_le _, Nat.zero_le _⟩ (fun r_31 hw => ?_)
            refine lv_if_ne (tgt := 39) hx hb dX1_isToldBy_34 (by decide) (fun c_34 => ?_) (fun c_34 => ?_)
            · have hw := hw.2 c_34
              refine lv_iinc (v := (x3_2 + 1)) (lv' := [(3, .int (x3_2 + 1)), (0, .ref a_this), (1, .int p1), (2, .int p2)]) hx hb dX1_isToldBy_39 hl (k := 3) rfl (by rfl) (by decide) rfl (fun ls hl => ?_)
              refine lv_goto (tgt := 2) hx hb dX1_isToldBy_42 (by decide) ?_
              exact ih _ ls (lv_sub hl [1, 2, 3, 0] rfl) hw
            · have hw := hw.1 c_34
              refine lv_iconst (v := 0) hx hb dX1_isToldBy_37 (by decide) ?_
              rw [hQ]
              exact W.zret (v := 0) hx hb hr xvz_0 (fun t ht _ => ⟨0, rfl, hw, ht⟩) (fun _ h => (List.not_mem_nil h).elim) dX1_isToldBy_38
          · have hw := hw.1 c_17
            refine lv_aload_n hx hb dX1_isToldBy_20 rfl (lv_at hl 0 rfl) ?_
            refine lv_iload_n hx hb dX1_isToldBy_21 rfl (lv_at hl 3 rfl) ?_
            refine xcVi (q0 := 0) (ci := 1) (As := [.int x3_2]) (rest := []) (wc := [(a_this, .inr (1, [.ref a_marks, .int people, .int living, .int shown, .int spent, .int days]))]) ⟨hx, hb, hml, hown, hts⟩ (c_X1_aheadOf l D cI cZ cO hw) (cwV 1 hts gX1_isToldBy_X1_aheadOf rfl rfl rfl (by decide +kernel) ⟨Nat.le_of_ble_eq_true rfl, Nat.le_of_ble_eq_true rfl⟩) hKK hP [0] rfl rfl rfl rfl hl.1 rfl (Nat.le_of_ble_eq_true rfl) dX1_isToldBy_22 ⟨Nat.zero_le _, Nat.zero_le _⟩ (fun r_22 hw => ?_)
            refine lv_if_ne (tgt := 39) hx hb dX1_isToldBy_25 (by decide) (fun c_25 => ?_) (fun c_25 => ?_)
            · have hw := hw.2 c_25
              refine lv_iinc (v := (x3_2 + 1)) (lv' := [(3, .int (x3_2 + 1)), (0, .ref a_this), (1, .int p1), (2, .int p2)]) hx hb dX1_isToldBy_39 hl (k := 3) rfl (by rfl) (by decide) rfl (fun ls hl => ?_)
              refine lv_goto (tgt := 2) hx hb dX1_isToldBy_42 (by decide) ?_
              exact ih _ ls (lv_sub hl [1, 2, 3, 0] rfl) hw
            · have hw := hw.1 c_25
              refine lv_aload_n hx hb dX1_isToldBy_28 rfl (lv_at hl 0 rfl) ?_
              refine lv_iload_n hx hb dX1_isToldBy_29 rfl (lv_at hl 3 rfl) ?_
              refine lv_iload_n hx hb dX1_isToldBy_30 rfl (lv_at hl 1 rfl) ?_
              refine xcVi (q0 := 0) (ci := 1) (As := [.int x3_2, .int p1]) (rest := []) (wc := [(a_this, .inr (1, [.ref a_marks, .int people, .int living, .int shown, .int spent, .int days])), (a_marks, .inl (cI, 8, .inl marks))]) ⟨hx, hb, hml, hown, hts⟩ (c_X1_isUnlikeThoseBehind l D cI cZ cO hw) (cwV 2 hts gX1_isToldBy_X1_isUnlikeThoseBehind rfl rfl rfl (by decide +kernel) ⟨Nat.le_of_ble_eq_true rfl, Nat.le_of_ble_eq_true rfl⟩) hKK hP [0, 1] rfl rfl rfl rfl hl.1 rfl (Nat.le_of_ble_eq_true rfl) dX1_isToldBy_31 ⟨Nat.zero_le _, Nat.zero_le _⟩ (fun r_31 hw => ?_)
              refine lv_if_ne (tgt := 39) hx hb dX1_isToldBy_34 (by decide) (fun c_34 => ?_) (fun c_34 => ?_)
              · have hw := hw.2 c_34
                refine lv_iinc (v := (x3_2 + 1)) (lv' := [(3, .int (x3_2 + 1)), (0, .ref a_this), (1, .int p1), (2, .int p2)]) hx hb dX1_isToldBy_39 hl (k := 3) rfl (by rfl) (by decide) rfl (fun ls hl => ?_)
                refine lv_goto (tgt := 2) hx hb dX1_isToldBy_42 (by decide) ?_
                exact ih _ ls (lv_sub hl [1, 2, 3, 0] rfl) hw
              · have hw := hw.1 c_34
                refine lv_iconst (v := 0) hx hb dX1_isToldBy_37 (by decide) ?_
                rw [hQ]
                exact W.zret (v := 0) hx hb hr xvz_0 (fun t ht _ => ⟨0, rfl, hw, ht⟩) (fun _ h => (List.not_mem_nil h).elim) dX1_isToldBy_38
  obtain ⟨n, hw⟩ := hw
  exact LP_2 n _ ls (lv_sub hl [1, 2, 3, 0] rfl) hw
def wk_X2_clear_17 (Φ : Int32 → Int32 → Int32 → (Nat → Int32) → (Nat → Int32) → (Nat → Int32) → Prop) (fears_17 : Nat → Int32) (inHours_17 : Nat → Int32) (inWeathers_17 : Nat → Int32) (x1_17 : Int32) : Prop :=
  (Φ 0 0 0 inWeathers_17 inHours_17 fears_17)
def wb_X2_clear_17 (K_17 : (Nat → Int32) → (Nat → Int32) → (Nat → Int32) → Int32 → Prop) (rec_17 : (Nat → Int32) → (Nat → Int32) → (Nat → Int32) → Int32 → Prop) (fears_17 : Nat → Int32) (inHours_17 : Nat → Int32) (inWeathers_17 : Nat → Int32) (x1_17 : Int32) : Prop :=
  ((8 ≤ x1_17 → (K_17 fears_17 inHours_17 inWeathers_17 x1_17)) ∧ (¬ 8 ≤ x1_17 → (wp_X7_put inWeathers_17 8 x1_17 0 (fun inWeathers_29 => (wp_X7_put inHours_17 8 x1_17 0 (fun inHours_38 => (wp_X7_put fears_17 8 x1_17 9 (fun fears_48 => (rec_17 fears_48 inHours_38 inWeathers_29 (x1_17 + 1))))))))))
def wp_X2_clear (inWeathers : Nat → Int32) (inHours : Nat → Int32) (fears : Nat → Int32) (Φ : Int32 → Int32 → Int32 → (Nat → Int32) → (Nat → Int32) → (Nat → Int32) → Prop) : Prop :=
  (∃ n : Nat, xit4 (wb_X2_clear_17 (wk_X2_clear_17 Φ)) n fears inHours inWeathers 0)
abbrev xrm_X2_clear : Room := { frames := 1, cells := 0, slots := 0, locals := 22 }
set_option maxRecDepth 100000 in
set_option maxHeartbeats 4000000 in
theorem c_X2_clear (l : Launch) (D : va_G) (cI cZ cO : ClassId) {a_marks : Nat} {a_inWeathers : Nat} {a_inHours : Nat} {a_fears : Nat} {a_weathers : Nat} {a_hours : Nat} {a_dangers : Nat} {pay : Int32} {people : Int32} {days : Int32} {a_this : Nat} {inWeathers : Nat → Int32} {inHours : Nat → Int32} {fears : Nat → Int32} {Φ : Int32 → Int32 → Int32 → (Nat → Int32) → (Nat → Int32) → (Nat → Int32) → Prop} {sz : Nat} (hw : (wp_X2_clear inWeathers inHours fears Φ)) : Met l yX2_clear wsX2_clear xrm_X2_clear (xPW D cI cZ cO [.ref a_this] sz [(a_this, .inr (2, [.ref a_marks, .ref a_inWeathers, .ref a_inHours, .ref a_fears, .ref a_weathers, .ref a_hours, .ref a_dangers, .int pay, .int people, .int days])), (a_inWeathers, .inl (cI, 8, .inl inWeathers)), (a_inHours, .inl (cI, 8, .inl inHours)), (a_fears, .inl (cI, 8, .inl fears))]) (va_Qv (fun (u : Int32 × Int32 × Int32 × (Nat → Int32) × (Nat → Int32) × (Nat → Int32)) => Φ u.1 u.2.1 u.2.2.1 u.2.2.2.1 u.2.2.2.2.1 u.2.2.2.2.2) (xB D (va_A [(a_this, .inr (2, [.ref a_marks, .ref a_inWeathers, .ref a_inHours, .ref a_fears, .ref a_weathers, .ref a_hours, .ref a_dangers, .int pay, .int people, .int days])), (a_inWeathers, .inl (cI, 8, .inl inWeathers)), (a_inHours, .inl (cI, 8, .inl inHours)), (a_fears, .inl (cI, 8, .inl fears))] sz) (fun (u : Int32 × Int32 × Int32 × (Nat → Int32) × (Nat → Int32) × (Nat → Int32)) => [(a_this, .inr (2, [.ref a_marks, .ref a_inWeathers, .ref a_inHours, .ref a_fears, .ref a_weathers, .ref a_hours, .ref a_dangers, .int u.1, .int u.2.1, .int u.2.2.1])), (a_inWeathers, .inl (cI, 8, .inl u.2.2.2.1)), (a_inHours, .inl (cI, 8, .inl u.2.2.2.2.1)), (a_fears, .inl (cI, 8, .inl u.2.2.2.2.2))])) (va_A [(a_this, .inr (2, [.ref a_marks, .ref a_inWeathers, .ref a_inHours, .ref a_fears, .ref a_weathers, .ref a_hours, .ref a_dangers, .int pay, .int people, .int days])), (a_inWeathers, .inl (cI, 8, .inl inWeathers)), (a_inHours, .inl (cI, 8, .inl inHours)), (a_fears, .inl (cI, 8, .inl fears))] sz)) 0 0 (va_A [(a_this, .inr (2, [.ref a_marks, .ref a_inWeathers, .ref a_inHours, .ref a_fears, .ref a_weathers, .ref a_hours, .ref a_dangers, .int pay, .int people, .int days])), (a_inWeathers, .inl (cI, 8, .inl inWeathers)), (a_inHours, .inl (cI, 8, .inl inHours)), (a_fears, .inl (cI, 8, .inl fears))] sz) := by
  refine Met.ofW (cc := cX2_clear) (maxL := 2) (ret := none) (by decide) rfl ?_
  intro p e s m args below meth c s₁ B hml hv
  obtain ⟨rfl, hsz, hP, hKK, hD0⟩ := hv
  have hx := B.exec
  have hb := B.bytes
  have hr := B.returns
  have hts := atoms_spec (ws := wsX2_clear) B.pre
  have hown : s.vm.findClass RX2 = some m.cls := findClass_of_methodNamed B.named
  have hlocks := B.notSynchronized
  subst hsz
  have hD := hD0.self (sz := s.heap.size)
  obtain ⟨Q, hQ⟩ : ∃ Q, Q = MQ below (va_Qv (fun (u : Int32 × Int32 × Int32 × (Nat → Int32) × (Nat → Int32) × (Nat → Int32)) => Φ u.1 u.2.1 u.2.2.1 u.2.2.2.1 u.2.2.2.2.1 u.2.2.2.2.2) (xB D (va_A [(a_this, .inr (2, [.ref a_marks, .ref a_inWeathers, .ref a_inHours, .ref a_fears, .ref a_weathers, .ref a_hours, .ref a_dangers, .int pay, .int people, .int days])), (a_inWeathers, .inl (cI, 8, .inl inWeathers)), (a_inHours, .inl (cI, 8, .inl inHours)), (a_fears, .inl (cI, 8, .inl fears))] s.heap.size) (fun (u : Int32 × Int32 × Int32 × (Nat → Int32) × (Nat → Int32) × (Nat → Int32)) => [(a_this, .inr (2, [.ref a_marks, .ref a_inWeathers, .ref a_inHours, .ref a_fears, .ref a_weathers, .ref a_hours, .ref a_dangers, .int u.1, .int u.2.1, .int u.2.2.1])), (a_inWeathers, .inl (cI, 8, .inl u.2.2.2.1)), (a_inHours, .inl (cI, 8, .inl u.2.2.2.2.1)), (a_fears, .inl (cI, 8, .inl u.2.2.2.2.2))])) (va_A [(a_this, .inr (2, [.ref a_marks, .ref a_inWeathers, .ref a_inHours, .ref a_fears, .ref a_weathers, .ref a_hours, .ref a_dangers, .int pay, .int people, .int days])), (a_inWeathers, .inl (cI, 8, .inl inWeathers)), (a_inHours, .inl (cI, 8, .inl inHours)), (a_fears, .inl (cI, 8, .inl fears))] s.heap.size)) ([.ref a_this] : List Value).toArray s 0 0 (va_A [(a_this, .inr (2, [.ref a_marks, .ref a_inWeathers, .ref a_inHours, .ref a_fears, .ref a_weathers, .ref a_hours, .ref a_dangers, .int pay, .int people, .int days])), (a_inWeathers, .inl (cI, 8, .inl inWeathers)), (a_inHours, .inl (cI, 8, .inl inHours)), (a_fears, .inl (cI, 8, .inl fears))] s.heap.size) := ⟨_, rfl⟩
  rw [← hQ]
  generalize hAe : va_A [(a_this, .inr (2, [.ref a_marks, .ref a_inWeathers, .ref a_inHours, .ref a_fears, .ref a_weathers, .ref a_hours, .ref a_dangers, .int pay, .int people, .int days])), (a_inWeathers, .inl (cI, 8, .inl inWeathers)), (a_inHours, .inl (cI, 8, .inl inHours)), (a_fears, .inl (cI, 8, .inl fears))] s.heap.size = A at hD hQ
  have hA : ∀ q : Nat, s.heap.size ≤ q → A q := fun q h => by rw [← hAe]; exact Or.inr h
  have hS : va_S A s.heap s.heap [] := va_S.rf
  have hl := lv_entry ([.ref a_this]) (n := 2) (Nat.le_of_ble_eq_true rfl)
  rw [lg_entry_eq]
  generalize (lg_sl ([.ref a_this]) ++ List.replicate (2 - (lg_sl ([.ref a_this])).length) Slot.unset).toArray = ls at hl ⊢
  have hl : lv_has ls 2 [(0, .ref a_this)] := hl
  generalize ([.ref a_this] : List Value).toArray = args at hts hQ ⊢
  have hP : va_P D vwCl [(a_this, .inr (2, [.ref a_marks, .ref a_inWeathers, .ref a_inHours, .ref a_fears, .ref a_weathers, .ref a_hours, .ref a_dangers, .int pay, .int people, .int days])), (a_inWeathers, .inl (cI, 8, .inl inWeathers)), (a_inHours, .inl (cI, 8, .inl inHours)), (a_fears, .inl (cI, 8, .inl fears))] s.heap := hP
  have hinX2 : ∀ w ∈ u_ws RX2 TX2 10, w ∈ wsX2_clear := by decide +kernel
  have fl_15 := hts (.fieldLink RX2 15 "DoubleChain$Court" "inWeathers" "[I") (by decide +kernel)
  have fl_18 := hts (.fieldLink RX2 18 "DoubleChain$Court" "inHours" "[I") (by decide +kernel)
  have fl_21 := hts (.fieldLink RX2 21 "DoubleChain$Court" "fears" "[I") (by decide +kernel)
  have fl_33 := hts (.fieldLink RX2 33 "DoubleChain$Court" "pay" "I") (by decide +kernel)
  have fl_37 := hts (.fieldLink RX2 37 "DoubleChain$Court" "people" "I") (by decide +kernel)
  have fl_40 := hts (.fieldLink RX2 40 "DoubleChain$Court" "days" "I") (by decide +kernel)
  clear B
  show W p l e xrm_X2_clear s m args below meth c s.heap [] 0 0 Q (F0 m 0 ls [])
  unfold wp_X2_clear at hw
  refine lv_aload_n hx hb dX2_clear_0 rfl (lv_at hl 0 rfl) ?_
  refine lv_iconst (v := 0) hx hb dX2_clear_1 (by decide) ?_
  refine va_put (D := D) (ci := 2) (v := .int 0) (ty := .int) (C := RX2) (T := TX2) (N := 10) hx hb hts hinX2 tyX2 tyX2_ok nmX2 hown hKK.1 hP hD hS 0 rfl rfl 7 (by decide) fl_33 (fun _ h9 => h9) rfl (by decide +kernel) rfl rfl (Nat.le_of_ble_eq_true rfl) dX2_clear_2 (fun H locs hP hD hS => ?_)
  have hP : va_P D vwCl [(a_this, .inr (2, [.ref a_marks, .ref a_inWeathers, .ref a_inHours, .ref a_fears, .ref a_weathers, .ref a_hours, .ref a_dangers, .int 0, .int people, .int days])), (a_inWeathers, .inl (cI, 8, .inl inWeathers)), (a_inHours, .inl (cI, 8, .inl inHours)), (a_fears, .inl (cI, 8, .inl fears))] H := hP
  have hD : va_D A [(a_this, .inr (2, [.ref a_marks, .ref a_inWeathers, .ref a_inHours, .ref a_fears, .ref a_weathers, .ref a_hours, .ref a_dangers, .int 0, .int people, .int days])), (a_inWeathers, .inl (cI, 8, .inl inWeathers)), (a_inHours, .inl (cI, 8, .inl inHours)), (a_fears, .inl (cI, 8, .inl fears))] := hD
  refine lv_aload_n hx hb dX2_clear_5 rfl (lv_at hl 0 rfl) ?_
  refine lv_iconst (v := 0) hx hb dX2_clear_6 (by decide) ?_
  refine va_put (D := D) (ci := 2) (v := .int 0) (ty := .int) (C := RX2) (T := TX2) (N := 10) hx hb hts hinX2 tyX2 tyX2_ok nmX2 hown hKK.1 hP hD hS 0 rfl rfl 8 (by decide) fl_37 (fun _ h9 => h9) rfl (by decide +kernel) rfl rfl (Nat.le_of_ble_eq_true rfl) dX2_clear_7 (fun H locs hP hD hS => ?_)
  have hP : va_P D vwCl [(a_this, .inr (2, [.ref a_marks, .ref a_inWeathers, .ref a_inHours, .ref a_fears, .ref a_weathers, .ref a_hours, .ref a_dangers, .int 0, .int 0, .int days])), (a_inWeathers, .inl (cI, 8, .inl inWeathers)), (a_inHours, .inl (cI, 8, .inl inHours)), (a_fears, .inl (cI, 8, .inl fears))] H := hP
  have hD : va_D A [(a_this, .inr (2, [.ref a_marks, .ref a_inWeathers, .ref a_inHours, .ref a_fears, .ref a_weathers, .ref a_hours, .ref a_dangers, .int 0, .int 0, .int days])), (a_inWeathers, .inl (cI, 8, .inl inWeathers)), (a_inHours, .inl (cI, 8, .inl inHours)), (a_fears, .inl (cI, 8, .inl fears))] := hD
  refine lv_aload_n hx hb dX2_clear_10 rfl (lv_at hl 0 rfl) ?_
  refine lv_iconst (v := 0) hx hb dX2_clear_11 (by decide) ?_
  refine va_put (D := D) (ci := 2) (v := .int 0) (ty := .int) (C := RX2) (T := TX2) (N := 10) hx hb hts hinX2 tyX2 tyX2_ok nmX2 hown hKK.1 hP hD hS 0 rfl rfl 9 (by decide) fl_40 (fun _ h9 => h9) rfl (by decide +kernel) rfl rfl (Nat.le_of_ble_eq_true rfl) dX2_clear_12 (fun H locs hP hD hS => ?_)
  have hP : va_P D vwCl [(a_this, .inr (2, [.ref a_marks, .ref a_inWeathers, .ref a_inHours, .ref a_fears, .ref a_weathers, .ref a_hours, .ref a_dangers, .int 0, .int 0, .int 0])), (a_inWeathers, .inl (cI, 8, .inl inWeathers)), (a_inHours, .inl (cI, 8, .inl inHours)), (a_fears, .inl (cI, 8, .inl fears))] H := hP
  have hD : va_D A [(a_this, .inr (2, [.ref a_marks, .ref a_inWeathers, .ref a_inHours, .ref a_fears, .ref a_weathers, .ref a_hours, .ref a_dangers, .int 0, .int 0, .int 0])), (a_inWeathers, .inl (cI, 8, .inl inWeathers)), (a_inHours, .inl (cI, 8, .inl inHours)), (a_fears, .inl (cI, 8, .inl fears))] := hD
  refine lv_iconst (v := 0) hx hb dX2_clear_15 (by decide) ?_
  refine lv_istore_n (lv' := [(1, .int 0), (0, .ref a_this)]) hx hb dX2_clear_16 rfl hl (by decide) rfl (fun ls hl => ?_)
  have EX_17 : ∀ (fears_17 : Nat → Int32) (inHours_17 : Nat → Int32) (inWeathers_17 : Nat → Int32) (x1_17 : Int32), ∀ (H : Heap) (locs : List Loc), va_P D vwCl [(a_this, .inr (2, [.ref a_marks, .ref a_inWeathers, .ref a_inHours, .ref a_fears, .ref a_weathers, .ref a_hours, .ref a_dangers, .int 0, .int 0, .int 0])), (a_inWeathers, .inl (cI, 8, .inl inWeathers_17)), (a_inHours, .inl (cI, 8, .inl inHours_17)), (a_fears, .inl (cI, 8, .inl fears_17))] H → va_D A [(a_this, .inr (2, [.ref a_marks, .ref a_inWeathers, .ref a_inHours, .ref a_fears, .ref a_weathers, .ref a_hours, .ref a_dangers, .int 0, .int 0, .int 0])), (a_inWeathers, .inl (cI, 8, .inl inWeathers_17)), (a_inHours, .inl (cI, 8, .inl inHours_17)), (a_fears, .inl (cI, 8, .inl fears_17))] → va_S A s.heap H locs → ∀ (ls : Array Slot), lv_has ls 2 [(0, .ref a_this), (1, .int x1_17)] → (wk_X2_clear_17 Φ fears_17 inHours_17 inWeathers_17 x1_17) → W p l e xrm_X2_clear s m args below meth c H locs 0 0 Q (F0 m 57 ls []) := by
    intro fears_17 inHours_17 inWeathers_17 x1_17 H locs hP hD hS ls hl hw
    unfold wk_X2_clear_17 at hw
    rw [hQ]
    exact W.vret hx hb hr (fun t ht _ => ⟨⟨⟨0, 0, 0, inWeathers_17, inHours_17, fears_17⟩, rfl, hw, by rw [ht]; exact hP, hD⟩, hS.F ht⟩) hS.2.2 dX2_clear_57
  generalize (wk_X2_clear_17 Φ) = K_17 at EX_17 hw
  have LP_17 : ∀ n : Nat, ∀ (fears_17 : Nat → Int32) (inHours_17 : Nat → Int32) (inWeathers_17 : Nat → Int32) (x1_17 : Int32), ∀ (H : Heap) (locs : List Loc), va_P D vwCl [(a_this, .inr (2, [.ref a_marks, .ref a_inWeathers, .ref a_inHours, .ref a_fears, .ref a_weathers, .ref a_hours, .ref a_dangers, .int 0, .int 0, .int 0])), (a_inWeathers, .inl (cI, 8, .inl inWeathers_17)), (a_inHours, .inl (cI, 8, .inl inHours_17)), (a_fears, .inl (cI, 8, .inl fears_17))] H → va_D A [(a_this, .inr (2, [.ref a_marks, .ref a_inWeathers, .ref a_inHours, .ref a_fears, .ref a_weathers, .ref a_hours, .ref a_dangers, .int 0, .int 0, .int 0])), (a_inWeathers, .inl (cI, 8, .inl inWeathers_17)), (a_inHours, .inl (cI, 8, .inl inHours_17)), (a_fears, .inl (cI, 8, .inl fears_17))] → va_S A s.heap H locs → ∀ (ls : Array Slot), lv_has ls 2 [(0, .ref a_this), (1, .int x1_17)] → xit4 (wb_X2_clear_17 K_17) n fears_17 inHours_17 inWeathers_17 x1_17 → W p l e xrm_X2_clear s m args below meth c H locs 0 0 Q (F0 m 17 ls []) := by
    intro n
    induction n with
    | zero => intro fears_17 inHours_17 inWeathers_17 x1_17 H locs hP hD hS ls hl hw; exact (show False from hw).elim
    | succ n ih =>
      intro fears_17 inHours_17 inWeathers_17 x1_17 H locs hP hD hS ls hl hw
      have hw : wb_X2_clear_17 K_17 (xit4 (wb_X2_clear_17 K_17) n) fears_17 inHours_17 inWeathers_17 x1_17 := hw
      generalize xit4 (wb_X2_clear_17 K_17) n = rec_17 at ih hw
      unfold wb_X2_clear_17 at hw
      refine lv_iload_n hx hb dX2_clear_17 rfl (lv_at hl 1 rfl) ?_
      refine lv_bipush (v := 8) hx hb dX2_clear_18 (by decide) ?_
      refine lv_icmp_ge (tgt := 57) hx hb dX2_clear_20 (by decide) (fun c_20 => ?_) (fun c_20 => ?_)
      · have hw := hw.1 c_20
        exact EX_17 _ _ _ _ _ _ hP hD hS ls (lv_sub hl [0, 1] rfl) hw
      · have hw := hw.2 c_20
        refine lv_aload_n hx hb dX2_clear_23 rfl (lv_at hl 0 rfl) ?_
        refine va_get (D := D) (ci := 2) (v := .ref a_inWeathers) (C := RX2) (T := TX2) (N := 10) hx hb hts hinX2 hown hKK.1 hP 0 rfl rfl 1 (by decide) fl_15 (fun _ h9 => h9) rfl dX2_clear_24 ?_
        refine lv_iload_n hx hb dX2_clear_27 rfl (lv_at hl 1 rfl) ?_
        refine lv_iconst (v := 0) hx hb dX2_clear_28 (by decide) ?_
        refine xwNv (wr := [(a_this, .inr (2, [.ref a_marks, .ref a_inWeathers, .ref a_inHours, .ref a_fears, .ref a_weathers, .ref a_hours, .ref a_dangers, .int 0, .int 0, .int 0])), (a_inHours, .inl (cI, 8, .inl inHours_17)), (a_fears, .inl (cI, 8, .inl fears_17))]) (As := [.ref a_inWeathers, .int x1_17, .int 0]) (rest := []) (wc := [(a_inWeathers, .inl (cI, 8, .inl inWeathers_17))]) (fun (u : (Nat → Int32)) => [(a_this, .inr (2, [.ref a_marks, .ref a_inWeathers, .ref a_inHours, .ref a_fears, .ref a_weathers, .ref a_hours, .ref a_dangers, .int 0, .int 0, .int 0])), (a_inWeathers, .inl (cI, 8, .inl u)), (a_inHours, .inl (cI, 8, .inl inHours_17)), (a_fears, .inl (cI, 8, .inl fears_17))]) ⟨hx, hb, hml, hown, hts⟩ (c_X7_put l D cI cZ cO hw) ⟨va_cnB 3 hts gX2_clear_X7_put_n43 rfl rfl rfl (xn_9 hKK.2) (hts (.initialized RX7) (by decide +kernel)) (by decide +kernel) ⟨Nat.le_of_ble_eq_true rfl, Nat.le_of_ble_eq_true rfl⟩, hts (.static yX7_put) (by decide +kernel), trivial⟩ hKK hP hD hS hA [1] [0, 2, 3] [0, 3, 1, 2] rfl rfl rfl rfl rfl (by decide) (fun _ => rfl) rfl hl.1 rfl (Nat.le_of_ble_eq_true rfl) dX2_clear_29 ⟨Nat.zero_le _, Nat.zero_le _⟩ (fun inWeathers_29 H locs hw hP hD hS => ?_)
        have hP : va_P D vwCl [(a_this, .inr (2, [.ref a_marks, .ref a_inWeathers, .ref a_inHours, .ref a_fears, .ref a_weathers, .ref a_hours, .ref a_dangers, .int 0, .int 0, .int 0])), (a_inWeathers, .inl (cI, 8, .inl inWeathers_29)), (a_inHours, .inl (cI, 8, .inl inHours_17)), (a_fears, .inl (cI, 8, .inl fears_17))] H := hP
        have hD : va_D A [(a_this, .inr (2, [.ref a_marks, .ref a_inWeathers, .ref a_inHours, .ref a_fears, .ref a_weathers, .ref a_hours, .ref a_dangers, .int 0, .int 0, .int 0])), (a_inWeathers, .inl (cI, 8, .inl inWeathers_29)), (a_inHours, .inl (cI, 8, .inl inHours_17)), (a_fears, .inl (cI, 8, .inl fears_17))] := hD
        refine lv_aload_n hx hb dX2_clear_32 rfl (lv_at hl 0 rfl) ?_
        refine va_get (D := D) (ci := 2) (v := .ref a_inHours) (C := RX2) (T := TX2) (N := 10) hx hb hts hinX2 hown hKK.1 hP 0 rfl rfl 2 (by decide) fl_18 (fun _ h9 => h9) rfl dX2_clear_33 ?_
        refine lv_iload_n hx hb dX2_clear_36 rfl (lv_at hl 1 rfl) ?_
        refine lv_iconst (v := 0) hx hb dX2_clear_37 (by decide) ?_
        refine xwNv (wr := [(a_this, .inr (2, [.ref a_marks, .ref a_inWeathers, .ref a_inHours, .ref a_fears, .ref a_weathers, .ref a_hours, .ref a_dangers, .int 0, .int 0, .int 0])), (a_inWeathers, .inl (cI, 8, .inl inWeathers_29)), (a_fears, .inl (cI, 8, .inl fears_17))]) (As := [.ref a_inHours, .int x1_17, .int 0]) (rest := []) (wc := [(a_inHours, .inl (cI, 8, .inl inHours_17))]) (fun (u : (Nat → Int32)) => [(a_this, .inr (2, [.ref a_marks, .ref a_inWeathers, .ref a_inHours, .ref a_fears, .ref a_weathers, .ref a_hours, .ref a_dangers, .int 0, .int 0, .int 0])), (a_inWeathers, .inl (cI, 8, .inl inWeathers_29)), (a_inHours, .inl (cI, 8, .inl u)), (a_fears, .inl (cI, 8, .inl fears_17))]) ⟨hx, hb, hml, hown, hts⟩ (c_X7_put l D cI cZ cO hw) ⟨va_cnB 3 hts gX2_clear_X7_put_n43 rfl rfl rfl (xn_9 hKK.2) (hts (.initialized RX7) (by decide +kernel)) (by decide +kernel) ⟨Nat.le_of_ble_eq_true rfl, Nat.le_of_ble_eq_true rfl⟩, hts (.static yX7_put) (by decide +kernel), trivial⟩ hKK hP hD hS hA [2] [0, 1, 3] [0, 1, 3, 2] rfl rfl rfl rfl rfl (by decide) (fun _ => rfl) rfl hl.1 rfl (Nat.le_of_ble_eq_true rfl) dX2_clear_38 ⟨Nat.zero_le _, Nat.zero_le _⟩ (fun inHours_38 H locs hw hP hD hS => ?_)
        have hP : va_P D vwCl [(a_this, .inr (2, [.ref a_marks, .ref a_inWeathers, .ref a_inHours, .ref a_fears, .ref a_weathers, .ref a_hours, .ref a_dangers, .int 0, .int 0, .int 0])), (a_inWeathers, .inl (cI, 8, .inl inWeathers_29)), (a_inHours, .inl (cI, 8, .inl inHours_38)), (a_fears, .inl (cI, 8, .inl fears_17))] H := hP
        have hD : va_D A [(a_this, .inr (2, [.ref a_marks, .ref a_inWeathers, .ref a_inHours, .ref a_fears, .ref a_weathers, .ref a_hours, .ref a_dangers, .int 0, .int 0, .int 0])), (a_inWeathers, .inl (cI, 8, .inl inWeathers_29)), (a_inHours, .inl (cI, 8, .inl inHours_38)), (a_fears, .inl (cI, 8, .inl fears_17))] := hD
        refine lv_aload_n hx hb dX2_clear_41 rfl (lv_at hl 0 rfl) ?_
        refine va_get (D := D) (ci := 2) (v := .ref a_fears) (C := RX2) (T := TX2) (N := 10) hx hb hts hinX2 hown hKK.1 hP 0 rfl rfl 3 (by decide) fl_21 (fun _ h9 => h9) rfl dX2_clear_42 ?_
        refine lv_iload_n hx hb dX2_clear_45 rfl (lv_at hl 1 rfl) ?_
        refine lv_bipush (v := 9) hx hb dX2_clear_46 (by decide) ?_
        refine xwNv (wr := [(a_this, .inr (2, [.ref a_marks, .ref a_inWeathers, .ref a_inHours, .ref a_fears, .ref a_weathers, .ref a_hours, .ref a_dangers, .int 0, .int 0, .int 0])), (a_inWeathers, .inl (cI, 8, .inl inWeathers_29)), (a_inHours, .inl (cI, 8, .inl inHours_38))]) (As := [.ref a_fears, .int x1_17, .int 9]) (rest := []) (wc := [(a_fears, .inl (cI, 8, .inl fears_17))]) (fun (u : (Nat → Int32)) => [(a_this, .inr (2, [.ref a_marks, .ref a_inWeathers, .ref a_inHours, .ref a_fears, .ref a_weathers, .ref a_hours, .ref a_dangers, .int 0, .int 0, .int 0])), (a_inWeathers, .inl (cI, 8, .inl inWeathers_29)), (a_inHours, .inl (cI, 8, .inl inHours_38)), (a_fears, .inl (cI, 8, .inl u))]) ⟨hx, hb, hml, hown, hts⟩ (c_X7_put l D cI cZ cO hw) ⟨va_cnB 3 hts gX2_clear_X7_put_n43 rfl rfl rfl (xn_9 hKK.2) (hts (.initialized RX7) (by decide +kernel)) (by decide +kernel) ⟨Nat.le_of_ble_eq_true rfl, Nat.le_of_ble_eq_true rfl⟩, hts (.static yX7_put) (by decide +kernel), trivial⟩ hKK hP hD hS hA [3] [0, 1, 2] [0, 1, 2, 3] rfl rfl rfl rfl rfl (by decide) (fun _ => rfl) rfl hl.1 rfl (Nat.le_of_ble_eq_true rfl) dX2_clear_48 ⟨Nat.zero_le _, Nat.zero_le _⟩ (fun fears_48 H locs hw hP hD hS => ?_)
        have hP : va_P D vwCl [(a_this, .inr (2, [.ref a_marks, .ref a_inWeathers, .ref a_inHours, .ref a_fears, .ref a_weathers, .ref a_hours, .ref a_dangers, .int 0, .int 0, .int 0])), (a_inWeathers, .inl (cI, 8, .inl inWeathers_29)), (a_inHours, .inl (cI, 8, .inl inHours_38)), (a_fears, .inl (cI, 8, .inl fears_48))] H := hP
        have hD : va_D A [(a_this, .inr (2, [.ref a_marks, .ref a_inWeathers, .ref a_inHours, .ref a_fears, .ref a_weathers, .ref a_hours, .ref a_dangers, .int 0, .int 0, .int 0])), (a_inWeathers, .inl (cI, 8, .inl inWeathers_29)), (a_inHours, .inl (cI, 8, .inl inHours_38)), (a_fears, .inl (cI, 8, .inl fears_48))] := hD
        refine lv_iinc (v := (x1_17 + 1)) (lv' := [(1, .int (x1_17 + 1)), (0, .ref a_this)]) hx hb dX2_clear_51 hl (k := 1) rfl (by rfl) (by decide) rfl (fun ls hl => ?_)
        refine lv_goto (tgt := 17) hx hb dX2_clear_54 (by decide) ?_
        exact ih _ _ _ _ _ _ hP hD hS ls (lv_sub hl [1, 0] rfl) hw
  obtain ⟨n, hw⟩ := hw
  exact LP_17 n _ _ _ _ _ _ hP hD hS ls (lv_sub hl [1, 0] rfl) hw
def wp_X2_addPerson (people : Int32) (marks : Nat → Int32) (inWeathers : Nat → Int32) (inHours : Nat → Int32) (fears : Nat → Int32) (p1 : Int32) (p2 : Int32) (p3 : Int32) (p4 : Int32) (Φ : (Nat → Int32) → (Nat → Int32) → (Nat → Int32) → (Nat → Int32) → Int32 → Prop) : Prop :=
  (wp_X7_put marks 8 people p1 (fun marks_9 => (wp_X7_put inWeathers 8 people p2 (fun inWeathers_21 => (wp_X7_put inHours 8 people p3 (fun inHours_33 => (wp_X7_put fears 8 people p4 (fun fears_46 => (Φ marks_9 inWeathers_21 inHours_33 fears_46 (people + 1))))))))))
abbrev xrm_X2_addPerson : Room := { frames := 1, cells := 0, slots := 0, locals := 22 }
set_option maxRecDepth 100000 in
set_option maxHeartbeats 4000000 in
theorem c_X2_addPerson (l : Launch) (D : va_G) (cI cZ cO : ClassId) {a_marks : Nat} {a_inWeathers : Nat} {a_inHours : Nat} {a_fears : Nat} {a_weathers : Nat} {a_hours : Nat} {a_dangers : Nat} {pay : Int32} {people : Int32} {days : Int32} {a_this : Nat} {marks : Nat → Int32} {inWeathers : Nat → Int32} {inHours : Nat → Int32} {fears : Nat → Int32} {p1 : Int32} {p2 : Int32} {p3 : Int32} {p4 : Int32} {Φ : (Nat → Int32) → (Nat → Int32) → (Nat → Int32) → (Nat → Int32) → Int32 → Prop} {sz : Nat} (hw : (wp_X2_addPerson people marks inWeathers inHours fears p1 p2 p3 p4 Φ)) : Met l yX2_addPerson wsX2_addPerson xrm_X2_addPerson (xPW D cI cZ cO [.ref a_this, .int p1, .int p2, .int p3, .int p4] sz [(a_this, .inr (2, [.ref a_marks, .ref a_inWeathers, .ref a_inHours, .ref a_fears, .ref a_weathers, .ref a_hours, .ref a_dangers, .int pay, .int people, .int days])), (a_marks, .inl (cI, 8, .inl marks)), (a_inWeathers, .inl (cI, 8, .inl inWeathers)), (a_inHours, .inl (cI, 8, .inl inHours)), (a_fears, .inl (cI, 8, .inl fears))]) (va_Qv (fun (u : (Nat → Int32) × (Nat → Int32) × (Nat → Int32) × (Nat → Int32) × Int32) => Φ u.1 u.2.1 u.2.2.1 u.2.2.2.1 u.2.2.2.2) (xB D (va_A [(a_this, .inr (2, [.ref a_marks, .ref a_inWeathers, .ref a_inHours, .ref a_fears, .ref a_weathers, .ref a_hours, .ref a_dangers, .int pay, .int people, .int days])), (a_marks, .inl (cI, 8, .inl marks)), (a_inWeathers, .inl (cI, 8, .inl inWeathers)), (a_inHours, .inl (cI, 8, .inl inHours)), (a_fears, .inl (cI, 8, .inl fears))] sz) (fun (u : (Nat → Int32) × (Nat → Int32) × (Nat → Int32) × (Nat → Int32) × Int32) => [(a_this, .inr (2, [.ref a_marks, .ref a_inWeathers, .ref a_inHours, .ref a_fears, .ref a_weathers, .ref a_hours, .ref a_dangers, .int pay, .int u.2.2.2.2, .int days])), (a_marks, .inl (cI, 8, .inl u.1)), (a_inWeathers, .inl (cI, 8, .inl u.2.1)), (a_inHours, .inl (cI, 8, .inl u.2.2.1)), (a_fears, .inl (cI, 8, .inl u.2.2.2.1))])) (va_A [(a_this, .inr (2, [.ref a_marks, .ref a_inWeathers, .ref a_inHours, .ref a_fears, .ref a_weathers, .ref a_hours, .ref a_dangers, .int pay, .int people, .int days])), (a_marks, .inl (cI, 8, .inl marks)), (a_inWeathers, .inl (cI, 8, .inl inWeathers)), (a_inHours, .inl (cI, 8, .inl inHours)), (a_fears, .inl (cI, 8, .inl fears))] sz)) 0 0 (va_A [(a_this, .inr (2, [.ref a_marks, .ref a_inWeathers, .ref a_inHours, .ref a_fears, .ref a_weathers, .ref a_hours, .ref a_dangers, .int pay, .int people, .int days])), (a_marks, .inl (cI, 8, .inl marks)), (a_inWeathers, .inl (cI, 8, .inl inWeathers)), (a_inHours, .inl (cI, 8, .inl inHours)), (a_fears, .inl (cI, 8, .inl fears))] sz) := by
  refine Met.ofW (cc := cX2_addPerson) (maxL := 5) (ret := none) (by decide) rfl ?_
  intro p e s m args below meth c s₁ B hml hv
  obtain ⟨rfl, hsz, hP, hKK, hD0⟩ := hv
  have hx := B.exec
  have hb := B.bytes
  have hr := B.returns
  have hts := atoms_spec (ws := wsX2_addPerson) B.pre
  have hown : s.vm.findClass RX2 = some m.cls := findClass_of_methodNamed B.named
  have hlocks := B.notSynchronized
  subst hsz
  have hD := hD0.self (sz := s.heap.size)
  obtain ⟨Q, hQ⟩ : ∃ Q, Q = MQ below (va_Qv (fun (u : (Nat → Int32) × (Nat → Int32) × (Nat → Int32) × (Nat → Int32) × Int32) => Φ u.1 u.2.1 u.2.2.1 u.2.2.2.1 u.2.2.2.2) (xB D (va_A [(a_this, .inr (2, [.ref a_marks, .ref a_inWeathers, .ref a_inHours, .ref a_fears, .ref a_weathers, .ref a_hours, .ref a_dangers, .int pay, .int people, .int days])), (a_marks, .inl (cI, 8, .inl marks)), (a_inWeathers, .inl (cI, 8, .inl inWeathers)), (a_inHours, .inl (cI, 8, .inl inHours)), (a_fears, .inl (cI, 8, .inl fears))] s.heap.size) (fun (u : (Nat → Int32) × (Nat → Int32) × (Nat → Int32) × (Nat → Int32) × Int32) => [(a_this, .inr (2, [.ref a_marks, .ref a_inWeathers, .ref a_inHours, .ref a_fears, .ref a_weathers, .ref a_hours, .ref a_dangers, .int pay, .int u.2.2.2.2, .int days])), (a_marks, .inl (cI, 8, .inl u.1)), (a_inWeathers, .inl (cI, 8, .inl u.2.1)), (a_inHours, .inl (cI, 8, .inl u.2.2.1)), (a_fears, .inl (cI, 8, .inl u.2.2.2.1))])) (va_A [(a_this, .inr (2, [.ref a_marks, .ref a_inWeathers, .ref a_inHours, .ref a_fears, .ref a_weathers, .ref a_hours, .ref a_dangers, .int pay, .int people, .int days])), (a_marks, .inl (cI, 8, .inl marks)), (a_inWeathers, .inl (cI, 8, .inl inWeathers)), (a_inHours, .inl (cI, 8, .inl inHours)), (a_fears, .inl (cI, 8, .inl fears))] s.heap.size)) ([.ref a_this, .int p1, .int p2, .int p3, .int p4] : List Value).toArray s 0 0 (va_A [(a_this, .inr (2, [.ref a_marks, .ref a_inWeathers, .ref a_inHours, .ref a_fears, .ref a_weathers, .ref a_hours, .ref a_dangers, .int pay, .int people, .int days])), (a_marks, .inl (cI, 8, .inl marks)), (a_inWeathers, .inl (cI, 8, .inl inWeathers)), (a_inHours, .inl (cI, 8, .inl inHours)), (a_fears, .inl (cI, 8, .inl fears))] s.heap.size) := ⟨_, rfl⟩
  rw [← hQ]
  generalize hAe : va_A [(a_this, .inr (2, [.ref a_marks, .ref a_inWeathers, .ref a_inHours, .ref a_fears, .ref a_weathers, .ref a_hours, .ref a_dangers, .int pay, .int people, .int days])), (a_marks, .inl (cI, 8, .inl marks)), (a_inWeathers, .inl (cI, 8, .inl inWeathers)), (a_inHours, .inl (cI, 8, .inl inHours)), (a_fears, .inl (cI, 8, .inl fears))] s.heap.size = A at hD hQ
  have hA : ∀ q : Nat, s.heap.size ≤ q → A q := fun q h => by rw [← hAe]; exact Or.inr h
  have hS : va_S A s.heap s.heap [] := va_S.rf
  have hl := lv_entry ([.ref a_this, .int p1, .int p2, .int p3, .int p4]) (n := 5) (Nat.le_of_ble_eq_true rfl)
  rw [lg_entry_eq]
  generalize (lg_sl ([.ref a_this, .int p1, .int p2, .int p3, .int p4]) ++ List.replicate (5 - (lg_sl ([.ref a_this, .int p1, .int p2, .int p3, .int p4])).length) Slot.unset).toArray = ls at hl ⊢
  have hl : lv_has ls 5 [(0, .ref a_this), (1, .int p1), (2, .int p2), (3, .int p3), (4, .int p4)] := hl
  generalize ([.ref a_this, .int p1, .int p2, .int p3, .int p4] : List Value).toArray = args at hts hQ ⊢
  have hP : va_P D vwCl [(a_this, .inr (2, [.ref a_marks, .ref a_inWeathers, .ref a_inHours, .ref a_fears, .ref a_weathers, .ref a_hours, .ref a_dangers, .int pay, .int people, .int days])), (a_marks, .inl (cI, 8, .inl marks)), (a_inWeathers, .inl (cI, 8, .inl inWeathers)), (a_inHours, .inl (cI, 8, .inl inHours)), (a_fears, .inl (cI, 8, .inl fears))] s.heap := hP
  have hinX2 : ∀ w ∈ u_ws RX2 TX2 10, w ∈ wsX2_addPerson := by decide +kernel
  have fl_9 := hts (.fieldLink RX2 9 "DoubleChain$Court" "marks" "[I") (by decide +kernel)
  have fl_15 := hts (.fieldLink RX2 15 "DoubleChain$Court" "inWeathers" "[I") (by decide +kernel)
  have fl_18 := hts (.fieldLink RX2 18 "DoubleChain$Court" "inHours" "[I") (by decide +kernel)
  have fl_21 := hts (.fieldLink RX2 21 "DoubleChain$Court" "fears" "[I") (by decide +kernel)
  have fl_37 := hts (.fieldLink RX2 37 "DoubleChain$Court" "people" "I") (by decide +kernel)
  clear B
  show W p l e xrm_X2_addPerson s m args below meth c s.heap [] 0 0 Q (F0 m 0 ls [])
  unfold wp_X2_addPerson at hw
  refine lv_aload_n hx hb dX2_addPerson_0 rfl (lv_at hl 0 rfl) ?_
  refine va_get (D := D) (ci := 2) (v := .ref a_marks) (C := RX2) (T := TX2) (N := 10) hx hb hts hinX2 hown hKK.1 hP 0 rfl rfl 0 (by decide) fl_9 (fun _ h9 => h9) rfl dX2_addPerson_1 ?_
  refine lv_aload_n hx hb dX2_addPerson_4 rfl (lv_at hl 0 rfl) ?_
  refine va_get (D := D) (ci := 2) (v := .int people) (C := RX2) (T := TX2) (N := 10) hx hb hts hinX2 hown hKK.1 hP 0 rfl rfl 8 (by decide) fl_37 (fun _ h9 => h9) rfl dX2_addPerson_5 ?_
  refine lv_iload_n hx hb dX2_addPerson_8 rfl (lv_at hl 1 rfl) ?_
  refine xwNv (wr := [(a_this, .inr (2, [.ref a_marks, .ref a_inWeathers, .ref a_inHours, .ref a_fears, .ref a_weathers, .ref a_hours, .ref a_dangers, .int pay, .int people, .int days])), (a_inWeathers, .inl (cI, 8, .inl inWeathers)), (a_inHours, .inl (cI, 8, .inl inHours)), (a_fears, .inl (cI, 8, .inl fears))]) (As := [.ref a_marks, .int people, .int p1]) (rest := []) (wc := [(a_marks, .inl (cI, 8, .inl marks))]) (fun (u : (Nat → Int32)) => [(a_this, .inr (2, [.ref a_marks, .ref a_inWeathers, .ref a_inHours, .ref a_fears, .ref a_weathers, .ref a_hours, .ref a_dangers, .int pay, .int people, .int days])), (a_marks, .inl (cI, 8, .inl u)), (a_inWeathers, .inl (cI, 8, .inl inWeathers)), (a_inHours, .inl (cI, 8, .inl inHours)), (a_fears, .inl (cI, 8, .inl fears))]) ⟨hx, hb, hml, hown, hts⟩ (c_X7_put l D cI cZ cO hw) ⟨va_cnB 3 hts gX2_addPerson_X7_put_n43 rfl rfl rfl (xn_9 hKK.2) (hts (.initialized RX7) (by decide +kernel)) (by decide +kernel) ⟨Nat.le_of_ble_eq_true rfl, Nat.le_of_ble_eq_true rfl⟩, hts (.static yX7_put) (by decide +kernel), trivial⟩ hKK hP hD hS hA [1] [0, 2, 3, 4] [0, 4, 1, 2, 3] rfl rfl rfl rfl rfl (by decide) (fun _ => rfl) rfl hl.1 rfl (Nat.le_of_ble_eq_true rfl) dX2_addPerson_9 ⟨Nat.zero_le _, Nat.zero_le _⟩ (fun marks_9 H locs hw hP hD hS => ?_)
  have hP : va_P D vwCl [(a_this, .inr (2, [.ref a_marks, .ref a_inWeathers, .ref a_inHours, .ref a_fears, .ref a_weathers, .ref a_hours, .ref a_dangers, .int pay, .int people, .int days])), (a_marks, .inl (cI, 8, .inl marks_9)), (a_inWeathers, .inl (cI, 8, .inl inWeathers)), (a_inHours, .inl (cI, 8, .inl inHours)), (a_fears, .inl (cI, 8, .inl fears))] H := hP
  have hD : va_D A [(a_this, .inr (2, [.ref a_marks, .ref a_inWeathers, .ref a_inHours, .ref a_fears, .ref a_weathers, .ref a_hours, .ref a_dangers, .int pay, .int people, .int days])), (a_marks, .inl (cI, 8, .inl marks_9)), (a_inWeathers, .inl (cI, 8, .inl inWeathers)), (a_inHours, .inl (cI, 8, .inl inHours)), (a_fears, .inl (cI, 8, .inl fears))] := hD
  refine lv_aload_n hx hb dX2_addPerson_12 rfl (lv_at hl 0 rfl) ?_
  refine va_get (D := D) (ci := 2) (v := .ref a_inWeathers) (C := RX2) (T := TX2) (N := 10) hx hb hts hinX2 hown hKK.1 hP 0 rfl rfl 1 (by decide) fl_15 (fun _ h9 => h9) rfl dX2_addPerson_13 ?_
  refine lv_aload_n hx hb dX2_addPerson_16 rfl (lv_at hl 0 rfl) ?_
  refine va_get (D := D) (ci := 2) (v := .int people) (C := RX2) (T := TX2) (N := 10) hx hb hts hinX2 hown hKK.1 hP 0 rfl rfl 8 (by decide) fl_37 (fun _ h9 => h9) rfl dX2_addPerson_17 ?_
  refine lv_iload_n hx hb dX2_addPerson_20 rfl (lv_at hl 2 rfl) ?_
  refine xwNv (wr := [(a_this, .inr (2, [.ref a_marks, .ref a_inWeathers, .ref a_inHours, .ref a_fears, .ref a_weathers, .ref a_hours, .ref a_dangers, .int pay, .int people, .int days])), (a_marks, .inl (cI, 8, .inl marks_9)), (a_inHours, .inl (cI, 8, .inl inHours)), (a_fears, .inl (cI, 8, .inl fears))]) (As := [.ref a_inWeathers, .int people, .int p2]) (rest := []) (wc := [(a_inWeathers, .inl (cI, 8, .inl inWeathers))]) (fun (u : (Nat → Int32)) => [(a_this, .inr (2, [.ref a_marks, .ref a_inWeathers, .ref a_inHours, .ref a_fears, .ref a_weathers, .ref a_hours, .ref a_dangers, .int pay, .int people, .int days])), (a_marks, .inl (cI, 8, .inl marks_9)), (a_inWeathers, .inl (cI, 8, .inl u)), (a_inHours, .inl (cI, 8, .inl inHours)), (a_fears, .inl (cI, 8, .inl fears))]) ⟨hx, hb, hml, hown, hts⟩ (c_X7_put l D cI cZ cO hw) ⟨va_cnB 3 hts gX2_addPerson_X7_put_n43 rfl rfl rfl (xn_9 hKK.2) (hts (.initialized RX7) (by decide +kernel)) (by decide +kernel) ⟨Nat.le_of_ble_eq_true rfl, Nat.le_of_ble_eq_true rfl⟩, hts (.static yX7_put) (by decide +kernel), trivial⟩ hKK hP hD hS hA [2] [0, 1, 3, 4] [0, 1, 4, 2, 3] rfl rfl rfl rfl rfl (by decide) (fun _ => rfl) rfl hl.1 rfl (Nat.le_of_ble_eq_true rfl) dX2_addPerson_21 ⟨Nat.zero_le _, Nat.zero_le _⟩ (fun inWeathers_21 H locs hw hP hD hS => ?_)
  have hP : va_P D vwCl [(a_this, .inr (2, [.ref a_marks, .ref a_inWeathers, .ref a_inHours, .ref a_fears, .ref a_weathers, .ref a_hours, .ref a_dangers, .int pay, .int people, .int days])), (a_marks, .inl (cI, 8, .inl marks_9)), (a_inWeathers, .inl (cI, 8, .inl inWeathers_21)), (a_inHours, .inl (cI, 8, .inl inHours)), (a_fears, .inl (cI, 8, .inl fears))] H := hP
  have hD : va_D A [(a_this, .inr (2, [.ref a_marks, .ref a_inWeathers, .ref a_inHours, .ref a_fears, .ref a_weathers, .ref a_hours, .ref a_dangers, .int pay, .int people, .int days])), (a_marks, .inl (cI, 8, .inl marks_9)), (a_inWeathers, .inl (cI, 8, .inl inWeathers_21)), (a_inHours, .inl (cI, 8, .inl inHours)), (a_fears, .inl (cI, 8, .inl fears))] := hD
  refine lv_aload_n hx hb dX2_addPerson_24 rfl (lv_at hl 0 rfl) ?_
  refine va_get (D := D) (ci := 2) (v := .ref a_inHours) (C := RX2) (T := TX2) (N := 10) hx hb hts hinX2 hown hKK.1 hP 0 rfl rfl 2 (by decide) fl_18 (fun _ h9 => h9) rfl dX2_addPerson_25 ?_
  refine lv_aload_n hx hb dX2_addPerson_28 rfl (lv_at hl 0 rfl) ?_
  refine va_get (D := D) (ci := 2) (v := .int people) (C := RX2) (T := TX2) (N := 10) hx hb hts hinX2 hown hKK.1 hP 0 rfl rfl 8 (by decide) fl_37 (fun _ h9 => h9) rfl dX2_addPerson_29 ?_
  refine lv_iload_n hx hb dX2_addPerson_32 rfl (lv_at hl 3 rfl) ?_
  refine xwNv (wr := [(a_this, .inr (2, [.ref a_marks, .ref a_inWeathers, .ref a_inHours, .ref a_fears, .ref a_weathers, .ref a_hours, .ref a_dangers, .int pay, .int people, .int days])), (a_marks, .inl (cI, 8, .inl marks_9)), (a_inWeathers, .inl (cI, 8, .inl inWeathers_21)), (a_fears, .inl (cI, 8, .inl fears))]) (As := [.ref a_inHours, .int people, .int p3]) (rest := []) (wc := [(a_inHours, .inl (cI, 8, .inl inHours))]) (fun (u : (Nat → Int32)) => [(a_this, .inr (2, [.ref a_marks, .ref a_inWeathers, .ref a_inHours, .ref a_fears, .ref a_weathers, .ref a_hours, .ref a_dangers, .int pay, .int people, .int days])), (a_marks, .inl (cI, 8, .inl marks_9)), (a_inWeathers, .inl (cI, 8, .inl inWeathers_21)), (a_inHours, .inl (cI, 8, .inl u)), (a_fears, .inl (cI, 8, .inl fears))]) ⟨hx, hb, hml, hown, hts⟩ (c_X7_put l D cI cZ cO hw) ⟨va_cnB 3 hts gX2_addPerson_X7_put_n43 rfl rfl rfl (xn_9 hKK.2) (hts (.initialized RX7) (by decide +kernel)) (by decide +kernel) ⟨Nat.le_of_ble_eq_true rfl, Nat.le_of_ble_eq_true rfl⟩, hts (.static yX7_put) (by decide +kernel), trivial⟩ hKK hP hD hS hA [3] [0, 1, 2, 4] [0, 1, 2, 4, 3] rfl rfl rfl rfl rfl (by decide) (fun _ => rfl) rfl hl.1 rfl (Nat.le_of_ble_eq_true rfl) dX2_addPerson_33 ⟨Nat.zero_le _, Nat.zero_le _⟩ (fun inHours_33 H locs hw hP hD hS => ?_)
  have hP : va_P D vwCl [(a_this, .inr (2, [.ref a_marks, .ref a_inWeathers, .ref a_inHours, .ref a_fears, .ref a_weathers, .ref a_hours, .ref a_dangers, .int pay, .int people, .int days])), (a_marks, .inl (cI, 8, .inl marks_9)), (a_inWeathers, .inl (cI, 8, .inl inWeathers_21)), (a_inHours, .inl (cI, 8, .inl inHours_33)), (a_fears, .inl (cI, 8, .inl fears))] H := hP
  have hD : va_D A [(a_this, .inr (2, [.ref a_marks, .ref a_inWeathers, .ref a_inHours, .ref a_fears, .ref a_weathers, .ref a_hours, .ref a_dangers, .int pay, .int people, .int days])), (a_marks, .inl (cI, 8, .inl marks_9)), (a_inWeathers, .inl (cI, 8, .inl inWeathers_21)), (a_inHours, .inl (cI, 8, .inl inHours_33)), (a_fears, .inl (cI, 8, .inl fears))] := hD
  refine lv_aload_n hx hb dX2_addPerson_36 rfl (lv_at hl 0 rfl) ?_
  refine va_get (D := D) (ci := 2) (v := .ref a_fears) (C := RX2) (T := TX2) (N := 10) hx hb hts hinX2 hown hKK.1 hP 0 rfl rfl 3 (by decide) fl_21 (fun _ h9 => h9) rfl dX2_addPerson_37 ?_
  refine lv_aload_n hx hb dX2_addPerson_40 rfl (lv_at hl 0 rfl) ?_
  refine va_get (D := D) (ci := 2) (v := .int people) (C := RX2) (T := TX2) (N := 10) hx hb hts hinX2 hown hKK.1 hP 0 rfl rfl 8 (by decide) fl_37 (fun _ h9 => h9) rfl dX2_addPerson_41 ?_
  refine lv_iload hx hb dX2_addPerson_44 (lv_at hl 4 rfl) ?_
  refine xwNv (wr := [(a_this, .inr (2, [.ref a_marks, .ref a_inWeathers, .ref a_inHours, .ref a_fears, .ref a_weathers, .ref a_hours, .ref a_dangers, .int pay, .int people, .int days])), (a_marks, .inl (cI, 8, .inl marks_9)), (a_inWeathers, .inl (cI, 8, .inl inWeathers_21)), (a_inHours, .inl (cI, 8, .inl inHours_33))]) (As := [.ref a_fears, .int people, .int p4]) (rest := []) (wc := [(a_fears, .inl (cI, 8, .inl fears))]) (fun (u : (Nat → Int32)) => [(a_this, .inr (2, [.ref a_marks, .ref a_inWeathers, .ref a_inHours, .ref a_fears, .ref a_weathers, .ref a_hours, .ref a_dangers, .int pay, .int people, .int days])), (a_marks, .inl (cI, 8, .inl marks_9)), (a_inWeathers, .inl (cI, 8, .inl inWeathers_21)), (a_inHours, .inl (cI, 8, .inl inHours_33)), (a_fears, .inl (cI, 8, .inl u))]) ⟨hx, hb, hml, hown, hts⟩ (c_X7_put l D cI cZ cO hw) ⟨va_cnB 3 hts gX2_addPerson_X7_put_n43 rfl rfl rfl (xn_9 hKK.2) (hts (.initialized RX7) (by decide +kernel)) (by decide +kernel) ⟨Nat.le_of_ble_eq_true rfl, Nat.le_of_ble_eq_true rfl⟩, hts (.static yX7_put) (by decide +kernel), trivial⟩ hKK hP hD hS hA [4] [0, 1, 2, 3] [0, 1, 2, 3, 4] rfl rfl rfl rfl rfl (by decide) (fun _ => rfl) rfl hl.1 rfl (Nat.le_of_ble_eq_true rfl) dX2_addPerson_46 ⟨Nat.zero_le _, Nat.zero_le _⟩ (fun fears_46 H locs hw hP hD hS => ?_)
  have hP : va_P D vwCl [(a_this, .inr (2, [.ref a_marks, .ref a_inWeathers, .ref a_inHours, .ref a_fears, .ref a_weathers, .ref a_hours, .ref a_dangers, .int pay, .int people, .int days])), (a_marks, .inl (cI, 8, .inl marks_9)), (a_inWeathers, .inl (cI, 8, .inl inWeathers_21)), (a_inHours, .inl (cI, 8, .inl inHours_33)), (a_fears, .inl (cI, 8, .inl fears_46))] H := hP
  have hD : va_D A [(a_this, .inr (2, [.ref a_marks, .ref a_inWeathers, .ref a_inHours, .ref a_fears, .ref a_weathers, .ref a_hours, .ref a_dangers, .int pay, .int people, .int days])), (a_marks, .inl (cI, 8, .inl marks_9)), (a_inWeathers, .inl (cI, 8, .inl inWeathers_21)), (a_inHours, .inl (cI, 8, .inl inHours_33)), (a_fears, .inl (cI, 8, .inl fears_46))] := hD
  refine lv_aload_n hx hb dX2_addPerson_49 rfl (lv_at hl 0 rfl) ?_
  refine lv_dup hx hb dX2_addPerson_50 rfl ?_
  refine va_get (D := D) (ci := 2) (v := .int people) (C := RX2) (T := TX2) (N := 10) hx hb hts hinX2 hown hKK.1 hP 0 rfl rfl 8 (by decide) fl_37 (fun _ h9 => h9) rfl dX2_addPerson_51 ?_
  refine lv_iconst (v := 1) hx hb dX2_addPerson_54 (by decide) ?_
  refine lv_iadd hx hb dX2_addPerson_55 ?_
  refine va_put (D := D) (ci := 2) (v := .int (people + 1)) (ty := .int) (C := RX2) (T := TX2) (N := 10) hx hb hts hinX2 tyX2 tyX2_ok nmX2 hown hKK.1 hP hD hS 0 rfl rfl 8 (by decide) fl_37 (fun _ h9 => h9) rfl (by decide +kernel) rfl rfl (Nat.le_of_ble_eq_true rfl) dX2_addPerson_56 (fun H locs hP hD hS => ?_)
  have hP : va_P D vwCl [(a_this, .inr (2, [.ref a_marks, .ref a_inWeathers, .ref a_inHours, .ref a_fears, .ref a_weathers, .ref a_hours, .ref a_dangers, .int pay, .int (people + 1), .int days])), (a_marks, .inl (cI, 8, .inl marks_9)), (a_inWeathers, .inl (cI, 8, .inl inWeathers_21)), (a_inHours, .inl (cI, 8, .inl inHours_33)), (a_fears, .inl (cI, 8, .inl fears_46))] H := hP
  have hD : va_D A [(a_this, .inr (2, [.ref a_marks, .ref a_inWeathers, .ref a_inHours, .ref a_fears, .ref a_weathers, .ref a_hours, .ref a_dangers, .int pay, .int (people + 1), .int days])), (a_marks, .inl (cI, 8, .inl marks_9)), (a_inWeathers, .inl (cI, 8, .inl inWeathers_21)), (a_inHours, .inl (cI, 8, .inl inHours_33)), (a_fears, .inl (cI, 8, .inl fears_46))] := hD
  rw [hQ]
  exact W.vret hx hb hr (fun t ht _ => ⟨⟨⟨marks_9, inWeathers_21, inHours_33, fears_46, (people + 1)⟩, rfl, hw, by rw [ht]; exact hP, hD⟩, hS.F ht⟩) hS.2.2 dX2_addPerson_59
def wp_X2_addDay (days : Int32) (weathers : Nat → Int32) (hours : Nat → Int32) (dangers : Nat → Int32) (p1 : Int32) (p2 : Int32) (p3 : Int32) (Φ : (Nat → Int32) → (Nat → Int32) → (Nat → Int32) → Int32 → Prop) : Prop :=
  (wp_X7_put weathers 10 days p1 (fun weathers_9 => (wp_X7_put hours 10 days p2 (fun hours_21 => (wp_X7_put dangers 10 days p3 (fun dangers_33 => (Φ weathers_9 hours_21 dangers_33 (days + 1))))))))
abbrev xrm_X2_addDay : Room := { frames := 1, cells := 0, slots := 0, locals := 22 }
set_option maxRecDepth 100000 in
set_option maxHeartbeats 4000000 in
theorem c_X2_addDay (l : Launch) (D : va_G) (cI cZ cO : ClassId) {a_marks : Nat} {a_inWeathers : Nat} {a_inHours : Nat} {a_fears : Nat} {a_weathers : Nat} {a_hours : Nat} {a_dangers : Nat} {pay : Int32} {people : Int32} {days : Int32} {a_this : Nat} {weathers : Nat → Int32} {hours : Nat → Int32} {dangers : Nat → Int32} {p1 : Int32} {p2 : Int32} {p3 : Int32} {Φ : (Nat → Int32) → (Nat → Int32) → (Nat → Int32) → Int32 → Prop} {sz : Nat} (hw : (wp_X2_addDay days weathers hours dangers p1 p2 p3 Φ)) : Met l yX2_addDay wsX2_addDay xrm_X2_addDay (xPW D cI cZ cO [.ref a_this, .int p1, .int p2, .int p3] sz [(a_this, .inr (2, [.ref a_marks, .ref a_inWeathers, .ref a_inHours, .ref a_fears, .ref a_weathers, .ref a_hours, .ref a_dangers, .int pay, .int people, .int days])), (a_weathers, .inl (cI, 10, .inl weathers)), (a_hours, .inl (cI, 10, .inl hours)), (a_dangers, .inl (cI, 10, .inl dangers))]) (va_Qv (fun (u : (Nat → Int32) × (Nat → Int32) × (Nat → Int32) × Int32) => Φ u.1 u.2.1 u.2.2.1 u.2.2.2) (xB D (va_A [(a_this, .inr (2, [.ref a_marks, .ref a_inWeathers, .ref a_inHours, .ref a_fears, .ref a_weathers, .ref a_hours, .ref a_dangers, .int pay, .int people, .int days])), (a_weathers, .inl (cI, 10, .inl weathers)), (a_hours, .inl (cI, 10, .inl hours)), (a_dangers, .inl (cI, 10, .inl dangers))] sz) (fun (u : (Nat → Int32) × (Nat → Int32) × (Nat → Int32) × Int32) => [(a_this, .inr (2, [.ref a_marks, .ref a_inWeathers, .ref a_inHours, .ref a_fears, .ref a_weathers, .ref a_hours, .ref a_dangers, .int pay, .int people, .int u.2.2.2])), (a_weathers, .inl (cI, 10, .inl u.1)), (a_hours, .inl (cI, 10, .inl u.2.1)), (a_dangers, .inl (cI, 10, .inl u.2.2.1))])) (va_A [(a_this, .inr (2, [.ref a_marks, .ref a_inWeathers, .ref a_inHours, .ref a_fears, .ref a_weathers, .ref a_hours, .ref a_dangers, .int pay, .int people, .int days])), (a_weathers, .inl (cI, 10, .inl weathers)), (a_hours, .inl (cI, 10, .inl hours)), (a_dangers, .inl (cI, 10, .inl dangers))] sz)) 0 0 (va_A [(a_this, .inr (2, [.ref a_marks, .ref a_inWeathers, .ref a_inHours, .ref a_fears, .ref a_weathers, .ref a_hours, .ref a_dangers, .int pay, .int people, .int days])), (a_weathers, .inl (cI, 10, .inl weathers)), (a_hours, .inl (cI, 10, .inl hours)), (a_dangers, .inl (cI, 10, .inl dangers))] sz) := by
  refine Met.ofW (cc := cX2_addDay) (maxL := 4) (ret := none) (by decide) rfl ?_
  intro p e s m args below meth c s₁ B hml hv
  obtain ⟨rfl, hsz, hP, hKK, hD0⟩ := hv
  have hx := B.exec
  have hb := B.bytes
  have hr := B.returns
  have hts := atoms_spec (ws := wsX2_addDay) B.pre
  have hown : s.vm.findClass RX2 = some m.cls := findClass_of_methodNamed B.named
  have hlocks := B.notSynchronized
  subst hsz
  have hD := hD0.self (sz := s.heap.size)
  obtain ⟨Q, hQ⟩ : ∃ Q, Q = MQ below (va_Qv (fun (u : (Nat → Int32) × (Nat → Int32) × (Nat → Int32) × Int32) => Φ u.1 u.2.1 u.2.2.1 u.2.2.2) (xB D (va_A [(a_this, .inr (2, [.ref a_marks, .ref a_inWeathers, .ref a_inHours, .ref a_fears, .ref a_weathers, .ref a_hours, .ref a_dangers, .int pay, .int people, .int days])), (a_weathers, .inl (cI, 10, .inl weathers)), (a_hours, .inl (cI, 10, .inl hours)), (a_dangers, .inl (cI, 10, .inl dangers))] s.heap.size) (fun (u : (Nat → Int32) × (Nat → Int32) × (Nat → Int32) × Int32) => [(a_this, .inr (2, [.ref a_marks, .ref a_inWeathers, .ref a_inHours, .ref a_fears, .ref a_weathers, .ref a_hours, .ref a_dangers, .int pay, .int people, .int u.2.2.2])), (a_weathers, .inl (cI, 10, .inl u.1)), (a_hours, .inl (cI, 10, .inl u.2.1)), (a_dangers, .inl (cI, 10, .inl u.2.2.1))])) (va_A [(a_this, .inr (2, [.ref a_marks, .ref a_inWeathers, .ref a_inHours, .ref a_fears, .ref a_weathers, .ref a_hours, .ref a_dangers, .int pay, .int people, .int days])), (a_weathers, .inl (cI, 10, .inl weathers)), (a_hours, .inl (cI, 10, .inl hours)), (a_dangers, .inl (cI, 10, .inl dangers))] s.heap.size)) ([.ref a_this, .int p1, .int p2, .int p3] : List Value).toArray s 0 0 (va_A [(a_this, .inr (2, [.ref a_marks, .ref a_inWeathers, .ref a_inHours, .ref a_fears, .ref a_weathers, .ref a_hours, .ref a_dangers, .int pay, .int people, .int days])), (a_weathers, .inl (cI, 10, .inl weathers)), (a_hours, .inl (cI, 10, .inl hours)), (a_dangers, .inl (cI, 10, .inl dangers))] s.heap.size) := ⟨_, rfl⟩
  rw [← hQ]
  generalize hAe : va_A [(a_this, .inr (2, [.ref a_marks, .ref a_inWeathers, .ref a_inHours, .ref a_fears, .ref a_weathers, .ref a_hours, .ref a_dangers, .int pay, .int people, .int days])), (a_weathers, .inl (cI, 10, .inl weathers)), (a_hours, .inl (cI, 10, .inl hours)), (a_dangers, .inl (cI, 10, .inl dangers))] s.heap.size = A at hD hQ
  have hA : ∀ q : Nat, s.heap.size ≤ q → A q := fun q h => by rw [← hAe]; exact Or.inr h
  have hS : va_S A s.heap s.heap [] := va_S.rf
  have hl := lv_entry ([.ref a_this, .int p1, .int p2, .int p3]) (n := 4) (Nat.le_of_ble_eq_true rfl)
  rw [lg_entry_eq]
  generalize (lg_sl ([.ref a_this, .int p1, .int p2, .int p3]) ++ List.replicate (4 - (lg_sl ([.ref a_this, .int p1, .int p2, .int p3])).length) Slot.unset).toArray = ls at hl ⊢
  have hl : lv_has ls 4 [(0, .ref a_this), (1, .int p1), (2, .int p2), (3, .int p3)] := hl
  generalize ([.ref a_this, .int p1, .int p2, .int p3] : List Value).toArray = args at hts hQ ⊢
  have hP : va_P D vwCl [(a_this, .inr (2, [.ref a_marks, .ref a_inWeathers, .ref a_inHours, .ref a_fears, .ref a_weathers, .ref a_hours, .ref a_dangers, .int pay, .int people, .int days])), (a_weathers, .inl (cI, 10, .inl weathers)), (a_hours, .inl (cI, 10, .inl hours)), (a_dangers, .inl (cI, 10, .inl dangers))] s.heap := hP
  have hinX2 : ∀ w ∈ u_ws RX2 TX2 10, w ∈ wsX2_addDay := by decide +kernel
  have fl_24 := hts (.fieldLink RX2 24 "DoubleChain$Court" "weathers" "[I") (by decide +kernel)
  have fl_27 := hts (.fieldLink RX2 27 "DoubleChain$Court" "hours" "[I") (by decide +kernel)
  have fl_30 := hts (.fieldLink RX2 30 "DoubleChain$Court" "dangers" "[I") (by decide +kernel)
  have fl_40 := hts (.fieldLink RX2 40 "DoubleChain$Court" "days" "I") (by decide +kernel)
  clear B
  show W p l e xrm_X2_addDay s m args below meth c s.heap [] 0 0 Q (F0 m 0 ls [])
  unfold wp_X2_addDay at hw
  refine lv_aload_n hx hb dX2_addDay_0 rfl (lv_at hl 0 rfl) ?_
  refine va_get (D := D) (ci := 2) (v := .ref a_weathers) (C := RX2) (T := TX2) (N := 10) hx hb hts hinX2 hown hKK.1 hP 0 rfl rfl 4 (by decide) fl_24 (fun _ h9 => h9) rfl dX2_addDay_1 ?_
  refine lv_aload_n hx hb dX2_addDay_4 rfl (lv_at hl 0 rfl) ?_
  refine va_get (D := D) (ci := 2) (v := .int days) (C := RX2) (T := TX2) (N := 10) hx hb hts hinX2 hown hKK.1 hP 0 rfl rfl 9 (by decide) fl_40 (fun _ h9 => h9) rfl dX2_addDay_5 ?_
  refine lv_iload_n hx hb dX2_addDay_8 rfl (lv_at hl 1 rfl) ?_
  refine xwNv (wr := [(a_this, .inr (2, [.ref a_marks, .ref a_inWeathers, .ref a_inHours, .ref a_fears, .ref a_weathers, .ref a_hours, .ref a_dangers, .int pay, .int people, .int days])), (a_hours, .inl (cI, 10, .inl hours)), (a_dangers, .inl (cI, 10, .inl dangers))]) (As := [.ref a_weathers, .int days, .int p1]) (rest := []) (wc := [(a_weathers, .inl (cI, 10, .inl weathers))]) (fun (u : (Nat → Int32)) => [(a_this, .inr (2, [.ref a_marks, .ref a_inWeathers, .ref a_inHours, .ref a_fears, .ref a_weathers, .ref a_hours, .ref a_dangers, .int pay, .int people, .int days])), (a_weathers, .inl (cI, 10, .inl u)), (a_hours, .inl (cI, 10, .inl hours)), (a_dangers, .inl (cI, 10, .inl dangers))]) ⟨hx, hb, hml, hown, hts⟩ (c_X7_put l D cI cZ cO hw) ⟨va_cnB 3 hts gX2_addDay_X7_put_n43 rfl rfl rfl (xn_9 hKK.2) (hts (.initialized RX7) (by decide +kernel)) (by decide +kernel) ⟨Nat.le_of_ble_eq_true rfl, Nat.le_of_ble_eq_true rfl⟩, hts (.static yX7_put) (by decide +kernel), trivial⟩ hKK hP hD hS hA [1] [0, 2, 3] [0, 3, 1, 2] rfl rfl rfl rfl rfl (by decide) (fun _ => rfl) rfl hl.1 rfl (Nat.le_of_ble_eq_true rfl) dX2_addDay_9 ⟨Nat.zero_le _, Nat.zero_le _⟩ (fun weathers_9 H locs hw hP hD hS => ?_)
  have hP : va_P D vwCl [(a_this, .inr (2, [.ref a_marks, .ref a_inWeathers, .ref a_inHours, .ref a_fears, .ref a_weathers, .ref a_hours, .ref a_dangers, .int pay, .int people, .int days])), (a_weathers, .inl (cI, 10, .inl weathers_9)), (a_hours, .inl (cI, 10, .inl hours)), (a_dangers, .inl (cI, 10, .inl dangers))] H := hP
  have hD : va_D A [(a_this, .inr (2, [.ref a_marks, .ref a_inWeathers, .ref a_inHours, .ref a_fears, .ref a_weathers, .ref a_hours, .ref a_dangers, .int pay, .int people, .int days])), (a_weathers, .inl (cI, 10, .inl weathers_9)), (a_hours, .inl (cI, 10, .inl hours)), (a_dangers, .inl (cI, 10, .inl dangers))] := hD
  refine lv_aload_n hx hb dX2_addDay_12 rfl (lv_at hl 0 rfl) ?_
  refine va_get (D := D) (ci := 2) (v := .ref a_hours) (C := RX2) (T := TX2) (N := 10) hx hb hts hinX2 hown hKK.1 hP 0 rfl rfl 5 (by decide) fl_27 (fun _ h9 => h9) rfl dX2_addDay_13 ?_
  refine lv_aload_n hx hb dX2_addDay_16 rfl (lv_at hl 0 rfl) ?_
  refine va_get (D := D) (ci := 2) (v := .int days) (C := RX2) (T := TX2) (N := 10) hx hb hts hinX2 hown hKK.1 hP 0 rfl rfl 9 (by decide) fl_40 (fun _ h9 => h9) rfl dX2_addDay_17 ?_
  refine lv_iload_n hx hb dX2_addDay_20 rfl (lv_at hl 2 rfl) ?_
  refine xwNv (wr := [(a_this, .inr (2, [.ref a_marks, .ref a_inWeathers, .ref a_inHours, .ref a_fears, .ref a_weathers, .ref a_hours, .ref a_dangers, .int pay, .int people, .int days])), (a_weathers, .inl (cI, 10, .inl weathers_9)), (a_dangers, .inl (cI, 10, .inl dangers))]) (As := [.ref a_hours, .int days, .int p2]) (rest := []) (wc := [(a_hours, .inl (cI, 10, .inl hours))]) (fun (u : (Nat → Int32)) => [(a_this, .inr (2, [.ref a_marks, .ref a_inWeathers, .ref a_inHours, .ref a_fears, .ref a_weathers, .ref a_hours, .ref a_dangers, .int pay, .int people, .int days])), (a_weathers, .inl (cI, 10, .inl weathers_9)), (a_hours, .inl (cI, 10, .inl u)), (a_dangers, .inl (cI, 10, .inl dangers))]) ⟨hx, hb, hml, hown, hts⟩ (c_X7_put l D cI cZ cO hw) ⟨va_cnB 3 hts gX2_addDay_X7_put_n43 rfl rfl rfl (xn_9 hKK.2) (hts (.initialized RX7) (by decide +kernel)) (by decide +kernel) ⟨Nat.le_of_ble_eq_true rfl, Nat.le_of_ble_eq_true rfl⟩, hts (.static yX7_put) (by decide +kernel), trivial⟩ hKK hP hD hS hA [2] [0, 1, 3] [0, 1, 3, 2] rfl rfl rfl rfl rfl (by decide) (fun _ => rfl) rfl hl.1 rfl (Nat.le_of_ble_eq_true rfl) dX2_addDay_21 ⟨Nat.zero_le _, Nat.zero_le _⟩ (fun hours_21 H locs hw hP hD hS => ?_)
  have hP : va_P D vwCl [(a_this, .inr (2, [.ref a_marks, .ref a_inWeathers, .ref a_inHours, .ref a_fears, .ref a_weathers, .ref a_hours, .ref a_dangers, .int pay, .int people, .int days])), (a_weathers, .inl (cI, 10, .inl weathers_9)), (a_hours, .inl (cI, 10, .inl hours_21)), (a_dangers, .inl (cI, 10, .inl dangers))] H := hP
  have hD : va_D A [(a_this, .inr (2, [.ref a_marks, .ref a_inWeathers, .ref a_inHours, .ref a_fears, .ref a_weathers, .ref a_hours, .ref a_dangers, .int pay, .int people, .int days])), (a_weathers, .inl (cI, 10, .inl weathers_9)), (a_hours, .inl (cI, 10, .inl hours_21)), (a_dangers, .inl (cI, 10, .inl dangers))] := hD
  refine lv_aload_n hx hb dX2_addDay_24 rfl (lv_at hl 0 rfl) ?_
  refine va_get (D := D) (ci := 2) (v := .ref a_dangers) (C := RX2) (T := TX2) (N := 10) hx hb hts hinX2 hown hKK.1 hP 0 rfl rfl 6 (by decide) fl_30 (fun _ h9 => h9) rfl dX2_addDay_25 ?_
  refine lv_aload_n hx hb dX2_addDay_28 rfl (lv_at hl 0 rfl) ?_
  refine va_get (D := D) (ci := 2) (v := .int days) (C := RX2) (T := TX2) (N := 10) hx hb hts hinX2 hown hKK.1 hP 0 rfl rfl 9 (by decide) fl_40 (fun _ h9 => h9) rfl dX2_addDay_29 ?_
  refine lv_iload_n hx hb dX2_addDay_32 rfl (lv_at hl 3 rfl) ?_
  refine xwNv (wr := [(a_this, .inr (2, [.ref a_marks, .ref a_inWeathers, .ref a_inHours, .ref a_fears, .ref a_weathers, .ref a_hours, .ref a_dangers, .int pay, .int people, .int days])), (a_weathers, .inl (cI, 10, .inl weathers_9)), (a_hours, .inl (cI, 10, .inl hours_21))]) (As := [.ref a_dangers, .int days, .int p3]) (rest := []) (wc := [(a_dangers, .inl (cI, 10, .inl dangers))]) (fun (u : (Nat → Int32)) => [(a_this, .inr (2, [.ref a_marks, .ref a_inWeathers, .ref a_inHours, .ref a_fears, .ref a_weathers, .ref a_hours, .ref a_dangers, .int pay, .int people, .int days])), (a_weathers, .inl (cI, 10, .inl weathers_9)), (a_hours, .inl (cI, 10, .inl hours_21)), (a_dangers, .inl (cI, 10, .inl u))]) ⟨hx, hb, hml, hown, hts⟩ (c_X7_put l D cI cZ cO hw) ⟨va_cnB 3 hts gX2_addDay_X7_put_n43 rfl rfl rfl (xn_9 hKK.2) (hts (.initialized RX7) (by decide +kernel)) (by decide +kernel) ⟨Nat.le_of_ble_eq_true rfl, Nat.le_of_ble_eq_true rfl⟩, hts (.static yX7_put) (by decide +kernel), trivial⟩ hKK hP hD hS hA [3] [0, 1, 2] [0, 1, 2, 3] rfl rfl rfl rfl rfl (by decide) (fun _ => rfl) rfl hl.1 rfl (Nat.le_of_ble_eq_true rfl) dX2_addDay_33 ⟨Nat.zero_le _, Nat.zero_le _⟩ (fun dangers_33 H locs hw hP hD hS => ?_)
  have hP : va_P D vwCl [(a_this, .inr (2, [.ref a_marks, .ref a_inWeathers, .ref a_inHours, .ref a_fears, .ref a_weathers, .ref a_hours, .ref a_dangers, .int pay, .int people, .int days])), (a_weathers, .inl (cI, 10, .inl weathers_9)), (a_hours, .inl (cI, 10, .inl hours_21)), (a_dangers, .inl (cI, 10, .inl dangers_33))] H := hP
  have hD : va_D A [(a_this, .inr (2, [.ref a_marks, .ref a_inWeathers, .ref a_inHours, .ref a_fears, .ref a_weathers, .ref a_hours, .ref a_dangers, .int pay, .int people, .int days])), (a_weathers, .inl (cI, 10, .inl weathers_9)), (a_hours, .inl (cI, 10, .inl hours_21)), (a_dangers, .inl (cI, 10, .inl dangers_33))] := hD
  refine lv_aload_n hx hb dX2_addDay_36 rfl (lv_at hl 0 rfl) ?_
  refine lv_dup hx hb dX2_addDay_37 rfl ?_
  refine va_get (D := D) (ci := 2) (v := .int days) (C := RX2) (T := TX2) (N := 10) hx hb hts hinX2 hown hKK.1 hP 0 rfl rfl 9 (by decide) fl_40 (fun _ h9 => h9) rfl dX2_addDay_38 ?_
  refine lv_iconst (v := 1) hx hb dX2_addDay_41 (by decide) ?_
  refine lv_iadd hx hb dX2_addDay_42 ?_
  refine va_put (D := D) (ci := 2) (v := .int (days + 1)) (ty := .int) (C := RX2) (T := TX2) (N := 10) hx hb hts hinX2 tyX2 tyX2_ok nmX2 hown hKK.1 hP hD hS 0 rfl rfl 9 (by decide) fl_40 (fun _ h9 => h9) rfl (by decide +kernel) rfl rfl (Nat.le_of_ble_eq_true rfl) dX2_addDay_43 (fun H locs hP hD hS => ?_)
  have hP : va_P D vwCl [(a_this, .inr (2, [.ref a_marks, .ref a_inWeathers, .ref a_inHours, .ref a_fears, .ref a_weathers, .ref a_hours, .ref a_dangers, .int pay, .int people, .int (days + 1)])), (a_weathers, .inl (cI, 10, .inl weathers_9)), (a_hours, .inl (cI, 10, .inl hours_21)), (a_dangers, .inl (cI, 10, .inl dangers_33))] H := hP
  have hD : va_D A [(a_this, .inr (2, [.ref a_marks, .ref a_inWeathers, .ref a_inHours, .ref a_fears, .ref a_weathers, .ref a_hours, .ref a_dangers, .int pay, .int people, .int (days + 1)])), (a_weathers, .inl (cI, 10, .inl weathers_9)), (a_hours, .inl (cI, 10, .inl hours_21)), (a_dangers, .inl (cI, 10, .inl dangers_33))] := hD
  rw [hQ]
  exact W.vret hx hb hr (fun t ht _ => ⟨⟨⟨weathers_9, hours_21, dangers_33, (days + 1)⟩, rfl, hw, by rw [ht]; exact hP, hD⟩, hS.F ht⟩) hS.2.2 dX2_addDay_46
def wp_X2_stands (pay : Int32) (Φ : Int32 → Prop) : Prop :=
  ((pay ≤ 0 → (Φ 0)) ∧ (¬ pay ≤ 0 → (Φ 1)))
abbrev xrm_X2_stands : Room := { frames := 0, cells := 0, slots := 0, locals := 0 }
set_option maxRecDepth 100000 in
set_option maxHeartbeats 4000000 in
theorem c_X2_stands (l : Launch) (D : va_G) (cI cZ cO : ClassId) {a_marks : Nat} {a_inWeathers : Nat} {a_inHours : Nat} {a_fears : Nat} {a_weathers : Nat} {a_hours : Nat} {a_dangers : Nat} {pay : Int32} {people : Int32} {days : Int32} {a_this : Nat} {Φ : Int32 → Prop} (hw : (wp_X2_stands pay Φ)) : Met l yX2_stands wsX2_stands xrm_X2_stands (xPR D cI cZ cO [.ref a_this] [(a_this, .inr (2, [.ref a_marks, .ref a_inWeathers, .ref a_inHours, .ref a_fears, .ref a_weathers, .ref a_hours, .ref a_dangers, .int pay, .int people, .int days]))]) (vp_Si Φ) 0 0 (fun _ => False) := by
  refine Met.ofW (cc := cX2_stands) (maxL := 1) (ret := (some .boolean)) (by decide) rfl ?_
  intro p e s m args below meth c s₁ B hml hv
  obtain ⟨rfl, hP, hKK⟩ := hv
  have hx := B.exec
  have hb := B.bytes
  have hr := B.returns
  have hts := atoms_spec (ws := wsX2_stands) B.pre
  have hown : s.vm.findClass RX2 = some m.cls := findClass_of_methodNamed B.named
  have hlocks := B.notSynchronized
  obtain ⟨Q, hQ⟩ : ∃ Q, Q = MQ below (vp_Si Φ) ([.ref a_this] : List Value).toArray s 0 0 (fun _ => False) := ⟨_, rfl⟩
  rw [← hQ]
  have hl := lv_entry ([.ref a_this]) (n := 1) (Nat.le_of_ble_eq_true rfl)
  rw [lg_entry_eq]
  generalize (lg_sl ([.ref a_this]) ++ List.replicate (1 - (lg_sl ([.ref a_this])).length) Slot.unset).toArray = ls at hl ⊢
  have hl : lv_has ls 1 [(0, .ref a_this)] := hl
  generalize ([.ref a_this] : List Value).toArray = args at hts hQ ⊢
  have hP : va_P D vwCl [(a_this, .inr (2, [.ref a_marks, .ref a_inWeathers, .ref a_inHours, .ref a_fears, .ref a_weathers, .ref a_hours, .ref a_dangers, .int pay, .int people, .int days]))] s.heap := hP
  have hinX2 : ∀ w ∈ u_ws RX2 TX2 10, w ∈ wsX2_stands := by decide +kernel
  have fl_33 := hts (.fieldLink RX2 33 "DoubleChain$Court" "pay" "I") (by decide +kernel)
  clear B
  show W p l e xrm_X2_stands s m args below meth c s.heap [] 0 0 Q (F0 m 0 ls [])
  unfold wp_X2_stands at hw
  refine lv_aload_n hx hb dX2_stands_0 rfl (lv_at hl 0 rfl) ?_
  refine va_get (D := D) (ci := 2) (v := .int pay) (C := RX2) (T := TX2) (N := 10) hx hb hts hinX2 hown hKK.1 hP 0 rfl rfl 7 (by decide) fl_33 (fun _ h9 => h9) rfl dX2_stands_1 ?_
  refine lv_if_le (tgt := 11) hx hb dX2_stands_4 (by decide) (fun c_4 => ?_) (fun c_4 => ?_)
  · have hw := hw.1 c_4
    refine lv_iconst (v := 0) hx hb dX2_stands_11 (by decide) ?_
    rw [hQ]
    exact W.zret (v := 0) hx hb hr xvz_0 (fun t ht _ => ⟨0, rfl, hw, ht⟩) (fun _ h => (List.not_mem_nil h).elim) dX2_stands_12
  · have hw := hw.2 c_4
    refine lv_iconst (v := 1) hx hb dX2_stands_7 (by decide) ?_
    refine lv_goto (tgt := 12) hx hb dX2_stands_8 (by decide) ?_
    rw [hQ]
    exact W.zret (v := 1) hx hb hr xvz_1 (fun t ht _ => ⟨1, rfl, hw, ht⟩) (fun _ h => (List.not_mem_nil h).elim) dX2_stands_12
def wp_X2_hasDay (days : Int32) (p1 : Int32) (Φ : Int32 → Prop) : Prop :=
  ((p1 < 0 → (Φ 0)) ∧ (¬ p1 < 0 → ((days ≤ p1 → (Φ 0)) ∧ (¬ days ≤ p1 → (Φ 1)))))
abbrev xrm_X2_hasDay : Room := { frames := 0, cells := 0, slots := 0, locals := 0 }
set_option maxRecDepth 100000 in
set_option maxHeartbeats 4000000 in
theorem c_X2_hasDay (l : Launch) (D : va_G) (cI cZ cO : ClassId) {a_marks : Nat} {a_inWeathers : Nat} {a_inHours : Nat} {a_fears : Nat} {a_weathers : Nat} {a_hours : Nat} {a_dangers : Nat} {pay : Int32} {people : Int32} {days : Int32} {a_this : Nat} {p1 : Int32} {Φ : Int32 → Prop} (hw : (wp_X2_hasDay days p1 Φ)) : Met l yX2_hasDay wsX2_hasDay xrm_X2_hasDay (xPR D cI cZ cO [.ref a_this, .int p1] [(a_this, .inr (2, [.ref a_marks, .ref a_inWeathers, .ref a_inHours, .ref a_fears, .ref a_weathers, .ref a_hours, .ref a_dangers, .int pay, .int people, .int days]))]) (vp_Si Φ) 0 0 (fun _ => False) := by
  refine Met.ofW (cc := cX2_hasDay) (maxL := 2) (ret := (some .boolean)) (by decide) rfl ?_
  intro p e s m args below meth c s₁ B hml hv
  obtain ⟨rfl, hP, hKK⟩ := hv
  have hx := B.exec
  have hb := B.bytes
  have hr := B.returns
  have hts := atoms_spec (ws := wsX2_hasDay) B.pre
  have hown : s.vm.findClass RX2 = some m.cls := findClass_of_methodNamed B.named
  have hlocks := B.notSynchronized
  obtain ⟨Q, hQ⟩ : ∃ Q, Q = MQ below (vp_Si Φ) ([.ref a_this, .int p1] : List Value).toArray s 0 0 (fun _ => False) := ⟨_, rfl⟩
  rw [← hQ]
  have hl := lv_entry ([.ref a_this, .int p1]) (n := 2) (Nat.le_of_ble_eq_true rfl)
  rw [lg_entry_eq]
  generalize (lg_sl ([.ref a_this, .int p1]) ++ List.replicate (2 - (lg_sl ([.ref a_this, .int p1])).length) Slot.unset).toArray = ls at hl ⊢
  have hl : lv_has ls 2 [(0, .ref a_this), (1, .int p1)] := hl
  generalize ([.ref a_this, .int p1] : List Value).toArray = args at hts hQ ⊢
  have hP : va_P D vwCl [(a_this, .inr (2, [.ref a_marks, .ref a_inWeathers, .ref a_inHours, .ref a_fears, .ref a_weathers, .ref a_hours, .ref a_dangers, .int pay, .int people, .int days]))] s.heap := hP
  have hinX2 : ∀ w ∈ u_ws RX2 TX2 10, w ∈ wsX2_hasDay := by decide +kernel
  have fl_40 := hts (.fieldLink RX2 40 "DoubleChain$Court" "days" "I") (by decide +kernel)
  clear B
  show W p l e xrm_X2_hasDay s m args below meth c s.heap [] 0 0 Q (F0 m 0 ls [])
  unfold wp_X2_hasDay at hw
  refine lv_iload_n hx hb dX2_hasDay_0 rfl (lv_at hl 1 rfl) ?_
  refine lv_if_lt (tgt := 16) hx hb dX2_hasDay_1 (by decide) (fun c_1 => ?_) (fun c_1 => ?_)
  · have hw := hw.1 c_1
    refine lv_iconst (v := 0) hx hb dX2_hasDay_16 (by decide) ?_
    rw [hQ]
    exact W.zret (v := 0) hx hb hr xvz_0 (fun t ht _ => ⟨0, rfl, hw, ht⟩) (fun _ h => (List.not_mem_nil h).elim) dX2_hasDay_17
  · have hw := hw.2 c_1
    refine lv_iload_n hx hb dX2_hasDay_4 rfl (lv_at hl 1 rfl) ?_
    refine lv_aload_n hx hb dX2_hasDay_5 rfl (lv_at hl 0 rfl) ?_
    refine va_get (D := D) (ci := 2) (v := .int days) (C := RX2) (T := TX2) (N := 10) hx hb hts hinX2 hown hKK.1 hP 0 rfl rfl 9 (by decide) fl_40 (fun _ h9 => h9) rfl dX2_hasDay_6 ?_
    refine lv_icmp_ge (tgt := 16) hx hb dX2_hasDay_9 (by decide) (fun c_9 => ?_) (fun c_9 => ?_)
    · have hw := hw.1 c_9
      refine lv_iconst (v := 0) hx hb dX2_hasDay_16 (by decide) ?_
      rw [hQ]
      exact W.zret (v := 0) hx hb hr xvz_0 (fun t ht _ => ⟨0, rfl, hw, ht⟩) (fun _ h => (List.not_mem_nil h).elim) dX2_hasDay_17
    · have hw := hw.2 c_9
      refine lv_iconst (v := 1) hx hb dX2_hasDay_12 (by decide) ?_
      refine lv_goto (tgt := 17) hx hb dX2_hasDay_13 (by decide) ?_
      rw [hQ]
      exact W.zret (v := 1) hx hb hr xvz_1 (fun t ht _ => ⟨1, rfl, hw, ht⟩) (fun _ h => (List.not_mem_nil h).elim) dX2_hasDay_17
def wp_X4_forget (Φ : Int32 → Prop) : Prop :=
  (Φ 0)
abbrev xrm_X4_forget : Room := { frames := 0, cells := 0, slots := 0, locals := 0 }
set_option maxRecDepth 100000 in
set_option maxHeartbeats 4000000 in
theorem c_X4_forget (l : Launch) (D : va_G) (cI cZ cO : ClassId) {a_ring : Nat} {next : Int32} {count : Int32} {a_this : Nat} {Φ : Int32 → Prop} {sz : Nat} (hw : (wp_X4_forget Φ)) : Met l yX4_forget wsX4_forget xrm_X4_forget (xPW D cI cZ cO [.ref a_this] sz [(a_this, .inr (4, [.ref a_ring, .int next, .int count]))]) (va_Qv (fun (u : Int32) => Φ u) (xB D (va_A [(a_this, .inr (4, [.ref a_ring, .int next, .int count]))] sz) (fun (u : Int32) => [(a_this, .inr (4, [.ref a_ring, .int next, .int u]))])) (va_A [(a_this, .inr (4, [.ref a_ring, .int next, .int count]))] sz)) 0 0 (va_A [(a_this, .inr (4, [.ref a_ring, .int next, .int count]))] sz) := by
  refine Met.ofW (cc := cX4_forget) (maxL := 1) (ret := none) (by decide) rfl ?_
  intro p e s m args below meth c s₁ B hml hv
  obtain ⟨rfl, hsz, hP, hKK, hD0⟩ := hv
  have hx := B.exec
  have hb := B.bytes
  have hr := B.returns
  have hts := atoms_spec (ws := wsX4_forget) B.pre
  have hown : s.vm.findClass RX4 = some m.cls := findClass_of_methodNamed B.named
  have hlocks := B.notSynchronized
  subst hsz
  have hD := hD0.self (sz := s.heap.size)
  obtain ⟨Q, hQ⟩ : ∃ Q, Q = MQ below (va_Qv (fun (u : Int32) => Φ u) (xB D (va_A [(a_this, .inr (4, [.ref a_ring, .int next, .int count]))] s.heap.size) (fun (u : Int32) => [(a_this, .inr (4, [.ref a_ring, .int next, .int u]))])) (va_A [(a_this, .inr (4, [.ref a_ring, .int next, .int count]))] s.heap.size)) ([.ref a_this] : List Value).toArray s 0 0 (va_A [(a_this, .inr (4, [.ref a_ring, .int next, .int count]))] s.heap.size) := ⟨_, rfl⟩
  rw [← hQ]
  generalize hAe : va_A [(a_this, .inr (4, [.ref a_ring, .int next, .int count]))] s.heap.size = A at hD hQ
  have hA : ∀ q : Nat, s.heap.size ≤ q → A q := fun q h => by rw [← hAe]; exact Or.inr h
  have hS : va_S A s.heap s.heap [] := va_S.rf
  have hl := lv_entry ([.ref a_this]) (n := 1) (Nat.le_of_ble_eq_true rfl)
  rw [lg_entry_eq]
  generalize (lg_sl ([.ref a_this]) ++ List.replicate (1 - (lg_sl ([.ref a_this])).length) Slot.unset).toArray = ls at hl ⊢
  have hl : lv_has ls 1 [(0, .ref a_this)] := hl
  generalize ([.ref a_this] : List Value).toArray = args at hts hQ ⊢
  have hP : va_P D vwCl [(a_this, .inr (4, [.ref a_ring, .int next, .int count]))] s.heap := hP
  have hinX4 : ∀ w ∈ u_ws RX4 TX4 3, w ∈ wsX4_forget := by decide +kernel
  have fl_21 := hts (.fieldLink RX4 21 "DoubleChain$Past" "count" "I") (by decide +kernel)
  clear B
  show W p l e xrm_X4_forget s m args below meth c s.heap [] 0 0 Q (F0 m 0 ls [])
  unfold wp_X4_forget at hw
  refine lv_aload_n hx hb dX4_forget_0 rfl (lv_at hl 0 rfl) ?_
  refine lv_iconst (v := 0) hx hb dX4_forget_1 (by decide) ?_
  refine va_put (D := D) (ci := 4) (v := .int 0) (ty := .int) (C := RX4) (T := TX4) (N := 3) hx hb hts hinX4 tyX4 tyX4_ok nmX4 hown hKK.1 hP hD hS 0 rfl rfl 2 (by decide) fl_21 (fun _ h9 => h9) rfl (by decide +kernel) rfl rfl (Nat.le_of_ble_eq_true rfl) dX4_forget_2 (fun H locs hP hD hS => ?_)
  have hP : va_P D vwCl [(a_this, .inr (4, [.ref a_ring, .int next, .int 0]))] H := hP
  have hD : va_D A [(a_this, .inr (4, [.ref a_ring, .int next, .int 0]))] := hD
  rw [hQ]
  exact W.vret hx hb hr (fun t ht _ => ⟨⟨0, rfl, hw, by rw [ht]; exact hP, hD⟩, hS.F ht⟩) hS.2.2 dX4_forget_5
def wp_X5_append (length : Int32) (letters : Nat → Int32) (p1 : Int32) (Φ : Int32 → (Nat → Int32) → Int32 → Prop) : Prop :=
  ((length < 240 → (wp_X7_put letters 240 length p1 (fun letters_21 => (Φ 1 letters_21 (length + 1))))) ∧ (¬ length < 240 → (Φ 0 letters length)))
abbrev xrm_X5_append : Room := { frames := 1, cells := 0, slots := 0, locals := 22 }
set_option maxRecDepth 100000 in
set_option maxHeartbeats 4000000 in
theorem c_X5_append (l : Launch) (D : va_G) (cI cZ cO : ClassId) {a_letters : Nat} {length : Int32} {place : Int32} {fault : Int32} {faultAt : Int32} {a_this : Nat} {letters : Nat → Int32} {p1 : Int32} {Φ : Int32 → (Nat → Int32) → Int32 → Prop} {sz : Nat} (hw : (wp_X5_append length letters p1 Φ)) : Met l yX5_append wsX5_append xrm_X5_append (xPW D cI cZ cO [.ref a_this, .int p1] sz [(a_this, .inr (5, [.ref a_letters, .int length, .int place, .int fault, .int faultAt])), (a_letters, .inl (cI, 240, .inl letters))]) (va_Qi (fun (r : Int32) (u : (Nat → Int32) × Int32) => Φ r u.1 u.2) (xB D (va_A [(a_this, .inr (5, [.ref a_letters, .int length, .int place, .int fault, .int faultAt])), (a_letters, .inl (cI, 240, .inl letters))] sz) (fun (u : (Nat → Int32) × Int32) => [(a_this, .inr (5, [.ref a_letters, .int u.2, .int place, .int fault, .int faultAt])), (a_letters, .inl (cI, 240, .inl u.1))])) (va_A [(a_this, .inr (5, [.ref a_letters, .int length, .int place, .int fault, .int faultAt])), (a_letters, .inl (cI, 240, .inl letters))] sz)) 0 0 (va_A [(a_this, .inr (5, [.ref a_letters, .int length, .int place, .int fault, .int faultAt])), (a_letters, .inl (cI, 240, .inl letters))] sz) := by
  refine Met.ofW (cc := cX5_append) (maxL := 2) (ret := (some .boolean)) (by decide) rfl ?_
  intro p e s m args below meth c s₁ B hml hv
  obtain ⟨rfl, hsz, hP, hKK, hD0⟩ := hv
  have hx := B.exec
  have hb := B.bytes
  have hr := B.returns
  have hts := atoms_spec (ws := wsX5_append) B.pre
  have hown : s.vm.findClass RX5 = some m.cls := findClass_of_methodNamed B.named
  have hlocks := B.notSynchronized
  subst hsz
  have hD := hD0.self (sz := s.heap.size)
  obtain ⟨Q, hQ⟩ : ∃ Q, Q = MQ below (va_Qi (fun (r : Int32) (u : (Nat → Int32) × Int32) => Φ r u.1 u.2) (xB D (va_A [(a_this, .inr (5, [.ref a_letters, .int length, .int place, .int fault, .int faultAt])), (a_letters, .inl (cI, 240, .inl letters))] s.heap.size) (fun (u : (Nat → Int32) × Int32) => [(a_this, .inr (5, [.ref a_letters, .int u.2, .int place, .int fault, .int faultAt])), (a_letters, .inl (cI, 240, .inl u.1))])) (va_A [(a_this, .inr (5, [.ref a_letters, .int length, .int place, .int fault, .int faultAt])), (a_letters, .inl (cI, 240, .inl letters))] s.heap.size)) ([.ref a_this, .int p1] : List Value).toArray s 0 0 (va_A [(a_this, .inr (5, [.ref a_letters, .int length, .int place, .int fault, .int faultAt])), (a_letters, .inl (cI, 240, .inl letters))] s.heap.size) := ⟨_, rfl⟩
  rw [← hQ]
  generalize hAe : va_A [(a_this, .inr (5, [.ref a_letters, .int length, .int place, .int fault, .int faultAt])), (a_letters, .inl (cI, 240, .inl letters))] s.heap.size = A at hD hQ
  have hA : ∀ q : Nat, s.heap.size ≤ q → A q := fun q h => by rw [← hAe]; exact Or.inr h
  have hS : va_S A s.heap s.heap [] := va_S.rf
  have hl := lv_entry ([.ref a_this, .int p1]) (n := 2) (Nat.le_of_ble_eq_true rfl)
  rw [lg_entry_eq]
  generalize (lg_sl ([.ref a_this, .int p1]) ++ List.replicate (2 - (lg_sl ([.ref a_this, .int p1])).length) Slot.unset).toArray = ls at hl ⊢
  have hl : lv_has ls 2 [(0, .ref a_this), (1, .int p1)] := hl
  generalize ([.ref a_this, .int p1] : List Value).toArray = args at hts hQ ⊢
  have hP : va_P D vwCl [(a_this, .inr (5, [.ref a_letters, .int length, .int place, .int fault, .int faultAt])), (a_letters, .inl (cI, 240, .inl letters))] s.heap := hP
  have hinX5 : ∀ w ∈ u_ws RX5 TX5 5, w ∈ wsX5_append := by decide +kernel
  have fl_9 := hts (.fieldLink RX5 9 "DoubleChain$Text" "letters" "[I") (by decide +kernel)
  have fl_15 := hts (.fieldLink RX5 15 "DoubleChain$Text" "length" "I") (by decide +kernel)
  clear B
  show W p l e xrm_X5_append s m args below meth c s.heap [] 0 0 Q (F0 m 0 ls [])
  unfold wp_X5_append at hw
  refine lv_aload_n hx hb dX5_append_0 rfl (lv_at hl 0 rfl) ?_
  refine va_get (D := D) (ci := 5) (v := .int length) (C := RX5) (T := TX5) (N := 5) hx hb hts hinX5 hown hKK.1 hP 0 rfl rfl 1 (by decide) fl_15 (fun _ h9 => h9) rfl dX5_append_1 ?_
  refine lv_sipush (v := 240) hx hb dX5_append_4 (by decide) ?_
  refine lv_icmp_lt (tgt := 12) hx hb dX5_append_7 (by decide) (fun c_7 => ?_) (fun c_7 => ?_)
  · have hw := hw.1 c_7
    refine lv_aload_n hx hb dX5_append_12 rfl (lv_at hl 0 rfl) ?_
    refine va_get (D := D) (ci := 5) (v := .ref a_letters) (C := RX5) (T := TX5) (N := 5) hx hb hts hinX5 hown hKK.1 hP 0 rfl rfl 0 (by decide) fl_9 (fun _ h9 => h9) rfl dX5_append_13 ?_
    refine lv_aload_n hx hb dX5_append_16 rfl (lv_at hl 0 rfl) ?_
    refine va_get (D := D) (ci := 5) (v := .int length) (C := RX5) (T := TX5) (N := 5) hx hb hts hinX5 hown hKK.1 hP 0 rfl rfl 1 (by decide) fl_15 (fun _ h9 => h9) rfl dX5_append_17 ?_
    refine lv_iload_n hx hb dX5_append_20 rfl (lv_at hl 1 rfl) ?_
    refine xwNv (wr := [(a_this, .inr (5, [.ref a_letters, .int length, .int place, .int fault, .int faultAt]))]) (As := [.ref a_letters, .int length, .int p1]) (rest := []) (wc := [(a_letters, .inl (cI, 240, .inl letters))]) (fun (u : (Nat → Int32)) => [(a_this, .inr (5, [.ref a_letters, .int length, .int place, .int fault, .int faultAt])), (a_letters, .inl (cI, 240, .inl u))]) ⟨hx, hb, hml, hown, hts⟩ (c_X7_put l D cI cZ cO hw) ⟨va_cnB 3 hts gX5_append_X7_put_n28 rfl rfl rfl (xn_8 hKK.2) (hts (.initialized RX7) (by decide +kernel)) (by decide +kernel) ⟨Nat.le_of_ble_eq_true rfl, Nat.le_of_ble_eq_true rfl⟩, hts (.static yX7_put) (by decide +kernel), trivial⟩ hKK hP hD hS hA [1] [0] [0, 1] rfl rfl rfl rfl rfl (by decide) (fun _ => rfl) rfl hl.1 rfl (Nat.le_of_ble_eq_true rfl) dX5_append_21 ⟨Nat.zero_le _, Nat.zero_le _⟩ (fun letters_21 H locs hw hP hD hS => ?_)
    have hP : va_P D vwCl [(a_this, .inr (5, [.ref a_letters, .int length, .int place, .int fault, .int faultAt])), (a_letters, .inl (cI, 240, .inl letters_21))] H := hP
    have hD : va_D A [(a_this, .inr (5, [.ref a_letters, .int length, .int place, .int fault, .int faultAt])), (a_letters, .inl (cI, 240, .inl letters_21))] := hD
    refine lv_aload_n hx hb dX5_append_24 rfl (lv_at hl 0 rfl) ?_
    refine lv_dup hx hb dX5_append_25 rfl ?_
    refine va_get (D := D) (ci := 5) (v := .int length) (C := RX5) (T := TX5) (N := 5) hx hb hts hinX5 hown hKK.1 hP 0 rfl rfl 1 (by decide) fl_15 (fun _ h9 => h9) rfl dX5_append_26 ?_
    refine lv_iconst (v := 1) hx hb dX5_append_29 (by decide) ?_
    refine lv_iadd hx hb dX5_append_30 ?_
    refine va_put (D := D) (ci := 5) (v := .int (length + 1)) (ty := .int) (C := RX5) (T := TX5) (N := 5) hx hb hts hinX5 tyX5 tyX5_ok nmX5 hown hKK.1 hP hD hS 0 rfl rfl 1 (by decide) fl_15 (fun _ h9 => h9) rfl (by decide +kernel) rfl rfl (Nat.le_of_ble_eq_true rfl) dX5_append_31 (fun H locs hP hD hS => ?_)
    have hP : va_P D vwCl [(a_this, .inr (5, [.ref a_letters, .int (length + 1), .int place, .int fault, .int faultAt])), (a_letters, .inl (cI, 240, .inl letters_21))] H := hP
    have hD : va_D A [(a_this, .inr (5, [.ref a_letters, .int (length + 1), .int place, .int fault, .int faultAt])), (a_letters, .inl (cI, 240, .inl letters_21))] := hD
    refine lv_iconst (v := 1) hx hb dX5_append_34 (by decide) ?_
    rw [hQ]
    exact W.zret (v := 1) hx hb hr xvz_1 (fun t ht _ => ⟨⟨1, ⟨letters_21, (length + 1)⟩, rfl, hw, by rw [ht]; exact hP, hD⟩, hS.F ht⟩) hS.2.2 dX5_append_35
  · have hw := hw.2 c_7
    refine lv_iconst (v := 0) hx hb dX5_append_10 (by decide) ?_
    rw [hQ]
    exact W.zret (v := 0) hx hb hr xvz_0 (fun t ht _ => ⟨⟨0, ⟨letters, length⟩, rfl, hw, by rw [ht]; exact hP, hD⟩, hS.F ht⟩) hS.2.2 dX5_append_11
def wk_X5_skipBlanks_0 (Φ : Int32 → Prop) (place_0 : Int32) : Prop :=
  (Φ place_0)
def wb_X5_skipBlanks_0 (length : Int32) (letters : Nat → Int32) (K_0 : Int32 → Prop) (rec_0 : Int32 → Prop) (place_0 : Int32) : Prop :=
  ((length ≤ place_0 → (K_0 place_0)) ∧ (¬ length ≤ place_0 → (wp_X7_at letters 240 place_0 (fun r_19 => ((r_19 = 32 → (rec_0 (place_0 + 1))) ∧ (¬ r_19 = 32 → (K_0 place_0)))))))
def wp_X5_skipBlanks (length : Int32) (place : Int32) (letters : Nat → Int32) (Φ : Int32 → Prop) : Prop :=
  (∃ n : Nat, xit1 (wb_X5_skipBlanks_0 length letters (wk_X5_skipBlanks_0 Φ)) n place)
abbrev xrm_X5_skipBlanks : Room := { frames := 1, cells := 0, slots := 0, locals := 21 }
set_option maxRecDepth 100000 in
set_option maxHeartbeats 4000000 in
theorem c_X5_skipBlanks (l : Launch) (D : va_G) (cI cZ cO : ClassId) {a_letters : Nat} {length : Int32} {place : Int32} {fault : Int32} {faultAt : Int32} {a_this : Nat} {letters : Nat → Int32} {Φ : Int32 → Prop} {sz : Nat} (hw : (wp_X5_skipBlanks length place letters Φ)) : Met l yX5_skipBlanks wsX5_skipBlanks xrm_X5_skipBlanks (xPW D cI cZ cO [.ref a_this] sz [(a_this, .inr (5, [.ref a_letters, .int length, .int place, .int fault, .int faultAt])), (a_letters, .inl (cI, 240, .inl letters))]) (va_Qv (fun (u : Int32) => Φ u) (xB D (va_A [(a_this, .inr (5, [.ref a_letters, .int length, .int place, .int fault, .int faultAt])), (a_letters, .inl (cI, 240, .inl letters))] sz) (fun (u : Int32) => [(a_this, .inr (5, [.ref a_letters, .int length, .int u, .int fault, .int faultAt])), (a_letters, .inl (cI, 240, .inl letters))])) (va_A [(a_this, .inr (5, [.ref a_letters, .int length, .int place, .int fault, .int faultAt])), (a_letters, .inl (cI, 240, .inl letters))] sz)) 0 0 (va_A [(a_this, .inr (5, [.ref a_letters, .int length, .int place, .int fault, .int faultAt])), (a_letters, .inl (cI, 240, .inl letters))] sz) := by
  refine Met.ofW (cc := cX5_skipBlanks) (maxL := 1) (ret := none) (by decide) rfl ?_
  intro p e s m args below meth c s₁ B hml hv
  obtain ⟨rfl, hsz, hP, hKK, hD0⟩ := hv
  have hx := B.exec
  have hb := B.bytes
  have hr := B.returns
  have hts := atoms_spec (ws := wsX5_skipBlanks) B.pre
  have hown : s.vm.findClass RX5 = some m.cls := findClass_of_methodNamed B.named
  have hlocks := B.notSynchronized
  subst hsz
  have hD := hD0.self (sz := s.heap.size)
  obtain ⟨Q, hQ⟩ : ∃ Q, Q = MQ below (va_Qv (fun (u : Int32) => Φ u) (xB D (va_A [(a_this, .inr (5, [.ref a_letters, .int length, .int place, .int fault, .int faultAt])), (a_letters, .inl (cI, 240, .inl letters))] s.heap.size) (fun (u : Int32) => [(a_this, .inr (5, [.ref a_letters, .int length, .int u, .int fault, .int faultAt])), (a_letters, .inl (cI, 240, .inl letters))])) (va_A [(a_this, .inr (5, [.ref a_letters, .int length, .int place, .int fault, .int faultAt])), (a_letters, .inl (cI, 240, .inl letters))] s.heap.size)) ([.ref a_this] : List Value).toArray s 0 0 (va_A [(a_this, .inr (5, [.ref a_letters, .int length, .int place, .int fault, .int faultAt])), (a_letters, .inl (cI, 240, .inl letters))] s.heap.size) := ⟨_, rfl⟩
  rw [← hQ]
  generalize hAe : va_A [(a_this, .inr (5, [.ref a_letters, .int length, .int place, .int fault, .int faultAt])), (a_letters, .inl (cI, 240, .inl letters))] s.heap.size = A at hD hQ
  have hA : ∀ q : Nat, s.heap.size ≤ q → A q := fun q h => by rw [← hAe]; exact Or.inr h
  have hS : va_S A s.heap s.heap [] := va_S.rf
  have hl := lv_entry ([.ref a_this]) (n := 1) (Nat.le_of_ble_eq_true rfl)
  rw [lg_entry_eq]
  generalize (lg_sl ([.ref a_this]) ++ List.replicate (1 - (lg_sl ([.ref a_this])).length) Slot.unset).toArray = ls at hl ⊢
  have hl : lv_has ls 1 [(0, .ref a_this)] := hl
  generalize ([.ref a_this] : List Value).toArray = args at hts hQ ⊢
  have hP : va_P D vwCl [(a_this, .inr (5, [.ref a_letters, .int length, .int place, .int fault, .int faultAt])), (a_letters, .inl (cI, 240, .inl letters))] s.heap := hP
  have hinX5 : ∀ w ∈ u_ws RX5 TX5 5, w ∈ wsX5_skipBlanks := by decide +kernel
  have fl_9 := hts (.fieldLink RX5 9 "DoubleChain$Text" "letters" "[I") (by decide +kernel)
  have fl_15 := hts (.fieldLink RX5 15 "DoubleChain$Text" "length" "I") (by decide +kernel)
  have fl_19 := hts (.fieldLink RX5 19 "DoubleChain$Text" "place" "I") (by decide +kernel)
  clear B
  show W p l e xrm_X5_skipBlanks s m args below meth c s.heap [] 0 0 Q (F0 m 0 ls [])
  unfold wp_X5_skipBlanks at hw
  have EX_0 : ∀ (place_0 : Int32), ∀ (H : Heap) (locs : List Loc), va_P D vwCl [(a_this, .inr (5, [.ref a_letters, .int length, .int place_0, .int fault, .int faultAt])), (a_letters, .inl (cI, 240, .inl letters))] H → va_D A [(a_this, .inr (5, [.ref a_letters, .int length, .int place_0, .int fault, .int faultAt])), (a_letters, .inl (cI, 240, .inl letters))] → va_S A s.heap H locs → ∀ (ls : Array Slot), lv_has ls 1 [(0, .ref a_this)] → (wk_X5_skipBlanks_0 Φ place_0) → W p l e xrm_X5_skipBlanks s m args below meth c H locs 0 0 Q (F0 m 40 ls []) := by
    intro place_0 H locs hP hD hS ls hl hw
    unfold wk_X5_skipBlanks_0 at hw
    rw [hQ]
    exact W.vret hx hb hr (fun t ht _ => ⟨⟨place_0, rfl, hw, by rw [ht]; exact hP, hD⟩, hS.F ht⟩) hS.2.2 dX5_skipBlanks_40
  generalize (wk_X5_skipBlanks_0 Φ) = K_0 at EX_0 hw
  have LP_0 : ∀ n : Nat, ∀ (place_0 : Int32), ∀ (H : Heap) (locs : List Loc), va_P D vwCl [(a_this, .inr (5, [.ref a_letters, .int length, .int place_0, .int fault, .int faultAt])), (a_letters, .inl (cI, 240, .inl letters))] H → va_D A [(a_this, .inr (5, [.ref a_letters, .int length, .int place_0, .int fault, .int faultAt])), (a_letters, .inl (cI, 240, .inl letters))] → va_S A s.heap H locs → ∀ (ls : Array Slot), lv_has ls 1 [(0, .ref a_this)] → xit1 (wb_X5_skipBlanks_0 length letters K_0) n place_0 → W p l e xrm_X5_skipBlanks s m args below meth c H locs 0 0 Q (F0 m 0 ls []) := by
    intro n
    induction n with
    | zero => intro place_0 H locs hP hD hS ls hl hw; exact (show False from hw).elim
    | succ n ih =>
      intro place_0 H locs hP hD hS ls hl hw
      have hw : wb_X5_skipBlanks_0 length letters K_0 (xit1 (wb_X5_skipBlanks_0 length letters K_0) n) place_0 := hw
      generalize xit1 (wb_X5_skipBlanks_0 length letters K_0) n = rec_0 at ih hw
      unfold wb_X5_skipBlanks_0 at hw
      refine lv_aload_n hx hb dX5_skipBlanks_0 rfl (lv_at hl 0 rfl) ?_
      refine va_get (D := D) (ci := 5) (v := .int place_0) (C := RX5) (T := TX5) (N := 5) hx hb hts hinX5 hown hKK.1 hP 0 rfl rfl 2 (by decide) fl_19 (fun _ h9 => h9) rfl dX5_skipBlanks_1 ?_
      refine lv_aload_n hx hb dX5_skipBlanks_4 rfl (lv_at hl 0 rfl) ?_
      refine va_get (D := D) (ci := 5) (v := .int length) (C := RX5) (T := TX5) (N := 5) hx hb hts hinX5 hown hKK.1 hP 0 rfl rfl 1 (by decide) fl_15 (fun _ h9 => h9) rfl dX5_skipBlanks_5 ?_
      refine lv_icmp_ge (tgt := 40) hx hb dX5_skipBlanks_8 (by decide) (fun c_8 => ?_) (fun c_8 => ?_)
      · have hw := hw.1 c_8
        exact EX_0 _ _ _ hP hD hS ls (lv_sub hl [0] rfl) hw
      · have hw := hw.2 c_8
        refine lv_aload_n hx hb dX5_skipBlanks_11 rfl (lv_at hl 0 rfl) ?_
        refine va_get (D := D) (ci := 5) (v := .ref a_letters) (C := RX5) (T := TX5) (N := 5) hx hb hts hinX5 hown hKK.1 hP 0 rfl rfl 0 (by decide) fl_9 (fun _ h9 => h9) rfl dX5_skipBlanks_12 ?_
        refine lv_aload_n hx hb dX5_skipBlanks_15 rfl (lv_at hl 0 rfl) ?_
        refine va_get (D := D) (ci := 5) (v := .int place_0) (C := RX5) (T := TX5) (N := 5) hx hb hts hinX5 hown hKK.1 hP 0 rfl rfl 2 (by decide) fl_19 (fun _ h9 => h9) rfl dX5_skipBlanks_16 ?_
        refine xcNi (As := [.ref a_letters, .int place_0]) (rest := []) (wc := [(a_letters, .inl (cI, 240, .inl letters))]) ⟨hx, hb, hml, hown, hts⟩ (c_X7_at l D cI cZ cO hw) ⟨va_cnB 2 hts gX5_skipBlanks_X7_at_n44 rfl rfl rfl (xn_10 hKK.2) (hts (.initialized RX7) (by decide +kernel)) (by decide +kernel) ⟨Nat.le_of_ble_eq_true rfl, Nat.le_of_ble_eq_true rfl⟩, hts (.static yX7_at) (by decide +kernel), trivial⟩ hKK hP [1] rfl rfl hl.1 rfl (Nat.le_of_ble_eq_true rfl) dX5_skipBlanks_19 ⟨Nat.zero_le _, Nat.zero_le _⟩ (fun r_19 hw => ?_)
        refine lv_bipush (v := 32) hx hb dX5_skipBlanks_22 (by decide) ?_
        refine lv_icmp_ne (tgt := 40) hx hb dX5_skipBlanks_24 (by decide) (fun c_24 => ?_) (fun c_24 => ?_)
        · have hw := hw.2 c_24
          exact EX_0 _ _ _ hP hD hS ls (lv_sub hl [0] rfl) hw
        · have hw := hw.1 c_24
          refine lv_aload_n hx hb dX5_skipBlanks_27 rfl (lv_at hl 0 rfl) ?_
          refine lv_dup hx hb dX5_skipBlanks_28 rfl ?_
          refine va_get (D := D) (ci := 5) (v := .int place_0) (C := RX5) (T := TX5) (N := 5) hx hb hts hinX5 hown hKK.1 hP 0 rfl rfl 2 (by decide) fl_19 (fun _ h9 => h9) rfl dX5_skipBlanks_29 ?_
          refine lv_iconst (v := 1) hx hb dX5_skipBlanks_32 (by decide) ?_
          refine lv_iadd hx hb dX5_skipBlanks_33 ?_
          refine va_put (D := D) (ci := 5) (v := .int (place_0 + 1)) (ty := .int) (C := RX5) (T := TX5) (N := 5) hx hb hts hinX5 tyX5 tyX5_ok nmX5 hown hKK.1 hP hD hS 0 rfl rfl 2 (by decide) fl_19 (fun _ h9 => h9) rfl (by decide +kernel) rfl rfl (Nat.le_of_ble_eq_true rfl) dX5_skipBlanks_34 (fun H locs hP hD hS => ?_)
          have hP : va_P D vwCl [(a_this, .inr (5, [.ref a_letters, .int length, .int (place_0 + 1), .int fault, .int faultAt])), (a_letters, .inl (cI, 240, .inl letters))] H := hP
          have hD : va_D A [(a_this, .inr (5, [.ref a_letters, .int length, .int (place_0 + 1), .int fault, .int faultAt])), (a_letters, .inl (cI, 240, .inl letters))] := hD
          refine lv_goto (tgt := 0) hx hb dX5_skipBlanks_37 (by decide) ?_
          exact ih _ _ _ hP hD hS ls (lv_sub hl [0] rfl) hw
  obtain ⟨n, hw⟩ := hw
  exact LP_0 n _ _ _ hP hD hS ls (lv_sub hl [0] rfl) hw
def wp_X5_wordFault (p2_pay : Int32) (p2_people : Int32) (p2_days : Int32) (p1 : Int32) (Φ : Int32 → Prop) : Prop :=
  (wp_X2_stands p2_pay (fun r_1 => ((r_1 = 0 → ((p1 = 107 → (Φ 0)) ∧ (¬ p1 = 107 → (Φ 1)))) ∧ (¬ r_1 = 0 → ((p1 = 100 → ((10 ≤ p2_days → (Φ 3)) ∧ (¬ 10 ≤ p2_days → (Φ 0)))) ∧ (¬ p1 = 100 → ((p1 = 107 → (Φ 3)) ∧ (¬ p1 = 107 → ((p1 = 112 → ((8 ≤ p2_people → (Φ 3)) ∧ (¬ 8 ≤ p2_people → (Φ 0)))) ∧ (¬ p1 = 112 → (Φ 1)))))))))))
abbrev xrm_X5_wordFault : Room := { frames := 1, cells := 0, slots := 0, locals := 20 }
set_option maxRecDepth 100000 in
set_option maxHeartbeats 4000000 in
theorem c_X5_wordFault (l : Launch) (D : va_G) (cI cZ cO : ClassId) {a_letters : Nat} {length : Int32} {place : Int32} {fault : Int32} {faultAt : Int32} {a_this : Nat} {a_p2_marks : Nat} {a_p2_inWeathers : Nat} {a_p2_inHours : Nat} {a_p2_fears : Nat} {a_p2_weathers : Nat} {a_p2_hours : Nat} {a_p2_dangers : Nat} {p2_pay : Int32} {p2_people : Int32} {p2_days : Int32} {a_p2 : Nat} {p1 : Int32} {Φ : Int32 → Prop} (hw : (wp_X5_wordFault p2_pay p2_people p2_days p1 Φ)) : Met l yX5_wordFault wsX5_wordFault xrm_X5_wordFault (xPR D cI cZ cO [.ref a_this, .int p1, .ref a_p2] [(a_this, .inr (5, [.ref a_letters, .int length, .int place, .int fault, .int faultAt])), (a_p2, .inr (2, [.ref a_p2_marks, .ref a_p2_inWeathers, .ref a_p2_inHours, .ref a_p2_fears, .ref a_p2_weathers, .ref a_p2_hours, .ref a_p2_dangers, .int p2_pay, .int p2_people, .int p2_days]))]) (vp_Si Φ) 0 0 (fun _ => False) := by
  refine Met.ofW (cc := cX5_wordFault) (maxL := 3) (ret := (some .int)) (by decide) rfl ?_
  intro p e s m args below meth c s₁ B hml hv
  obtain ⟨rfl, hP, hKK⟩ := hv
  have hx := B.exec
  have hb := B.bytes
  have hr := B.returns
  have hts := atoms_spec (ws := wsX5_wordFault) B.pre
  have hown : s.vm.findClass RX5 = some m.cls := findClass_of_methodNamed B.named
  have hlocks := B.notSynchronized
  obtain ⟨Q, hQ⟩ : ∃ Q, Q = MQ below (vp_Si Φ) ([.ref a_this, .int p1, .ref a_p2] : List Value).toArray s 0 0 (fun _ => False) := ⟨_, rfl⟩
  rw [← hQ]
  have hl := lv_entry ([.ref a_this, .int p1, .ref a_p2]) (n := 3) (Nat.le_of_ble_eq_true rfl)
  rw [lg_entry_eq]
  generalize (lg_sl ([.ref a_this, .int p1, .ref a_p2]) ++ List.replicate (3 - (lg_sl ([.ref a_this, .int p1, .ref a_p2])).length) Slot.unset).toArray = ls at hl ⊢
  have hl : lv_has ls 3 [(0, .ref a_this), (1, .int p1), (2, .ref a_p2)] := hl
  generalize ([.ref a_this, .int p1, .ref a_p2] : List Value).toArray = args at hts hQ ⊢
  have hP : va_P D vwCl [(a_this, .inr (5, [.ref a_letters, .int length, .int place, .int fault, .int faultAt])), (a_p2, .inr (2, [.ref a_p2_marks, .ref a_p2_inWeathers, .ref a_p2_inHours, .ref a_p2_fears, .ref a_p2_weathers, .ref a_p2_hours, .ref a_p2_dangers, .int p2_pay, .int p2_people, .int p2_days]))] s.heap := hP
  have hinX2 : ∀ w ∈ u_ws RX2 TX2 10, w ∈ wsX5_wordFault := by decide +kernel
  have fl_69 := hts (.fieldLink RX5 69 "DoubleChain$Court" "people" "I") (by decide +kernel)
  have fl_72 := hts (.fieldLink RX5 72 "DoubleChain$Court" "days" "I") (by decide +kernel)
  clear B
  show W p l e xrm_X5_wordFault s m args below meth c s.heap [] 0 0 Q (F0 m 0 ls [])
  unfold wp_X5_wordFault at hw
  refine lv_aload_n hx hb dX5_wordFault_0 rfl (lv_at hl 2 rfl) ?_
  refine xcVi (q0 := 1) (ci := 2) (As := []) (rest := []) (wc := [(a_p2, .inr (2, [.ref a_p2_marks, .ref a_p2_inWeathers, .ref a_p2_inHours, .ref a_p2_fears, .ref a_p2_weathers, .ref a_p2_hours, .ref a_p2_dangers, .int p2_pay, .int p2_people, .int p2_days]))]) ⟨hx, hb, hml, hown, hts⟩ (c_X2_stands l D cI cZ cO hw) (cwV 0 hts gX5_wordFault_X2_stands rfl rfl rfl (by decide +kernel) ⟨Nat.le_of_ble_eq_true rfl, Nat.le_of_ble_eq_true rfl⟩) hKK hP [1] rfl rfl rfl rfl hl.1 rfl (Nat.le_of_ble_eq_true rfl) dX5_wordFault_1 ⟨Nat.zero_le _, Nat.zero_le _⟩ (fun r_1 hw => ?_)
  refine lv_if_ne (tgt := 19) hx hb dX5_wordFault_4 (by decide) (fun c_4 => ?_) (fun c_4 => ?_)
  · have hw := hw.2 c_4
    refine lv_iload_n hx hb dX5_wordFault_19 rfl (lv_at hl 1 rfl) ?_
    by_cases c_20_100 : p1 = 100
    · have hw := hw.1 c_20_100
      refine lv_lookup (off := 53) (tgt := 73) hx hb dX5_wordFault_20 (by decide) (by rw [c_20_100]; rfl) (by decide) ?_
      refine lv_aload_n hx hb dX5_wordFault_73 rfl (lv_at hl 2 rfl) ?_
      refine va_get (D := D) (ci := 2) (v := .int p2_days) (C := RX2) (T := TX2) (N := 10) hx hb hts hinX2 hown hKK.1 hP 1 rfl rfl 9 (by decide) fl_72 (fun _ h9 => h9) rfl dX5_wordFault_74 ?_
      refine lv_bipush (v := 10) hx hb dX5_wordFault_77 (by decide) ?_
      refine lv_icmp_ge (tgt := 86) hx hb dX5_wordFault_79 (by decide) (fun c_79 => ?_) (fun c_79 => ?_)
      · have hw := hw.1 c_79
        refine lv_iconst (v := 3) hx hb dX5_wordFault_86 (by decide) ?_
        rw [hQ]
        exact W.iret (v := 3) hx hb hr (fun t ht _ => ⟨3, rfl, hw, ht⟩) (fun _ h => (List.not_mem_nil h).elim) dX5_wordFault_87
      · have hw := hw.2 c_79
        refine lv_iconst (v := 0) hx hb dX5_wordFault_82 (by decide) ?_
        refine lv_goto (tgt := 87) hx hb dX5_wordFault_83 (by decide) ?_
        rw [hQ]
        exact W.iret (v := 0) hx hb hr (fun t ht _ => ⟨0, rfl, hw, ht⟩) (fun _ h => (List.not_mem_nil h).elim) dX5_wordFault_87
    have hw := hw.2 c_20_100
    by_cases c_20_107 : p1 = 107
    · have hw := hw.1 c_20_107
      refine lv_lookup (off := 36) (tgt := 56) hx hb dX5_wordFault_20 (by decide) (by rw [c_20_107]; rfl) (by decide) ?_
      refine lv_iconst (v := 3) hx hb dX5_wordFault_56 (by decide) ?_
      rw [hQ]
      exact W.iret (v := 3) hx hb hr (fun t ht _ => ⟨3, rfl, hw, ht⟩) (fun _ h => (List.not_mem_nil h).elim) dX5_wordFault_57
    have hw := hw.2 c_20_107
    by_cases c_20_112 : p1 = 112
    · have hw := hw.1 c_20_112
      refine lv_lookup (off := 38) (tgt := 58) hx hb dX5_wordFault_20 (by decide) (by rw [c_20_112]; rfl) (by decide) ?_
      refine lv_aload_n hx hb dX5_wordFault_58 rfl (lv_at hl 2 rfl) ?_
      refine va_get (D := D) (ci := 2) (v := .int p2_people) (C := RX2) (T := TX2) (N := 10) hx hb hts hinX2 hown hKK.1 hP 1 rfl rfl 8 (by decide) fl_69 (fun _ h9 => h9) rfl dX5_wordFault_59 ?_
      refine lv_bipush (v := 8) hx hb dX5_wordFault_62 (by decide) ?_
      refine lv_icmp_ge (tgt := 71) hx hb dX5_wordFault_64 (by decide) (fun c_64 => ?_) (fun c_64 => ?_)
      · have hw := hw.1 c_64
        refine lv_iconst (v := 3) hx hb dX5_wordFault_71 (by decide) ?_
        rw [hQ]
        exact W.iret (v := 3) hx hb hr (fun t ht _ => ⟨3, rfl, hw, ht⟩) (fun _ h => (List.not_mem_nil h).elim) dX5_wordFault_72
      · have hw := hw.2 c_64
        refine lv_iconst (v := 0) hx hb dX5_wordFault_67 (by decide) ?_
        refine lv_goto (tgt := 72) hx hb dX5_wordFault_68 (by decide) ?_
        rw [hQ]
        exact W.iret (v := 0) hx hb hr (fun t ht _ => ⟨0, rfl, hw, ht⟩) (fun _ h => (List.not_mem_nil h).elim) dX5_wordFault_72
    have hw := hw.2 c_20_112
    refine lv_lookup (off := 68) (tgt := 88) hx hb dX5_wordFault_20 (by decide) (by show Op.lookupswitch.offset [((100 : Int), (53 : Int)), ((107 : Int), (36 : Int)), ((112 : Int), (38 : Int))] _ _ = _; rw [lv_osw c_20_100 (by decide), lv_osw c_20_107 (by decide), lv_osw c_20_112 (by decide)]; rfl) (by decide) ?_
    refine lv_iconst (v := 1) hx hb dX5_wordFault_88 (by decide) ?_
    rw [hQ]
    exact W.iret (v := 1) hx hb hr (fun t ht _ => ⟨1, rfl, hw, ht⟩) (fun _ h => (List.not_mem_nil h).elim) dX5_wordFault_89
  · have hw := hw.1 c_4
    refine lv_iload_n hx hb dX5_wordFault_7 rfl (lv_at hl 1 rfl) ?_
    refine lv_bipush (v := 107) hx hb dX5_wordFault_8 (by decide) ?_
    refine lv_icmp_ne (tgt := 17) hx hb dX5_wordFault_10 (by decide) (fun c_10 => ?_) (fun c_10 => ?_)
    · have hw := hw.2 c_10
      refine lv_iconst (v := 1) hx hb dX5_wordFault_17 (by decide) ?_
      rw [hQ]
      exact W.iret (v := 1) hx hb hr (fun t ht _ => ⟨1, rfl, hw, ht⟩) (fun _ h => (List.not_mem_nil h).elim) dX5_wordFault_18
    · have hw := hw.1 c_10
      refine lv_iconst (v := 0) hx hb dX5_wordFault_13 (by decide) ?_
      refine lv_goto (tgt := 18) hx hb dX5_wordFault_14 (by decide) ?_
      rw [hQ]
      exact W.iret (v := 0) hx hb hr (fun t ht _ => ⟨0, rfl, hw, ht⟩) (fun _ h => (List.not_mem_nil h).elim) dX5_wordFault_18
def wp_X5_fail (p1 : Int32) (p2 : Int32) (Φ : Int32 → Int32 → Prop) : Prop :=
  (Φ p1 p2)
abbrev xrm_X5_fail : Room := { frames := 0, cells := 0, slots := 0, locals := 0 }
set_option maxRecDepth 100000 in
set_option maxHeartbeats 4000000 in
theorem c_X5_fail (l : Launch) (D : va_G) (cI cZ cO : ClassId) {a_letters : Nat} {length : Int32} {place : Int32} {fault : Int32} {faultAt : Int32} {a_this : Nat} {p1 : Int32} {p2 : Int32} {Φ : Int32 → Int32 → Prop} {sz : Nat} (hw : (wp_X5_fail p1 p2 Φ)) : Met l yX5_fail wsX5_fail xrm_X5_fail (xPW D cI cZ cO [.ref a_this, .int p1, .int p2] sz [(a_this, .inr (5, [.ref a_letters, .int length, .int place, .int fault, .int faultAt]))]) (va_Qv (fun (u : Int32 × Int32) => Φ u.1 u.2) (xB D (va_A [(a_this, .inr (5, [.ref a_letters, .int length, .int place, .int fault, .int faultAt]))] sz) (fun (u : Int32 × Int32) => [(a_this, .inr (5, [.ref a_letters, .int length, .int place, .int u.1, .int u.2]))])) (va_A [(a_this, .inr (5, [.ref a_letters, .int length, .int place, .int fault, .int faultAt]))] sz)) 0 0 (va_A [(a_this, .inr (5, [.ref a_letters, .int length, .int place, .int fault, .int faultAt]))] sz) := by
  refine Met.ofW (cc := cX5_fail) (maxL := 3) (ret := none) (by decide) rfl ?_
  intro p e s m args below meth c s₁ B hml hv
  obtain ⟨rfl, hsz, hP, hKK, hD0⟩ := hv
  have hx := B.exec
  have hb := B.bytes
  have hr := B.returns
  have hts := atoms_spec (ws := wsX5_fail) B.pre
  have hown : s.vm.findClass RX5 = some m.cls := findClass_of_methodNamed B.named
  have hlocks := B.notSynchronized
  subst hsz
  have hD := hD0.self (sz := s.heap.size)
  obtain ⟨Q, hQ⟩ : ∃ Q, Q = MQ below (va_Qv (fun (u : Int32 × Int32) => Φ u.1 u.2) (xB D (va_A [(a_this, .inr (5, [.ref a_letters, .int length, .int place, .int fault, .int faultAt]))] s.heap.size) (fun (u : Int32 × Int32) => [(a_this, .inr (5, [.ref a_letters, .int length, .int place, .int u.1, .int u.2]))])) (va_A [(a_this, .inr (5, [.ref a_letters, .int length, .int place, .int fault, .int faultAt]))] s.heap.size)) ([.ref a_this, .int p1, .int p2] : List Value).toArray s 0 0 (va_A [(a_this, .inr (5, [.ref a_letters, .int length, .int place, .int fault, .int faultAt]))] s.heap.size) := ⟨_, rfl⟩
  rw [← hQ]
  generalize hAe : va_A [(a_this, .inr (5, [.ref a_letters, .int length, .int place, .int fault, .int faultAt]))] s.heap.size = A at hD hQ
  have hA : ∀ q : Nat, s.heap.size ≤ q → A q := fun q h => by rw [← hAe]; exact Or.inr h
  have hS : va_S A s.heap s.heap [] := va_S.rf
  have hl := lv_entry ([.ref a_this, .int p1, .int p2]) (n := 3) (Nat.le_of_ble_eq_true rfl)
  rw [lg_entry_eq]
  generalize (lg_sl ([.ref a_this, .int p1, .int p2]) ++ List.replicate (3 - (lg_sl ([.ref a_this, .int p1, .int p2])).length) Slot.unset).toArray = ls at hl ⊢
  have hl : lv_has ls 3 [(0, .ref a_this), (1, .int p1), (2, .int p2)] := hl
  generalize ([.ref a_this, .int p1, .int p2] : List Value).toArray = args at hts hQ ⊢
  have hP : va_P D vwCl [(a_this, .inr (5, [.ref a_letters, .int length, .int place, .int fault, .int faultAt]))] s.heap := hP
  have hinX5 : ∀ w ∈ u_ws RX5 TX5 5, w ∈ wsX5_fail := by decide +kernel
  have fl_22 := hts (.fieldLink RX5 22 "DoubleChain$Text" "fault" "I") (by decide +kernel)
  have fl_25 := hts (.fieldLink RX5 25 "DoubleChain$Text" "faultAt" "I") (by decide +kernel)
  clear B
  show W p l e xrm_X5_fail s m args below meth c s.heap [] 0 0 Q (F0 m 0 ls [])
  unfold wp_X5_fail at hw
  refine lv_aload_n hx hb dX5_fail_0 rfl (lv_at hl 0 rfl) ?_
  refine lv_iload_n hx hb dX5_fail_1 rfl (lv_at hl 1 rfl) ?_
  refine va_put (D := D) (ci := 5) (v := .int p1) (ty := .int) (C := RX5) (T := TX5) (N := 5) hx hb hts hinX5 tyX5 tyX5_ok nmX5 hown hKK.1 hP hD hS 0 rfl rfl 3 (by decide) fl_22 (fun _ h9 => h9) rfl (by decide +kernel) rfl rfl (Nat.le_of_ble_eq_true rfl) dX5_fail_2 (fun H locs hP hD hS => ?_)
  have hP : va_P D vwCl [(a_this, .inr (5, [.ref a_letters, .int length, .int place, .int p1, .int faultAt]))] H := hP
  have hD : va_D A [(a_this, .inr (5, [.ref a_letters, .int length, .int place, .int p1, .int faultAt]))] := hD
  refine lv_aload_n hx hb dX5_fail_5 rfl (lv_at hl 0 rfl) ?_
  refine lv_iload_n hx hb dX5_fail_6 rfl (lv_at hl 2 rfl) ?_
  refine va_put (D := D) (ci := 5) (v := .int p2) (ty := .int) (C := RX5) (T := TX5) (N := 5) hx hb hts hinX5 tyX5 tyX5_ok nmX5 hown hKK.1 hP hD hS 0 rfl rfl 4 (by decide) fl_25 (fun _ h9 => h9) rfl (by decide +kernel) rfl rfl (Nat.le_of_ble_eq_true rfl) dX5_fail_7 (fun H locs hP hD hS => ?_)
  have hP : va_P D vwCl [(a_this, .inr (5, [.ref a_letters, .int length, .int place, .int p1, .int p2]))] H := hP
  have hD : va_D A [(a_this, .inr (5, [.ref a_letters, .int length, .int place, .int p1, .int p2]))] := hD
  rw [hQ]
  exact W.vret hx hb hr (fun t ht _ => ⟨⟨⟨p1, p2⟩, rfl, hw, by rw [ht]; exact hP, hD⟩, hS.F ht⟩) hS.2.2 dX5_fail_10
def wp_X7_within (p0 : Int32) (p1 : Int32) (p2 : Int32) (Φ : Int32 → Prop) : Prop :=
  ((p0 < p1 → (Φ 0)) ∧ (¬ p0 < p1 → ((p2 < p0 → (Φ 0)) ∧ (¬ p2 < p0 → (Φ 1)))))
abbrev xrm_X7_within : Room := { frames := 0, cells := 0, slots := 0, locals := 0 }
set_option maxRecDepth 100000 in
set_option maxHeartbeats 4000000 in
theorem c_X7_within (l : Launch) (D : va_G) (cI cZ cO : ClassId) {p0 : Int32} {p1 : Int32} {p2 : Int32} {Φ : Int32 → Prop} (hw : (wp_X7_within p0 p1 p2 Φ)) : Met l yX7_within wsX7_within xrm_X7_within (xPR D cI cZ cO [.int p0, .int p1, .int p2] []) (vp_Si Φ) 0 0 (fun _ => False) := by
  refine Met.ofW (cc := cX7_within) (maxL := 3) (ret := (some .boolean)) (by decide) rfl ?_
  intro p e s m args below meth c s₁ B hml hv
  obtain ⟨rfl, hP, hKK⟩ := hv
  have hx := B.exec
  have hb := B.bytes
  have hr := B.returns
  have hts := atoms_spec (ws := wsX7_within) B.pre
  have hown : s.vm.findClass RX7 = some m.cls := findClass_of_methodNamed B.named
  have hlocks := B.notSynchronized
  obtain ⟨Q, hQ⟩ : ∃ Q, Q = MQ below (vp_Si Φ) ([.int p0, .int p1, .int p2] : List Value).toArray s 0 0 (fun _ => False) := ⟨_, rfl⟩
  rw [← hQ]
  have hl := lv_entry ([.int p0, .int p1, .int p2]) (n := 3) (Nat.le_of_ble_eq_true rfl)
  rw [lg_entry_eq]
  generalize (lg_sl ([.int p0, .int p1, .int p2]) ++ List.replicate (3 - (lg_sl ([.int p0, .int p1, .int p2])).length) Slot.unset).toArray = ls at hl ⊢
  have hl : lv_has ls 3 [(0, .int p0), (1, .int p1), (2, .int p2)] := hl
  generalize ([.int p0, .int p1, .int p2] : List Value).toArray = args at hts hQ ⊢
  have hP : va_P D vwCl [] s.heap := hP
  clear B
  show W p l e xrm_X7_within s m args below meth c s.heap [] 0 0 Q (F0 m 0 ls [])
  unfold wp_X7_within at hw
  refine lv_iload_n hx hb dX7_within_0 rfl (lv_at hl 0 rfl) ?_
  refine lv_iload_n hx hb dX7_within_1 rfl (lv_at hl 1 rfl) ?_
  refine lv_icmp_lt (tgt := 14) hx hb dX7_within_2 (by decide) (fun c_2 => ?_) (fun c_2 => ?_)
  · have hw := hw.1 c_2
    refine lv_iconst (v := 0) hx hb dX7_within_14 (by decide) ?_
    rw [hQ]
    exact W.zret (v := 0) hx hb hr xvz_0 (fun t ht _ => ⟨0, rfl, hw, ht⟩) (fun _ h => (List.not_mem_nil h).elim) dX7_within_15
  · have hw := hw.2 c_2
    refine lv_iload_n hx hb dX7_within_5 rfl (lv_at hl 0 rfl) ?_
    refine lv_iload_n hx hb dX7_within_6 rfl (lv_at hl 2 rfl) ?_
    refine lv_icmp_gt (tgt := 14) hx hb dX7_within_7 (by decide) (fun c_7 => ?_) (fun c_7 => ?_)
    · have hw := hw.1 c_7
      refine lv_iconst (v := 0) hx hb dX7_within_14 (by decide) ?_
      rw [hQ]
      exact W.zret (v := 0) hx hb hr xvz_0 (fun t ht _ => ⟨0, rfl, hw, ht⟩) (fun _ h => (List.not_mem_nil h).elim) dX7_within_15
    · have hw := hw.2 c_7
      refine lv_iconst (v := 1) hx hb dX7_within_10 (by decide) ?_
      refine lv_goto (tgt := 15) hx hb dX7_within_11 (by decide) ?_
      rw [hQ]
      exact W.zret (v := 1) hx hb hr xvz_1 (fun t ht _ => ⟨1, rfl, hw, ht⟩) (fun _ h => (List.not_mem_nil h).elim) dX7_within_15
def wk_X5_readNumber_21 (fault : Int32) (faultAt : Int32) (p1 : Int32) (p2 : Int32) (Φ : Int32 → Int32 → Int32 → Int32 → Prop) (place_10 : Int32) (place_21 : Int32) (x4_21 : Int32) : Prop :=
  ((place_21 = place_10 → (wp_X5_fail 1 place_21 (fun fault_102 faultAt_102 => (Φ x4_21 place_21 fault_102 faultAt_102)))) ∧ (¬ place_21 = place_10 → ((3 < (place_21 - place_10) → (wp_X5_fail 2 place_10 (fun fault_131 faultAt_131 => (Φ x4_21 place_21 fault_131 faultAt_131)))) ∧ (¬ 3 < (place_21 - place_10) → (wp_X7_within x4_21 p1 p2 (fun r_122 => ((r_122 = 0 → (wp_X5_fail 2 place_10 (fun fault_131 faultAt_131 => (Φ x4_21 place_21 fault_131 faultAt_131)))) ∧ (¬ r_122 = 0 → (Φ x4_21 place_21 fault faultAt)))))))))
def wb_X5_readNumber_21 (length : Int32) (letters : Nat → Int32) (K_21 : Int32 → Int32 → Prop) (rec_21 : Int32 → Int32 → Prop) (place_21 : Int32) (x4_21 : Int32) : Prop :=
  ((length ≤ place_21 → (K_21 place_21 x4_21)) ∧ (¬ length ≤ place_21 → (wp_X7_at letters 240 place_21 (fun r_40 => (wp_X7_within r_40 48 57 (fun r_47 => ((r_47 = 0 → (K_21 place_21 x4_21)) ∧ (¬ r_47 = 0 → (wp_X7_at letters 240 place_21 (fun r_66 => (rec_21 (place_21 + 1) (((x4_21 * 10) + r_66) - 48))))))))))))
def wp_X5_readNumber (length : Int32) (place : Int32) (fault : Int32) (faultAt : Int32) (letters : Nat → Int32) (p1 : Int32) (p2 : Int32) (Φ : Int32 → Int32 → Int32 → Int32 → Prop) : Prop :=
  ((fault = 0 → (wp_X5_skipBlanks length place letters (fun place_10 => (∃ n : Nat, xit2 (wb_X5_readNumber_21 length letters (wk_X5_readNumber_21 fault faultAt p1 p2 Φ place_10)) n place_10 0)))) ∧ (¬ fault = 0 → (Φ 0 place fault faultAt)))
abbrev xrm_X5_readNumber : Room := { frames := 2, cells := 0, slots := 0, locals := 41 }
set_option maxRecDepth 100000 in
set_option maxHeartbeats 4000000 in
theorem c_X5_readNumber (l : Launch) (D : va_G) (cI cZ cO : ClassId) {a_letters : Nat} {length : Int32} {place : Int32} {fault : Int32} {faultAt : Int32} {a_this : Nat} {letters : Nat → Int32} {p1 : Int32} {p2 : Int32} {Φ : Int32 → Int32 → Int32 → Int32 → Prop} {sz : Nat} (hw : (wp_X5_readNumber length place fault faultAt letters p1 p2 Φ)) : Met l yX5_readNumber wsX5_readNumber xrm_X5_readNumber (xPW D cI cZ cO [.ref a_this, .int p1, .int p2] sz [(a_this, .inr (5, [.ref a_letters, .int length, .int place, .int fault, .int faultAt])), (a_letters, .inl (cI, 240, .inl letters))]) (va_Qi (fun (r : Int32) (u : Int32 × Int32 × Int32) => Φ r u.1 u.2.1 u.2.2) (xB D (va_A [(a_this, .inr (5, [.ref a_letters, .int length, .int place, .int fault, .int faultAt])), (a_letters, .inl (cI, 240, .inl letters))] sz) (fun (u : Int32 × Int32 × Int32) => [(a_this, .inr (5, [.ref a_letters, .int length, .int u.1, .int u.2.1, .int u.2.2])), (a_letters, .inl (cI, 240, .inl letters))])) (va_A [(a_this, .inr (5, [.ref a_letters, .int length, .int place, .int fault, .int faultAt])), (a_letters, .inl (cI, 240, .inl letters))] sz)) 0 0 (va_A [(a_this, .inr (5, [.ref a_letters, .int length, .int place, .int fault, .int faultAt])), (a_letters, .inl (cI, 240, .inl letters))] sz) := by
  refine Met.ofW (cc := cX5_readNumber) (maxL := 5) (ret := (some .int)) (by decide) rfl ?_
  intro p e s m args below meth c s₁ B hml hv
  obtain ⟨rfl, hsz, hP, hKK, hD0⟩ := hv
  have hx := B.exec
  have hb := B.bytes
  have hr := B.returns
  have hts := atoms_spec (ws := wsX5_readNumber) B.pre
  have hown : s.vm.findClass RX5 = some m.cls := findClass_of_methodNamed B.named
  have hlocks := B.notSynchronized
  subst hsz
  have hD := hD0.self (sz := s.heap.size)
  obtain ⟨Q, hQ⟩ : ∃ Q, Q = MQ below (va_Qi (fun (r : Int32) (u : Int32 × Int32 × Int32) => Φ r u.1 u.2.1 u.2.2) (xB D (va_A [(a_this, .inr (5, [.ref a_letters, .int length, .int place, .int fault, .int faultAt])), (a_letters, .inl (cI, 240, .inl letters))] s.heap.size) (fun (u : Int32 × Int32 × Int32) => [(a_this, .inr (5, [.ref a_letters, .int length, .int u.1, .int u.2.1, .int u.2.2])), (a_letters, .inl (cI, 240, .inl letters))])) (va_A [(a_this, .inr (5, [.ref a_letters, .int length, .int place, .int fault, .int faultAt])), (a_letters, .inl (cI, 240, .inl letters))] s.heap.size)) ([.ref a_this, .int p1, .int p2] : List Value).toArray s 0 0 (va_A [(a_this, .inr (5, [.ref a_letters, .int length, .int place, .int fault, .int faultAt])), (a_letters, .inl (cI, 240, .inl letters))] s.heap.size) := ⟨_, rfl⟩
  rw [← hQ]
  generalize hAe : va_A [(a_this, .inr (5, [.ref a_letters, .int length, .int place, .int fault, .int faultAt])), (a_letters, .inl (cI, 240, .inl letters))] s.heap.size = A at hD hQ
  have hA : ∀ q : Nat, s.heap.size ≤ q → A q := fun q h => by rw [← hAe]; exact Or.inr h
  have hS : va_S A s.heap s.heap [] := va_S.rf
  have hl := lv_entry ([.ref a_this, .int p1, .int p2]) (n := 5) (Nat.le_of_ble_eq_true rfl)
  rw [lg_entry_eq]
  generalize (lg_sl ([.ref a_this, .int p1, .int p2]) ++ List.replicate (5 - (lg_sl ([.ref a_this, .int p1, .int p2])).length) Slot.unset).toArray = ls at hl ⊢
  have hl : lv_has ls 5 [(0, .ref a_this), (1, .int p1), (2, .int p2)] := hl
  generalize ([.ref a_this, .int p1, .int p2] : List Value).toArray = args at hts hQ ⊢
  have hP : va_P D vwCl [(a_this, .inr (5, [.ref a_letters, .int length, .int place, .int fault, .int faultAt])), (a_letters, .inl (cI, 240, .inl letters))] s.heap := hP
  have hinX5 : ∀ w ∈ u_ws RX5 TX5 5, w ∈ wsX5_readNumber := by decide +kernel
  have fl_9 := hts (.fieldLink RX5 9 "DoubleChain$Text" "letters" "[I") (by decide +kernel)
  have fl_15 := hts (.fieldLink RX5 15 "DoubleChain$Text" "length" "I") (by decide +kernel)
  have fl_19 := hts (.fieldLink RX5 19 "DoubleChain$Text" "place" "I") (by decide +kernel)
  have fl_22 := hts (.fieldLink RX5 22 "DoubleChain$Text" "fault" "I") (by decide +kernel)
  clear B
  show W p l e xrm_X5_readNumber s m args below meth c s.heap [] 0 0 Q (F0 m 0 ls [])
  unfold wp_X5_readNumber at hw
  refine lv_aload_n hx hb dX5_readNumber_0 rfl (lv_at hl 0 rfl) ?_
  refine va_get (D := D) (ci := 5) (v := .int fault) (C := RX5) (T := TX5) (N := 5) hx hb hts hinX5 hown hKK.1 hP 0 rfl rfl 3 (by decide) fl_22 (fun _ h9 => h9) rfl dX5_readNumber_1 ?_
  refine lv_if_eq (tgt := 9) hx hb dX5_readNumber_4 (by decide) (fun c_4 => ?_) (fun c_4 => ?_)
  · have hw := hw.1 c_4
    refine lv_aload_n hx hb dX5_readNumber_9 rfl (lv_at hl 0 rfl) ?_
    refine xwVv (q0 := 0) (ci := 5) (wr := []) (As := []) (rest := []) (wc := [(a_this, .inr (5, [.ref a_letters, .int length, .int place, .int fault, .int faultAt])), (a_letters, .inl (cI, 240, .inl letters))]) (fun (u : Int32) => [(a_this, .inr (5, [.ref a_letters, .int length, .int u, .int fault, .int faultAt])), (a_letters, .inl (cI, 240, .inl letters))]) ⟨hx, hb, hml, hown, hts⟩ (c_X5_skipBlanks l D cI cZ cO hw) (cwV 0 hts gX5_readNumber_X5_skipBlanks rfl rfl rfl (by decide +kernel) ⟨Nat.le_of_ble_eq_true rfl, Nat.le_of_ble_eq_true rfl⟩) hKK hP hD hS hA [0, 1] [] [0, 1] rfl rfl rfl rfl rfl (by decide) (fun _ => rfl) rfl rfl rfl hl.1 rfl (Nat.le_of_ble_eq_true rfl) dX5_readNumber_10 ⟨Nat.zero_le _, Nat.zero_le _⟩ (fun place_10 H locs hw hP hD hS => ?_)
    have hP : va_P D vwCl [(a_this, .inr (5, [.ref a_letters, .int length, .int place_10, .int fault, .int faultAt])), (a_letters, .inl (cI, 240, .inl letters))] H := hP
    have hD : va_D A [(a_this, .inr (5, [.ref a_letters, .int length, .int place_10, .int fault, .int faultAt])), (a_letters, .inl (cI, 240, .inl letters))] := hD
    refine lv_aload_n hx hb dX5_readNumber_13 rfl (lv_at hl 0 rfl) ?_
    refine va_get (D := D) (ci := 5) (v := .int place_10) (C := RX5) (T := TX5) (N := 5) hx hb hts hinX5 hown hKK.1 hP 0 rfl rfl 2 (by decide) fl_19 (fun _ h9 => h9) rfl dX5_readNumber_14 ?_
    refine lv_istore_n (lv' := [(3, .int place_10), (0, .ref a_this), (1, .int p1), (2, .int p2)]) hx hb dX5_readNumber_17 rfl hl (by decide) rfl (fun ls hl => ?_)
    refine lv_iconst (v := 0) hx hb dX5_readNumber_18 (by decide) ?_
    refine lv_istore (lv' := [(4, .int 0), (3, .int place_10), (0, .ref a_this), (1, .int p1), (2, .int p2)]) hx hb dX5_readNumber_19 hl (by decide) rfl (fun ls hl => ?_)
    have EX_21 : ∀ (place_21 : Int32) (x4_21 : Int32), ∀ (H : Heap) (locs : List Loc), va_P D vwCl [(a_this, .inr (5, [.ref a_letters, .int length, .int place_21, .int fault, .int faultAt])), (a_letters, .inl (cI, 240, .inl letters))] H → va_D A [(a_this, .inr (5, [.ref a_letters, .int length, .int place_21, .int fault, .int faultAt])), (a_letters, .inl (cI, 240, .inl letters))] → va_S A s.heap H locs → ∀ (ls : Array Slot), lv_has ls 5 [(0, .ref a_this), (1, .int p1), (2, .int p2), (3, .int place_10), (4, .int x4_21)] → (wk_X5_readNumber_21 fault faultAt p1 p2 Φ place_10 place_21 x4_21) → W p l e xrm_X5_readNumber s m args below meth c H locs 0 0 Q (F0 m 88 ls []) := by
      intro place_21 x4_21 H locs hP hD hS ls hl hw
      unfold wk_X5_readNumber_21 at hw
      refine lv_aload_n hx hb dX5_readNumber_88 rfl (lv_at hl 0 rfl) ?_
      refine va_get (D := D) (ci := 5) (v := .int place_21) (C := RX5) (T := TX5) (N := 5) hx hb hts hinX5 hown hKK.1 hP 0 rfl rfl 2 (by decide) fl_19 (fun _ h9 => h9) rfl dX5_readNumber_89 ?_
      refine lv_iload_n hx hb dX5_readNumber_92 rfl (lv_at hl 3 rfl) ?_
      refine lv_icmp_ne (tgt := 108) hx hb dX5_readNumber_93 (by decide) (fun c_93 => ?_) (fun c_93 => ?_)
      · have hw := hw.2 c_93
        refine lv_aload_n hx hb dX5_readNumber_108 rfl (lv_at hl 0 rfl) ?_
        refine va_get (D := D) (ci := 5) (v := .int place_21) (C := RX5) (T := TX5) (N := 5) hx hb hts hinX5 hown hKK.1 hP 0 rfl rfl 2 (by decide) fl_19 (fun _ h9 => h9) rfl dX5_readNumber_109 ?_
        refine lv_iload_n hx hb dX5_readNumber_112 rfl (lv_at hl 3 rfl) ?_
        refine lv_isub hx hb dX5_readNumber_113 ?_
        refine lv_iconst (v := 3) hx hb dX5_readNumber_114 (by decide) ?_
        refine lv_icmp_gt (tgt := 128) hx hb dX5_readNumber_115 (by decide) (fun c_115 => ?_) (fun c_115 => ?_)
        · have hw := hw.1 c_115
          refine lv_aload_n hx hb dX5_readNumber_128 rfl (lv_at hl 0 rfl) ?_
          refine lv_iconst (v := 2) hx hb dX5_readNumber_129 (by decide) ?_
          refine lv_iload_n hx hb dX5_readNumber_130 rfl (lv_at hl 3 rfl) ?_
          refine xwVv (q0 := 0) (ci := 5) (wr := [(a_letters, .inl (cI, 240, .inl letters))]) (As := [.int 2, .int place_10]) (rest := []) (wc := [(a_this, .inr (5, [.ref a_letters, .int length, .int place_21, .int fault, .int faultAt]))]) (fun (u : Int32 × Int32) => [(a_this, .inr (5, [.ref a_letters, .int length, .int place_21, .int u.1, .int u.2])), (a_letters, .inl (cI, 240, .inl letters))]) ⟨hx, hb, hml, hown, hts⟩ (c_X5_fail l D cI cZ cO hw) (cwV 2 hts gX5_readNumber_X5_fail rfl rfl rfl (by decide +kernel) ⟨Nat.le_of_ble_eq_true rfl, Nat.le_of_ble_eq_true rfl⟩) hKK hP hD hS hA [0] [1] [1, 0] rfl rfl rfl rfl rfl (by decide) (fun _ => rfl) rfl rfl rfl hl.1 rfl (Nat.le_of_ble_eq_true rfl) dX5_readNumber_131 ⟨Nat.zero_le _, Nat.zero_le _⟩ (fun u_131 H locs hw hP hD hS => ?_)
          obtain ⟨fault_131, faultAt_131⟩ := u_131
          try dsimp only at hw
          have hP : va_P D vwCl [(a_this, .inr (5, [.ref a_letters, .int length, .int place_21, .int fault_131, .int faultAt_131])), (a_letters, .inl (cI, 240, .inl letters))] H := hP
          have hD : va_D A [(a_this, .inr (5, [.ref a_letters, .int length, .int place_21, .int fault_131, .int faultAt_131])), (a_letters, .inl (cI, 240, .inl letters))] := hD
          refine lv_iload hx hb dX5_readNumber_134 (lv_at hl 4 rfl) ?_
          rw [hQ]
          exact W.iret (v := x4_21) hx hb hr (fun t ht _ => ⟨⟨x4_21, ⟨place_21, fault_131, faultAt_131⟩, rfl, hw, by rw [ht]; exact hP, hD⟩, hS.F ht⟩) hS.2.2 dX5_readNumber_136
        · have hw := hw.2 c_115
          refine lv_iload hx hb dX5_readNumber_118 (lv_at hl 4 rfl) ?_
          refine lv_iload_n hx hb dX5_readNumber_120 rfl (lv_at hl 1 rfl) ?_
          refine lv_iload_n hx hb dX5_readNumber_121 rfl (lv_at hl 2 rfl) ?_
          refine xcNi (As := [.int x4_21, .int p1, .int p2]) (rest := []) (wc := []) ⟨hx, hb, hml, hown, hts⟩ (c_X7_within l D cI cZ cO hw) ⟨va_cnB 3 hts gX5_readNumber_X7_within_n93 rfl rfl rfl (xn_11 hKK.2) (hts (.initialized RX7) (by decide +kernel)) (by decide +kernel) ⟨Nat.le_of_ble_eq_true rfl, Nat.le_of_ble_eq_true rfl⟩, hts (.static yX7_within) (by decide +kernel), trivial⟩ hKK hP [] rfl rfl hl.1 rfl (Nat.le_of_ble_eq_true rfl) dX5_readNumber_122 ⟨Nat.zero_le _, Nat.zero_le _⟩ (fun r_122 hw => ?_)
          refine lv_if_ne (tgt := 134) hx hb dX5_readNumber_125 (by decide) (fun c_125 => ?_) (fun c_125 => ?_)
          · have hw := hw.2 c_125
            refine lv_iload hx hb dX5_readNumber_134 (lv_at hl 4 rfl) ?_
            rw [hQ]
            exact W.iret (v := x4_21) hx hb hr (fun t ht _ => ⟨⟨x4_21, ⟨place_21, fault, faultAt⟩, rfl, hw, by rw [ht]; exact hP, hD⟩, hS.F ht⟩) hS.2.2 dX5_readNumber_136
          · have hw := hw.1 c_125
            refine lv_aload_n hx hb dX5_readNumber_128 rfl (lv_at hl 0 rfl) ?_
            refine lv_iconst (v := 2) hx hb dX5_readNumber_129 (by decide) ?_
            refine lv_iload_n hx hb dX5_readNumber_130 rfl (lv_at hl 3 rfl) ?_
            refine xwVv (q0 := 0) (ci := 5) (wr := [(a_letters, .inl (cI, 240, .inl letters))]) (As := [.int 2, .int place_10]) (rest := []) (wc := [(a_this, .inr (5, [.ref a_letters, .int length, .int place_21, .int fault, .int faultAt]))]) (fun (u : Int32 × Int32) => [(a_this, .inr (5, [.ref a_letters, .int length, .int place_21, .int u.1, .int u.2])), (a_letters, .inl (cI, 240, .inl letters))]) ⟨hx, hb, hml, hown, hts⟩ (c_X5_fail l D cI cZ cO hw) (cwV 2 hts gX5_readNumber_X5_fail rfl rfl rfl (by decide +kernel) ⟨Nat.le_of_ble_eq_true rfl, Nat.le_of_ble_eq_true rfl⟩) hKK hP hD hS hA [0] [1] [1, 0] rfl rfl rfl rfl rfl (by decide) (fun _ => rfl) rfl rfl rfl hl.1 rfl (Nat.le_of_ble_eq_true rfl) dX5_readNumber_131 ⟨Nat.zero_le _, Nat.zero_le _⟩ (fun u_131 H locs hw hP hD hS => ?_)
            obtain ⟨fault_131, faultAt_131⟩ := u_131
            try dsimp only at hw
            have hP : va_P D vwCl [(a_this, .inr (5, [.ref a_letters, .int length, .int place_21, .int fault_131, .int faultAt_131])), (a_letters, .inl (cI, 240, .inl letters))] H := hP
            have hD : va_D A [(a_this, .inr (5, [.ref a_letters, .int length, .int place_21, .int fault_131, .int faultAt_131])), (a_letters, .inl (cI, 240, .inl letters))] := hD
            refine lv_iload hx hb dX5_readNumber_134 (lv_at hl 4 rfl) ?_
            rw [hQ]
            exact W.iret (v := x4_21) hx hb hr (fun t ht _ => ⟨⟨x4_21, ⟨place_21, fault_131, faultAt_131⟩, rfl, hw, by rw [ht]; exact hP, hD⟩, hS.F ht⟩) hS.2.2 dX5_readNumber_136
      · have hw := hw.1 c_93
        refine lv_aload_n hx hb dX5_readNumber_96 rfl (lv_at hl 0 rfl) ?_
        refine lv_iconst (v := 1) hx hb dX5_readNumber_97 (by decide) ?_
        refine lv_aload_n hx hb dX5_readNumber_98 rfl (lv_at hl 0 rfl) ?_
        refine va_get (D := D) (ci := 5) (v := .int place_21) (C := RX5) (T := TX5) (N := 5) hx hb hts hinX5 hown hKK.1 hP 0 rfl rfl 2 (by decide) fl_19 (fun _ h9 => h9) rfl dX5_readNumber_99 ?_
        refine xwVv (q0 := 0) (ci := 5) (wr := [(a_letters, .inl (cI, 240, .inl letters))]) (As := [.int 1, .int place_21]) (rest := []) (wc := [(a_this, .inr (5, [.ref a_letters, .int length, .int place_21, .int fault, .int faultAt]))]) (fun (u : Int32 × Int32) => [(a_this, .inr (5, [.ref a_letters, .int length, .int place_21, .int u.1, .int u.2])), (a_letters, .inl (cI, 240, .inl letters))]) ⟨hx, hb, hml, hown, hts⟩ (c_X5_fail l D cI cZ cO hw) (cwV 2 hts gX5_readNumber_X5_fail rfl rfl rfl (by decide +kernel) ⟨Nat.le_of_ble_eq_true rfl, Nat.le_of_ble_eq_true rfl⟩) hKK hP hD hS hA [0] [1] [1, 0] rfl rfl rfl rfl rfl (by decide) (fun _ => rfl) rfl rfl rfl hl.1 rfl (Nat.le_of_ble_eq_true rfl) dX5_readNumber_102 ⟨Nat.zero_le _, Nat.zero_le _⟩ (fun u_102 H locs hw hP hD hS => ?_)
        obtain ⟨fault_102, faultAt_102⟩ := u_102
        try dsimp only at hw
        have hP : va_P D vwCl [(a_this, .inr (5, [.ref a_letters, .int length, .int place_21, .int fault_102, .int faultAt_102])), (a_letters, .inl (cI, 240, .inl letters))] H := hP
        have hD : va_D A [(a_this, .inr (5, [.ref a_letters, .int length, .int place_21, .int fault_102, .int faultAt_102])), (a_letters, .inl (cI, 240, .inl letters))] := hD
        refine lv_goto (tgt := 134) hx hb dX5_readNumber_105 (by decide) ?_
        refine lv_iload hx hb dX5_readNumber_134 (lv_at hl 4 rfl) ?_
        rw [hQ]
        exact W.iret (v := x4_21) hx hb hr (fun t ht _ => ⟨⟨x4_21, ⟨place_21, fault_102, faultAt_102⟩, rfl, hw, by rw [ht]; exact hP, hD⟩, hS.F ht⟩) hS.2.2 dX5_readNumber_136
    generalize (wk_X5_readNumber_21 fault faultAt p1 p2 Φ place_10) = K_21 at EX_21 hw
    have LP_21 : ∀ n : Nat, ∀ (place_21 : Int32) (x4_21 : Int32), ∀ (H : Heap) (locs : List Loc), va_P D vwCl [(a_this, .inr (5, [.ref a_letters, .int length, .int place_21, .int fault, .int faultAt])), (a_letters, .inl (cI, 240, .inl letters))] H → va_D A [(a_this, .inr (5, [.ref a_letters, .int length, .int place_21, .int fault, .int faultAt])), (a_letters, .inl (cI, 240, .inl letters))] → va_S A s.heap H locs → ∀ (ls : Array Slot), lv_has ls 5 [(0, .ref a_this), (1, .int p1), (2, .int p2), (3, .int place_10), (4, .int x4_21)] → xit2 (wb_X5_readNumber_21 length letters K_21) n place_21 x4_21 → W p l e xrm_X5_readNumber s m args below meth c H locs 0 0 Q (F0 m 21 ls []) := by
      intro n
      induction n with
      | zero => intro place_21 x4_21 H locs hP hD hS ls hl hw; exact (show False from hw).elim
      | succ n ih =>
        intro place_21 x4_21 H locs hP hD hS ls hl hw
        have hw : wb_X5_readNumber_21 length letters K_21 (xit2 (wb_X5_readNumber_21 length letters K_21) n) place_21 x4_21 := hw
        generalize xit2 (wb_X5_readNumber_21 length letters K_21) n = rec_21 at ih hw
        unfold wb_X5_readNumber_21 at hw
        refine lv_aload_n hx hb dX5_readNumber_21 rfl (lv_at hl 0 rfl) ?_
        refine va_get (D := D) (ci := 5) (v := .int place_21) (C := RX5) (T := TX5) (N := 5) hx hb hts hinX5 hown hKK.1 hP 0 rfl rfl 2 (by decide) fl_19 (fun _ h9 => h9) rfl dX5_readNumber_22 ?_
        refine lv_aload_n hx hb dX5_readNumber_25 rfl (lv_at hl 0 rfl) ?_
        refine va_get (D := D) (ci := 5) (v := .int length) (C := RX5) (T := TX5) (N := 5) hx hb hts hinX5 hown hKK.1 hP 0 rfl rfl 1 (by decide) fl_15 (fun _ h9 => h9) rfl dX5_readNumber_26 ?_
        refine lv_icmp_ge (tgt := 88) hx hb dX5_readNumber_29 (by decide) (fun c_29 => ?_) (fun c_29 => ?_)
        · have hw := hw.1 c_29
          exact EX_21 _ _ _ _ hP hD hS ls (lv_sub hl [0, 1, 2, 3, 4] rfl) hw
        · have hw := hw.2 c_29
          refine lv_aload_n hx hb dX5_readNumber_32 rfl (lv_at hl 0 rfl) ?_
          refine va_get (D := D) (ci := 5) (v := .ref a_letters) (C := RX5) (T := TX5) (N := 5) hx hb hts hinX5 hown hKK.1 hP 0 rfl rfl 0 (by decide) fl_9 (fun _ h9 => h9) rfl dX5_readNumber_33 ?_
          refine lv_aload_n hx hb dX5_readNumber_36 rfl (lv_at hl 0 rfl) ?_
          refine va_get (D := D) (ci := 5) (v := .int place_21) (C := RX5) (T := TX5) (N := 5) hx hb hts hinX5 hown hKK.1 hP 0 rfl rfl 2 (by decide) fl_19 (fun _ h9 => h9) rfl dX5_readNumber_37 ?_
          refine xcNi (As := [.ref a_letters, .int place_21]) (rest := []) (wc := [(a_letters, .inl (cI, 240, .inl letters))]) ⟨hx, hb, hml, hown, hts⟩ (c_X7_at l D cI cZ cO hw) ⟨va_cnB 2 hts gX5_readNumber_X7_at_n44 rfl rfl rfl (xn_10 hKK.2) (hts (.initialized RX7) (by decide +kernel)) (by decide +kernel) ⟨Nat.le_of_ble_eq_true rfl, Nat.le_of_ble_eq_true rfl⟩, hts (.static yX7_at) (by decide +kernel), trivial⟩ hKK hP [1] rfl rfl hl.1 rfl (Nat.le_of_ble_eq_true rfl) dX5_readNumber_40 ⟨Nat.zero_le _, Nat.zero_le _⟩ (fun r_40 hw => ?_)
          refine lv_bipush (v := 48) hx hb dX5_readNumber_43 (by decide) ?_
          refine lv_bipush (v := 57) hx hb dX5_readNumber_45 (by decide) ?_
          refine xcNi (As := [.int r_40, .int 48, .int 57]) (rest := []) (wc := []) ⟨hx, hb, hml, hown, hts⟩ (c_X7_within l D cI cZ cO hw) ⟨va_cnB 3 hts gX5_readNumber_X7_within_n93 rfl rfl rfl (xn_11 hKK.2) (hts (.initialized RX7) (by decide +kernel)) (by decide +kernel) ⟨Nat.le_of_ble_eq_true rfl, Nat.le_of_ble_eq_true rfl⟩, hts (.static yX7_within) (by decide +kernel), trivial⟩ hKK hP [] rfl rfl hl.1 rfl (Nat.le_of_ble_eq_true rfl) dX5_readNumber_47 ⟨Nat.zero_le _, Nat.zero_le _⟩ (fun r_47 hw => ?_)
          refine lv_if_eq (tgt := 88) hx hb dX5_readNumber_50 (by decide) (fun c_50 => ?_) (fun c_50 => ?_)
          · have hw := hw.1 c_50
            exact EX_21 _ _ _ _ hP hD hS ls (lv_sub hl [0, 1, 2, 3, 4] rfl) hw
          · have hw := hw.2 c_50
            refine lv_iload hx hb dX5_readNumber_53 (lv_at hl 4 rfl) ?_
            refine lv_bipush (v := 10) hx hb dX5_readNumber_55 (by decide) ?_
            refine lv_imul hx hb dX5_readNumber_57 ?_
            refine lv_aload_n hx hb dX5_readNumber_58 rfl (lv_at hl 0 rfl) ?_
            refine va_get (D := D) (ci := 5) (v := .ref a_letters) (C := RX5) (T := TX5) (N := 5) hx hb hts hinX5 hown hKK.1 hP 0 rfl rfl 0 (by decide) fl_9 (fun _ h9 => h9) rfl dX5_readNumber_59 ?_
            refine lv_aload_n hx hb dX5_readNumber_62 rfl (lv_at hl 0 rfl) ?_
            refine va_get (D := D) (ci := 5) (v := .int place_21) (C := RX5) (T := TX5) (N := 5) hx hb hts hinX5 hown hKK.1 hP 0 rfl rfl 2 (by decide) fl_19 (fun _ h9 => h9) rfl dX5_readNumber_63 ?_
            refine xcNi (As := [.ref a_letters, .int place_21]) (rest := [.int (x4_21 * 10)]) (wc := [(a_letters, .inl (cI, 240, .inl letters))]) ⟨hx, hb, hml, hown, hts⟩ (c_X7_at l D cI cZ cO hw) ⟨va_cnB 2 hts gX5_readNumber_X7_at_n44 rfl rfl rfl (xn_10 hKK.2) (hts (.initialized RX7) (by decide +kernel)) (by decide +kernel) ⟨Nat.le_of_ble_eq_true rfl, Nat.le_of_ble_eq_true rfl⟩, hts (.static yX7_at) (by decide +kernel), trivial⟩ hKK hP [1] rfl rfl hl.1 rfl (Nat.le_of_ble_eq_true rfl) dX5_readNumber_66 ⟨Nat.zero_le _, Nat.zero_le _⟩ (fun r_66 hw => ?_)
            refine lv_iadd hx hb dX5_readNumber_69 ?_
            refine lv_bipush (v := 48) hx hb dX5_readNumber_70 (by decide) ?_
            refine lv_isub hx hb dX5_readNumber_72 ?_
            refine lv_istore (lv' := [(4, .int (((x4_21 * 10) + r_66) - 48)), (0, .ref a_this), (1, .int p1), (2, .int p2), (3, .int place_10)]) hx hb dX5_readNumber_73 hl (by decide) rfl (fun ls hl => ?_)
            refine lv_aload_n hx hb dX5_readNumber_75 rfl (lv_at hl 1 rfl) ?_
            refine lv_dup hx hb dX5_readNumber_76 rfl ?_
            refine va_get (D := D) (ci := 5) (v := .int place_21) (C := RX5) (T := TX5) (N := 5) hx hb hts hinX5 hown hKK.1 hP 0 rfl rfl 2 (by decide) fl_19 (fun _ h9 => h9) rfl dX5_readNumber_77 ?_
            refine lv_iconst (v := 1) hx hb dX5_readNumber_80 (by decide) ?_
            refine lv_iadd hx hb dX5_readNumber_81 ?_
            refine va_put (D := D) (ci := 5) (v := .int (place_21 + 1)) (ty := .int) (C := RX5) (T := TX5) (N := 5) hx hb hts hinX5 tyX5 tyX5_ok nmX5 hown hKK.1 hP hD hS 0 rfl rfl 2 (by decide) fl_19 (fun _ h9 => h9) rfl (by decide +kernel) rfl rfl (Nat.le_of_ble_eq_true rfl) dX5_readNumber_82 (fun H locs hP hD hS => ?_)
            have hP : va_P D vwCl [(a_this, .inr (5, [.ref a_letters, .int length, .int (place_21 + 1), .int fault, .int faultAt])), (a_letters, .inl (cI, 240, .inl letters))] H := hP
            have hD : va_D A [(a_this, .inr (5, [.ref a_letters, .int length, .int (place_21 + 1), .int fault, .int faultAt])), (a_letters, .inl (cI, 240, .inl letters))] := hD
            refine lv_goto (tgt := 21) hx hb dX5_readNumber_85 (by decide) ?_
            exact ih _ _ _ _ hP hD hS ls (lv_sub hl [1, 2, 3, 4, 0] rfl) hw
    obtain ⟨n, hw⟩ := hw
    exact LP_21 n _ _ _ _ hP hD hS ls (lv_sub hl [2, 3, 4, 1, 0] rfl) hw
  · have hw := hw.2 c_4
    refine lv_iconst (v := 0) hx hb dX5_readNumber_7 (by decide) ?_
    rw [hQ]
    exact W.iret (v := 0) hx hb hr (fun t ht _ => ⟨⟨0, ⟨place, fault, faultAt⟩, rfl, hw, by rw [ht]; exact hP, hD⟩, hS.F ht⟩) hS.2.2 dX5_readNumber_8
def wp_X5_readEnd (length : Int32) (place : Int32) (fault : Int32) (faultAt : Int32) (letters : Nat → Int32) (Φ : Int32 → Int32 → Int32 → Prop) : Prop :=
  ((fault = 0 → (wp_X5_skipBlanks length place letters (fun place_9 => ((length ≤ place_9 → (wp_X5_fail 1 place_9 (fun fault_58 faultAt_58 => (Φ place_9 fault_58 faultAt_58)))) ∧ (¬ length ≤ place_9 → (wp_X7_at letters 240 place_9 (fun r_31 => ((r_31 = 59 → (Φ (place_9 + 1) fault faultAt)) ∧ (¬ r_31 = 59 → (wp_X5_fail 1 place_9 (fun fault_58 faultAt_58 => (Φ place_9 fault_58 faultAt_58)))))))))))) ∧ (¬ fault = 0 → (Φ place fault faultAt)))
abbrev xrm_X5_readEnd : Room := { frames := 2, cells := 0, slots := 0, locals := 41 }
set_option maxRecDepth 100000 in
set_option maxHeartbeats 4000000 in
theorem c_X5_readEnd (l : Launch) (D : va_G) (cI cZ cO : ClassId) {a_letters : Nat} {length : Int32} {place : Int32} {fault : Int32} {faultAt : Int32} {a_this : Nat} {letters : Nat → Int32} {Φ : Int32 → Int32 → Int32 → Prop} {sz : Nat} (hw : (wp_X5_readEnd length place fault faultAt letters Φ)) : Met l yX5_readEnd wsX5_readEnd xrm_X5_readEnd (xPW D cI cZ cO [.ref a_this] sz [(a_this, .inr (5, [.ref a_letters, .int length, .int place, .int fault, .int faultAt])), (a_letters, .inl (cI, 240, .inl letters))]) (va_Qv (fun (u : Int32 × Int32 × Int32) => Φ u.1 u.2.1 u.2.2) (xB D (va_A [(a_this, .inr (5, [.ref a_letters, .int length, .int place, .int fault, .int faultAt])), (a_letters, .inl (cI, 240, .inl letters))] sz) (fun (u : Int32 × Int32 × Int32) => [(a_this, .inr (5, [.ref a_letters, .int length, .int u.1, .int u.2.1, .int u.2.2])), (a_letters, .inl (cI, 240, .inl letters))])) (va_A [(a_this, .inr (5, [.ref a_letters, .int length, .int place, .int fault, .int faultAt])), (a_letters, .inl (cI, 240, .inl letters))] sz)) 0 0 (va_A [(a_this, .inr (5, [.ref a_letters, .int length, .int place, .int fault, .int faultAt])), (a_letters, .inl (cI, 240, .inl letters))] sz) := by
  refine Met.ofW (cc := cX5_readEnd) (maxL := 1) (ret := none) (by decide) rfl ?_
  intro p e s m args below meth c s₁ B hml hv
  obtain ⟨rfl, hsz, hP, hKK, hD0⟩ := hv
  have hx := B.exec
  have hb := B.bytes
  have hr := B.returns
  have hts := atoms_spec (ws := wsX5_readEnd) B.pre
  have hown : s.vm.findClass RX5 = some m.cls := findClass_of_methodNamed B.named
  have hlocks := B.notSynchronized
  subst hsz
  have hD := hD0.self (sz := s.heap.size)
  obtain ⟨Q, hQ⟩ : ∃ Q, Q = MQ below (va_Qv (fun (u : Int32 × Int32 × Int32) => Φ u.1 u.2.1 u.2.2) (xB D (va_A [(a_this, .inr (5, [.ref a_letters, .int length, .int place, .int fault, .int faultAt])), (a_letters, .inl (cI, 240, .inl letters))] s.heap.size) (fun (u : Int32 × Int32 × Int32) => [(a_this, .inr (5, [.ref a_letters, .int length, .int u.1, .int u.2.1, .int u.2.2])), (a_letters, .inl (cI, 240, .inl letters))])) (va_A [(a_this, .inr (5, [.ref a_letters, .int length, .int place, .int fault, .int faultAt])), (a_letters, .inl (cI, 240, .inl letters))] s.heap.size)) ([.ref a_this] : List Value).toArray s 0 0 (va_A [(a_this, .inr (5, [.ref a_letters, .int length, .int place, .int fault, .int faultAt])), (a_letters, .inl (cI, 240, .inl letters))] s.heap.size) := ⟨_, rfl⟩
  rw [← hQ]
  generalize hAe : va_A [(a_this, .inr (5, [.ref a_letters, .int length, .int place, .int fault, .int faultAt])), (a_letters, .inl (cI, 240, .inl letters))] s.heap.size = A at hD hQ
  have hA : ∀ q : Nat, s.heap.size ≤ q → A q := fun q h => by rw [← hAe]; exact Or.inr h
  have hS : va_S A s.heap s.heap [] := va_S.rf
  have hl := lv_entry ([.ref a_this]) (n := 1) (Nat.le_of_ble_eq_true rfl)
  rw [lg_entry_eq]
  generalize (lg_sl ([.ref a_this]) ++ List.replicate (1 - (lg_sl ([.ref a_this])).length) Slot.unset).toArray = ls at hl ⊢
  have hl : lv_has ls 1 [(0, .ref a_this)] := hl
  generalize ([.ref a_this] : List Value).toArray = args at hts hQ ⊢
  have hP : va_P D vwCl [(a_this, .inr (5, [.ref a_letters, .int length, .int place, .int fault, .int faultAt])), (a_letters, .inl (cI, 240, .inl letters))] s.heap := hP
  have hinX5 : ∀ w ∈ u_ws RX5 TX5 5, w ∈ wsX5_readEnd := by decide +kernel
  have fl_9 := hts (.fieldLink RX5 9 "DoubleChain$Text" "letters" "[I") (by decide +kernel)
  have fl_15 := hts (.fieldLink RX5 15 "DoubleChain$Text" "length" "I") (by decide +kernel)
  have fl_19 := hts (.fieldLink RX5 19 "DoubleChain$Text" "place" "I") (by decide +kernel)
  have fl_22 := hts (.fieldLink RX5 22 "DoubleChain$Text" "fault" "I") (by decide +kernel)
  clear B
  show W p l e xrm_X5_readEnd s m args below meth c s.heap [] 0 0 Q (F0 m 0 ls [])
  unfold wp_X5_readEnd at hw
  refine lv_aload_n hx hb dX5_readEnd_0 rfl (lv_at hl 0 rfl) ?_
  refine va_get (D := D) (ci := 5) (v := .int fault) (C := RX5) (T := TX5) (N := 5) hx hb hts hinX5 hown hKK.1 hP 0 rfl rfl 3 (by decide) fl_22 (fun _ h9 => h9) rfl dX5_readEnd_1 ?_
  refine lv_if_eq (tgt := 8) hx hb dX5_readEnd_4 (by decide) (fun c_4 => ?_) (fun c_4 => ?_)
  · have hw := hw.1 c_4
    refine lv_aload_n hx hb dX5_readEnd_8 rfl (lv_at hl 0 rfl) ?_
    refine xwVv (q0 := 0) (ci := 5) (wr := []) (As := []) (rest := []) (wc := [(a_this, .inr (5, [.ref a_letters, .int length, .int place, .int fault, .int faultAt])), (a_letters, .inl (cI, 240, .inl letters))]) (fun (u : Int32) => [(a_this, .inr (5, [.ref a_letters, .int length, .int u, .int fault, .int faultAt])), (a_letters, .inl (cI, 240, .inl letters))]) ⟨hx, hb, hml, hown, hts⟩ (c_X5_skipBlanks l D cI cZ cO hw) (cwV 0 hts gX5_readEnd_X5_skipBlanks rfl rfl rfl (by decide +kernel) ⟨Nat.le_of_ble_eq_true rfl, Nat.le_of_ble_eq_true rfl⟩) hKK hP hD hS hA [0, 1] [] [0, 1] rfl rfl rfl rfl rfl (by decide) (fun _ => rfl) rfl rfl rfl hl.1 rfl (Nat.le_of_ble_eq_true rfl) dX5_readEnd_9 ⟨Nat.zero_le _, Nat.zero_le _⟩ (fun place_9 H locs hw hP hD hS => ?_)
    have hP : va_P D vwCl [(a_this, .inr (5, [.ref a_letters, .int length, .int place_9, .int fault, .int faultAt])), (a_letters, .inl (cI, 240, .inl letters))] H := hP
    have hD : va_D A [(a_this, .inr (5, [.ref a_letters, .int length, .int place_9, .int fault, .int faultAt])), (a_letters, .inl (cI, 240, .inl letters))] := hD
    refine lv_aload_n hx hb dX5_readEnd_12 rfl (lv_at hl 0 rfl) ?_
    refine va_get (D := D) (ci := 5) (v := .int place_9) (C := RX5) (T := TX5) (N := 5) hx hb hts hinX5 hown hKK.1 hP 0 rfl rfl 2 (by decide) fl_19 (fun _ h9 => h9) rfl dX5_readEnd_13 ?_
    refine lv_aload_n hx hb dX5_readEnd_16 rfl (lv_at hl 0 rfl) ?_
    refine va_get (D := D) (ci := 5) (v := .int length) (C := RX5) (T := TX5) (N := 5) hx hb hts hinX5 hown hKK.1 hP 0 rfl rfl 1 (by decide) fl_15 (fun _ h9 => h9) rfl dX5_readEnd_17 ?_
    refine lv_icmp_ge (tgt := 52) hx hb dX5_readEnd_20 (by decide) (fun c_20 => ?_) (fun c_20 => ?_)
    · have hw := hw.1 c_20
      refine lv_aload_n hx hb dX5_readEnd_52 rfl (lv_at hl 0 rfl) ?_
      refine lv_iconst (v := 1) hx hb dX5_readEnd_53 (by decide) ?_
      refine lv_aload_n hx hb dX5_readEnd_54 rfl (lv_at hl 0 rfl) ?_
      refine va_get (D := D) (ci := 5) (v := .int place_9) (C := RX5) (T := TX5) (N := 5) hx hb hts hinX5 hown hKK.1 hP 0 rfl rfl 2 (by decide) fl_19 (fun _ h9 => h9) rfl dX5_readEnd_55 ?_
      refine xwVv (q0 := 0) (ci := 5) (wr := [(a_letters, .inl (cI, 240, .inl letters))]) (As := [.int 1, .int place_9]) (rest := []) (wc := [(a_this, .inr (5, [.ref a_letters, .int length, .int place_9, .int fault, .int faultAt]))]) (fun (u : Int32 × Int32) => [(a_this, .inr (5, [.ref a_letters, .int length, .int place_9, .int u.1, .int u.2])), (a_letters, .inl (cI, 240, .inl letters))]) ⟨hx, hb, hml, hown, hts⟩ (c_X5_fail l D cI cZ cO hw) (cwV 2 hts gX5_readEnd_X5_fail rfl rfl rfl (by decide +kernel) ⟨Nat.le_of_ble_eq_true rfl, Nat.le_of_ble_eq_true rfl⟩) hKK hP hD hS hA [0] [1] [1, 0] rfl rfl rfl rfl rfl (by decide) (fun _ => rfl) rfl rfl rfl hl.1 rfl (Nat.le_of_ble_eq_true rfl) dX5_readEnd_58 ⟨Nat.zero_le _, Nat.zero_le _⟩ (fun u_58 H locs hw hP hD hS => ?_)
      obtain ⟨fault_58, faultAt_58⟩ := u_58
      try dsimp only at hw
      have hP : va_P D vwCl [(a_this, .inr (5, [.ref a_letters, .int length, .int place_9, .int fault_58, .int faultAt_58])), (a_letters, .inl (cI, 240, .inl letters))] H := hP
      have hD : va_D A [(a_this, .inr (5, [.ref a_letters, .int length, .int place_9, .int fault_58, .int faultAt_58])), (a_letters, .inl (cI, 240, .inl letters))] := hD
      rw [hQ]
      exact W.vret hx hb hr (fun t ht _ => ⟨⟨⟨place_9, fault_58, faultAt_58⟩, rfl, hw, by rw [ht]; exact hP, hD⟩, hS.F ht⟩) hS.2.2 dX5_readEnd_61
    · have hw := hw.2 c_20
      refine lv_aload_n hx hb dX5_readEnd_23 rfl (lv_at hl 0 rfl) ?_
      refine va_get (D := D) (ci := 5) (v := .ref a_letters) (C := RX5) (T := TX5) (N := 5) hx hb hts hinX5 hown hKK.1 hP 0 rfl rfl 0 (by decide) fl_9 (fun _ h9 => h9) rfl dX5_readEnd_24 ?_
      refine lv_aload_n hx hb dX5_readEnd_27 rfl (lv_at hl 0 rfl) ?_
      refine va_get (D := D) (ci := 5) (v := .int place_9) (C := RX5) (T := TX5) (N := 5) hx hb hts hinX5 hown hKK.1 hP 0 rfl rfl 2 (by decide) fl_19 (fun _ h9 => h9) rfl dX5_readEnd_28 ?_
      refine xcNi (As := [.ref a_letters, .int place_9]) (rest := []) (wc := [(a_letters, .inl (cI, 240, .inl letters))]) ⟨hx, hb, hml, hown, hts⟩ (c_X7_at l D cI cZ cO hw) ⟨va_cnB 2 hts gX5_readEnd_X7_at_n44 rfl rfl rfl (xn_10 hKK.2) (hts (.initialized RX7) (by decide +kernel)) (by decide +kernel) ⟨Nat.le_of_ble_eq_true rfl, Nat.le_of_ble_eq_true rfl⟩, hts (.static yX7_at) (by decide +kernel), trivial⟩ hKK hP [1] rfl rfl hl.1 rfl (Nat.le_of_ble_eq_true rfl) dX5_readEnd_31 ⟨Nat.zero_le _, Nat.zero_le _⟩ (fun r_31 hw => ?_)
      refine lv_bipush (v := 59) hx hb dX5_readEnd_34 (by decide) ?_
      refine lv_icmp_ne (tgt := 52) hx hb dX5_readEnd_36 (by decide) (fun c_36 => ?_) (fun c_36 => ?_)
      · have hw := hw.2 c_36
        refine lv_aload_n hx hb dX5_readEnd_52 rfl (lv_at hl 0 rfl) ?_
        refine lv_iconst (v := 1) hx hb dX5_readEnd_53 (by decide) ?_
        refine lv_aload_n hx hb dX5_readEnd_54 rfl (lv_at hl 0 rfl) ?_
        refine va_get (D := D) (ci := 5) (v := .int place_9) (C := RX5) (T := TX5) (N := 5) hx hb hts hinX5 hown hKK.1 hP 0 rfl rfl 2 (by decide) fl_19 (fun _ h9 => h9) rfl dX5_readEnd_55 ?_
        refine xwVv (q0 := 0) (ci := 5) (wr := [(a_letters, .inl (cI, 240, .inl letters))]) (As := [.int 1, .int place_9]) (rest := []) (wc := [(a_this, .inr (5, [.ref a_letters, .int length, .int place_9, .int fault, .int faultAt]))]) (fun (u : Int32 × Int32) => [(a_this, .inr (5, [.ref a_letters, .int length, .int place_9, .int u.1, .int u.2])), (a_letters, .inl (cI, 240, .inl letters))]) ⟨hx, hb, hml, hown, hts⟩ (c_X5_fail l D cI cZ cO hw) (cwV 2 hts gX5_readEnd_X5_fail rfl rfl rfl (by decide +kernel) ⟨Nat.le_of_ble_eq_true rfl, Nat.le_of_ble_eq_true rfl⟩) hKK hP hD hS hA [0] [1] [1, 0] rfl rfl rfl rfl rfl (by decide) (fun _ => rfl) rfl rfl rfl hl.1 rfl (Nat.le_of_ble_eq_true rfl) dX5_readEnd_58 ⟨Nat.zero_le _, Nat.zero_le _⟩ (fun u_58 H locs hw hP hD hS => ?_)
        obtain ⟨fault_58, faultAt_58⟩ := u_58
        try dsimp only at hw
        have hP : va_P D vwCl [(a_this, .inr (5, [.ref a_letters, .int length, .int place_9, .int fault_58, .int faultAt_58])), (a_letters, .inl (cI, 240, .inl letters))] H := hP
        have hD : va_D A [(a_this, .inr (5, [.ref a_letters, .int length, .int place_9, .int fault_58, .int faultAt_58])), (a_letters, .inl (cI, 240, .inl letters))] := hD
        rw [hQ]
        exact W.vret hx hb hr (fun t ht _ => ⟨⟨⟨place_9, fault_58, faultAt_58⟩, rfl, hw, by rw [ht]; exact hP, hD⟩, hS.F ht⟩) hS.2.2 dX5_readEnd_61
      · have hw := hw.1 c_36
        refine lv_aload_n hx hb dX5_readEnd_39 rfl (lv_at hl 0 rfl) ?_
        refine lv_dup hx hb dX5_readEnd_40 rfl ?_
        refine va_get (D := D) (ci := 5) (v := .int place_9) (C := RX5) (T := TX5) (N := 5) hx hb hts hinX5 hown hKK.1 hP 0 rfl rfl 2 (by decide) fl_19 (fun _ h9 => h9) rfl dX5_readEnd_41 ?_
        refine lv_iconst (v := 1) hx hb dX5_readEnd_44 (by decide) ?_
        refine lv_iadd hx hb dX5_readEnd_45 ?_
        refine va_put (D := D) (ci := 5) (v := .int (place_9 + 1)) (ty := .int) (C := RX5) (T := TX5) (N := 5) hx hb hts hinX5 tyX5 tyX5_ok nmX5 hown hKK.1 hP hD hS 0 rfl rfl 2 (by decide) fl_19 (fun _ h9 => h9) rfl (by decide +kernel) rfl rfl (Nat.le_of_ble_eq_true rfl) dX5_readEnd_46 (fun H locs hP hD hS => ?_)
        have hP : va_P D vwCl [(a_this, .inr (5, [.ref a_letters, .int length, .int (place_9 + 1), .int fault, .int faultAt])), (a_letters, .inl (cI, 240, .inl letters))] H := hP
        have hD : va_D A [(a_this, .inr (5, [.ref a_letters, .int length, .int (place_9 + 1), .int fault, .int faultAt])), (a_letters, .inl (cI, 240, .inl letters))] := hD
        refine lv_goto (tgt := 61) hx hb dX5_readEnd_49 (by decide) ?_
        rw [hQ]
        exact W.vret hx hb hr (fun t ht _ => ⟨⟨⟨(place_9 + 1), fault, faultAt⟩, rfl, hw, by rw [ht]; exact hP, hD⟩, hS.F ht⟩) hS.2.2 dX5_readEnd_61
  · have hw := hw.2 c_4
    rw [hQ]
    exact W.vret hx hb hr (fun t ht _ => ⟨⟨⟨place, fault, faultAt⟩, rfl, hw, by rw [ht]; exact hP, hD⟩, hS.F ht⟩) hS.2.2 dX5_readEnd_7
def wp_X5_readKing (length : Int32) (place : Int32) (fault : Int32) (faultAt : Int32) (letters : Nat → Int32) (p1_pay : Int32) (Φ : Int32 → Int32 → Int32 → Int32 → Prop) : Prop :=
  (wp_X5_readNumber length place fault faultAt letters 1 999 (fun r_5 place_5 fault_5 faultAt_5 => (wp_X5_readEnd length place_5 fault_5 faultAt_5 letters (fun place_10 fault_10 faultAt_10 => ((fault_10 = 0 → (Φ place_10 fault_10 faultAt_10 r_5)) ∧ (¬ fault_10 = 0 → (Φ place_10 fault_10 faultAt_10 p1_pay)))))))
abbrev xrm_X5_readKing : Room := { frames := 3, cells := 0, slots := 0, locals := 65 }
set_option maxRecDepth 100000 in
set_option maxHeartbeats 4000000 in
theorem c_X5_readKing (l : Launch) (D : va_G) (cI cZ cO : ClassId) {a_letters : Nat} {length : Int32} {place : Int32} {fault : Int32} {faultAt : Int32} {a_this : Nat} {letters : Nat → Int32} {a_p1_marks : Nat} {a_p1_inWeathers : Nat} {a_p1_inHours : Nat} {a_p1_fears : Nat} {a_p1_weathers : Nat} {a_p1_hours : Nat} {a_p1_dangers : Nat} {p1_pay : Int32} {p1_people : Int32} {p1_days : Int32} {a_p1 : Nat} {Φ : Int32 → Int32 → Int32 → Int32 → Prop} {sz : Nat} (hw : (wp_X5_readKing length place fault faultAt letters p1_pay Φ)) : Met l yX5_readKing wsX5_readKing xrm_X5_readKing (xPW D cI cZ cO [.ref a_this, .ref a_p1] sz [(a_this, .inr (5, [.ref a_letters, .int length, .int place, .int fault, .int faultAt])), (a_letters, .inl (cI, 240, .inl letters)), (a_p1, .inr (2, [.ref a_p1_marks, .ref a_p1_inWeathers, .ref a_p1_inHours, .ref a_p1_fears, .ref a_p1_weathers, .ref a_p1_hours, .ref a_p1_dangers, .int p1_pay, .int p1_people, .int p1_days]))]) (va_Qv (fun (u : Int32 × Int32 × Int32 × Int32) => Φ u.1 u.2.1 u.2.2.1 u.2.2.2) (xB D (va_A [(a_this, .inr (5, [.ref a_letters, .int length, .int place, .int fault, .int faultAt])), (a_letters, .inl (cI, 240, .inl letters)), (a_p1, .inr (2, [.ref a_p1_marks, .ref a_p1_inWeathers, .ref a_p1_inHours, .ref a_p1_fears, .ref a_p1_weathers, .ref a_p1_hours, .ref a_p1_dangers, .int p1_pay, .int p1_people, .int p1_days]))] sz) (fun (u : Int32 × Int32 × Int32 × Int32) => [(a_this, .inr (5, [.ref a_letters, .int length, .int u.1, .int u.2.1, .int u.2.2.1])), (a_letters, .inl (cI, 240, .inl letters)), (a_p1, .inr (2, [.ref a_p1_marks, .ref a_p1_inWeathers, .ref a_p1_inHours, .ref a_p1_fears, .ref a_p1_weathers, .ref a_p1_hours, .ref a_p1_dangers, .int u.2.2.2, .int p1_people, .int p1_days]))])) (va_A [(a_this, .inr (5, [.ref a_letters, .int length, .int place, .int fault, .int faultAt])), (a_letters, .inl (cI, 240, .inl letters)), (a_p1, .inr (2, [.ref a_p1_marks, .ref a_p1_inWeathers, .ref a_p1_inHours, .ref a_p1_fears, .ref a_p1_weathers, .ref a_p1_hours, .ref a_p1_dangers, .int p1_pay, .int p1_people, .int p1_days]))] sz)) 0 0 (va_A [(a_this, .inr (5, [.ref a_letters, .int length, .int place, .int fault, .int faultAt])), (a_letters, .inl (cI, 240, .inl letters)), (a_p1, .inr (2, [.ref a_p1_marks, .ref a_p1_inWeathers, .ref a_p1_inHours, .ref a_p1_fears, .ref a_p1_weathers, .ref a_p1_hours, .ref a_p1_dangers, .int p1_pay, .int p1_people, .int p1_days]))] sz) := by
  refine Met.ofW (cc := cX5_readKing) (maxL := 3) (ret := none) (by decide) rfl ?_
  intro p e s m args below meth c s₁ B hml hv
  obtain ⟨rfl, hsz, hP, hKK, hD0⟩ := hv
  have hx := B.exec
  have hb := B.bytes
  have hr := B.returns
  have hts := atoms_spec (ws := wsX5_readKing) B.pre
  have hown : s.vm.findClass RX5 = some m.cls := findClass_of_methodNamed B.named
  have hlocks := B.notSynchronized
  subst hsz
  have hD := hD0.self (sz := s.heap.size)
  obtain ⟨Q, hQ⟩ : ∃ Q, Q = MQ below (va_Qv (fun (u : Int32 × Int32 × Int32 × Int32) => Φ u.1 u.2.1 u.2.2.1 u.2.2.2) (xB D (va_A [(a_this, .inr (5, [.ref a_letters, .int length, .int place, .int fault, .int faultAt])), (a_letters, .inl (cI, 240, .inl letters)), (a_p1, .inr (2, [.ref a_p1_marks, .ref a_p1_inWeathers, .ref a_p1_inHours, .ref a_p1_fears, .ref a_p1_weathers, .ref a_p1_hours, .ref a_p1_dangers, .int p1_pay, .int p1_people, .int p1_days]))] s.heap.size) (fun (u : Int32 × Int32 × Int32 × Int32) => [(a_this, .inr (5, [.ref a_letters, .int length, .int u.1, .int u.2.1, .int u.2.2.1])), (a_letters, .inl (cI, 240, .inl letters)), (a_p1, .inr (2, [.ref a_p1_marks, .ref a_p1_inWeathers, .ref a_p1_inHours, .ref a_p1_fears, .ref a_p1_weathers, .ref a_p1_hours, .ref a_p1_dangers, .int u.2.2.2, .int p1_people, .int p1_days]))])) (va_A [(a_this, .inr (5, [.ref a_letters, .int length, .int place, .int fault, .int faultAt])), (a_letters, .inl (cI, 240, .inl letters)), (a_p1, .inr (2, [.ref a_p1_marks, .ref a_p1_inWeathers, .ref a_p1_inHours, .ref a_p1_fears, .ref a_p1_weathers, .ref a_p1_hours, .ref a_p1_dangers, .int p1_pay, .int p1_people, .int p1_days]))] s.heap.size)) ([.ref a_this, .ref a_p1] : List Value).toArray s 0 0 (va_A [(a_this, .inr (5, [.ref a_letters, .int length, .int place, .int fault, .int faultAt])), (a_letters, .inl (cI, 240, .inl letters)), (a_p1, .inr (2, [.ref a_p1_marks, .ref a_p1_inWeathers, .ref a_p1_inHours, .ref a_p1_fears, .ref a_p1_weathers, .ref a_p1_hours, .ref a_p1_dangers, .int p1_pay, .int p1_people, .int p1_days]))] s.heap.size) := ⟨_, rfl⟩
  rw [← hQ]
  generalize hAe : va_A [(a_this, .inr (5, [.ref a_letters, .int length, .int place, .int fault, .int faultAt])), (a_letters, .inl (cI, 240, .inl letters)), (a_p1, .inr (2, [.ref a_p1_marks, .ref a_p1_inWeathers, .ref a_p1_inHours, .ref a_p1_fears, .ref a_p1_weathers, .ref a_p1_hours, .ref a_p1_dangers, .int p1_pay, .int p1_people, .int p1_days]))] s.heap.size = A at hD hQ
  have hA : ∀ q : Nat, s.heap.size ≤ q → A q := fun q h => by rw [← hAe]; exact Or.inr h
  have hS : va_S A s.heap s.heap [] := va_S.rf
  have hl := lv_entry ([.ref a_this, .ref a_p1]) (n := 3) (Nat.le_of_ble_eq_true rfl)
  rw [lg_entry_eq]
  generalize (lg_sl ([.ref a_this, .ref a_p1]) ++ List.replicate (3 - (lg_sl ([.ref a_this, .ref a_p1])).length) Slot.unset).toArray = ls at hl ⊢
  have hl : lv_has ls 3 [(0, .ref a_this), (1, .ref a_p1)] := hl
  generalize ([.ref a_this, .ref a_p1] : List Value).toArray = args at hts hQ ⊢
  have hP : va_P D vwCl [(a_this, .inr (5, [.ref a_letters, .int length, .int place, .int fault, .int faultAt])), (a_letters, .inl (cI, 240, .inl letters)), (a_p1, .inr (2, [.ref a_p1_marks, .ref a_p1_inWeathers, .ref a_p1_inHours, .ref a_p1_fears, .ref a_p1_weathers, .ref a_p1_hours, .ref a_p1_dangers, .int p1_pay, .int p1_people, .int p1_days]))] s.heap := hP
  have hinX2 : ∀ w ∈ u_ws RX2 TX2 10, w ∈ wsX5_readKing := by decide +kernel
  have hinX5 : ∀ w ∈ u_ws RX5 TX5 5, w ∈ wsX5_readKing := by decide +kernel
  have fl_22 := hts (.fieldLink RX5 22 "DoubleChain$Text" "fault" "I") (by decide +kernel)
  have fl_82 := hts (.fieldLink RX5 82 "DoubleChain$Court" "pay" "I") (by decide +kernel)
  clear B
  show W p l e xrm_X5_readKing s m args below meth c s.heap [] 0 0 Q (F0 m 0 ls [])
  unfold wp_X5_readKing at hw
  refine lv_aload_n hx hb dX5_readKing_0 rfl (lv_at hl 0 rfl) ?_
  refine lv_iconst (v := 1) hx hb dX5_readKing_1 (by decide) ?_
  refine lv_sipush (v := 999) hx hb dX5_readKing_2 (by decide) ?_
  refine xwVi (q0 := 0) (ci := 5) (wr := [(a_p1, .inr (2, [.ref a_p1_marks, .ref a_p1_inWeathers, .ref a_p1_inHours, .ref a_p1_fears, .ref a_p1_weathers, .ref a_p1_hours, .ref a_p1_dangers, .int p1_pay, .int p1_people, .int p1_days]))]) (As := [.int 1, .int 999]) (rest := []) (wc := [(a_this, .inr (5, [.ref a_letters, .int length, .int place, .int fault, .int faultAt])), (a_letters, .inl (cI, 240, .inl letters))]) (fun (u : Int32 × Int32 × Int32) => [(a_this, .inr (5, [.ref a_letters, .int length, .int u.1, .int u.2.1, .int u.2.2])), (a_letters, .inl (cI, 240, .inl letters)), (a_p1, .inr (2, [.ref a_p1_marks, .ref a_p1_inWeathers, .ref a_p1_inHours, .ref a_p1_fears, .ref a_p1_weathers, .ref a_p1_hours, .ref a_p1_dangers, .int p1_pay, .int p1_people, .int p1_days]))]) ⟨hx, hb, hml, hown, hts⟩ (c_X5_readNumber l D cI cZ cO hw) (cwV 2 hts gX5_readKing_X5_readNumber rfl rfl rfl (by decide +kernel) ⟨Nat.le_of_ble_eq_true rfl, Nat.le_of_ble_eq_true rfl⟩) hKK hP hD hS hA [0, 1] [2] [1, 2, 0] rfl rfl rfl rfl rfl (by decide) (fun _ => rfl) rfl rfl rfl hl.1 rfl (Nat.le_of_ble_eq_true rfl) dX5_readKing_5 ⟨Nat.zero_le _, Nat.zero_le _⟩ (fun r_5 u_5 H locs hw hP hD hS => ?_)
  obtain ⟨place_5, fault_5, faultAt_5⟩ := u_5
  try dsimp only at hw
  have hP : va_P D vwCl [(a_this, .inr (5, [.ref a_letters, .int length, .int place_5, .int fault_5, .int faultAt_5])), (a_letters, .inl (cI, 240, .inl letters)), (a_p1, .inr (2, [.ref a_p1_marks, .ref a_p1_inWeathers, .ref a_p1_inHours, .ref a_p1_fears, .ref a_p1_weathers, .ref a_p1_hours, .ref a_p1_dangers, .int p1_pay, .int p1_people, .int p1_days]))] H := hP
  have hD : va_D A [(a_this, .inr (5, [.ref a_letters, .int length, .int place_5, .int fault_5, .int faultAt_5])), (a_letters, .inl (cI, 240, .inl letters)), (a_p1, .inr (2, [.ref a_p1_marks, .ref a_p1_inWeathers, .ref a_p1_inHours, .ref a_p1_fears, .ref a_p1_weathers, .ref a_p1_hours, .ref a_p1_dangers, .int p1_pay, .int p1_people, .int p1_days]))] := hD
  refine lv_istore_n (lv' := [(2, .int r_5), (0, .ref a_this), (1, .ref a_p1)]) hx hb dX5_readKing_8 rfl hl (by decide) rfl (fun ls hl => ?_)
  refine lv_aload_n hx hb dX5_readKing_9 rfl (lv_at hl 1 rfl) ?_
  refine xwVv (q0 := 0) (ci := 5) (wr := [(a_p1, .inr (2, [.ref a_p1_marks, .ref a_p1_inWeathers, .ref a_p1_inHours, .ref a_p1_fears, .ref a_p1_weathers, .ref a_p1_hours, .ref a_p1_dangers, .int p1_pay, .int p1_people, .int p1_days]))]) (As := []) (rest := []) (wc := [(a_this, .inr (5, [.ref a_letters, .int length, .int place_5, .int fault_5, .int faultAt_5])), (a_letters, .inl (cI, 240, .inl letters))]) (fun (u : Int32 × Int32 × Int32) => [(a_this, .inr (5, [.ref a_letters, .int length, .int u.1, .int u.2.1, .int u.2.2])), (a_letters, .inl (cI, 240, .inl letters)), (a_p1, .inr (2, [.ref a_p1_marks, .ref a_p1_inWeathers, .ref a_p1_inHours, .ref a_p1_fears, .ref a_p1_weathers, .ref a_p1_hours, .ref a_p1_dangers, .int p1_pay, .int p1_people, .int p1_days]))]) ⟨hx, hb, hml, hown, hts⟩ (c_X5_readEnd l D cI cZ cO hw) (cwV 0 hts gX5_readKing_X5_readEnd rfl rfl rfl (by decide +kernel) ⟨Nat.le_of_ble_eq_true rfl, Nat.le_of_ble_eq_true rfl⟩) hKK hP hD hS hA [0, 1] [2] [1, 2, 0] rfl rfl rfl rfl rfl (by decide) (fun _ => rfl) rfl rfl rfl hl.1 rfl (Nat.le_of_ble_eq_true rfl) dX5_readKing_10 ⟨Nat.zero_le _, Nat.zero_le _⟩ (fun u_10 H locs hw hP hD hS => ?_)
  obtain ⟨place_10, fault_10, faultAt_10⟩ := u_10
  try dsimp only at hw
  have hP : va_P D vwCl [(a_this, .inr (5, [.ref a_letters, .int length, .int place_10, .int fault_10, .int faultAt_10])), (a_letters, .inl (cI, 240, .inl letters)), (a_p1, .inr (2, [.ref a_p1_marks, .ref a_p1_inWeathers, .ref a_p1_inHours, .ref a_p1_fears, .ref a_p1_weathers, .ref a_p1_hours, .ref a_p1_dangers, .int p1_pay, .int p1_people, .int p1_days]))] H := hP
  have hD : va_D A [(a_this, .inr (5, [.ref a_letters, .int length, .int place_10, .int fault_10, .int faultAt_10])), (a_letters, .inl (cI, 240, .inl letters)), (a_p1, .inr (2, [.ref a_p1_marks, .ref a_p1_inWeathers, .ref a_p1_inHours, .ref a_p1_fears, .ref a_p1_weathers, .ref a_p1_hours, .ref a_p1_dangers, .int p1_pay, .int p1_people, .int p1_days]))] := hD
  refine lv_aload_n hx hb dX5_readKing_13 rfl (lv_at hl 1 rfl) ?_
  refine va_get (D := D) (ci := 5) (v := .int fault_10) (C := RX5) (T := TX5) (N := 5) hx hb hts hinX5 hown hKK.1 hP 0 rfl rfl 3 (by decide) fl_22 (fun _ h9 => h9) rfl dX5_readKing_14 ?_
  refine lv_if_ne (tgt := 25) hx hb dX5_readKing_17 (by decide) (fun c_17 => ?_) (fun c_17 => ?_)
  · have hw := hw.2 c_17
    rw [hQ]
    exact W.vret hx hb hr (fun t ht _ => ⟨⟨⟨place_10, fault_10, faultAt_10, p1_pay⟩, rfl, hw, by rw [ht]; exact hP, hD⟩, hS.F ht⟩) hS.2.2 dX5_readKing_25
  · have hw := hw.1 c_17
    refine lv_aload_n hx hb dX5_readKing_20 rfl (lv_at hl 2 rfl) ?_
    refine lv_iload_n hx hb dX5_readKing_21 rfl (lv_at hl 0 rfl) ?_
    refine va_put (D := D) (ci := 2) (v := .int r_5) (ty := .int) (C := RX2) (T := TX2) (N := 10) hx hb hts hinX2 tyX2 tyX2_ok nmX2 hown hKK.1 hP hD hS 2 rfl rfl 7 (by decide) fl_82 (fun _ h9 => h9) rfl (by decide +kernel) rfl rfl (Nat.le_of_ble_eq_true rfl) dX5_readKing_22 (fun H locs hP hD hS => ?_)
    have hP : va_P D vwCl [(a_this, .inr (5, [.ref a_letters, .int length, .int place_10, .int fault_10, .int faultAt_10])), (a_letters, .inl (cI, 240, .inl letters)), (a_p1, .inr (2, [.ref a_p1_marks, .ref a_p1_inWeathers, .ref a_p1_inHours, .ref a_p1_fears, .ref a_p1_weathers, .ref a_p1_hours, .ref a_p1_dangers, .int r_5, .int p1_people, .int p1_days]))] H := hP
    have hD : va_D A [(a_this, .inr (5, [.ref a_letters, .int length, .int place_10, .int fault_10, .int faultAt_10])), (a_letters, .inl (cI, 240, .inl letters)), (a_p1, .inr (2, [.ref a_p1_marks, .ref a_p1_inWeathers, .ref a_p1_inHours, .ref a_p1_fears, .ref a_p1_weathers, .ref a_p1_hours, .ref a_p1_dangers, .int r_5, .int p1_people, .int p1_days]))] := hD
    rw [hQ]
    exact W.vret hx hb hr (fun t ht _ => ⟨⟨⟨place_10, fault_10, faultAt_10, r_5⟩, rfl, hw, by rw [ht]; exact hP, hD⟩, hS.F ht⟩) hS.2.2 dX5_readKing_25
def wp_X5_readPerson (length : Int32) (place : Int32) (fault : Int32) (faultAt : Int32) (letters : Nat → Int32) (p1_people : Int32) (p1_marks : Nat → Int32) (p1_inWeathers : Nat → Int32) (p1_inHours : Nat → Int32) (p1_fears : Nat → Int32) (Φ : Int32 → Int32 → Int32 → (Nat → Int32) → (Nat → Int32) → (Nat → Int32) → (Nat → Int32) → Int32 → Prop) : Prop :=
  (wp_X5_readNumber length place fault faultAt letters 0 255 (fun r_5 place_5 fault_5 faultAt_5 => (wp_X5_readNumber length place_5 fault_5 faultAt_5 letters 0 7 (fun r_13 place_13 fault_13 faultAt_13 => (wp_X5_readNumber length place_13 fault_13 faultAt_13 letters 0 15 (fun r_21 place_21 fault_21 faultAt_21 => (wp_X5_readNumber length place_21 fault_21 faultAt_21 letters 0 9 (fun r_30 place_30 fault_30 faultAt_30 => (wp_X5_readEnd length place_30 fault_30 faultAt_30 letters (fun place_36 fault_36 faultAt_36 => ((fault_36 = 0 → (wp_X2_addPerson p1_people p1_marks p1_inWeathers p1_inHours p1_fears r_5 r_13 r_21 r_30 (fun p1_marks_53 p1_inWeathers_53 p1_inHours_53 p1_fears_53 p1_people_53 => (Φ place_36 fault_36 faultAt_36 p1_marks_53 p1_inWeathers_53 p1_inHours_53 p1_fears_53 p1_people_53)))) ∧ (¬ fault_36 = 0 → (Φ place_36 fault_36 faultAt_36 p1_marks p1_inWeathers p1_inHours p1_fears p1_people)))))))))))))
abbrev xrm_X5_readPerson : Room := { frames := 3, cells := 0, slots := 0, locals := 65 }
set_option maxRecDepth 100000 in
set_option maxHeartbeats 4000000 in
theorem c_X5_readPerson (l : Launch) (D : va_G) (cI cZ cO : ClassId) {a_letters : Nat} {length : Int32} {place : Int32} {fault : Int32} {faultAt : Int32} {a_this : Nat} {letters : Nat → Int32} {a_p1_marks : Nat} {a_p1_inWeathers : Nat} {a_p1_inHours : Nat} {a_p1_fears : Nat} {a_p1_weathers : Nat} {a_p1_hours : Nat} {a_p1_dangers : Nat} {p1_pay : Int32} {p1_people : Int32} {p1_days : Int32} {a_p1 : Nat} {p1_marks : Nat → Int32} {p1_inWeathers : Nat → Int32} {p1_inHours : Nat → Int32} {p1_fears : Nat → Int32} {Φ : Int32 → Int32 → Int32 → (Nat → Int32) → (Nat → Int32) → (Nat → Int32) → (Nat → Int32) → Int32 → Prop} {sz : Nat} (hw : (wp_X5_readPerson length place fault faultAt letters p1_people p1_marks p1_inWeathers p1_inHours p1_fears Φ)) : Met l yX5_readPerson wsX5_readPerson xrm_X5_readPerson (xPW D cI cZ cO [.ref a_this, .ref a_p1] sz [(a_this, .inr (5, [.ref a_letters, .int length, .int place, .int fault, .int faultAt])), (a_letters, .inl (cI, 240, .inl letters)), (a_p1, .inr (2, [.ref a_p1_marks, .ref a_p1_inWeathers, .ref a_p1_inHours, .ref a_p1_fears, .ref a_p1_weathers, .ref a_p1_hours, .ref a_p1_dangers, .int p1_pay, .int p1_people, .int p1_days])), (a_p1_marks, .inl (cI, 8, .inl p1_marks)), (a_p1_inWeathers, .inl (cI, 8, .inl p1_inWeathers)), (a_p1_inHours, .inl (cI, 8, .inl p1_inHours)), (a_p1_fears, .inl (cI, 8, .inl p1_fears))]) (va_Qv (fun (u : Int32 × Int32 × Int32 × (Nat → Int32) × (Nat → Int32) × (Nat → Int32) × (Nat → Int32) × Int32) => Φ u.1 u.2.1 u.2.2.1 u.2.2.2.1 u.2.2.2.2.1 u.2.2.2.2.2.1 u.2.2.2.2.2.2.1 u.2.2.2.2.2.2.2) (xB D (va_A [(a_this, .inr (5, [.ref a_letters, .int length, .int place, .int fault, .int faultAt])), (a_letters, .inl (cI, 240, .inl letters)), (a_p1, .inr (2, [.ref a_p1_marks, .ref a_p1_inWeathers, .ref a_p1_inHours, .ref a_p1_fears, .ref a_p1_weathers, .ref a_p1_hours, .ref a_p1_dangers, .int p1_pay, .int p1_people, .int p1_days])), (a_p1_marks, .inl (cI, 8, .inl p1_marks)), (a_p1_inWeathers, .inl (cI, 8, .inl p1_inWeathers)), (a_p1_inHours, .inl (cI, 8, .inl p1_inHours)), (a_p1_fears, .inl (cI, 8, .inl p1_fears))] sz) (fun (u : Int32 × Int32 × Int32 × (Nat → Int32) × (Nat → Int32) × (Nat → Int32) × (Nat → Int32) × Int32) => [(a_this, .inr (5, [.ref a_letters, .int length, .int u.1, .int u.2.1, .int u.2.2.1])), (a_letters, .inl (cI, 240, .inl letters)), (a_p1, .inr (2, [.ref a_p1_marks, .ref a_p1_inWeathers, .ref a_p1_inHours, .ref a_p1_fears, .ref a_p1_weathers, .ref a_p1_hours, .ref a_p1_dangers, .int p1_pay, .int u.2.2.2.2.2.2.2, .int p1_days])), (a_p1_marks, .inl (cI, 8, .inl u.2.2.2.1)), (a_p1_inWeathers, .inl (cI, 8, .inl u.2.2.2.2.1)), (a_p1_inHours, .inl (cI, 8, .inl u.2.2.2.2.2.1)), (a_p1_fears, .inl (cI, 8, .inl u.2.2.2.2.2.2.1))])) (va_A [(a_this, .inr (5, [.ref a_letters, .int length, .int place, .int fault, .int faultAt])), (a_letters, .inl (cI, 240, .inl letters)), (a_p1, .inr (2, [.ref a_p1_marks, .ref a_p1_inWeathers, .ref a_p1_inHours, .ref a_p1_fears, .ref a_p1_weathers, .ref a_p1_hours, .ref a_p1_dangers, .int p1_pay, .int p1_people, .int p1_days])), (a_p1_marks, .inl (cI, 8, .inl p1_marks)), (a_p1_inWeathers, .inl (cI, 8, .inl p1_inWeathers)), (a_p1_inHours, .inl (cI, 8, .inl p1_inHours)), (a_p1_fears, .inl (cI, 8, .inl p1_fears))] sz)) 0 0 (va_A [(a_this, .inr (5, [.ref a_letters, .int length, .int place, .int fault, .int faultAt])), (a_letters, .inl (cI, 240, .inl letters)), (a_p1, .inr (2, [.ref a_p1_marks, .ref a_p1_inWeathers, .ref a_p1_inHours, .ref a_p1_fears, .ref a_p1_weathers, .ref a_p1_hours, .ref a_p1_dangers, .int p1_pay, .int p1_people, .int p1_days])), (a_p1_marks, .inl (cI, 8, .inl p1_marks)), (a_p1_inWeathers, .inl (cI, 8, .inl p1_inWeathers)), (a_p1_inHours, .inl (cI, 8, .inl p1_inHours)), (a_p1_fears, .inl (cI, 8, .inl p1_fears))] sz) := by
  refine Met.ofW (cc := cX5_readPerson) (maxL := 6) (ret := none) (by decide) rfl ?_
  intro p e s m args below meth c s₁ B hml hv
  obtain ⟨rfl, hsz, hP, hKK, hD0⟩ := hv
  have hx := B.exec
  have hb := B.bytes
  have hr := B.returns
  have hts := atoms_spec (ws := wsX5_readPerson) B.pre
  have hown : s.vm.findClass RX5 = some m.cls := findClass_of_methodNamed B.named
  have hlocks := B.notSynchronized
  subst hsz
  have hD := hD0.self (sz := s.heap.size)
  obtain ⟨Q, hQ⟩ : ∃ Q, Q = MQ below (va_Qv (fun (u : Int32 × Int32 × Int32 × (Nat → Int32) × (Nat → Int32) × (Nat → Int32) × (Nat → Int32) × Int32) => Φ u.1 u.2.1 u.2.2.1 u.2.2.2.1 u.2.2.2.2.1 u.2.2.2.2.2.1 u.2.2.2.2.2.2.1 u.2.2.2.2.2.2.2) (xB D (va_A [(a_this, .inr (5, [.ref a_letters, .int length, .int place, .int fault, .int faultAt])), (a_letters, .inl (cI, 240, .inl letters)), (a_p1, .inr (2, [.ref a_p1_marks, .ref a_p1_inWeathers, .ref a_p1_inHours, .ref a_p1_fears, .ref a_p1_weathers, .ref a_p1_hours, .ref a_p1_dangers, .int p1_pay, .int p1_people, .int p1_days])), (a_p1_marks, .inl (cI, 8, .inl p1_marks)), (a_p1_inWeathers, .inl (cI, 8, .inl p1_inWeathers)), (a_p1_inHours, .inl (cI, 8, .inl p1_inHours)), (a_p1_fears, .inl (cI, 8, .inl p1_fears))] s.heap.size) (fun (u : Int32 × Int32 × Int32 × (Nat → Int32) × (Nat → Int32) × (Nat → Int32) × (Nat → Int32) × Int32) => [(a_this, .inr (5, [.ref a_letters, .int length, .int u.1, .int u.2.1, .int u.2.2.1])), (a_letters, .inl (cI, 240, .inl letters)), (a_p1, .inr (2, [.ref a_p1_marks, .ref a_p1_inWeathers, .ref a_p1_inHours, .ref a_p1_fears, .ref a_p1_weathers, .ref a_p1_hours, .ref a_p1_dangers, .int p1_pay, .int u.2.2.2.2.2.2.2, .int p1_days])), (a_p1_marks, .inl (cI, 8, .inl u.2.2.2.1)), (a_p1_inWeathers, .inl (cI, 8, .inl u.2.2.2.2.1)), (a_p1_inHours, .inl (cI, 8, .inl u.2.2.2.2.2.1)), (a_p1_fears, .inl (cI, 8, .inl u.2.2.2.2.2.2.1))])) (va_A [(a_this, .inr (5, [.ref a_letters, .int length, .int place, .int fault, .int faultAt])), (a_letters, .inl (cI, 240, .inl letters)), (a_p1, .inr (2, [.ref a_p1_marks, .ref a_p1_inWeathers, .ref a_p1_inHours, .ref a_p1_fears, .ref a_p1_weathers, .ref a_p1_hours, .ref a_p1_dangers, .int p1_pay, .int p1_people, .int p1_days])), (a_p1_marks, .inl (cI, 8, .inl p1_marks)), (a_p1_inWeathers, .inl (cI, 8, .inl p1_inWeathers)), (a_p1_inHours, .inl (cI, 8, .inl p1_inHours)), (a_p1_fears, .inl (cI, 8, .inl p1_fears))] s.heap.size)) ([.ref a_this, .ref a_p1] : List Value).toArray s 0 0 (va_A [(a_this, .inr (5, [.ref a_letters, .int length, .int place, .int fault, .int faultAt])), (a_letters, .inl (cI, 240, .inl letters)), (a_p1, .inr (2, [.ref a_p1_marks, .ref a_p1_inWeathers, .ref a_p1_inHours, .ref a_p1_fears, .ref a_p1_weathers, .ref a_p1_hours, .ref a_p1_dangers, .int p1_pay, .int p1_people, .int p1_days])), (a_p1_marks, .inl (cI, 8, .inl p1_marks)), (a_p1_inWeathers, .inl (cI, 8, .inl p1_inWeathers)), (a_p1_inHours, .inl (cI, 8, .inl p1_inHours)), (a_p1_fears, .inl (cI, 8, .inl p1_fears))] s.heap.size) := ⟨_, rfl⟩
  rw [← hQ]
  generalize hAe : va_A [(a_this, .inr (5, [.ref a_letters, .int length, .int place, .int fault, .int faultAt])), (a_letters, .inl (cI, 240, .inl letters)), (a_p1, .inr (2, [.ref a_p1_marks, .ref a_p1_inWeathers, .ref a_p1_inHours, .ref a_p1_fears, .ref a_p1_weathers, .ref a_p1_hours, .ref a_p1_dangers, .int p1_pay, .int p1_people, .int p1_days])), (a_p1_marks, .inl (cI, 8, .inl p1_marks)), (a_p1_inWeathers, .inl (cI, 8, .inl p1_inWeathers)), (a_p1_inHours, .inl (cI, 8, .inl p1_inHours)), (a_p1_fears, .inl (cI, 8, .inl p1_fears))] s.heap.size = A at hD hQ
  have hA : ∀ q : Nat, s.heap.size ≤ q → A q := fun q h => by rw [← hAe]; exact Or.inr h
  have hS : va_S A s.heap s.heap [] := va_S.rf
  have hl := lv_entry ([.ref a_this, .ref a_p1]) (n := 6) (Nat.le_of_ble_eq_true rfl)
  rw [lg_entry_eq]
  generalize (lg_sl ([.ref a_this, .ref a_p1]) ++ List.replicate (6 - (lg_sl ([.ref a_this, .ref a_p1])).length) Slot.unset).toArray = ls at hl ⊢
  have hl : lv_has ls 6 [(0, .ref a_this), (1, .ref a_p1)] := hl
  generalize ([.ref a_this, .ref a_p1] : List Value).toArray = args at hts hQ ⊢
  have hP : va_P D vwCl [(a_this, .inr (5, [.ref a_letters, .int length, .int place, .int fault, .int faultAt])), (a_letters, .inl (cI, 240, .inl letters)), (a_p1, .inr (2, [.ref a_p1_marks, .ref a_p1_inWeathers, .ref a_p1_inHours, .ref a_p1_fears, .ref a_p1_weathers, .ref a_p1_hours, .ref a_p1_dangers, .int p1_pay, .int p1_people, .int p1_days])), (a_p1_marks, .inl (cI, 8, .inl p1_marks)), (a_p1_inWeathers, .inl (cI, 8, .inl p1_inWeathers)), (a_p1_inHours, .inl (cI, 8, .inl p1_inHours)), (a_p1_fears, .inl (cI, 8, .inl p1_fears))] s.heap := hP
  have hinX5 : ∀ w ∈ u_ws RX5 TX5 5, w ∈ wsX5_readPerson := by decide +kernel
  have fl_22 := hts (.fieldLink RX5 22 "DoubleChain$Text" "fault" "I") (by decide +kernel)
  clear B
  show W p l e xrm_X5_readPerson s m args below meth c s.heap [] 0 0 Q (F0 m 0 ls [])
  unfold wp_X5_readPerson at hw
  refine lv_aload_n hx hb dX5_readPerson_0 rfl (lv_at hl 0 rfl) ?_
  refine lv_iconst (v := 0) hx hb dX5_readPerson_1 (by decide) ?_
  refine lv_sipush (v := 255) hx hb dX5_readPerson_2 (by decide) ?_
  refine xwVi (q0 := 0) (ci := 5) (wr := [(a_p1, .inr (2, [.ref a_p1_marks, .ref a_p1_inWeathers, .ref a_p1_inHours, .ref a_p1_fears, .ref a_p1_weathers, .ref a_p1_hours, .ref a_p1_dangers, .int p1_pay, .int p1_people, .int p1_days])), (a_p1_marks, .inl (cI, 8, .inl p1_marks)), (a_p1_inWeathers, .inl (cI, 8, .inl p1_inWeathers)), (a_p1_inHours, .inl (cI, 8, .inl p1_inHours)), (a_p1_fears, .inl (cI, 8, .inl p1_fears))]) (As := [.int 0, .int 255]) (rest := []) (wc := [(a_this, .inr (5, [.ref a_letters, .int length, .int place, .int fault, .int faultAt])), (a_letters, .inl (cI, 240, .inl letters))]) (fun (u : Int32 × Int32 × Int32) => [(a_this, .inr (5, [.ref a_letters, .int length, .int u.1, .int u.2.1, .int u.2.2])), (a_letters, .inl (cI, 240, .inl letters)), (a_p1, .inr (2, [.ref a_p1_marks, .ref a_p1_inWeathers, .ref a_p1_inHours, .ref a_p1_fears, .ref a_p1_weathers, .ref a_p1_hours, .ref a_p1_dangers, .int p1_pay, .int p1_people, .int p1_days])), (a_p1_marks, .inl (cI, 8, .inl p1_marks)), (a_p1_inWeathers, .inl (cI, 8, .inl p1_inWeathers)), (a_p1_inHours, .inl (cI, 8, .inl p1_inHours)), (a_p1_fears, .inl (cI, 8, .inl p1_fears))]) ⟨hx, hb, hml, hown, hts⟩ (c_X5_readNumber l D cI cZ cO hw) (cwV 2 hts gX5_readPerson_X5_readNumber rfl rfl rfl (by decide +kernel) ⟨Nat.le_of_ble_eq_true rfl, Nat.le_of_ble_eq_true rfl⟩) hKK hP hD hS hA [0, 1] [2, 3, 4, 5, 6] [5, 6, 0, 1, 2, 3, 4] rfl rfl rfl rfl rfl (by decide) (fun _ => rfl) rfl rfl rfl hl.1 rfl (Nat.le_of_ble_eq_true rfl) dX5_readPerson_5 ⟨Nat.zero_le _, Nat.zero_le _⟩ (fun r_5 u_5 H locs hw hP hD hS => ?_)
  obtain ⟨place_5, fault_5, faultAt_5⟩ := u_5
  try dsimp only at hw
  have hP : va_P D vwCl [(a_this, .inr (5, [.ref a_letters, .int length, .int place_5, .int fault_5, .int faultAt_5])), (a_letters, .inl (cI, 240, .inl letters)), (a_p1, .inr (2, [.ref a_p1_marks, .ref a_p1_inWeathers, .ref a_p1_inHours, .ref a_p1_fears, .ref a_p1_weathers, .ref a_p1_hours, .ref a_p1_dangers, .int p1_pay, .int p1_people, .int p1_days])), (a_p1_marks, .inl (cI, 8, .inl p1_marks)), (a_p1_inWeathers, .inl (cI, 8, .inl p1_inWeathers)), (a_p1_inHours, .inl (cI, 8, .inl p1_inHours)), (a_p1_fears, .inl (cI, 8, .inl p1_fears))] H := hP
  have hD : va_D A [(a_this, .inr (5, [.ref a_letters, .int length, .int place_5, .int fault_5, .int faultAt_5])), (a_letters, .inl (cI, 240, .inl letters)), (a_p1, .inr (2, [.ref a_p1_marks, .ref a_p1_inWeathers, .ref a_p1_inHours, .ref a_p1_fears, .ref a_p1_weathers, .ref a_p1_hours, .ref a_p1_dangers, .int p1_pay, .int p1_people, .int p1_days])), (a_p1_marks, .inl (cI, 8, .inl p1_marks)), (a_p1_inWeathers, .inl (cI, 8, .inl p1_inWeathers)), (a_p1_inHours, .inl (cI, 8, .inl p1_inHours)), (a_p1_fears, .inl (cI, 8, .inl p1_fears))] := hD
  refine lv_istore_n (lv' := [(2, .int r_5), (0, .ref a_this), (1, .ref a_p1)]) hx hb dX5_readPerson_8 rfl hl (by decide) rfl (fun ls hl => ?_)
  refine lv_aload_n hx hb dX5_readPerson_9 rfl (lv_at hl 1 rfl) ?_
  refine lv_iconst (v := 0) hx hb dX5_readPerson_10 (by decide) ?_
  refine lv_bipush (v := 7) hx hb dX5_readPerson_11 (by decide) ?_
  refine xwVi (q0 := 0) (ci := 5) (wr := [(a_p1, .inr (2, [.ref a_p1_marks, .ref a_p1_inWeathers, .ref a_p1_inHours, .ref a_p1_fears, .ref a_p1_weathers, .ref a_p1_hours, .ref a_p1_dangers, .int p1_pay, .int p1_people, .int p1_days])), (a_p1_marks, .inl (cI, 8, .inl p1_marks)), (a_p1_inWeathers, .inl (cI, 8, .inl p1_inWeathers)), (a_p1_inHours, .inl (cI, 8, .inl p1_inHours)), (a_p1_fears, .inl (cI, 8, .inl p1_fears))]) (As := [.int 0, .int 7]) (rest := []) (wc := [(a_this, .inr (5, [.ref a_letters, .int length, .int place_5, .int fault_5, .int faultAt_5])), (a_letters, .inl (cI, 240, .inl letters))]) (fun (u : Int32 × Int32 × Int32) => [(a_this, .inr (5, [.ref a_letters, .int length, .int u.1, .int u.2.1, .int u.2.2])), (a_letters, .inl (cI, 240, .inl letters)), (a_p1, .inr (2, [.ref a_p1_marks, .ref a_p1_inWeathers, .ref a_p1_inHours, .ref a_p1_fears, .ref a_p1_weathers, .ref a_p1_hours, .ref a_p1_dangers, .int p1_pay, .int p1_people, .int p1_days])), (a_p1_marks, .inl (cI, 8, .inl p1_marks)), (a_p1_inWeathers, .inl (cI, 8, .inl p1_inWeathers)), (a_p1_inHours, .inl (cI, 8, .inl p1_inHours)), (a_p1_fears, .inl (cI, 8, .inl p1_fears))]) ⟨hx, hb, hml, hown, hts⟩ (c_X5_readNumber l D cI cZ cO hw) (cwV 2 hts gX5_readPerson_X5_readNumber rfl rfl rfl (by decide +kernel) ⟨Nat.le_of_ble_eq_true rfl, Nat.le_of_ble_eq_true rfl⟩) hKK hP hD hS hA [0, 1] [2, 3, 4, 5, 6] [5, 6, 0, 1, 2, 3, 4] rfl rfl rfl rfl rfl (by decide) (fun _ => rfl) rfl rfl rfl hl.1 rfl (Nat.le_of_ble_eq_true rfl) dX5_readPerson_13 ⟨Nat.zero_le _, Nat.zero_le _⟩ (fun r_13 u_13 H locs hw hP hD hS => ?_)
  obtain ⟨place_13, fault_13, faultAt_13⟩ := u_13
  try dsimp only at hw
  have hP : va_P D vwCl [(a_this, .inr (5, [.ref a_letters, .int length, .int place_13, .int fault_13, .int faultAt_13])), (a_letters, .inl (cI, 240, .inl letters)), (a_p1, .inr (2, [.ref a_p1_marks, .ref a_p1_inWeathers, .ref a_p1_inHours, .ref a_p1_fears, .ref a_p1_weathers, .ref a_p1_hours, .ref a_p1_dangers, .int p1_pay, .int p1_people, .int p1_days])), (a_p1_marks, .inl (cI, 8, .inl p1_marks)), (a_p1_inWeathers, .inl (cI, 8, .inl p1_inWeathers)), (a_p1_inHours, .inl (cI, 8, .inl p1_inHours)), (a_p1_fears, .inl (cI, 8, .inl p1_fears))] H := hP
  have hD : va_D A [(a_this, .inr (5, [.ref a_letters, .int length, .int place_13, .int fault_13, .int faultAt_13])), (a_letters, .inl (cI, 240, .inl letters)), (a_p1, .inr (2, [.ref a_p1_marks, .ref a_p1_inWeathers, .ref a_p1_inHours, .ref a_p1_fears, .ref a_p1_weathers, .ref a_p1_hours, .ref a_p1_dangers, .int p1_pay, .int p1_people, .int p1_days])), (a_p1_marks, .inl (cI, 8, .inl p1_marks)), (a_p1_inWeathers, .inl (cI, 8, .inl p1_inWeathers)), (a_p1_inHours, .inl (cI, 8, .inl p1_inHours)), (a_p1_fears, .inl (cI, 8, .inl p1_fears))] := hD
  refine lv_istore_n (lv' := [(3, .int r_13), (2, .int r_5), (0, .ref a_this), (1, .ref a_p1)]) hx hb dX5_readPerson_16 rfl hl (by decide) rfl (fun ls hl => ?_)
  refine lv_aload_n hx hb dX5_readPerson_17 rfl (lv_at hl 2 rfl) ?_
  refine lv_iconst (v := 0) hx hb dX5_readPerson_18 (by decide) ?_
  refine lv_bipush (v := 15) hx hb dX5_readPerson_19 (by decide) ?_
  refine xwVi (q0 := 0) (ci := 5) (wr := [(a_p1, .inr (2, [.ref a_p1_marks, .ref a_p1_inWeathers, .ref a_p1_inHours, .ref a_p1_fears, .ref a_p1_weathers, .ref a_p1_hours, .ref a_p1_dangers, .int p1_pay, .int p1_people, .int p1_days])), (a_p1_marks, .inl (cI, 8, .inl p1_marks)), (a_p1_inWeathers, .inl (cI, 8, .inl p1_inWeathers)), (a_p1_inHours, .inl (cI, 8, .inl p1_inHours)), (a_p1_fears, .inl (cI, 8, .inl p1_fears))]) (As := [.int 0, .int 15]) (rest := []) (wc := [(a_this, .inr (5, [.ref a_letters, .int length, .int place_13, .int fault_13, .int faultAt_13])), (a_letters, .inl (cI, 240, .inl letters))]) (fun (u : Int32 × Int32 × Int32) => [(a_this, .inr (5, [.ref a_letters, .int length, .int u.1, .int u.2.1, .int u.2.2])), (a_letters, .inl (cI, 240, .inl letters)), (a_p1, .inr (2, [.ref a_p1_marks, .ref a_p1_inWeathers, .ref a_p1_inHours, .ref a_p1_fears, .ref a_p1_weathers, .ref a_p1_hours, .ref a_p1_dangers, .int p1_pay, .int p1_people, .int p1_days])), (a_p1_marks, .inl (cI, 8, .inl p1_marks)), (a_p1_inWeathers, .inl (cI, 8, .inl p1_inWeathers)), (a_p1_inHours, .inl (cI, 8, .inl p1_inHours)), (a_p1_fears, .inl (cI, 8, .inl p1_fears))]) ⟨hx, hb, hml, hown, hts⟩ (c_X5_readNumber l D cI cZ cO hw) (cwV 2 hts gX5_readPerson_X5_readNumber rfl rfl rfl (by decide +kernel) ⟨Nat.le_of_ble_eq_true rfl, Nat.le_of_ble_eq_true rfl⟩) hKK hP hD hS hA [0, 1] [2, 3, 4, 5, 6] [5, 6, 0, 1, 2, 3, 4] rfl rfl rfl rfl rfl (by decide) (fun _ => rfl) rfl rfl rfl hl.1 rfl (Nat.le_of_ble_eq_true rfl) dX5_readPerson_21 ⟨Nat.zero_le _, Nat.zero_le _⟩ (fun r_21 u_21 H locs hw hP hD hS => ?_)
  obtain ⟨place_21, fault_21, faultAt_21⟩ := u_21
  try dsimp only at hw
  have hP : va_P D vwCl [(a_this, .inr (5, [.ref a_letters, .int length, .int place_21, .int fault_21, .int faultAt_21])), (a_letters, .inl (cI, 240, .inl letters)), (a_p1, .inr (2, [.ref a_p1_marks, .ref a_p1_inWeathers, .ref a_p1_inHours, .ref a_p1_fears, .ref a_p1_weathers, .ref a_p1_hours, .ref a_p1_dangers, .int p1_pay, .int p1_people, .int p1_days])), (a_p1_marks, .inl (cI, 8, .inl p1_marks)), (a_p1_inWeathers, .inl (cI, 8, .inl p1_inWeathers)), (a_p1_inHours, .inl (cI, 8, .inl p1_inHours)), (a_p1_fears, .inl (cI, 8, .inl p1_fears))] H := hP
  have hD : va_D A [(a_this, .inr (5, [.ref a_letters, .int length, .int place_21, .int fault_21, .int faultAt_21])), (a_letters, .inl (cI, 240, .inl letters)), (a_p1, .inr (2, [.ref a_p1_marks, .ref a_p1_inWeathers, .ref a_p1_inHours, .ref a_p1_fears, .ref a_p1_weathers, .ref a_p1_hours, .ref a_p1_dangers, .int p1_pay, .int p1_people, .int p1_days])), (a_p1_marks, .inl (cI, 8, .inl p1_marks)), (a_p1_inWeathers, .inl (cI, 8, .inl p1_inWeathers)), (a_p1_inHours, .inl (cI, 8, .inl p1_inHours)), (a_p1_fears, .inl (cI, 8, .inl p1_fears))] := hD
  refine lv_istore (lv' := [(4, .int r_21), (3, .int r_13), (2, .int r_5), (0, .ref a_this), (1, .ref a_p1)]) hx hb dX5_readPerson_24 hl (by decide) rfl (fun ls hl => ?_)
  refine lv_aload_n hx hb dX5_readPerson_26 rfl (lv_at hl 3 rfl) ?_
  refine lv_iconst (v := 0) hx hb dX5_readPerson_27 (by decide) ?_
  refine lv_bipush (v := 9) hx hb dX5_readPerson_28 (by decide) ?_
  refine xwVi (q0 := 0) (ci := 5) (wr := [(a_p1, .inr (2, [.ref a_p1_marks, .ref a_p1_inWeathers, .ref a_p1_inHours, .ref a_p1_fears, .ref a_p1_weathers, .ref a_p1_hours, .ref a_p1_dangers, .int p1_pay, .int p1_people, .int p1_days])), (a_p1_marks, .inl (cI, 8, .inl p1_marks)), (a_p1_inWeathers, .inl (cI, 8, .inl p1_inWeathers)), (a_p1_inHours, .inl (cI, 8, .inl p1_inHours)), (a_p1_fears, .inl (cI, 8, .inl p1_fears))]) (As := [.int 0, .int 9]) (rest := []) (wc := [(a_this, .inr (5, [.ref a_letters, .int length, .int place_21, .int fault_21, .int faultAt_21])), (a_letters, .inl (cI, 240, .inl letters))]) (fun (u : Int32 × Int32 × Int32) => [(a_this, .inr (5, [.ref a_letters, .int length, .int u.1, .int u.2.1, .int u.2.2])), (a_letters, .inl (cI, 240, .inl letters)), (a_p1, .inr (2, [.ref a_p1_marks, .ref a_p1_inWeathers, .ref a_p1_inHours, .ref a_p1_fears, .ref a_p1_weathers, .ref a_p1_hours, .ref a_p1_dangers, .int p1_pay, .int p1_people, .int p1_days])), (a_p1_marks, .inl (cI, 8, .inl p1_marks)), (a_p1_inWeathers, .inl (cI, 8, .inl p1_inWeathers)), (a_p1_inHours, .inl (cI, 8, .inl p1_inHours)), (a_p1_fears, .inl (cI, 8, .inl p1_fears))]) ⟨hx, hb, hml, hown, hts⟩ (c_X5_readNumber l D cI cZ cO hw) (cwV 2 hts gX5_readPerson_X5_readNumber rfl rfl rfl (by decide +kernel) ⟨Nat.le_of_ble_eq_true rfl, Nat.le_of_ble_eq_true rfl⟩) hKK hP hD hS hA [0, 1] [2, 3, 4, 5, 6] [5, 6, 0, 1, 2, 3, 4] rfl rfl rfl rfl rfl (by decide) (fun _ => rfl) rfl rfl rfl hl.1 rfl (Nat.le_of_ble_eq_true rfl) dX5_readPerson_30 ⟨Nat.zero_le _, Nat.zero_le _⟩ (fun r_30 u_30 H locs hw hP hD hS => ?_)
  obtain ⟨place_30, fault_30, faultAt_30⟩ := u_30
  try dsimp only at hw
  have hP : va_P D vwCl [(a_this, .inr (5, [.ref a_letters, .int length, .int place_30, .int fault_30, .int faultAt_30])), (a_letters, .inl (cI, 240, .inl letters)), (a_p1, .inr (2, [.ref a_p1_marks, .ref a_p1_inWeathers, .ref a_p1_inHours, .ref a_p1_fears, .ref a_p1_weathers, .ref a_p1_hours, .ref a_p1_dangers, .int p1_pay, .int p1_people, .int p1_days])), (a_p1_marks, .inl (cI, 8, .inl p1_marks)), (a_p1_inWeathers, .inl (cI, 8, .inl p1_inWeathers)), (a_p1_inHours, .inl (cI, 8, .inl p1_inHours)), (a_p1_fears, .inl (cI, 8, .inl p1_fears))] H := hP
  have hD : va_D A [(a_this, .inr (5, [.ref a_letters, .int length, .int place_30, .int fault_30, .int faultAt_30])), (a_letters, .inl (cI, 240, .inl letters)), (a_p1, .inr (2, [.ref a_p1_marks, .ref a_p1_inWeathers, .ref a_p1_inHours, .ref a_p1_fears, .ref a_p1_weathers, .ref a_p1_hours, .ref a_p1_dangers, .int p1_pay, .int p1_people, .int p1_days])), (a_p1_marks, .inl (cI, 8, .inl p1_marks)), (a_p1_inWeathers, .inl (cI, 8, .inl p1_inWeathers)), (a_p1_inHours, .inl (cI, 8, .inl p1_inHours)), (a_p1_fears, .inl (cI, 8, .inl p1_fears))] := hD
  refine lv_istore (lv' := [(5, .int r_30), (4, .int r_21), (3, .int r_13), (2, .int r_5), (0, .ref a_this), (1, .ref a_p1)]) hx hb dX5_readPerson_33 hl (by decide) rfl (fun ls hl => ?_)
  refine lv_aload_n hx hb dX5_readPerson_35 rfl (lv_at hl 4 rfl) ?_
  refine xwVv (q0 := 0) (ci := 5) (wr := [(a_p1, .inr (2, [.ref a_p1_marks, .ref a_p1_inWeathers, .ref a_p1_inHours, .ref a_p1_fears, .ref a_p1_weathers, .ref a_p1_hours, .ref a_p1_dangers, .int p1_pay, .int p1_people, .int p1_days])), (a_p1_marks, .inl (cI, 8, .inl p1_marks)), (a_p1_inWeathers, .inl (cI, 8, .inl p1_inWeathers)), (a_p1_inHours, .inl (cI, 8, .inl p1_inHours)), (a_p1_fears, .inl (cI, 8, .inl p1_fears))]) (As := []) (rest := []) (wc := [(a_this, .inr (5, [.ref a_letters, .int length, .int place_30, .int fault_30, .int faultAt_30])), (a_letters, .inl (cI, 240, .inl letters))]) (fun (u : Int32 × Int32 × Int32) => [(a_this, .inr (5, [.ref a_letters, .int length, .int u.1, .int u.2.1, .int u.2.2])), (a_letters, .inl (cI, 240, .inl letters)), (a_p1, .inr (2, [.ref a_p1_marks, .ref a_p1_inWeathers, .ref a_p1_inHours, .ref a_p1_fears, .ref a_p1_weathers, .ref a_p1_hours, .ref a_p1_dangers, .int p1_pay, .int p1_people, .int p1_days])), (a_p1_marks, .inl (cI, 8, .inl p1_marks)), (a_p1_inWeathers, .inl (cI, 8, .inl p1_inWeathers)), (a_p1_inHours, .inl (cI, 8, .inl p1_inHours)), (a_p1_fears, .inl (cI, 8, .inl p1_fears))]) ⟨hx, hb, hml, hown, hts⟩ (c_X5_readEnd l D cI cZ cO hw) (cwV 0 hts gX5_readPerson_X5_readEnd rfl rfl rfl (by decide +kernel) ⟨Nat.le_of_ble_eq_true rfl, Nat.le_of_ble_eq_true rfl⟩) hKK hP hD hS hA [0, 1] [2, 3, 4, 5, 6] [5, 6, 0, 1, 2, 3, 4] rfl rfl rfl rfl rfl (by decide) (fun _ => rfl) rfl rfl rfl hl.1 rfl (Nat.le_of_ble_eq_true rfl) dX5_readPerson_36 ⟨Nat.zero_le _, Nat.zero_le _⟩ (fun u_36 H locs hw hP hD hS => ?_)
  obtain ⟨place_36, fault_36, faultAt_36⟩ := u_36
  try dsimp only at hw
  have hP : va_P D vwCl [(a_this, .inr (5, [.ref a_letters, .int length, .int place_36, .int fault_36, .int faultAt_36])), (a_letters, .inl (cI, 240, .inl letters)), (a_p1, .inr (2, [.ref a_p1_marks, .ref a_p1_inWeathers, .ref a_p1_inHours, .ref a_p1_fears, .ref a_p1_weathers, .ref a_p1_hours, .ref a_p1_dangers, .int p1_pay, .int p1_people, .int p1_days])), (a_p1_marks, .inl (cI, 8, .inl p1_marks)), (a_p1_inWeathers, .inl (cI, 8, .inl p1_inWeathers)), (a_p1_inHours, .inl (cI, 8, .inl p1_inHours)), (a_p1_fears, .inl (cI, 8, .inl p1_fears))] H := hP
  have hD : va_D A [(a_this, .inr (5, [.ref a_letters, .int length, .int place_36, .int fault_36, .int faultAt_36])), (a_letters, .inl (cI, 240, .inl letters)), (a_p1, .inr (2, [.ref a_p1_marks, .ref a_p1_inWeathers, .ref a_p1_inHours, .ref a_p1_fears, .ref a_p1_weathers, .ref a_p1_hours, .ref a_p1_dangers, .int p1_pay, .int p1_people, .int p1_days])), (a_p1_marks, .inl (cI, 8, .inl p1_marks)), (a_p1_inWeathers, .inl (cI, 8, .inl p1_inWeathers)), (a_p1_inHours, .inl (cI, 8, .inl p1_inHours)), (a_p1_fears, .inl (cI, 8, .inl p1_fears))] := hD
  refine lv_aload_n hx hb dX5_readPerson_39 rfl (lv_at hl 4 rfl) ?_
  refine va_get (D := D) (ci := 5) (v := .int fault_36) (C := RX5) (T := TX5) (N := 5) hx hb hts hinX5 hown hKK.1 hP 0 rfl rfl 3 (by decide) fl_22 (fun _ h9 => h9) rfl dX5_readPerson_40 ?_
  refine lv_if_ne (tgt := 56) hx hb dX5_readPerson_43 (by decide) (fun c_43 => ?_) (fun c_43 => ?_)
  · have hw := hw.2 c_43
    rw [hQ]
    exact W.vret hx hb hr (fun t ht _ => ⟨⟨⟨place_36, fault_36, faultAt_36, p1_marks, p1_inWeathers, p1_inHours, p1_fears, p1_people⟩, rfl, hw, by rw [ht]; exact hP, hD⟩, hS.F ht⟩) hS.2.2 dX5_readPerson_56
  · have hw := hw.1 c_43
    refine lv_aload_n hx hb dX5_readPerson_46 rfl (lv_at hl 5 rfl) ?_
    refine lv_iload_n hx hb dX5_readPerson_47 rfl (lv_at hl 3 rfl) ?_
    refine lv_iload_n hx hb dX5_readPerson_48 rfl (lv_at hl 2 rfl) ?_
    refine lv_iload hx hb dX5_readPerson_49 (lv_at hl 1 rfl) ?_
    refine lv_iload hx hb dX5_readPerson_51 (lv_at hl 0 rfl) ?_
    refine xwVv (q0 := 2) (ci := 2) (wr := [(a_this, .inr (5, [.ref a_letters, .int length, .int place_36, .int fault_36, .int faultAt_36])), (a_letters, .inl (cI, 240, .inl letters))]) (As := [.int r_5, .int r_13, .int r_21, .int r_30]) (rest := []) (wc := [(a_p1, .inr (2, [.ref a_p1_marks, .ref a_p1_inWeathers, .ref a_p1_inHours, .ref a_p1_fears, .ref a_p1_weathers, .ref a_p1_hours, .ref a_p1_dangers, .int p1_pay, .int p1_people, .int p1_days])), (a_p1_marks, .inl (cI, 8, .inl p1_marks)), (a_p1_inWeathers, .inl (cI, 8, .inl p1_inWeathers)), (a_p1_inHours, .inl (cI, 8, .inl p1_inHours)), (a_p1_fears, .inl (cI, 8, .inl p1_fears))]) (fun (u : (Nat → Int32) × (Nat → Int32) × (Nat → Int32) × (Nat → Int32) × Int32) => [(a_this, .inr (5, [.ref a_letters, .int length, .int place_36, .int fault_36, .int faultAt_36])), (a_letters, .inl (cI, 240, .inl letters)), (a_p1, .inr (2, [.ref a_p1_marks, .ref a_p1_inWeathers, .ref a_p1_inHours, .ref a_p1_fears, .ref a_p1_weathers, .ref a_p1_hours, .ref a_p1_dangers, .int p1_pay, .int u.2.2.2.2, .int p1_days])), (a_p1_marks, .inl (cI, 8, .inl u.1)), (a_p1_inWeathers, .inl (cI, 8, .inl u.2.1)), (a_p1_inHours, .inl (cI, 8, .inl u.2.2.1)), (a_p1_fears, .inl (cI, 8, .inl u.2.2.2.1))]) ⟨hx, hb, hml, hown, hts⟩ (c_X2_addPerson l D cI cZ cO hw) (cwV 4 hts gX5_readPerson_X2_addPerson rfl rfl rfl (by decide +kernel) ⟨Nat.le_of_ble_eq_true rfl, Nat.le_of_ble_eq_true rfl⟩) hKK hP hD hS hA [2, 3, 4, 5, 6] [0, 1] [0, 1, 2, 3, 4, 5, 6] rfl rfl rfl rfl rfl (by decide) (fun _ => rfl) rfl rfl rfl hl.1 rfl (Nat.le_of_ble_eq_true rfl) dX5_readPerson_53 ⟨Nat.zero_le _, Nat.zero_le _⟩ (fun u_53 H locs hw hP hD hS => ?_)
    obtain ⟨p1_marks_53, p1_inWeathers_53, p1_inHours_53, p1_fears_53, p1_people_53⟩ := u_53
    try dsimp only at hw
    have hP : va_P D vwCl [(a_this, .inr (5, [.ref a_letters, .int length, .int place_36, .int fault_36, .int faultAt_36])), (a_letters, .inl (cI, 240, .inl letters)), (a_p1, .inr (2, [.ref a_p1_marks, .ref a_p1_inWeathers, .ref a_p1_inHours, .ref a_p1_fears, .ref a_p1_weathers, .ref a_p1_hours, .ref a_p1_dangers, .int p1_pay, .int p1_people_53, .int p1_days])), (a_p1_marks, .inl (cI, 8, .inl p1_marks_53)), (a_p1_inWeathers, .inl (cI, 8, .inl p1_inWeathers_53)), (a_p1_inHours, .inl (cI, 8, .inl p1_inHours_53)), (a_p1_fears, .inl (cI, 8, .inl p1_fears_53))] H := hP
    have hD : va_D A [(a_this, .inr (5, [.ref a_letters, .int length, .int place_36, .int fault_36, .int faultAt_36])), (a_letters, .inl (cI, 240, .inl letters)), (a_p1, .inr (2, [.ref a_p1_marks, .ref a_p1_inWeathers, .ref a_p1_inHours, .ref a_p1_fears, .ref a_p1_weathers, .ref a_p1_hours, .ref a_p1_dangers, .int p1_pay, .int p1_people_53, .int p1_days])), (a_p1_marks, .inl (cI, 8, .inl p1_marks_53)), (a_p1_inWeathers, .inl (cI, 8, .inl p1_inWeathers_53)), (a_p1_inHours, .inl (cI, 8, .inl p1_inHours_53)), (a_p1_fears, .inl (cI, 8, .inl p1_fears_53))] := hD
    rw [hQ]
    exact W.vret hx hb hr (fun t ht _ => ⟨⟨⟨place_36, fault_36, faultAt_36, p1_marks_53, p1_inWeathers_53, p1_inHours_53, p1_fears_53, p1_people_53⟩, rfl, hw, by rw [ht]; exact hP, hD⟩, hS.F ht⟩) hS.2.2 dX5_readPerson_56
def wp_X5_readDay (length : Int32) (place : Int32) (fault : Int32) (faultAt : Int32) (letters : Nat → Int32) (p1_days : Int32) (p1_weathers : Nat → Int32) (p1_hours : Nat → Int32) (p1_dangers : Nat → Int32) (Φ : Int32 → Int32 → Int32 → (Nat → Int32) → (Nat → Int32) → (Nat → Int32) → Int32 → Prop) : Prop :=
  (wp_X5_readNumber length place fault faultAt letters 0 2 (fun r_3 place_3 fault_3 faultAt_3 => (wp_X5_readNumber length place_3 fault_3 faultAt_3 letters 0 3 (fun r_10 place_10 fault_10 faultAt_10 => (wp_X5_readNumber length place_10 fault_10 faultAt_10 letters 0 9 (fun r_18 place_18 fault_18 faultAt_18 => (wp_X5_readEnd length place_18 fault_18 faultAt_18 letters (fun place_24 fault_24 faultAt_24 => ((fault_24 = 0 → (wp_X2_addDay p1_days p1_weathers p1_hours p1_dangers r_3 r_10 r_18 (fun p1_weathers_39 p1_hours_39 p1_dangers_39 p1_days_39 => (Φ place_24 fault_24 faultAt_24 p1_weathers_39 p1_hours_39 p1_dangers_39 p1_days_39)))) ∧ (¬ fault_24 = 0 → (Φ place_24 fault_24 faultAt_24 p1_weathers p1_hours p1_dangers p1_days)))))))))))
abbrev xrm_X5_readDay : Room := { frames := 3, cells := 0, slots := 0, locals := 65 }
set_option maxRecDepth 100000 in
set_option maxHeartbeats 4000000 in
theorem c_X5_readDay (l : Launch) (D : va_G) (cI cZ cO : ClassId) {a_letters : Nat} {length : Int32} {place : Int32} {fault : Int32} {faultAt : Int32} {a_this : Nat} {letters : Nat → Int32} {a_p1_marks : Nat} {a_p1_inWeathers : Nat} {a_p1_inHours : Nat} {a_p1_fears : Nat} {a_p1_weathers : Nat} {a_p1_hours : Nat} {a_p1_dangers : Nat} {p1_pay : Int32} {p1_people : Int32} {p1_days : Int32} {a_p1 : Nat} {p1_weathers : Nat → Int32} {p1_hours : Nat → Int32} {p1_dangers : Nat → Int32} {Φ : Int32 → Int32 → Int32 → (Nat → Int32) → (Nat → Int32) → (Nat → Int32) → Int32 → Prop} {sz : Nat} (hw : (wp_X5_readDay length place fault faultAt letters p1_days p1_weathers p1_hours p1_dangers Φ)) : Met l yX5_readDay wsX5_readDay xrm_X5_readDay (xPW D cI cZ cO [.ref a_this, .ref a_p1] sz [(a_this, .inr (5, [.ref a_letters, .int length, .int place, .int fault, .int faultAt])), (a_letters, .inl (cI, 240, .inl letters)), (a_p1, .inr (2, [.ref a_p1_marks, .ref a_p1_inWeathers, .ref a_p1_inHours, .ref a_p1_fears, .ref a_p1_weathers, .ref a_p1_hours, .ref a_p1_dangers, .int p1_pay, .int p1_people, .int p1_days])), (a_p1_weathers, .inl (cI, 10, .inl p1_weathers)), (a_p1_hours, .inl (cI, 10, .inl p1_hours)), (a_p1_dangers, .inl (cI, 10, .inl p1_dangers))]) (va_Qv (fun (u : Int32 × Int32 × Int32 × (Nat → Int32) × (Nat → Int32) × (Nat → Int32) × Int32) => Φ u.1 u.2.1 u.2.2.1 u.2.2.2.1 u.2.2.2.2.1 u.2.2.2.2.2.1 u.2.2.2.2.2.2) (xB D (va_A [(a_this, .inr (5, [.ref a_letters, .int length, .int place, .int fault, .int faultAt])), (a_letters, .inl (cI, 240, .inl letters)), (a_p1, .inr (2, [.ref a_p1_marks, .ref a_p1_inWeathers, .ref a_p1_inHours, .ref a_p1_fears, .ref a_p1_weathers, .ref a_p1_hours, .ref a_p1_dangers, .int p1_pay, .int p1_people, .int p1_days])), (a_p1_weathers, .inl (cI, 10, .inl p1_weathers)), (a_p1_hours, .inl (cI, 10, .inl p1_hours)), (a_p1_dangers, .inl (cI, 10, .inl p1_dangers))] sz) (fun (u : Int32 × Int32 × Int32 × (Nat → Int32) × (Nat → Int32) × (Nat → Int32) × Int32) => [(a_this, .inr (5, [.ref a_letters, .int length, .int u.1, .int u.2.1, .int u.2.2.1])), (a_letters, .inl (cI, 240, .inl letters)), (a_p1, .inr (2, [.ref a_p1_marks, .ref a_p1_inWeathers, .ref a_p1_inHours, .ref a_p1_fears, .ref a_p1_weathers, .ref a_p1_hours, .ref a_p1_dangers, .int p1_pay, .int p1_people, .int u.2.2.2.2.2.2])), (a_p1_weathers, .inl (cI, 10, .inl u.2.2.2.1)), (a_p1_hours, .inl (cI, 10, .inl u.2.2.2.2.1)), (a_p1_dangers, .inl (cI, 10, .inl u.2.2.2.2.2.1))])) (va_A [(a_this, .inr (5, [.ref a_letters, .int length, .int place, .int fault, .int faultAt])), (a_letters, .inl (cI, 240, .inl letters)), (a_p1, .inr (2, [.ref a_p1_marks, .ref a_p1_inWeathers, .ref a_p1_inHours, .ref a_p1_fears, .ref a_p1_weathers, .ref a_p1_hours, .ref a_p1_dangers, .int p1_pay, .int p1_people, .int p1_days])), (a_p1_weathers, .inl (cI, 10, .inl p1_weathers)), (a_p1_hours, .inl (cI, 10, .inl p1_hours)), (a_p1_dangers, .inl (cI, 10, .inl p1_dangers))] sz)) 0 0 (va_A [(a_this, .inr (5, [.ref a_letters, .int length, .int place, .int fault, .int faultAt])), (a_letters, .inl (cI, 240, .inl letters)), (a_p1, .inr (2, [.ref a_p1_marks, .ref a_p1_inWeathers, .ref a_p1_inHours, .ref a_p1_fears, .ref a_p1_weathers, .ref a_p1_hours, .ref a_p1_dangers, .int p1_pay, .int p1_people, .int p1_days])), (a_p1_weathers, .inl (cI, 10, .inl p1_weathers)), (a_p1_hours, .inl (cI, 10, .inl p1_hours)), (a_p1_dangers, .inl (cI, 10, .inl p1_dangers))] sz) := by
  refine Met.ofW (cc := cX5_readDay) (maxL := 5) (ret := none) (by decide) rfl ?_
  intro p e s m args below meth c s₁ B hml hv
  obtain ⟨rfl, hsz, hP, hKK, hD0⟩ := hv
  have hx := B.exec
  have hb := B.bytes
  have hr := B.returns
  have hts := atoms_spec (ws := wsX5_readDay) B.pre
  have hown : s.vm.findClass RX5 = some m.cls := findClass_of_methodNamed B.named
  have hlocks := B.notSynchronized
  subst hsz
  have hD := hD0.self (sz := s.heap.size)
  obtain ⟨Q, hQ⟩ : ∃ Q, Q = MQ below (va_Qv (fun (u : Int32 × Int32 × Int32 × (Nat → Int32) × (Nat → Int32) × (Nat → Int32) × Int32) => Φ u.1 u.2.1 u.2.2.1 u.2.2.2.1 u.2.2.2.2.1 u.2.2.2.2.2.1 u.2.2.2.2.2.2) (xB D (va_A [(a_this, .inr (5, [.ref a_letters, .int length, .int place, .int fault, .int faultAt])), (a_letters, .inl (cI, 240, .inl letters)), (a_p1, .inr (2, [.ref a_p1_marks, .ref a_p1_inWeathers, .ref a_p1_inHours, .ref a_p1_fears, .ref a_p1_weathers, .ref a_p1_hours, .ref a_p1_dangers, .int p1_pay, .int p1_people, .int p1_days])), (a_p1_weathers, .inl (cI, 10, .inl p1_weathers)), (a_p1_hours, .inl (cI, 10, .inl p1_hours)), (a_p1_dangers, .inl (cI, 10, .inl p1_dangers))] s.heap.size) (fun (u : Int32 × Int32 × Int32 × (Nat → Int32) × (Nat → Int32) × (Nat → Int32) × Int32) => [(a_this, .inr (5, [.ref a_letters, .int length, .int u.1, .int u.2.1, .int u.2.2.1])), (a_letters, .inl (cI, 240, .inl letters)), (a_p1, .inr (2, [.ref a_p1_marks, .ref a_p1_inWeathers, .ref a_p1_inHours, .ref a_p1_fears, .ref a_p1_weathers, .ref a_p1_hours, .ref a_p1_dangers, .int p1_pay, .int p1_people, .int u.2.2.2.2.2.2])), (a_p1_weathers, .inl (cI, 10, .inl u.2.2.2.1)), (a_p1_hours, .inl (cI, 10, .inl u.2.2.2.2.1)), (a_p1_dangers, .inl (cI, 10, .inl u.2.2.2.2.2.1))])) (va_A [(a_this, .inr (5, [.ref a_letters, .int length, .int place, .int fault, .int faultAt])), (a_letters, .inl (cI, 240, .inl letters)), (a_p1, .inr (2, [.ref a_p1_marks, .ref a_p1_inWeathers, .ref a_p1_inHours, .ref a_p1_fears, .ref a_p1_weathers, .ref a_p1_hours, .ref a_p1_dangers, .int p1_pay, .int p1_people, .int p1_days])), (a_p1_weathers, .inl (cI, 10, .inl p1_weathers)), (a_p1_hours, .inl (cI, 10, .inl p1_hours)), (a_p1_dangers, .inl (cI, 10, .inl p1_dangers))] s.heap.size)) ([.ref a_this, .ref a_p1] : List Value).toArray s 0 0 (va_A [(a_this, .inr (5, [.ref a_letters, .int length, .int place, .int fault, .int faultAt])), (a_letters, .inl (cI, 240, .inl letters)), (a_p1, .inr (2, [.ref a_p1_marks, .ref a_p1_inWeathers, .ref a_p1_inHours, .ref a_p1_fears, .ref a_p1_weathers, .ref a_p1_hours, .ref a_p1_dangers, .int p1_pay, .int p1_people, .int p1_days])), (a_p1_weathers, .inl (cI, 10, .inl p1_weathers)), (a_p1_hours, .inl (cI, 10, .inl p1_hours)), (a_p1_dangers, .inl (cI, 10, .inl p1_dangers))] s.heap.size) := ⟨_, rfl⟩
  rw [← hQ]
  generalize hAe : va_A [(a_this, .inr (5, [.ref a_letters, .int length, .int place, .int fault, .int faultAt])), (a_letters, .inl (cI, 240, .inl letters)), (a_p1, .inr (2, [.ref a_p1_marks, .ref a_p1_inWeathers, .ref a_p1_inHours, .ref a_p1_fears, .ref a_p1_weathers, .ref a_p1_hours, .ref a_p1_dangers, .int p1_pay, .int p1_people, .int p1_days])), (a_p1_weathers, .inl (cI, 10, .inl p1_weathers)), (a_p1_hours, .inl (cI, 10, .inl p1_hours)), (a_p1_dangers, .inl (cI, 10, .inl p1_dangers))] s.heap.size = A at hD hQ
  have hA : ∀ q : Nat, s.heap.size ≤ q → A q := fun q h => by rw [← hAe]; exact Or.inr h
  have hS : va_S A s.heap s.heap [] := va_S.rf
  have hl := lv_entry ([.ref a_this, .ref a_p1]) (n := 5) (Nat.le_of_ble_eq_true rfl)
  rw [lg_entry_eq]
  generalize (lg_sl ([.ref a_this, .ref a_p1]) ++ List.replicate (5 - (lg_sl ([.ref a_this, .ref a_p1])).length) Slot.unset).toArray = ls at hl ⊢
  have hl : lv_has ls 5 [(0, .ref a_this), (1, .ref a_p1)] := hl
  generalize ([.ref a_this, .ref a_p1] : List Value).toArray = args at hts hQ ⊢
  have hP : va_P D vwCl [(a_this, .inr (5, [.ref a_letters, .int length, .int place, .int fault, .int faultAt])), (a_letters, .inl (cI, 240, .inl letters)), (a_p1, .inr (2, [.ref a_p1_marks, .ref a_p1_inWeathers, .ref a_p1_inHours, .ref a_p1_fears, .ref a_p1_weathers, .ref a_p1_hours, .ref a_p1_dangers, .int p1_pay, .int p1_people, .int p1_days])), (a_p1_weathers, .inl (cI, 10, .inl p1_weathers)), (a_p1_hours, .inl (cI, 10, .inl p1_hours)), (a_p1_dangers, .inl (cI, 10, .inl p1_dangers))] s.heap := hP
  have hinX5 : ∀ w ∈ u_ws RX5 TX5 5, w ∈ wsX5_readDay := by decide +kernel
  have fl_22 := hts (.fieldLink RX5 22 "DoubleChain$Text" "fault" "I") (by decide +kernel)
  clear B
  show W p l e xrm_X5_readDay s m args below meth c s.heap [] 0 0 Q (F0 m 0 ls [])
  unfold wp_X5_readDay at hw
  refine lv_aload_n hx hb dX5_readDay_0 rfl (lv_at hl 0 rfl) ?_
  refine lv_iconst (v := 0) hx hb dX5_readDay_1 (by decide) ?_
  refine lv_iconst (v := 2) hx hb dX5_readDay_2 (by decide) ?_
  refine xwVi (q0 := 0) (ci := 5) (wr := [(a_p1, .inr (2, [.ref a_p1_marks, .ref a_p1_inWeathers, .ref a_p1_inHours, .ref a_p1_fears, .ref a_p1_weathers, .ref a_p1_hours, .ref a_p1_dangers, .int p1_pay, .int p1_people, .int p1_days])), (a_p1_weathers, .inl (cI, 10, .inl p1_weathers)), (a_p1_hours, .inl (cI, 10, .inl p1_hours)), (a_p1_dangers, .inl (cI, 10, .inl p1_dangers))]) (As := [.int 0, .int 2]) (rest := []) (wc := [(a_this, .inr (5, [.ref a_letters, .int length, .int place, .int fault, .int faultAt])), (a_letters, .inl (cI, 240, .inl letters))]) (fun (u : Int32 × Int32 × Int32) => [(a_this, .inr (5, [.ref a_letters, .int length, .int u.1, .int u.2.1, .int u.2.2])), (a_letters, .inl (cI, 240, .inl letters)), (a_p1, .inr (2, [.ref a_p1_marks, .ref a_p1_inWeathers, .ref a_p1_inHours, .ref a_p1_fears, .ref a_p1_weathers, .ref a_p1_hours, .ref a_p1_dangers, .int p1_pay, .int p1_people, .int p1_days])), (a_p1_weathers, .inl (cI, 10, .inl p1_weathers)), (a_p1_hours, .inl (cI, 10, .inl p1_hours)), (a_p1_dangers, .inl (cI, 10, .inl p1_dangers))]) ⟨hx, hb, hml, hown, hts⟩ (c_X5_readNumber l D cI cZ cO hw) (cwV 2 hts gX5_readDay_X5_readNumber rfl rfl rfl (by decide +kernel) ⟨Nat.le_of_ble_eq_true rfl, Nat.le_of_ble_eq_true rfl⟩) hKK hP hD hS hA [0, 1] [2, 3, 4, 5] [4, 5, 0, 1, 2, 3] rfl rfl rfl rfl rfl (by decide) (fun _ => rfl) rfl rfl rfl hl.1 rfl (Nat.le_of_ble_eq_true rfl) dX5_readDay_3 ⟨Nat.zero_le _, Nat.zero_le _⟩ (fun r_3 u_3 H locs hw hP hD hS => ?_)
  obtain ⟨place_3, fault_3, faultAt_3⟩ := u_3
  try dsimp only at hw
  have hP : va_P D vwCl [(a_this, .inr (5, [.ref a_letters, .int length, .int place_3, .int fault_3, .int faultAt_3])), (a_letters, .inl (cI, 240, .inl letters)), (a_p1, .inr (2, [.ref a_p1_marks, .ref a_p1_inWeathers, .ref a_p1_inHours, .ref a_p1_fears, .ref a_p1_weathers, .ref a_p1_hours, .ref a_p1_dangers, .int p1_pay, .int p1_people, .int p1_days])), (a_p1_weathers, .inl (cI, 10, .inl p1_weathers)), (a_p1_hours, .inl (cI, 10, .inl p1_hours)), (a_p1_dangers, .inl (cI, 10, .inl p1_dangers))] H := hP
  have hD : va_D A [(a_this, .inr (5, [.ref a_letters, .int length, .int place_3, .int fault_3, .int faultAt_3])), (a_letters, .inl (cI, 240, .inl letters)), (a_p1, .inr (2, [.ref a_p1_marks, .ref a_p1_inWeathers, .ref a_p1_inHours, .ref a_p1_fears, .ref a_p1_weathers, .ref a_p1_hours, .ref a_p1_dangers, .int p1_pay, .int p1_people, .int p1_days])), (a_p1_weathers, .inl (cI, 10, .inl p1_weathers)), (a_p1_hours, .inl (cI, 10, .inl p1_hours)), (a_p1_dangers, .inl (cI, 10, .inl p1_dangers))] := hD
  refine lv_istore_n (lv' := [(2, .int r_3), (0, .ref a_this), (1, .ref a_p1)]) hx hb dX5_readDay_6 rfl hl (by decide) rfl (fun ls hl => ?_)
  refine lv_aload_n hx hb dX5_readDay_7 rfl (lv_at hl 1 rfl) ?_
  refine lv_iconst (v := 0) hx hb dX5_readDay_8 (by decide) ?_
  refine lv_iconst (v := 3) hx hb dX5_readDay_9 (by decide) ?_
  refine xwVi (q0 := 0) (ci := 5) (wr := [(a_p1, .inr (2, [.ref a_p1_marks, .ref a_p1_inWeathers, .ref a_p1_inHours, .ref a_p1_fears, .ref a_p1_weathers, .ref a_p1_hours, .ref a_p1_dangers, .int p1_pay, .int p1_people, .int p1_days])), (a_p1_weathers, .inl (cI, 10, .inl p1_weathers)), (a_p1_hours, .inl (cI, 10, .inl p1_hours)), (a_p1_dangers, .inl (cI, 10, .inl p1_dangers))]) (As := [.int 0, .int 3]) (rest := []) (wc := [(a_this, .inr (5, [.ref a_letters, .int length, .int place_3, .int fault_3, .int faultAt_3])), (a_letters, .inl (cI, 240, .inl letters))]) (fun (u : Int32 × Int32 × Int32) => [(a_this, .inr (5, [.ref a_letters, .int length, .int u.1, .int u.2.1, .int u.2.2])), (a_letters, .inl (cI, 240, .inl letters)), (a_p1, .inr (2, [.ref a_p1_marks, .ref a_p1_inWeathers, .ref a_p1_inHours, .ref a_p1_fears, .ref a_p1_weathers, .ref a_p1_hours, .ref a_p1_dangers, .int p1_pay, .int p1_people, .int p1_days])), (a_p1_weathers, .inl (cI, 10, .inl p1_weathers)), (a_p1_hours, .inl (cI, 10, .inl p1_hours)), (a_p1_dangers, .inl (cI, 10, .inl p1_dangers))]) ⟨hx, hb, hml, hown, hts⟩ (c_X5_readNumber l D cI cZ cO hw) (cwV 2 hts gX5_readDay_X5_readNumber rfl rfl rfl (by decide +kernel) ⟨Nat.le_of_ble_eq_true rfl, Nat.le_of_ble_eq_true rfl⟩) hKK hP hD hS hA [0, 1] [2, 3, 4, 5] [4, 5, 0, 1, 2, 3] rfl rfl rfl rfl rfl (by decide) (fun _ => rfl) rfl rfl rfl hl.1 rfl (Nat.le_of_ble_eq_true rfl) dX5_readDay_10 ⟨Nat.zero_le _, Nat.zero_le _⟩ (fun r_10 u_10 H locs hw hP hD hS => ?_)
  obtain ⟨place_10, fault_10, faultAt_10⟩ := u_10
  try dsimp only at hw
  have hP : va_P D vwCl [(a_this, .inr (5, [.ref a_letters, .int length, .int place_10, .int fault_10, .int faultAt_10])), (a_letters, .inl (cI, 240, .inl letters)), (a_p1, .inr (2, [.ref a_p1_marks, .ref a_p1_inWeathers, .ref a_p1_inHours, .ref a_p1_fears, .ref a_p1_weathers, .ref a_p1_hours, .ref a_p1_dangers, .int p1_pay, .int p1_people, .int p1_days])), (a_p1_weathers, .inl (cI, 10, .inl p1_weathers)), (a_p1_hours, .inl (cI, 10, .inl p1_hours)), (a_p1_dangers, .inl (cI, 10, .inl p1_dangers))] H := hP
  have hD : va_D A [(a_this, .inr (5, [.ref a_letters, .int length, .int place_10, .int fault_10, .int faultAt_10])), (a_letters, .inl (cI, 240, .inl letters)), (a_p1, .inr (2, [.ref a_p1_marks, .ref a_p1_inWeathers, .ref a_p1_inHours, .ref a_p1_fears, .ref a_p1_weathers, .ref a_p1_hours, .ref a_p1_dangers, .int p1_pay, .int p1_people, .int p1_days])), (a_p1_weathers, .inl (cI, 10, .inl p1_weathers)), (a_p1_hours, .inl (cI, 10, .inl p1_hours)), (a_p1_dangers, .inl (cI, 10, .inl p1_dangers))] := hD
  refine lv_istore_n (lv' := [(3, .int r_10), (2, .int r_3), (0, .ref a_this), (1, .ref a_p1)]) hx hb dX5_readDay_13 rfl hl (by decide) rfl (fun ls hl => ?_)
  refine lv_aload_n hx hb dX5_readDay_14 rfl (lv_at hl 2 rfl) ?_
  refine lv_iconst (v := 0) hx hb dX5_readDay_15 (by decide) ?_
  refine lv_bipush (v := 9) hx hb dX5_readDay_16 (by decide) ?_
  refine xwVi (q0 := 0) (ci := 5) (wr := [(a_p1, .inr (2, [.ref a_p1_marks, .ref a_p1_inWeathers, .ref a_p1_inHours, .ref a_p1_fears, .ref a_p1_weathers, .ref a_p1_hours, .ref a_p1_dangers, .int p1_pay, .int p1_people, .int p1_days])), (a_p1_weathers, .inl (cI, 10, .inl p1_weathers)), (a_p1_hours, .inl (cI, 10, .inl p1_hours)), (a_p1_dangers, .inl (cI, 10, .inl p1_dangers))]) (As := [.int 0, .int 9]) (rest := []) (wc := [(a_this, .inr (5, [.ref a_letters, .int length, .int place_10, .int fault_10, .int faultAt_10])), (a_letters, .inl (cI, 240, .inl letters))]) (fun (u : Int32 × Int32 × Int32) => [(a_this, .inr (5, [.ref a_letters, .int length, .int u.1, .int u.2.1, .int u.2.2])), (a_letters, .inl (cI, 240, .inl letters)), (a_p1, .inr (2, [.ref a_p1_marks, .ref a_p1_inWeathers, .ref a_p1_inHours, .ref a_p1_fears, .ref a_p1_weathers, .ref a_p1_hours, .ref a_p1_dangers, .int p1_pay, .int p1_people, .int p1_days])), (a_p1_weathers, .inl (cI, 10, .inl p1_weathers)), (a_p1_hours, .inl (cI, 10, .inl p1_hours)), (a_p1_dangers, .inl (cI, 10, .inl p1_dangers))]) ⟨hx, hb, hml, hown, hts⟩ (c_X5_readNumber l D cI cZ cO hw) (cwV 2 hts gX5_readDay_X5_readNumber rfl rfl rfl (by decide +kernel) ⟨Nat.le_of_ble_eq_true rfl, Nat.le_of_ble_eq_true rfl⟩) hKK hP hD hS hA [0, 1] [2, 3, 4, 5] [4, 5, 0, 1, 2, 3] rfl rfl rfl rfl rfl (by decide) (fun _ => rfl) rfl rfl rfl hl.1 rfl (Nat.le_of_ble_eq_true rfl) dX5_readDay_18 ⟨Nat.zero_le _, Nat.zero_le _⟩ (fun r_18 u_18 H locs hw hP hD hS => ?_)
  obtain ⟨place_18, fault_18, faultAt_18⟩ := u_18
  try dsimp only at hw
  have hP : va_P D vwCl [(a_this, .inr (5, [.ref a_letters, .int length, .int place_18, .int fault_18, .int faultAt_18])), (a_letters, .inl (cI, 240, .inl letters)), (a_p1, .inr (2, [.ref a_p1_marks, .ref a_p1_inWeathers, .ref a_p1_inHours, .ref a_p1_fears, .ref a_p1_weathers, .ref a_p1_hours, .ref a_p1_dangers, .int p1_pay, .int p1_people, .int p1_days])), (a_p1_weathers, .inl (cI, 10, .inl p1_weathers)), (a_p1_hours, .inl (cI, 10, .inl p1_hours)), (a_p1_dangers, .inl (cI, 10, .inl p1_dangers))] H := hP
  have hD : va_D A [(a_this, .inr (5, [.ref a_letters, .int length, .int place_18, .int fault_18, .int faultAt_18])), (a_letters, .inl (cI, 240, .inl letters)), (a_p1, .inr (2, [.ref a_p1_marks, .ref a_p1_inWeathers, .ref a_p1_inHours, .ref a_p1_fears, .ref a_p1_weathers, .ref a_p1_hours, .ref a_p1_dangers, .int p1_pay, .int p1_people, .int p1_days])), (a_p1_weathers, .inl (cI, 10, .inl p1_weathers)), (a_p1_hours, .inl (cI, 10, .inl p1_hours)), (a_p1_dangers, .inl (cI, 10, .inl p1_dangers))] := hD
  refine lv_istore (lv' := [(4, .int r_18), (3, .int r_10), (2, .int r_3), (0, .ref a_this), (1, .ref a_p1)]) hx hb dX5_readDay_21 hl (by decide) rfl (fun ls hl => ?_)
  refine lv_aload_n hx hb dX5_readDay_23 rfl (lv_at hl 3 rfl) ?_
  refine xwVv (q0 := 0) (ci := 5) (wr := [(a_p1, .inr (2, [.ref a_p1_marks, .ref a_p1_inWeathers, .ref a_p1_inHours, .ref a_p1_fears, .ref a_p1_weathers, .ref a_p1_hours, .ref a_p1_dangers, .int p1_pay, .int p1_people, .int p1_days])), (a_p1_weathers, .inl (cI, 10, .inl p1_weathers)), (a_p1_hours, .inl (cI, 10, .inl p1_hours)), (a_p1_dangers, .inl (cI, 10, .inl p1_dangers))]) (As := []) (rest := []) (wc := [(a_this, .inr (5, [.ref a_letters, .int length, .int place_18, .int fault_18, .int faultAt_18])), (a_letters, .inl (cI, 240, .inl letters))]) (fun (u : Int32 × Int32 × Int32) => [(a_this, .inr (5, [.ref a_letters, .int length, .int u.1, .int u.2.1, .int u.2.2])), (a_letters, .inl (cI, 240, .inl letters)), (a_p1, .inr (2, [.ref a_p1_marks, .ref a_p1_inWeathers, .ref a_p1_inHours, .ref a_p1_fears, .ref a_p1_weathers, .ref a_p1_hours, .ref a_p1_dangers, .int p1_pay, .int p1_people, .int p1_days])), (a_p1_weathers, .inl (cI, 10, .inl p1_weathers)), (a_p1_hours, .inl (cI, 10, .inl p1_hours)), (a_p1_dangers, .inl (cI, 10, .inl p1_dangers))]) ⟨hx, hb, hml, hown, hts⟩ (c_X5_readEnd l D cI cZ cO hw) (cwV 0 hts gX5_readDay_X5_readEnd rfl rfl rfl (by decide +kernel) ⟨Nat.le_of_ble_eq_true rfl, Nat.le_of_ble_eq_true rfl⟩) hKK hP hD hS hA [0, 1] [2, 3, 4, 5] [4, 5, 0, 1, 2, 3] rfl rfl rfl rfl rfl (by decide) (fun _ => rfl) rfl rfl rfl hl.1 rfl (Nat.le_of_ble_eq_true rfl) dX5_readDay_24 ⟨Nat.zero_le _, Nat.zero_le _⟩ (fun u_24 H locs hw hP hD hS => ?_)
  obtain ⟨place_24, fault_24, faultAt_24⟩ := u_24
  try dsimp only at hw
  have hP : va_P D vwCl [(a_this, .inr (5, [.ref a_letters, .int length, .int place_24, .int fault_24, .int faultAt_24])), (a_letters, .inl (cI, 240, .inl letters)), (a_p1, .inr (2, [.ref a_p1_marks, .ref a_p1_inWeathers, .ref a_p1_inHours, .ref a_p1_fears, .ref a_p1_weathers, .ref a_p1_hours, .ref a_p1_dangers, .int p1_pay, .int p1_people, .int p1_days])), (a_p1_weathers, .inl (cI, 10, .inl p1_weathers)), (a_p1_hours, .inl (cI, 10, .inl p1_hours)), (a_p1_dangers, .inl (cI, 10, .inl p1_dangers))] H := hP
  have hD : va_D A [(a_this, .inr (5, [.ref a_letters, .int length, .int place_24, .int fault_24, .int faultAt_24])), (a_letters, .inl (cI, 240, .inl letters)), (a_p1, .inr (2, [.ref a_p1_marks, .ref a_p1_inWeathers, .ref a_p1_inHours, .ref a_p1_fears, .ref a_p1_weathers, .ref a_p1_hours, .ref a_p1_dangers, .int p1_pay, .int p1_people, .int p1_days])), (a_p1_weathers, .inl (cI, 10, .inl p1_weathers)), (a_p1_hours, .inl (cI, 10, .inl p1_hours)), (a_p1_dangers, .inl (cI, 10, .inl p1_dangers))] := hD
  refine lv_aload_n hx hb dX5_readDay_27 rfl (lv_at hl 3 rfl) ?_
  refine va_get (D := D) (ci := 5) (v := .int fault_24) (C := RX5) (T := TX5) (N := 5) hx hb hts hinX5 hown hKK.1 hP 0 rfl rfl 3 (by decide) fl_22 (fun _ h9 => h9) rfl dX5_readDay_28 ?_
  refine lv_if_ne (tgt := 42) hx hb dX5_readDay_31 (by decide) (fun c_31 => ?_) (fun c_31 => ?_)
  · have hw := hw.2 c_31
    rw [hQ]
    exact W.vret hx hb hr (fun t ht _ => ⟨⟨⟨place_24, fault_24, faultAt_24, p1_weathers, p1_hours, p1_dangers, p1_days⟩, rfl, hw, by rw [ht]; exact hP, hD⟩, hS.F ht⟩) hS.2.2 dX5_readDay_42
  · have hw := hw.1 c_31
    refine lv_aload_n hx hb dX5_readDay_34 rfl (lv_at hl 4 rfl) ?_
    refine lv_iload_n hx hb dX5_readDay_35 rfl (lv_at hl 2 rfl) ?_
    refine lv_iload_n hx hb dX5_readDay_36 rfl (lv_at hl 1 rfl) ?_
    refine lv_iload hx hb dX5_readDay_37 (lv_at hl 0 rfl) ?_
    refine xwVv (q0 := 2) (ci := 2) (wr := [(a_this, .inr (5, [.ref a_letters, .int length, .int place_24, .int fault_24, .int faultAt_24])), (a_letters, .inl (cI, 240, .inl letters))]) (As := [.int r_3, .int r_10, .int r_18]) (rest := []) (wc := [(a_p1, .inr (2, [.ref a_p1_marks, .ref a_p1_inWeathers, .ref a_p1_inHours, .ref a_p1_fears, .ref a_p1_weathers, .ref a_p1_hours, .ref a_p1_dangers, .int p1_pay, .int p1_people, .int p1_days])), (a_p1_weathers, .inl (cI, 10, .inl p1_weathers)), (a_p1_hours, .inl (cI, 10, .inl p1_hours)), (a_p1_dangers, .inl (cI, 10, .inl p1_dangers))]) (fun (u : (Nat → Int32) × (Nat → Int32) × (Nat → Int32) × Int32) => [(a_this, .inr (5, [.ref a_letters, .int length, .int place_24, .int fault_24, .int faultAt_24])), (a_letters, .inl (cI, 240, .inl letters)), (a_p1, .inr (2, [.ref a_p1_marks, .ref a_p1_inWeathers, .ref a_p1_inHours, .ref a_p1_fears, .ref a_p1_weathers, .ref a_p1_hours, .ref a_p1_dangers, .int p1_pay, .int p1_people, .int u.2.2.2])), (a_p1_weathers, .inl (cI, 10, .inl u.1)), (a_p1_hours, .inl (cI, 10, .inl u.2.1)), (a_p1_dangers, .inl (cI, 10, .inl u.2.2.1))]) ⟨hx, hb, hml, hown, hts⟩ (c_X2_addDay l D cI cZ cO hw) (cwV 3 hts gX5_readDay_X2_addDay rfl rfl rfl (by decide +kernel) ⟨Nat.le_of_ble_eq_true rfl, Nat.le_of_ble_eq_true rfl⟩) hKK hP hD hS hA [2, 3, 4, 5] [0, 1] [0, 1, 2, 3, 4, 5] rfl rfl rfl rfl rfl (by decide) (fun _ => rfl) rfl rfl rfl hl.1 rfl (Nat.le_of_ble_eq_true rfl) dX5_readDay_39 ⟨Nat.zero_le _, Nat.zero_le _⟩ (fun u_39 H locs hw hP hD hS => ?_)
    obtain ⟨p1_weathers_39, p1_hours_39, p1_dangers_39, p1_days_39⟩ := u_39
    try dsimp only at hw
    have hP : va_P D vwCl [(a_this, .inr (5, [.ref a_letters, .int length, .int place_24, .int fault_24, .int faultAt_24])), (a_letters, .inl (cI, 240, .inl letters)), (a_p1, .inr (2, [.ref a_p1_marks, .ref a_p1_inWeathers, .ref a_p1_inHours, .ref a_p1_fears, .ref a_p1_weathers, .ref a_p1_hours, .ref a_p1_dangers, .int p1_pay, .int p1_people, .int p1_days_39])), (a_p1_weathers, .inl (cI, 10, .inl p1_weathers_39)), (a_p1_hours, .inl (cI, 10, .inl p1_hours_39)), (a_p1_dangers, .inl (cI, 10, .inl p1_dangers_39))] H := hP
    have hD : va_D A [(a_this, .inr (5, [.ref a_letters, .int length, .int place_24, .int fault_24, .int faultAt_24])), (a_letters, .inl (cI, 240, .inl letters)), (a_p1, .inr (2, [.ref a_p1_marks, .ref a_p1_inWeathers, .ref a_p1_inHours, .ref a_p1_fears, .ref a_p1_weathers, .ref a_p1_hours, .ref a_p1_dangers, .int p1_pay, .int p1_people, .int p1_days_39])), (a_p1_weathers, .inl (cI, 10, .inl p1_weathers_39)), (a_p1_hours, .inl (cI, 10, .inl p1_hours_39)), (a_p1_dangers, .inl (cI, 10, .inl p1_dangers_39))] := hD
    rw [hQ]
    exact W.vret hx hb hr (fun t ht _ => ⟨⟨⟨place_24, fault_24, faultAt_24, p1_weathers_39, p1_hours_39, p1_dangers_39, p1_days_39⟩, rfl, hw, by rw [ht]; exact hP, hD⟩, hS.F ht⟩) hS.2.2 dX5_readDay_42
def wp_X5_readClause (length : Int32) (place : Int32) (fault : Int32) (faultAt : Int32) (letters : Nat → Int32) (p1_pay : Int32) (p1_people : Int32) (p1_days : Int32) (p1_marks : Nat → Int32) (p1_inWeathers : Nat → Int32) (p1_inHours : Nat → Int32) (p1_fears : Nat → Int32) (p1_weathers : Nat → Int32) (p1_hours : Nat → Int32) (p1_dangers : Nat → Int32) (Φ : Int32 → Int32 → Int32 → Int32 → (Nat → Int32) → (Nat → Int32) → (Nat → Int32) → (Nat → Int32) → Int32 → (Nat → Int32) → (Nat → Int32) → (Nat → Int32) → Int32 → Prop) : Prop :=
  (wp_X7_at letters 240 place (fun r_8 => (wp_X5_wordFault p1_pay p1_people p1_days r_8 (fun r_15 => ((r_15 = 0 → ((r_8 = 107 → (wp_X5_readKing length (place + 1) fault faultAt letters p1_pay (fun place_74 fault_74 faultAt_74 p1_pay_74 => (Φ place_74 fault_74 faultAt_74 p1_pay_74 p1_marks p1_inWeathers p1_inHours p1_fears p1_people p1_weathers p1_hours p1_dangers p1_days)))) ∧ (¬ r_8 = 107 → ((r_8 = 112 → (wp_X5_readPerson length (place + 1) fault faultAt letters p1_people p1_marks p1_inWeathers p1_inHours p1_fears (fun place_82 fault_82 faultAt_82 p1_marks_82 p1_inWeathers_82 p1_inHours_82 p1_fears_82 p1_people_82 => (Φ place_82 fault_82 faultAt_82 p1_pay p1_marks_82 p1_inWeathers_82 p1_inHours_82 p1_fears_82 p1_people_82 p1_weathers p1_hours p1_dangers p1_days)))) ∧ (¬ r_8 = 112 → (wp_X5_readDay length (place + 1) fault faultAt letters p1_days p1_weathers p1_hours p1_dangers (fun place_90 fault_90 faultAt_90 p1_weathers_90 p1_hours_90 p1_dangers_90 p1_days_90 => (Φ place_90 fault_90 faultAt_90 p1_pay p1_marks p1_inWeathers p1_inHours p1_fears p1_people p1_weathers_90 p1_hours_90 p1_dangers_90 p1_days_90)))))))) ∧ (¬ r_15 = 0 → (wp_X5_fail r_15 place (fun fault_29 faultAt_29 => (Φ place fault_29 faultAt_29 p1_pay p1_marks p1_inWeathers p1_inHours p1_fears p1_people p1_weathers p1_hours p1_dangers p1_days)))))))))
abbrev xrm_X5_readClause : Room := { frames := 4, cells := 0, slots := 0, locals := 90 }
set_option maxRecDepth 100000 in
set_option maxHeartbeats 4000000 in
theorem c_X5_readClause (l : Launch) (D : va_G) (cI cZ cO : ClassId) {a_letters : Nat} {length : Int32} {place : Int32} {fault : Int32} {faultAt : Int32} {a_this : Nat} {letters : Nat → Int32} {a_p1_marks : Nat} {a_p1_inWeathers : Nat} {a_p1_inHours : Nat} {a_p1_fears : Nat} {a_p1_weathers : Nat} {a_p1_hours : Nat} {a_p1_dangers : Nat} {p1_pay : Int32} {p1_people : Int32} {p1_days : Int32} {a_p1 : Nat} {p1_marks : Nat → Int32} {p1_inWeathers : Nat → Int32} {p1_inHours : Nat → Int32} {p1_fears : Nat → Int32} {p1_weathers : Nat → Int32} {p1_hours : Nat → Int32} {p1_dangers : Nat → Int32} {Φ : Int32 → Int32 → Int32 → Int32 → (Nat → Int32) → (Nat → Int32) → (Nat → Int32) → (Nat → Int32) → Int32 → (Nat → Int32) → (Nat → Int32) → (Nat → Int32) → Int32 → Prop} {sz : Nat} (hw : (wp_X5_readClause length place fault faultAt letters p1_pay p1_people p1_days p1_marks p1_inWeathers p1_inHours p1_fears p1_weathers p1_hours p1_dangers Φ)) : Met l yX5_readClause wsX5_readClause xrm_X5_readClause (xPW D cI cZ cO [.ref a_this, .ref a_p1] sz [(a_this, .inr (5, [.ref a_letters, .int length, .int place, .int fault, .int faultAt])), (a_letters, .inl (cI, 240, .inl letters)), (a_p1, .inr (2, [.ref a_p1_marks, .ref a_p1_inWeathers, .ref a_p1_inHours, .ref a_p1_fears, .ref a_p1_weathers, .ref a_p1_hours, .ref a_p1_dangers, .int p1_pay, .int p1_people, .int p1_days])), (a_p1_marks, .inl (cI, 8, .inl p1_marks)), (a_p1_inWeathers, .inl (cI, 8, .inl p1_inWeathers)), (a_p1_inHours, .inl (cI, 8, .inl p1_inHours)), (a_p1_fears, .inl (cI, 8, .inl p1_fears)), (a_p1_weathers, .inl (cI, 10, .inl p1_weathers)), (a_p1_hours, .inl (cI, 10, .inl p1_hours)), (a_p1_dangers, .inl (cI, 10, .inl p1_dangers))]) (va_Qv (fun (u : Int32 × Int32 × Int32 × Int32 × (Nat → Int32) × (Nat → Int32) × (Nat → Int32) × (Nat → Int32) × Int32 × (Nat → Int32) × (Nat → Int32) × (Nat → Int32) × Int32) => Φ u.1 u.2.1 u.2.2.1 u.2.2.2.1 u.2.2.2.2.1 u.2.2.2.2.2.1 u.2.2.2.2.2.2.1 u.2.2.2.2.2.2.2.1 u.2.2.2.2.2.2.2.2.1 u.2.2.2.2.2.2.2.2.2.1 u.2.2.2.2.2.2.2.2.2.2.1 u.2.2.2.2.2.2.2.2.2.2.2.1 u.2.2.2.2.2.2.2.2.2.2.2.2) (xB D (va_A [(a_this, .inr (5, [.ref a_letters, .int length, .int place, .int fault, .int faultAt])), (a_letters, .inl (cI, 240, .inl letters)), (a_p1, .inr (2, [.ref a_p1_marks, .ref a_p1_inWeathers, .ref a_p1_inHours, .ref a_p1_fears, .ref a_p1_weathers, .ref a_p1_hours, .ref a_p1_dangers, .int p1_pay, .int p1_people, .int p1_days])), (a_p1_marks, .inl (cI, 8, .inl p1_marks)), (a_p1_inWeathers, .inl (cI, 8, .inl p1_inWeathers)), (a_p1_inHours, .inl (cI, 8, .inl p1_inHours)), (a_p1_fears, .inl (cI, 8, .inl p1_fears)), (a_p1_weathers, .inl (cI, 10, .inl p1_weathers)), (a_p1_hours, .inl (cI, 10, .inl p1_hours)), (a_p1_dangers, .inl (cI, 10, .inl p1_dangers))] sz) (fun (u : Int32 × Int32 × Int32 × Int32 × (Nat → Int32) × (Nat → Int32) × (Nat → Int32) × (Nat → Int32) × Int32 × (Nat → Int32) × (Nat → Int32) × (Nat → Int32) × Int32) => [(a_this, .inr (5, [.ref a_letters, .int length, .int u.1, .int u.2.1, .int u.2.2.1])), (a_letters, .inl (cI, 240, .inl letters)), (a_p1, .inr (2, [.ref a_p1_marks, .ref a_p1_inWeathers, .ref a_p1_inHours, .ref a_p1_fears, .ref a_p1_weathers, .ref a_p1_hours, .ref a_p1_dangers, .int u.2.2.2.1, .int u.2.2.2.2.2.2.2.2.1, .int u.2.2.2.2.2.2.2.2.2.2.2.2])), (a_p1_marks, .inl (cI, 8, .inl u.2.2.2.2.1)), (a_p1_inWeathers, .inl (cI, 8, .inl u.2.2.2.2.2.1)), (a_p1_inHours, .inl (cI, 8, .inl u.2.2.2.2.2.2.1)), (a_p1_fears, .inl (cI, 8, .inl u.2.2.2.2.2.2.2.1)), (a_p1_weathers, .inl (cI, 10, .inl u.2.2.2.2.2.2.2.2.2.1)), (a_p1_hours, .inl (cI, 10, .inl u.2.2.2.2.2.2.2.2.2.2.1)), (a_p1_dangers, .inl (cI, 10, .inl u.2.2.2.2.2.2.2.2.2.2.2.1))])) (va_A [(a_this, .inr (5, [.ref a_letters, .int length, .int place, .int fault, .int faultAt])), (a_letters, .inl (cI, 240, .inl letters)), (a_p1, .inr (2, [.ref a_p1_marks, .ref a_p1_inWeathers, .ref a_p1_inHours, .ref a_p1_fears, .ref a_p1_weathers, .ref a_p1_hours, .ref a_p1_dangers, .int p1_pay, .int p1_people, .int p1_days])), (a_p1_marks, .inl (cI, 8, .inl p1_marks)), (a_p1_inWeathers, .inl (cI, 8, .inl p1_inWeathers)), (a_p1_inHours, .inl (cI, 8, .inl p1_inHours)), (a_p1_fears, .inl (cI, 8, .inl p1_fears)), (a_p1_weathers, .inl (cI, 10, .inl p1_weathers)), (a_p1_hours, .inl (cI, 10, .inl p1_hours)), (a_p1_dangers, .inl (cI, 10, .inl p1_dangers))] sz)) 0 0 (va_A [(a_this, .inr (5, [.ref a_letters, .int length, .int place, .int fault, .int faultAt])), (a_letters, .inl (cI, 240, .inl letters)), (a_p1, .inr (2, [.ref a_p1_marks, .ref a_p1_inWeathers, .ref a_p1_inHours, .ref a_p1_fears, .ref a_p1_weathers, .ref a_p1_hours, .ref a_p1_dangers, .int p1_pay, .int p1_people, .int p1_days])), (a_p1_marks, .inl (cI, 8, .inl p1_marks)), (a_p1_inWeathers, .inl (cI, 8, .inl p1_inWeathers)), (a_p1_inHours, .inl (cI, 8, .inl p1_inHours)), (a_p1_fears, .inl (cI, 8, .inl p1_fears)), (a_p1_weathers, .inl (cI, 10, .inl p1_weathers)), (a_p1_hours, .inl (cI, 10, .inl p1_hours)), (a_p1_dangers, .inl (cI, 10, .inl p1_dangers))] sz) := by
  refine Met.ofW (cc := cX5_readClause) (maxL := 4) (ret := none) (by decide) rfl ?_
  intro p e s m args below meth c s₁ B hml hv
  obtain ⟨rfl, hsz, hP, hKK, hD0⟩ := hv
  have hx := B.exec
  have hb := B.bytes
  have hr := B.returns
  have hts := atoms_spec (ws := wsX5_readClause) B.pre
  have hown : s.vm.findClass RX5 = some m.cls := findClass_of_methodNamed B.named
  have hlocks := B.notSynchronized
  subst hsz
  have hD := hD0.self (sz := s.heap.size)
  obtain ⟨Q, hQ⟩ : ∃ Q, Q = MQ below (va_Qv (fun (u : Int32 × Int32 × Int32 × Int32 × (Nat → Int32) × (Nat → Int32) × (Nat → Int32) × (Nat → Int32) × Int32 × (Nat → Int32) × (Nat → Int32) × (Nat → Int32) × Int32) => Φ u.1 u.2.1 u.2.2.1 u.2.2.2.1 u.2.2.2.2.1 u.2.2.2.2.2.1 u.2.2.2.2.2.2.1 u.2.2.2.2.2.2.2.1 u.2.2.2.2.2.2.2.2.1 u.2.2.2.2.2.2.2.2.2.1 u.2.2.2.2.2.2.2.2.2.2.1 u.2.2.2.2.2.2.2.2.2.2.2.1 u.2.2.2.2.2.2.2.2.2.2.2.2) (xB D (va_A [(a_this, .inr (5, [.ref a_letters, .int length, .int place, .int fault, .int faultAt])), (a_letters, .inl (cI, 240, .inl letters)), (a_p1, .inr (2, [.ref a_p1_marks, .ref a_p1_inWeathers, .ref a_p1_inHours, .ref a_p1_fears, .ref a_p1_weathers, .ref a_p1_hours, .ref a_p1_dangers, .int p1_pay, .int p1_people, .int p1_days])), (a_p1_marks, .inl (cI, 8, .inl p1_marks)), (a_p1_inWeathers, .inl (cI, 8, .inl p1_inWeathers)), (a_p1_inHours, .inl (cI, 8, .inl p1_inHours)), (a_p1_fears, .inl (cI, 8, .inl p1_fears)), (a_p1_weathers, .inl (cI, 10, .inl p1_weathers)), (a_p1_hours, .inl (cI, 10, .inl p1_hours)), (a_p1_dangers, .inl (cI, 10, .inl p1_dangers))] s.heap.size) (fun (u : Int32 × Int32 × Int32 × Int32 × (Nat → Int32) × (Nat → Int32) × (Nat → Int32) × (Nat → Int32) × Int32 × (Nat → Int32) × (Nat → Int32) × (Nat → Int32) × Int32) => [(a_this, .inr (5, [.ref a_letters, .int length, .int u.1, .int u.2.1, .int u.2.2.1])), (a_letters, .inl (cI, 240, .inl letters)), (a_p1, .inr (2, [.ref a_p1_marks, .ref a_p1_inWeathers, .ref a_p1_inHours, .ref a_p1_fears, .ref a_p1_weathers, .ref a_p1_hours, .ref a_p1_dangers, .int u.2.2.2.1, .int u.2.2.2.2.2.2.2.2.1, .int u.2.2.2.2.2.2.2.2.2.2.2.2])), (a_p1_marks, .inl (cI, 8, .inl u.2.2.2.2.1)), (a_p1_inWeathers, .inl (cI, 8, .inl u.2.2.2.2.2.1)), (a_p1_inHours, .inl (cI, 8, .inl u.2.2.2.2.2.2.1)), (a_p1_fears, .inl (cI, 8, .inl u.2.2.2.2.2.2.2.1)), (a_p1_weathers, .inl (cI, 10, .inl u.2.2.2.2.2.2.2.2.2.1)), (a_p1_hours, .inl (cI, 10, .inl u.2.2.2.2.2.2.2.2.2.2.1)), (a_p1_dangers, .inl (cI, 10, .inl u.2.2.2.2.2.2.2.2.2.2.2.1))])) (va_A [(a_this, .inr (5, [.ref a_letters, .int length, .int place, .int fault, .int faultAt])), (a_letters, .inl (cI, 240, .inl letters)), (a_p1, .inr (2, [.ref a_p1_marks, .ref a_p1_inWeathers, .ref a_p1_inHours, .ref a_p1_fears, .ref a_p1_weathers, .ref a_p1_hours, .ref a_p1_dangers, .int p1_pay, .int p1_people, .int p1_days])), (a_p1_marks, .inl (cI, 8, .inl p1_marks)), (a_p1_inWeathers, .inl (cI, 8, .inl p1_inWeathers)), (a_p1_inHours, .inl (cI, 8, .inl p1_inHours)), (a_p1_fears, .inl (cI, 8, .inl p1_fears)), (a_p1_weathers, .inl (cI, 10, .inl p1_weathers)), (a_p1_hours, .inl (cI, 10, .inl p1_hours)), (a_p1_dangers, .inl (cI, 10, .inl p1_dangers))] s.heap.size)) ([.ref a_this, .ref a_p1] : List Value).toArray s 0 0 (va_A [(a_this, .inr (5, [.ref a_letters, .int length, .int place, .int fault, .int faultAt])), (a_letters, .inl (cI, 240, .inl letters)), (a_p1, .inr (2, [.ref a_p1_marks, .ref a_p1_inWeathers, .ref a_p1_inHours, .ref a_p1_fears, .ref a_p1_weathers, .ref a_p1_hours, .ref a_p1_dangers, .int p1_pay, .int p1_people, .int p1_days])), (a_p1_marks, .inl (cI, 8, .inl p1_marks)), (a_p1_inWeathers, .inl (cI, 8, .inl p1_inWeathers)), (a_p1_inHours, .inl (cI, 8, .inl p1_inHours)), (a_p1_fears, .inl (cI, 8, .inl p1_fears)), (a_p1_weathers, .inl (cI, 10, .inl p1_weathers)), (a_p1_hours, .inl (cI, 10, .inl p1_hours)), (a_p1_dangers, .inl (cI, 10, .inl p1_dangers))] s.heap.size) := ⟨_, rfl⟩
  rw [← hQ]
  generalize hAe : va_A [(a_this, .inr (5, [.ref a_letters, .int length, .int place, .int fault, .int faultAt])), (a_letters, .inl (cI, 240, .inl letters)), (a_p1, .inr (2, [.ref a_p1_marks, .ref a_p1_inWeathers, .ref a_p1_inHours, .ref a_p1_fears, .ref a_p1_weathers, .ref a_p1_hours, .ref a_p1_dangers, .int p1_pay, .int p1_people, .int p1_days])), (a_p1_marks, .inl (cI, 8, .inl p1_marks)), (a_p1_inWeathers, .inl (cI, 8, .inl p1_inWeathers)), (a_p1_inHours, .inl (cI, 8, .inl p1_inHours)), (a_p1_fears, .inl (cI, 8, .inl p1_fears)), (a_p1_weathers, .inl (cI, 10, .inl p1_weathers)), (a_p1_hours, .inl (cI, 10, .inl p1_hours)), (a_p1_dangers, .inl (cI, 10, .inl p1_dangers))] s.heap.size = A at hD hQ
  have hA : ∀ q : Nat, s.heap.size ≤ q → A q := fun q h => by rw [← hAe]; exact Or.inr h
  have hS : va_S A s.heap s.heap [] := va_S.rf
  have hl := lv_entry ([.ref a_this, .ref a_p1]) (n := 4) (Nat.le_of_ble_eq_true rfl)
  rw [lg_entry_eq]
  generalize (lg_sl ([.ref a_this, .ref a_p1]) ++ List.replicate (4 - (lg_sl ([.ref a_this, .ref a_p1])).length) Slot.unset).toArray = ls at hl ⊢
  have hl : lv_has ls 4 [(0, .ref a_this), (1, .ref a_p1)] := hl
  generalize ([.ref a_this, .ref a_p1] : List Value).toArray = args at hts hQ ⊢
  have hP : va_P D vwCl [(a_this, .inr (5, [.ref a_letters, .int length, .int place, .int fault, .int faultAt])), (a_letters, .inl (cI, 240, .inl letters)), (a_p1, .inr (2, [.ref a_p1_marks, .ref a_p1_inWeathers, .ref a_p1_inHours, .ref a_p1_fears, .ref a_p1_weathers, .ref a_p1_hours, .ref a_p1_dangers, .int p1_pay, .int p1_people, .int p1_days])), (a_p1_marks, .inl (cI, 8, .inl p1_marks)), (a_p1_inWeathers, .inl (cI, 8, .inl p1_inWeathers)), (a_p1_inHours, .inl (cI, 8, .inl p1_inHours)), (a_p1_fears, .inl (cI, 8, .inl p1_fears)), (a_p1_weathers, .inl (cI, 10, .inl p1_weathers)), (a_p1_hours, .inl (cI, 10, .inl p1_hours)), (a_p1_dangers, .inl (cI, 10, .inl p1_dangers))] s.heap := hP
  have hinX5 : ∀ w ∈ u_ws RX5 TX5 5, w ∈ wsX5_readClause := by decide +kernel
  have fl_9 := hts (.fieldLink RX5 9 "DoubleChain$Text" "letters" "[I") (by decide +kernel)
  have fl_19 := hts (.fieldLink RX5 19 "DoubleChain$Text" "place" "I") (by decide +kernel)
  clear B
  show W p l e xrm_X5_readClause s m args below meth c s.heap [] 0 0 Q (F0 m 0 ls [])
  unfold wp_X5_readClause at hw
  refine lv_aload_n hx hb dX5_readClause_0 rfl (lv_at hl 0 rfl) ?_
  refine va_get (D := D) (ci := 5) (v := .ref a_letters) (C := RX5) (T := TX5) (N := 5) hx hb hts hinX5 hown hKK.1 hP 0 rfl rfl 0 (by decide) fl_9 (fun _ h9 => h9) rfl dX5_readClause_1 ?_
  refine lv_aload_n hx hb dX5_readClause_4 rfl (lv_at hl 0 rfl) ?_
  refine va_get (D := D) (ci := 5) (v := .int place) (C := RX5) (T := TX5) (N := 5) hx hb hts hinX5 hown hKK.1 hP 0 rfl rfl 2 (by decide) fl_19 (fun _ h9 => h9) rfl dX5_readClause_5 ?_
  refine xcNi (As := [.ref a_letters, .int place]) (rest := []) (wc := [(a_letters, .inl (cI, 240, .inl letters))]) ⟨hx, hb, hml, hown, hts⟩ (c_X7_at l D cI cZ cO hw) ⟨va_cnB 2 hts gX5_readClause_X7_at_n44 rfl rfl rfl (xn_10 hKK.2) (hts (.initialized RX7) (by decide +kernel)) (by decide +kernel) ⟨Nat.le_of_ble_eq_true rfl, Nat.le_of_ble_eq_true rfl⟩, hts (.static yX7_at) (by decide +kernel), trivial⟩ hKK hP [1] rfl rfl hl.1 rfl (Nat.le_of_ble_eq_true rfl) dX5_readClause_8 ⟨Nat.zero_le _, Nat.zero_le _⟩ (fun r_8 hw => ?_)
  refine lv_istore_n (lv' := [(2, .int r_8), (0, .ref a_this), (1, .ref a_p1)]) hx hb dX5_readClause_11 rfl hl (by decide) rfl (fun ls hl => ?_)
  refine lv_aload_n hx hb dX5_readClause_12 rfl (lv_at hl 1 rfl) ?_
  refine lv_iload_n hx hb dX5_readClause_13 rfl (lv_at hl 0 rfl) ?_
  refine lv_aload_n hx hb dX5_readClause_14 rfl (lv_at hl 2 rfl) ?_
  refine xcVi (q0 := 0) (ci := 5) (As := [.int r_8, .ref a_p1]) (rest := []) (wc := [(a_this, .inr (5, [.ref a_letters, .int length, .int place, .int fault, .int faultAt])), (a_p1, .inr (2, [.ref a_p1_marks, .ref a_p1_inWeathers, .ref a_p1_inHours, .ref a_p1_fears, .ref a_p1_weathers, .ref a_p1_hours, .ref a_p1_dangers, .int p1_pay, .int p1_people, .int p1_days]))]) ⟨hx, hb, hml, hown, hts⟩ (c_X5_wordFault l D cI cZ cO hw) (cwV 2 hts gX5_readClause_X5_wordFault rfl rfl rfl (by decide +kernel) ⟨Nat.le_of_ble_eq_true rfl, Nat.le_of_ble_eq_true rfl⟩) hKK hP [0, 2] rfl rfl rfl rfl hl.1 rfl (Nat.le_of_ble_eq_true rfl) dX5_readClause_15 ⟨Nat.zero_le _, Nat.zero_le _⟩ (fun r_15 hw => ?_)
  refine lv_istore_n (lv' := [(3, .int r_15), (2, .int r_8), (0, .ref a_this), (1, .ref a_p1)]) hx hb dX5_readClause_18 rfl hl (by decide) rfl (fun ls hl => ?_)
  refine lv_iload_n hx hb dX5_readClause_19 rfl (lv_at hl 0 rfl) ?_
  refine lv_if_eq (tgt := 33) hx hb dX5_readClause_20 (by decide) (fun c_20 => ?_) (fun c_20 => ?_)
  · have hw := hw.1 c_20
    refine lv_aload_n hx hb dX5_readClause_33 rfl (lv_at hl 2 rfl) ?_
    refine lv_dup hx hb dX5_readClause_34 rfl ?_
    refine va_get (D := D) (ci := 5) (v := .int place) (C := RX5) (T := TX5) (N := 5) hx hb hts hinX5 hown hKK.1 hP 0 rfl rfl 2 (by decide) fl_19 (fun _ h9 => h9) rfl dX5_readClause_35 ?_
    refine lv_iconst (v := 1) hx hb dX5_readClause_38 (by decide) ?_
    refine lv_iadd hx hb dX5_readClause_39 ?_
    refine va_put (D := D) (ci := 5) (v := .int (place + 1)) (ty := .int) (C := RX5) (T := TX5) (N := 5) hx hb hts hinX5 tyX5 tyX5_ok nmX5 hown hKK.1 hP hD hS 0 rfl rfl 2 (by decide) fl_19 (fun _ h9 => h9) rfl (by decide +kernel) rfl rfl (Nat.le_of_ble_eq_true rfl) dX5_readClause_40 (fun H locs hP hD hS => ?_)
    have hP : va_P D vwCl [(a_this, .inr (5, [.ref a_letters, .int length, .int (place + 1), .int fault, .int faultAt])), (a_letters, .inl (cI, 240, .inl letters)), (a_p1, .inr (2, [.ref a_p1_marks, .ref a_p1_inWeathers, .ref a_p1_inHours, .ref a_p1_fears, .ref a_p1_weathers, .ref a_p1_hours, .ref a_p1_dangers, .int p1_pay, .int p1_people, .int p1_days])), (a_p1_marks, .inl (cI, 8, .inl p1_marks)), (a_p1_inWeathers, .inl (cI, 8, .inl p1_inWeathers)), (a_p1_inHours, .inl (cI, 8, .inl p1_inHours)), (a_p1_fears, .inl (cI, 8, .inl p1_fears)), (a_p1_weathers, .inl (cI, 10, .inl p1_weathers)), (a_p1_hours, .inl (cI, 10, .inl p1_hours)), (a_p1_dangers, .inl (cI, 10, .inl p1_dangers))] H := hP
    have hD : va_D A [(a_this, .inr (5, [.ref a_letters, .int length, .int (place + 1), .int fault, .int faultAt])), (a_letters, .inl (cI, 240, .inl letters)), (a_p1, .inr (2, [.ref a_p1_marks, .ref a_p1_inWeathers, .ref a_p1_inHours, .ref a_p1_fears, .ref a_p1_weathers, .ref a_p1_hours, .ref a_p1_dangers, .int p1_pay, .int p1_people, .int p1_days])), (a_p1_marks, .inl (cI, 8, .inl p1_marks)), (a_p1_inWeathers, .inl (cI, 8, .inl p1_inWeathers)), (a_p1_inHours, .inl (cI, 8, .inl p1_inHours)), (a_p1_fears, .inl (cI, 8, .inl p1_fears)), (a_p1_weathers, .inl (cI, 10, .inl p1_weathers)), (a_p1_hours, .inl (cI, 10, .inl p1_hours)), (a_p1_dangers, .inl (cI, 10, .inl p1_dangers))] := hD
    refine lv_iload_n hx hb dX5_readClause_43 rfl (lv_at hl 1 rfl) ?_
    by_cases c_44_107 : r_8 = 107
    · have hw := hw.1 c_44_107
      refine lv_lookup (off := 28) (tgt := 72) hx hb dX5_readClause_44 (by decide) (by rw [c_44_107]; rfl) (by decide) ?_
      refine lv_aload_n hx hb dX5_readClause_72 rfl (lv_at hl 2 rfl) ?_
      refine lv_aload_n hx hb dX5_readClause_73 rfl (lv_at hl 3 rfl) ?_
      refine xwVv (q0 := 0) (ci := 5) (wr := [(a_p1_marks, .inl (cI, 8, .inl p1_marks)), (a_p1_inWeathers, .inl (cI, 8, .inl p1_inWeathers)), (a_p1_inHours, .inl (cI, 8, .inl p1_inHours)), (a_p1_fears, .inl (cI, 8, .inl p1_fears)), (a_p1_weathers, .inl (cI, 10, .inl p1_weathers)), (a_p1_hours, .inl (cI, 10, .inl p1_hours)), (a_p1_dangers, .inl (cI, 10, .inl p1_dangers))]) (As := [.ref a_p1]) (rest := []) (wc := [(a_this, .inr (5, [.ref a_letters, .int length, .int (place + 1), .int fault, .int faultAt])), (a_letters, .inl (cI, 240, .inl letters)), (a_p1, .inr (2, [.ref a_p1_marks, .ref a_p1_inWeathers, .ref a_p1_inHours, .ref a_p1_fears, .ref a_p1_weathers, .ref a_p1_hours, .ref a_p1_dangers, .int p1_pay, .int p1_people, .int p1_days]))]) (fun (u : Int32 × Int32 × Int32 × Int32) => [(a_this, .inr (5, [.ref a_letters, .int length, .int u.1, .int u.2.1, .int u.2.2.1])), (a_letters, .inl (cI, 240, .inl letters)), (a_p1, .inr (2, [.ref a_p1_marks, .ref a_p1_inWeathers, .ref a_p1_inHours, .ref a_p1_fears, .ref a_p1_weathers, .ref a_p1_hours, .ref a_p1_dangers, .int u.2.2.2, .int p1_people, .int p1_days])), (a_p1_marks, .inl (cI, 8, .inl p1_marks)), (a_p1_inWeathers, .inl (cI, 8, .inl p1_inWeathers)), (a_p1_inHours, .inl (cI, 8, .inl p1_inHours)), (a_p1_fears, .inl (cI, 8, .inl p1_fears)), (a_p1_weathers, .inl (cI, 10, .inl p1_weathers)), (a_p1_hours, .inl (cI, 10, .inl p1_hours)), (a_p1_dangers, .inl (cI, 10, .inl p1_dangers))]) ⟨hx, hb, hml, hown, hts⟩ (c_X5_readKing l D cI cZ cO hw) (cwV 1 hts gX5_readClause_X5_readKing rfl rfl rfl (by decide +kernel) ⟨Nat.le_of_ble_eq_true rfl, Nat.le_of_ble_eq_true rfl⟩) hKK hP hD hS hA [0, 1, 2] [3, 4, 5, 6, 7, 8, 9] [7, 8, 9, 0, 1, 2, 3, 4, 5, 6] rfl rfl rfl rfl rfl (by decide) (fun _ => rfl) rfl rfl rfl hl.1 rfl (Nat.le_of_ble_eq_true rfl) dX5_readClause_74 ⟨Nat.zero_le _, Nat.zero_le _⟩ (fun u_74 H locs hw hP hD hS => ?_)
      obtain ⟨place_74, fault_74, faultAt_74, p1_pay_74⟩ := u_74
      try dsimp only at hw
      have hP : va_P D vwCl [(a_this, .inr (5, [.ref a_letters, .int length, .int place_74, .int fault_74, .int faultAt_74])), (a_letters, .inl (cI, 240, .inl letters)), (a_p1, .inr (2, [.ref a_p1_marks, .ref a_p1_inWeathers, .ref a_p1_inHours, .ref a_p1_fears, .ref a_p1_weathers, .ref a_p1_hours, .ref a_p1_dangers, .int p1_pay_74, .int p1_people, .int p1_days])), (a_p1_marks, .inl (cI, 8, .inl p1_marks)), (a_p1_inWeathers, .inl (cI, 8, .inl p1_inWeathers)), (a_p1_inHours, .inl (cI, 8, .inl p1_inHours)), (a_p1_fears, .inl (cI, 8, .inl p1_fears)), (a_p1_weathers, .inl (cI, 10, .inl p1_weathers)), (a_p1_hours, .inl (cI, 10, .inl p1_hours)), (a_p1_dangers, .inl (cI, 10, .inl p1_dangers))] H := hP
      have hD : va_D A [(a_this, .inr (5, [.ref a_letters, .int length, .int place_74, .int fault_74, .int faultAt_74])), (a_letters, .inl (cI, 240, .inl letters)), (a_p1, .inr (2, [.ref a_p1_marks, .ref a_p1_inWeathers, .ref a_p1_inHours, .ref a_p1_fears, .ref a_p1_weathers, .ref a_p1_hours, .ref a_p1_dangers, .int p1_pay_74, .int p1_people, .int p1_days])), (a_p1_marks, .inl (cI, 8, .inl p1_marks)), (a_p1_inWeathers, .inl (cI, 8, .inl p1_inWeathers)), (a_p1_inHours, .inl (cI, 8, .inl p1_inHours)), (a_p1_fears, .inl (cI, 8, .inl p1_fears)), (a_p1_weathers, .inl (cI, 10, .inl p1_weathers)), (a_p1_hours, .inl (cI, 10, .inl p1_hours)), (a_p1_dangers, .inl (cI, 10, .inl p1_dangers))] := hD
      refine lv_goto (tgt := 93) hx hb dX5_readClause_77 (by decide) ?_
      rw [hQ]
      exact W.vret hx hb hr (fun t ht _ => ⟨⟨⟨place_74, fault_74, faultAt_74, p1_pay_74, p1_marks, p1_inWeathers, p1_inHours, p1_fears, p1_people, p1_weathers, p1_hours, p1_dangers, p1_days⟩, rfl, hw, by rw [ht]; exact hP, hD⟩, hS.F ht⟩) hS.2.2 dX5_readClause_93
    have hw := hw.2 c_44_107
    by_cases c_44_112 : r_8 = 112
    · have hw := hw.1 c_44_112
      refine lv_lookup (off := 36) (tgt := 80) hx hb dX5_readClause_44 (by decide) (by rw [c_44_112]; rfl) (by decide) ?_
      refine lv_aload_n hx hb dX5_readClause_80 rfl (lv_at hl 2 rfl) ?_
      refine lv_aload_n hx hb dX5_readClause_81 rfl (lv_at hl 3 rfl) ?_
      refine xwVv (q0 := 0) (ci := 5) (wr := [(a_p1_weathers, .inl (cI, 10, .inl p1_weathers)), (a_p1_hours, .inl (cI, 10, .inl p1_hours)), (a_p1_dangers, .inl (cI, 10, .inl p1_dangers))]) (As := [.ref a_p1]) (rest := []) (wc := [(a_this, .inr (5, [.ref a_letters, .int length, .int (place + 1), .int fault, .int faultAt])), (a_letters, .inl (cI, 240, .inl letters)), (a_p1, .inr (2, [.ref a_p1_marks, .ref a_p1_inWeathers, .ref a_p1_inHours, .ref a_p1_fears, .ref a_p1_weathers, .ref a_p1_hours, .ref a_p1_dangers, .int p1_pay, .int p1_people, .int p1_days])), (a_p1_marks, .inl (cI, 8, .inl p1_marks)), (a_p1_inWeathers, .inl (cI, 8, .inl p1_inWeathers)), (a_p1_inHours, .inl (cI, 8, .inl p1_inHours)), (a_p1_fears, .inl (cI, 8, .inl p1_fears))]) (fun (u : Int32 × Int32 × Int32 × (Nat → Int32) × (Nat → Int32) × (Nat → Int32) × (Nat → Int32) × Int32) => [(a_this, .inr (5, [.ref a_letters, .int length, .int u.1, .int u.2.1, .int u.2.2.1])), (a_letters, .inl (cI, 240, .inl letters)), (a_p1, .inr (2, [.ref a_p1_marks, .ref a_p1_inWeathers, .ref a_p1_inHours, .ref a_p1_fears, .ref a_p1_weathers, .ref a_p1_hours, .ref a_p1_dangers, .int p1_pay, .int u.2.2.2.2.2.2.2, .int p1_days])), (a_p1_marks, .inl (cI, 8, .inl u.2.2.2.1)), (a_p1_inWeathers, .inl (cI, 8, .inl u.2.2.2.2.1)), (a_p1_inHours, .inl (cI, 8, .inl u.2.2.2.2.2.1)), (a_p1_fears, .inl (cI, 8, .inl u.2.2.2.2.2.2.1)), (a_p1_weathers, .inl (cI, 10, .inl p1_weathers)), (a_p1_hours, .inl (cI, 10, .inl p1_hours)), (a_p1_dangers, .inl (cI, 10, .inl p1_dangers))]) ⟨hx, hb, hml, hown, hts⟩ (c_X5_readPerson l D cI cZ cO hw) (cwV 1 hts gX5_readClause_X5_readPerson rfl rfl rfl (by decide +kernel) ⟨Nat.le_of_ble_eq_true rfl, Nat.le_of_ble_eq_true rfl⟩) hKK hP hD hS hA [0, 1, 2, 3, 4, 5, 6] [7, 8, 9] [3, 4, 5, 6, 7, 8, 9, 0, 1, 2] rfl rfl rfl rfl rfl (by decide) (fun _ => rfl) rfl rfl rfl hl.1 rfl (Nat.le_of_ble_eq_true rfl) dX5_readClause_82 ⟨Nat.zero_le _, Nat.zero_le _⟩ (fun u_82 H locs hw hP hD hS => ?_)
      obtain ⟨place_82, fault_82, faultAt_82, p1_marks_82, p1_inWeathers_82, p1_inHours_82, p1_fears_82, p1_people_82⟩ := u_82
      try dsimp only at hw
      have hP : va_P D vwCl [(a_this, .inr (5, [.ref a_letters, .int length, .int place_82, .int fault_82, .int faultAt_82])), (a_letters, .inl (cI, 240, .inl letters)), (a_p1, .inr (2, [.ref a_p1_marks, .ref a_p1_inWeathers, .ref a_p1_inHours, .ref a_p1_fears, .ref a_p1_weathers, .ref a_p1_hours, .ref a_p1_dangers, .int p1_pay, .int p1_people_82, .int p1_days])), (a_p1_marks, .inl (cI, 8, .inl p1_marks_82)), (a_p1_inWeathers, .inl (cI, 8, .inl p1_inWeathers_82)), (a_p1_inHours, .inl (cI, 8, .inl p1_inHours_82)), (a_p1_fears, .inl (cI, 8, .inl p1_fears_82)), (a_p1_weathers, .inl (cI, 10, .inl p1_weathers)), (a_p1_hours, .inl (cI, 10, .inl p1_hours)), (a_p1_dangers, .inl (cI, 10, .inl p1_dangers))] H := hP
      have hD : va_D A [(a_this, .inr (5, [.ref a_letters, .int length, .int place_82, .int fault_82, .int faultAt_82])), (a_letters, .inl (cI, 240, .inl letters)), (a_p1, .inr (2, [.ref a_p1_marks, .ref a_p1_inWeathers, .ref a_p1_inHours, .ref a_p1_fears, .ref a_p1_weathers, .ref a_p1_hours, .ref a_p1_dangers, .int p1_pay, .int p1_people_82, .int p1_days])), (a_p1_marks, .inl (cI, 8, .inl p1_marks_82)), (a_p1_inWeathers, .inl (cI, 8, .inl p1_inWeathers_82)), (a_p1_inHours, .inl (cI, 8, .inl p1_inHours_82)), (a_p1_fears, .inl (cI, 8, .inl p1_fears_82)), (a_p1_weathers, .inl (cI, 10, .inl p1_weathers)), (a_p1_hours, .inl (cI, 10, .inl p1_hours)), (a_p1_dangers, .inl (cI, 10, .inl p1_dangers))] := hD
      refine lv_goto (tgt := 93) hx hb dX5_readClause_85 (by decide) ?_
      rw [hQ]
      exact W.vret hx hb hr (fun t ht _ => ⟨⟨⟨place_82, fault_82, faultAt_82, p1_pay, p1_marks_82, p1_inWeathers_82, p1_inHours_82, p1_fears_82, p1_people_82, p1_weathers, p1_hours, p1_dangers, p1_days⟩, rfl, hw, by rw [ht]; exact hP, hD⟩, hS.F ht⟩) hS.2.2 dX5_readClause_93
    have hw := hw.2 c_44_112
    refine lv_lookup (off := 44) (tgt := 88) hx hb dX5_readClause_44 (by decide) (by show Op.lookupswitch.offset [((107 : Int), (28 : Int)), ((112 : Int), (36 : Int))] _ _ = _; rw [lv_osw c_44_107 (by decide), lv_osw c_44_112 (by decide)]; rfl) (by decide) ?_
    refine lv_aload_n hx hb dX5_readClause_88 rfl (lv_at hl 2 rfl) ?_
    refine lv_aload_n hx hb dX5_readClause_89 rfl (lv_at hl 3 rfl) ?_
    refine xwVv (q0 := 0) (ci := 5) (wr := [(a_p1_marks, .inl (cI, 8, .inl p1_marks)), (a_p1_inWeathers, .inl (cI, 8, .inl p1_inWeathers)), (a_p1_inHours, .inl (cI, 8, .inl p1_inHours)), (a_p1_fears, .inl (cI, 8, .inl p1_fears))]) (As := [.ref a_p1]) (rest := []) (wc := [(a_this, .inr (5, [.ref a_letters, .int length, .int (place + 1), .int fault, .int faultAt])), (a_letters, .inl (cI, 240, .inl letters)), (a_p1, .inr (2, [.ref a_p1_marks, .ref a_p1_inWeathers, .ref a_p1_inHours, .ref a_p1_fears, .ref a_p1_weathers, .ref a_p1_hours, .ref a_p1_dangers, .int p1_pay, .int p1_people, .int p1_days])), (a_p1_weathers, .inl (cI, 10, .inl p1_weathers)), (a_p1_hours, .inl (cI, 10, .inl p1_hours)), (a_p1_dangers, .inl (cI, 10, .inl p1_dangers))]) (fun (u : Int32 × Int32 × Int32 × (Nat → Int32) × (Nat → Int32) × (Nat → Int32) × Int32) => [(a_this, .inr (5, [.ref a_letters, .int length, .int u.1, .int u.2.1, .int u.2.2.1])), (a_letters, .inl (cI, 240, .inl letters)), (a_p1, .inr (2, [.ref a_p1_marks, .ref a_p1_inWeathers, .ref a_p1_inHours, .ref a_p1_fears, .ref a_p1_weathers, .ref a_p1_hours, .ref a_p1_dangers, .int p1_pay, .int p1_people, .int u.2.2.2.2.2.2])), (a_p1_marks, .inl (cI, 8, .inl p1_marks)), (a_p1_inWeathers, .inl (cI, 8, .inl p1_inWeathers)), (a_p1_inHours, .inl (cI, 8, .inl p1_inHours)), (a_p1_fears, .inl (cI, 8, .inl p1_fears)), (a_p1_weathers, .inl (cI, 10, .inl u.2.2.2.1)), (a_p1_hours, .inl (cI, 10, .inl u.2.2.2.2.1)), (a_p1_dangers, .inl (cI, 10, .inl u.2.2.2.2.2.1))]) ⟨hx, hb, hml, hown, hts⟩ (c_X5_readDay l D cI cZ cO hw) (cwV 1 hts gX5_readClause_X5_readDay rfl rfl rfl (by decide +kernel) ⟨Nat.le_of_ble_eq_true rfl, Nat.le_of_ble_eq_true rfl⟩) hKK hP hD hS hA [0, 1, 2, 7, 8, 9] [3, 4, 5, 6] [4, 5, 6, 0, 1, 2, 3, 7, 8, 9] rfl rfl rfl rfl rfl (by decide) (fun _ => rfl) rfl rfl rfl hl.1 rfl (Nat.le_of_ble_eq_true rfl) dX5_readClause_90 ⟨Nat.zero_le _, Nat.zero_le _⟩ (fun u_90 H locs hw hP hD hS => ?_)
    obtain ⟨place_90, fault_90, faultAt_90, p1_weathers_90, p1_hours_90, p1_dangers_90, p1_days_90⟩ := u_90
    try dsimp only at hw
    have hP : va_P D vwCl [(a_this, .inr (5, [.ref a_letters, .int length, .int place_90, .int fault_90, .int faultAt_90])), (a_letters, .inl (cI, 240, .inl letters)), (a_p1, .inr (2, [.ref a_p1_marks, .ref a_p1_inWeathers, .ref a_p1_inHours, .ref a_p1_fears, .ref a_p1_weathers, .ref a_p1_hours, .ref a_p1_dangers, .int p1_pay, .int p1_people, .int p1_days_90])), (a_p1_marks, .inl (cI, 8, .inl p1_marks)), (a_p1_inWeathers, .inl (cI, 8, .inl p1_inWeathers)), (a_p1_inHours, .inl (cI, 8, .inl p1_inHours)), (a_p1_fears, .inl (cI, 8, .inl p1_fears)), (a_p1_weathers, .inl (cI, 10, .inl p1_weathers_90)), (a_p1_hours, .inl (cI, 10, .inl p1_hours_90)), (a_p1_dangers, .inl (cI, 10, .inl p1_dangers_90))] H := hP
    have hD : va_D A [(a_this, .inr (5, [.ref a_letters, .int length, .int place_90, .int fault_90, .int faultAt_90])), (a_letters, .inl (cI, 240, .inl letters)), (a_p1, .inr (2, [.ref a_p1_marks, .ref a_p1_inWeathers, .ref a_p1_inHours, .ref a_p1_fears, .ref a_p1_weathers, .ref a_p1_hours, .ref a_p1_dangers, .int p1_pay, .int p1_people, .int p1_days_90])), (a_p1_marks, .inl (cI, 8, .inl p1_marks)), (a_p1_inWeathers, .inl (cI, 8, .inl p1_inWeathers)), (a_p1_inHours, .inl (cI, 8, .inl p1_inHours)), (a_p1_fears, .inl (cI, 8, .inl p1_fears)), (a_p1_weathers, .inl (cI, 10, .inl p1_weathers_90)), (a_p1_hours, .inl (cI, 10, .inl p1_hours_90)), (a_p1_dangers, .inl (cI, 10, .inl p1_dangers_90))] := hD
    rw [hQ]
    exact W.vret hx hb hr (fun t ht _ => ⟨⟨⟨place_90, fault_90, faultAt_90, p1_pay, p1_marks, p1_inWeathers, p1_inHours, p1_fears, p1_people, p1_weathers_90, p1_hours_90, p1_dangers_90, p1_days_90⟩, rfl, hw, by rw [ht]; exact hP, hD⟩, hS.F ht⟩) hS.2.2 dX5_readClause_93
  · have hw := hw.2 c_20
    refine lv_aload_n hx hb dX5_readClause_23 rfl (lv_at hl 2 rfl) ?_
    refine lv_iload_n hx hb dX5_readClause_24 rfl (lv_at hl 0 rfl) ?_
    refine lv_aload_n hx hb dX5_readClause_25 rfl (lv_at hl 2 rfl) ?_
    refine va_get (D := D) (ci := 5) (v := .int place) (C := RX5) (T := TX5) (N := 5) hx hb hts hinX5 hown hKK.1 hP 0 rfl rfl 2 (by decide) fl_19 (fun _ h9 => h9) rfl dX5_readClause_26 ?_
    refine xwVv (q0 := 0) (ci := 5) (wr := [(a_letters, .inl (cI, 240, .inl letters)), (a_p1, .inr (2, [.ref a_p1_marks, .ref a_p1_inWeathers, .ref a_p1_inHours, .ref a_p1_fears, .ref a_p1_weathers, .ref a_p1_hours, .ref a_p1_dangers, .int p1_pay, .int p1_people, .int p1_days])), (a_p1_marks, .inl (cI, 8, .inl p1_marks)), (a_p1_inWeathers, .inl (cI, 8, .inl p1_inWeathers)), (a_p1_inHours, .inl (cI, 8, .inl p1_inHours)), (a_p1_fears, .inl (cI, 8, .inl p1_fears)), (a_p1_weathers, .inl (cI, 10, .inl p1_weathers)), (a_p1_hours, .inl (cI, 10, .inl p1_hours)), (a_p1_dangers, .inl (cI, 10, .inl p1_dangers))]) (As := [.int r_15, .int place]) (rest := []) (wc := [(a_this, .inr (5, [.ref a_letters, .int length, .int place, .int fault, .int faultAt]))]) (fun (u : Int32 × Int32) => [(a_this, .inr (5, [.ref a_letters, .int length, .int place, .int u.1, .int u.2])), (a_letters, .inl (cI, 240, .inl letters)), (a_p1, .inr (2, [.ref a_p1_marks, .ref a_p1_inWeathers, .ref a_p1_inHours, .ref a_p1_fears, .ref a_p1_weathers, .ref a_p1_hours, .ref a_p1_dangers, .int p1_pay, .int p1_people, .int p1_days])), (a_p1_marks, .inl (cI, 8, .inl p1_marks)), (a_p1_inWeathers, .inl (cI, 8, .inl p1_inWeathers)), (a_p1_inHours, .inl (cI, 8, .inl p1_inHours)), (a_p1_fears, .inl (cI, 8, .inl p1_fears)), (a_p1_weathers, .inl (cI, 10, .inl p1_weathers)), (a_p1_hours, .inl (cI, 10, .inl p1_hours)), (a_p1_dangers, .inl (cI, 10, .inl p1_dangers))]) ⟨hx, hb, hml, hown, hts⟩ (c_X5_fail l D cI cZ cO hw) (cwV 2 hts gX5_readClause_X5_fail rfl rfl rfl (by decide +kernel) ⟨Nat.le_of_ble_eq_true rfl, Nat.le_of_ble_eq_true rfl⟩) hKK hP hD hS hA [0] [1, 2, 3, 4, 5, 6, 7, 8, 9] [9, 0, 1, 2, 3, 4, 5, 6, 7, 8] rfl rfl rfl rfl rfl (by decide) (fun _ => rfl) rfl rfl rfl hl.1 rfl (Nat.le_of_ble_eq_true rfl) dX5_readClause_29 ⟨Nat.zero_le _, Nat.zero_le _⟩ (fun u_29 H locs hw hP hD hS => ?_)
    obtain ⟨fault_29, faultAt_29⟩ := u_29
    try dsimp only at hw
    have hP : va_P D vwCl [(a_this, .inr (5, [.ref a_letters, .int length, .int place, .int fault_29, .int faultAt_29])), (a_letters, .inl (cI, 240, .inl letters)), (a_p1, .inr (2, [.ref a_p1_marks, .ref a_p1_inWeathers, .ref a_p1_inHours, .ref a_p1_fears, .ref a_p1_weathers, .ref a_p1_hours, .ref a_p1_dangers, .int p1_pay, .int p1_people, .int p1_days])), (a_p1_marks, .inl (cI, 8, .inl p1_marks)), (a_p1_inWeathers, .inl (cI, 8, .inl p1_inWeathers)), (a_p1_inHours, .inl (cI, 8, .inl p1_inHours)), (a_p1_fears, .inl (cI, 8, .inl p1_fears)), (a_p1_weathers, .inl (cI, 10, .inl p1_weathers)), (a_p1_hours, .inl (cI, 10, .inl p1_hours)), (a_p1_dangers, .inl (cI, 10, .inl p1_dangers))] H := hP
    have hD : va_D A [(a_this, .inr (5, [.ref a_letters, .int length, .int place, .int fault_29, .int faultAt_29])), (a_letters, .inl (cI, 240, .inl letters)), (a_p1, .inr (2, [.ref a_p1_marks, .ref a_p1_inWeathers, .ref a_p1_inHours, .ref a_p1_fears, .ref a_p1_weathers, .ref a_p1_hours, .ref a_p1_dangers, .int p1_pay, .int p1_people, .int p1_days])), (a_p1_marks, .inl (cI, 8, .inl p1_marks)), (a_p1_inWeathers, .inl (cI, 8, .inl p1_inWeathers)), (a_p1_inHours, .inl (cI, 8, .inl p1_inHours)), (a_p1_fears, .inl (cI, 8, .inl p1_fears)), (a_p1_weathers, .inl (cI, 10, .inl p1_weathers)), (a_p1_hours, .inl (cI, 10, .inl p1_hours)), (a_p1_dangers, .inl (cI, 10, .inl p1_dangers))] := hD
    rw [hQ]
    exact W.vret hx hb hr (fun t ht _ => ⟨⟨⟨place, fault_29, faultAt_29, p1_pay, p1_marks, p1_inWeathers, p1_inHours, p1_fears, p1_people, p1_weathers, p1_hours, p1_dangers, p1_days⟩, rfl, hw, by rw [ht]; exact hP, hD⟩, hS.F ht⟩) hS.2.2 dX5_readClause_32
