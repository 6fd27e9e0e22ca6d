def wk_X7_canFill_10 (Φ : Int32 → Prop) (x5_10 : Int32) : Prop :=
  (Φ 1)
def wk_X7_canFill_23 (Φ : Int32 → Prop) (x5_10 : Int32) (rec_10 : Int32 → Prop) (x6_23 : Int32) (x7_23 : Int32) : Prop :=
  (wp_J6_bitCount_0f7a4 x6_23 (fun r_67 => (wp_J6_bitCount_0f7a4 x5_10 (fun r_72 => ((r_72 ≤ r_67 → (rec_10 (x5_10 + 1))) ∧ (¬ r_72 ≤ r_67 → (Φ 0)))))))
def wb_X7_canFill_23 (goers : Nat → Int32) (p1 : Int32) (p2 : Int32) (p3 : Int32) (x5_10 : Int32) (K_23 : Int32 → Int32 → Prop) (rec_23 : Int32 → Int32 → Prop) (x6_23 : Int32) (x7_23 : Int32) : Prop :=
  ((p2 ≤ x7_23 → (K_23 x6_23 x7_23)) ∧ (¬ p2 ≤ x7_23 → (wp_X7_holds x5_10 (x7_23 - p1) (fun r_35 => ((r_35 = 0 → (rec_23 x6_23 (x7_23 + 1))) ∧ (¬ r_35 = 0 → (wp_X7_at goers 6 x7_23 (fun r_49 => (rec_23 (x6_23 ||| (r_49 &&& (p3 ^^^ (-1)))) (x7_23 + 1))))))))))
def wb_X7_canFill_10 (goers : Nat → Int32) (p1 : Int32) (p2 : Int32) (p3 : Int32) (Φ : Int32 → Prop) (K_10 : Int32 → Prop) (rec_10 : Int32 → Prop) (x5_10 : Int32) : Prop :=
  ((((1 : Int32) <<< ((p2 - p1) &&& 31)) ≤ x5_10 → (K_10 x5_10)) ∧ (¬ ((1 : Int32) <<< ((p2 - p1) &&& 31)) ≤ x5_10 → (∃ n : Nat, xit2 (wb_X7_canFill_23 goers p1 p2 p3 x5_10 (wk_X7_canFill_23 Φ x5_10 rec_10)) n 0 p1)))
def wp_X7_canFill (goers : Nat → Int32) (p1 : Int32) (p2 : Int32) (p3 : Int32) (Φ : Int32 → Prop) : Prop :=
  (∃ n : Nat, xit1 (wb_X7_canFill_10 goers p1 p2 p3 Φ (wk_X7_canFill_10 Φ)) n 1)
abbrev xrm_X7_canFill : Room := { frames := 1, cells := 0, slots := 0, locals := 21 }
set_option maxRecDepth 100000 in
set_option maxHeartbeats 4000000 in
theorem c_X7_canFill (l : Launch) (D : va_G) (cI cZ cO : ClassId) {a_text : Nat} {a_now : Nat} {a_past : Nat} {a_imageZero : Nat} {a_imageOne : Nat} {a_watched : Nat} {a_book : Nat} {a_goers : Nat} {a_theCourt : Nat} {a_draft : Nat} {theSeed : Int32} {a_this : Nat} {goers : Nat → Int32} {p1 : Int32} {p2 : Int32} {p3 : Int32} {Φ : Int32 → Prop} (hw : (wp_X7_canFill goers p1 p2 p3 Φ)) : Met l yX7_canFill wsX7_canFill xrm_X7_canFill (xPR D cI cZ cO [.ref a_this, .int p1, .int p2, .int p3] [(a_this, .inr (7, [.ref a_text, .ref a_now, .ref a_past, .ref a_imageZero, .ref a_imageOne, .ref a_watched, .ref a_book, .ref a_goers, .ref a_theCourt, .ref a_draft, .int theSeed])), (a_goers, .inl (cI, 6, .inl goers))]) (vp_Si Φ) 0 0 (fun _ => False) := by
  refine Met.ofW (cc := cX7_canFill) (maxL := 8) (ret := (some .boolean)) (by decide) rfl ?_
  intro p e s m args below meth c s₁ B hml hv
  obtain ⟨rfl, hP, hKK⟩ := hv
  have hx := B.exec
  have hb := B.bytes
  have hr := B.returns
  have hts := atoms_spec (ws := wsX7_canFill) B.pre
  have hown : s.vm.findClass RX7 = some m.cls := findClass_of_methodNamed B.named
  have hlocks := B.notSynchronized
  obtain ⟨Q, hQ⟩ : ∃ Q, Q = MQ below (vp_Si Φ) ([.ref a_this, .int p1, .int p2, .int p3] : List Value).toArray s 0 0 (fun _ => False) := ⟨_, rfl⟩
  rw [← hQ]
  have hl := lv_entry ([.ref a_this, .int p1, .int p2, .int p3]) (n := 8) (Nat.le_of_ble_eq_true rfl)
  rw [lg_entry_eq]
  generalize (lg_sl ([.ref a_this, .int p1, .int p2, .int p3]) ++ List.replicate (8 - (lg_sl ([.ref a_this, .int p1, .int p2, .int p3])).length) Slot.unset).toArray = ls at hl ⊢
  have hl : lv_has ls 8 [(0, .ref a_this), (1, .int p1), (2, .int p2), (3, .int p3)] := hl
  generalize ([.ref a_this, .int p1, .int p2, .int p3] : List Value).toArray = args at hts hQ ⊢
  have hP : va_P D vwCl [(a_this, .inr (7, [.ref a_text, .ref a_now, .ref a_past, .ref a_imageZero, .ref a_imageOne, .ref a_watched, .ref a_book, .ref a_goers, .ref a_theCourt, .ref a_draft, .int theSeed])), (a_goers, .inl (cI, 6, .inl goers))] s.heap := hP
  have hinX7 : ∀ w ∈ u_ws RX7 TX7 11, w ∈ wsX7_canFill := by decide +kernel
  have fl_54 := hts (.fieldLink RX7 54 "DoubleChain" "goers" "[I") (by decide +kernel)
  clear B
  show W p l e xrm_X7_canFill s m args below meth c s.heap [] 0 0 Q (F0 m 0 ls [])
  unfold wp_X7_canFill at hw
  refine lv_iconst (v := 1) hx hb dX7_canFill_0 (by decide) ?_
  refine lv_iload_n hx hb dX7_canFill_1 rfl (lv_at hl 2 rfl) ?_
  refine lv_iload_n hx hb dX7_canFill_2 rfl (lv_at hl 1 rfl) ?_
  refine lv_isub hx hb dX7_canFill_3 ?_
  refine lv_ishl hx hb dX7_canFill_4 ?_
  refine lv_istore (lv' := [(4, .int ((1 : Int32) <<< ((p2 - p1) &&& 31))), (0, .ref a_this), (1, .int p1), (2, .int p2), (3, .int p3)]) hx hb dX7_canFill_5 hl (by decide) rfl (fun ls hl => ?_)
  refine lv_iconst (v := 1) hx hb dX7_canFill_7 (by decide) ?_
  refine lv_istore (lv' := [(5, .int 1), (4, .int ((1 : Int32) <<< ((p2 - p1) &&& 31))), (0, .ref a_this), (1, .int p1), (2, .int p2), (3, .int p3)]) hx hb dX7_canFill_8 hl (by decide) rfl (fun ls hl => ?_)
  have EX_10 : ∀ (x5_10 : Int32), ∀ (ls : Array Slot), lv_has ls 8 [(0, .ref a_this), (1, .int p1), (2, .int p2), (3, .int p3), (4, .int ((1 : Int32) <<< ((p2 - p1) &&& 31))), (5, .int x5_10)] → (wk_X7_canFill_10 Φ x5_10) → W p l e xrm_X7_canFill s m args below meth c s.heap [] 0 0 Q (F0 m 86 ls []) := by
    intro x5_10 ls hl hw
    unfold wk_X7_canFill_10 at hw
    refine lv_iconst (v := 1) hx hb dX7_canFill_86 (by decide) ?_
    rw [hQ]
    exact W.zret (v := 1) hx hb hr xvz_1 (fun t ht _ => ⟨1, rfl, hw, ht⟩) (fun _ h => (List.not_mem_nil h).elim) dX7_canFill_87
  generalize (wk_X7_canFill_10 Φ) = K_10 at EX_10 hw
  have LP_10 : ∀ n : Nat, ∀ (x5_10 : Int32), ∀ (ls : Array Slot), lv_has ls 8 [(0, .ref a_this), (1, .int p1), (2, .int p2), (3, .int p3), (4, .int ((1 : Int32) <<< ((p2 - p1) &&& 31))), (5, .int x5_10)] → xit1 (wb_X7_canFill_10 goers p1 p2 p3 Φ K_10) n x5_10 → W p l e xrm_X7_canFill s m args below meth c s.heap [] 0 0 Q (F0 m 10 ls []) := by
    intro n
    induction n with
    | zero => intro x5_10 ls hl hw; exact (show False from hw).elim
    | succ n ih =>
      intro x5_10 ls hl hw
      have hw : wb_X7_canFill_10 goers p1 p2 p3 Φ K_10 (xit1 (wb_X7_canFill_10 goers p1 p2 p3 Φ K_10) n) x5_10 := hw
      generalize xit1 (wb_X7_canFill_10 goers p1 p2 p3 Φ K_10) n = rec_10 at ih hw
      unfold wb_X7_canFill_10 at hw
      refine lv_iload hx hb dX7_canFill_10 (lv_at hl 5 rfl) ?_
      refine lv_iload hx hb dX7_canFill_12 (lv_at hl 4 rfl) ?_
      refine lv_icmp_ge (tgt := 86) hx hb dX7_canFill_14 (by decide) (fun c_14 => ?_) (fun c_14 => ?_)
      · have hw := hw.1 c_14
        exact EX_10 _ ls (lv_sub hl [0, 1, 2, 3, 4, 5] rfl) hw
      · have hw := hw.2 c_14
        refine lv_iconst (v := 0) hx hb dX7_canFill_17 (by decide) ?_
        refine lv_istore (lv' := [(6, .int 0), (0, .ref a_this), (1, .int p1), (2, .int p2), (3, .int p3), (4, .int ((1 : Int32) <<< ((p2 - p1) &&& 31))), (5, .int x5_10)]) hx hb dX7_canFill_18 hl (by decide) rfl (fun ls hl => ?_)
        refine lv_iload_n hx hb dX7_canFill_20 rfl (lv_at hl 2 rfl) ?_
        refine lv_istore (lv' := [(7, .int p1), (6, .int 0), (0, .ref a_this), (1, .int p1), (2, .int p2), (3, .int p3), (4, .int ((1 : Int32) <<< ((p2 - p1) &&& 31))), (5, .int x5_10)]) hx hb dX7_canFill_21 hl (by decide) rfl (fun ls hl => ?_)
        have EX_23 : ∀ (x6_23 : Int32) (x7_23 : Int32), ∀ (ls : Array Slot), lv_has ls 8 [(0, .ref a_this), (1, .int p1), (2, .int p2), (3, .int p3), (4, .int ((1 : Int32) <<< ((p2 - p1) &&& 31))), (5, .int x5_10), (6, .int x6_23), (7, .int x7_23)] → (wk_X7_canFill_23 Φ x5_10 rec_10 x6_23 x7_23) → W p l e xrm_X7_canFill s m args below meth c s.heap [] 0 0 Q (F0 m 65 ls []) := by
          intro x6_23 x7_23 ls hl hw
          unfold wk_X7_canFill_23 at hw
          refine lv_iload hx hb dX7_canFill_65 (lv_at hl 6 rfl) ?_
          refine xcSi (As := [.int x6_23]) (rest := []) (wc := []) ⟨hx, hb, hml, hown, hts⟩ (c_J6_bitCount_0f7a4 l D cI cZ cO hw) (va_cwS 1 hts gX7_canFill_J6_bitCount_0f7a4 rfl rfl rfl (by decide +kernel) ⟨Nat.le_of_ble_eq_true rfl, Nat.le_of_ble_eq_true rfl⟩) hKK hP [] rfl rfl hl.1 rfl (Nat.le_of_ble_eq_true rfl) dX7_canFill_67 ⟨Nat.zero_le _, Nat.zero_le _⟩ (fun r_67 hw => ?_)
          refine lv_iload hx hb dX7_canFill_70 (lv_at hl 5 rfl) ?_
          refine xcSi (As := [.int x5_10]) (rest := [.int r_67]) (wc := []) ⟨hx, hb, hml, hown, hts⟩ (c_J6_bitCount_0f7a4 l D cI cZ cO hw) (va_cwS 1 hts gX7_canFill_J6_bitCount_0f7a4 rfl rfl rfl (by decide +kernel) ⟨Nat.le_of_ble_eq_true rfl, Nat.le_of_ble_eq_true rfl⟩) hKK hP [] rfl rfl hl.1 rfl (Nat.le_of_ble_eq_true rfl) dX7_canFill_72 ⟨Nat.zero_le _, Nat.zero_le _⟩ (fun r_72 hw => ?_)
          refine lv_icmp_ge (tgt := 80) hx hb dX7_canFill_75 (by decide) (fun c_75 => ?_) (fun c_75 => ?_)
          · have hw := hw.1 c_75
            refine lv_iinc (v := (x5_10 + 1)) (lv' := [(5, .int (x5_10 + 1)), (0, .ref a_this), (1, .int p1), (2, .int p2), (3, .int p3), (4, .int ((1 : Int32) <<< ((p2 - p1) &&& 31))), (6, .int x6_23), (7, .int x7_23)]) hx hb dX7_canFill_80 hl (k := 5) rfl (by rfl) (by decide) rfl (fun ls hl => ?_)
            refine lv_goto (tgt := 10) hx hb dX7_canFill_83 (by decide) ?_
            exact ih _ ls (lv_sub hl [1, 2, 3, 4, 5, 0] rfl) hw
          · have hw := hw.2 c_75
            refine lv_iconst (v := 0) hx hb dX7_canFill_78 (by decide) ?_
            rw [hQ]
            exact W.zret (v := 0) hx hb hr xvz_0 (fun t ht _ => ⟨0, rfl, hw, ht⟩) (fun _ h => (List.not_mem_nil h).elim) dX7_canFill_79
        generalize (wk_X7_canFill_23 Φ x5_10 rec_10) = K_23 at EX_23 hw
        have LP_23 : ∀ n : Nat, ∀ (x6_23 : Int32) (x7_23 : Int32), ∀ (ls : Array Slot), lv_has ls 8 [(0, .ref a_this), (1, .int p1), (2, .int p2), (3, .int p3), (4, .int ((1 : Int32) <<< ((p2 - p1) &&& 31))), (5, .int x5_10), (6, .int x6_23), (7, .int x7_23)] → xit2 (wb_X7_canFill_23 goers p1 p2 p3 x5_10 K_23) n x6_23 x7_23 → W p l e xrm_X7_canFill s m args below meth c s.heap [] 0 0 Q (F0 m 23 ls []) := by
          intro n
          induction n with
          | zero => intro x6_23 x7_23 ls hl hw; exact (show False from hw).elim
          | succ n ih =>
            intro x6_23 x7_23 ls hl hw
            have hw : wb_X7_canFill_23 goers p1 p2 p3 x5_10 K_23 (xit2 (wb_X7_canFill_23 goers p1 p2 p3 x5_10 K_23) n) x6_23 x7_23 := hw
            generalize xit2 (wb_X7_canFill_23 goers p1 p2 p3 x5_10 K_23) n = rec_23 at ih hw
            unfold wb_X7_canFill_23 at hw
            refine lv_iload hx hb dX7_canFill_23 (lv_at hl 7 rfl) ?_
            refine lv_iload_n hx hb dX7_canFill_25 rfl (lv_at hl 2 rfl) ?_
            refine lv_icmp_ge (tgt := 65) hx hb dX7_canFill_26 (by decide) (fun c_26 => ?_) (fun c_26 => ?_)
            · have hw := hw.1 c_26
              exact EX_23 _ _ ls (lv_sub hl [0, 1, 2, 3, 4, 5, 6, 7] rfl) hw
            · have hw := hw.2 c_26
              refine lv_iload hx hb dX7_canFill_29 (lv_at hl 5 rfl) ?_
              refine lv_iload hx hb dX7_canFill_31 (lv_at hl 7 rfl) ?_
              refine lv_iload_n hx hb dX7_canFill_33 rfl (lv_at hl 1 rfl) ?_
              refine lv_isub hx hb dX7_canFill_34 ?_
              refine xcSi (As := [.int x5_10, .int (x7_23 - p1)]) (rest := []) (wc := []) ⟨hx, hb, hml, hown, hts⟩ (c_X7_holds l D cI cZ cO hw) (va_cwS 2 hts gX7_canFill_X7_holds rfl rfl rfl (by decide +kernel) ⟨Nat.le_of_ble_eq_true rfl, Nat.le_of_ble_eq_true rfl⟩) hKK hP [] rfl rfl hl.1 rfl (Nat.le_of_ble_eq_true rfl) dX7_canFill_35 ⟨Nat.zero_le _, Nat.zero_le _⟩ (fun r_35 hw => ?_)
              refine lv_if_eq (tgt := 59) hx hb dX7_canFill_38 (by decide) (fun c_38 => ?_) (fun c_38 => ?_)
              · have hw := hw.1 c_38
                refine lv_iinc (v := (x7_23 + 1)) (lv' := [(7, .int (x7_23 + 1)), (0, .ref a_this), (1, .int p1), (2, .int p2), (3, .int p3), (4, .int ((1 : Int32) <<< ((p2 - p1) &&& 31))), (5, .int x5_10), (6, .int x6_23)]) hx hb dX7_canFill_59 hl (k := 7) rfl (by rfl) (by decide) rfl (fun ls hl => ?_)
                refine lv_goto (tgt := 23) hx hb dX7_canFill_62 (by decide) ?_
                exact ih _ _ ls (lv_sub hl [1, 2, 3, 4, 5, 6, 7, 0] rfl) hw
              · have hw := hw.2 c_38
                refine lv_iload hx hb dX7_canFill_41 (lv_at hl 6 rfl) ?_
                refine lv_aload_n hx hb dX7_canFill_43 rfl (lv_at hl 0 rfl) ?_
                refine va_get (D := D) (ci := 7) (v := .ref a_goers) (C := RX7) (T := TX7) (N := 11) hx hb hts hinX7 hown hKK.1 hP 0 rfl rfl 7 (by decide) fl_54 (fun _ h9 => h9) rfl dX7_canFill_44 ?_
                refine lv_iload hx hb dX7_canFill_47 (lv_at hl 7 rfl) ?_
                refine xcSi (As := [.ref a_goers, .int x7_23]) (rest := [.int x6_23]) (wc := [(a_goers, .inl (cI, 6, .inl goers))]) ⟨hx, hb, hml, hown, hts⟩ (c_X7_at l D cI cZ cO hw) (va_cwS 2 hts gX7_canFill_X7_at rfl rfl rfl (by decide +kernel) ⟨Nat.le_of_ble_eq_true rfl, Nat.le_of_ble_eq_true rfl⟩) hKK hP [1] rfl rfl hl.1 rfl (Nat.le_of_ble_eq_true rfl) dX7_canFill_49 ⟨Nat.zero_le _, Nat.zero_le _⟩ (fun r_49 hw => ?_)
                refine lv_iload_n hx hb dX7_canFill_52 rfl (lv_at hl 3 rfl) ?_
                refine lv_iconst (v := (-1)) hx hb dX7_canFill_53 (by decide) ?_
                refine lv_ixor hx hb dX7_canFill_54 ?_
                refine lv_iand hx hb dX7_canFill_55 ?_
                refine lv_ior hx hb dX7_canFill_56 ?_
                refine lv_istore (lv' := [(6, .int (x6_23 ||| (r_49 &&& (p3 ^^^ (-1))))), (0, .ref a_this), (1, .int p1), (2, .int p2), (3, .int p3), (4, .int ((1 : Int32) <<< ((p2 - p1) &&& 31))), (5, .int x5_10), (7, .int x7_23)]) hx hb dX7_canFill_57 hl (by decide) rfl (fun ls hl => ?_)
                refine lv_iinc (v := (x7_23 + 1)) (lv' := [(7, .int (x7_23 + 1)), (6, .int (x6_23 ||| (r_49 &&& (p3 ^^^ (-1))))), (0, .ref a_this), (1, .int p1), (2, .int p2), (3, .int p3), (4, .int ((1 : Int32) <<< ((p2 - p1) &&& 31))), (5, .int x5_10)]) hx hb dX7_canFill_59 hl (k := 7) rfl (by rfl) (by decide) rfl (fun ls hl => ?_)
                refine lv_goto (tgt := 23) hx hb dX7_canFill_62 (by decide) ?_
                exact ih _ _ ls (lv_sub hl [2, 3, 4, 5, 6, 7, 1, 0] rfl) hw
        obtain ⟨n, hw⟩ := hw
        exact LP_23 n _ _ ls (lv_sub hl [2, 3, 4, 5, 6, 7, 1, 0] rfl) hw
  obtain ⟨n, hw⟩ := hw
  exact LP_10 n _ ls (lv_sub hl [2, 3, 4, 5, 1, 0] rfl) hw
def wk_X7_leastToSend_17 (Φ : Int32 → Prop) (x5_17 : Int32) : Prop :=
  (Φ (-1))
def wb_X7_leastToSend_17 (goers : Nat → Int32) (p1 : Int32) (p2 : Int32) (p3 : Int32) (Φ : Int32 → Prop) (r_5 : Int32) (K_17 : Int32 → Prop) (rec_17 : Int32 → Prop) (x5_17 : Int32) : Prop :=
  ((8 ≤ x5_17 → (K_17 x5_17)) ∧ (¬ 8 ≤ x5_17 → (wp_X7_holds (r_5 &&& (p3 ^^^ (-1))) x5_17 (fun r_28 => ((r_28 = 0 → (rec_17 (x5_17 + 1))) ∧ (¬ r_28 = 0 → (wp_X7_canFill goers (p1 + 1) p2 (p3 ||| ((1 : Int32) <<< (x5_17 &&& 31))) (fun r_45 => ((r_45 = 0 → (rec_17 (x5_17 + 1))) ∧ (¬ r_45 = 0 → (Φ x5_17)))))))))))
def wp_X7_leastToSend (goers : Nat → Int32) (p1 : Int32) (p2 : Int32) (p3 : Int32) (Φ : Int32 → Prop) : Prop :=
  (wp_X7_at goers 6 p1 (fun r_5 => (∃ n : Nat, xit1 (wb_X7_leastToSend_17 goers p1 p2 p3 Φ r_5 (wk_X7_leastToSend_17 Φ)) n 0)))
abbrev xrm_X7_leastToSend : Room := { frames := 2, cells := 0, slots := 0, locals := 48 }
set_option maxRecDepth 100000 in
set_option maxHeartbeats 4000000 in
theorem c_X7_leastToSend (l : Launch) (D : va_G) (cI cZ cO : ClassId) {a_text : Nat} {a_now : Nat} {a_past : Nat} {a_imageZero : Nat} {a_imageOne : Nat} {a_watched : Nat} {a_book : Nat} {a_goers : Nat} {a_theCourt : Nat} {a_draft : Nat} {theSeed : Int32} {a_this : Nat} {goers : Nat → Int32} {p1 : Int32} {p2 : Int32} {p3 : Int32} {Φ : Int32 → Prop} (hw : (wp_X7_leastToSend goers p1 p2 p3 Φ)) : Met l yX7_leastToSend wsX7_leastToSend xrm_X7_leastToSend (xPR D cI cZ cO [.ref a_this, .int p1, .int p2, .int p3] [(a_this, .inr (7, [.ref a_text, .ref a_now, .ref a_past, .ref a_imageZero, .ref a_imageOne, .ref a_watched, .ref a_book, .ref a_goers, .ref a_theCourt, .ref a_draft, .int theSeed])), (a_goers, .inl (cI, 6, .inl goers))]) (vp_Si Φ) 0 0 (fun _ => False) := by
  refine Met.ofW (cc := cX7_leastToSend) (maxL := 6) (ret := (some .int)) (by decide) rfl ?_
  intro p e s m args below meth c s₁ B hml hv
  obtain ⟨rfl, hP, hKK⟩ := hv
  have hx := B.exec
  have hb := B.bytes
  have hr := B.returns
  have hts := atoms_spec (ws := wsX7_leastToSend) B.pre
  have hown : s.vm.findClass RX7 = some m.cls := findClass_of_methodNamed B.named
  have hlocks := B.notSynchronized
  obtain ⟨Q, hQ⟩ : ∃ Q, Q = MQ below (vp_Si Φ) ([.ref a_this, .int p1, .int p2, .int p3] : List Value).toArray s 0 0 (fun _ => False) := ⟨_, rfl⟩
  rw [← hQ]
  have hl := lv_entry ([.ref a_this, .int p1, .int p2, .int p3]) (n := 6) (Nat.le_of_ble_eq_true rfl)
  rw [lg_entry_eq]
  generalize (lg_sl ([.ref a_this, .int p1, .int p2, .int p3]) ++ List.replicate (6 - (lg_sl ([.ref a_this, .int p1, .int p2, .int p3])).length) Slot.unset).toArray = ls at hl ⊢
  have hl : lv_has ls 6 [(0, .ref a_this), (1, .int p1), (2, .int p2), (3, .int p3)] := hl
  generalize ([.ref a_this, .int p1, .int p2, .int p3] : List Value).toArray = args at hts hQ ⊢
  have hP : va_P D vwCl [(a_this, .inr (7, [.ref a_text, .ref a_now, .ref a_past, .ref a_imageZero, .ref a_imageOne, .ref a_watched, .ref a_book, .ref a_goers, .ref a_theCourt, .ref a_draft, .int theSeed])), (a_goers, .inl (cI, 6, .inl goers))] s.heap := hP
  have hinX7 : ∀ w ∈ u_ws RX7 TX7 11, w ∈ wsX7_leastToSend := by decide +kernel
  have fl_54 := hts (.fieldLink RX7 54 "DoubleChain" "goers" "[I") (by decide +kernel)
  clear B
  show W p l e xrm_X7_leastToSend s m args below meth c s.heap [] 0 0 Q (F0 m 0 ls [])
  unfold wp_X7_leastToSend at hw
  refine lv_aload_n hx hb dX7_leastToSend_0 rfl (lv_at hl 0 rfl) ?_
  refine va_get (D := D) (ci := 7) (v := .ref a_goers) (C := RX7) (T := TX7) (N := 11) hx hb hts hinX7 hown hKK.1 hP 0 rfl rfl 7 (by decide) fl_54 (fun _ h9 => h9) rfl dX7_leastToSend_1 ?_
  refine lv_iload_n hx hb dX7_leastToSend_4 rfl (lv_at hl 1 rfl) ?_
  refine xcSi (As := [.ref a_goers, .int p1]) (rest := []) (wc := [(a_goers, .inl (cI, 6, .inl goers))]) ⟨hx, hb, hml, hown, hts⟩ (c_X7_at l D cI cZ cO hw) (va_cwS 2 hts gX7_leastToSend_X7_at rfl rfl rfl (by decide +kernel) ⟨Nat.le_of_ble_eq_true rfl, Nat.le_of_ble_eq_true rfl⟩) hKK hP [1] rfl rfl hl.1 rfl (Nat.le_of_ble_eq_true rfl) dX7_leastToSend_5 ⟨Nat.zero_le _, Nat.zero_le _⟩ (fun r_5 hw => ?_)
  refine lv_iload_n hx hb dX7_leastToSend_8 rfl (lv_at hl 3 rfl) ?_
  refine lv_iconst (v := (-1)) hx hb dX7_leastToSend_9 (by decide) ?_
  refine lv_ixor hx hb dX7_leastToSend_10 ?_
  refine lv_iand hx hb dX7_leastToSend_11 ?_
  refine lv_istore (lv' := [(4, .int (r_5 &&& (p3 ^^^ (-1)))), (0, .ref a_this), (1, .int p1), (2, .int p2), (3, .int p3)]) hx hb dX7_leastToSend_12 hl (by decide) rfl (fun ls hl => ?_)
  refine lv_iconst (v := 0) hx hb dX7_leastToSend_14 (by decide) ?_
  refine lv_istore (lv' := [(5, .int 0), (4, .int (r_5 &&& (p3 ^^^ (-1)))), (0, .ref a_this), (1, .int p1), (2, .int p2), (3, .int p3)]) hx hb dX7_leastToSend_15 hl (by decide) rfl (fun ls hl => ?_)
  have EX_17 : ∀ (x5_17 : Int32), ∀ (ls : Array Slot), lv_has ls 6 [(0, .ref a_this), (1, .int p1), (2, .int p2), (3, .int p3), (4, .int (r_5 &&& (p3 ^^^ (-1)))), (5, .int x5_17)] → (wk_X7_leastToSend_17 Φ x5_17) → W p l e xrm_X7_leastToSend s m args below meth c s.heap [] 0 0 Q (F0 m 60 ls []) := by
    intro x5_17 ls hl hw
    unfold wk_X7_leastToSend_17 at hw
    refine lv_iconst (v := (-1)) hx hb dX7_leastToSend_60 (by decide) ?_
    rw [hQ]
    exact W.iret (v := (-1)) hx hb hr (fun t ht _ => ⟨(-1), rfl, hw, ht⟩) (fun _ h => (List.not_mem_nil h).elim) dX7_leastToSend_61
  generalize (wk_X7_leastToSend_17 Φ) = K_17 at EX_17 hw
  have LP_17 : ∀ n : Nat, ∀ (x5_17 : Int32), ∀ (ls : Array Slot), lv_has ls 6 [(0, .ref a_this), (1, .int p1), (2, .int p2), (3, .int p3), (4, .int (r_5 &&& (p3 ^^^ (-1)))), (5, .int x5_17)] → xit1 (wb_X7_leastToSend_17 goers p1 p2 p3 Φ r_5 K_17) n x5_17 → W p l e xrm_X7_leastToSend s m args below meth c s.heap [] 0 0 Q (F0 m 17 ls []) := by
    intro n
    induction n with
    | zero => intro x5_17 ls hl hw; exact (show False from hw).elim
    | succ n ih =>
      intro x5_17 ls hl hw
      have hw : wb_X7_leastToSend_17 goers p1 p2 p3 Φ r_5 K_17 (xit1 (wb_X7_leastToSend_17 goers p1 p2 p3 Φ r_5 K_17) n) x5_17 := hw
      generalize xit1 (wb_X7_leastToSend_17 goers p1 p2 p3 Φ r_5 K_17) n = rec_17 at ih hw
      unfold wb_X7_leastToSend_17 at hw
      refine lv_iload hx hb dX7_leastToSend_17 (lv_at hl 5 rfl) ?_
      refine lv_bipush (v := 8) hx hb dX7_leastToSend_19 (by decide) ?_
      refine lv_icmp_ge (tgt := 60) hx hb dX7_leastToSend_21 (by decide) (fun c_21 => ?_) (fun c_21 => ?_)
      · have hw := hw.1 c_21
        exact EX_17 _ ls (lv_sub hl [0, 1, 2, 3, 4, 5] rfl) hw
      · have hw := hw.2 c_21
        refine lv_iload hx hb dX7_leastToSend_24 (lv_at hl 4 rfl) ?_
        refine lv_iload hx hb dX7_leastToSend_26 (lv_at hl 5 rfl) ?_
        refine xcSi (As := [.int (r_5 &&& (p3 ^^^ (-1))), .int x5_17]) (rest := []) (wc := []) ⟨hx, hb, hml, hown, hts⟩ (c_X7_holds l D cI cZ cO hw) (va_cwS 2 hts gX7_leastToSend_X7_holds rfl rfl rfl (by decide +kernel) ⟨Nat.le_of_ble_eq_true rfl, Nat.le_of_ble_eq_true rfl⟩) hKK hP [] rfl rfl hl.1 rfl (Nat.le_of_ble_eq_true rfl) dX7_leastToSend_28 ⟨Nat.zero_le _, Nat.zero_le _⟩ (fun r_28 hw => ?_)
        refine lv_if_eq (tgt := 54) hx hb dX7_leastToSend_31 (by decide) (fun c_31 => ?_) (fun c_31 => ?_)
        · have hw := hw.1 c_31
          refine lv_iinc (v := (x5_17 + 1)) (lv' := [(5, .int (x5_17 + 1)), (0, .ref a_this), (1, .int p1), (2, .int p2), (3, .int p3), (4, .int (r_5 &&& (p3 ^^^ (-1))))]) hx hb dX7_leastToSend_54 hl (k := 5) rfl (by rfl) (by decide) rfl (fun ls hl => ?_)
          refine lv_goto (tgt := 17) hx hb dX7_leastToSend_57 (by decide) ?_
          exact ih _ ls (lv_sub hl [1, 2, 3, 4, 5, 0] rfl) hw
        · have hw := hw.2 c_31
          refine lv_aload_n hx hb dX7_leastToSend_34 rfl (lv_at hl 0 rfl) ?_
          refine lv_iload_n hx hb dX7_leastToSend_35 rfl (lv_at hl 1 rfl) ?_
          refine lv_iconst (v := 1) hx hb dX7_leastToSend_36 (by decide) ?_
          refine lv_iadd hx hb dX7_leastToSend_37 ?_
          refine lv_iload_n hx hb dX7_leastToSend_38 rfl (lv_at hl 2 rfl) ?_
          refine lv_iload_n hx hb dX7_leastToSend_39 rfl (lv_at hl 3 rfl) ?_
          refine lv_iconst (v := 1) hx hb dX7_leastToSend_40 (by decide) ?_
          refine lv_iload hx hb dX7_leastToSend_41 (lv_at hl 5 rfl) ?_
          refine lv_ishl hx hb dX7_leastToSend_43 ?_
          refine lv_ior hx hb dX7_leastToSend_44 ?_
          refine xcVi (q0 := 0) (ci := 7) (As := [.int (p1 + 1), .int p2, .int (p3 ||| ((1 : Int32) <<< (x5_17 &&& 31)))]) (rest := []) (wc := [(a_this, .inr (7, [.ref a_text, .ref a_now, .ref a_past, .ref a_imageZero, .ref a_imageOne, .ref a_watched, .ref a_book, .ref a_goers, .ref a_theCourt, .ref a_draft, .int theSeed])), (a_goers, .inl (cI, 6, .inl goers))]) ⟨hx, hb, hml, hown, hts⟩ (c_X7_canFill l D cI cZ cO hw) (cwV 3 hts gX7_leastToSend_X7_canFill rfl rfl rfl (by decide +kernel) ⟨Nat.le_of_ble_eq_true rfl, Nat.le_of_ble_eq_true rfl⟩) hKK hP [0, 1] rfl rfl rfl rfl hl.1 rfl (Nat.le_of_ble_eq_true rfl) dX7_leastToSend_45 ⟨Nat.zero_le _, Nat.zero_le _⟩ (fun r_45 hw => ?_)
          refine lv_if_eq (tgt := 54) hx hb dX7_leastToSend_48 (by decide) (fun c_48 => ?_) (fun c_48 => ?_)
          · have hw := hw.1 c_48
            refine lv_iinc (v := (x5_17 + 1)) (lv' := [(5, .int (x5_17 + 1)), (0, .ref a_this), (1, .int p1), (2, .int p2), (3, .int p3), (4, .int (r_5 &&& (p3 ^^^ (-1))))]) hx hb dX7_leastToSend_54 hl (k := 5) rfl (by rfl) (by decide) rfl (fun ls hl => ?_)
            refine lv_goto (tgt := 17) hx hb dX7_leastToSend_57 (by decide) ?_
            exact ih _ ls (lv_sub hl [1, 2, 3, 4, 5, 0] rfl) hw
          · have hw := hw.2 c_48
            refine lv_iload hx hb dX7_leastToSend_51 (lv_at hl 5 rfl) ?_
            rw [hQ]
            exact W.iret (v := x5_17) hx hb hr (fun t ht _ => ⟨x5_17, rfl, hw, ht⟩) (fun _ h => (List.not_mem_nil h).elim) dX7_leastToSend_53
  obtain ⟨n, hw⟩ := hw
  exact LP_17 n _ ls (lv_sub hl [2, 3, 4, 5, 1, 0] rfl) hw
def wk_X7_send_75 (Φ : Int32 → (Nat → Int32) → Prop) (goers_28 : Nat → Int32) (x3_75 : Int32) (x4_75 : Int32) (x5_75 : Int32) : Prop :=
  (Φ x3_75 goers_28)
def wb_X7_send_75 (p1 : Int32) (p2 : Int32) (Φ : Int32 → (Nat → Int32) → Prop) (goers_28 : Nat → Int32) (K_75 : Int32 → Int32 → Int32 → Prop) (rec_75 : Int32 → Int32 → Int32 → Prop) (x3_75 : Int32) (x4_75 : Int32) (x5_75 : Int32) : Prop :=
  ((p2 < x5_75 → (K_75 x3_75 x4_75 x5_75)) ∧ (¬ p2 < x5_75 → (wp_X7_leastToSend goers_28 x5_75 p1 x4_75 (fun r_87 => ((r_87 = (-1) → (Φ (-1) goers_28)) ∧ (¬ r_87 = (-1) → (rec_75 r_87 (x4_75 ||| ((1 : Int32) <<< (r_87 &&& 31))) (x5_75 + 1))))))))
def wk_X7_send_28 (p1 : Int32) (p2 : Int32) (Φ : Int32 → (Nat → Int32) → Prop) (goers_28 : Nat → Int32) (x3_28 : Int32) : Prop :=
  (∃ n : Nat, xit3 (wb_X7_send_75 p1 p2 Φ goers_28 (wk_X7_send_75 Φ goers_28)) n (-1) 0 0)
def wb_X7_send_28 (now_living : Int32) (now_days : Int32) (theCourt_days : Int32) (theCourt_weathers : Nat → Int32) (theCourt_hours : Nat → Int32) (theCourt_dangers : Nat → Int32) (theCourt_inWeathers : Nat → Int32) (theCourt_inHours : Nat → Int32) (theCourt_fears : Nat → Int32) (p1 : Int32) (K_28 : (Nat → Int32) → Int32 → Prop) (rec_28 : (Nat → Int32) → Int32 → Prop) (goers_28 : Nat → Int32) (x3_28 : Int32) : Prop :=
  ((p1 ≤ x3_28 → (K_28 goers_28 x3_28)) ∧ (¬ p1 ≤ x3_28 → (wp_X1_goersOn now_living theCourt_days theCourt_weathers theCourt_hours theCourt_dangers theCourt_inWeathers theCourt_inHours theCourt_fears (now_days + x3_28) (fun r_55 => (wp_X7_put goers_28 6 x3_28 r_55 (fun goers_58 => (rec_28 goers_58 (x3_28 + 1))))))))
def wp_X7_send (goers : Nat → Int32) (now_living : Int32) (now_days : Int32) (theCourt_days : Int32) (theCourt_weathers : Nat → Int32) (theCourt_hours : Nat → Int32) (theCourt_dangers : Nat → Int32) (theCourt_inWeathers : Nat → Int32) (theCourt_inHours : Nat → Int32) (theCourt_fears : Nat → Int32) (p1 : Int32) (p2 : Int32) (Φ : Int32 → (Nat → Int32) → Prop) : Prop :=
  (wp_X7_within p1 1 6 (fun r_4 => ((r_4 = 0 → (Φ (-1000000002) goers)) ∧ (¬ r_4 = 0 → (wp_X7_within p2 0 (p1 - 1) (fun r_18 => ((r_18 = 0 → (Φ (-1) goers)) ∧ (¬ r_18 = 0 → (∃ n : Nat, xit2 (wb_X7_send_28 now_living now_days theCourt_days theCourt_weathers theCourt_hours theCourt_dangers theCourt_inWeathers theCourt_inHours theCourt_fears p1 (wk_X7_send_28 p1 p2 Φ)) n goers 0)))))))))
abbrev xrm_X7_send : Room := { frames := 6, cells := 0, slots := 0, locals := 131 }
set_option maxRecDepth 100000 in
set_option maxHeartbeats 4000000 in
theorem c_X7_send (l : Launch) (D : va_G) (cI cZ cO : ClassId) {a_text : Nat} {a_now : Nat} {a_past : Nat} {a_imageZero : Nat} {a_imageOne : Nat} {a_watched : Nat} {a_book : Nat} {a_goers : Nat} {a_theCourt : Nat} {a_draft : Nat} {theSeed : Int32} {a_this : Nat} {goers : Nat → Int32} {a_now_marks : Nat} {now_people : Int32} {now_living : Int32} {now_shown : Int32} {now_spent : Int32} {now_days : Int32} {a_theCourt_marks : Nat} {a_theCourt_inWeathers : Nat} {a_theCourt_inHours : Nat} {a_theCourt_fears : Nat} {a_theCourt_weathers : Nat} {a_theCourt_hours : Nat} {a_theCourt_dangers : Nat} {theCourt_pay : Int32} {theCourt_people : Int32} {theCourt_days : Int32} {theCourt_weathers : Nat → Int32} {theCourt_hours : Nat → Int32} {theCourt_dangers : Nat → Int32} {theCourt_inWeathers : Nat → Int32} {theCourt_inHours : Nat → Int32} {theCourt_fears : Nat → Int32} {p1 : Int32} {p2 : Int32} {Φ : Int32 → (Nat → Int32) → Prop} {sz : Nat} (hw : (wp_X7_send goers now_living now_days theCourt_days theCourt_weathers theCourt_hours theCourt_dangers theCourt_inWeathers theCourt_inHours theCourt_fears p1 p2 Φ)) : Met l yX7_send wsX7_send xrm_X7_send (xPW D cI cZ cO [.ref a_this, .int p1, .int p2] sz [(a_this, .inr (7, [.ref a_text, .ref a_now, .ref a_past, .ref a_imageZero, .ref a_imageOne, .ref a_watched, .ref a_book, .ref a_goers, .ref a_theCourt, .ref a_draft, .int theSeed])), (a_goers, .inl (cI, 6, .inl goers)), (a_now, .inr (1, [.ref a_now_marks, .int now_people, .int now_living, .int now_shown, .int now_spent, .int now_days])), (a_theCourt, .inr (2, [.ref a_theCourt_marks, .ref a_theCourt_inWeathers, .ref a_theCourt_inHours, .ref a_theCourt_fears, .ref a_theCourt_weathers, .ref a_theCourt_hours, .ref a_theCourt_dangers, .int theCourt_pay, .int theCourt_people, .int theCourt_days])), (a_theCourt_weathers, .inl (cI, 10, .inl theCourt_weathers)), (a_theCourt_hours, .inl (cI, 10, .inl theCourt_hours)), (a_theCourt_dangers, .inl (cI, 10, .inl theCourt_dangers)), (a_theCourt_inWeathers, .inl (cI, 8, .inl theCourt_inWeathers)), (a_theCourt_inHours, .inl (cI, 8, .inl theCourt_inHours)), (a_theCourt_fears, .inl (cI, 8, .inl theCourt_fears))]) (va_Qi (fun (r : Int32) (u : (Nat → Int32)) => Φ r u) (xB D (va_A [(a_this, .inr (7, [.ref a_text, .ref a_now, .ref a_past, .ref a_imageZero, .ref a_imageOne, .ref a_watched, .ref a_book, .ref a_goers, .ref a_theCourt, .ref a_draft, .int theSeed])), (a_goers, .inl (cI, 6, .inl goers)), (a_now, .inr (1, [.ref a_now_marks, .int now_people, .int now_living, .int now_shown, .int now_spent, .int now_days])), (a_theCourt, .inr (2, [.ref a_theCourt_marks, .ref a_theCourt_inWeathers, .ref a_theCourt_inHours, .ref a_theCourt_fears, .ref a_theCourt_weathers, .ref a_theCourt_hours, .ref a_theCourt_dangers, .int theCourt_pay, .int theCourt_people, .int theCourt_days])), (a_theCourt_weathers, .inl (cI, 10, .inl theCourt_weathers)), (a_theCourt_hours, .inl (cI, 10, .inl theCourt_hours)), (a_theCourt_dangers, .inl (cI, 10, .inl theCourt_dangers)), (a_theCourt_inWeathers, .inl (cI, 8, .inl theCourt_inWeathers)), (a_theCourt_inHours, .inl (cI, 8, .inl theCourt_inHours)), (a_theCourt_fears, .inl (cI, 8, .inl theCourt_fears))] sz) (fun (u : (Nat → Int32)) => [(a_this, .inr (7, [.ref a_text, .ref a_now, .ref a_past, .ref a_imageZero, .ref a_imageOne, .ref a_watched, .ref a_book, .ref a_goers, .ref a_theCourt, .ref a_draft, .int theSeed])), (a_goers, .inl (cI, 6, .inl u)), (a_now, .inr (1, [.ref a_now_marks, .int now_people, .int now_living, .int now_shown, .int now_spent, .int now_days])), (a_theCourt, .inr (2, [.ref a_theCourt_marks, .ref a_theCourt_inWeathers, .ref a_theCourt_inHours, .ref a_theCourt_fears, .ref a_theCourt_weathers, .ref a_theCourt_hours, .ref a_theCourt_dangers, .int theCourt_pay, .int theCourt_people, .int theCourt_days])), (a_theCourt_weathers, .inl (cI, 10, .inl theCourt_weathers)), (a_theCourt_hours, .inl (cI, 10, .inl theCourt_hours)), (a_theCourt_dangers, .inl (cI, 10, .inl theCourt_dangers)), (a_theCourt_inWeathers, .inl (cI, 8, .inl theCourt_inWeathers)), (a_theCourt_inHours, .inl (cI, 8, .inl theCourt_inHours)), (a_theCourt_fears, .inl (cI, 8, .inl theCourt_fears))])) (va_A [(a_this, .inr (7, [.ref a_text, .ref a_now, .ref a_past, .ref a_imageZero, .ref a_imageOne, .ref a_watched, .ref a_book, .ref a_goers, .ref a_theCourt, .ref a_draft, .int theSeed])), (a_goers, .inl (cI, 6, .inl goers)), (a_now, .inr (1, [.ref a_now_marks, .int now_people, .int now_living, .int now_shown, .int now_spent, .int now_days])), (a_theCourt, .inr (2, [.ref a_theCourt_marks, .ref a_theCourt_inWeathers, .ref a_theCourt_inHours, .ref a_theCourt_fears, .ref a_theCourt_weathers, .ref a_theCourt_hours, .ref a_theCourt_dangers, .int theCourt_pay, .int theCourt_people, .int theCourt_days])), (a_theCourt_weathers, .inl (cI, 10, .inl theCourt_weathers)), (a_theCourt_hours, .inl (cI, 10, .inl theCourt_hours)), (a_theCourt_dangers, .inl (cI, 10, .inl theCourt_dangers)), (a_theCourt_inWeathers, .inl (cI, 8, .inl theCourt_inWeathers)), (a_theCourt_inHours, .inl (cI, 8, .inl theCourt_inHours)), (a_theCourt_fears, .inl (cI, 8, .inl theCourt_fears))] sz)) 0 0 (va_A [(a_this, .inr (7, [.ref a_text, .ref a_now, .ref a_past, .ref a_imageZero, .ref a_imageOne, .ref a_watched, .ref a_book, .ref a_goers, .ref a_theCourt, .ref a_draft, .int theSeed])), (a_goers, .inl (cI, 6, .inl goers)), (a_now, .inr (1, [.ref a_now_marks, .int now_people, .int now_living, .int now_shown, .int now_spent, .int now_days])), (a_theCourt, .inr (2, [.ref a_theCourt_marks, .ref a_theCourt_inWeathers, .ref a_theCourt_inHours, .ref a_theCourt_fears, .ref a_theCourt_weathers, .ref a_theCourt_hours, .ref a_theCourt_dangers, .int theCourt_pay, .int theCourt_people, .int theCourt_days])), (a_theCourt_weathers, .inl (cI, 10, .inl theCourt_weathers)), (a_theCourt_hours, .inl (cI, 10, .inl theCourt_hours)), (a_theCourt_dangers, .inl (cI, 10, .inl theCourt_dangers)), (a_theCourt_inWeathers, .inl (cI, 8, .inl theCourt_inWeathers)), (a_theCourt_inHours, .inl (cI, 8, .inl theCourt_inHours)), (a_theCourt_fears, .inl (cI, 8, .inl theCourt_fears))] sz) := by
  refine Met.ofW (cc := cX7_send) (maxL := 6) (ret := (some .int)) (by decide) rfl ?_
  intro p e s m args below meth c s₁ B hml hv
  obtain ⟨rfl, hsz, hP, hKK, hD0⟩ := hv
  have hx := B.exec
  have hb := B.bytes
  have hr := B.returns
  have hts := atoms_spec (ws := wsX7_send) B.pre
  have hown : s.vm.findClass RX7 = some m.cls := findClass_of_methodNamed B.named
  have hlocks := B.notSynchronized
  subst hsz
  have hD := hD0.self (sz := s.heap.size)
  obtain ⟨Q, hQ⟩ : ∃ Q, Q = MQ below (va_Qi (fun (r : Int32) (u : (Nat → Int32)) => Φ r u) (xB D (va_A [(a_this, .inr (7, [.ref a_text, .ref a_now, .ref a_past, .ref a_imageZero, .ref a_imageOne, .ref a_watched, .ref a_book, .ref a_goers, .ref a_theCourt, .ref a_draft, .int theSeed])), (a_goers, .inl (cI, 6, .inl goers)), (a_now, .inr (1, [.ref a_now_marks, .int now_people, .int now_living, .int now_shown, .int now_spent, .int now_days])), (a_theCourt, .inr (2, [.ref a_theCourt_marks, .ref a_theCourt_inWeathers, .ref a_theCourt_inHours, .ref a_theCourt_fears, .ref a_theCourt_weathers, .ref a_theCourt_hours, .ref a_theCourt_dangers, .int theCourt_pay, .int theCourt_people, .int theCourt_days])), (a_theCourt_weathers, .inl (cI, 10, .inl theCourt_weathers)), (a_theCourt_hours, .inl (cI, 10, .inl theCourt_hours)), (a_theCourt_dangers, .inl (cI, 10, .inl theCourt_dangers)), (a_theCourt_inWeathers, .inl (cI, 8, .inl theCourt_inWeathers)), (a_theCourt_inHours, .inl (cI, 8, .inl theCourt_inHours)), (a_theCourt_fears, .inl (cI, 8, .inl theCourt_fears))] s.heap.size) (fun (u : (Nat → Int32)) => [(a_this, .inr (7, [.ref a_text, .ref a_now, .ref a_past, .ref a_imageZero, .ref a_imageOne, .ref a_watched, .ref a_book, .ref a_goers, .ref a_theCourt, .ref a_draft, .int theSeed])), (a_goers, .inl (cI, 6, .inl u)), (a_now, .inr (1, [.ref a_now_marks, .int now_people, .int now_living, .int now_shown, .int now_spent, .int now_days])), (a_theCourt, .inr (2, [.ref a_theCourt_marks, .ref a_theCourt_inWeathers, .ref a_theCourt_inHours, .ref a_theCourt_fears, .ref a_theCourt_weathers, .ref a_theCourt_hours, .ref a_theCourt_dangers, .int theCourt_pay, .int theCourt_people, .int theCourt_days])), (a_theCourt_weathers, .inl (cI, 10, .inl theCourt_weathers)), (a_theCourt_hours, .inl (cI, 10, .inl theCourt_hours)), (a_theCourt_dangers, .inl (cI, 10, .inl theCourt_dangers)), (a_theCourt_inWeathers, .inl (cI, 8, .inl theCourt_inWeathers)), (a_theCourt_inHours, .inl (cI, 8, .inl theCourt_inHours)), (a_theCourt_fears, .inl (cI, 8, .inl theCourt_fears))])) (va_A [(a_this, .inr (7, [.ref a_text, .ref a_now, .ref a_past, .ref a_imageZero, .ref a_imageOne, .ref a_watched, .ref a_book, .ref a_goers, .ref a_theCourt, .ref a_draft, .int theSeed])), (a_goers, .inl (cI, 6, .inl goers)), (a_now, .inr (1, [.ref a_now_marks, .int now_people, .int now_living, .int now_shown, .int now_spent, .int now_days])), (a_theCourt, .inr (2, [.ref a_theCourt_marks, .ref a_theCourt_inWeathers, .ref a_theCourt_inHours, .ref a_theCourt_fears, .ref a_theCourt_weathers, .ref a_theCourt_hours, .ref a_theCourt_dangers, .int theCourt_pay, .int theCourt_people, .int theCourt_days])), (a_theCourt_weathers, .inl (cI, 10, .inl theCourt_weathers)), (a_theCourt_hours, .inl (cI, 10, .inl theCourt_hours)), (a_theCourt_dangers, .inl (cI, 10, .inl theCourt_dangers)), (a_theCourt_inWeathers, .inl (cI, 8, .inl theCourt_inWeathers)), (a_theCourt_inHours, .inl (cI, 8, .inl theCourt_inHours)), (a_theCourt_fears, .inl (cI, 8, .inl theCourt_fears))] s.heap.size)) ([.ref a_this, .int p1, .int p2] : List Value).toArray s 0 0 (va_A [(a_this, .inr (7, [.ref a_text, .ref a_now, .ref a_past, .ref a_imageZero, .ref a_imageOne, .ref a_watched, .ref a_book, .ref a_goers, .ref a_theCourt, .ref a_draft, .int theSeed])), (a_goers, .inl (cI, 6, .inl goers)), (a_now, .inr (1, [.ref a_now_marks, .int now_people, .int now_living, .int now_shown, .int now_spent, .int now_days])), (a_theCourt, .inr (2, [.ref a_theCourt_marks, .ref a_theCourt_inWeathers, .ref a_theCourt_inHours, .ref a_theCourt_fears, .ref a_theCourt_weathers, .ref a_theCourt_hours, .ref a_theCourt_dangers, .int theCourt_pay, .int theCourt_people, .int theCourt_days])), (a_theCourt_weathers, .inl (cI, 10, .inl theCourt_weathers)), (a_theCourt_hours, .inl (cI, 10, .inl theCourt_hours)), (a_theCourt_dangers, .inl (cI, 10, .inl theCourt_dangers)), (a_theCourt_inWeathers, .inl (cI, 8, .inl theCourt_inWeathers)), (a_theCourt_inHours, .inl (cI, 8, .inl theCourt_inHours)), (a_theCourt_fears, .inl (cI, 8, .inl theCourt_fears))] s.heap.size) := ⟨_, rfl⟩
  rw [← hQ]
  generalize hAe : va_A [(a_this, .inr (7, [.ref a_text, .ref a_now, .ref a_past, .ref a_imageZero, .ref a_imageOne, .ref a_watched, .ref a_book, .ref a_goers, .ref a_theCourt, .ref a_draft, .int theSeed])), (a_goers, .inl (cI, 6, .inl goers)), (a_now, .inr (1, [.ref a_now_marks, .int now_people, .int now_living, .int now_shown, .int now_spent, .int now_days])), (a_theCourt, .inr (2, [.ref a_theCourt_marks, .ref a_theCourt_inWeathers, .ref a_theCourt_inHours, .ref a_theCourt_fears, .ref a_theCourt_weathers, .ref a_theCourt_hours, .ref a_theCourt_dangers, .int theCourt_pay, .int theCourt_people, .int theCourt_days])), (a_theCourt_weathers, .inl (cI, 10, .inl theCourt_weathers)), (a_theCourt_hours, .inl (cI, 10, .inl theCourt_hours)), (a_theCourt_dangers, .inl (cI, 10, .inl theCourt_dangers)), (a_theCourt_inWeathers, .inl (cI, 8, .inl theCourt_inWeathers)), (a_theCourt_inHours, .inl (cI, 8, .inl theCourt_inHours)), (a_theCourt_fears, .inl (cI, 8, .inl theCourt_fears))] s.heap.size = A at hD hQ
  have hA : ∀ q : Nat, s.heap.size ≤ q → A q := fun q h => by rw [← hAe]; exact Or.inr h
  have hS : va_S A s.heap s.heap [] := va_S.rf
  have hl := lv_entry ([.ref a_this, .int p1, .int p2]) (n := 6) (Nat.le_of_ble_eq_true rfl)
  rw [lg_entry_eq]
  generalize (lg_sl ([.ref a_this, .int p1, .int p2]) ++ List.replicate (6 - (lg_sl ([.ref a_this, .int p1, .int p2])).length) Slot.unset).toArray = ls at hl ⊢
  have hl : lv_has ls 6 [(0, .ref a_this), (1, .int p1), (2, .int p2)] := hl
  generalize ([.ref a_this, .int p1, .int p2] : List Value).toArray = args at hts hQ ⊢
  have hP : va_P D vwCl [(a_this, .inr (7, [.ref a_text, .ref a_now, .ref a_past, .ref a_imageZero, .ref a_imageOne, .ref a_watched, .ref a_book, .ref a_goers, .ref a_theCourt, .ref a_draft, .int theSeed])), (a_goers, .inl (cI, 6, .inl goers)), (a_now, .inr (1, [.ref a_now_marks, .int now_people, .int now_living, .int now_shown, .int now_spent, .int now_days])), (a_theCourt, .inr (2, [.ref a_theCourt_marks, .ref a_theCourt_inWeathers, .ref a_theCourt_inHours, .ref a_theCourt_fears, .ref a_theCourt_weathers, .ref a_theCourt_hours, .ref a_theCourt_dangers, .int theCourt_pay, .int theCourt_people, .int theCourt_days])), (a_theCourt_weathers, .inl (cI, 10, .inl theCourt_weathers)), (a_theCourt_hours, .inl (cI, 10, .inl theCourt_hours)), (a_theCourt_dangers, .inl (cI, 10, .inl theCourt_dangers)), (a_theCourt_inWeathers, .inl (cI, 8, .inl theCourt_inWeathers)), (a_theCourt_inHours, .inl (cI, 8, .inl theCourt_inHours)), (a_theCourt_fears, .inl (cI, 8, .inl theCourt_fears))] s.heap := hP
  have hinX1 : ∀ w ∈ u_ws RX1 TX1 6, w ∈ wsX7_send := by decide +kernel
  have hinX7 : ∀ w ∈ u_ws RX7 TX7 11, w ∈ wsX7_send := by decide +kernel
  have fl_19 := hts (.fieldLink RX7 19 "DoubleChain" "now" "LDoubleChain$Chain;") (by decide +kernel)
  have fl_54 := hts (.fieldLink RX7 54 "DoubleChain" "goers" "[I") (by decide +kernel)
  have fl_61 := hts (.fieldLink RX7 61 "DoubleChain" "theCourt" "LDoubleChain$Court;") (by decide +kernel)
  have fl_117 := hts (.fieldLink RX7 117 "DoubleChain$Chain" "days" "I") (by decide +kernel)
  clear B
  show W p l e xrm_X7_send s m args below meth c s.heap [] 0 0 Q (F0 m 0 ls [])
  unfold wp_X7_send at hw
  refine lv_iload_n hx hb dX7_send_0 rfl (lv_at hl 1 rfl) ?_
  refine lv_iconst (v := 1) hx hb dX7_send_1 (by decide) ?_
  refine lv_bipush (v := 6) hx hb dX7_send_2 (by decide) ?_
  refine xcSi (As := [.int p1, .int 1, .int 6]) (rest := []) (wc := []) ⟨hx, hb, hml, hown, hts⟩ (c_X7_within l D cI cZ cO hw) (va_cwS 3 hts gX7_send_X7_within rfl rfl rfl (by decide +kernel) ⟨Nat.le_of_ble_eq_true rfl, Nat.le_of_ble_eq_true rfl⟩) hKK hP [] rfl rfl hl.1 rfl (Nat.le_of_ble_eq_true rfl) dX7_send_4 ⟨Nat.zero_le _, Nat.zero_le _⟩ (fun r_4 hw => ?_)
  refine lv_if_ne (tgt := 13) hx hb dX7_send_7 (by decide) (fun c_7 => ?_) (fun c_7 => ?_)
  · have hw := hw.2 c_7
    refine lv_iload_n hx hb dX7_send_13 rfl (lv_at hl 2 rfl) ?_
    refine lv_iconst (v := 0) hx hb dX7_send_14 (by decide) ?_
    refine lv_iload_n hx hb dX7_send_15 rfl (lv_at hl 1 rfl) ?_
    refine lv_iconst (v := 1) hx hb dX7_send_16 (by decide) ?_
    refine lv_isub hx hb dX7_send_17 ?_
    refine xcSi (As := [.int p2, .int 0, .int (p1 - 1)]) (rest := []) (wc := []) ⟨hx, hb, hml, hown, hts⟩ (c_X7_within l D cI cZ cO hw) (va_cwS 3 hts gX7_send_X7_within rfl rfl rfl (by decide +kernel) ⟨Nat.le_of_ble_eq_true rfl, Nat.le_of_ble_eq_true rfl⟩) hKK hP [] rfl rfl hl.1 rfl (Nat.le_of_ble_eq_true rfl) dX7_send_18 ⟨Nat.zero_le _, Nat.zero_le _⟩ (fun r_18 hw => ?_)
    refine lv_if_ne (tgt := 26) hx hb dX7_send_21 (by decide) (fun c_21 => ?_) (fun c_21 => ?_)
    · have hw := hw.2 c_21
      refine lv_iconst (v := 0) hx hb dX7_send_26 (by decide) ?_
      refine lv_istore_n (lv' := [(3, .int 0), (0, .ref a_this), (1, .int p1), (2, .int p2)]) hx hb dX7_send_27 rfl hl (by decide) rfl (fun ls hl => ?_)
      have EX_28 : ∀ (goers_28 : Nat → Int32) (x3_28 : Int32), ∀ (H : Heap) (locs : List Loc), va_P D vwCl [(a_this, .inr (7, [.ref a_text, .ref a_now, .ref a_past, .ref a_imageZero, .ref a_imageOne, .ref a_watched, .ref a_book, .ref a_goers, .ref a_theCourt, .ref a_draft, .int theSeed])), (a_goers, .inl (cI, 6, .inl goers_28)), (a_now, .inr (1, [.ref a_now_marks, .int now_people, .int now_living, .int now_shown, .int now_spent, .int now_days])), (a_theCourt, .inr (2, [.ref a_theCourt_marks, .ref a_theCourt_inWeathers, .ref a_theCourt_inHours, .ref a_theCourt_fears, .ref a_theCourt_weathers, .ref a_theCourt_hours, .ref a_theCourt_dangers, .int theCourt_pay, .int theCourt_people, .int theCourt_days])), (a_theCourt_weathers, .inl (cI, 10, .inl theCourt_weathers)), (a_theCourt_hours, .inl (cI, 10, .inl theCourt_hours)), (a_theCourt_dangers, .inl (cI, 10, .inl theCourt_dangers)), (a_theCourt_inWeathers, .inl (cI, 8, .inl theCourt_inWeathers)), (a_theCourt_inHours, .inl (cI, 8, .inl theCourt_inHours)), (a_theCourt_fears, .inl (cI, 8, .inl theCourt_fears))] H → va_D A [(a_this, .inr (7, [.ref a_text, .ref a_now, .ref a_past, .ref a_imageZero, .ref a_imageOne, .ref a_watched, .ref a_book, .ref a_goers, .ref a_theCourt, .ref a_draft, .int theSeed])), (a_goers, .inl (cI, 6, .inl goers_28)), (a_now, .inr (1, [.ref a_now_marks, .int now_people, .int now_living, .int now_shown, .int now_spent, .int now_days])), (a_theCourt, .inr (2, [.ref a_theCourt_marks, .ref a_theCourt_inWeathers, .ref a_theCourt_inHours, .ref a_theCourt_fears, .ref a_theCourt_weathers, .ref a_theCourt_hours, .ref a_theCourt_dangers, .int theCourt_pay, .int theCourt_people, .int theCourt_days])), (a_theCourt_weathers, .inl (cI, 10, .inl theCourt_weathers)), (a_theCourt_hours, .inl (cI, 10, .inl theCourt_hours)), (a_theCourt_dangers, .inl (cI, 10, .inl theCourt_dangers)), (a_theCourt_inWeathers, .inl (cI, 8, .inl theCourt_inWeathers)), (a_theCourt_inHours, .inl (cI, 8, .inl theCourt_inHours)), (a_theCourt_fears, .inl (cI, 8, .inl theCourt_fears))] → va_S A s.heap H locs → ∀ (ls : Array Slot), lv_has ls 6 [(0, .ref a_this), (1, .int p1), (2, .int p2), (3, .int x3_28)] → (wk_X7_send_28 p1 p2 Φ goers_28 x3_28) → W p l e xrm_X7_send s m args below meth c H locs 0 0 Q (F0 m 67 ls []) := by
        intro goers_28 x3_28 H locs hP hD hS ls hl hw
        unfold wk_X7_send_28 at hw
        refine lv_iconst (v := (-1)) hx hb dX7_send_67 (by decide) ?_
        refine lv_istore_n (lv' := [(3, .int (-1)), (0, .ref a_this), (1, .int p1), (2, .int p2)]) hx hb dX7_send_68 rfl hl (by decide) rfl (fun ls hl => ?_)
        refine lv_iconst (v := 0) hx hb dX7_send_69 (by decide) ?_
        refine lv_istore (lv' := [(4, .int 0), (3, .int (-1)), (0, .ref a_this), (1, .int p1), (2, .int p2)]) hx hb dX7_send_70 hl (by decide) rfl (fun ls hl => ?_)
        refine lv_iconst (v := 0) hx hb dX7_send_72 (by decide) ?_
        refine lv_istore (lv' := [(5, .int 0), (4, .int 0), (3, .int (-1)), (0, .ref a_this), (1, .int p1), (2, .int p2)]) hx hb dX7_send_73 hl (by decide) rfl (fun ls hl => ?_)
        have EX_75 : ∀ (x3_75 : Int32) (x4_75 : Int32) (x5_75 : Int32), ∀ (H : Heap) (locs : List Loc), va_P D vwCl [(a_this, .inr (7, [.ref a_text, .ref a_now, .ref a_past, .ref a_imageZero, .ref a_imageOne, .ref a_watched, .ref a_book, .ref a_goers, .ref a_theCourt, .ref a_draft, .int theSeed])), (a_goers, .inl (cI, 6, .inl goers_28)), (a_now, .inr (1, [.ref a_now_marks, .int now_people, .int now_living, .int now_shown, .int now_spent, .int now_days])), (a_theCourt, .inr (2, [.ref a_theCourt_marks, .ref a_theCourt_inWeathers, .ref a_theCourt_inHours, .ref a_theCourt_fears, .ref a_theCourt_weathers, .ref a_theCourt_hours, .ref a_theCourt_dangers, .int theCourt_pay, .int theCourt_people, .int theCourt_days])), (a_theCourt_weathers, .inl (cI, 10, .inl theCourt_weathers)), (a_theCourt_hours, .inl (cI, 10, .inl theCourt_hours)), (a_theCourt_dangers, .inl (cI, 10, .inl theCourt_dangers)), (a_theCourt_inWeathers, .inl (cI, 8, .inl theCourt_inWeathers)), (a_theCourt_inHours, .inl (cI, 8, .inl theCourt_inHours)), (a_theCourt_fears, .inl (cI, 8, .inl theCourt_fears))] H → va_D A [(a_this, .inr (7, [.ref a_text, .ref a_now, .ref a_past, .ref a_imageZero, .ref a_imageOne, .ref a_watched, .ref a_book, .ref a_goers, .ref a_theCourt, .ref a_draft, .int theSeed])), (a_goers, .inl (cI, 6, .inl goers_28)), (a_now, .inr (1, [.ref a_now_marks, .int now_people, .int now_living, .int now_shown, .int now_spent, .int now_days])), (a_theCourt, .inr (2, [.ref a_theCourt_marks, .ref a_theCourt_inWeathers, .ref a_theCourt_inHours, .ref a_theCourt_fears, .ref a_theCourt_weathers, .ref a_theCourt_hours, .ref a_theCourt_dangers, .int theCourt_pay, .int theCourt_people, .int theCourt_days])), (a_theCourt_weathers, .inl (cI, 10, .inl theCourt_weathers)), (a_theCourt_hours, .inl (cI, 10, .inl theCourt_hours)), (a_theCourt_dangers, .inl (cI, 10, .inl theCourt_dangers)), (a_theCourt_inWeathers, .inl (cI, 8, .inl theCourt_inWeathers)), (a_theCourt_inHours, .inl (cI, 8, .inl theCourt_inHours)), (a_theCourt_fears, .inl (cI, 8, .inl theCourt_fears))] → va_S A s.heap H locs → ∀ (ls : Array Slot), lv_has ls 6 [(0, .ref a_this), (1, .int p1), (2, .int p2), (3, .int x3_75), (4, .int x4_75), (5, .int x5_75)] → (wk_X7_send_75 Φ goers_28 x3_75 x4_75 x5_75) → W p l e xrm_X7_send s m args below meth c H locs 0 0 Q (F0 m 112 ls []) := by
          intro x3_75 x4_75 x5_75 H locs hP hD hS ls hl hw
          unfold wk_X7_send_75 at hw
          refine lv_iload_n hx hb dX7_send_112 rfl (lv_at hl 3 rfl) ?_
          rw [hQ]
          exact W.iret (v := x3_75) hx hb hr (fun t ht _ => ⟨⟨x3_75, goers_28, rfl, hw, by rw [ht]; exact hP, hD⟩, hS.F ht⟩) hS.2.2 dX7_send_113
        generalize (wk_X7_send_75 Φ goers_28) = K_75 at EX_75 hw
        have LP_75 : ∀ n : Nat, ∀ (x3_75 : Int32) (x4_75 : Int32) (x5_75 : Int32), ∀ (H : Heap) (locs : List Loc), va_P D vwCl [(a_this, .inr (7, [.ref a_text, .ref a_now, .ref a_past, .ref a_imageZero, .ref a_imageOne, .ref a_watched, .ref a_book, .ref a_goers, .ref a_theCourt, .ref a_draft, .int theSeed])), (a_goers, .inl (cI, 6, .inl goers_28)), (a_now, .inr (1, [.ref a_now_marks, .int now_people, .int now_living, .int now_shown, .int now_spent, .int now_days])), (a_theCourt, .inr (2, [.ref a_theCourt_marks, .ref a_theCourt_inWeathers, .ref a_theCourt_inHours, .ref a_theCourt_fears, .ref a_theCourt_weathers, .ref a_theCourt_hours, .ref a_theCourt_dangers, .int theCourt_pay, .int theCourt_people, .int theCourt_days])), (a_theCourt_weathers, .inl (cI, 10, .inl theCourt_weathers)), (a_theCourt_hours, .inl (cI, 10, .inl theCourt_hours)), (a_theCourt_dangers, .inl (cI, 10, .inl theCourt_dangers)), (a_theCourt_inWeathers, .inl (cI, 8, .inl theCourt_inWeathers)), (a_theCourt_inHours, .inl (cI, 8, .inl theCourt_inHours)), (a_theCourt_fears, .inl (cI, 8, .inl theCourt_fears))] H → va_D A [(a_this, .inr (7, [.ref a_text, .ref a_now, .ref a_past, .ref a_imageZero, .ref a_imageOne, .ref a_watched, .ref a_book, .ref a_goers, .ref a_theCourt, .ref a_draft, .int theSeed])), (a_goers, .inl (cI, 6, .inl goers_28)), (a_now, .inr (1, [.ref a_now_marks, .int now_people, .int now_living, .int now_shown, .int now_spent, .int now_days])), (a_theCourt, .inr (2, [.ref a_theCourt_marks, .ref a_theCourt_inWeathers, .ref a_theCourt_inHours, .ref a_theCourt_fears, .ref a_theCourt_weathers, .ref a_theCourt_hours, .ref a_theCourt_dangers, .int theCourt_pay, .int theCourt_people, .int theCourt_days])), (a_theCourt_weathers, .inl (cI, 10, .inl theCourt_weathers)), (a_theCourt_hours, .inl (cI, 10, .inl theCourt_hours)), (a_theCourt_dangers, .inl (cI, 10, .inl theCourt_dangers)), (a_theCourt_inWeathers, .inl (cI, 8, .inl theCourt_inWeathers)), (a_theCourt_inHours, .inl (cI, 8, .inl theCourt_inHours)), (a_theCourt_fears, .inl (cI, 8, .inl theCourt_fears))] → va_S A s.heap H locs → ∀ (ls : Array Slot), lv_has ls 6 [(0, .ref a_this), (1, .int p1), (2, .int p2), (3, .int x3_75), (4, .int x4_75), (5, .int x5_75)] → xit3 (wb_X7_send_75 p1 p2 Φ goers_28 K_75) n x3_75 x4_75 x5_75 → W p l e xrm_X7_send s m args below meth c H locs 0 0 Q (F0 m 75 ls []) := by
          intro n
          induction n with
          | zero => intro x3_75 x4_75 x5_75 H locs hP hD hS ls hl hw; exact (show False from hw).elim
          | succ n ih =>
            intro x3_75 x4_75 x5_75 H locs hP hD hS ls hl hw
            have hw : wb_X7_send_75 p1 p2 Φ goers_28 K_75 (xit3 (wb_X7_send_75 p1 p2 Φ goers_28 K_75) n) x3_75 x4_75 x5_75 := hw
            generalize xit3 (wb_X7_send_75 p1 p2 Φ goers_28 K_75) n = rec_75 at ih hw
            unfold wb_X7_send_75 at hw
            refine lv_iload hx hb dX7_send_75 (lv_at hl 5 rfl) ?_
            refine lv_iload_n hx hb dX7_send_77 rfl (lv_at hl 2 rfl) ?_
            refine lv_icmp_gt (tgt := 112) hx hb dX7_send_78 (by decide) (fun c_78 => ?_) (fun c_78 => ?_)
            · have hw := hw.1 c_78
              exact EX_75 _ _ _ _ _ hP hD hS ls (lv_sub hl [0, 1, 2, 3, 4, 5] rfl) hw
            · have hw := hw.2 c_78
              refine lv_aload_n hx hb dX7_send_81 rfl (lv_at hl 0 rfl) ?_
              refine lv_iload hx hb dX7_send_82 (lv_at hl 5 rfl) ?_
              refine lv_iload_n hx hb dX7_send_84 rfl (lv_at hl 1 rfl) ?_
              refine lv_iload hx hb dX7_send_85 (lv_at hl 4 rfl) ?_
              refine xcVi (q0 := 0) (ci := 7) (As := [.int x5_75, .int p1, .int x4_75]) (rest := []) (wc := [(a_this, .inr (7, [.ref a_text, .ref a_now, .ref a_past, .ref a_imageZero, .ref a_imageOne, .ref a_watched, .ref a_book, .ref a_goers, .ref a_theCourt, .ref a_draft, .int theSeed])), (a_goers, .inl (cI, 6, .inl goers_28))]) ⟨hx, hb, hml, hown, hts⟩ (c_X7_leastToSend l D cI cZ cO hw) (cwV 3 hts gX7_send_X7_leastToSend rfl rfl rfl (by decide +kernel) ⟨Nat.le_of_ble_eq_true rfl, Nat.le_of_ble_eq_true rfl⟩) hKK hP [0, 1] rfl rfl rfl rfl hl.1 rfl (Nat.le_of_ble_eq_true rfl) dX7_send_87 ⟨Nat.zero_le _, Nat.zero_le _⟩ (fun r_87 hw => ?_)
              refine lv_istore_n (lv' := [(3, .int r_87), (0, .ref a_this), (1, .int p1), (2, .int p2), (4, .int x4_75), (5, .int x5_75)]) hx hb dX7_send_90 rfl hl (by decide) rfl (fun ls hl => ?_)
              refine lv_iload_n hx hb dX7_send_91 rfl (lv_at hl 0 rfl) ?_
              refine lv_iconst (v := (-1)) hx hb dX7_send_92 (by decide) ?_
              refine lv_icmp_ne (tgt := 98) hx hb dX7_send_93 (by decide) (fun c_93 => ?_) (fun c_93 => ?_)
              · have hw := hw.2 c_93
                refine lv_iload hx hb dX7_send_98 (lv_at hl 4 rfl) ?_
                refine lv_iconst (v := 1) hx hb dX7_send_100 (by decide) ?_
                refine lv_iload_n hx hb dX7_send_101 rfl (lv_at hl 0 rfl) ?_
                refine lv_ishl hx hb dX7_send_102 ?_
                refine lv_ior hx hb dX7_send_103 ?_
                refine lv_istore (lv' := [(4, .int (x4_75 ||| ((1 : Int32) <<< (r_87 &&& 31)))), (3, .int r_87), (0, .ref a_this), (1, .int p1), (2, .int p2), (5, .int x5_75)]) hx hb dX7_send_104 hl (by decide) rfl (fun ls hl => ?_)
                refine lv_iinc (v := (x5_75 + 1)) (lv' := [(5, .int (x5_75 + 1)), (4, .int (x4_75 ||| ((1 : Int32) <<< (r_87 &&& 31)))), (3, .int r_87), (0, .ref a_this), (1, .int p1), (2, .int p2)]) hx hb dX7_send_106 hl (k := 5) rfl (by rfl) (by decide) rfl (fun ls hl => ?_)
                refine lv_goto (tgt := 75) hx hb dX7_send_109 (by decide) ?_
                exact ih _ _ _ _ _ hP hD hS ls (lv_sub hl [3, 4, 5, 2, 1, 0] rfl) hw
              · have hw := hw.1 c_93
                refine lv_iconst (v := (-1)) hx hb dX7_send_96 (by decide) ?_
                rw [hQ]
                exact W.iret (v := (-1)) hx hb hr (fun t ht _ => ⟨⟨(-1), goers_28, rfl, hw, by rw [ht]; exact hP, hD⟩, hS.F ht⟩) hS.2.2 dX7_send_97
        obtain ⟨n, hw⟩ := hw
        exact LP_75 n _ _ _ _ _ hP hD hS ls (lv_sub hl [3, 4, 5, 2, 1, 0] rfl) hw
      generalize (wk_X7_send_28 p1 p2 Φ) = K_28 at EX_28 hw
      have LP_28 : ∀ n : Nat, ∀ (goers_28 : Nat → Int32) (x3_28 : Int32), ∀ (H : Heap) (locs : List Loc), va_P D vwCl [(a_this, .inr (7, [.ref a_text, .ref a_now, .ref a_past, .ref a_imageZero, .ref a_imageOne, .ref a_watched, .ref a_book, .ref a_goers, .ref a_theCourt, .ref a_draft, .int theSeed])), (a_goers, .inl (cI, 6, .inl goers_28)), (a_now, .inr (1, [.ref a_now_marks, .int now_people, .int now_living, .int now_shown, .int now_spent, .int now_days])), (a_theCourt, .inr (2, [.ref a_theCourt_marks, .ref a_theCourt_inWeathers, .ref a_theCourt_inHours, .ref a_theCourt_fears, .ref a_theCourt_weathers, .ref a_theCourt_hours, .ref a_theCourt_dangers, .int theCourt_pay, .int theCourt_people, .int theCourt_days])), (a_theCourt_weathers, .inl (cI, 10, .inl theCourt_weathers)), (a_theCourt_hours, .inl (cI, 10, .inl theCourt_hours)), (a_theCourt_dangers, .inl (cI, 10, .inl theCourt_dangers)), (a_theCourt_inWeathers, .inl (cI, 8, .inl theCourt_inWeathers)), (a_theCourt_inHours, .inl (cI, 8, .inl theCourt_inHours)), (a_theCourt_fears, .inl (cI, 8, .inl theCourt_fears))] H → va_D A [(a_this, .inr (7, [.ref a_text, .ref a_now, .ref a_past, .ref a_imageZero, .ref a_imageOne, .ref a_watched, .ref a_book, .ref a_goers, .ref a_theCourt, .ref a_draft, .int theSeed])), (a_goers, .inl (cI, 6, .inl goers_28)), (a_now, .inr (1, [.ref a_now_marks, .int now_people, .int now_living, .int now_shown, .int now_spent, .int now_days])), (a_theCourt, .inr (2, [.ref a_theCourt_marks, .ref a_theCourt_inWeathers, .ref a_theCourt_inHours, .ref a_theCourt_fears, .ref a_theCourt_weathers, .ref a_theCourt_hours, .ref a_theCourt_dangers, .int theCourt_pay, .int theCourt_people, .int theCourt_days])), (a_theCourt_weathers, .inl (cI, 10, .inl theCourt_weathers)), (a_theCourt_hours, .inl (cI, 10, .inl theCourt_hours)), (a_theCourt_dangers, .inl (cI, 10, .inl theCourt_dangers)), (a_theCourt_inWeathers, .inl (cI, 8, .inl theCourt_inWeathers)), (a_theCourt_inHours, .inl (cI, 8, .inl theCourt_inHours)), (a_theCourt_fears, .inl (cI, 8, .inl theCourt_fears))] → va_S A s.heap H locs → ∀ (ls : Array Slot), lv_has ls 6 [(0, .ref a_this), (1, .int p1), (2, .int p2), (3, .int x3_28)] → xit2 (wb_X7_send_28 now_living now_days theCourt_days theCourt_weathers theCourt_hours theCourt_dangers theCourt_inWeathers theCourt_inHours theCourt_fears p1 K_28) n goers_28 x3_28 → W p l e xrm_X7_send s m args below meth c H locs 0 0 Q (F0 m 28 ls []) := by
        intro n
        induction n with
        | zero => intro goers_28 x3_28 H locs hP hD hS ls hl hw; exact (show False from hw).elim
        | succ n ih =>
          intro goers_28 x3_28 H locs hP hD hS ls hl hw
          have hw : wb_X7_send_28 now_living now_days theCourt_days theCourt_weathers theCourt_hours theCourt_dangers theCourt_inWeathers theCourt_inHours theCourt_fears p1 K_28 (xit2 (wb_X7_send_28 now_living now_days theCourt_days theCourt_weathers theCourt_hours theCourt_dangers theCourt_inWeathers theCourt_inHours theCourt_fears p1 K_28) n) goers_28 x3_28 := hw
          generalize xit2 (wb_X7_send_28 now_living now_days theCourt_days theCourt_weathers theCourt_hours theCourt_dangers theCourt_inWeathers theCourt_inHours theCourt_fears p1 K_28) n = rec_28 at ih hw
          unfold wb_X7_send_28 at hw
          refine lv_iload_n hx hb dX7_send_28 rfl (lv_at hl 3 rfl) ?_
          refine lv_iload_n hx hb dX7_send_29 rfl (lv_at hl 1 rfl) ?_
          refine lv_icmp_ge (tgt := 67) hx hb dX7_send_30 (by decide) (fun c_30 => ?_) (fun c_30 => ?_)
          · have hw := hw.1 c_30
            exact EX_28 _ _ _ _ hP hD hS ls (lv_sub hl [0, 1, 2, 3] rfl) hw
          · have hw := hw.2 c_30
            refine lv_aload_n hx hb dX7_send_33 rfl (lv_at hl 0 rfl) ?_
            refine va_get (D := D) (ci := 7) (v := .ref a_goers) (C := RX7) (T := TX7) (N := 11) hx hb hts hinX7 hown hKK.1 hP 0 rfl rfl 7 (by decide) fl_54 (fun _ h9 => h9) rfl dX7_send_34 ?_
            refine lv_iload_n hx hb dX7_send_37 rfl (lv_at hl 3 rfl) ?_
            refine lv_aload_n hx hb dX7_send_38 rfl (lv_at hl 0 rfl) ?_
            refine va_get (D := D) (ci := 7) (v := .ref a_now) (C := RX7) (T := TX7) (N := 11) hx hb hts hinX7 hown hKK.1 hP 0 rfl rfl 1 (by decide) fl_19 (fun _ h9 => h9) rfl dX7_send_39 ?_
            refine lv_aload_n hx hb dX7_send_42 rfl (lv_at hl 0 rfl) ?_
            refine va_get (D := D) (ci := 7) (v := .ref a_theCourt) (C := RX7) (T := TX7) (N := 11) hx hb hts hinX7 hown hKK.1 hP 0 rfl rfl 8 (by decide) fl_61 (fun _ h9 => h9) rfl dX7_send_43 ?_
            refine lv_aload_n hx hb dX7_send_46 rfl (lv_at hl 0 rfl) ?_
            refine va_get (D := D) (ci := 7) (v := .ref a_now) (C := RX7) (T := TX7) (N := 11) hx hb hts hinX7 hown hKK.1 hP 0 rfl rfl 1 (by decide) fl_19 (fun _ h9 => h9) rfl dX7_send_47 ?_
            refine va_get (D := D) (ci := 1) (v := .int now_days) (C := RX1) (T := TX1) (N := 6) hx hb hts hinX1 hown hKK.1 hP 2 rfl rfl 5 (by decide) fl_117 (fun _ h9 => h9) rfl dX7_send_50 ?_
            refine lv_iload_n hx hb dX7_send_53 rfl (lv_at hl 3 rfl) ?_
            refine lv_iadd hx hb dX7_send_54 ?_
            refine xcVi (q0 := 2) (ci := 1) (As := [.ref a_theCourt, .int (now_days + x3_28)]) (rest := [.int x3_28, .ref a_goers]) (wc := [(a_now, .inr (1, [.ref a_now_marks, .int now_people, .int now_living, .int now_shown, .int now_spent, .int now_days])), (a_theCourt, .inr (2, [.ref a_theCourt_marks, .ref a_theCourt_inWeathers, .ref a_theCourt_inHours, .ref a_theCourt_fears, .ref a_theCourt_weathers, .ref a_theCourt_hours, .ref a_theCourt_dangers, .int theCourt_pay, .int theCourt_people, .int theCourt_days])), (a_theCourt_weathers, .inl (cI, 10, .inl theCourt_weathers)), (a_theCourt_hours, .inl (cI, 10, .inl theCourt_hours)), (a_theCourt_dangers, .inl (cI, 10, .inl theCourt_dangers)), (a_theCourt_inWeathers, .inl (cI, 8, .inl theCourt_inWeathers)), (a_theCourt_inHours, .inl (cI, 8, .inl theCourt_inHours)), (a_theCourt_fears, .inl (cI, 8, .inl theCourt_fears))]) ⟨hx, hb, hml, hown, hts⟩ (c_X1_goersOn l D cI cZ cO hw) (cwV 2 hts gX7_send_X1_goersOn rfl rfl rfl (by decide +kernel) ⟨Nat.le_of_ble_eq_true rfl, Nat.le_of_ble_eq_true rfl⟩) hKK hP [2, 3, 4, 5, 6, 7, 8, 9] rfl rfl rfl rfl hl.1 rfl (Nat.le_of_ble_eq_true rfl) dX7_send_55 ⟨Nat.zero_le _, Nat.zero_le _⟩ (fun r_55 hw => ?_)
            refine xwSv (wr := [(a_this, .inr (7, [.ref a_text, .ref a_now, .ref a_past, .ref a_imageZero, .ref a_imageOne, .ref a_watched, .ref a_book, .ref a_goers, .ref a_theCourt, .ref a_draft, .int theSeed])), (a_now, .inr (1, [.ref a_now_marks, .int now_people, .int now_living, .int now_shown, .int now_spent, .int now_days])), (a_theCourt, .inr (2, [.ref a_theCourt_marks, .ref a_theCourt_inWeathers, .ref a_theCourt_inHours, .ref a_theCourt_fears, .ref a_theCourt_weathers, .ref a_theCourt_hours, .ref a_theCourt_dangers, .int theCourt_pay, .int theCourt_people, .int theCourt_days])), (a_theCourt_weathers, .inl (cI, 10, .inl theCourt_weathers)), (a_theCourt_hours, .inl (cI, 10, .inl theCourt_hours)), (a_theCourt_dangers, .inl (cI, 10, .inl theCourt_dangers)), (a_theCourt_inWeathers, .inl (cI, 8, .inl theCourt_inWeathers)), (a_theCourt_inHours, .inl (cI, 8, .inl theCourt_inHours)), (a_theCourt_fears, .inl (cI, 8, .inl theCourt_fears))]) (As := [.ref a_goers, .int x3_28, .int r_55]) (rest := []) (wc := [(a_goers, .inl (cI, 6, .inl goers_28))]) (fun (u : (Nat → Int32)) => [(a_this, .inr (7, [.ref a_text, .ref a_now, .ref a_past, .ref a_imageZero, .ref a_imageOne, .ref a_watched, .ref a_book, .ref a_goers, .ref a_theCourt, .ref a_draft, .int theSeed])), (a_goers, .inl (cI, 6, .inl u)), (a_now, .inr (1, [.ref a_now_marks, .int now_people, .int now_living, .int now_shown, .int now_spent, .int now_days])), (a_theCourt, .inr (2, [.ref a_theCourt_marks, .ref a_theCourt_inWeathers, .ref a_theCourt_inHours, .ref a_theCourt_fears, .ref a_theCourt_weathers, .ref a_theCourt_hours, .ref a_theCourt_dangers, .int theCourt_pay, .int theCourt_people, .int theCourt_days])), (a_theCourt_weathers, .inl (cI, 10, .inl theCourt_weathers)), (a_theCourt_hours, .inl (cI, 10, .inl theCourt_hours)), (a_theCourt_dangers, .inl (cI, 10, .inl theCourt_dangers)), (a_theCourt_inWeathers, .inl (cI, 8, .inl theCourt_inWeathers)), (a_theCourt_inHours, .inl (cI, 8, .inl theCourt_inHours)), (a_theCourt_fears, .inl (cI, 8, .inl theCourt_fears))]) ⟨hx, hb, hml, hown, hts⟩ (c_X7_put l D cI cZ cO hw) (va_cwS 3 hts gX7_send_X7_put rfl rfl rfl (by decide +kernel) ⟨Nat.le_of_ble_eq_true rfl, Nat.le_of_ble_eq_true rfl⟩) hKK hP hD hS hA [1] [0, 2, 3, 4, 5, 6, 7, 8, 9] [0, 9, 1, 2, 3, 4, 5, 6, 7, 8] rfl rfl rfl rfl rfl (by decide) (fun _ => rfl) rfl hl.1 rfl (Nat.le_of_ble_eq_true rfl) dX7_send_58 ⟨Nat.zero_le _, Nat.zero_le _⟩ (fun goers_58 H locs hw hP hD hS => ?_)
            have hP : va_P D vwCl [(a_this, .inr (7, [.ref a_text, .ref a_now, .ref a_past, .ref a_imageZero, .ref a_imageOne, .ref a_watched, .ref a_book, .ref a_goers, .ref a_theCourt, .ref a_draft, .int theSeed])), (a_goers, .inl (cI, 6, .inl goers_58)), (a_now, .inr (1, [.ref a_now_marks, .int now_people, .int now_living, .int now_shown, .int now_spent, .int now_days])), (a_theCourt, .inr (2, [.ref a_theCourt_marks, .ref a_theCourt_inWeathers, .ref a_theCourt_inHours, .ref a_theCourt_fears, .ref a_theCourt_weathers, .ref a_theCourt_hours, .ref a_theCourt_dangers, .int theCourt_pay, .int theCourt_people, .int theCourt_days])), (a_theCourt_weathers, .inl (cI, 10, .inl theCourt_weathers)), (a_theCourt_hours, .inl (cI, 10, .inl theCourt_hours)), (a_theCourt_dangers, .inl (cI, 10, .inl theCourt_dangers)), (a_theCourt_inWeathers, .inl (cI, 8, .inl theCourt_inWeathers)), (a_theCourt_inHours, .inl (cI, 8, .inl theCourt_inHours)), (a_theCourt_fears, .inl (cI, 8, .inl theCourt_fears))] H := hP
            have hD : va_D A [(a_this, .inr (7, [.ref a_text, .ref a_now, .ref a_past, .ref a_imageZero, .ref a_imageOne, .ref a_watched, .ref a_book, .ref a_goers, .ref a_theCourt, .ref a_draft, .int theSeed])), (a_goers, .inl (cI, 6, .inl goers_58)), (a_now, .inr (1, [.ref a_now_marks, .int now_people, .int now_living, .int now_shown, .int now_spent, .int now_days])), (a_theCourt, .inr (2, [.ref a_theCourt_marks, .ref a_theCourt_inWeathers, .ref a_theCourt_inHours, .ref a_theCourt_fears, .ref a_theCourt_weathers, .ref a_theCourt_hours, .ref a_theCourt_dangers, .int theCourt_pay, .int theCourt_people, .int theCourt_days])), (a_theCourt_weathers, .inl (cI, 10, .inl theCourt_weathers)), (a_theCourt_hours, .inl (cI, 10, .inl theCourt_hours)), (a_theCourt_dangers, .inl (cI, 10, .inl theCourt_dangers)), (a_theCourt_inWeathers, .inl (cI, 8, .inl theCourt_inWeathers)), (a_theCourt_inHours, .inl (cI, 8, .inl theCourt_inHours)), (a_theCourt_fears, .inl (cI, 8, .inl theCourt_fears))] := hD
            refine lv_iinc (v := (x3_28 + 1)) (lv' := [(3, .int (x3_28 + 1)), (0, .ref a_this), (1, .int p1), (2, .int p2)]) hx hb dX7_send_61 hl (k := 3) rfl (by rfl) (by decide) rfl (fun ls hl => ?_)
            refine lv_goto (tgt := 28) hx hb dX7_send_64 (by decide) ?_
            exact ih _ _ _ _ hP hD hS ls (lv_sub hl [1, 2, 3, 0] rfl) hw
      obtain ⟨n, hw⟩ := hw
      exact LP_28 n _ _ _ _ hP hD hS ls (lv_sub hl [1, 2, 3, 0] rfl) hw
    · have hw := hw.1 c_21
      refine lv_iconst (v := (-1)) hx hb dX7_send_24 (by decide) ?_
      rw [hQ]
      exact W.iret (v := (-1)) hx hb hr (fun t ht _ => ⟨⟨(-1), goers, rfl, hw, by rw [ht]; exact hP, hD⟩, hS.F ht⟩) hS.2.2 dX7_send_25
  · have hw := hw.1 c_7
    refine lv_ldc (v := (-1000000002)) hx hb hown (hts (.constant RX7 76 (-1000000002)) (by decide +kernel)) dX7_send_10 ?_
    rw [hQ]
    exact W.iret (v := (-1000000002)) hx hb hr (fun t ht _ => ⟨⟨(-1000000002), goers, rfl, hw, by rw [ht]; exact hP, hD⟩, hS.F ht⟩) hS.2.2 dX7_send_12
def wk_X7_byMarks_30 (Φ : Int32 → Prop) (x3_30 : Int32) (x4_30 : Int32) : Prop :=
  (Φ x3_30)
def wb_X7_byMarks_30 (now_living : Int32) (now_marks : Nat → Int32) (p1 : Int32) (p2 : Int32) (K_30 : Int32 → Int32 → Prop) (rec_30 : Int32 → Int32 → Prop) (x3_30 : Int32) (x4_30 : Int32) : Prop :=
  ((8 ≤ x4_30 → (K_30 x3_30 x4_30)) ∧ (¬ 8 ≤ x4_30 → (wp_X7_at now_marks 8 x4_30 (fun r_46 => (wp_X1_lives now_living x4_30 (fun r_57 => ((r_57 = 0 → (rec_30 x3_30 (x4_30 + 1))) ∧ (¬ r_57 = 0 → (((r_46 &&& p1) = p1 → (((r_46 &&& p2) = 0 → (rec_30 (x3_30 ||| ((1 : Int32) <<< (x4_30 &&& 31))) (x4_30 + 1))) ∧ (¬ (r_46 &&& p2) = 0 → (rec_30 x3_30 (x4_30 + 1))))) ∧ (¬ (r_46 &&& p1) = p1 → (rec_30 x3_30 (x4_30 + 1))))))))))))
def wp_X7_byMarks (now_living : Int32) (now_marks : Nat → Int32) (p1 : Int32) (p2 : Int32) (Φ : Int32 → Prop) : Prop :=
  (wp_X7_within p1 0 255 (fun r_5 => ((r_5 = 0 → (Φ (-1000000002))) ∧ (¬ r_5 = 0 → (wp_X7_within p2 0 255 (fun r_16 => ((r_16 = 0 → (Φ (-1000000002))) ∧ (¬ r_16 = 0 → (∃ n : Nat, xit2 (wb_X7_byMarks_30 now_living now_marks p1 p2 (wk_X7_byMarks_30 Φ)) n 0 0)))))))))
abbrev xrm_X7_byMarks : Room := { frames := 2, cells := 0, slots := 0, locals := 42 }
set_option maxRecDepth 100000 in
set_option maxHeartbeats 4000000 in
theorem c_X7_byMarks (l : Launch) (D : va_G) (cI cZ cO : ClassId) {a_text : Nat} {a_now : Nat} {a_past : Nat} {a_imageZero : Nat} {a_imageOne : Nat} {a_watched : Nat} {a_book : Nat} {a_goers : Nat} {a_theCourt : Nat} {a_draft : Nat} {theSeed : Int32} {a_this : Nat} {a_now_marks : Nat} {now_people : Int32} {now_living : Int32} {now_shown : Int32} {now_spent : Int32} {now_days : Int32} {now_marks : Nat → Int32} {p1 : Int32} {p2 : Int32} {Φ : Int32 → Prop} (hw : (wp_X7_byMarks now_living now_marks p1 p2 Φ)) : Met l yX7_byMarks wsX7_byMarks xrm_X7_byMarks (xPR D cI cZ cO [.ref a_this, .int p1, .int p2] [(a_this, .inr (7, [.ref a_text, .ref a_now, .ref a_past, .ref a_imageZero, .ref a_imageOne, .ref a_watched, .ref a_book, .ref a_goers, .ref a_theCourt, .ref a_draft, .int theSeed])), (a_now, .inr (1, [.ref a_now_marks, .int now_people, .int now_living, .int now_shown, .int now_spent, .int now_days])), (a_now_marks, .inl (cI, 8, .inl now_marks))]) (vp_Si Φ) 0 0 (fun _ => False) := by
  refine Met.ofW (cc := cX7_byMarks) (maxL := 6) (ret := (some .int)) (by decide) rfl ?_
  intro p e s m args below meth c s₁ B hml hv
  obtain ⟨rfl, hP, hKK⟩ := hv
  have hx := B.exec
  have hb := B.bytes
  have hr := B.returns
  have hts := atoms_spec (ws := wsX7_byMarks) B.pre
  have hown : s.vm.findClass RX7 = some m.cls := findClass_of_methodNamed B.named
  have hlocks := B.notSynchronized
  obtain ⟨Q, hQ⟩ : ∃ Q, Q = MQ below (vp_Si Φ) ([.ref a_this, .int p1, .int p2] : List Value).toArray s 0 0 (fun _ => False) := ⟨_, rfl⟩
  rw [← hQ]
  have hl := lv_entry ([.ref a_this, .int p1, .int p2]) (n := 6) (Nat.le_of_ble_eq_true rfl)
  rw [lg_entry_eq]
  generalize (lg_sl ([.ref a_this, .int p1, .int p2]) ++ List.replicate (6 - (lg_sl ([.ref a_this, .int p1, .int p2])).length) Slot.unset).toArray = ls at hl ⊢
  have hl : lv_has ls 6 [(0, .ref a_this), (1, .int p1), (2, .int p2)] := hl
  generalize ([.ref a_this, .int p1, .int p2] : List Value).toArray = args at hts hQ ⊢
  have hP : va_P D vwCl [(a_this, .inr (7, [.ref a_text, .ref a_now, .ref a_past, .ref a_imageZero, .ref a_imageOne, .ref a_watched, .ref a_book, .ref a_goers, .ref a_theCourt, .ref a_draft, .int theSeed])), (a_now, .inr (1, [.ref a_now_marks, .int now_people, .int now_living, .int now_shown, .int now_spent, .int now_days])), (a_now_marks, .inl (cI, 8, .inl now_marks))] s.heap := hP
  have hinX1 : ∀ w ∈ u_ws RX1 TX1 6, w ∈ wsX7_byMarks := by decide +kernel
  have hinX7 : ∀ w ∈ u_ws RX7 TX7 11, w ∈ wsX7_byMarks := by decide +kernel
  have fl_19 := hts (.fieldLink RX7 19 "DoubleChain" "now" "LDoubleChain$Chain;") (by decide +kernel)
  have fl_136 := hts (.fieldLink RX7 136 "DoubleChain$Chain" "marks" "[I") (by decide +kernel)
  clear B
  show W p l e xrm_X7_byMarks s m args below meth c s.heap [] 0 0 Q (F0 m 0 ls [])
  unfold wp_X7_byMarks at hw
  refine lv_iload_n hx hb dX7_byMarks_0 rfl (lv_at hl 1 rfl) ?_
  refine lv_iconst (v := 0) hx hb dX7_byMarks_1 (by decide) ?_
  refine lv_sipush (v := 255) hx hb dX7_byMarks_2 (by decide) ?_
  refine xcSi (As := [.int p1, .int 0, .int 255]) (rest := []) (wc := []) ⟨hx, hb, hml, hown, hts⟩ (c_X7_within l D cI cZ cO hw) (va_cwS 3 hts gX7_byMarks_X7_within rfl rfl rfl (by decide +kernel) ⟨Nat.le_of_ble_eq_true rfl, Nat.le_of_ble_eq_true rfl⟩) hKK hP [] rfl rfl hl.1 rfl (Nat.le_of_ble_eq_true rfl) dX7_byMarks_5 ⟨Nat.zero_le _, Nat.zero_le _⟩ (fun r_5 hw => ?_)
  refine lv_if_eq (tgt := 22) hx hb dX7_byMarks_8 (by decide) (fun c_8 => ?_) (fun c_8 => ?_)
  · have hw := hw.1 c_8
    refine lv_ldc (v := (-1000000002)) hx hb hown (hts (.constant RX7 76 (-1000000002)) (by decide +kernel)) dX7_byMarks_22 ?_
    rw [hQ]
    exact W.iret (v := (-1000000002)) hx hb hr (fun t ht _ => ⟨(-1000000002), rfl, hw, ht⟩) (fun _ h => (List.not_mem_nil h).elim) dX7_byMarks_24
  · have hw := hw.2 c_8
    refine lv_iload_n hx hb dX7_byMarks_11 rfl (lv_at hl 2 rfl) ?_
    refine lv_iconst (v := 0) hx hb dX7_byMarks_12 (by decide) ?_
    refine lv_sipush (v := 255) hx hb dX7_byMarks_13 (by decide) ?_
    refine xcSi (As := [.int p2, .int 0, .int 255]) (rest := []) (wc := []) ⟨hx, hb, hml, hown, hts⟩ (c_X7_within l D cI cZ cO hw) (va_cwS 3 hts gX7_byMarks_X7_within rfl rfl rfl (by decide +kernel) ⟨Nat.le_of_ble_eq_true rfl, Nat.le_of_ble_eq_true rfl⟩) hKK hP [] rfl rfl hl.1 rfl (Nat.le_of_ble_eq_true rfl) dX7_byMarks_16 ⟨Nat.zero_le _, Nat.zero_le _⟩ (fun r_16 hw => ?_)
    refine lv_if_ne (tgt := 25) hx hb dX7_byMarks_19 (by decide) (fun c_19 => ?_) (fun c_19 => ?_)
    · have hw := hw.2 c_19
      refine lv_iconst (v := 0) hx hb dX7_byMarks_25 (by decide) ?_
      refine lv_istore_n (lv' := [(3, .int 0), (0, .ref a_this), (1, .int p1), (2, .int p2)]) hx hb dX7_byMarks_26 rfl hl (by decide) rfl (fun ls hl => ?_)
      refine lv_iconst (v := 0) hx hb dX7_byMarks_27 (by decide) ?_
      refine lv_istore (lv' := [(4, .int 0), (3, .int 0), (0, .ref a_this), (1, .int p1), (2, .int p2)]) hx hb dX7_byMarks_28 hl (by decide) rfl (fun ls hl => ?_)
      have EX_30 : ∀ (x3_30 : Int32) (x4_30 : Int32), ∀ (ls : Array Slot), lv_has ls 6 [(0, .ref a_this), (1, .int p1), (2, .int p2), (3, .int x3_30), (4, .int x4_30)] → (wk_X7_byMarks_30 Φ x3_30 x4_30) → W p l e xrm_X7_byMarks s m args below meth c s.heap [] 0 0 Q (F0 m 91 ls []) := by
        intro x3_30 x4_30 ls hl hw
        unfold wk_X7_byMarks_30 at hw
        refine lv_iload_n hx hb dX7_byMarks_91 rfl (lv_at hl 3 rfl) ?_
        rw [hQ]
        exact W.iret (v := x3_30) hx hb hr (fun t ht _ => ⟨x3_30, rfl, hw, ht⟩) (fun _ h => (List.not_mem_nil h).elim) dX7_byMarks_92
      generalize (wk_X7_byMarks_30 Φ) = K_30 at EX_30 hw
      have LP_30 : ∀ n : Nat, ∀ (x3_30 : Int32) (x4_30 : Int32), ∀ (ls : Array Slot), lv_has ls 6 [(0, .ref a_this), (1, .int p1), (2, .int p2), (3, .int x3_30), (4, .int x4_30)] → xit2 (wb_X7_byMarks_30 now_living now_marks p1 p2 K_30) n x3_30 x4_30 → W p l e xrm_X7_byMarks s m args below meth c s.heap [] 0 0 Q (F0 m 30 ls []) := by
        intro n
        induction n with
        | zero => intro x3_30 x4_30 ls hl hw; exact (show False from hw).elim
        | succ n ih =>
          intro x3_30 x4_30 ls hl hw
          have hw : wb_X7_byMarks_30 now_living now_marks p1 p2 K_30 (xit2 (wb_X7_byMarks_30 now_living now_marks p1 p2 K_30) n) x3_30 x4_30 := hw
          generalize xit2 (wb_X7_byMarks_30 now_living now_marks p1 p2 K_30) n = rec_30 at ih hw
          unfold wb_X7_byMarks_30 at hw
          refine lv_iload hx hb dX7_byMarks_30 (lv_at hl 4 rfl) ?_
          refine lv_bipush (v := 8) hx hb dX7_byMarks_32 (by decide) ?_
          refine lv_icmp_ge (tgt := 91) hx hb dX7_byMarks_34 (by decide) (fun c_34 => ?_) (fun c_34 => ?_)
          · have hw := hw.1 c_34
            exact EX_30 _ _ ls (lv_sub hl [0, 1, 2, 3, 4] rfl) hw
          · have hw := hw.2 c_34
            refine lv_aload_n hx hb dX7_byMarks_37 rfl (lv_at hl 0 rfl) ?_
            refine va_get (D := D) (ci := 7) (v := .ref a_now) (C := RX7) (T := TX7) (N := 11) hx hb hts hinX7 hown hKK.1 hP 0 rfl rfl 1 (by decide) fl_19 (fun _ h9 => h9) rfl dX7_byMarks_38 ?_
            refine va_get (D := D) (ci := 1) (v := .ref a_now_marks) (C := RX1) (T := TX1) (N := 6) hx hb hts hinX1 hown hKK.1 hP 1 rfl rfl 0 (by decide) fl_136 (fun _ h9 => h9) rfl dX7_byMarks_41 ?_
            refine lv_iload hx hb dX7_byMarks_44 (lv_at hl 4 rfl) ?_
            refine xcSi (As := [.ref a_now_marks, .int x4_30]) (rest := []) (wc := [(a_now_marks, .inl (cI, 8, .inl now_marks))]) ⟨hx, hb, hml, hown, hts⟩ (c_X7_at l D cI cZ cO hw) (va_cwS 2 hts gX7_byMarks_X7_at rfl rfl rfl (by decide +kernel) ⟨Nat.le_of_ble_eq_true rfl, Nat.le_of_ble_eq_true rfl⟩) hKK hP [2] rfl rfl hl.1 rfl (Nat.le_of_ble_eq_true rfl) dX7_byMarks_46 ⟨Nat.zero_le _, Nat.zero_le _⟩ (fun r_46 hw => ?_)
            refine lv_istore (lv' := [(5, .int r_46), (0, .ref a_this), (1, .int p1), (2, .int p2), (3, .int x3_30), (4, .int x4_30)]) hx hb dX7_byMarks_49 hl (by decide) rfl (fun ls hl => ?_)
            refine lv_aload_n hx hb dX7_byMarks_51 rfl (lv_at hl 1 rfl) ?_
            refine va_get (D := D) (ci := 7) (v := .ref a_now) (C := RX7) (T := TX7) (N := 11) hx hb hts hinX7 hown hKK.1 hP 0 rfl rfl 1 (by decide) fl_19 (fun _ h9 => h9) rfl dX7_byMarks_52 ?_
            refine lv_iload hx hb dX7_byMarks_55 (lv_at hl 5 rfl) ?_
            refine xcVi (q0 := 1) (ci := 1) (As := [.int x4_30]) (rest := []) (wc := [(a_now, .inr (1, [.ref a_now_marks, .int now_people, .int now_living, .int now_shown, .int now_spent, .int now_days]))]) ⟨hx, hb, hml, hown, hts⟩ (c_X1_lives l D cI cZ cO hw) (cwV 1 hts gX7_byMarks_X1_lives rfl rfl rfl (by decide +kernel) ⟨Nat.le_of_ble_eq_true rfl, Nat.le_of_ble_eq_true rfl⟩) hKK hP [1] rfl rfl rfl rfl hl.1 rfl (Nat.le_of_ble_eq_true rfl) dX7_byMarks_57 ⟨Nat.zero_le _, Nat.zero_le _⟩ (fun r_57 hw => ?_)
            refine lv_if_eq (tgt := 85) hx hb dX7_byMarks_60 (by decide) (fun c_60 => ?_) (fun c_60 => ?_)
            · have hw := hw.1 c_60
              refine lv_iinc (v := (x4_30 + 1)) (lv' := [(4, .int (x4_30 + 1)), (5, .int r_46), (0, .ref a_this), (1, .int p1), (2, .int p2), (3, .int x3_30)]) hx hb dX7_byMarks_85 hl (k := 5) rfl (by rfl) (by decide) rfl (fun ls hl => ?_)
              refine lv_goto (tgt := 30) hx hb dX7_byMarks_88 (by decide) ?_
              exact ih _ _ ls (lv_sub hl [2, 3, 4, 5, 0] rfl) hw
            · have hw := hw.2 c_60
              refine lv_iload hx hb dX7_byMarks_63 (lv_at hl 0 rfl) ?_
              refine lv_iload_n hx hb dX7_byMarks_65 rfl (lv_at hl 2 rfl) ?_
              refine lv_iand hx hb dX7_byMarks_66 ?_
              refine lv_iload_n hx hb dX7_byMarks_67 rfl (lv_at hl 2 rfl) ?_
              refine lv_icmp_ne (tgt := 85) hx hb dX7_byMarks_68 (by decide) (fun c_68 => ?_) (fun c_68 => ?_)
              · have hw := hw.2 c_68
                refine lv_iinc (v := (x4_30 + 1)) (lv' := [(4, .int (x4_30 + 1)), (5, .int r_46), (0, .ref a_this), (1, .int p1), (2, .int p2), (3, .int x3_30)]) hx hb dX7_byMarks_85 hl (k := 5) rfl (by rfl) (by decide) rfl (fun ls hl => ?_)
                refine lv_goto (tgt := 30) hx hb dX7_byMarks_88 (by decide) ?_
                exact ih _ _ ls (lv_sub hl [2, 3, 4, 5, 0] rfl) hw
              · have hw := hw.1 c_68
                refine lv_iload hx hb dX7_byMarks_71 (lv_at hl 0 rfl) ?_
                refine lv_iload_n hx hb dX7_byMarks_73 rfl (lv_at hl 3 rfl) ?_
                refine lv_iand hx hb dX7_byMarks_74 ?_
                refine lv_if_ne (tgt := 85) hx hb dX7_byMarks_75 (by decide) (fun c_75 => ?_) (fun c_75 => ?_)
                · have hw := hw.2 c_75
                  refine lv_iinc (v := (x4_30 + 1)) (lv' := [(4, .int (x4_30 + 1)), (5, .int r_46), (0, .ref a_this), (1, .int p1), (2, .int p2), (3, .int x3_30)]) hx hb dX7_byMarks_85 hl (k := 5) rfl (by rfl) (by decide) rfl (fun ls hl => ?_)
                  refine lv_goto (tgt := 30) hx hb dX7_byMarks_88 (by decide) ?_
                  exact ih _ _ ls (lv_sub hl [2, 3, 4, 5, 0] rfl) hw
                · have hw := hw.1 c_75
                  refine lv_iload_n hx hb dX7_byMarks_78 rfl (lv_at hl 4 rfl) ?_
                  refine lv_iconst (v := 1) hx hb dX7_byMarks_79 (by decide) ?_
                  refine lv_iload hx hb dX7_byMarks_80 (lv_at hl 5 rfl) ?_
                  refine lv_ishl hx hb dX7_byMarks_82 ?_
                  refine lv_ior hx hb dX7_byMarks_83 ?_
                  refine lv_istore_n (lv' := [(3, .int (x3_30 ||| ((1 : Int32) <<< (x4_30 &&& 31)))), (5, .int r_46), (0, .ref a_this), (1, .int p1), (2, .int p2), (4, .int x4_30)]) hx hb dX7_byMarks_84 rfl hl (by decide) rfl (fun ls hl => ?_)
                  refine lv_iinc (v := (x4_30 + 1)) (lv' := [(4, .int (x4_30 + 1)), (3, .int (x3_30 ||| ((1 : Int32) <<< (x4_30 &&& 31)))), (5, .int r_46), (0, .ref a_this), (1, .int p1), (2, .int p2)]) hx hb dX7_byMarks_85 hl (k := 5) rfl (by rfl) (by decide) rfl (fun ls hl => ?_)
                  refine lv_goto (tgt := 30) hx hb dX7_byMarks_88 (by decide) ?_
                  exact ih _ _ ls (lv_sub hl [3, 4, 5, 1, 0] rfl) hw
      obtain ⟨n, hw⟩ := hw
      exact LP_30 n _ _ ls (lv_sub hl [2, 3, 4, 1, 0] rfl) hw
    · have hw := hw.1 c_19
      refine lv_ldc (v := (-1000000002)) hx hb hown (hts (.constant RX7 76 (-1000000002)) (by decide +kernel)) dX7_byMarks_22 ?_
      rw [hQ]
      exact W.iret (v := (-1000000002)) hx hb hr (fun t ht _ => ⟨(-1000000002), rfl, hw, ht⟩) (fun _ h => (List.not_mem_nil h).elim) dX7_byMarks_24
def wp_X7_diedAt (now_people : Int32) (now_living : Int32) (p1 : Int32) (Φ : Int32 → Prop) : Prop :=
  (wp_X1_has now_people p1 (fun r_5 => ((r_5 = 0 → (Φ (-1000000001))) ∧ (¬ r_5 = 0 → (wp_X1_lives now_living p1 (fun r_19 => ((r_19 = 0 → (wp_X1_aheadOf now_living p1 (fun r_35 => (Φ r_35)))) ∧ (¬ r_19 = 0 → (Φ (-1000000003))))))))))
abbrev xrm_X7_diedAt : Room := { frames := 2, cells := 0, slots := 0, locals := 42 }
set_option maxRecDepth 100000 in
set_option maxHeartbeats 4000000 in
theorem c_X7_diedAt (l : Launch) (D : va_G) (cI cZ cO : ClassId) {a_text : Nat} {a_now : Nat} {a_past : Nat} {a_imageZero : Nat} {a_imageOne : Nat} {a_watched : Nat} {a_book : Nat} {a_goers : Nat} {a_theCourt : Nat} {a_draft : Nat} {theSeed : Int32} {a_this : Nat} {a_now_marks : Nat} {now_people : Int32} {now_living : Int32} {now_shown : Int32} {now_spent : Int32} {now_days : Int32} {p1 : Int32} {Φ : Int32 → Prop} (hw : (wp_X7_diedAt now_people now_living p1 Φ)) : Met l yX7_diedAt wsX7_diedAt xrm_X7_diedAt (xPR D cI cZ cO [.ref a_this, .int p1] [(a_this, .inr (7, [.ref a_text, .ref a_now, .ref a_past, .ref a_imageZero, .ref a_imageOne, .ref a_watched, .ref a_book, .ref a_goers, .ref a_theCourt, .ref a_draft, .int theSeed])), (a_now, .inr (1, [.ref a_now_marks, .int now_people, .int now_living, .int now_shown, .int now_spent, .int now_days]))]) (vp_Si Φ) 0 0 (fun _ => False) := by
  refine Met.ofW (cc := cX7_diedAt) (maxL := 2) (ret := (some .int)) (by decide) rfl ?_
  intro p e s m args below meth c s₁ B hml hv
  obtain ⟨rfl, hP, hKK⟩ := hv
  have hx := B.exec
  have hb := B.bytes
  have hr := B.returns
  have hts := atoms_spec (ws := wsX7_diedAt) B.pre
  have hown : s.vm.findClass RX7 = some m.cls := findClass_of_methodNamed B.named
  have hlocks := B.notSynchronized
  obtain ⟨Q, hQ⟩ : ∃ Q, Q = MQ below (vp_Si Φ) ([.ref a_this, .int p1] : List Value).toArray s 0 0 (fun _ => False) := ⟨_, rfl⟩
  rw [← hQ]
  have hl := lv_entry ([.ref a_this, .int p1]) (n := 2) (Nat.le_of_ble_eq_true rfl)
  rw [lg_entry_eq]
  generalize (lg_sl ([.ref a_this, .int p1]) ++ List.replicate (2 - (lg_sl ([.ref a_this, .int p1])).length) Slot.unset).toArray = ls at hl ⊢
  have hl : lv_has ls 2 [(0, .ref a_this), (1, .int p1)] := hl
  generalize ([.ref a_this, .int p1] : List Value).toArray = args at hts hQ ⊢
  have hP : va_P D vwCl [(a_this, .inr (7, [.ref a_text, .ref a_now, .ref a_past, .ref a_imageZero, .ref a_imageOne, .ref a_watched, .ref a_book, .ref a_goers, .ref a_theCourt, .ref a_draft, .int theSeed])), (a_now, .inr (1, [.ref a_now_marks, .int now_people, .int now_living, .int now_shown, .int now_spent, .int now_days]))] s.heap := hP
  have hinX7 : ∀ w ∈ u_ws RX7 TX7 11, w ∈ wsX7_diedAt := by decide +kernel
  have fl_19 := hts (.fieldLink RX7 19 "DoubleChain" "now" "LDoubleChain$Chain;") (by decide +kernel)
  clear B
  show W p l e xrm_X7_diedAt s m args below meth c s.heap [] 0 0 Q (F0 m 0 ls [])
  unfold wp_X7_diedAt at hw
  refine lv_aload_n hx hb dX7_diedAt_0 rfl (lv_at hl 0 rfl) ?_
  refine va_get (D := D) (ci := 7) (v := .ref a_now) (C := RX7) (T := TX7) (N := 11) hx hb hts hinX7 hown hKK.1 hP 0 rfl rfl 1 (by decide) fl_19 (fun _ h9 => h9) rfl dX7_diedAt_1 ?_
  refine lv_iload_n hx hb dX7_diedAt_4 rfl (lv_at hl 1 rfl) ?_
  refine xcVi (q0 := 1) (ci := 1) (As := [.int p1]) (rest := []) (wc := [(a_now, .inr (1, [.ref a_now_marks, .int now_people, .int now_living, .int now_shown, .int now_spent, .int now_days]))]) ⟨hx, hb, hml, hown, hts⟩ (c_X1_has l D cI cZ cO hw) (cwV 1 hts gX7_diedAt_X1_has rfl rfl rfl (by decide +kernel) ⟨Nat.le_of_ble_eq_true rfl, Nat.le_of_ble_eq_true rfl⟩) hKK hP [1] rfl rfl rfl rfl hl.1 rfl (Nat.le_of_ble_eq_true rfl) dX7_diedAt_5 ⟨Nat.zero_le _, Nat.zero_le _⟩ (fun r_5 hw => ?_)
  refine lv_if_ne (tgt := 14) hx hb dX7_diedAt_8 (by decide) (fun c_8 => ?_) (fun c_8 => ?_)
  · have hw := hw.2 c_8
    refine lv_aload_n hx hb dX7_diedAt_14 rfl (lv_at hl 0 rfl) ?_
    refine va_get (D := D) (ci := 7) (v := .ref a_now) (C := RX7) (T := TX7) (N := 11) hx hb hts hinX7 hown hKK.1 hP 0 rfl rfl 1 (by decide) fl_19 (fun _ h9 => h9) rfl dX7_diedAt_15 ?_
    refine lv_iload_n hx hb dX7_diedAt_18 rfl (lv_at hl 1 rfl) ?_
    refine xcVi (q0 := 1) (ci := 1) (As := [.int p1]) (rest := []) (wc := [(a_now, .inr (1, [.ref a_now_marks, .int now_people, .int now_living, .int now_shown, .int now_spent, .int now_days]))]) ⟨hx, hb, hml, hown, hts⟩ (c_X1_lives l D cI cZ cO hw) (cwV 1 hts gX7_diedAt_X1_lives rfl rfl rfl (by decide +kernel) ⟨Nat.le_of_ble_eq_true rfl, Nat.le_of_ble_eq_true rfl⟩) hKK hP [1] rfl rfl rfl rfl hl.1 rfl (Nat.le_of_ble_eq_true rfl) dX7_diedAt_19 ⟨Nat.zero_le _, Nat.zero_le _⟩ (fun r_19 hw => ?_)
    refine lv_if_eq (tgt := 30) hx hb dX7_diedAt_22 (by decide) (fun c_22 => ?_) (fun c_22 => ?_)
    · have hw := hw.1 c_22
      refine lv_aload_n hx hb dX7_diedAt_30 rfl (lv_at hl 0 rfl) ?_
      refine va_get (D := D) (ci := 7) (v := .ref a_now) (C := RX7) (T := TX7) (N := 11) hx hb hts hinX7 hown hKK.1 hP 0 rfl rfl 1 (by decide) fl_19 (fun _ h9 => h9) rfl dX7_diedAt_31 ?_
      refine lv_iload_n hx hb dX7_diedAt_34 rfl (lv_at hl 1 rfl) ?_
      refine xcVi (q0 := 1) (ci := 1) (As := [.int p1]) (rest := []) (wc := [(a_now, .inr (1, [.ref a_now_marks, .int now_people, .int now_living, .int now_shown, .int now_spent, .int now_days]))]) ⟨hx, hb, hml, hown, hts⟩ (c_X1_aheadOf l D cI cZ cO hw) (cwV 1 hts gX7_diedAt_X1_aheadOf rfl rfl rfl (by decide +kernel) ⟨Nat.le_of_ble_eq_true rfl, Nat.le_of_ble_eq_true rfl⟩) hKK hP [1] rfl rfl rfl rfl hl.1 rfl (Nat.le_of_ble_eq_true rfl) dX7_diedAt_35 ⟨Nat.zero_le _, Nat.zero_le _⟩ (fun r_35 hw => ?_)
      rw [hQ]
      exact W.iret (v := r_35) hx hb hr (fun t ht _ => ⟨r_35, rfl, hw, ht⟩) (fun _ h => (List.not_mem_nil h).elim) dX7_diedAt_38
    · have hw := hw.2 c_22
      refine lv_ldc (v := (-1000000003)) hx hb hown (hts (.constant RX7 192 (-1000000003)) (by decide +kernel)) dX7_diedAt_25 ?_
      refine lv_goto (tgt := 38) hx hb dX7_diedAt_27 (by decide) ?_
      rw [hQ]
      exact W.iret (v := (-1000000003)) hx hb hr (fun t ht _ => ⟨(-1000000003), rfl, hw, ht⟩) (fun _ h => (List.not_mem_nil h).elim) dX7_diedAt_38
  · have hw := hw.1 c_8
    refine lv_ldc (v := (-1000000001)) hx hb hown (hts (.constant RX7 135 (-1000000001)) (by decide +kernel)) dX7_diedAt_11 ?_
    rw [hQ]
    exact W.iret (v := (-1000000001)) hx hb hr (fun t ht _ => ⟨(-1000000001), rfl, hw, ht⟩) (fun _ h => (List.not_mem_nil h).elim) dX7_diedAt_13
def wp_X7_classes (now_people : Int32) (now_living : Int32) (now_marks : Nat → Int32) (p1 : Int32) (Φ : Int32 → Prop) : Prop :=
  ((p1 = (-1) → (wp_X1_countClasses now_living now_marks (fun r_9 => (Φ r_9)))) ∧ (¬ p1 = (-1) → (wp_X1_has now_people p1 (fun r_18 => ((r_18 = 0 → (Φ (-1000000001))) ∧ (¬ r_18 = 0 → (wp_X1_lives now_living p1 (fun r_32 => ((r_32 = 0 → (Φ 0)) ∧ (¬ r_32 = 0 → (wp_X1_alike now_living now_marks p1 (fun r_43 => (Φ r_43)))))))))))))
abbrev xrm_X7_classes : Room := { frames := 4, cells := 0, slots := 0, locals := 87 }
set_option maxRecDepth 100000 in
set_option maxHeartbeats 4000000 in
theorem c_X7_classes (l : Launch) (D : va_G) (cI cZ cO : ClassId) {a_text : Nat} {a_now : Nat} {a_past : Nat} {a_imageZero : Nat} {a_imageOne : Nat} {a_watched : Nat} {a_book : Nat} {a_goers : Nat} {a_theCourt : Nat} {a_draft : Nat} {theSeed : Int32} {a_this : Nat} {a_now_marks : Nat} {now_people : Int32} {now_living : Int32} {now_shown : Int32} {now_spent : Int32} {now_days : Int32} {now_marks : Nat → Int32} {p1 : Int32} {Φ : Int32 → Prop} (hw : (wp_X7_classes now_people now_living now_marks p1 Φ)) : Met l yX7_classes wsX7_classes xrm_X7_classes (xPR D cI cZ cO [.ref a_this, .int p1] [(a_this, .inr (7, [.ref a_text, .ref a_now, .ref a_past, .ref a_imageZero, .ref a_imageOne, .ref a_watched, .ref a_book, .ref a_goers, .ref a_theCourt, .ref a_draft, .int theSeed])), (a_now, .inr (1, [.ref a_now_marks, .int now_people, .int now_living, .int now_shown, .int now_spent, .int now_days])), (a_now_marks, .inl (cI, 8, .inl now_marks))]) (vp_Si Φ) 0 0 (fun _ => False) := by
  refine Met.ofW (cc := cX7_classes) (maxL := 2) (ret := (some .int)) (by decide) rfl ?_
  intro p e s m args below meth c s₁ B hml hv
  obtain ⟨rfl, hP, hKK⟩ := hv
  have hx := B.exec
  have hb := B.bytes
  have hr := B.returns
  have hts := atoms_spec (ws := wsX7_classes) B.pre
  have hown : s.vm.findClass RX7 = some m.cls := findClass_of_methodNamed B.named
  have hlocks := B.notSynchronized
  obtain ⟨Q, hQ⟩ : ∃ Q, Q = MQ below (vp_Si Φ) ([.ref a_this, .int p1] : List Value).toArray s 0 0 (fun _ => False) := ⟨_, rfl⟩
  rw [← hQ]
  have hl := lv_entry ([.ref a_this, .int p1]) (n := 2) (Nat.le_of_ble_eq_true rfl)
  rw [lg_entry_eq]
  generalize (lg_sl ([.ref a_this, .int p1]) ++ List.replicate (2 - (lg_sl ([.ref a_this, .int p1])).length) Slot.unset).toArray = ls at hl ⊢
  have hl : lv_has ls 2 [(0, .ref a_this), (1, .int p1)] := hl
  generalize ([.ref a_this, .int p1] : List Value).toArray = args at hts hQ ⊢
  have hP : va_P D vwCl [(a_this, .inr (7, [.ref a_text, .ref a_now, .ref a_past, .ref a_imageZero, .ref a_imageOne, .ref a_watched, .ref a_book, .ref a_goers, .ref a_theCourt, .ref a_draft, .int theSeed])), (a_now, .inr (1, [.ref a_now_marks, .int now_people, .int now_living, .int now_shown, .int now_spent, .int now_days])), (a_now_marks, .inl (cI, 8, .inl now_marks))] s.heap := hP
  have hinX7 : ∀ w ∈ u_ws RX7 TX7 11, w ∈ wsX7_classes := by decide +kernel
  have fl_19 := hts (.fieldLink RX7 19 "DoubleChain" "now" "LDoubleChain$Chain;") (by decide +kernel)
  clear B
  show W p l e xrm_X7_classes s m args below meth c s.heap [] 0 0 Q (F0 m 0 ls [])
  unfold wp_X7_classes at hw
  refine lv_iload_n hx hb dX7_classes_0 rfl (lv_at hl 1 rfl) ?_
  refine lv_iconst (v := (-1)) hx hb dX7_classes_1 (by decide) ?_
  refine lv_icmp_ne (tgt := 13) hx hb dX7_classes_2 (by decide) (fun c_2 => ?_) (fun c_2 => ?_)
  · have hw := hw.2 c_2
    refine lv_aload_n hx hb dX7_classes_13 rfl (lv_at hl 0 rfl) ?_
    refine va_get (D := D) (ci := 7) (v := .ref a_now) (C := RX7) (T := TX7) (N := 11) hx hb hts hinX7 hown hKK.1 hP 0 rfl rfl 1 (by decide) fl_19 (fun _ h9 => h9) rfl dX7_classes_14 ?_
    refine lv_iload_n hx hb dX7_classes_17 rfl (lv_at hl 1 rfl) ?_
    refine xcVi (q0 := 1) (ci := 1) (As := [.int p1]) (rest := []) (wc := [(a_now, .inr (1, [.ref a_now_marks, .int now_people, .int now_living, .int now_shown, .int now_spent, .int now_days]))]) ⟨hx, hb, hml, hown, hts⟩ (c_X1_has l D cI cZ cO hw) (cwV 1 hts gX7_classes_X1_has rfl rfl rfl (by decide +kernel) ⟨Nat.le_of_ble_eq_true rfl, Nat.le_of_ble_eq_true rfl⟩) hKK hP [1] rfl rfl rfl rfl hl.1 rfl (Nat.le_of_ble_eq_true rfl) dX7_classes_18 ⟨Nat.zero_le _, Nat.zero_le _⟩ (fun r_18 hw => ?_)
    refine lv_if_ne (tgt := 27) hx hb dX7_classes_21 (by decide) (fun c_21 => ?_) (fun c_21 => ?_)
    · have hw := hw.2 c_21
      refine lv_aload_n hx hb dX7_classes_27 rfl (lv_at hl 0 rfl) ?_
      refine va_get (D := D) (ci := 7) (v := .ref a_now) (C := RX7) (T := TX7) (N := 11) hx hb hts hinX7 hown hKK.1 hP 0 rfl rfl 1 (by decide) fl_19 (fun _ h9 => h9) rfl dX7_classes_28 ?_
      refine lv_iload_n hx hb dX7_classes_31 rfl (lv_at hl 1 rfl) ?_
      refine xcVi (q0 := 1) (ci := 1) (As := [.int p1]) (rest := []) (wc := [(a_now, .inr (1, [.ref a_now_marks, .int now_people, .int now_living, .int now_shown, .int now_spent, .int now_days]))]) ⟨hx, hb, hml, hown, hts⟩ (c_X1_lives l D cI cZ cO hw) (cwV 1 hts gX7_classes_X1_lives rfl rfl rfl (by decide +kernel) ⟨Nat.le_of_ble_eq_true rfl, Nat.le_of_ble_eq_true rfl⟩) hKK hP [1] rfl rfl rfl rfl hl.1 rfl (Nat.le_of_ble_eq_true rfl) dX7_classes_32 ⟨Nat.zero_le _, Nat.zero_le _⟩ (fun r_32 hw => ?_)
      refine lv_if_eq (tgt := 49) hx hb dX7_classes_35 (by decide) (fun c_35 => ?_) (fun c_35 => ?_)
      · have hw := hw.1 c_35
        refine lv_iconst (v := 0) hx hb dX7_classes_49 (by decide) ?_
        rw [hQ]
        exact W.iret (v := 0) hx hb hr (fun t ht _ => ⟨0, rfl, hw, ht⟩) (fun _ h => (List.not_mem_nil h).elim) dX7_classes_50
      · have hw := hw.2 c_35
        refine lv_aload_n hx hb dX7_classes_38 rfl (lv_at hl 0 rfl) ?_
        refine va_get (D := D) (ci := 7) (v := .ref a_now) (C := RX7) (T := TX7) (N := 11) hx hb hts hinX7 hown hKK.1 hP 0 rfl rfl 1 (by decide) fl_19 (fun _ h9 => h9) rfl dX7_classes_39 ?_
        refine lv_iload_n hx hb dX7_classes_42 rfl (lv_at hl 1 rfl) ?_
        refine xcVi (q0 := 1) (ci := 1) (As := [.int p1]) (rest := []) (wc := [(a_now, .inr (1, [.ref a_now_marks, .int now_people, .int now_living, .int now_shown, .int now_spent, .int now_days])), (a_now_marks, .inl (cI, 8, .inl now_marks))]) ⟨hx, hb, hml, hown, hts⟩ (c_X1_alike l D cI cZ cO hw) (cwV 1 hts gX7_classes_X1_alike rfl rfl rfl (by decide +kernel) ⟨Nat.le_of_ble_eq_true rfl, Nat.le_of_ble_eq_true rfl⟩) hKK hP [1, 2] rfl rfl rfl rfl hl.1 rfl (Nat.le_of_ble_eq_true rfl) dX7_classes_43 ⟨Nat.zero_le _, Nat.zero_le _⟩ (fun r_43 hw => ?_)
        refine lv_goto (tgt := 50) hx hb dX7_classes_46 (by decide) ?_
        rw [hQ]
        exact W.iret (v := r_43) hx hb hr (fun t ht _ => ⟨r_43, rfl, hw, ht⟩) (fun _ h => (List.not_mem_nil h).elim) dX7_classes_50
    · have hw := hw.1 c_21
      refine lv_ldc (v := (-1000000001)) hx hb hown (hts (.constant RX7 135 (-1000000001)) (by decide +kernel)) dX7_classes_24 ?_
      rw [hQ]
      exact W.iret (v := (-1000000001)) hx hb hr (fun t ht _ => ⟨(-1000000001), rfl, hw, ht⟩) (fun _ h => (List.not_mem_nil h).elim) dX7_classes_26
  · have hw := hw.1 c_2
    refine lv_aload_n hx hb dX7_classes_5 rfl (lv_at hl 0 rfl) ?_
    refine va_get (D := D) (ci := 7) (v := .ref a_now) (C := RX7) (T := TX7) (N := 11) hx hb hts hinX7 hown hKK.1 hP 0 rfl rfl 1 (by decide) fl_19 (fun _ h9 => h9) rfl dX7_classes_6 ?_
    refine xcVi (q0 := 1) (ci := 1) (As := []) (rest := []) (wc := [(a_now, .inr (1, [.ref a_now_marks, .int now_people, .int now_living, .int now_shown, .int now_spent, .int now_days])), (a_now_marks, .inl (cI, 8, .inl now_marks))]) ⟨hx, hb, hml, hown, hts⟩ (c_X1_countClasses l D cI cZ cO hw) (cwV 0 hts gX7_classes_X1_countClasses rfl rfl rfl (by decide +kernel) ⟨Nat.le_of_ble_eq_true rfl, Nat.le_of_ble_eq_true rfl⟩) hKK hP [1, 2] rfl rfl rfl rfl hl.1 rfl (Nat.le_of_ble_eq_true rfl) dX7_classes_9 ⟨Nat.zero_le _, Nat.zero_le _⟩ (fun r_9 hw => ?_)
    rw [hQ]
    exact W.iret (v := r_9) hx hb hr (fun t ht _ => ⟨r_9, rfl, hw, ht⟩) (fun _ h => (List.not_mem_nil h).elim) dX7_classes_12
def wk_X7_tell_16 (Φ : Int32 → Prop) (x2_16 : Int32) (x3_16 : Int32) : Prop :=
  (Φ x2_16)
def wj_X7_tell_44 (now_living : Int32) (now_marks : Nat → Int32) (p1 : Int32) (x2_16 : Int32) (x3_16 : Int32) (rec_16 : Int32 → Int32 → Prop) (s0_44 : Int32) : Prop :=
  ((s0_44 = 0 → (rec_16 x2_16 (x3_16 + 1))) ∧ (¬ s0_44 = 0 → (wp_X1_isToldBy now_living now_marks x3_16 p1 (fun r_57 => ((r_57 = 0 → (rec_16 x2_16 (x3_16 + 1))) ∧ (¬ r_57 = 0 → (rec_16 x3_16 (x3_16 + 1))))))))
def wj_X7_tell_39 (now_living : Int32) (now_marks : Nat → Int32) (p1 : Int32) (x2_16 : Int32) (x3_16 : Int32) (rec_16 : Int32 → Int32 → Prop) : Prop :=
  (wj_X7_tell_44 now_living now_marks p1 x2_16 x3_16 rec_16 1)
def wb_X7_tell_16 (now_living : Int32) (now_marks : Nat → Int32) (p1 : Int32) (K_16 : Int32 → Int32 → Prop) (rec_16 : Int32 → Int32 → Prop) (x2_16 : Int32) (x3_16 : Int32) : Prop :=
  ((255 < x3_16 → (K_16 x2_16 x3_16)) ∧ (¬ 255 < x3_16 → ((x2_16 = (-1) → (wj_X7_tell_39 now_living now_marks p1 x2_16 x3_16 rec_16)) ∧ (¬ x2_16 = (-1) → (wp_J6_bitCount_0f7a4 x3_16 (fun r_29 => (wp_J6_bitCount_0f7a4 x2_16 (fun r_33 => ((r_33 ≤ r_29 → (wj_X7_tell_44 now_living now_marks p1 x2_16 x3_16 rec_16 0)) ∧ (¬ r_33 ≤ r_29 → (wj_X7_tell_39 now_living now_marks p1 x2_16 x3_16 rec_16)))))))))))
def wp_X7_tell (now_living : Int32) (now_marks : Nat → Int32) (p1 : Int32) (Φ : Int32 → Prop) : Prop :=
  ((now_living = 0 → (Φ (-1))) ∧ (¬ now_living = 0 → (∃ n : Nat, xit2 (wb_X7_tell_16 now_living now_marks p1 (wk_X7_tell_16 Φ)) n (-1) 0)))
abbrev xrm_X7_tell : Room := { frames := 4, cells := 0, slots := 0, locals := 88 }
set_option maxRecDepth 100000 in
set_option maxHeartbeats 4000000 in
theorem c_X7_tell (l : Launch) (D : va_G) (cI cZ cO : ClassId) {a_text : Nat} {a_now : Nat} {a_past : Nat} {a_imageZero : Nat} {a_imageOne : Nat} {a_watched : Nat} {a_book : Nat} {a_goers : Nat} {a_theCourt : Nat} {a_draft : Nat} {theSeed : Int32} {a_this : Nat} {a_now_marks : Nat} {now_people : Int32} {now_living : Int32} {now_shown : Int32} {now_spent : Int32} {now_days : Int32} {now_marks : Nat → Int32} {p1 : Int32} {Φ : Int32 → Prop} (hw : (wp_X7_tell now_living now_marks p1 Φ)) : Met l yX7_tell wsX7_tell xrm_X7_tell (xPR D cI cZ cO [.ref a_this, .int p1] [(a_this, .inr (7, [.ref a_text, .ref a_now, .ref a_past, .ref a_imageZero, .ref a_imageOne, .ref a_watched, .ref a_book, .ref a_goers, .ref a_theCourt, .ref a_draft, .int theSeed])), (a_now, .inr (1, [.ref a_now_marks, .int now_people, .int now_living, .int now_shown, .int now_spent, .int now_days])), (a_now_marks, .inl (cI, 8, .inl now_marks))]) (vp_Si Φ) 0 0 (fun _ => False) := by
  refine Met.ofW (cc := cX7_tell) (maxL := 5) (ret := (some .int)) (by decide) rfl ?_
  intro p e s m args below meth c s₁ B hml hv
  obtain ⟨rfl, hP, hKK⟩ := hv
  have hx := B.exec
  have hb := B.bytes
  have hr := B.returns
  have hts := atoms_spec (ws := wsX7_tell) B.pre
  have hown : s.vm.findClass RX7 = some m.cls := findClass_of_methodNamed B.named
  have hlocks := B.notSynchronized
  obtain ⟨Q, hQ⟩ : ∃ Q, Q = MQ below (vp_Si Φ) ([.ref a_this, .int p1] : List Value).toArray s 0 0 (fun _ => False) := ⟨_, rfl⟩
  rw [← hQ]
  have hl := lv_entry ([.ref a_this, .int p1]) (n := 5) (Nat.le_of_ble_eq_true rfl)
  rw [lg_entry_eq]
  generalize (lg_sl ([.ref a_this, .int p1]) ++ List.replicate (5 - (lg_sl ([.ref a_this, .int p1])).length) Slot.unset).toArray = ls at hl ⊢
  have hl : lv_has ls 5 [(0, .ref a_this), (1, .int p1)] := hl
  generalize ([.ref a_this, .int p1] : List Value).toArray = args at hts hQ ⊢
  have hP : va_P D vwCl [(a_this, .inr (7, [.ref a_text, .ref a_now, .ref a_past, .ref a_imageZero, .ref a_imageOne, .ref a_watched, .ref a_book, .ref a_goers, .ref a_theCourt, .ref a_draft, .int theSeed])), (a_now, .inr (1, [.ref a_now_marks, .int now_people, .int now_living, .int now_shown, .int now_spent, .int now_days])), (a_now_marks, .inl (cI, 8, .inl now_marks))] s.heap := hP
  have hinX1 : ∀ w ∈ u_ws RX1 TX1 6, w ∈ wsX7_tell := by decide +kernel
  have hinX7 : ∀ w ∈ u_ws RX7 TX7 11, w ∈ wsX7_tell := by decide +kernel
  have fl_19 := hts (.fieldLink RX7 19 "DoubleChain" "now" "LDoubleChain$Chain;") (by decide +kernel)
  have fl_118 := hts (.fieldLink RX7 118 "DoubleChain$Chain" "living" "I") (by decide +kernel)
  clear B
  show W p l e xrm_X7_tell s m args below meth c s.heap [] 0 0 Q (F0 m 0 ls [])
  unfold wp_X7_tell at hw
  refine lv_aload_n hx hb dX7_tell_0 rfl (lv_at hl 0 rfl) ?_
  refine va_get (D := D) (ci := 7) (v := .ref a_now) (C := RX7) (T := TX7) (N := 11) hx hb hts hinX7 hown hKK.1 hP 0 rfl rfl 1 (by decide) fl_19 (fun _ h9 => h9) rfl dX7_tell_1 ?_
  refine va_get (D := D) (ci := 1) (v := .int now_living) (C := RX1) (T := TX1) (N := 6) hx hb hts hinX1 hown hKK.1 hP 1 rfl rfl 2 (by decide) fl_118 (fun _ h9 => h9) rfl dX7_tell_4 ?_
  refine lv_if_ne (tgt := 12) hx hb dX7_tell_7 (by decide) (fun c_7 => ?_) (fun c_7 => ?_)
  · have hw := hw.2 c_7
    refine lv_iconst (v := (-1)) hx hb dX7_tell_12 (by decide) ?_
    refine lv_istore_n (lv' := [(2, .int (-1)), (0, .ref a_this), (1, .int p1)]) hx hb dX7_tell_13 rfl hl (by decide) rfl (fun ls hl => ?_)
    refine lv_iconst (v := 0) hx hb dX7_tell_14 (by decide) ?_
    refine lv_istore_n (lv' := [(3, .int 0), (2, .int (-1)), (0, .ref a_this), (1, .int p1)]) hx hb dX7_tell_15 rfl hl (by decide) rfl (fun ls hl => ?_)
    have EX_16 : ∀ (x2_16 : Int32) (x3_16 : Int32), ∀ (ls : Array Slot), lv_has ls 5 [(0, .ref a_this), (1, .int p1), (2, .int x2_16), (3, .int x3_16)] → (wk_X7_tell_16 Φ x2_16 x3_16) → W p l e xrm_X7_tell s m args below meth c s.heap [] 0 0 Q (F0 m 71 ls []) := by
      intro x2_16 x3_16 ls hl hw
      unfold wk_X7_tell_16 at hw
      refine lv_iload_n hx hb dX7_tell_71 rfl (lv_at hl 2 rfl) ?_
      rw [hQ]
      exact W.iret (v := x2_16) hx hb hr (fun t ht _ => ⟨x2_16, rfl, hw, ht⟩) (fun _ h => (List.not_mem_nil h).elim) dX7_tell_72
    generalize (wk_X7_tell_16 Φ) = K_16 at EX_16 hw
    have LP_16 : ∀ n : Nat, ∀ (x2_16 : Int32) (x3_16 : Int32), ∀ (ls : Array Slot), lv_has ls 5 [(0, .ref a_this), (1, .int p1), (2, .int x2_16), (3, .int x3_16)] → xit2 (wb_X7_tell_16 now_living now_marks p1 K_16) n x2_16 x3_16 → W p l e xrm_X7_tell s m args below meth c s.heap [] 0 0 Q (F0 m 16 ls []) := by
      intro n
      induction n with
      | zero => intro x2_16 x3_16 ls hl hw; exact (show False from hw).elim
      | succ n ih =>
        intro x2_16 x3_16 ls hl hw
        have hw : wb_X7_tell_16 now_living now_marks p1 K_16 (xit2 (wb_X7_tell_16 now_living now_marks p1 K_16) n) x2_16 x3_16 := hw
        generalize xit2 (wb_X7_tell_16 now_living now_marks p1 K_16) n = rec_16 at ih hw
        unfold wb_X7_tell_16 at hw
        have JN_44 : ∀ (s0_44 : Int32), ∀ (ls : Array Slot), lv_has ls 5 [(0, .ref a_this), (1, .int p1), (2, .int x2_16), (3, .int x3_16)] → (wj_X7_tell_44 now_living now_marks p1 x2_16 x3_16 rec_16 s0_44) → W p l e xrm_X7_tell s m args below meth c s.heap [] 0 0 Q (F0 m 44 ls [.int s0_44]) := by
          intro s0_44 ls hl hw
          unfold wj_X7_tell_44 at hw
          refine lv_istore (lv' := [(4, .int s0_44), (0, .ref a_this), (1, .int p1), (2, .int x2_16), (3, .int x3_16)]) hx hb dX7_tell_44 hl (by decide) rfl (fun ls hl => ?_)
          refine lv_iload hx hb dX7_tell_46 (lv_at hl 0 rfl) ?_
          refine lv_if_eq (tgt := 65) hx hb dX7_tell_48 (by decide) (fun c_48 => ?_) (fun c_48 => ?_)
          · have hw := hw.1 c_48
            refine lv_iinc (v := (x3_16 + 1)) (lv' := [(3, .int (x3_16 + 1)), (4, .int s0_44), (0, .ref a_this), (1, .int p1), (2, .int x2_16)]) hx hb dX7_tell_65 hl (k := 4) rfl (by rfl) (by decide) rfl (fun ls hl => ?_)
            refine lv_goto (tgt := 16) hx hb dX7_tell_68 (by decide) ?_
            exact ih _ _ ls (lv_sub hl [2, 3, 4, 0] rfl) hw
          · have hw := hw.2 c_48
            refine lv_aload_n hx hb dX7_tell_51 rfl (lv_at hl 1 rfl) ?_
            refine va_get (D := D) (ci := 7) (v := .ref a_now) (C := RX7) (T := TX7) (N := 11) hx hb hts hinX7 hown hKK.1 hP 0 rfl rfl 1 (by decide) fl_19 (fun _ h9 => h9) rfl dX7_tell_52 ?_
            refine lv_iload_n hx hb dX7_tell_55 rfl (lv_at hl 4 rfl) ?_
            refine lv_iload_n hx hb dX7_tell_56 rfl (lv_at hl 2 rfl) ?_
            refine xcVi (q0 := 1) (ci := 1) (As := [.int x3_16, .int p1]) (rest := []) (wc := [(a_now, .inr (1, [.ref a_now_marks, .int now_people, .int now_living, .int now_shown, .int now_spent, .int now_days])), (a_now_marks, .inl (cI, 8, .inl now_marks))]) ⟨hx, hb, hml, hown, hts⟩ (c_X1_isToldBy l D cI cZ cO hw) (cwV 2 hts gX7_tell_X1_isToldBy rfl rfl rfl (by decide +kernel) ⟨Nat.le_of_ble_eq_true rfl, Nat.le_of_ble_eq_true rfl⟩) hKK hP [1, 2] rfl rfl rfl rfl hl.1 rfl (Nat.le_of_ble_eq_true rfl) dX7_tell_57 ⟨Nat.zero_le _, Nat.zero_le _⟩ (fun r_57 hw => ?_)
            refine lv_if_eq (tgt := 65) hx hb dX7_tell_60 (by decide) (fun c_60 => ?_) (fun c_60 => ?_)
            · have hw := hw.1 c_60
              refine lv_iinc (v := (x3_16 + 1)) (lv' := [(3, .int (x3_16 + 1)), (4, .int s0_44), (0, .ref a_this), (1, .int p1), (2, .int x2_16)]) hx hb dX7_tell_65 hl (k := 4) rfl (by rfl) (by decide) rfl (fun ls hl => ?_)
              refine lv_goto (tgt := 16) hx hb dX7_tell_68 (by decide) ?_
              exact ih _ _ ls (lv_sub hl [2, 3, 4, 0] rfl) hw
            · have hw := hw.2 c_60
              refine lv_iload_n hx hb dX7_tell_63 rfl (lv_at hl 4 rfl) ?_
              refine lv_istore_n (lv' := [(2, .int x3_16), (4, .int s0_44), (0, .ref a_this), (1, .int p1), (3, .int x3_16)]) hx hb dX7_tell_64 rfl hl (by decide) rfl (fun ls hl => ?_)
              refine lv_iinc (v := (x3_16 + 1)) (lv' := [(3, .int (x3_16 + 1)), (2, .int x3_16), (4, .int s0_44), (0, .ref a_this), (1, .int p1)]) hx hb dX7_tell_65 hl (k := 4) rfl (by rfl) (by decide) rfl (fun ls hl => ?_)
              refine lv_goto (tgt := 16) hx hb dX7_tell_68 (by decide) ?_
              exact ih _ _ ls (lv_sub hl [3, 4, 1, 0] rfl) hw
        have JN_39 : ∀ (ls : Array Slot), lv_has ls 5 [(0, .ref a_this), (1, .int p1), (2, .int x2_16), (3, .int x3_16)] → (wj_X7_tell_39 now_living now_marks p1 x2_16 x3_16 rec_16) → W p l e xrm_X7_tell s m args below meth c s.heap [] 0 0 Q (F0 m 39 ls []) := by
          intro ls hl hw
          unfold wj_X7_tell_39 at hw
          refine lv_iconst (v := 1) hx hb dX7_tell_39 (by decide) ?_
          refine lv_goto (tgt := 44) hx hb dX7_tell_40 (by decide) ?_
          exact JN_44 _ ls (lv_sub hl [0, 1, 2, 3] rfl) hw
        refine lv_iload_n hx hb dX7_tell_16 rfl (lv_at hl 3 rfl) ?_
        refine lv_sipush (v := 255) hx hb dX7_tell_17 (by decide) ?_
        refine lv_icmp_gt (tgt := 71) hx hb dX7_tell_20 (by decide) (fun c_20 => ?_) (fun c_20 => ?_)
        · have hw := hw.1 c_20
          exact EX_16 _ _ ls (lv_sub hl [0, 1, 2, 3] rfl) hw
        · have hw := hw.2 c_20
          refine lv_iload_n hx hb dX7_tell_23 rfl (lv_at hl 2 rfl) ?_
          refine lv_iconst (v := (-1)) hx hb dX7_tell_24 (by decide) ?_
          refine lv_icmp_eq (tgt := 39) hx hb dX7_tell_25 (by decide) (fun c_25 => ?_) (fun c_25 => ?_)
          · have hw := hw.1 c_25
            exact JN_39 ls (lv_sub hl [0, 1, 2, 3] rfl) hw
          · have hw := hw.2 c_25
            refine lv_iload_n hx hb dX7_tell_28 rfl (lv_at hl 3 rfl) ?_
            refine xcSi (As := [.int x3_16]) (rest := []) (wc := []) ⟨hx, hb, hml, hown, hts⟩ (c_J6_bitCount_0f7a4 l D cI cZ cO hw) (va_cwS 1 hts gX7_tell_J6_bitCount_0f7a4 rfl rfl rfl (by decide +kernel) ⟨Nat.le_of_ble_eq_true rfl, Nat.le_of_ble_eq_true rfl⟩) hKK hP [] rfl rfl hl.1 rfl (Nat.le_of_ble_eq_true rfl) dX7_tell_29 ⟨Nat.zero_le _, Nat.zero_le _⟩ (fun r_29 hw => ?_)
            refine lv_iload_n hx hb dX7_tell_32 rfl (lv_at hl 2 rfl) ?_
            refine xcSi (As := [.int x2_16]) (rest := [.int r_29]) (wc := []) ⟨hx, hb, hml, hown, hts⟩ (c_J6_bitCount_0f7a4 l D cI cZ cO hw) (va_cwS 1 hts gX7_tell_J6_bitCount_0f7a4 rfl rfl rfl (by decide +kernel) ⟨Nat.le_of_ble_eq_true rfl, Nat.le_of_ble_eq_true rfl⟩) hKK hP [] rfl rfl hl.1 rfl (Nat.le_of_ble_eq_true rfl) dX7_tell_33 ⟨Nat.zero_le _, Nat.zero_le _⟩ (fun r_33 hw => ?_)
            refine lv_icmp_ge (tgt := 43) hx hb dX7_tell_36 (by decide) (fun c_36 => ?_) (fun c_36 => ?_)
            · have hw := hw.1 c_36
              refine lv_iconst (v := 0) hx hb dX7_tell_43 (by decide) ?_
              exact JN_44 _ ls (lv_sub hl [0, 1, 2, 3] rfl) hw
            · have hw := hw.2 c_36
              exact JN_39 ls (lv_sub hl [0, 1, 2, 3] rfl) hw
    obtain ⟨n, hw⟩ := hw
    exact LP_16 n _ _ ls (lv_sub hl [2, 3, 1, 0] rfl) hw
  · have hw := hw.1 c_7
    refine lv_iconst (v := (-1)) hx hb dX7_tell_10 (by decide) ?_
    rw [hQ]
    exact W.iret (v := (-1)) hx hb hr (fun t ht _ => ⟨(-1), rfl, hw, ht⟩) (fun _ h => (List.not_mem_nil h).elim) dX7_tell_11
def wk_X7_reign_4 (Φ : Int32 → Prop) (x1_4 : Int32) (x2_4 : Int32) : Prop :=
  (Φ x1_4)
def wb_X7_reign_4 (theCourt_days : Int32) (now_living : Int32) (theCourt_weathers : Nat → Int32) (theCourt_hours : Nat → Int32) (theCourt_dangers : Nat → Int32) (theCourt_inWeathers : Nat → Int32) (theCourt_inHours : Nat → Int32) (theCourt_fears : Nat → Int32) (Φ : Int32 → Prop) (K_4 : Int32 → Int32 → Prop) (rec_4 : Int32 → Int32 → Prop) (x1_4 : Int32) (x2_4 : Int32) : Prop :=
  ((theCourt_days ≤ x2_4 → (K_4 x1_4 x2_4)) ∧ (¬ theCourt_days ≤ x2_4 → (wp_X1_seenOn now_living theCourt_days theCourt_weathers theCourt_hours theCourt_dangers theCourt_inWeathers theCourt_inHours theCourt_fears x2_4 (fun r_24 => ((r_24 = (-1) → (Φ (-1))) ∧ (¬ r_24 = (-1) → (wp_X1_aheadOf now_living r_24 (fun r_41 => (rec_4 (if x1_4 < (r_41 + 1) then (r_41 + 1) else x1_4) (x2_4 + 1))))))))))
def wp_X7_reign (theCourt_days : Int32) (now_living : Int32) (theCourt_weathers : Nat → Int32) (theCourt_hours : Nat → Int32) (theCourt_dangers : Nat → Int32) (theCourt_inWeathers : Nat → Int32) (theCourt_inHours : Nat → Int32) (theCourt_fears : Nat → Int32) (Φ : Int32 → Prop) : Prop :=
  (∃ n : Nat, xit2 (wb_X7_reign_4 theCourt_days now_living theCourt_weathers theCourt_hours theCourt_dangers theCourt_inWeathers theCourt_inHours theCourt_fears Φ (wk_X7_reign_4 Φ)) n 0 0)
abbrev xrm_X7_reign : Room := { frames := 4, cells := 0, slots := 0, locals := 92 }
set_option maxRecDepth 100000 in
set_option maxHeartbeats 4000000 in
theorem c_X7_reign (l : Launch) (D : va_G) (cI cZ cO : ClassId) {a_text : Nat} {a_now : Nat} {a_past : Nat} {a_imageZero : Nat} {a_imageOne : Nat} {a_watched : Nat} {a_book : Nat} {a_goers : Nat} {a_theCourt : Nat} {a_draft : Nat} {theSeed : Int32} {a_this : Nat} {a_theCourt_marks : Nat} {a_theCourt_inWeathers : Nat} {a_theCourt_inHours : Nat} {a_theCourt_fears : Nat} {a_theCourt_weathers : Nat} {a_theCourt_hours : Nat} {a_theCourt_dangers : Nat} {theCourt_pay : Int32} {theCourt_people : Int32} {theCourt_days : Int32} {a_now_marks : Nat} {now_people : Int32} {now_living : Int32} {now_shown : Int32} {now_spent : Int32} {now_days : Int32} {theCourt_weathers : Nat → Int32} {theCourt_hours : Nat → Int32} {theCourt_dangers : Nat → Int32} {theCourt_inWeathers : Nat → Int32} {theCourt_inHours : Nat → Int32} {theCourt_fears : Nat → Int32} {Φ : Int32 → Prop} (hw : (wp_X7_reign theCourt_days now_living theCourt_weathers theCourt_hours theCourt_dangers theCourt_inWeathers theCourt_inHours theCourt_fears Φ)) : Met l yX7_reign wsX7_reign xrm_X7_reign (xPR D cI cZ cO [.ref a_this] [(a_this, .inr (7, [.ref a_text, .ref a_now, .ref a_past, .ref a_imageZero, .ref a_imageOne, .ref a_watched, .ref a_book, .ref a_goers, .ref a_theCourt, .ref a_draft, .int theSeed])), (a_theCourt, .inr (2, [.ref a_theCourt_marks, .ref a_theCourt_inWeathers, .ref a_theCourt_inHours, .ref a_theCourt_fears, .ref a_theCourt_weathers, .ref a_theCourt_hours, .ref a_theCourt_dangers, .int theCourt_pay, .int theCourt_people, .int theCourt_days])), (a_now, .inr (1, [.ref a_now_marks, .int now_people, .int now_living, .int now_shown, .int now_spent, .int now_days])), (a_theCourt_weathers, .inl (cI, 10, .inl theCourt_weathers)), (a_theCourt_hours, .inl (cI, 10, .inl theCourt_hours)), (a_theCourt_dangers, .inl (cI, 10, .inl theCourt_dangers)), (a_theCourt_inWeathers, .inl (cI, 8, .inl theCourt_inWeathers)), (a_theCourt_inHours, .inl (cI, 8, .inl theCourt_inHours)), (a_theCourt_fears, .inl (cI, 8, .inl theCourt_fears))]) (vp_Si Φ) 0 0 (fun _ => False) := by
  refine Met.ofW (cc := cX7_reign) (maxL := 4) (ret := (some .int)) (by decide) rfl ?_
  intro p e s m args below meth c s₁ B hml hv
  obtain ⟨rfl, hP, hKK⟩ := hv
  have hx := B.exec
  have hb := B.bytes
  have hr := B.returns
  have hts := atoms_spec (ws := wsX7_reign) B.pre
  have hown : s.vm.findClass RX7 = some m.cls := findClass_of_methodNamed B.named
  have hlocks := B.notSynchronized
  obtain ⟨Q, hQ⟩ : ∃ Q, Q = MQ below (vp_Si Φ) ([.ref a_this] : List Value).toArray s 0 0 (fun _ => False) := ⟨_, rfl⟩
  rw [← hQ]
  have hl := lv_entry ([.ref a_this]) (n := 4) (Nat.le_of_ble_eq_true rfl)
  rw [lg_entry_eq]
  generalize (lg_sl ([.ref a_this]) ++ List.replicate (4 - (lg_sl ([.ref a_this])).length) Slot.unset).toArray = ls at hl ⊢
  have hl : lv_has ls 4 [(0, .ref a_this)] := hl
  generalize ([.ref a_this] : List Value).toArray = args at hts hQ ⊢
  have hP : va_P D vwCl [(a_this, .inr (7, [.ref a_text, .ref a_now, .ref a_past, .ref a_imageZero, .ref a_imageOne, .ref a_watched, .ref a_book, .ref a_goers, .ref a_theCourt, .ref a_draft, .int theSeed])), (a_theCourt, .inr (2, [.ref a_theCourt_marks, .ref a_theCourt_inWeathers, .ref a_theCourt_inHours, .ref a_theCourt_fears, .ref a_theCourt_weathers, .ref a_theCourt_hours, .ref a_theCourt_dangers, .int theCourt_pay, .int theCourt_people, .int theCourt_days])), (a_now, .inr (1, [.ref a_now_marks, .int now_people, .int now_living, .int now_shown, .int now_spent, .int now_days])), (a_theCourt_weathers, .inl (cI, 10, .inl theCourt_weathers)), (a_theCourt_hours, .inl (cI, 10, .inl theCourt_hours)), (a_theCourt_dangers, .inl (cI, 10, .inl theCourt_dangers)), (a_theCourt_inWeathers, .inl (cI, 8, .inl theCourt_inWeathers)), (a_theCourt_inHours, .inl (cI, 8, .inl theCourt_inHours)), (a_theCourt_fears, .inl (cI, 8, .inl theCourt_fears))] s.heap := hP
  have hinX2 : ∀ w ∈ u_ws RX2 TX2 10, w ∈ wsX7_reign := by decide +kernel
  have hinX7 : ∀ w ∈ u_ws RX7 TX7 11, w ∈ wsX7_reign := by decide +kernel
  have fl_19 := hts (.fieldLink RX7 19 "DoubleChain" "now" "LDoubleChain$Chain;") (by decide +kernel)
  have fl_61 := hts (.fieldLink RX7 61 "DoubleChain" "theCourt" "LDoubleChain$Court;") (by decide +kernel)
  have fl_114 := hts (.fieldLink RX7 114 "DoubleChain$Court" "days" "I") (by decide +kernel)
  clear B
  show W p l e xrm_X7_reign s m args below meth c s.heap [] 0 0 Q (F0 m 0 ls [])
  unfold wp_X7_reign at hw
  refine lv_iconst (v := 0) hx hb dX7_reign_0 (by decide) ?_
  refine lv_istore_n (lv' := [(1, .int 0), (0, .ref a_this)]) hx hb dX7_reign_1 rfl hl (by decide) rfl (fun ls hl => ?_)
  refine lv_iconst (v := 0) hx hb dX7_reign_2 (by decide) ?_
  refine lv_istore_n (lv' := [(2, .int 0), (1, .int 0), (0, .ref a_this)]) hx hb dX7_reign_3 rfl hl (by decide) rfl (fun ls hl => ?_)
  have EX_4 : ∀ (x1_4 : Int32) (x2_4 : Int32), ∀ (ls : Array Slot), lv_has ls 4 [(0, .ref a_this), (1, .int x1_4), (2, .int x2_4)] → (wk_X7_reign_4 Φ x1_4 x2_4) → W p l e xrm_X7_reign s m args below meth c s.heap [] 0 0 Q (F0 m 56 ls []) := by
    intro x1_4 x2_4 ls hl hw
    unfold wk_X7_reign_4 at hw
    refine lv_iload_n hx hb dX7_reign_56 rfl (lv_at hl 1 rfl) ?_
    rw [hQ]
    exact W.iret (v := x1_4) hx hb hr (fun t ht _ => ⟨x1_4, rfl, hw, ht⟩) (fun _ h => (List.not_mem_nil h).elim) dX7_reign_57
  generalize (wk_X7_reign_4 Φ) = K_4 at EX_4 hw
  have LP_4 : ∀ n : Nat, ∀ (x1_4 : Int32) (x2_4 : Int32), ∀ (ls : Array Slot), lv_has ls 4 [(0, .ref a_this), (1, .int x1_4), (2, .int x2_4)] → xit2 (wb_X7_reign_4 theCourt_days now_living theCourt_weathers theCourt_hours theCourt_dangers theCourt_inWeathers theCourt_inHours theCourt_fears Φ K_4) n x1_4 x2_4 → W p l e xrm_X7_reign s m args below meth c s.heap [] 0 0 Q (F0 m 4 ls []) := by
    intro n
    induction n with
    | zero => intro x1_4 x2_4 ls hl hw; exact (show False from hw).elim
    | succ n ih =>
      intro x1_4 x2_4 ls hl hw
      have hw : wb_X7_reign_4 theCourt_days now_living theCourt_weathers theCourt_hours theCourt_dangers theCourt_inWeathers theCourt_inHours theCourt_fears Φ K_4 (xit2 (wb_X7_reign_4 theCourt_days now_living theCourt_weathers theCourt_hours theCourt_dangers theCourt_inWeathers theCourt_inHours theCourt_fears Φ K_4) n) x1_4 x2_4 := hw
      generalize xit2 (wb_X7_reign_4 theCourt_days now_living theCourt_weathers theCourt_hours theCourt_dangers theCourt_inWeathers theCourt_inHours theCourt_fears Φ K_4) n = rec_4 at ih hw
      unfold wb_X7_reign_4 at hw
      refine lv_iload_n hx hb dX7_reign_4 rfl (lv_at hl 2 rfl) ?_
      refine lv_aload_n hx hb dX7_reign_5 rfl (lv_at hl 0 rfl) ?_
      refine va_get (D := D) (ci := 7) (v := .ref a_theCourt) (C := RX7) (T := TX7) (N := 11) hx hb hts hinX7 hown hKK.1 hP 0 rfl rfl 8 (by decide) fl_61 (fun _ h9 => h9) rfl dX7_reign_6 ?_
      refine va_get (D := D) (ci := 2) (v := .int theCourt_days) (C := RX2) (T := TX2) (N := 10) hx hb hts hinX2 hown hKK.1 hP 1 rfl rfl 9 (by decide) fl_114 (fun _ h9 => h9) rfl dX7_reign_9 ?_
      refine lv_icmp_ge (tgt := 56) hx hb dX7_reign_12 (by decide) (fun c_12 => ?_) (fun c_12 => ?_)
      · have hw := hw.1 c_12
        exact EX_4 _ _ ls (lv_sub hl [0, 1, 2] rfl) hw
      · have hw := hw.2 c_12
        refine lv_aload_n hx hb dX7_reign_15 rfl (lv_at hl 0 rfl) ?_
        refine va_get (D := D) (ci := 7) (v := .ref a_now) (C := RX7) (T := TX7) (N := 11) hx hb hts hinX7 hown hKK.1 hP 0 rfl rfl 1 (by decide) fl_19 (fun _ h9 => h9) rfl dX7_reign_16 ?_
        refine lv_aload_n hx hb dX7_reign_19 rfl (lv_at hl 0 rfl) ?_
        refine va_get (D := D) (ci := 7) (v := .ref a_theCourt) (C := RX7) (T := TX7) (N := 11) hx hb hts hinX7 hown hKK.1 hP 0 rfl rfl 8 (by decide) fl_61 (fun _ h9 => h9) rfl dX7_reign_20 ?_
        refine lv_iload_n hx hb dX7_reign_23 rfl (lv_at hl 2 rfl) ?_
        refine xcVi (q0 := 2) (ci := 1) (As := [.ref a_theCourt, .int x2_4]) (rest := []) (wc := [(a_now, .inr (1, [.ref a_now_marks, .int now_people, .int now_living, .int now_shown, .int now_spent, .int now_days])), (a_theCourt, .inr (2, [.ref a_theCourt_marks, .ref a_theCourt_inWeathers, .ref a_theCourt_inHours, .ref a_theCourt_fears, .ref a_theCourt_weathers, .ref a_theCourt_hours, .ref a_theCourt_dangers, .int theCourt_pay, .int theCourt_people, .int theCourt_days])), (a_theCourt_weathers, .inl (cI, 10, .inl theCourt_weathers)), (a_theCourt_hours, .inl (cI, 10, .inl theCourt_hours)), (a_theCourt_dangers, .inl (cI, 10, .inl theCourt_dangers)), (a_theCourt_inWeathers, .inl (cI, 8, .inl theCourt_inWeathers)), (a_theCourt_inHours, .inl (cI, 8, .inl theCourt_inHours)), (a_theCourt_fears, .inl (cI, 8, .inl theCourt_fears))]) ⟨hx, hb, hml, hown, hts⟩ (c_X1_seenOn l D cI cZ cO hw) (cwV 2 hts gX7_reign_X1_seenOn rfl rfl rfl (by decide +kernel) ⟨Nat.le_of_ble_eq_true rfl, Nat.le_of_ble_eq_true rfl⟩) hKK hP [2, 1, 3, 4, 5, 6, 7, 8] rfl rfl rfl rfl hl.1 rfl (Nat.le_of_ble_eq_true rfl) dX7_reign_24 ⟨Nat.zero_le _, Nat.zero_le _⟩ (fun r_24 hw => ?_)
        refine lv_istore_n (lv' := [(3, .int r_24), (0, .ref a_this), (1, .int x1_4), (2, .int x2_4)]) hx hb dX7_reign_27 rfl hl (by decide) rfl (fun ls hl => ?_)
        refine lv_iload_n hx hb dX7_reign_28 rfl (lv_at hl 0 rfl) ?_
        refine lv_iconst (v := (-1)) hx hb dX7_reign_29 (by decide) ?_
        refine lv_icmp_ne (tgt := 35) hx hb dX7_reign_30 (by decide) (fun c_30 => ?_) (fun c_30 => ?_)
        · have hw := hw.2 c_30
          refine lv_iload_n hx hb dX7_reign_35 rfl (lv_at hl 2 rfl) ?_
          refine lv_aload_n hx hb dX7_reign_36 rfl (lv_at hl 1 rfl) ?_
          refine va_get (D := D) (ci := 7) (v := .ref a_now) (C := RX7) (T := TX7) (N := 11) hx hb hts hinX7 hown hKK.1 hP 0 rfl rfl 1 (by decide) fl_19 (fun _ h9 => h9) rfl dX7_reign_37 ?_
          refine lv_iload_n hx hb dX7_reign_40 rfl (lv_at hl 0 rfl) ?_
          refine xcVi (q0 := 2) (ci := 1) (As := [.int r_24]) (rest := [.int x1_4]) (wc := [(a_now, .inr (1, [.ref a_now_marks, .int now_people, .int now_living, .int now_shown, .int now_spent, .int now_days]))]) ⟨hx, hb, hml, hown, hts⟩ (c_X1_aheadOf l D cI cZ cO hw) (cwV 1 hts gX7_reign_X1_aheadOf rfl rfl rfl (by decide +kernel) ⟨Nat.le_of_ble_eq_true rfl, Nat.le_of_ble_eq_true rfl⟩) hKK hP [2] rfl rfl rfl rfl hl.1 rfl (Nat.le_of_ble_eq_true rfl) dX7_reign_41 ⟨Nat.zero_le _, Nat.zero_le _⟩ (fun r_41 hw => ?_)
          refine lv_iconst (v := 1) hx hb dX7_reign_44 (by decide) ?_
          refine lv_iadd hx hb dX7_reign_45 ?_
          refine va_mmax hx hb (hml.trans hl.1.symm) hown (hts (.methodLink RX7 249 Lib.Math.max.name) (by decide +kernel)) (hts (.static Lib.Math.max.name) (by decide +kernel)) (hts (.initialized "java/lang/Math") (by decide +kernel)) (hts (.code Lib.Math.max.name Lib.Math.max.code 2 (some .int)) (by decide +kernel)) (Nat.le_of_ble_eq_true rfl) (Nat.le_of_ble_eq_true rfl) (Nat.zero_le _) (Nat.zero_le _) dX7_reign_46 ?_
          refine lv_istore_n (lv' := [(1, .int (if x1_4 < (r_41 + 1) then (r_41 + 1) else x1_4)), (3, .int r_24), (0, .ref a_this), (2, .int x2_4)]) hx hb dX7_reign_49 rfl hl (by decide) rfl (fun ls hl => ?_)
          refine lv_iinc (v := (x2_4 + 1)) (lv' := [(2, .int (x2_4 + 1)), (1, .int (if x1_4 < (r_41 + 1) then (r_41 + 1) else x1_4)), (3, .int r_24), (0, .ref a_this)]) hx hb dX7_reign_50 hl (k := 3) rfl (by rfl) (by decide) rfl (fun ls hl => ?_)
          refine lv_goto (tgt := 4) hx hb dX7_reign_53 (by decide) ?_
          exact ih _ _ ls (lv_sub hl [3, 1, 0] rfl) hw
        · have hw := hw.1 c_30
          refine lv_iconst (v := (-1)) hx hb dX7_reign_33 (by decide) ?_
          rw [hQ]
          exact W.iret (v := (-1)) hx hb hr (fun t ht _ => ⟨(-1), rfl, hw, ht⟩) (fun _ h => (List.not_mem_nil h).elim) dX7_reign_34
  obtain ⟨n, hw⟩ := hw
  exact LP_4 n _ _ ls (lv_sub hl [2, 1, 0] rfl) hw
def wk_X7_shownAll_33 (Φ : Int32 → Prop) (x1_33 : Int32) (x2_33 : Int32) : Prop :=
  (Φ (-1))
def wb_X7_shownAll_33 (theCourt_days : Int32) (now_living : Int32) (now_days : Int32) (theCourt_weathers : Nat → Int32) (theCourt_hours : Nat → Int32) (theCourt_dangers : Nat → Int32) (theCourt_inWeathers : Nat → Int32) (theCourt_inHours : Nat → Int32) (theCourt_fears : Nat → Int32) (Φ : Int32 → Prop) (K_33 : Int32 → Int32 → Prop) (rec_33 : Int32 → Int32 → Prop) (x1_33 : Int32) (x2_33 : Int32) : Prop :=
  ((99 < x2_33 → (K_33 x1_33 x2_33)) ∧ (¬ 99 < x2_33 → ((x1_33 = 0 → (Φ x2_33)) ∧ (¬ x1_33 = 0 → (wp_X1_seenOn now_living theCourt_days theCourt_weathers theCourt_hours theCourt_dangers theCourt_inWeathers theCourt_inHours theCourt_fears (now_days + x2_33) (fun r_62 => ((r_62 = (-1) → (rec_33 x1_33 (x2_33 + 1))) ∧ (¬ r_62 = (-1) → (rec_33 (x1_33 &&& (((1 : Int32) <<< (r_62 &&& 31)) ^^^ (-1))) (x2_33 + 1))))))))))
def wp_X7_shownAll (theCourt_pay : Int32) (theCourt_days : Int32) (now_living : Int32) (now_shown : Int32) (now_days : Int32) (theCourt_weathers : Nat → Int32) (theCourt_hours : Nat → Int32) (theCourt_dangers : Nat → Int32) (theCourt_inWeathers : Nat → Int32) (theCourt_inHours : Nat → Int32) (theCourt_fears : Nat → Int32) (Φ : Int32 → Prop) : Prop :=
  (wp_X2_stands theCourt_pay (fun r_4 => ((r_4 = 0 → (Φ (-1000000003))) ∧ (¬ r_4 = 0 → (∃ n : Nat, xit2 (wb_X7_shownAll_33 theCourt_days now_living now_days theCourt_weathers theCourt_hours theCourt_dangers theCourt_inWeathers theCourt_inHours theCourt_fears Φ (wk_X7_shownAll_33 Φ)) n (now_living &&& (now_shown ^^^ (-1))) 0)))))
abbrev xrm_X7_shownAll : Room := { frames := 4, cells := 0, slots := 0, locals := 92 }
set_option maxRecDepth 100000 in
set_option maxHeartbeats 4000000 in
theorem c_X7_shownAll (l : Launch) (D : va_G) (cI cZ cO : ClassId) {a_text : Nat} {a_now : Nat} {a_past : Nat} {a_imageZero : Nat} {a_imageOne : Nat} {a_watched : Nat} {a_book : Nat} {a_goers : Nat} {a_theCourt : Nat} {a_draft : Nat} {theSeed : Int32} {a_this : Nat} {a_theCourt_marks : Nat} {a_theCourt_inWeathers : Nat} {a_theCourt_inHours : Nat} {a_theCourt_fears : Nat} {a_theCourt_weathers : Nat} {a_theCourt_hours : Nat} {a_theCourt_dangers : Nat} {theCourt_pay : Int32} {theCourt_people : Int32} {theCourt_days : Int32} {a_now_marks : Nat} {now_people : Int32} {now_living : Int32} {now_shown : Int32} {now_spent : Int32} {now_days : Int32} {theCourt_weathers : Nat → Int32} {theCourt_hours : Nat → Int32} {theCourt_dangers : Nat → Int32} {theCourt_inWeathers : Nat → Int32} {theCourt_inHours : Nat → Int32} {theCourt_fears : Nat → Int32} {Φ : Int32 → Prop} (hw : (wp_X7_shownAll theCourt_pay theCourt_days now_living now_shown now_days theCourt_weathers theCourt_hours theCourt_dangers theCourt_inWeathers theCourt_inHours theCourt_fears Φ)) : Met l yX7_shownAll wsX7_shownAll xrm_X7_shownAll (xPR D cI cZ cO [.ref a_this] [(a_this, .inr (7, [.ref a_text, .ref a_now, .ref a_past, .ref a_imageZero, .ref a_imageOne, .ref a_watched, .ref a_book, .ref a_goers, .ref a_theCourt, .ref a_draft, .int theSeed])), (a_theCourt, .inr (2, [.ref a_theCourt_marks, .ref a_theCourt_inWeathers, .ref a_theCourt_inHours, .ref a_theCourt_fears, .ref a_theCourt_weathers, .ref a_theCourt_hours, .ref a_theCourt_dangers, .int theCourt_pay, .int theCourt_people, .int theCourt_days])), (a_now, .inr (1, [.ref a_now_marks, .int now_people, .int now_living, .int now_shown, .int now_spent, .int now_days])), (a_theCourt_weathers, .inl (cI, 10, .inl theCourt_weathers)), (a_theCourt_hours, .inl (cI, 10, .inl theCourt_hours)), (a_theCourt_dangers, .inl (cI, 10, .inl theCourt_dangers)), (a_theCourt_inWeathers, .inl (cI, 8, .inl theCourt_inWeathers)), (a_theCourt_inHours, .inl (cI, 8, .inl theCourt_inHours)), (a_theCourt_fears, .inl (cI, 8, .inl theCourt_fears))]) (vp_Si Φ) 0 0 (fun _ => False) := by
  refine Met.ofW (cc := cX7_shownAll) (maxL := 4) (ret := (some .int)) (by decide) rfl ?_
  intro p e s m args below meth c s₁ B hml hv
  obtain ⟨rfl, hP, hKK⟩ := hv
  have hx := B.exec
  have hb := B.bytes
  have hr := B.returns
  have hts := atoms_spec (ws := wsX7_shownAll) B.pre
  have hown : s.vm.findClass RX7 = some m.cls := findClass_of_methodNamed B.named
  have hlocks := B.notSynchronized
  obtain ⟨Q, hQ⟩ : ∃ Q, Q = MQ below (vp_Si Φ) ([.ref a_this] : List Value).toArray s 0 0 (fun _ => False) := ⟨_, rfl⟩
  rw [← hQ]
  have hl := lv_entry ([.ref a_this]) (n := 4) (Nat.le_of_ble_eq_true rfl)
  rw [lg_entry_eq]
  generalize (lg_sl ([.ref a_this]) ++ List.replicate (4 - (lg_sl ([.ref a_this])).length) Slot.unset).toArray = ls at hl ⊢
  have hl : lv_has ls 4 [(0, .ref a_this)] := hl
  generalize ([.ref a_this] : List Value).toArray = args at hts hQ ⊢
  have hP : va_P D vwCl [(a_this, .inr (7, [.ref a_text, .ref a_now, .ref a_past, .ref a_imageZero, .ref a_imageOne, .ref a_watched, .ref a_book, .ref a_goers, .ref a_theCourt, .ref a_draft, .int theSeed])), (a_theCourt, .inr (2, [.ref a_theCourt_marks, .ref a_theCourt_inWeathers, .ref a_theCourt_inHours, .ref a_theCourt_fears, .ref a_theCourt_weathers, .ref a_theCourt_hours, .ref a_theCourt_dangers, .int theCourt_pay, .int theCourt_people, .int theCourt_days])), (a_now, .inr (1, [.ref a_now_marks, .int now_people, .int now_living, .int now_shown, .int now_spent, .int now_days])), (a_theCourt_weathers, .inl (cI, 10, .inl theCourt_weathers)), (a_theCourt_hours, .inl (cI, 10, .inl theCourt_hours)), (a_theCourt_dangers, .inl (cI, 10, .inl theCourt_dangers)), (a_theCourt_inWeathers, .inl (cI, 8, .inl theCourt_inWeathers)), (a_theCourt_inHours, .inl (cI, 8, .inl theCourt_inHours)), (a_theCourt_fears, .inl (cI, 8, .inl theCourt_fears))] s.heap := hP
  have hinX1 : ∀ w ∈ u_ws RX1 TX1 6, w ∈ wsX7_shownAll := by decide +kernel
  have hinX7 : ∀ w ∈ u_ws RX7 TX7 11, w ∈ wsX7_shownAll := by decide +kernel
  have fl_19 := hts (.fieldLink RX7 19 "DoubleChain" "now" "LDoubleChain$Chain;") (by decide +kernel)
  have fl_61 := hts (.fieldLink RX7 61 "DoubleChain" "theCourt" "LDoubleChain$Court;") (by decide +kernel)
  have fl_117 := hts (.fieldLink RX7 117 "DoubleChain$Chain" "days" "I") (by decide +kernel)
  have fl_118 := hts (.fieldLink RX7 118 "DoubleChain$Chain" "living" "I") (by decide +kernel)
  have fl_121 := hts (.fieldLink RX7 121 "DoubleChain$Chain" "shown" "I") (by decide +kernel)
  clear B
  show W p l e xrm_X7_shownAll s m args below meth c s.heap [] 0 0 Q (F0 m 0 ls [])
  unfold wp_X7_shownAll at hw
  refine lv_aload_n hx hb dX7_shownAll_0 rfl (lv_at hl 0 rfl) ?_
  refine va_get (D := D) (ci := 7) (v := .ref a_theCourt) (C := RX7) (T := TX7) (N := 11) hx hb hts hinX7 hown hKK.1 hP 0 rfl rfl 8 (by decide) fl_61 (fun _ h9 => h9) rfl dX7_shownAll_1 ?_
  refine xcVi (q0 := 1) (ci := 2) (As := []) (rest := []) (wc := [(a_theCourt, .inr (2, [.ref a_theCourt_marks, .ref a_theCourt_inWeathers, .ref a_theCourt_inHours, .ref a_theCourt_fears, .ref a_theCourt_weathers, .ref a_theCourt_hours, .ref a_theCourt_dangers, .int theCourt_pay, .int theCourt_people, .int theCourt_days]))]) ⟨hx, hb, hml, hown, hts⟩ (c_X2_stands l D cI cZ cO hw) (cwV 0 hts gX7_shownAll_X2_stands rfl rfl rfl (by decide +kernel) ⟨Nat.le_of_ble_eq_true rfl, Nat.le_of_ble_eq_true rfl⟩) hKK hP [1] rfl rfl rfl rfl hl.1 rfl (Nat.le_of_ble_eq_true rfl) dX7_shownAll_4 ⟨Nat.zero_le _, Nat.zero_le _⟩ (fun r_4 hw => ?_)
  refine lv_if_ne (tgt := 13) hx hb dX7_shownAll_7 (by decide) (fun c_7 => ?_) (fun c_7 => ?_)
  · have hw := hw.2 c_7
    refine lv_aload_n hx hb dX7_shownAll_13 rfl (lv_at hl 0 rfl) ?_
    refine va_get (D := D) (ci := 7) (v := .ref a_now) (C := RX7) (T := TX7) (N := 11) hx hb hts hinX7 hown hKK.1 hP 0 rfl rfl 1 (by decide) fl_19 (fun _ h9 => h9) rfl dX7_shownAll_14 ?_
    refine va_get (D := D) (ci := 1) (v := .int now_living) (C := RX1) (T := TX1) (N := 6) hx hb hts hinX1 hown hKK.1 hP 2 rfl rfl 2 (by decide) fl_118 (fun _ h9 => h9) rfl dX7_shownAll_17 ?_
    refine lv_aload_n hx hb dX7_shownAll_20 rfl (lv_at hl 0 rfl) ?_
    refine va_get (D := D) (ci := 7) (v := .ref a_now) (C := RX7) (T := TX7) (N := 11) hx hb hts hinX7 hown hKK.1 hP 0 rfl rfl 1 (by decide) fl_19 (fun _ h9 => h9) rfl dX7_shownAll_21 ?_
    refine va_get (D := D) (ci := 1) (v := .int now_shown) (C := RX1) (T := TX1) (N := 6) hx hb hts hinX1 hown hKK.1 hP 2 rfl rfl 3 (by decide) fl_121 (fun _ h9 => h9) rfl dX7_shownAll_24 ?_
    refine lv_iconst (v := (-1)) hx hb dX7_shownAll_27 (by decide) ?_
    refine lv_ixor hx hb dX7_shownAll_28 ?_
    refine lv_iand hx hb dX7_shownAll_29 ?_
    refine lv_istore_n (lv' := [(1, .int (now_living &&& (now_shown ^^^ (-1)))), (0, .ref a_this)]) hx hb dX7_shownAll_30 rfl hl (by decide) rfl (fun ls hl => ?_)
    refine lv_iconst (v := 0) hx hb dX7_shownAll_31 (by decide) ?_
    refine lv_istore_n (lv' := [(2, .int 0), (1, .int (now_living &&& (now_shown ^^^ (-1)))), (0, .ref a_this)]) hx hb dX7_shownAll_32 rfl hl (by decide) rfl (fun ls hl => ?_)
    have EX_33 : ∀ (x1_33 : Int32) (x2_33 : Int32), ∀ (ls : Array Slot), lv_has ls 4 [(0, .ref a_this), (1, .int x1_33), (2, .int x2_33)] → (wk_X7_shownAll_33 Φ x1_33 x2_33) → W p l e xrm_X7_shownAll s m args below meth c s.heap [] 0 0 Q (F0 m 85 ls []) := by
      intro x1_33 x2_33 ls hl hw
      unfold wk_X7_shownAll_33 at hw
      refine lv_iconst (v := (-1)) hx hb dX7_shownAll_85 (by decide) ?_
      rw [hQ]
      exact W.iret (v := (-1)) hx hb hr (fun t ht _ => ⟨(-1), rfl, hw, ht⟩) (fun _ h => (List.not_mem_nil h).elim) dX7_shownAll_86
    generalize (wk_X7_shownAll_33 Φ) = K_33 at EX_33 hw
    have LP_33 : ∀ n : Nat, ∀ (x1_33 : Int32) (x2_33 : Int32), ∀ (ls : Array Slot), lv_has ls 4 [(0, .ref a_this), (1, .int x1_33), (2, .int x2_33)] → xit2 (wb_X7_shownAll_33 theCourt_days now_living now_days theCourt_weathers theCourt_hours theCourt_dangers theCourt_inWeathers theCourt_inHours theCourt_fears Φ K_33) n x1_33 x2_33 → W p l e xrm_X7_shownAll s m args below meth c s.heap [] 0 0 Q (F0 m 33 ls []) := by
      intro n
      induction n with
      | zero => intro x1_33 x2_33 ls hl hw; exact (show False from hw).elim
      | succ n ih =>
        intro x1_33 x2_33 ls hl hw
        have hw : wb_X7_shownAll_33 theCourt_days now_living now_days theCourt_weathers theCourt_hours theCourt_dangers theCourt_inWeathers theCourt_inHours theCourt_fears Φ K_33 (xit2 (wb_X7_shownAll_33 theCourt_days now_living now_days theCourt_weathers theCourt_hours theCourt_dangers theCourt_inWeathers theCourt_inHours theCourt_fears Φ K_33) n) x1_33 x2_33 := hw
        generalize xit2 (wb_X7_shownAll_33 theCourt_days now_living now_days theCourt_weathers theCourt_hours theCourt_dangers theCourt_inWeathers theCourt_inHours theCourt_fears Φ K_33) n = rec_33 at ih hw
        unfold wb_X7_shownAll_33 at hw
        refine lv_iload_n hx hb dX7_shownAll_33 rfl (lv_at hl 2 rfl) ?_
        refine lv_bipush (v := 99) hx hb dX7_shownAll_34 (by decide) ?_
        refine lv_icmp_gt (tgt := 85) hx hb dX7_shownAll_36 (by decide) (fun c_36 => ?_) (fun c_36 => ?_)
        · have hw := hw.1 c_36
          exact EX_33 _ _ ls (lv_sub hl [0, 1, 2] rfl) hw
        · have hw := hw.2 c_36
          refine lv_iload_n hx hb dX7_shownAll_39 rfl (lv_at hl 1 rfl) ?_
          refine lv_if_ne (tgt := 45) hx hb dX7_shownAll_40 (by decide) (fun c_40 => ?_) (fun c_40 => ?_)
          · have hw := hw.2 c_40
            refine lv_aload_n hx hb dX7_shownAll_45 rfl (lv_at hl 0 rfl) ?_
            refine va_get (D := D) (ci := 7) (v := .ref a_now) (C := RX7) (T := TX7) (N := 11) hx hb hts hinX7 hown hKK.1 hP 0 rfl rfl 1 (by decide) fl_19 (fun _ h9 => h9) rfl dX7_shownAll_46 ?_
            refine lv_aload_n hx hb dX7_shownAll_49 rfl (lv_at hl 0 rfl) ?_
            refine va_get (D := D) (ci := 7) (v := .ref a_theCourt) (C := RX7) (T := TX7) (N := 11) hx hb hts hinX7 hown hKK.1 hP 0 rfl rfl 8 (by decide) fl_61 (fun _ h9 => h9) rfl dX7_shownAll_50 ?_
            refine lv_aload_n hx hb dX7_shownAll_53 rfl (lv_at hl 0 rfl) ?_
            refine va_get (D := D) (ci := 7) (v := .ref a_now) (C := RX7) (T := TX7) (N := 11) hx hb hts hinX7 hown hKK.1 hP 0 rfl rfl 1 (by decide) fl_19 (fun _ h9 => h9) rfl dX7_shownAll_54 ?_
            refine va_get (D := D) (ci := 1) (v := .int now_days) (C := RX1) (T := TX1) (N := 6) hx hb hts hinX1 hown hKK.1 hP 2 rfl rfl 5 (by decide) fl_117 (fun _ h9 => h9) rfl dX7_shownAll_57 ?_
            refine lv_iload_n hx hb dX7_shownAll_60 rfl (lv_at hl 2 rfl) ?_
            refine lv_iadd hx hb dX7_shownAll_61 ?_
            refine xcVi (q0 := 2) (ci := 1) (As := [.ref a_theCourt, .int (now_days + x2_33)]) (rest := []) (wc := [(a_now, .inr (1, [.ref a_now_marks, .int now_people, .int now_living, .int now_shown, .int now_spent, .int now_days])), (a_theCourt, .inr (2, [.ref a_theCourt_marks, .ref a_theCourt_inWeathers, .ref a_theCourt_inHours, .ref a_theCourt_fears, .ref a_theCourt_weathers, .ref a_theCourt_hours, .ref a_theCourt_dangers, .int theCourt_pay, .int theCourt_people, .int theCourt_days])), (a_theCourt_weathers, .inl (cI, 10, .inl theCourt_weathers)), (a_theCourt_hours, .inl (cI, 10, .inl theCourt_hours)), (a_theCourt_dangers, .inl (cI, 10, .inl theCourt_dangers)), (a_theCourt_inWeathers, .inl (cI, 8, .inl theCourt_inWeathers)), (a_theCourt_inHours, .inl (cI, 8, .inl theCourt_inHours)), (a_theCourt_fears, .inl (cI, 8, .inl theCourt_fears))]) ⟨hx, hb, hml, hown, hts⟩ (c_X1_seenOn l D cI cZ cO hw) (cwV 2 hts gX7_shownAll_X1_seenOn rfl rfl rfl (by decide +kernel) ⟨Nat.le_of_ble_eq_true rfl, Nat.le_of_ble_eq_true rfl⟩) hKK hP [2, 1, 3, 4, 5, 6, 7, 8] rfl rfl rfl rfl hl.1 rfl (Nat.le_of_ble_eq_true rfl) dX7_shownAll_62 ⟨Nat.zero_le _, Nat.zero_le _⟩ (fun r_62 hw => ?_)
            refine lv_istore_n (lv' := [(3, .int r_62), (0, .ref a_this), (1, .int x1_33), (2, .int x2_33)]) hx hb dX7_shownAll_65 rfl hl (by decide) rfl (fun ls hl => ?_)
            refine lv_iload_n hx hb dX7_shownAll_66 rfl (lv_at hl 0 rfl) ?_
            refine lv_iconst (v := (-1)) hx hb dX7_shownAll_67 (by decide) ?_
            refine lv_icmp_eq (tgt := 79) hx hb dX7_shownAll_68 (by decide) (fun c_68 => ?_) (fun c_68 => ?_)
            · have hw := hw.1 c_68
              refine lv_iinc (v := (x2_33 + 1)) (lv' := [(2, .int (x2_33 + 1)), (3, .int r_62), (0, .ref a_this), (1, .int x1_33)]) hx hb dX7_shownAll_79 hl (k := 3) rfl (by rfl) (by decide) rfl (fun ls hl => ?_)
              refine lv_goto (tgt := 33) hx hb dX7_shownAll_82 (by decide) ?_
              exact ih _ _ ls (lv_sub hl [2, 3, 0] rfl) hw
            · have hw := hw.2 c_68
              refine lv_iload_n hx hb dX7_shownAll_71 rfl (lv_at hl 2 rfl) ?_
              refine lv_iconst (v := 1) hx hb dX7_shownAll_72 (by decide) ?_
              refine lv_iload_n hx hb dX7_shownAll_73 rfl (lv_at hl 0 rfl) ?_
              refine lv_ishl hx hb dX7_shownAll_74 ?_
              refine lv_iconst (v := (-1)) hx hb dX7_shownAll_75 (by decide) ?_
              refine lv_ixor hx hb dX7_shownAll_76 ?_
              refine lv_iand hx hb dX7_shownAll_77 ?_
              refine lv_istore_n (lv' := [(1, .int (x1_33 &&& (((1 : Int32) <<< (r_62 &&& 31)) ^^^ (-1)))), (3, .int r_62), (0, .ref a_this), (2, .int x2_33)]) hx hb dX7_shownAll_78 rfl hl (by decide) rfl (fun ls hl => ?_)
              refine lv_iinc (v := (x2_33 + 1)) (lv' := [(2, .int (x2_33 + 1)), (1, .int (x1_33 &&& (((1 : Int32) <<< (r_62 &&& 31)) ^^^ (-1)))), (3, .int r_62), (0, .ref a_this)]) hx hb dX7_shownAll_79 hl (k := 3) rfl (by rfl) (by decide) rfl (fun ls hl => ?_)
              refine lv_goto (tgt := 33) hx hb dX7_shownAll_82 (by decide) ?_
              exact ih _ _ ls (lv_sub hl [3, 1, 0] rfl) hw
          · have hw := hw.1 c_40
            refine lv_iload_n hx hb dX7_shownAll_43 rfl (lv_at hl 2 rfl) ?_
            rw [hQ]
            exact W.iret (v := x2_33) hx hb hr (fun t ht _ => ⟨x2_33, rfl, hw, ht⟩) (fun _ h => (List.not_mem_nil h).elim) dX7_shownAll_44
    obtain ⟨n, hw⟩ := hw
    exact LP_33 n _ _ ls (lv_sub hl [2, 1, 0] rfl) hw
  · have hw := hw.1 c_7
    refine lv_ldc (v := (-1000000003)) hx hb hown (hts (.constant RX7 192 (-1000000003)) (by decide +kernel)) dX7_shownAll_10 ?_
    rw [hQ]
    exact W.iret (v := (-1000000003)) hx hb hr (fun t ht _ => ⟨(-1000000003), rfl, hw, ht⟩) (fun _ h => (List.not_mem_nil h).elim) dX7_shownAll_12
def wp_X7_apart (now_people : Int32) (now_marks : Nat → Int32) (p1 : Int32) (p2 : Int32) (Φ : Int32 → Prop) : Prop :=
  (wp_X1_has now_people p1 (fun r_5 => ((r_5 = 0 → (Φ (-1000000001))) ∧ (¬ r_5 = 0 → (wp_X1_has now_people p2 (fun r_16 => ((r_16 = 0 → (Φ (-1000000001))) ∧ (¬ r_16 = 0 → ((p1 = p2 → (Φ (-1000000001))) ∧ (¬ p1 = p2 → (wp_X7_at now_marks 8 p1 (fun r_38 => (wp_X7_at now_marks 8 p2 (fun r_49 => (wp_J6_bitCount_0f7a4 (r_38 ^^^ r_49) (fun r_53 => (Φ r_53)))))))))))))))))
abbrev xrm_X7_apart : Room := { frames := 1, cells := 0, slots := 0, locals := 21 }
set_option maxRecDepth 100000 in
set_option maxHeartbeats 4000000 in
theorem c_X7_apart (l : Launch) (D : va_G) (cI cZ cO : ClassId) {a_text : Nat} {a_now : Nat} {a_past : Nat} {a_imageZero : Nat} {a_imageOne : Nat} {a_watched : Nat} {a_book : Nat} {a_goers : Nat} {a_theCourt : Nat} {a_draft : Nat} {theSeed : Int32} {a_this : Nat} {a_now_marks : Nat} {now_people : Int32} {now_living : Int32} {now_shown : Int32} {now_spent : Int32} {now_days : Int32} {now_marks : Nat → Int32} {p1 : Int32} {p2 : Int32} {Φ : Int32 → Prop} (hw : (wp_X7_apart now_people now_marks p1 p2 Φ)) : Met l yX7_apart wsX7_apart xrm_X7_apart (xPR D cI cZ cO [.ref a_this, .int p1, .int p2] [(a_this, .inr (7, [.ref a_text, .ref a_now, .ref a_past, .ref a_imageZero, .ref a_imageOne, .ref a_watched, .ref a_book, .ref a_goers, .ref a_theCourt, .ref a_draft, .int theSeed])), (a_now, .inr (1, [.ref a_now_marks, .int now_people, .int now_living, .int now_shown, .int now_spent, .int now_days])), (a_now_marks, .inl (cI, 8, .inl now_marks))]) (vp_Si Φ) 0 0 (fun _ => False) := by
  refine Met.ofW (cc := cX7_apart) (maxL := 3) (ret := (some .int)) (by decide) rfl ?_
  intro p e s m args below meth c s₁ B hml hv
  obtain ⟨rfl, hP, hKK⟩ := hv
  have hx := B.exec
  have hb := B.bytes
  have hr := B.returns
  have hts := atoms_spec (ws := wsX7_apart) B.pre
  have hown : s.vm.findClass RX7 = some m.cls := findClass_of_methodNamed B.named
  have hlocks := B.notSynchronized
  obtain ⟨Q, hQ⟩ : ∃ Q, Q = MQ below (vp_Si Φ) ([.ref a_this, .int p1, .int p2] : List Value).toArray s 0 0 (fun _ => False) := ⟨_, rfl⟩
  rw [← hQ]
  have hl := lv_entry ([.ref a_this, .int p1, .int p2]) (n := 3) (Nat.le_of_ble_eq_true rfl)
  rw [lg_entry_eq]
  generalize (lg_sl ([.ref a_this, .int p1, .int p2]) ++ List.replicate (3 - (lg_sl ([.ref a_this, .int p1, .int p2])).length) Slot.unset).toArray = ls at hl ⊢
  have hl : lv_has ls 3 [(0, .ref a_this), (1, .int p1), (2, .int p2)] := hl
  generalize ([.ref a_this, .int p1, .int p2] : List Value).toArray = args at hts hQ ⊢
  have hP : va_P D vwCl [(a_this, .inr (7, [.ref a_text, .ref a_now, .ref a_past, .ref a_imageZero, .ref a_imageOne, .ref a_watched, .ref a_book, .ref a_goers, .ref a_theCourt, .ref a_draft, .int theSeed])), (a_now, .inr (1, [.ref a_now_marks, .int now_people, .int now_living, .int now_shown, .int now_spent, .int now_days])), (a_now_marks, .inl (cI, 8, .inl now_marks))] s.heap := hP
  have hinX1 : ∀ w ∈ u_ws RX1 TX1 6, w ∈ wsX7_apart := by decide +kernel
  have hinX7 : ∀ w ∈ u_ws RX7 TX7 11, w ∈ wsX7_apart := by decide +kernel
  have fl_19 := hts (.fieldLink RX7 19 "DoubleChain" "now" "LDoubleChain$Chain;") (by decide +kernel)
  have fl_136 := hts (.fieldLink RX7 136 "DoubleChain$Chain" "marks" "[I") (by decide +kernel)
  clear B
  show W p l e xrm_X7_apart s m args below meth c s.heap [] 0 0 Q (F0 m 0 ls [])
  unfold wp_X7_apart at hw
  refine lv_aload_n hx hb dX7_apart_0 rfl (lv_at hl 0 rfl) ?_
  refine va_get (D := D) (ci := 7) (v := .ref a_now) (C := RX7) (T := TX7) (N := 11) hx hb hts hinX7 hown hKK.1 hP 0 rfl rfl 1 (by decide) fl_19 (fun _ h9 => h9) rfl dX7_apart_1 ?_
  refine lv_iload_n hx hb dX7_apart_4 rfl (lv_at hl 1 rfl) ?_
  refine xcVi (q0 := 1) (ci := 1) (As := [.int p1]) (rest := []) (wc := [(a_now, .inr (1, [.ref a_now_marks, .int now_people, .int now_living, .int now_shown, .int now_spent, .int now_days]))]) ⟨hx, hb, hml, hown, hts⟩ (c_X1_has l D cI cZ cO hw) (cwV 1 hts gX7_apart_X1_has rfl rfl rfl (by decide +kernel) ⟨Nat.le_of_ble_eq_true rfl, Nat.le_of_ble_eq_true rfl⟩) hKK hP [1] rfl rfl rfl rfl hl.1 rfl (Nat.le_of_ble_eq_true rfl) dX7_apart_5 ⟨Nat.zero_le _, Nat.zero_le _⟩ (fun r_5 hw => ?_)
  refine lv_if_eq (tgt := 27) hx hb dX7_apart_8 (by decide) (fun c_8 => ?_) (fun c_8 => ?_)
  · have hw := hw.1 c_8
    refine lv_ldc (v := (-1000000001)) hx hb hown (hts (.constant RX7 135 (-1000000001)) (by decide +kernel)) dX7_apart_27 ?_
    rw [hQ]
    exact W.iret (v := (-1000000001)) hx hb hr (fun t ht _ => ⟨(-1000000001), rfl, hw, ht⟩) (fun _ h => (List.not_mem_nil h).elim) dX7_apart_29
  · have hw := hw.2 c_8
    refine lv_aload_n hx hb dX7_apart_11 rfl (lv_at hl 0 rfl) ?_
    refine va_get (D := D) (ci := 7) (v := .ref a_now) (C := RX7) (T := TX7) (N := 11) hx hb hts hinX7 hown hKK.1 hP 0 rfl rfl 1 (by decide) fl_19 (fun _ h9 => h9) rfl dX7_apart_12 ?_
    refine lv_iload_n hx hb dX7_apart_15 rfl (lv_at hl 2 rfl) ?_
    refine xcVi (q0 := 1) (ci := 1) (As := [.int p2]) (rest := []) (wc := [(a_now, .inr (1, [.ref a_now_marks, .int now_people, .int now_living, .int now_shown, .int now_spent, .int now_days]))]) ⟨hx, hb, hml, hown, hts⟩ (c_X1_has l D cI cZ cO hw) (cwV 1 hts gX7_apart_X1_has rfl rfl rfl (by decide +kernel) ⟨Nat.le_of_ble_eq_true rfl, Nat.le_of_ble_eq_true rfl⟩) hKK hP [1] rfl rfl rfl rfl hl.1 rfl (Nat.le_of_ble_eq_true rfl) dX7_apart_16 ⟨Nat.zero_le _, Nat.zero_le _⟩ (fun r_16 hw => ?_)
    refine lv_if_eq (tgt := 27) hx hb dX7_apart_19 (by decide) (fun c_19 => ?_) (fun c_19 => ?_)
    · have hw := hw.1 c_19
      refine lv_ldc (v := (-1000000001)) hx hb hown (hts (.constant RX7 135 (-1000000001)) (by decide +kernel)) dX7_apart_27 ?_
      rw [hQ]
      exact W.iret (v := (-1000000001)) hx hb hr (fun t ht _ => ⟨(-1000000001), rfl, hw, ht⟩) (fun _ h => (List.not_mem_nil h).elim) dX7_apart_29
    · have hw := hw.2 c_19
      refine lv_iload_n hx hb dX7_apart_22 rfl (lv_at hl 1 rfl) ?_
      refine lv_iload_n hx hb dX7_apart_23 rfl (lv_at hl 2 rfl) ?_
      refine lv_icmp_ne (tgt := 30) hx hb dX7_apart_24 (by decide) (fun c_24 => ?_) (fun c_24 => ?_)
      · have hw := hw.2 c_24
        refine lv_aload_n hx hb dX7_apart_30 rfl (lv_at hl 0 rfl) ?_
        refine va_get (D := D) (ci := 7) (v := .ref a_now) (C := RX7) (T := TX7) (N := 11) hx hb hts hinX7 hown hKK.1 hP 0 rfl rfl 1 (by decide) fl_19 (fun _ h9 => h9) rfl dX7_apart_31 ?_
        refine va_get (D := D) (ci := 1) (v := .ref a_now_marks) (C := RX1) (T := TX1) (N := 6) hx hb hts hinX1 hown hKK.1 hP 1 rfl rfl 0 (by decide) fl_136 (fun _ h9 => h9) rfl dX7_apart_34 ?_
        refine lv_iload_n hx hb dX7_apart_37 rfl (lv_at hl 1 rfl) ?_
        refine xcSi (As := [.ref a_now_marks, .int p1]) (rest := []) (wc := [(a_now_marks, .inl (cI, 8, .inl now_marks))]) ⟨hx, hb, hml, hown, hts⟩ (c_X7_at l D cI cZ cO hw) (va_cwS 2 hts gX7_apart_X7_at rfl rfl rfl (by decide +kernel) ⟨Nat.le_of_ble_eq_true rfl, Nat.le_of_ble_eq_true rfl⟩) hKK hP [2] rfl rfl hl.1 rfl (Nat.le_of_ble_eq_true rfl) dX7_apart_38 ⟨Nat.zero_le _, Nat.zero_le _⟩ (fun r_38 hw => ?_)
        refine lv_aload_n hx hb dX7_apart_41 rfl (lv_at hl 0 rfl) ?_
        refine va_get (D := D) (ci := 7) (v := .ref a_now) (C := RX7) (T := TX7) (N := 11) hx hb hts hinX7 hown hKK.1 hP 0 rfl rfl 1 (by decide) fl_19 (fun _ h9 => h9) rfl dX7_apart_42 ?_
        refine va_get (D := D) (ci := 1) (v := .ref a_now_marks) (C := RX1) (T := TX1) (N := 6) hx hb hts hinX1 hown hKK.1 hP 1 rfl rfl 0 (by decide) fl_136 (fun _ h9 => h9) rfl dX7_apart_45 ?_
        refine lv_iload_n hx hb dX7_apart_48 rfl (lv_at hl 2 rfl) ?_
        refine xcSi (As := [.ref a_now_marks, .int p2]) (rest := [.int r_38]) (wc := [(a_now_marks, .inl (cI, 8, .inl now_marks))]) ⟨hx, hb, hml, hown, hts⟩ (c_X7_at l D cI cZ cO hw) (va_cwS 2 hts gX7_apart_X7_at rfl rfl rfl (by decide +kernel) ⟨Nat.le_of_ble_eq_true rfl, Nat.le_of_ble_eq_true rfl⟩) hKK hP [2] rfl rfl hl.1 rfl (Nat.le_of_ble_eq_true rfl) dX7_apart_49 ⟨Nat.zero_le _, Nat.zero_le _⟩ (fun r_49 hw => ?_)
        refine lv_ixor hx hb dX7_apart_52 ?_
        refine xcSi (As := [.int (r_38 ^^^ r_49)]) (rest := []) (wc := []) ⟨hx, hb, hml, hown, hts⟩ (c_J6_bitCount_0f7a4 l D cI cZ cO hw) (va_cwS 1 hts gX7_apart_J6_bitCount_0f7a4 rfl rfl rfl (by decide +kernel) ⟨Nat.le_of_ble_eq_true rfl, Nat.le_of_ble_eq_true rfl⟩) hKK hP [] rfl rfl hl.1 rfl (Nat.le_of_ble_eq_true rfl) dX7_apart_53 ⟨Nat.zero_le _, Nat.zero_le _⟩ (fun r_53 hw => ?_)
        rw [hQ]
        exact W.iret (v := r_53) hx hb hr (fun t ht _ => ⟨r_53, rfl, hw, ht⟩) (fun _ h => (List.not_mem_nil h).elim) dX7_apart_56
      · have hw := hw.1 c_24
        refine lv_ldc (v := (-1000000001)) hx hb hown (hts (.constant RX7 135 (-1000000001)) (by decide +kernel)) dX7_apart_27 ?_
        rw [hQ]
        exact W.iret (v := (-1000000001)) hx hb hr (fun t ht _ => ⟨(-1000000001), rfl, hw, ht⟩) (fun _ h => (List.not_mem_nil h).elim) dX7_apart_29
def wk_X7_safe_30 (Φ : Int32 → Prop) (x3_30 : Int64) (x5_30 : Int32) : Prop :=
  (Φ (x3_30).toInt32)
def wb_X7_safe_30 (now_days : Int32) (theCourt_days : Int32) (theCourt_dangers : Nat → Int32) (p1 : Int32) (p2 : Int32) (K_30 : Int64 → Int32 → Prop) (rec_30 : Int64 → Int32 → Prop) (x3_30 : Int64) (x5_30 : Int32) : Prop :=
  ((p1 ≤ x5_30 → (K_30 x3_30 x5_30)) ∧ (¬ p1 ≤ x5_30 → (wp_X2_dangerOn theCourt_days theCourt_dangers (now_days + x5_30) (fun r_53 => (rec_30 ((x3_30 * ((100 - (if (p2 + r_53) < 100 then (p2 + r_53) else 100))).toInt64) / 100) (x5_30 + 1))))))
def wp_X7_safe (now_days : Int32) (theCourt_days : Int32) (theCourt_dangers : Nat → Int32) (p1 : Int32) (p2 : Int32) (Φ : Int32 → Prop) : Prop :=
  (wp_X7_within p1 0 60 (fun r_4 => ((r_4 = 0 → (Φ (-1000000002))) ∧ (¬ r_4 = 0 → (wp_X7_within p2 0 100 (fun r_14 => ((r_14 = 0 → (Φ (-1000000002))) ∧ (¬ r_14 = 0 → (∃ n : Nat, xit2 (wb_X7_safe_30 now_days theCourt_days theCourt_dangers p1 p2 (wk_X7_safe_30 Φ)) n 1000000000 0)))))))))
abbrev xrm_X7_safe : Room := { frames := 3, cells := 0, slots := 0, locals := 64 }
set_option maxRecDepth 100000 in
set_option maxHeartbeats 4000000 in
theorem c_X7_safe (l : Launch) (D : va_G) (cI cZ cO : ClassId) {a_text : Nat} {a_now : Nat} {a_past : Nat} {a_imageZero : Nat} {a_imageOne : Nat} {a_watched : Nat} {a_book : Nat} {a_goers : Nat} {a_theCourt : Nat} {a_draft : Nat} {theSeed : Int32} {a_this : Nat} {a_now_marks : Nat} {now_people : Int32} {now_living : Int32} {now_shown : Int32} {now_spent : Int32} {now_days : Int32} {a_theCourt_marks : Nat} {a_theCourt_inWeathers : Nat} {a_theCourt_inHours : Nat} {a_theCourt_fears : Nat} {a_theCourt_weathers : Nat} {a_theCourt_hours : Nat} {a_theCourt_dangers : Nat} {theCourt_pay : Int32} {theCourt_people : Int32} {theCourt_days : Int32} {theCourt_dangers : Nat → Int32} {p1 : Int32} {p2 : Int32} {Φ : Int32 → Prop} (hw : (wp_X7_safe now_days theCourt_days theCourt_dangers p1 p2 Φ)) : Met l yX7_safe wsX7_safe xrm_X7_safe (xPR D cI cZ cO [.ref a_this, .int p1, .int p2] [(a_this, .inr (7, [.ref a_text, .ref a_now, .ref a_past, .ref a_imageZero, .ref a_imageOne, .ref a_watched, .ref a_book, .ref a_goers, .ref a_theCourt, .ref a_draft, .int theSeed])), (a_now, .inr (1, [.ref a_now_marks, .int now_people, .int now_living, .int now_shown, .int now_spent, .int now_days])), (a_theCourt, .inr (2, [.ref a_theCourt_marks, .ref a_theCourt_inWeathers, .ref a_theCourt_inHours, .ref a_theCourt_fears, .ref a_theCourt_weathers, .ref a_theCourt_hours, .ref a_theCourt_dangers, .int theCourt_pay, .int theCourt_people, .int theCourt_days])), (a_theCourt_dangers, .inl (cI, 10, .inl theCourt_dangers))]) (vp_Si Φ) 0 0 (fun _ => False) := by
  refine Met.ofW (cc := cX7_safe) (maxL := 7) (ret := (some .int)) (by decide) rfl ?_
  intro p e s m args below meth c s₁ B hml hv
  obtain ⟨rfl, hP, hKK⟩ := hv
  have hx := B.exec
  have hb := B.bytes
  have hr := B.returns
  have hts := atoms_spec (ws := wsX7_safe) B.pre
  have hown : s.vm.findClass RX7 = some m.cls := findClass_of_methodNamed B.named
  have hlocks := B.notSynchronized
  obtain ⟨Q, hQ⟩ : ∃ Q, Q = MQ below (vp_Si Φ) ([.ref a_this, .int p1, .int p2] : List Value).toArray s 0 0 (fun _ => False) := ⟨_, rfl⟩
  rw [← hQ]
  have hl := lv_entry ([.ref a_this, .int p1, .int p2]) (n := 7) (Nat.le_of_ble_eq_true rfl)
  rw [lg_entry_eq]
  generalize (lg_sl ([.ref a_this, .int p1, .int p2]) ++ List.replicate (7 - (lg_sl ([.ref a_this, .int p1, .int p2])).length) Slot.unset).toArray = ls at hl ⊢
  have hl : lv_has ls 7 [(0, .ref a_this), (1, .int p1), (2, .int p2)] := hl
  generalize ([.ref a_this, .int p1, .int p2] : List Value).toArray = args at hts hQ ⊢
  have hP : va_P D vwCl [(a_this, .inr (7, [.ref a_text, .ref a_now, .ref a_past, .ref a_imageZero, .ref a_imageOne, .ref a_watched, .ref a_book, .ref a_goers, .ref a_theCourt, .ref a_draft, .int theSeed])), (a_now, .inr (1, [.ref a_now_marks, .int now_people, .int now_living, .int now_shown, .int now_spent, .int now_days])), (a_theCourt, .inr (2, [.ref a_theCourt_marks, .ref a_theCourt_inWeathers, .ref a_theCourt_inHours, .ref a_theCourt_fears, .ref a_theCourt_weathers, .ref a_theCourt_hours, .ref a_theCourt_dangers, .int theCourt_pay, .int theCourt_people, .int theCourt_days])), (a_theCourt_dangers, .inl (cI, 10, .inl theCourt_dangers))] s.heap := hP
  have hinX1 : ∀ w ∈ u_ws RX1 TX1 6, w ∈ wsX7_safe := by decide +kernel
  have hinX7 : ∀ w ∈ u_ws RX7 TX7 11, w ∈ wsX7_safe := by decide +kernel
  have fl_19 := hts (.fieldLink RX7 19 "DoubleChain" "now" "LDoubleChain$Chain;") (by decide +kernel)
  have fl_61 := hts (.fieldLink RX7 61 "DoubleChain" "theCourt" "LDoubleChain$Court;") (by decide +kernel)
  have fl_117 := hts (.fieldLink RX7 117 "DoubleChain$Chain" "days" "I") (by decide +kernel)
  clear B
  show W p l e xrm_X7_safe s m args below meth c s.heap [] 0 0 Q (F0 m 0 ls [])
  unfold wp_X7_safe at hw
  refine lv_iload_n hx hb dX7_safe_0 rfl (lv_at hl 1 rfl) ?_
  refine lv_iconst (v := 0) hx hb dX7_safe_1 (by decide) ?_
  refine lv_bipush (v := 60) hx hb dX7_safe_2 (by decide) ?_
  refine xcSi (As := [.int p1, .int 0, .int 60]) (rest := []) (wc := []) ⟨hx, hb, hml, hown, hts⟩ (c_X7_within l D cI cZ cO hw) (va_cwS 3 hts gX7_safe_X7_within rfl rfl rfl (by decide +kernel) ⟨Nat.le_of_ble_eq_true rfl, Nat.le_of_ble_eq_true rfl⟩) hKK hP [] rfl rfl hl.1 rfl (Nat.le_of_ble_eq_true rfl) dX7_safe_4 ⟨Nat.zero_le _, Nat.zero_le _⟩ (fun r_4 hw => ?_)
  refine lv_if_eq (tgt := 20) hx hb dX7_safe_7 (by decide) (fun c_7 => ?_) (fun c_7 => ?_)
  · have hw := hw.1 c_7
    refine lv_ldc (v := (-1000000002)) hx hb hown (hts (.constant RX7 76 (-1000000002)) (by decide +kernel)) dX7_safe_20 ?_
    rw [hQ]
    exact W.iret (v := (-1000000002)) hx hb hr (fun t ht _ => ⟨(-1000000002), rfl, hw, ht⟩) (fun _ h => (List.not_mem_nil h).elim) dX7_safe_22
  · have hw := hw.2 c_7
    refine lv_iload_n hx hb dX7_safe_10 rfl (lv_at hl 2 rfl) ?_
    refine lv_iconst (v := 0) hx hb dX7_safe_11 (by decide) ?_
    refine lv_bipush (v := 100) hx hb dX7_safe_12 (by decide) ?_
    refine xcSi (As := [.int p2, .int 0, .int 100]) (rest := []) (wc := []) ⟨hx, hb, hml, hown, hts⟩ (c_X7_within l D cI cZ cO hw) (va_cwS 3 hts gX7_safe_X7_within rfl rfl rfl (by decide +kernel) ⟨Nat.le_of_ble_eq_true rfl, Nat.le_of_ble_eq_true rfl⟩) hKK hP [] rfl rfl hl.1 rfl (Nat.le_of_ble_eq_true rfl) dX7_safe_14 ⟨Nat.zero_le _, Nat.zero_le _⟩ (fun r_14 hw => ?_)
    refine lv_if_ne (tgt := 23) hx hb dX7_safe_17 (by decide) (fun c_17 => ?_) (fun c_17 => ?_)
    · have hw := hw.2 c_17
      refine lv_ldc2 (v := 1000000000) hx hb hown (hts (.constantLong RX7 255 1000000000) (by decide +kernel)) dX7_safe_23 ?_
      refine lv_lstore_n (lv' := [(3, .long 1000000000), (0, .ref a_this), (1, .int p1), (2, .int p2)]) hx hb dX7_safe_26 rfl hl (by decide) rfl (fun ls hl => ?_)
      refine lv_iconst (v := 0) hx hb dX7_safe_27 (by decide) ?_
      refine lv_istore (lv' := [(5, .int 0), (3, .long 1000000000), (0, .ref a_this), (1, .int p1), (2, .int p2)]) hx hb dX7_safe_28 hl (by decide) rfl (fun ls hl => ?_)
      have EX_30 : ∀ (x3_30 : Int64) (x5_30 : Int32), ∀ (ls : Array Slot), lv_has ls 7 [(0, .ref a_this), (1, .int p1), (2, .int p2), (3, .long x3_30), (5, .int x5_30)] → (wk_X7_safe_30 Φ x3_30 x5_30) → W p l e xrm_X7_safe s m args below meth c s.heap [] 0 0 Q (F0 m 81 ls []) := by
        intro x3_30 x5_30 ls hl hw
        unfold wk_X7_safe_30 at hw
        refine lv_lload_n hx hb dX7_safe_81 rfl (lv_at hl 3 rfl) ?_
        refine lv_l2i (v := (x3_30).toInt32) hx hb dX7_safe_82 rfl ?_
        rw [hQ]
        exact W.iret (v := (x3_30).toInt32) hx hb hr (fun t ht _ => ⟨(x3_30).toInt32, rfl, hw, ht⟩) (fun _ h => (List.not_mem_nil h).elim) dX7_safe_83
      generalize (wk_X7_safe_30 Φ) = K_30 at EX_30 hw
      have LP_30 : ∀ n : Nat, ∀ (x3_30 : Int64) (x5_30 : Int32), ∀ (ls : Array Slot), lv_has ls 7 [(0, .ref a_this), (1, .int p1), (2, .int p2), (3, .long x3_30), (5, .int x5_30)] → xit2 (wb_X7_safe_30 now_days theCourt_days theCourt_dangers p1 p2 K_30) n x3_30 x5_30 → W p l e xrm_X7_safe s m args below meth c s.heap [] 0 0 Q (F0 m 30 ls []) := by
        intro n
        induction n with
        | zero => intro x3_30 x5_30 ls hl hw; exact (show False from hw).elim
        | succ n ih =>
          intro x3_30 x5_30 ls hl hw
          have hw : wb_X7_safe_30 now_days theCourt_days theCourt_dangers p1 p2 K_30 (xit2 (wb_X7_safe_30 now_days theCourt_days theCourt_dangers p1 p2 K_30) n) x3_30 x5_30 := hw
          generalize xit2 (wb_X7_safe_30 now_days theCourt_days theCourt_dangers p1 p2 K_30) n = rec_30 at ih hw
          unfold wb_X7_safe_30 at hw
          refine lv_iload hx hb dX7_safe_30 (lv_at hl 4 rfl) ?_
          refine lv_iload_n hx hb dX7_safe_32 rfl (lv_at hl 1 rfl) ?_
          refine lv_icmp_ge (tgt := 81) hx hb dX7_safe_33 (by decide) (fun c_33 => ?_) (fun c_33 => ?_)
          · have hw := hw.1 c_33
            exact EX_30 _ _ ls (lv_sub hl [0, 1, 2, 3, 4] rfl) hw
          · have hw := hw.2 c_33
            refine lv_bipush (v := 100) hx hb dX7_safe_36 (by decide) ?_
            refine lv_iload_n hx hb dX7_safe_38 rfl (lv_at hl 2 rfl) ?_
            refine lv_aload_n hx hb dX7_safe_39 rfl (lv_at hl 0 rfl) ?_
            refine va_get (D := D) (ci := 7) (v := .ref a_theCourt) (C := RX7) (T := TX7) (N := 11) hx hb hts hinX7 hown hKK.1 hP 0 rfl rfl 8 (by decide) fl_61 (fun _ h9 => h9) rfl dX7_safe_40 ?_
            refine lv_aload_n hx hb dX7_safe_43 rfl (lv_at hl 0 rfl) ?_
            refine va_get (D := D) (ci := 7) (v := .ref a_now) (C := RX7) (T := TX7) (N := 11) hx hb hts hinX7 hown hKK.1 hP 0 rfl rfl 1 (by decide) fl_19 (fun _ h9 => h9) rfl dX7_safe_44 ?_
            refine va_get (D := D) (ci := 1) (v := .int now_days) (C := RX1) (T := TX1) (N := 6) hx hb hts hinX1 hown hKK.1 hP 1 rfl rfl 5 (by decide) fl_117 (fun _ h9 => h9) rfl dX7_safe_47 ?_
            refine lv_iload hx hb dX7_safe_50 (lv_at hl 4 rfl) ?_
            refine lv_iadd hx hb dX7_safe_52 ?_
            refine xcVi (q0 := 2) (ci := 2) (As := [.int (now_days + x5_30)]) (rest := [.int p2, .int 100]) (wc := [(a_theCourt, .inr (2, [.ref a_theCourt_marks, .ref a_theCourt_inWeathers, .ref a_theCourt_inHours, .ref a_theCourt_fears, .ref a_theCourt_weathers, .ref a_theCourt_hours, .ref a_theCourt_dangers, .int theCourt_pay, .int theCourt_people, .int theCourt_days])), (a_theCourt_dangers, .inl (cI, 10, .inl theCourt_dangers))]) ⟨hx, hb, hml, hown, hts⟩ (c_X2_dangerOn l D cI cZ cO hw) (cwV 1 hts gX7_safe_X2_dangerOn rfl rfl rfl (by decide +kernel) ⟨Nat.le_of_ble_eq_true rfl, Nat.le_of_ble_eq_true rfl⟩) hKK hP [2, 3] rfl rfl rfl rfl hl.1 rfl (Nat.le_of_ble_eq_true rfl) dX7_safe_53 ⟨Nat.zero_le _, Nat.zero_le _⟩ (fun r_53 hw => ?_)
            refine lv_iadd hx hb dX7_safe_56 ?_
            refine va_mmin hx hb (hml.trans hl.1.symm) hown (hts (.methodLink RX7 257 Lib.Math.min.name) (by decide +kernel)) (hts (.static Lib.Math.min.name) (by decide +kernel)) (hts (.initialized "java/lang/Math") (by decide +kernel)) (hts (.code Lib.Math.min.name Lib.Math.min.code 2 (some .int)) (by decide +kernel)) (Nat.le_of_ble_eq_true rfl) (Nat.le_of_ble_eq_true rfl) (Nat.zero_le _) (Nat.zero_le _) dX7_safe_57 ?_
            refine lv_istore (lv' := [(6, .int (if (p2 + r_53) < 100 then (p2 + r_53) else 100)), (0, .ref a_this), (1, .int p1), (2, .int p2), (3, .long x3_30), (5, .int x5_30)]) hx hb dX7_safe_60 hl (by decide) rfl (fun ls hl => ?_)
            refine lv_lload_n hx hb dX7_safe_62 rfl (lv_at hl 4 rfl) ?_
            refine lv_bipush (v := 100) hx hb dX7_safe_63 (by decide) ?_
            refine lv_iload hx hb dX7_safe_65 (lv_at hl 0 rfl) ?_
            refine lv_isub hx hb dX7_safe_67 ?_
            refine lv_i2l (v := ((100 - (if (p2 + r_53) < 100 then (p2 + r_53) else 100))).toInt64) hx hb dX7_safe_68 rfl ?_
            refine lv_lmul hx hb dX7_safe_69 ?_
            refine lv_ldc2 (v := 100) hx hb hown (hts (.constantLong RX7 260 100) (by decide +kernel)) dX7_safe_70 ?_
            refine lv_ldiv hx hb dX7_safe_73 (by decide) ?_
            refine lv_lstore_n (lv' := [(3, .long ((x3_30 * ((100 - (if (p2 + r_53) < 100 then (p2 + r_53) else 100))).toInt64) / 100)), (6, .int (if (p2 + r_53) < 100 then (p2 + r_53) else 100)), (0, .ref a_this), (1, .int p1), (2, .int p2), (5, .int x5_30)]) hx hb dX7_safe_74 rfl hl (by decide) rfl (fun ls hl => ?_)
            refine lv_iinc (v := (x5_30 + 1)) (lv' := [(5, .int (x5_30 + 1)), (3, .long ((x3_30 * ((100 - (if (p2 + r_53) < 100 then (p2 + r_53) else 100))).toInt64) / 100)), (6, .int (if (p2 + r_53) < 100 then (p2 + r_53) else 100)), (0, .ref a_this), (1, .int p1), (2, .int p2)]) hx hb dX7_safe_75 hl (k := 5) rfl (by rfl) (by decide) rfl (fun ls hl => ?_)
            refine lv_goto (tgt := 30) hx hb dX7_safe_78 (by decide) ?_
            exact ih _ _ ls (lv_sub hl [3, 4, 5, 1, 0] rfl) hw
      obtain ⟨n, hw⟩ := hw
      exact LP_30 n _ _ ls (lv_sub hl [2, 3, 4, 1, 0] rfl) hw
    · have hw := hw.1 c_17
      refine lv_ldc (v := (-1000000002)) hx hb hown (hts (.constant RX7 76 (-1000000002)) (by decide +kernel)) dX7_safe_20 ?_
      rw [hQ]
      exact W.iret (v := (-1000000002)) hx hb hr (fun t ht _ => ⟨(-1000000002), rfl, hw, ht⟩) (fun _ h => (List.not_mem_nil h).elim) dX7_safe_22
def wp_X7_watch (theCourt_days : Int32) (watched_outs : Int32) (watched_count : Int32) (watched_days : Nat → Int32) (p1 : Int32) (p2 : Int32) (Φ : Int32 → (Nat → Int32) → Int32 → Int32 → Prop) : Prop :=
  (wp_X2_hasDay theCourt_days p1 (fun r_5 => ((r_5 = 0 → (Φ (-1000000001) watched_days watched_outs watched_count)) ∧ (¬ r_5 = 0 → (wp_X6_add watched_outs watched_count watched_days p1 p2 (fun r_20 watched_days_20 watched_outs_20 watched_count_20 => ((r_20 = 0 → (Φ (-1000000004) watched_days_20 watched_outs_20 watched_count_20)) ∧ (¬ r_20 = 0 → (Φ watched_count_20 watched_days_20 watched_outs_20 watched_count_20)))))))))
abbrev xrm_X7_watch : Room := { frames := 2, cells := 0, slots := 0, locals := 44 }
set_option maxRecDepth 100000 in
set_option maxHeartbeats 4000000 in
theorem c_X7_watch (l : Launch) (D : va_G) (cI cZ cO : ClassId) {a_text : Nat} {a_now : Nat} {a_past : Nat} {a_imageZero : Nat} {a_imageOne : Nat} {a_watched : Nat} {a_book : Nat} {a_goers : Nat} {a_theCourt : Nat} {a_draft : Nat} {theSeed : Int32} {a_this : Nat} {a_theCourt_marks : Nat} {a_theCourt_inWeathers : Nat} {a_theCourt_inHours : Nat} {a_theCourt_fears : Nat} {a_theCourt_weathers : Nat} {a_theCourt_hours : Nat} {a_theCourt_dangers : Nat} {theCourt_pay : Int32} {theCourt_people : Int32} {theCourt_days : Int32} {a_watched_days : Nat} {watched_outs : Int32} {watched_count : Int32} {watched_days : Nat → Int32} {p1 : Int32} {p2 : Int32} {Φ : Int32 → (Nat → Int32) → Int32 → Int32 → Prop} {sz : Nat} (hw : (wp_X7_watch theCourt_days watched_outs watched_count watched_days p1 p2 Φ)) : Met l yX7_watch wsX7_watch xrm_X7_watch (xPW D cI cZ cO [.ref a_this, .int p1, .int p2] sz [(a_this, .inr (7, [.ref a_text, .ref a_now, .ref a_past, .ref a_imageZero, .ref a_imageOne, .ref a_watched, .ref a_book, .ref a_goers, .ref a_theCourt, .ref a_draft, .int theSeed])), (a_theCourt, .inr (2, [.ref a_theCourt_marks, .ref a_theCourt_inWeathers, .ref a_theCourt_inHours, .ref a_theCourt_fears, .ref a_theCourt_weathers, .ref a_theCourt_hours, .ref a_theCourt_dangers, .int theCourt_pay, .int theCourt_people, .int theCourt_days])), (a_watched, .inr (6, [.ref a_watched_days, .int watched_outs, .int watched_count])), (a_watched_days, .inl (cI, 8, .inl watched_days))]) (va_Qi (fun (r : Int32) (u : (Nat → Int32) × Int32 × Int32) => Φ r u.1 u.2.1 u.2.2) (xB D (va_A [(a_this, .inr (7, [.ref a_text, .ref a_now, .ref a_past, .ref a_imageZero, .ref a_imageOne, .ref a_watched, .ref a_book, .ref a_goers, .ref a_theCourt, .ref a_draft, .int theSeed])), (a_theCourt, .inr (2, [.ref a_theCourt_marks, .ref a_theCourt_inWeathers, .ref a_theCourt_inHours, .ref a_theCourt_fears, .ref a_theCourt_weathers, .ref a_theCourt_hours, .ref a_theCourt_dangers, .int theCourt_pay, .int theCourt_people, .int theCourt_days])), (a_watched, .inr (6, [.ref a_watched_days, .int watched_outs, .int watched_count])), (a_watched_days, .inl (cI, 8, .inl watched_days))] sz) (fun (u : (Nat → Int32) × Int32 × Int32) => [(a_this, .inr (7, [.ref a_text, .ref a_now, .ref a_past, .ref a_imageZero, .ref a_imageOne, .ref a_watched, .ref a_book, .ref a_goers, .ref a_theCourt, .ref a_draft, .int theSeed])), (a_theCourt, .inr (2, [.ref a_theCourt_marks, .ref a_theCourt_inWeathers, .ref a_theCourt_inHours, .ref a_theCourt_fears, .ref a_theCourt_weathers, .ref a_theCourt_hours, .ref a_theCourt_dangers, .int theCourt_pay, .int theCourt_people, .int theCourt_days])), (a_watched, .inr (6, [.ref a_watched_days, .int u.2.1, .int u.2.2])), (a_watched_days, .inl (cI, 8, .inl u.1))])) (va_A [(a_this, .inr (7, [.ref a_text, .ref a_now, .ref a_past, .ref a_imageZero, .ref a_imageOne, .ref a_watched, .ref a_book, .ref a_goers, .ref a_theCourt, .ref a_draft, .int theSeed])), (a_theCourt, .inr (2, [.ref a_theCourt_marks, .ref a_theCourt_inWeathers, .ref a_theCourt_inHours, .ref a_theCourt_fears, .ref a_theCourt_weathers, .ref a_theCourt_hours, .ref a_theCourt_dangers, .int theCourt_pay, .int theCourt_people, .int theCourt_days])), (a_watched, .inr (6, [.ref a_watched_days, .int watched_outs, .int watched_count])), (a_watched_days, .inl (cI, 8, .inl watched_days))] sz)) 0 0 (va_A [(a_this, .inr (7, [.ref a_text, .ref a_now, .ref a_past, .ref a_imageZero, .ref a_imageOne, .ref a_watched, .ref a_book, .ref a_goers, .ref a_theCourt, .ref a_draft, .int theSeed])), (a_theCourt, .inr (2, [.ref a_theCourt_marks, .ref a_theCourt_inWeathers, .ref a_theCourt_inHours, .ref a_theCourt_fears, .ref a_theCourt_weathers, .ref a_theCourt_hours, .ref a_theCourt_dangers, .int theCourt_pay, .int theCourt_people, .int theCourt_days])), (a_watched, .inr (6, [.ref a_watched_days, .int watched_outs, .int watched_count])), (a_watched_days, .inl (cI, 8, .inl watched_days))] sz) := by
  refine Met.ofW (cc := cX7_watch) (maxL := 3) (ret := (some .int)) (by decide) rfl ?_
  intro p e s m args below meth c s₁ B hml hv
  obtain ⟨rfl, hsz, hP, hKK, hD0⟩ := hv
  have hx := B.exec
  have hb := B.bytes
  have hr := B.returns
  have hts := atoms_spec (ws := wsX7_watch) B.pre
  have hown : s.vm.findClass RX7 = some m.cls := findClass_of_methodNamed B.named
  have hlocks := B.notSynchronized
  subst hsz
  have hD := hD0.self (sz := s.heap.size)
  obtain ⟨Q, hQ⟩ : ∃ Q, Q = MQ below (va_Qi (fun (r : Int32) (u : (Nat → Int32) × Int32 × Int32) => Φ r u.1 u.2.1 u.2.2) (xB D (va_A [(a_this, .inr (7, [.ref a_text, .ref a_now, .ref a_past, .ref a_imageZero, .ref a_imageOne, .ref a_watched, .ref a_book, .ref a_goers, .ref a_theCourt, .ref a_draft, .int theSeed])), (a_theCourt, .inr (2, [.ref a_theCourt_marks, .ref a_theCourt_inWeathers, .ref a_theCourt_inHours, .ref a_theCourt_fears, .ref a_theCourt_weathers, .ref a_theCourt_hours, .ref a_theCourt_dangers, .int theCourt_pay, .int theCourt_people, .int theCourt_days])), (a_watched, .inr (6, [.ref a_watched_days, .int watched_outs, .int watched_count])), (a_watched_days, .inl (cI, 8, .inl watched_days))] s.heap.size) (fun (u : (Nat → Int32) × Int32 × Int32) => [(a_this, .inr (7, [.ref a_text, .ref a_now, .ref a_past, .ref a_imageZero, .ref a_imageOne, .ref a_watched, .ref a_book, .ref a_goers, .ref a_theCourt, .ref a_draft, .int theSeed])), (a_theCourt, .inr (2, [.ref a_theCourt_marks, .ref a_theCourt_inWeathers, .ref a_theCourt_inHours, .ref a_theCourt_fears, .ref a_theCourt_weathers, .ref a_theCourt_hours, .ref a_theCourt_dangers, .int theCourt_pay, .int theCourt_people, .int theCourt_days])), (a_watched, .inr (6, [.ref a_watched_days, .int u.2.1, .int u.2.2])), (a_watched_days, .inl (cI, 8, .inl u.1))])) (va_A [(a_this, .inr (7, [.ref a_text, .ref a_now, .ref a_past, .ref a_imageZero, .ref a_imageOne, .ref a_watched, .ref a_book, .ref a_goers, .ref a_theCourt, .ref a_draft, .int theSeed])), (a_theCourt, .inr (2, [.ref a_theCourt_marks, .ref a_theCourt_inWeathers, .ref a_theCourt_inHours, .ref a_theCourt_fears, .ref a_theCourt_weathers, .ref a_theCourt_hours, .ref a_theCourt_dangers, .int theCourt_pay, .int theCourt_people, .int theCourt_days])), (a_watched, .inr (6, [.ref a_watched_days, .int watched_outs, .int watched_count])), (a_watched_days, .inl (cI, 8, .inl watched_days))] s.heap.size)) ([.ref a_this, .int p1, .int p2] : List Value).toArray s 0 0 (va_A [(a_this, .inr (7, [.ref a_text, .ref a_now, .ref a_past, .ref a_imageZero, .ref a_imageOne, .ref a_watched, .ref a_book, .ref a_goers, .ref a_theCourt, .ref a_draft, .int theSeed])), (a_theCourt, .inr (2, [.ref a_theCourt_marks, .ref a_theCourt_inWeathers, .ref a_theCourt_inHours, .ref a_theCourt_fears, .ref a_theCourt_weathers, .ref a_theCourt_hours, .ref a_theCourt_dangers, .int theCourt_pay, .int theCourt_people, .int theCourt_days])), (a_watched, .inr (6, [.ref a_watched_days, .int watched_outs, .int watched_count])), (a_watched_days, .inl (cI, 8, .inl watched_days))] s.heap.size) := ⟨_, rfl⟩
  rw [← hQ]
  generalize hAe : va_A [(a_this, .inr (7, [.ref a_text, .ref a_now, .ref a_past, .ref a_imageZero, .ref a_imageOne, .ref a_watched, .ref a_book, .ref a_goers, .ref a_theCourt, .ref a_draft, .int theSeed])), (a_theCourt, .inr (2, [.ref a_theCourt_marks, .ref a_theCourt_inWeathers, .ref a_theCourt_inHours, .ref a_theCourt_fears, .ref a_theCourt_weathers, .ref a_theCourt_hours, .ref a_theCourt_dangers, .int theCourt_pay, .int theCourt_people, .int theCourt_days])), (a_watched, .inr (6, [.ref a_watched_days, .int watched_outs, .int watched_count])), (a_watched_days, .inl (cI, 8, .inl watched_days))] s.heap.size = A at hD hQ
  have hA : ∀ q : Nat, s.heap.size ≤ q → A q := fun q h => by rw [← hAe]; exact Or.inr h
  have hS : va_S A s.heap s.heap [] := va_S.rf
  have hl := lv_entry ([.ref a_this, .int p1, .int p2]) (n := 3) (Nat.le_of_ble_eq_true rfl)
  rw [lg_entry_eq]
  generalize (lg_sl ([.ref a_this, .int p1, .int p2]) ++ List.replicate (3 - (lg_sl ([.ref a_this, .int p1, .int p2])).length) Slot.unset).toArray = ls at hl ⊢
  have hl : lv_has ls 3 [(0, .ref a_this), (1, .int p1), (2, .int p2)] := hl
  generalize ([.ref a_this, .int p1, .int p2] : List Value).toArray = args at hts hQ ⊢
  have hP : va_P D vwCl [(a_this, .inr (7, [.ref a_text, .ref a_now, .ref a_past, .ref a_imageZero, .ref a_imageOne, .ref a_watched, .ref a_book, .ref a_goers, .ref a_theCourt, .ref a_draft, .int theSeed])), (a_theCourt, .inr (2, [.ref a_theCourt_marks, .ref a_theCourt_inWeathers, .ref a_theCourt_inHours, .ref a_theCourt_fears, .ref a_theCourt_weathers, .ref a_theCourt_hours, .ref a_theCourt_dangers, .int theCourt_pay, .int theCourt_people, .int theCourt_days])), (a_watched, .inr (6, [.ref a_watched_days, .int watched_outs, .int watched_count])), (a_watched_days, .inl (cI, 8, .inl watched_days))] s.heap := hP
  have hinX6 : ∀ w ∈ u_ws RX6 TX6 3, w ∈ wsX7_watch := by decide +kernel
  have hinX7 : ∀ w ∈ u_ws RX7 TX7 11, w ∈ wsX7_watch := by decide +kernel
  have fl_43 := hts (.fieldLink RX7 43 "DoubleChain" "watched" "LDoubleChain$Watched;") (by decide +kernel)
  have fl_61 := hts (.fieldLink RX7 61 "DoubleChain" "theCourt" "LDoubleChain$Court;") (by decide +kernel)
  have fl_100 := hts (.fieldLink RX7 100 "DoubleChain$Watched" "count" "I") (by decide +kernel)
  clear B
  show W p l e xrm_X7_watch s m args below meth c s.heap [] 0 0 Q (F0 m 0 ls [])
  unfold wp_X7_watch at hw
  refine lv_aload_n hx hb dX7_watch_0 rfl (lv_at hl 0 rfl) ?_
  refine va_get (D := D) (ci := 7) (v := .ref a_theCourt) (C := RX7) (T := TX7) (N := 11) hx hb hts hinX7 hown hKK.1 hP 0 rfl rfl 8 (by decide) fl_61 (fun _ h9 => h9) rfl dX7_watch_1 ?_
  refine lv_iload_n hx hb dX7_watch_4 rfl (lv_at hl 1 rfl) ?_
  refine xcVi (q0 := 1) (ci := 2) (As := [.int p1]) (rest := []) (wc := [(a_theCourt, .inr (2, [.ref a_theCourt_marks, .ref a_theCourt_inWeathers, .ref a_theCourt_inHours, .ref a_theCourt_fears, .ref a_theCourt_weathers, .ref a_theCourt_hours, .ref a_theCourt_dangers, .int theCourt_pay, .int theCourt_people, .int theCourt_days]))]) ⟨hx, hb, hml, hown, hts⟩ (c_X2_hasDay l D cI cZ cO hw) (cwV 1 hts gX7_watch_X2_hasDay rfl rfl rfl (by decide +kernel) ⟨Nat.le_of_ble_eq_true rfl, Nat.le_of_ble_eq_true rfl⟩) hKK hP [1] rfl rfl rfl rfl hl.1 rfl (Nat.le_of_ble_eq_true rfl) dX7_watch_5 ⟨Nat.zero_le _, Nat.zero_le _⟩ (fun r_5 hw => ?_)
  refine lv_if_ne (tgt := 14) hx hb dX7_watch_8 (by decide) (fun c_8 => ?_) (fun c_8 => ?_)
  · have hw := hw.2 c_8
    refine lv_aload_n hx hb dX7_watch_14 rfl (lv_at hl 0 rfl) ?_
    refine va_get (D := D) (ci := 7) (v := .ref a_watched) (C := RX7) (T := TX7) (N := 11) hx hb hts hinX7 hown hKK.1 hP 0 rfl rfl 5 (by decide) fl_43 (fun _ h9 => h9) rfl dX7_watch_15 ?_
    refine lv_iload_n hx hb dX7_watch_18 rfl (lv_at hl 1 rfl) ?_
    refine lv_iload_n hx hb dX7_watch_19 rfl (lv_at hl 2 rfl) ?_
    refine xwVi (q0 := 2) (ci := 6) (wr := [(a_this, .inr (7, [.ref a_text, .ref a_now, .ref a_past, .ref a_imageZero, .ref a_imageOne, .ref a_watched, .ref a_book, .ref a_goers, .ref a_theCourt, .ref a_draft, .int theSeed])), (a_theCourt, .inr (2, [.ref a_theCourt_marks, .ref a_theCourt_inWeathers, .ref a_theCourt_inHours, .ref a_theCourt_fears, .ref a_theCourt_weathers, .ref a_theCourt_hours, .ref a_theCourt_dangers, .int theCourt_pay, .int theCourt_people, .int theCourt_days]))]) (As := [.int p1, .int p2]) (rest := []) (wc := [(a_watched, .inr (6, [.ref a_watched_days, .int watched_outs, .int watched_count])), (a_watched_days, .inl (cI, 8, .inl watched_days))]) (fun (u : (Nat → Int32) × Int32 × Int32) => [(a_this, .inr (7, [.ref a_text, .ref a_now, .ref a_past, .ref a_imageZero, .ref a_imageOne, .ref a_watched, .ref a_book, .ref a_goers, .ref a_theCourt, .ref a_draft, .int theSeed])), (a_theCourt, .inr (2, [.ref a_theCourt_marks, .ref a_theCourt_inWeathers, .ref a_theCourt_inHours, .ref a_theCourt_fears, .ref a_theCourt_weathers, .ref a_theCourt_hours, .ref a_theCourt_dangers, .int theCourt_pay, .int theCourt_people, .int theCourt_days])), (a_watched, .inr (6, [.ref a_watched_days, .int u.2.1, .int u.2.2])), (a_watched_days, .inl (cI, 8, .inl u.1))]) ⟨hx, hb, hml, hown, hts⟩ (c_X6_add l D cI cZ cO hw) (cwV 2 hts gX7_watch_X6_add rfl rfl rfl (by decide +kernel) ⟨Nat.le_of_ble_eq_true rfl, Nat.le_of_ble_eq_true rfl⟩) hKK hP hD hS hA [2, 3] [0, 1] [0, 1, 2, 3] rfl rfl rfl rfl rfl (by decide) (fun _ => rfl) rfl rfl rfl hl.1 rfl (Nat.le_of_ble_eq_true rfl) dX7_watch_20 ⟨Nat.zero_le _, Nat.zero_le _⟩ (fun r_20 u_20 H locs hw hP hD hS => ?_)
    obtain ⟨watched_days_20, watched_outs_20, watched_count_20⟩ := u_20
    try dsimp only at hw
    have hP : va_P D vwCl [(a_this, .inr (7, [.ref a_text, .ref a_now, .ref a_past, .ref a_imageZero, .ref a_imageOne, .ref a_watched, .ref a_book, .ref a_goers, .ref a_theCourt, .ref a_draft, .int theSeed])), (a_theCourt, .inr (2, [.ref a_theCourt_marks, .ref a_theCourt_inWeathers, .ref a_theCourt_inHours, .ref a_theCourt_fears, .ref a_theCourt_weathers, .ref a_theCourt_hours, .ref a_theCourt_dangers, .int theCourt_pay, .int theCourt_people, .int theCourt_days])), (a_watched, .inr (6, [.ref a_watched_days, .int watched_outs_20, .int watched_count_20])), (a_watched_days, .inl (cI, 8, .inl watched_days_20))] H := hP
    have hD : va_D A [(a_this, .inr (7, [.ref a_text, .ref a_now, .ref a_past, .ref a_imageZero, .ref a_imageOne, .ref a_watched, .ref a_book, .ref a_goers, .ref a_theCourt, .ref a_draft, .int theSeed])), (a_theCourt, .inr (2, [.ref a_theCourt_marks, .ref a_theCourt_inWeathers, .ref a_theCourt_inHours, .ref a_theCourt_fears, .ref a_theCourt_weathers, .ref a_theCourt_hours, .ref a_theCourt_dangers, .int theCourt_pay, .int theCourt_people, .int theCourt_days])), (a_watched, .inr (6, [.ref a_watched_days, .int watched_outs_20, .int watched_count_20])), (a_watched_days, .inl (cI, 8, .inl watched_days_20))] := hD
    refine lv_if_eq (tgt := 36) hx hb dX7_watch_23 (by decide) (fun c_23 => ?_) (fun c_23 => ?_)
    · have hw := hw.1 c_23
      refine lv_ldc (v := (-1000000004)) hx hb hown (hts (.constant RX7 84 (-1000000004)) (by decide +kernel)) dX7_watch_36 ?_
      rw [hQ]
      exact W.iret (v := (-1000000004)) hx hb hr (fun t ht _ => ⟨⟨(-1000000004), ⟨watched_days_20, watched_outs_20, watched_count_20⟩, rfl, hw, by rw [ht]; exact hP, hD⟩, hS.F ht⟩) hS.2.2 dX7_watch_38
    · have hw := hw.2 c_23
      refine lv_aload_n hx hb dX7_watch_26 rfl (lv_at hl 0 rfl) ?_
      refine va_get (D := D) (ci := 7) (v := .ref a_watched) (C := RX7) (T := TX7) (N := 11) hx hb hts hinX7 hown hKK.1 hP 0 rfl rfl 5 (by decide) fl_43 (fun _ h9 => h9) rfl dX7_watch_27 ?_
      refine va_get (D := D) (ci := 6) (v := .int watched_count_20) (C := RX6) (T := TX6) (N := 3) hx hb hts hinX6 hown hKK.1 hP 2 rfl rfl 2 (by decide) fl_100 (fun _ h9 => h9) rfl dX7_watch_30 ?_
      refine lv_goto (tgt := 38) hx hb dX7_watch_33 (by decide) ?_
      rw [hQ]
      exact W.iret (v := watched_count_20) hx hb hr (fun t ht _ => ⟨⟨watched_count_20, ⟨watched_days_20, watched_outs_20, watched_count_20⟩, rfl, hw, by rw [ht]; exact hP, hD⟩, hS.F ht⟩) hS.2.2 dX7_watch_38
  · have hw := hw.1 c_8
    refine lv_ldc (v := (-1000000001)) hx hb hown (hts (.constant RX7 135 (-1000000001)) (by decide +kernel)) dX7_watch_11 ?_
    rw [hQ]
    exact W.iret (v := (-1000000001)) hx hb hr (fun t ht _ => ⟨⟨(-1000000001), ⟨watched_days, watched_outs, watched_count⟩, rfl, hw, by rw [ht]; exact hP, hD⟩, hS.F ht⟩) hS.2.2 dX7_watch_13
def wk_X7_fits_4 (Φ : Int32 → Prop) (x1_4 : Int32) (x2_4 : Int32) : Prop :=
  (Φ x1_4)
def wb_X7_fits_4 (now_people : Int32) (watched_outs : Int32) (watched_count : Int32) (watched_days : Nat → Int32) (theCourt_days : Int32) (theCourt_weathers : Nat → Int32) (theCourt_hours : Nat → Int32) (theCourt_dangers : Nat → Int32) (theCourt_inWeathers : Nat → Int32) (theCourt_inHours : Nat → Int32) (theCourt_fears : Nat → Int32) (K_4 : Int32 → Int32 → Prop) (rec_4 : Int32 → Int32 → Prop) (x1_4 : Int32) (x2_4 : Int32) : Prop :=
  ((now_people ≤ x2_4 → (K_4 x1_4 x2_4)) ∧ (¬ now_people ≤ x2_4 → (wp_X6_isFitting watched_outs watched_count watched_days theCourt_days theCourt_weathers theCourt_hours theCourt_dangers theCourt_inWeathers theCourt_inHours theCourt_fears x2_4 (fun r_24 => ((r_24 = 0 → (rec_4 x1_4 (x2_4 + 1))) ∧ (¬ r_24 = 0 → (rec_4 (x1_4 ||| ((1 : Int32) <<< (x2_4 &&& 31))) (x2_4 + 1))))))))
def wp_X7_fits (now_people : Int32) (watched_outs : Int32) (watched_count : Int32) (watched_days : Nat → Int32) (theCourt_days : Int32) (theCourt_weathers : Nat → Int32) (theCourt_hours : Nat → Int32) (theCourt_dangers : Nat → Int32) (theCourt_inWeathers : Nat → Int32) (theCourt_inHours : Nat → Int32) (theCourt_fears : Nat → Int32) (Φ : Int32 → Prop) : Prop :=
  (∃ n : Nat, xit2 (wb_X7_fits_4 now_people watched_outs watched_count watched_days theCourt_days theCourt_weathers theCourt_hours theCourt_dangers theCourt_inWeathers theCourt_inHours theCourt_fears (wk_X7_fits_4 Φ)) n 0 0)
abbrev xrm_X7_fits : Room := { frames := 5, cells := 0, slots := 0, locals := 109 }
set_option maxRecDepth 100000 in
set_option maxHeartbeats 4000000 in
theorem c_X7_fits (l : Launch) (D : va_G) (cI cZ cO : ClassId) {a_text : Nat} {a_now : Nat} {a_past : Nat} {a_imageZero : Nat} {a_imageOne : Nat} {a_watched : Nat} {a_book : Nat} {a_goers : Nat} {a_theCourt : Nat} {a_draft : Nat} {theSeed : Int32} {a_this : Nat} {a_now_marks : Nat} {now_people : Int32} {now_living : Int32} {now_shown : Int32} {now_spent : Int32} {now_days : Int32} {a_watched_days : Nat} {watched_outs : Int32} {watched_count : Int32} {watched_days : Nat → Int32} {a_theCourt_marks : Nat} {a_theCourt_inWeathers : Nat} {a_theCourt_inHours : Nat} {a_theCourt_fears : Nat} {a_theCourt_weathers : Nat} {a_theCourt_hours : Nat} {a_theCourt_dangers : Nat} {theCourt_pay : Int32} {theCourt_people : Int32} {theCourt_days : Int32} {theCourt_weathers : Nat → Int32} {theCourt_hours : Nat → Int32} {theCourt_dangers : Nat → Int32} {theCourt_inWeathers : Nat → Int32} {theCourt_inHours : Nat → Int32} {theCourt_fears : Nat → Int32} {Φ : Int32 → Prop} (hw : (wp_X7_fits now_people watched_outs watched_count watched_days theCourt_days theCourt_weathers theCourt_hours theCourt_dangers theCourt_inWeathers theCourt_inHours theCourt_fears Φ)) : Met l yX7_fits wsX7_fits xrm_X7_fits (xPR D cI cZ cO [.ref a_this] [(a_this, .inr (7, [.ref a_text, .ref a_now, .ref a_past, .ref a_imageZero, .ref a_imageOne, .ref a_watched, .ref a_book, .ref a_goers, .ref a_theCourt, .ref a_draft, .int theSeed])), (a_now, .inr (1, [.ref a_now_marks, .int now_people, .int now_living, .int now_shown, .int now_spent, .int now_days])), (a_watched, .inr (6, [.ref a_watched_days, .int watched_outs, .int watched_count])), (a_watched_days, .inl (cI, 8, .inl watched_days)), (a_theCourt, .inr (2, [.ref a_theCourt_marks, .ref a_theCourt_inWeathers, .ref a_theCourt_inHours, .ref a_theCourt_fears, .ref a_theCourt_weathers, .ref a_theCourt_hours, .ref a_theCourt_dangers, .int theCourt_pay, .int theCourt_people, .int theCourt_days])), (a_theCourt_weathers, .inl (cI, 10, .inl theCourt_weathers)), (a_theCourt_hours, .inl (cI, 10, .inl theCourt_hours)), (a_theCourt_dangers, .inl (cI, 10, .inl theCourt_dangers)), (a_theCourt_inWeathers, .inl (cI, 8, .inl theCourt_inWeathers)), (a_theCourt_inHours, .inl (cI, 8, .inl theCourt_inHours)), (a_theCourt_fears, .inl (cI, 8, .inl theCourt_fears))]) (vp_Si Φ) 0 0 (fun _ => False) := by
  refine Met.ofW (cc := cX7_fits) (maxL := 3) (ret := (some .int)) (by decide) rfl ?_
  intro p e s m args below meth c s₁ B hml hv
  obtain ⟨rfl, hP, hKK⟩ := hv
  have hx := B.exec
  have hb := B.bytes
  have hr := B.returns
  have hts := atoms_spec (ws := wsX7_fits) B.pre
  have hown : s.vm.findClass RX7 = some m.cls := findClass_of_methodNamed B.named
  have hlocks := B.notSynchronized
  obtain ⟨Q, hQ⟩ : ∃ Q, Q = MQ below (vp_Si Φ) ([.ref a_this] : List Value).toArray s 0 0 (fun _ => False) := ⟨_, rfl⟩
  rw [← hQ]
  have hl := lv_entry ([.ref a_this]) (n := 3) (Nat.le_of_ble_eq_true rfl)
  rw [lg_entry_eq]
  generalize (lg_sl ([.ref a_this]) ++ List.replicate (3 - (lg_sl ([.ref a_this])).length) Slot.unset).toArray = ls at hl ⊢
  have hl : lv_has ls 3 [(0, .ref a_this)] := hl
  generalize ([.ref a_this] : List Value).toArray = args at hts hQ ⊢
  have hP : va_P D vwCl [(a_this, .inr (7, [.ref a_text, .ref a_now, .ref a_past, .ref a_imageZero, .ref a_imageOne, .ref a_watched, .ref a_book, .ref a_goers, .ref a_theCourt, .ref a_draft, .int theSeed])), (a_now, .inr (1, [.ref a_now_marks, .int now_people, .int now_living, .int now_shown, .int now_spent, .int now_days])), (a_watched, .inr (6, [.ref a_watched_days, .int watched_outs, .int watched_count])), (a_watched_days, .inl (cI, 8, .inl watched_days)), (a_theCourt, .inr (2, [.ref a_theCourt_marks, .ref a_theCourt_inWeathers, .ref a_theCourt_inHours, .ref a_theCourt_fears, .ref a_theCourt_weathers, .ref a_theCourt_hours, .ref a_theCourt_dangers, .int theCourt_pay, .int theCourt_people, .int theCourt_days])), (a_theCourt_weathers, .inl (cI, 10, .inl theCourt_weathers)), (a_theCourt_hours, .inl (cI, 10, .inl theCourt_hours)), (a_theCourt_dangers, .inl (cI, 10, .inl theCourt_dangers)), (a_theCourt_inWeathers, .inl (cI, 8, .inl theCourt_inWeathers)), (a_theCourt_inHours, .inl (cI, 8, .inl theCourt_inHours)), (a_theCourt_fears, .inl (cI, 8, .inl theCourt_fears))] s.heap := hP
  have hinX1 : ∀ w ∈ u_ws RX1 TX1 6, w ∈ wsX7_fits := by decide +kernel
  have hinX7 : ∀ w ∈ u_ws RX7 TX7 11, w ∈ wsX7_fits := by decide +kernel
  have fl_19 := hts (.fieldLink RX7 19 "DoubleChain" "now" "LDoubleChain$Chain;") (by decide +kernel)
  have fl_43 := hts (.fieldLink RX7 43 "DoubleChain" "watched" "LDoubleChain$Watched;") (by decide +kernel)
  have fl_61 := hts (.fieldLink RX7 61 "DoubleChain" "theCourt" "LDoubleChain$Court;") (by decide +kernel)
  have fl_113 := hts (.fieldLink RX7 113 "DoubleChain$Chain" "people" "I") (by decide +kernel)
  clear B
  show W p l e xrm_X7_fits s m args below meth c s.heap [] 0 0 Q (F0 m 0 ls [])
  unfold wp_X7_fits at hw
  refine lv_iconst (v := 0) hx hb dX7_fits_0 (by decide) ?_
  refine lv_istore_n (lv' := [(1, .int 0), (0, .ref a_this)]) hx hb dX7_fits_1 rfl hl (by decide) rfl (fun ls hl => ?_)
  refine lv_iconst (v := 0) hx hb dX7_fits_2 (by decide) ?_
  refine lv_istore_n (lv' := [(2, .int 0), (1, .int 0), (0, .ref a_this)]) hx hb dX7_fits_3 rfl hl (by decide) rfl (fun ls hl => ?_)
  have EX_4 : ∀ (x1_4 : Int32) (x2_4 : Int32), ∀ (ls : Array Slot), lv_has ls 3 [(0, .ref a_this), (1, .int x1_4), (2, .int x2_4)] → (wk_X7_fits_4 Φ x1_4 x2_4) → W p l e xrm_X7_fits s m args below meth c s.heap [] 0 0 Q (F0 m 42 ls []) := by
    intro x1_4 x2_4 ls hl hw
    unfold wk_X7_fits_4 at hw
    refine lv_iload_n hx hb dX7_fits_42 rfl (lv_at hl 1 rfl) ?_
    rw [hQ]
    exact W.iret (v := x1_4) hx hb hr (fun t ht _ => ⟨x1_4, rfl, hw, ht⟩) (fun _ h => (List.not_mem_nil h).elim) dX7_fits_43
  generalize (wk_X7_fits_4 Φ) = K_4 at EX_4 hw
  have LP_4 : ∀ n : Nat, ∀ (x1_4 : Int32) (x2_4 : Int32), ∀ (ls : Array Slot), lv_has ls 3 [(0, .ref a_this), (1, .int x1_4), (2, .int x2_4)] → xit2 (wb_X7_fits_4 now_people watched_outs watched_count watched_days theCourt_days theCourt_weathers theCourt_hours theCourt_dangers theCourt_inWeathers theCourt_inHours theCourt_fears K_4) n x1_4 x2_4 → W p l e xrm_X7_fits s m args below meth c s.heap [] 0 0 Q (F0 m 4 ls []) := by
    intro n
    induction n with
    | zero => intro x1_4 x2_4 ls hl hw; exact (show False from hw).elim
    | succ n ih =>
      intro x1_4 x2_4 ls hl hw
      have hw : wb_X7_fits_4 now_people watched_outs watched_count watched_days theCourt_days theCourt_weathers theCourt_hours theCourt_dangers theCourt_inWeathers theCourt_inHours theCourt_fears K_4 (xit2 (wb_X7_fits_4 now_people watched_outs watched_count watched_days theCourt_days theCourt_weathers theCourt_hours theCourt_dangers theCourt_inWeathers theCourt_inHours theCourt_fears K_4) n) x1_4 x2_4 := hw
      generalize xit2 (wb_X7_fits_4 now_people watched_outs watched_count watched_days theCourt_days theCourt_weathers theCourt_hours theCourt_dangers theCourt_inWeathers theCourt_inHours theCourt_fears K_4) n = rec_4 at ih hw
      unfold wb_X7_fits_4 at hw
      refine lv_iload_n hx hb dX7_fits_4 rfl (lv_at hl 2 rfl) ?_
      refine lv_aload_n hx hb dX7_fits_5 rfl (lv_at hl 0 rfl) ?_
      refine va_get (D := D) (ci := 7) (v := .ref a_now) (C := RX7) (T := TX7) (N := 11) hx hb hts hinX7 hown hKK.1 hP 0 rfl rfl 1 (by decide) fl_19 (fun _ h9 => h9) rfl dX7_fits_6 ?_
      refine va_get (D := D) (ci := 1) (v := .int now_people) (C := RX1) (T := TX1) (N := 6) hx hb hts hinX1 hown hKK.1 hP 1 rfl rfl 1 (by decide) fl_113 (fun _ h9 => h9) rfl dX7_fits_9 ?_
      refine lv_icmp_ge (tgt := 42) hx hb dX7_fits_12 (by decide) (fun c_12 => ?_) (fun c_12 => ?_)
      · have hw := hw.1 c_12
        exact EX_4 _ _ ls (lv_sub hl [0, 1, 2] rfl) hw
      · have hw := hw.2 c_12
        refine lv_aload_n hx hb dX7_fits_15 rfl (lv_at hl 0 rfl) ?_
        refine va_get (D := D) (ci := 7) (v := .ref a_watched) (C := RX7) (T := TX7) (N := 11) hx hb hts hinX7 hown hKK.1 hP 0 rfl rfl 5 (by decide) fl_43 (fun _ h9 => h9) rfl dX7_fits_16 ?_
        refine lv_aload_n hx hb dX7_fits_19 rfl (lv_at hl 0 rfl) ?_
        refine va_get (D := D) (ci := 7) (v := .ref a_theCourt) (C := RX7) (T := TX7) (N := 11) hx hb hts hinX7 hown hKK.1 hP 0 rfl rfl 8 (by decide) fl_61 (fun _ h9 => h9) rfl dX7_fits_20 ?_
        refine lv_iload_n hx hb dX7_fits_23 rfl (lv_at hl 2 rfl) ?_
        refine xcVi (q0 := 2) (ci := 6) (As := [.ref a_theCourt, .int x2_4]) (rest := []) (wc := [(a_watched, .inr (6, [.ref a_watched_days, .int watched_outs, .int watched_count])), (a_watched_days, .inl (cI, 8, .inl watched_days)), (a_theCourt, .inr (2, [.ref a_theCourt_marks, .ref a_theCourt_inWeathers, .ref a_theCourt_inHours, .ref a_theCourt_fears, .ref a_theCourt_weathers, .ref a_theCourt_hours, .ref a_theCourt_dangers, .int theCourt_pay, .int theCourt_people, .int theCourt_days])), (a_theCourt_weathers, .inl (cI, 10, .inl theCourt_weathers)), (a_theCourt_hours, .inl (cI, 10, .inl theCourt_hours)), (a_theCourt_dangers, .inl (cI, 10, .inl theCourt_dangers)), (a_theCourt_inWeathers, .inl (cI, 8, .inl theCourt_inWeathers)), (a_theCourt_inHours, .inl (cI, 8, .inl theCourt_inHours)), (a_theCourt_fears, .inl (cI, 8, .inl theCourt_fears))]) ⟨hx, hb, hml, hown, hts⟩ (c_X6_isFitting l D cI cZ cO hw) (cwV 2 hts gX7_fits_X6_isFitting rfl rfl rfl (by decide +kernel) ⟨Nat.le_of_ble_eq_true rfl, Nat.le_of_ble_eq_true rfl⟩) hKK hP [2, 3, 4, 5, 6, 7, 8, 9, 10] rfl rfl rfl rfl hl.1 rfl (Nat.le_of_ble_eq_true rfl) dX7_fits_24 ⟨Nat.zero_le _, Nat.zero_le _⟩ (fun r_24 hw => ?_)
        refine lv_if_eq (tgt := 36) hx hb dX7_fits_27 (by decide) (fun c_27 => ?_) (fun c_27 => ?_)
        · have hw := hw.1 c_27
          refine lv_iinc (v := (x2_4 + 1)) (lv' := [(2, .int (x2_4 + 1)), (0, .ref a_this), (1, .int x1_4)]) hx hb dX7_fits_36 hl (k := 2) rfl (by rfl) (by decide) rfl (fun ls hl => ?_)
          refine lv_goto (tgt := 4) hx hb dX7_fits_39 (by decide) ?_
          exact ih _ _ ls (lv_sub hl [1, 2, 0] rfl) hw
        · have hw := hw.2 c_27
          refine lv_iload_n hx hb dX7_fits_30 rfl (lv_at hl 1 rfl) ?_
          refine lv_iconst (v := 1) hx hb dX7_fits_31 (by decide) ?_
          refine lv_iload_n hx hb dX7_fits_32 rfl (lv_at hl 2 rfl) ?_
          refine lv_ishl hx hb dX7_fits_33 ?_
          refine lv_ior hx hb dX7_fits_34 ?_
          refine lv_istore_n (lv' := [(1, .int (x1_4 ||| ((1 : Int32) <<< (x2_4 &&& 31)))), (0, .ref a_this), (2, .int x2_4)]) hx hb dX7_fits_35 rfl hl (by decide) rfl (fun ls hl => ?_)
          refine lv_iinc (v := (x2_4 + 1)) (lv' := [(2, .int (x2_4 + 1)), (1, .int (x1_4 ||| ((1 : Int32) <<< (x2_4 &&& 31)))), (0, .ref a_this)]) hx hb dX7_fits_36 hl (k := 2) rfl (by rfl) (by decide) rfl (fun ls hl => ?_)
          refine lv_goto (tgt := 4) hx hb dX7_fits_39 (by decide) ?_
          exact ih _ _ ls (lv_sub hl [2, 1, 0] rfl) hw
  obtain ⟨n, hw⟩ := hw
  exact LP_4 n _ _ ls (lv_sub hl [2, 1, 0] rfl) hw
def wk_X7_lookOn_15 (Φ : Int32 → Prop) (x2_15 : Int32) (x3_15 : Int32) (x4_15 : Int32) : Prop :=
  (Φ x2_15)
def wb_X7_lookOn_15 (theCourt_days : Int32) (theCourt_weathers : Nat → Int32) (theCourt_hours : Nat → Int32) (theCourt_dangers : Nat → Int32) (theCourt_inWeathers : Nat → Int32) (theCourt_inHours : Nat → Int32) (theCourt_fears : Nat → Int32) (r_1 : Int32) (K_15 : Int32 → Int32 → Int32 → Prop) (rec_15 : Int32 → Int32 → Int32 → Prop) (x2_15 : Int32) (x3_15 : Int32) (x4_15 : Int32) : Prop :=
  ((theCourt_days ≤ x4_15 → (K_15 x2_15 x3_15 x4_15)) ∧ (¬ theCourt_days ≤ x4_15 → (wp_X2_goersOn theCourt_days theCourt_weathers theCourt_hours theCourt_dangers theCourt_inWeathers theCourt_inHours theCourt_fears x4_15 (fun r_34 => (wp_J6_bitCount_0f7a4 (r_1 &&& r_34) (fun r_38 => (wp_J6_bitCount_0f7a4 r_1 (fun r_46 => ((x3_15 ≤ (if r_38 < (r_46 - r_38) then (r_46 - r_38) else r_38) → (rec_15 x2_15 x3_15 (x4_15 + 1))) ∧ (¬ x3_15 ≤ (if r_38 < (r_46 - r_38) then (r_46 - r_38) else r_38) → (rec_15 x4_15 (if r_38 < (r_46 - r_38) then (r_46 - r_38) else r_38) (x4_15 + 1))))))))))))
def wp_X7_lookOn (now_people : Int32) (watched_outs : Int32) (watched_count : Int32) (watched_days : Nat → Int32) (theCourt_days : Int32) (theCourt_weathers : Nat → Int32) (theCourt_hours : Nat → Int32) (theCourt_dangers : Nat → Int32) (theCourt_inWeathers : Nat → Int32) (theCourt_inHours : Nat → Int32) (theCourt_fears : Nat → Int32) (Φ : Int32 → Prop) : Prop :=
  (wp_X7_fits now_people watched_outs watched_count watched_days theCourt_days theCourt_weathers theCourt_hours theCourt_dangers theCourt_inWeathers theCourt_inHours theCourt_fears (fun r_1 => (wp_J6_bitCount_0f7a4 r_1 (fun r_8 => (∃ n : Nat, xit3 (wb_X7_lookOn_15 theCourt_days theCourt_weathers theCourt_hours theCourt_dangers theCourt_inWeathers theCourt_inHours theCourt_fears r_1 (wk_X7_lookOn_15 Φ)) n (-1) r_8 0)))))
abbrev xrm_X7_lookOn : Room := { frames := 6, cells := 0, slots := 0, locals := 131 }
set_option maxRecDepth 100000 in
set_option maxHeartbeats 4000000 in
theorem c_X7_lookOn (l : Launch) (D : va_G) (cI cZ cO : ClassId) {a_text : Nat} {a_now : Nat} {a_past : Nat} {a_imageZero : Nat} {a_imageOne : Nat} {a_watched : Nat} {a_book : Nat} {a_goers : Nat} {a_theCourt : Nat} {a_draft : Nat} {theSeed : Int32} {a_this : Nat} {a_now_marks : Nat} {now_people : Int32} {now_living : Int32} {now_shown : Int32} {now_spent : Int32} {now_days : Int32} {a_watched_days : Nat} {watched_outs : Int32} {watched_count : Int32} {watched_days : Nat → Int32} {a_theCourt_marks : Nat} {a_theCourt_inWeathers : Nat} {a_theCourt_inHours : Nat} {a_theCourt_fears : Nat} {a_theCourt_weathers : Nat} {a_theCourt_hours : Nat} {a_theCourt_dangers : Nat} {theCourt_pay : Int32} {theCourt_people : Int32} {theCourt_days : Int32} {theCourt_weathers : Nat → Int32} {theCourt_hours : Nat → Int32} {theCourt_dangers : Nat → Int32} {theCourt_inWeathers : Nat → Int32} {theCourt_inHours : Nat → Int32} {theCourt_fears : Nat → Int32} {Φ : Int32 → Prop} (hw : (wp_X7_lookOn now_people watched_outs watched_count watched_days theCourt_days theCourt_weathers theCourt_hours theCourt_dangers theCourt_inWeathers theCourt_inHours theCourt_fears Φ)) : Met l yX7_lookOn wsX7_lookOn xrm_X7_lookOn (xPR D cI cZ cO [.ref a_this] [(a_this, .inr (7, [.ref a_text, .ref a_now, .ref a_past, .ref a_imageZero, .ref a_imageOne, .ref a_watched, .ref a_book, .ref a_goers, .ref a_theCourt, .ref a_draft, .int theSeed])), (a_now, .inr (1, [.ref a_now_marks, .int now_people, .int now_living, .int now_shown, .int now_spent, .int now_days])), (a_watched, .inr (6, [.ref a_watched_days, .int watched_outs, .int watched_count])), (a_watched_days, .inl (cI, 8, .inl watched_days)), (a_theCourt, .inr (2, [.ref a_theCourt_marks, .ref a_theCourt_inWeathers, .ref a_theCourt_inHours, .ref a_theCourt_fears, .ref a_theCourt_weathers, .ref a_theCourt_hours, .ref a_theCourt_dangers, .int theCourt_pay, .int theCourt_people, .int theCourt_days])), (a_theCourt_weathers, .inl (cI, 10, .inl theCourt_weathers)), (a_theCourt_hours, .inl (cI, 10, .inl theCourt_hours)), (a_theCourt_dangers, .inl (cI, 10, .inl theCourt_dangers)), (a_theCourt_inWeathers, .inl (cI, 8, .inl theCourt_inWeathers)), (a_theCourt_inHours, .inl (cI, 8, .inl theCourt_inHours)), (a_theCourt_fears, .inl (cI, 8, .inl theCourt_fears))]) (vp_Si Φ) 0 0 (fun _ => False) := by
  refine Met.ofW (cc := cX7_lookOn) (maxL := 7) (ret := (some .int)) (by decide) rfl ?_
  intro p e s m args below meth c s₁ B hml hv
  obtain ⟨rfl, hP, hKK⟩ := hv
  have hx := B.exec
  have hb := B.bytes
  have hr := B.returns
  have hts := atoms_spec (ws := wsX7_lookOn) B.pre
  have hown : s.vm.findClass RX7 = some m.cls := findClass_of_methodNamed B.named
  have hlocks := B.notSynchronized
  obtain ⟨Q, hQ⟩ : ∃ Q, Q = MQ below (vp_Si Φ) ([.ref a_this] : List Value).toArray s 0 0 (fun _ => False) := ⟨_, rfl⟩
  rw [← hQ]
  have hl := lv_entry ([.ref a_this]) (n := 7) (Nat.le_of_ble_eq_true rfl)
  rw [lg_entry_eq]
  generalize (lg_sl ([.ref a_this]) ++ List.replicate (7 - (lg_sl ([.ref a_this])).length) Slot.unset).toArray = ls at hl ⊢
  have hl : lv_has ls 7 [(0, .ref a_this)] := hl
  generalize ([.ref a_this] : List Value).toArray = args at hts hQ ⊢
  have hP : va_P D vwCl [(a_this, .inr (7, [.ref a_text, .ref a_now, .ref a_past, .ref a_imageZero, .ref a_imageOne, .ref a_watched, .ref a_book, .ref a_goers, .ref a_theCourt, .ref a_draft, .int theSeed])), (a_now, .inr (1, [.ref a_now_marks, .int now_people, .int now_living, .int now_shown, .int now_spent, .int now_days])), (a_watched, .inr (6, [.ref a_watched_days, .int watched_outs, .int watched_count])), (a_watched_days, .inl (cI, 8, .inl watched_days)), (a_theCourt, .inr (2, [.ref a_theCourt_marks, .ref a_theCourt_inWeathers, .ref a_theCourt_inHours, .ref a_theCourt_fears, .ref a_theCourt_weathers, .ref a_theCourt_hours, .ref a_theCourt_dangers, .int theCourt_pay, .int theCourt_people, .int theCourt_days])), (a_theCourt_weathers, .inl (cI, 10, .inl theCourt_weathers)), (a_theCourt_hours, .inl (cI, 10, .inl theCourt_hours)), (a_theCourt_dangers, .inl (cI, 10, .inl theCourt_dangers)), (a_theCourt_inWeathers, .inl (cI, 8, .inl theCourt_inWeathers)), (a_theCourt_inHours, .inl (cI, 8, .inl theCourt_inHours)), (a_theCourt_fears, .inl (cI, 8, .inl theCourt_fears))] s.heap := hP
  have hinX2 : ∀ w ∈ u_ws RX2 TX2 10, w ∈ wsX7_lookOn := by decide +kernel
  have hinX7 : ∀ w ∈ u_ws RX7 TX7 11, w ∈ wsX7_lookOn := by decide +kernel
  have fl_61 := hts (.fieldLink RX7 61 "DoubleChain" "theCourt" "LDoubleChain$Court;") (by decide +kernel)
  have fl_114 := hts (.fieldLink RX7 114 "DoubleChain$Court" "days" "I") (by decide +kernel)
  clear B
  show W p l e xrm_X7_lookOn s m args below meth c s.heap [] 0 0 Q (F0 m 0 ls [])
  unfold wp_X7_lookOn at hw
  refine lv_aload_n hx hb dX7_lookOn_0 rfl (lv_at hl 0 rfl) ?_
  refine xcVi (q0 := 0) (ci := 7) (As := []) (rest := []) (wc := [(a_this, .inr (7, [.ref a_text, .ref a_now, .ref a_past, .ref a_imageZero, .ref a_imageOne, .ref a_watched, .ref a_book, .ref a_goers, .ref a_theCourt, .ref a_draft, .int theSeed])), (a_now, .inr (1, [.ref a_now_marks, .int now_people, .int now_living, .int now_shown, .int now_spent, .int now_days])), (a_watched, .inr (6, [.ref a_watched_days, .int watched_outs, .int watched_count])), (a_watched_days, .inl (cI, 8, .inl watched_days)), (a_theCourt, .inr (2, [.ref a_theCourt_marks, .ref a_theCourt_inWeathers, .ref a_theCourt_inHours, .ref a_theCourt_fears, .ref a_theCourt_weathers, .ref a_theCourt_hours, .ref a_theCourt_dangers, .int theCourt_pay, .int theCourt_people, .int theCourt_days])), (a_theCourt_weathers, .inl (cI, 10, .inl theCourt_weathers)), (a_theCourt_hours, .inl (cI, 10, .inl theCourt_hours)), (a_theCourt_dangers, .inl (cI, 10, .inl theCourt_dangers)), (a_theCourt_inWeathers, .inl (cI, 8, .inl theCourt_inWeathers)), (a_theCourt_inHours, .inl (cI, 8, .inl theCourt_inHours)), (a_theCourt_fears, .inl (cI, 8, .inl theCourt_fears))]) ⟨hx, hb, hml, hown, hts⟩ (c_X7_fits l D cI cZ cO hw) (cwV 0 hts gX7_lookOn_X7_fits rfl rfl rfl (by decide +kernel) ⟨Nat.le_of_ble_eq_true rfl, Nat.le_of_ble_eq_true rfl⟩) hKK hP [0, 1, 2, 3, 4, 5, 6, 7, 8, 9, 10] rfl rfl rfl rfl hl.1 rfl (Nat.le_of_ble_eq_true rfl) dX7_lookOn_1 ⟨Nat.zero_le _, Nat.zero_le _⟩ (fun r_1 hw => ?_)
  refine lv_istore_n (lv' := [(1, .int r_1), (0, .ref a_this)]) hx hb dX7_lookOn_4 rfl hl (by decide) rfl (fun ls hl => ?_)
  refine lv_iconst (v := (-1)) hx hb dX7_lookOn_5 (by decide) ?_
  refine lv_istore_n (lv' := [(2, .int (-1)), (1, .int r_1), (0, .ref a_this)]) hx hb dX7_lookOn_6 rfl hl (by decide) rfl (fun ls hl => ?_)
  refine lv_iload_n hx hb dX7_lookOn_7 rfl (lv_at hl 1 rfl) ?_
  refine xcSi (As := [.int r_1]) (rest := []) (wc := []) ⟨hx, hb, hml, hown, hts⟩ (c_J6_bitCount_0f7a4 l D cI cZ cO hw) (va_cwS 1 hts gX7_lookOn_J6_bitCount_0f7a4 rfl rfl rfl (by decide +kernel) ⟨Nat.le_of_ble_eq_true rfl, Nat.le_of_ble_eq_true rfl⟩) hKK hP [] rfl rfl hl.1 rfl (Nat.le_of_ble_eq_true rfl) dX7_lookOn_8 ⟨Nat.zero_le _, Nat.zero_le _⟩ (fun r_8 hw => ?_)
  refine lv_istore_n (lv' := [(3, .int r_8), (2, .int (-1)), (1, .int r_1), (0, .ref a_this)]) hx hb dX7_lookOn_11 rfl hl (by decide) rfl (fun ls hl => ?_)
  refine lv_iconst (v := 0) hx hb dX7_lookOn_12 (by decide) ?_
  refine lv_istore (lv' := [(4, .int 0), (3, .int r_8), (2, .int (-1)), (1, .int r_1), (0, .ref a_this)]) hx hb dX7_lookOn_13 hl (by decide) rfl (fun ls hl => ?_)
  have EX_15 : ∀ (x2_15 : Int32) (x3_15 : Int32) (x4_15 : Int32), ∀ (ls : Array Slot), lv_has ls 7 [(0, .ref a_this), (1, .int r_1), (2, .int x2_15), (3, .int x3_15), (4, .int x4_15)] → (wk_X7_lookOn_15 Φ x2_15 x3_15 x4_15) → W p l e xrm_X7_lookOn s m args below meth c s.heap [] 0 0 Q (F0 m 75 ls []) := by
    intro x2_15 x3_15 x4_15 ls hl hw
    unfold wk_X7_lookOn_15 at hw
    refine lv_iload_n hx hb dX7_lookOn_75 rfl (lv_at hl 2 rfl) ?_
    rw [hQ]
    exact W.iret (v := x2_15) hx hb hr (fun t ht _ => ⟨x2_15, rfl, hw, ht⟩) (fun _ h => (List.not_mem_nil h).elim) dX7_lookOn_76
  generalize (wk_X7_lookOn_15 Φ) = K_15 at EX_15 hw
  have LP_15 : ∀ n : Nat, ∀ (x2_15 : Int32) (x3_15 : Int32) (x4_15 : Int32), ∀ (ls : Array Slot), lv_has ls 7 [(0, .ref a_this), (1, .int r_1), (2, .int x2_15), (3, .int x3_15), (4, .int x4_15)] → xit3 (wb_X7_lookOn_15 theCourt_days theCourt_weathers theCourt_hours theCourt_dangers theCourt_inWeathers theCourt_inHours theCourt_fears r_1 K_15) n x2_15 x3_15 x4_15 → W p l e xrm_X7_lookOn s m args below meth c s.heap [] 0 0 Q (F0 m 15 ls []) := by
    intro n
    induction n with
    | zero => intro x2_15 x3_15 x4_15 ls hl hw; exact (show False from hw).elim
    | succ n ih =>
      intro x2_15 x3_15 x4_15 ls hl hw
      have hw : wb_X7_lookOn_15 theCourt_days theCourt_weathers theCourt_hours theCourt_dangers theCourt_inWeathers theCourt_inHours theCourt_fears r_1 K_15 (xit3 (wb_X7_lookOn_15 theCourt_days theCourt_weathers theCourt_hours theCourt_dangers theCourt_inWeathers theCourt_inHours theCourt_fears r_1 K_15) n) x2_15 x3_15 x4_15 := hw
      generalize xit3 (wb_X7_lookOn_15 theCourt_days theCourt_weathers theCourt_hours theCourt_dangers theCourt_inWeathers theCourt_inHours theCourt_fears r_1 K_15) n = rec_15 at ih hw
      unfold wb_X7_lookOn_15 at hw
      refine lv_iload hx hb dX7_lookOn_15 (lv_at hl 4 rfl) ?_
      refine lv_aload_n hx hb dX7_lookOn_17 rfl (lv_at hl 0 rfl) ?_
      refine va_get (D := D) (ci := 7) (v := .ref a_theCourt) (C := RX7) (T := TX7) (N := 11) hx hb hts hinX7 hown hKK.1 hP 0 rfl rfl 8 (by decide) fl_61 (fun _ h9 => h9) rfl dX7_lookOn_18 ?_
      refine va_get (D := D) (ci := 2) (v := .int theCourt_days) (C := RX2) (T := TX2) (N := 10) hx hb hts hinX2 hown hKK.1 hP 4 rfl rfl 9 (by decide) fl_114 (fun _ h9 => h9) rfl dX7_lookOn_21 ?_
      refine lv_icmp_ge (tgt := 75) hx hb dX7_lookOn_24 (by decide) (fun c_24 => ?_) (fun c_24 => ?_)
      · have hw := hw.1 c_24
        exact EX_15 _ _ _ ls (lv_sub hl [0, 1, 2, 3, 4] rfl) hw
      · have hw := hw.2 c_24
        refine lv_iload_n hx hb dX7_lookOn_27 rfl (lv_at hl 1 rfl) ?_
        refine lv_aload_n hx hb dX7_lookOn_28 rfl (lv_at hl 0 rfl) ?_
        refine va_get (D := D) (ci := 7) (v := .ref a_theCourt) (C := RX7) (T := TX7) (N := 11) hx hb hts hinX7 hown hKK.1 hP 0 rfl rfl 8 (by decide) fl_61 (fun _ h9 => h9) rfl dX7_lookOn_29 ?_
        refine lv_iload hx hb dX7_lookOn_32 (lv_at hl 4 rfl) ?_
        refine xcVi (q0 := 4) (ci := 2) (As := [.int x4_15]) (rest := [.int r_1]) (wc := [(a_theCourt, .inr (2, [.ref a_theCourt_marks, .ref a_theCourt_inWeathers, .ref a_theCourt_inHours, .ref a_theCourt_fears, .ref a_theCourt_weathers, .ref a_theCourt_hours, .ref a_theCourt_dangers, .int theCourt_pay, .int theCourt_people, .int theCourt_days])), (a_theCourt_weathers, .inl (cI, 10, .inl theCourt_weathers)), (a_theCourt_hours, .inl (cI, 10, .inl theCourt_hours)), (a_theCourt_dangers, .inl (cI, 10, .inl theCourt_dangers)), (a_theCourt_inWeathers, .inl (cI, 8, .inl theCourt_inWeathers)), (a_theCourt_inHours, .inl (cI, 8, .inl theCourt_inHours)), (a_theCourt_fears, .inl (cI, 8, .inl theCourt_fears))]) ⟨hx, hb, hml, hown, hts⟩ (c_X2_goersOn l D cI cZ cO hw) (cwV 1 hts gX7_lookOn_X2_goersOn rfl rfl rfl (by decide +kernel) ⟨Nat.le_of_ble_eq_true rfl, Nat.le_of_ble_eq_true rfl⟩) hKK hP [4, 5, 6, 7, 8, 9, 10] rfl rfl rfl rfl hl.1 rfl (Nat.le_of_ble_eq_true rfl) dX7_lookOn_34 ⟨Nat.zero_le _, Nat.zero_le _⟩ (fun r_34 hw => ?_)
        refine lv_iand hx hb dX7_lookOn_37 ?_
        refine xcSi (As := [.int (r_1 &&& r_34)]) (rest := []) (wc := []) ⟨hx, hb, hml, hown, hts⟩ (c_J6_bitCount_0f7a4 l D cI cZ cO hw) (va_cwS 1 hts gX7_lookOn_J6_bitCount_0f7a4 rfl rfl rfl (by decide +kernel) ⟨Nat.le_of_ble_eq_true rfl, Nat.le_of_ble_eq_true rfl⟩) hKK hP [] rfl rfl hl.1 rfl (Nat.le_of_ble_eq_true rfl) dX7_lookOn_38 ⟨Nat.zero_le _, Nat.zero_le _⟩ (fun r_38 hw => ?_)
        refine lv_istore (lv' := [(5, .int r_38), (0, .ref a_this), (1, .int r_1), (2, .int x2_15), (3, .int x3_15), (4, .int x4_15)]) hx hb dX7_lookOn_41 hl (by decide) rfl (fun ls hl => ?_)
        refine lv_iload hx hb dX7_lookOn_43 (lv_at hl 0 rfl) ?_
        refine lv_iload_n hx hb dX7_lookOn_45 rfl (lv_at hl 2 rfl) ?_
        refine xcSi (As := [.int r_1]) (rest := [.int r_38]) (wc := []) ⟨hx, hb, hml, hown, hts⟩ (c_J6_bitCount_0f7a4 l D cI cZ cO hw) (va_cwS 1 hts gX7_lookOn_J6_bitCount_0f7a4 rfl rfl rfl (by decide +kernel) ⟨Nat.le_of_ble_eq_true rfl, Nat.le_of_ble_eq_true rfl⟩) hKK hP [] rfl rfl hl.1 rfl (Nat.le_of_ble_eq_true rfl) dX7_lookOn_46 ⟨Nat.zero_le _, Nat.zero_le _⟩ (fun r_46 hw => ?_)
        refine lv_iload hx hb dX7_lookOn_49 (lv_at hl 0 rfl) ?_
        refine lv_isub hx hb dX7_lookOn_51 ?_
        refine va_mmax hx hb (hml.trans hl.1.symm) hown (hts (.methodLink RX7 249 Lib.Math.max.name) (by decide +kernel)) (hts (.static Lib.Math.max.name) (by decide +kernel)) (hts (.initialized "java/lang/Math") (by decide +kernel)) (hts (.code Lib.Math.max.name Lib.Math.max.code 2 (some .int)) (by decide +kernel)) (Nat.le_of_ble_eq_true rfl) (Nat.le_of_ble_eq_true rfl) (Nat.zero_le _) (Nat.zero_le _) dX7_lookOn_52 ?_
        refine lv_istore (lv' := [(6, .int (if r_38 < (r_46 - r_38) then (r_46 - r_38) else r_38)), (5, .int r_38), (0, .ref a_this), (1, .int r_1), (2, .int x2_15), (3, .int x3_15), (4, .int x4_15)]) hx hb dX7_lookOn_55 hl (by decide) rfl (fun ls hl => ?_)
        refine lv_iload hx hb dX7_lookOn_57 (lv_at hl 0 rfl) ?_
        refine lv_iload_n hx hb dX7_lookOn_59 rfl (lv_at hl 5 rfl) ?_
        refine lv_icmp_ge (tgt := 69) hx hb dX7_lookOn_60 (by decide) (fun c_60 => ?_) (fun c_60 => ?_)
        · have hw := hw.1 c_60
          refine lv_iinc (v := (x4_15 + 1)) (lv' := [(4, .int (x4_15 + 1)), (6, .int (if r_38 < (r_46 - r_38) then (r_46 - r_38) else r_38)), (5, .int r_38), (0, .ref a_this), (1, .int r_1), (2, .int x2_15), (3, .int x3_15)]) hx hb dX7_lookOn_69 hl (k := 6) rfl (by rfl) (by decide) rfl (fun ls hl => ?_)
          refine lv_goto (tgt := 15) hx hb dX7_lookOn_72 (by decide) ?_
          exact ih _ _ _ ls (lv_sub hl [3, 4, 5, 6, 0] rfl) hw
        · have hw := hw.2 c_60
          refine lv_iload hx hb dX7_lookOn_63 (lv_at hl 6 rfl) ?_
          refine lv_istore_n (lv' := [(2, .int x4_15), (6, .int (if r_38 < (r_46 - r_38) then (r_46 - r_38) else r_38)), (5, .int r_38), (0, .ref a_this), (1, .int r_1), (3, .int x3_15), (4, .int x4_15)]) hx hb dX7_lookOn_65 rfl hl (by decide) rfl (fun ls hl => ?_)
          refine lv_iload hx hb dX7_lookOn_66 (lv_at hl 1 rfl) ?_
          refine lv_istore_n (lv' := [(3, .int (if r_38 < (r_46 - r_38) then (r_46 - r_38) else r_38)), (2, .int x4_15), (6, .int (if r_38 < (r_46 - r_38) then (r_46 - r_38) else r_38)), (5, .int r_38), (0, .ref a_this), (1, .int r_1), (4, .int x4_15)]) hx hb dX7_lookOn_68 rfl hl (by decide) rfl (fun ls hl => ?_)
          refine lv_iinc (v := (x4_15 + 1)) (lv' := [(4, .int (x4_15 + 1)), (3, .int (if r_38 < (r_46 - r_38) then (r_46 - r_38) else r_38)), (2, .int x4_15), (6, .int (if r_38 < (r_46 - r_38) then (r_46 - r_38) else r_38)), (5, .int r_38), (0, .ref a_this), (1, .int r_1)]) hx hb dX7_lookOn_69 hl (k := 6) rfl (by rfl) (by decide) rfl (fun ls hl => ?_)
          refine lv_goto (tgt := 15) hx hb dX7_lookOn_72 (by decide) ?_
          exact ih _ _ _ ls (lv_sub hl [5, 6, 2, 1, 0] rfl) hw
  obtain ⟨n, hw⟩ := hw
  exact LP_15 n _ _ _ ls (lv_sub hl [4, 3, 2, 1, 0] rfl) hw
def wp_X7_write (now_people : Int32) (book_count : Int32) (book_people : Nat → Int32) (book_marks : Nat → Int32) (p1 : Int32) (p2 : Int32) (Φ : Int32 → (Nat → Int32) → (Nat → Int32) → Int32 → Prop) : Prop :=
  (wp_X1_has now_people p1 (fun r_5 => ((r_5 = 0 → (Φ (-1000000001) book_people book_marks book_count)) ∧ (¬ r_5 = 0 → (wp_X7_within p2 0 255 (fun r_19 => ((r_19 = 0 → (Φ (-1000000002) book_people book_marks book_count)) ∧ (¬ r_19 = 0 → (wp_X0_add book_count book_people book_marks p1 p2 (fun r_34 book_people_34 book_marks_34 book_count_34 => ((r_34 = 0 → (Φ (-1000000004) book_people_34 book_marks_34 book_count_34)) ∧ (¬ r_34 = 0 → (Φ book_count_34 book_people_34 book_marks_34 book_count_34)))))))))))))
abbrev xrm_X7_write : Room := { frames := 2, cells := 0, slots := 0, locals := 44 }
set_option maxRecDepth 100000 in
set_option maxHeartbeats 4000000 in
theorem c_X7_write (l : Launch) (D : va_G) (cI cZ cO : ClassId) {a_text : Nat} {a_now : Nat} {a_past : Nat} {a_imageZero : Nat} {a_imageOne : Nat} {a_watched : Nat} {a_book : Nat} {a_goers : Nat} {a_theCourt : Nat} {a_draft : Nat} {theSeed : Int32} {a_this : Nat} {a_now_marks : Nat} {now_people : Int32} {now_living : Int32} {now_shown : Int32} {now_spent : Int32} {now_days : Int32} {a_book_people : Nat} {a_book_marks : Nat} {book_count : Int32} {book_people : Nat → Int32} {book_marks : Nat → Int32} {p1 : Int32} {p2 : Int32} {Φ : Int32 → (Nat → Int32) → (Nat → Int32) → Int32 → Prop} {sz : Nat} (hw : (wp_X7_write now_people book_count book_people book_marks p1 p2 Φ)) : Met l yX7_write wsX7_write xrm_X7_write (xPW D cI cZ cO [.ref a_this, .int p1, .int p2] sz [(a_this, .inr (7, [.ref a_text, .ref a_now, .ref a_past, .ref a_imageZero, .ref a_imageOne, .ref a_watched, .ref a_book, .ref a_goers, .ref a_theCourt, .ref a_draft, .int theSeed])), (a_now, .inr (1, [.ref a_now_marks, .int now_people, .int now_living, .int now_shown, .int now_spent, .int now_days])), (a_book, .inr (0, [.ref a_book_people, .ref a_book_marks, .int book_count])), (a_book_people, .inl (cI, 15, .inl book_people)), (a_book_marks, .inl (cI, 15, .inl book_marks))]) (va_Qi (fun (r : Int32) (u : (Nat → Int32) × (Nat → Int32) × Int32) => Φ r u.1 u.2.1 u.2.2) (xB D (va_A [(a_this, .inr (7, [.ref a_text, .ref a_now, .ref a_past, .ref a_imageZero, .ref a_imageOne, .ref a_watched, .ref a_book, .ref a_goers, .ref a_theCourt, .ref a_draft, .int theSeed])), (a_now, .inr (1, [.ref a_now_marks, .int now_people, .int now_living, .int now_shown, .int now_spent, .int now_days])), (a_book, .inr (0, [.ref a_book_people, .ref a_book_marks, .int book_count])), (a_book_people, .inl (cI, 15, .inl book_people)), (a_book_marks, .inl (cI, 15, .inl book_marks))] sz) (fun (u : (Nat → Int32) × (Nat → Int32) × Int32) => [(a_this, .inr (7, [.ref a_text, .ref a_now, .ref a_past, .ref a_imageZero, .ref a_imageOne, .ref a_watched, .ref a_book, .ref a_goers, .ref a_theCourt, .ref a_draft, .int theSeed])), (a_now, .inr (1, [.ref a_now_marks, .int now_people, .int now_living, .int now_shown, .int now_spent, .int now_days])), (a_book, .inr (0, [.ref a_book_people, .ref a_book_marks, .int u.2.2])), (a_book_people, .inl (cI, 15, .inl u.1)), (a_book_marks, .inl (cI, 15, .inl u.2.1))])) (va_A [(a_this, .inr (7, [.ref a_text, .ref a_now, .ref a_past, .ref a_imageZero, .ref a_imageOne, .ref a_watched, .ref a_book, .ref a_goers, .ref a_theCourt, .ref a_draft, .int theSeed])), (a_now, .inr (1, [.ref a_now_marks, .int now_people, .int now_living, .int now_shown, .int now_spent, .int now_days])), (a_book, .inr (0, [.ref a_book_people, .ref a_book_marks, .int book_count])), (a_book_people, .inl (cI, 15, .inl book_people)), (a_book_marks, .inl (cI, 15, .inl book_marks))] sz)) 0 0 (va_A [(a_this, .inr (7, [.ref a_text, .ref a_now, .ref a_past, .ref a_imageZero, .ref a_imageOne, .ref a_watched, .ref a_book, .ref a_goers, .ref a_theCourt, .ref a_draft, .int theSeed])), (a_now, .inr (1, [.ref a_now_marks, .int now_people, .int now_living, .int now_shown, .int now_spent, .int now_days])), (a_book, .inr (0, [.ref a_book_people, .ref a_book_marks, .int book_count])), (a_book_people, .inl (cI, 15, .inl book_people)), (a_book_marks, .inl (cI, 15, .inl book_marks))] sz) := by
  refine Met.ofW (cc := cX7_write) (maxL := 3) (ret := (some .int)) (by decide) rfl ?_
  intro p e s m args below meth c s₁ B hml hv
  obtain ⟨rfl, hsz, hP, hKK, hD0⟩ := hv
  have hx := B.exec
  have hb := B.bytes
  have hr := B.returns
  have hts := atoms_spec (ws := wsX7_write) B.pre
  have hown : s.vm.findClass RX7 = some m.cls := findClass_of_methodNamed B.named
  have hlocks := B.notSynchronized
  subst hsz
  have hD := hD0.self (sz := s.heap.size)
  obtain ⟨Q, hQ⟩ : ∃ Q, Q = MQ below (va_Qi (fun (r : Int32) (u : (Nat → Int32) × (Nat → Int32) × Int32) => Φ r u.1 u.2.1 u.2.2) (xB D (va_A [(a_this, .inr (7, [.ref a_text, .ref a_now, .ref a_past, .ref a_imageZero, .ref a_imageOne, .ref a_watched, .ref a_book, .ref a_goers, .ref a_theCourt, .ref a_draft, .int theSeed])), (a_now, .inr (1, [.ref a_now_marks, .int now_people, .int now_living, .int now_shown, .int now_spent, .int now_days])), (a_book, .inr (0, [.ref a_book_people, .ref a_book_marks, .int book_count])), (a_book_people, .inl (cI, 15, .inl book_people)), (a_book_marks, .inl (cI, 15, .inl book_marks))] s.heap.size) (fun (u : (Nat → Int32) × (Nat → Int32) × Int32) => [(a_this, .inr (7, [.ref a_text, .ref a_now, .ref a_past, .ref a_imageZero, .ref a_imageOne, .ref a_watched, .ref a_book, .ref a_goers, .ref a_theCourt, .ref a_draft, .int theSeed])), (a_now, .inr (1, [.ref a_now_marks, .int now_people, .int now_living, .int now_shown, .int now_spent, .int now_days])), (a_book, .inr (0, [.ref a_book_people, .ref a_book_marks, .int u.2.2])), (a_book_people, .inl (cI, 15, .inl u.1)), (a_book_marks, .inl (cI, 15, .inl u.2.1))])) (va_A [(a_this, .inr (7, [.ref a_text, .ref a_now, .ref a_past, .ref a_imageZero, .ref a_imageOne, .ref a_watched, .ref a_book, .ref a_goers, .ref a_theCourt, .ref a_draft, .int theSeed])), (a_now, .inr (1, [.ref a_now_marks, .int now_people, .int now_living, .int now_shown, .int now_spent, .int now_days])), (a_book, .inr (0, [.ref a_book_people, .ref a_book_marks, .int book_count])), (a_book_people, .inl (cI, 15, .inl book_people)), (a_book_marks, .inl (cI, 15, .inl book_marks))] s.heap.size)) ([.ref a_this, .int p1, .int p2] : List Value).toArray s 0 0 (va_A [(a_this, .inr (7, [.ref a_text, .ref a_now, .ref a_past, .ref a_imageZero, .ref a_imageOne, .ref a_watched, .ref a_book, .ref a_goers, .ref a_theCourt, .ref a_draft, .int theSeed])), (a_now, .inr (1, [.ref a_now_marks, .int now_people, .int now_living, .int now_shown, .int now_spent, .int now_days])), (a_book, .inr (0, [.ref a_book_people, .ref a_book_marks, .int book_count])), (a_book_people, .inl (cI, 15, .inl book_people)), (a_book_marks, .inl (cI, 15, .inl book_marks))] s.heap.size) := ⟨_, rfl⟩
  rw [← hQ]
  generalize hAe : va_A [(a_this, .inr (7, [.ref a_text, .ref a_now, .ref a_past, .ref a_imageZero, .ref a_imageOne, .ref a_watched, .ref a_book, .ref a_goers, .ref a_theCourt, .ref a_draft, .int theSeed])), (a_now, .inr (1, [.ref a_now_marks, .int now_people, .int now_living, .int now_shown, .int now_spent, .int now_days])), (a_book, .inr (0, [.ref a_book_people, .ref a_book_marks, .int book_count])), (a_book_people, .inl (cI, 15, .inl book_people)), (a_book_marks, .inl (cI, 15, .inl book_marks))] s.heap.size = A at hD hQ
  have hA : ∀ q : Nat, s.heap.size ≤ q → A q := fun q h => by rw [← hAe]; exact Or.inr h
  have hS : va_S A s.heap s.heap [] := va_S.rf
  have hl := lv_entry ([.ref a_this, .int p1, .int p2]) (n := 3) (Nat.le_of_ble_eq_true rfl)
  rw [lg_entry_eq]
  generalize (lg_sl ([.ref a_this, .int p1, .int p2]) ++ List.replicate (3 - (lg_sl ([.ref a_this, .int p1, .int p2])).length) Slot.unset).toArray = ls at hl ⊢
  have hl : lv_has ls 3 [(0, .ref a_this), (1, .int p1), (2, .int p2)] := hl
  generalize ([.ref a_this, .int p1, .int p2] : List Value).toArray = args at hts hQ ⊢
  have hP : va_P D vwCl [(a_this, .inr (7, [.ref a_text, .ref a_now, .ref a_past, .ref a_imageZero, .ref a_imageOne, .ref a_watched, .ref a_book, .ref a_goers, .ref a_theCourt, .ref a_draft, .int theSeed])), (a_now, .inr (1, [.ref a_now_marks, .int now_people, .int now_living, .int now_shown, .int now_spent, .int now_days])), (a_book, .inr (0, [.ref a_book_people, .ref a_book_marks, .int book_count])), (a_book_people, .inl (cI, 15, .inl book_people)), (a_book_marks, .inl (cI, 15, .inl book_marks))] s.heap := hP
  have hinX0 : ∀ w ∈ u_ws RX0 TX0 3, w ∈ wsX7_write := by decide +kernel
  have hinX7 : ∀ w ∈ u_ws RX7 TX7 11, w ∈ wsX7_write := by decide +kernel
  have fl_19 := hts (.fieldLink RX7 19 "DoubleChain" "now" "LDoubleChain$Chain;") (by decide +kernel)
  have fl_50 := hts (.fieldLink RX7 50 "DoubleChain" "book" "LDoubleChain$Book;") (by decide +kernel)
  have fl_103 := hts (.fieldLink RX7 103 "DoubleChain$Book" "count" "I") (by decide +kernel)
  clear B
  show W p l e xrm_X7_write s m args below meth c s.heap [] 0 0 Q (F0 m 0 ls [])
  unfold wp_X7_write at hw
  refine lv_aload_n hx hb dX7_write_0 rfl (lv_at hl 0 rfl) ?_
  refine va_get (D := D) (ci := 7) (v := .ref a_now) (C := RX7) (T := TX7) (N := 11) hx hb hts hinX7 hown hKK.1 hP 0 rfl rfl 1 (by decide) fl_19 (fun _ h9 => h9) rfl dX7_write_1 ?_
  refine lv_iload_n hx hb dX7_write_4 rfl (lv_at hl 1 rfl) ?_
  refine xcVi (q0 := 1) (ci := 1) (As := [.int p1]) (rest := []) (wc := [(a_now, .inr (1, [.ref a_now_marks, .int now_people, .int now_living, .int now_shown, .int now_spent, .int now_days]))]) ⟨hx, hb, hml, hown, hts⟩ (c_X1_has l D cI cZ cO hw) (cwV 1 hts gX7_write_X1_has rfl rfl rfl (by decide +kernel) ⟨Nat.le_of_ble_eq_true rfl, Nat.le_of_ble_eq_true rfl⟩) hKK hP [1] rfl rfl rfl rfl hl.1 rfl (Nat.le_of_ble_eq_true rfl) dX7_write_5 ⟨Nat.zero_le _, Nat.zero_le _⟩ (fun r_5 hw => ?_)
  refine lv_if_ne (tgt := 14) hx hb dX7_write_8 (by decide) (fun c_8 => ?_) (fun c_8 => ?_)
  · have hw := hw.2 c_8
    refine lv_iload_n hx hb dX7_write_14 rfl (lv_at hl 2 rfl) ?_
    refine lv_iconst (v := 0) hx hb dX7_write_15 (by decide) ?_
    refine lv_sipush (v := 255) hx hb dX7_write_16 (by decide) ?_
    refine xcSi (As := [.int p2, .int 0, .int 255]) (rest := []) (wc := []) ⟨hx, hb, hml, hown, hts⟩ (c_X7_within l D cI cZ cO hw) (va_cwS 3 hts gX7_write_X7_within rfl rfl rfl (by decide +kernel) ⟨Nat.le_of_ble_eq_true rfl, Nat.le_of_ble_eq_true rfl⟩) hKK hP [] rfl rfl hl.1 rfl (Nat.le_of_ble_eq_true rfl) dX7_write_19 ⟨Nat.zero_le _, Nat.zero_le _⟩ (fun r_19 hw => ?_)
    refine lv_if_ne (tgt := 28) hx hb dX7_write_22 (by decide) (fun c_22 => ?_) (fun c_22 => ?_)
    · have hw := hw.2 c_22
      refine lv_aload_n hx hb dX7_write_28 rfl (lv_at hl 0 rfl) ?_
      refine va_get (D := D) (ci := 7) (v := .ref a_book) (C := RX7) (T := TX7) (N := 11) hx hb hts hinX7 hown hKK.1 hP 0 rfl rfl 6 (by decide) fl_50 (fun _ h9 => h9) rfl dX7_write_29 ?_
      refine lv_iload_n hx hb dX7_write_32 rfl (lv_at hl 1 rfl) ?_
      refine lv_iload_n hx hb dX7_write_33 rfl (lv_at hl 2 rfl) ?_
      refine xwVi (q0 := 2) (ci := 0) (wr := [(a_this, .inr (7, [.ref a_text, .ref a_now, .ref a_past, .ref a_imageZero, .ref a_imageOne, .ref a_watched, .ref a_book, .ref a_goers, .ref a_theCourt, .ref a_draft, .int theSeed])), (a_now, .inr (1, [.ref a_now_marks, .int now_people, .int now_living, .int now_shown, .int now_spent, .int now_days]))]) (As := [.int p1, .int p2]) (rest := []) (wc := [(a_book, .inr (0, [.ref a_book_people, .ref a_book_marks, .int book_count])), (a_book_people, .inl (cI, 15, .inl book_people)), (a_book_marks, .inl (cI, 15, .inl book_marks))]) (fun (u : (Nat → Int32) × (Nat → Int32) × Int32) => [(a_this, .inr (7, [.ref a_text, .ref a_now, .ref a_past, .ref a_imageZero, .ref a_imageOne, .ref a_watched, .ref a_book, .ref a_goers, .ref a_theCourt, .ref a_draft, .int theSeed])), (a_now, .inr (1, [.ref a_now_marks, .int now_people, .int now_living, .int now_shown, .int now_spent, .int now_days])), (a_book, .inr (0, [.ref a_book_people, .ref a_book_marks, .int u.2.2])), (a_book_people, .inl (cI, 15, .inl u.1)), (a_book_marks, .inl (cI, 15, .inl u.2.1))]) ⟨hx, hb, hml, hown, hts⟩ (c_X0_add l D cI cZ cO hw) (cwV 2 hts gX7_write_X0_add rfl rfl rfl (by decide +kernel) ⟨Nat.le_of_ble_eq_true rfl, Nat.le_of_ble_eq_true rfl⟩) hKK hP hD hS hA [2, 3, 4] [0, 1] [0, 1, 2, 3, 4] rfl rfl rfl rfl rfl (by decide) (fun _ => rfl) rfl rfl rfl hl.1 rfl (Nat.le_of_ble_eq_true rfl) dX7_write_34 ⟨Nat.zero_le _, Nat.zero_le _⟩ (fun r_34 u_34 H locs hw hP hD hS => ?_)
      obtain ⟨book_people_34, book_marks_34, book_count_34⟩ := u_34
      try dsimp only at hw
      have hP : va_P D vwCl [(a_this, .inr (7, [.ref a_text, .ref a_now, .ref a_past, .ref a_imageZero, .ref a_imageOne, .ref a_watched, .ref a_book, .ref a_goers, .ref a_theCourt, .ref a_draft, .int theSeed])), (a_now, .inr (1, [.ref a_now_marks, .int now_people, .int now_living, .int now_shown, .int now_spent, .int now_days])), (a_book, .inr (0, [.ref a_book_people, .ref a_book_marks, .int book_count_34])), (a_book_people, .inl (cI, 15, .inl book_people_34)), (a_book_marks, .inl (cI, 15, .inl book_marks_34))] H := hP
      have hD : va_D A [(a_this, .inr (7, [.ref a_text, .ref a_now, .ref a_past, .ref a_imageZero, .ref a_imageOne, .ref a_watched, .ref a_book, .ref a_goers, .ref a_theCourt, .ref a_draft, .int theSeed])), (a_now, .inr (1, [.ref a_now_marks, .int now_people, .int now_living, .int now_shown, .int now_spent, .int now_days])), (a_book, .inr (0, [.ref a_book_people, .ref a_book_marks, .int book_count_34])), (a_book_people, .inl (cI, 15, .inl book_people_34)), (a_book_marks, .inl (cI, 15, .inl book_marks_34))] := hD
      refine lv_if_eq (tgt := 50) hx hb dX7_write_37 (by decide) (fun c_37 => ?_) (fun c_37 => ?_)
      · have hw := hw.1 c_37
        refine lv_ldc (v := (-1000000004)) hx hb hown (hts (.constant RX7 84 (-1000000004)) (by decide +kernel)) dX7_write_50 ?_
        rw [hQ]
        exact W.iret (v := (-1000000004)) hx hb hr (fun t ht _ => ⟨⟨(-1000000004), ⟨book_people_34, book_marks_34, book_count_34⟩, rfl, hw, by rw [ht]; exact hP, hD⟩, hS.F ht⟩) hS.2.2 dX7_write_52
      · have hw := hw.2 c_37
        refine lv_aload_n hx hb dX7_write_40 rfl (lv_at hl 0 rfl) ?_
        refine va_get (D := D) (ci := 7) (v := .ref a_book) (C := RX7) (T := TX7) (N := 11) hx hb hts hinX7 hown hKK.1 hP 0 rfl rfl 6 (by decide) fl_50 (fun _ h9 => h9) rfl dX7_write_41 ?_
        refine va_get (D := D) (ci := 0) (v := .int book_count_34) (C := RX0) (T := TX0) (N := 3) hx hb hts hinX0 hown hKK.1 hP 2 rfl rfl 2 (by decide) fl_103 (fun _ h9 => h9) rfl dX7_write_44 ?_
        refine lv_goto (tgt := 52) hx hb dX7_write_47 (by decide) ?_
        rw [hQ]
        exact W.iret (v := book_count_34) hx hb hr (fun t ht _ => ⟨⟨book_count_34, ⟨book_people_34, book_marks_34, book_count_34⟩, rfl, hw, by rw [ht]; exact hP, hD⟩, hS.F ht⟩) hS.2.2 dX7_write_52
    · have hw := hw.1 c_22
      refine lv_ldc (v := (-1000000002)) hx hb hown (hts (.constant RX7 76 (-1000000002)) (by decide +kernel)) dX7_write_25 ?_
      rw [hQ]
      exact W.iret (v := (-1000000002)) hx hb hr (fun t ht _ => ⟨⟨(-1000000002), ⟨book_people, book_marks, book_count⟩, rfl, hw, by rw [ht]; exact hP, hD⟩, hS.F ht⟩) hS.2.2 dX7_write_27
  · have hw := hw.1 c_8
    refine lv_ldc (v := (-1000000001)) hx hb hown (hts (.constant RX7 135 (-1000000001)) (by decide +kernel)) dX7_write_11 ?_
    rw [hQ]
    exact W.iret (v := (-1000000001)) hx hb hr (fun t ht _ => ⟨⟨(-1000000001), ⟨book_people, book_marks, book_count⟩, rfl, hw, by rw [ht]; exact hP, hD⟩, hS.F ht⟩) hS.2.2 dX7_write_13
def wp_X7_tear (watched_count : Int32) (book_count : Int32) (Φ : Int32 → Int32 → Int32 → Prop) : Prop :=
  (Φ (watched_count + book_count) 0 0)
abbrev xrm_X7_tear : Room := { frames := 0, cells := 0, slots := 0, locals := 0 }
set_option maxRecDepth 100000 in
set_option maxHeartbeats 4000000 in
theorem c_X7_tear (l : Launch) (D : va_G) (cI cZ cO : ClassId) {a_text : Nat} {a_now : Nat} {a_past : Nat} {a_imageZero : Nat} {a_imageOne : Nat} {a_watched : Nat} {a_book : Nat} {a_goers : Nat} {a_theCourt : Nat} {a_draft : Nat} {theSeed : Int32} {a_this : Nat} {a_watched_days : Nat} {watched_outs : Int32} {watched_count : Int32} {a_book_people : Nat} {a_book_marks : Nat} {book_count : Int32} {Φ : Int32 → Int32 → Int32 → Prop} {sz : Nat} (hw : (wp_X7_tear watched_count book_count Φ)) : Met l yX7_tear wsX7_tear xrm_X7_tear (xPW D cI cZ cO [.ref a_this] sz [(a_this, .inr (7, [.ref a_text, .ref a_now, .ref a_past, .ref a_imageZero, .ref a_imageOne, .ref a_watched, .ref a_book, .ref a_goers, .ref a_theCourt, .ref a_draft, .int theSeed])), (a_watched, .inr (6, [.ref a_watched_days, .int watched_outs, .int watched_count])), (a_book, .inr (0, [.ref a_book_people, .ref a_book_marks, .int book_count]))]) (va_Qi (fun (r : Int32) (u : Int32 × Int32) => Φ r u.1 u.2) (xB D (va_A [(a_this, .inr (7, [.ref a_text, .ref a_now, .ref a_past, .ref a_imageZero, .ref a_imageOne, .ref a_watched, .ref a_book, .ref a_goers, .ref a_theCourt, .ref a_draft, .int theSeed])), (a_watched, .inr (6, [.ref a_watched_days, .int watched_outs, .int watched_count])), (a_book, .inr (0, [.ref a_book_people, .ref a_book_marks, .int book_count]))] sz) (fun (u : Int32 × Int32) => [(a_this, .inr (7, [.ref a_text, .ref a_now, .ref a_past, .ref a_imageZero, .ref a_imageOne, .ref a_watched, .ref a_book, .ref a_goers, .ref a_theCourt, .ref a_draft, .int theSeed])), (a_watched, .inr (6, [.ref a_watched_days, .int watched_outs, .int u.1])), (a_book, .inr (0, [.ref a_book_people, .ref a_book_marks, .int u.2]))])) (va_A [(a_this, .inr (7, [.ref a_text, .ref a_now, .ref a_past, .ref a_imageZero, .ref a_imageOne, .ref a_watched, .ref a_book, .ref a_goers, .ref a_theCourt, .ref a_draft, .int theSeed])), (a_watched, .inr (6, [.ref a_watched_days, .int watched_outs, .int watched_count])), (a_book, .inr (0, [.ref a_book_people, .ref a_book_marks, .int book_count]))] sz)) 0 0 (va_A [(a_this, .inr (7, [.ref a_text, .ref a_now, .ref a_past, .ref a_imageZero, .ref a_imageOne, .ref a_watched, .ref a_book, .ref a_goers, .ref a_theCourt, .ref a_draft, .int theSeed])), (a_watched, .inr (6, [.ref a_watched_days, .int watched_outs, .int watched_count])), (a_book, .inr (0, [.ref a_book_people, .ref a_book_marks, .int book_count]))] sz) := by
  refine Met.ofW (cc := cX7_tear) (maxL := 2) (ret := (some .int)) (by decide) rfl ?_
  intro p e s m args below meth c s₁ B hml hv
  obtain ⟨rfl, hsz, hP, hKK, hD0⟩ := hv
  have hx := B.exec
  have hb := B.bytes
  have hr := B.returns
  have hts := atoms_spec (ws := wsX7_tear) B.pre
  have hown : s.vm.findClass RX7 = some m.cls := findClass_of_methodNamed B.named
  have hlocks := B.notSynchronized
  subst hsz
  have hD := hD0.self (sz := s.heap.size)
  obtain ⟨Q, hQ⟩ : ∃ Q, Q = MQ below (va_Qi (fun (r : Int32) (u : Int32 × Int32) => Φ r u.1 u.2) (xB D (va_A [(a_this, .inr (7, [.ref a_text, .ref a_now, .ref a_past, .ref a_imageZero, .ref a_imageOne, .ref a_watched, .ref a_book, .ref a_goers, .ref a_theCourt, .ref a_draft, .int theSeed])), (a_watched, .inr (6, [.ref a_watched_days, .int watched_outs, .int watched_count])), (a_book, .inr (0, [.ref a_book_people, .ref a_book_marks, .int book_count]))] s.heap.size) (fun (u : Int32 × Int32) => [(a_this, .inr (7, [.ref a_text, .ref a_now, .ref a_past, .ref a_imageZero, .ref a_imageOne, .ref a_watched, .ref a_book, .ref a_goers, .ref a_theCourt, .ref a_draft, .int theSeed])), (a_watched, .inr (6, [.ref a_watched_days, .int watched_outs, .int u.1])), (a_book, .inr (0, [.ref a_book_people, .ref a_book_marks, .int u.2]))])) (va_A [(a_this, .inr (7, [.ref a_text, .ref a_now, .ref a_past, .ref a_imageZero, .ref a_imageOne, .ref a_watched, .ref a_book, .ref a_goers, .ref a_theCourt, .ref a_draft, .int theSeed])), (a_watched, .inr (6, [.ref a_watched_days, .int watched_outs, .int watched_count])), (a_book, .inr (0, [.ref a_book_people, .ref a_book_marks, .int book_count]))] s.heap.size)) ([.ref a_this] : List Value).toArray s 0 0 (va_A [(a_this, .inr (7, [.ref a_text, .ref a_now, .ref a_past, .ref a_imageZero, .ref a_imageOne, .ref a_watched, .ref a_book, .ref a_goers, .ref a_theCourt, .ref a_draft, .int theSeed])), (a_watched, .inr (6, [.ref a_watched_days, .int watched_outs, .int watched_count])), (a_book, .inr (0, [.ref a_book_people, .ref a_book_marks, .int book_count]))] s.heap.size) := ⟨_, rfl⟩
  rw [← hQ]
  generalize hAe : va_A [(a_this, .inr (7, [.ref a_text, .ref a_now, .ref a_past, .ref a_imageZero, .ref a_imageOne, .ref a_watched, .ref a_book, .ref a_goers, .ref a_theCourt, .ref a_draft, .int theSeed])), (a_watched, .inr (6, [.ref a_watched_days, .int watched_outs, .int watched_count])), (a_book, .inr (0, [.ref a_book_people, .ref a_book_marks, .int book_count]))] s.heap.size = A at hD hQ
  have hA : ∀ q : Nat, s.heap.size ≤ q → A q := fun q h => by rw [← hAe]; exact Or.inr h
  have hS : va_S A s.heap s.heap [] := va_S.rf
  have hl := lv_entry ([.ref a_this]) (n := 2) (Nat.le_of_ble_eq_true rfl)
  rw [lg_entry_eq]
  generalize (lg_sl ([.ref a_this]) ++ List.replicate (2 - (lg_sl ([.ref a_this])).length) Slot.unset).toArray = ls at hl ⊢
  have hl : lv_has ls 2 [(0, .ref a_this)] := hl
  generalize ([.ref a_this] : List Value).toArray = args at hts hQ ⊢
  have hP : va_P D vwCl [(a_this, .inr (7, [.ref a_text, .ref a_now, .ref a_past, .ref a_imageZero, .ref a_imageOne, .ref a_watched, .ref a_book, .ref a_goers, .ref a_theCourt, .ref a_draft, .int theSeed])), (a_watched, .inr (6, [.ref a_watched_days, .int watched_outs, .int watched_count])), (a_book, .inr (0, [.ref a_book_people, .ref a_book_marks, .int book_count]))] s.heap := hP
  have hinX0 : ∀ w ∈ u_ws RX0 TX0 3, w ∈ wsX7_tear := by decide +kernel
  have hinX6 : ∀ w ∈ u_ws RX6 TX6 3, w ∈ wsX7_tear := by decide +kernel
  have hinX7 : ∀ w ∈ u_ws RX7 TX7 11, w ∈ wsX7_tear := by decide +kernel
  have fl_43 := hts (.fieldLink RX7 43 "DoubleChain" "watched" "LDoubleChain$Watched;") (by decide +kernel)
  have fl_50 := hts (.fieldLink RX7 50 "DoubleChain" "book" "LDoubleChain$Book;") (by decide +kernel)
  have fl_100 := hts (.fieldLink RX7 100 "DoubleChain$Watched" "count" "I") (by decide +kernel)
  have fl_103 := hts (.fieldLink RX7 103 "DoubleChain$Book" "count" "I") (by decide +kernel)
  clear B
  show W p l e xrm_X7_tear s m args below meth c s.heap [] 0 0 Q (F0 m 0 ls [])
  unfold wp_X7_tear at hw
  refine lv_aload_n hx hb dX7_tear_0 rfl (lv_at hl 0 rfl) ?_
  refine va_get (D := D) (ci := 7) (v := .ref a_watched) (C := RX7) (T := TX7) (N := 11) hx hb hts hinX7 hown hKK.1 hP 0 rfl rfl 5 (by decide) fl_43 (fun _ h9 => h9) rfl dX7_tear_1 ?_
  refine va_get (D := D) (ci := 6) (v := .int watched_count) (C := RX6) (T := TX6) (N := 3) hx hb hts hinX6 hown hKK.1 hP 1 rfl rfl 2 (by decide) fl_100 (fun _ h9 => h9) rfl dX7_tear_4 ?_
  refine lv_aload_n hx hb dX7_tear_7 rfl (lv_at hl 0 rfl) ?_
  refine va_get (D := D) (ci := 7) (v := .ref a_book) (C := RX7) (T := TX7) (N := 11) hx hb hts hinX7 hown hKK.1 hP 0 rfl rfl 6 (by decide) fl_50 (fun _ h9 => h9) rfl dX7_tear_8 ?_
  refine va_get (D := D) (ci := 0) (v := .int book_count) (C := RX0) (T := TX0) (N := 3) hx hb hts hinX0 hown hKK.1 hP 2 rfl rfl 2 (by decide) fl_103 (fun _ h9 => h9) rfl dX7_tear_11 ?_
  refine lv_iadd hx hb dX7_tear_14 ?_
  refine lv_istore_n (lv' := [(1, .int (watched_count + book_count)), (0, .ref a_this)]) hx hb dX7_tear_15 rfl hl (by decide) rfl (fun ls hl => ?_)
  refine lv_aload_n hx hb dX7_tear_16 rfl (lv_at hl 1 rfl) ?_
  refine va_get (D := D) (ci := 7) (v := .ref a_watched) (C := RX7) (T := TX7) (N := 11) hx hb hts hinX7 hown hKK.1 hP 0 rfl rfl 5 (by decide) fl_43 (fun _ h9 => h9) rfl dX7_tear_17 ?_
  refine lv_iconst (v := 0) hx hb dX7_tear_20 (by decide) ?_
  refine va_put (D := D) (ci := 6) (v := .int 0) (ty := .int) (C := RX6) (T := TX6) (N := 3) hx hb hts hinX6 tyX6 tyX6_ok nmX6 hown hKK.1 hP hD hS 1 rfl rfl 2 (by decide) fl_100 (fun _ h9 => h9) rfl (by decide +kernel) rfl rfl (Nat.le_of_ble_eq_true rfl) dX7_tear_21 (fun H locs hP hD hS => ?_)
  have hP : va_P D vwCl [(a_this, .inr (7, [.ref a_text, .ref a_now, .ref a_past, .ref a_imageZero, .ref a_imageOne, .ref a_watched, .ref a_book, .ref a_goers, .ref a_theCourt, .ref a_draft, .int theSeed])), (a_watched, .inr (6, [.ref a_watched_days, .int watched_outs, .int 0])), (a_book, .inr (0, [.ref a_book_people, .ref a_book_marks, .int book_count]))] H := hP
  have hD : va_D A [(a_this, .inr (7, [.ref a_text, .ref a_now, .ref a_past, .ref a_imageZero, .ref a_imageOne, .ref a_watched, .ref a_book, .ref a_goers, .ref a_theCourt, .ref a_draft, .int theSeed])), (a_watched, .inr (6, [.ref a_watched_days, .int watched_outs, .int 0])), (a_book, .inr (0, [.ref a_book_people, .ref a_book_marks, .int book_count]))] := hD
  refine lv_aload_n hx hb dX7_tear_24 rfl (lv_at hl 1 rfl) ?_
  refine va_get (D := D) (ci := 7) (v := .ref a_book) (C := RX7) (T := TX7) (N := 11) hx hb hts hinX7 hown hKK.1 hP 0 rfl rfl 6 (by decide) fl_50 (fun _ h9 => h9) rfl dX7_tear_25 ?_
  refine lv_iconst (v := 0) hx hb dX7_tear_28 (by decide) ?_
  refine va_put (D := D) (ci := 0) (v := .int 0) (ty := .int) (C := RX0) (T := TX0) (N := 3) hx hb hts hinX0 tyX0 tyX0_ok nmX0 hown hKK.1 hP hD hS 2 rfl rfl 2 (by decide) fl_103 (fun _ h9 => h9) rfl (by decide +kernel) rfl rfl (Nat.le_of_ble_eq_true rfl) dX7_tear_29 (fun H locs hP hD hS => ?_)
  have hP : va_P D vwCl [(a_this, .inr (7, [.ref a_text, .ref a_now, .ref a_past, .ref a_imageZero, .ref a_imageOne, .ref a_watched, .ref a_book, .ref a_goers, .ref a_theCourt, .ref a_draft, .int theSeed])), (a_watched, .inr (6, [.ref a_watched_days, .int watched_outs, .int 0])), (a_book, .inr (0, [.ref a_book_people, .ref a_book_marks, .int 0]))] H := hP
  have hD : va_D A [(a_this, .inr (7, [.ref a_text, .ref a_now, .ref a_past, .ref a_imageZero, .ref a_imageOne, .ref a_watched, .ref a_book, .ref a_goers, .ref a_theCourt, .ref a_draft, .int theSeed])), (a_watched, .inr (6, [.ref a_watched_days, .int watched_outs, .int 0])), (a_book, .inr (0, [.ref a_book_people, .ref a_book_marks, .int 0]))] := hD
  refine lv_iload_n hx hb dX7_tear_32 rfl (lv_at hl 0 rfl) ?_
  rw [hQ]
  exact W.iret (v := (watched_count + book_count)) hx hb hr (fun t ht _ => ⟨⟨(watched_count + book_count), ⟨0, 0⟩, rfl, hw, by rw [ht]; exact hP, hD⟩, hS.F ht⟩) hS.2.2 dX7_tear_33
def wp_X7_judge (book_count : Int32) (book_people : Nat → Int32) (now_people : Int32) (now_marks : Nat → Int32) (book_marks : Nat → Int32) (Φ : Int32 → Prop) : Prop :=
  (wp_X0_firstWrong book_count book_people now_people now_marks book_marks (fun r_8 => (Φ r_8)))
abbrev xrm_X7_judge : Room := { frames := 2, cells := 0, slots := 0, locals := 44 }
set_option maxRecDepth 100000 in
set_option maxHeartbeats 4000000 in
theorem c_X7_judge (l : Launch) (D : va_G) (cI cZ cO : ClassId) {a_text : Nat} {a_now : Nat} {a_past : Nat} {a_imageZero : Nat} {a_imageOne : Nat} {a_watched : Nat} {a_book : Nat} {a_goers : Nat} {a_theCourt : Nat} {a_draft : Nat} {theSeed : Int32} {a_this : Nat} {a_book_people : Nat} {a_book_marks : Nat} {book_count : Int32} {book_people : Nat → Int32} {a_now_marks : Nat} {now_people : Int32} {now_living : Int32} {now_shown : Int32} {now_spent : Int32} {now_days : Int32} {now_marks : Nat → Int32} {book_marks : Nat → Int32} {Φ : Int32 → Prop} (hw : (wp_X7_judge book_count book_people now_people now_marks book_marks Φ)) : Met l yX7_judge wsX7_judge xrm_X7_judge (xPR D cI cZ cO [.ref a_this] [(a_this, .inr (7, [.ref a_text, .ref a_now, .ref a_past, .ref a_imageZero, .ref a_imageOne, .ref a_watched, .ref a_book, .ref a_goers, .ref a_theCourt, .ref a_draft, .int theSeed])), (a_book, .inr (0, [.ref a_book_people, .ref a_book_marks, .int book_count])), (a_book_people, .inl (cI, 15, .inl book_people)), (a_now, .inr (1, [.ref a_now_marks, .int now_people, .int now_living, .int now_shown, .int now_spent, .int now_days])), (a_now_marks, .inl (cI, 8, .inl now_marks)), (a_book_marks, .inl (cI, 15, .inl book_marks))]) (vp_Si Φ) 0 0 (fun _ => False) := by
  refine Met.ofW (cc := cX7_judge) (maxL := 1) (ret := (some .int)) (by decide) rfl ?_
  intro p e s m args below meth c s₁ B hml hv
  obtain ⟨rfl, hP, hKK⟩ := hv
  have hx := B.exec
  have hb := B.bytes
  have hr := B.returns
  have hts := atoms_spec (ws := wsX7_judge) B.pre
  have hown : s.vm.findClass RX7 = some m.cls := findClass_of_methodNamed B.named
  have hlocks := B.notSynchronized
  obtain ⟨Q, hQ⟩ : ∃ Q, Q = MQ below (vp_Si Φ) ([.ref a_this] : List Value).toArray s 0 0 (fun _ => False) := ⟨_, rfl⟩
  rw [← hQ]
  have hl := lv_entry ([.ref a_this]) (n := 1) (Nat.le_of_ble_eq_true rfl)
  rw [lg_entry_eq]
  generalize (lg_sl ([.ref a_this]) ++ List.replicate (1 - (lg_sl ([.ref a_this])).length) Slot.unset).toArray = ls at hl ⊢
  have hl : lv_has ls 1 [(0, .ref a_this)] := hl
  generalize ([.ref a_this] : List Value).toArray = args at hts hQ ⊢
  have hP : va_P D vwCl [(a_this, .inr (7, [.ref a_text, .ref a_now, .ref a_past, .ref a_imageZero, .ref a_imageOne, .ref a_watched, .ref a_book, .ref a_goers, .ref a_theCourt, .ref a_draft, .int theSeed])), (a_book, .inr (0, [.ref a_book_people, .ref a_book_marks, .int book_count])), (a_book_people, .inl (cI, 15, .inl book_people)), (a_now, .inr (1, [.ref a_now_marks, .int now_people, .int now_living, .int now_shown, .int now_spent, .int now_days])), (a_now_marks, .inl (cI, 8, .inl now_marks)), (a_book_marks, .inl (cI, 15, .inl book_marks))] s.heap := hP
  have hinX7 : ∀ w ∈ u_ws RX7 TX7 11, w ∈ wsX7_judge := by decide +kernel
  have fl_19 := hts (.fieldLink RX7 19 "DoubleChain" "now" "LDoubleChain$Chain;") (by decide +kernel)
  have fl_50 := hts (.fieldLink RX7 50 "DoubleChain" "book" "LDoubleChain$Book;") (by decide +kernel)
  clear B
  show W p l e xrm_X7_judge s m args below meth c s.heap [] 0 0 Q (F0 m 0 ls [])
  unfold wp_X7_judge at hw
  refine lv_aload_n hx hb dX7_judge_0 rfl (lv_at hl 0 rfl) ?_
  refine va_get (D := D) (ci := 7) (v := .ref a_book) (C := RX7) (T := TX7) (N := 11) hx hb hts hinX7 hown hKK.1 hP 0 rfl rfl 6 (by decide) fl_50 (fun _ h9 => h9) rfl dX7_judge_1 ?_
  refine lv_aload_n hx hb dX7_judge_4 rfl (lv_at hl 0 rfl) ?_
  refine va_get (D := D) (ci := 7) (v := .ref a_now) (C := RX7) (T := TX7) (N := 11) hx hb hts hinX7 hown hKK.1 hP 0 rfl rfl 1 (by decide) fl_19 (fun _ h9 => h9) rfl dX7_judge_5 ?_
  refine xcVi (q0 := 1) (ci := 0) (As := [.ref a_now]) (rest := []) (wc := [(a_book, .inr (0, [.ref a_book_people, .ref a_book_marks, .int book_count])), (a_book_people, .inl (cI, 15, .inl book_people)), (a_now, .inr (1, [.ref a_now_marks, .int now_people, .int now_living, .int now_shown, .int now_spent, .int now_days])), (a_now_marks, .inl (cI, 8, .inl now_marks)), (a_book_marks, .inl (cI, 15, .inl book_marks))]) ⟨hx, hb, hml, hown, hts⟩ (c_X0_firstWrong l D cI cZ cO hw) (cwV 1 hts gX7_judge_X0_firstWrong rfl rfl rfl (by decide +kernel) ⟨Nat.le_of_ble_eq_true rfl, Nat.le_of_ble_eq_true rfl⟩) hKK hP [1, 2, 3, 4, 5] rfl rfl rfl rfl hl.1 rfl (Nat.le_of_ble_eq_true rfl) dX7_judge_8 ⟨Nat.zero_le _, Nat.zero_le _⟩ (fun r_8 hw => ?_)
  rw [hQ]
  exact W.iret (v := r_8) hx hb hr (fun t ht _ => ⟨r_8, rfl, hw, ht⟩) (fun _ h => (List.not_mem_nil h).elim) dX7_judge_11
def wp_X7_seed (theSeed : Int32) (p1 : Int32) (Φ : Int32 → Int32 → Prop) : Prop :=
  ((0 ≤ p1 → (Φ theSeed p1)) ∧ (¬ 0 ≤ p1 → (Φ (-1000000002) theSeed)))
abbrev xrm_X7_seed : Room := { frames := 0, cells := 0, slots := 0, locals := 0 }
set_option maxRecDepth 100000 in
set_option maxHeartbeats 4000000 in
theorem c_X7_seed (l : Launch) (D : va_G) (cI cZ cO : ClassId) {a_text : Nat} {a_now : Nat} {a_past : Nat} {a_imageZero : Nat} {a_imageOne : Nat} {a_watched : Nat} {a_book : Nat} {a_goers : Nat} {a_theCourt : Nat} {a_draft : Nat} {theSeed : Int32} {a_this : Nat} {p1 : Int32} {Φ : Int32 → Int32 → Prop} {sz : Nat} (hw : (wp_X7_seed theSeed p1 Φ)) : Met l yX7_seed wsX7_seed xrm_X7_seed (xPW D cI cZ cO [.ref a_this, .int p1] sz [(a_this, .inr (7, [.ref a_text, .ref a_now, .ref a_past, .ref a_imageZero, .ref a_imageOne, .ref a_watched, .ref a_book, .ref a_goers, .ref a_theCourt, .ref a_draft, .int theSeed]))]) (va_Qi (fun (r : Int32) (u : Int32) => Φ r u) (xB D (va_A [(a_this, .inr (7, [.ref a_text, .ref a_now, .ref a_past, .ref a_imageZero, .ref a_imageOne, .ref a_watched, .ref a_book, .ref a_goers, .ref a_theCourt, .ref a_draft, .int theSeed]))] sz) (fun (u : Int32) => [(a_this, .inr (7, [.ref a_text, .ref a_now, .ref a_past, .ref a_imageZero, .ref a_imageOne, .ref a_watched, .ref a_book, .ref a_goers, .ref a_theCourt, .ref a_draft, .int u]))])) (va_A [(a_this, .inr (7, [.ref a_text, .ref a_now, .ref a_past, .ref a_imageZero, .ref a_imageOne, .ref a_watched, .ref a_book, .ref a_goers, .ref a_theCourt, .ref a_draft, .int theSeed]))] sz)) 0 0 (va_A [(a_this, .inr (7, [.ref a_text, .ref a_now, .ref a_past, .ref a_imageZero, .ref a_imageOne, .ref a_watched, .ref a_book, .ref a_goers, .ref a_theCourt, .ref a_draft, .int theSeed]))] sz) := by
  refine Met.ofW (cc := cX7_seed) (maxL := 3) (ret := (some .int)) (by decide) rfl ?_
  intro p e s m args below meth c s₁ B hml hv
  obtain ⟨rfl, hsz, hP, hKK, hD0⟩ := hv
  have hx := B.exec
  have hb := B.bytes
  have hr := B.returns
  have hts := atoms_spec (ws := wsX7_seed) B.pre
  have hown : s.vm.findClass RX7 = some m.cls := findClass_of_methodNamed B.named
  have hlocks := B.notSynchronized
  subst hsz
  have hD := hD0.self (sz := s.heap.size)
  obtain ⟨Q, hQ⟩ : ∃ Q, Q = MQ below (va_Qi (fun (r : Int32) (u : Int32) => Φ r u) (xB D (va_A [(a_this, .inr (7, [.ref a_text, .ref a_now, .ref a_past, .ref a_imageZero, .ref a_imageOne, .ref a_watched, .ref a_book, .ref a_goers, .ref a_theCourt, .ref a_draft, .int theSeed]))] s.heap.size) (fun (u : Int32) => [(a_this, .inr (7, [.ref a_text, .ref a_now, .ref a_past, .ref a_imageZero, .ref a_imageOne, .ref a_watched, .ref a_book, .ref a_goers, .ref a_theCourt, .ref a_draft, .int u]))])) (va_A [(a_this, .inr (7, [.ref a_text, .ref a_now, .ref a_past, .ref a_imageZero, .ref a_imageOne, .ref a_watched, .ref a_book, .ref a_goers, .ref a_theCourt, .ref a_draft, .int theSeed]))] s.heap.size)) ([.ref a_this, .int p1] : List Value).toArray s 0 0 (va_A [(a_this, .inr (7, [.ref a_text, .ref a_now, .ref a_past, .ref a_imageZero, .ref a_imageOne, .ref a_watched, .ref a_book, .ref a_goers, .ref a_theCourt, .ref a_draft, .int theSeed]))] s.heap.size) := ⟨_, rfl⟩
  rw [← hQ]
  generalize hAe : va_A [(a_this, .inr (7, [.ref a_text, .ref a_now, .ref a_past, .ref a_imageZero, .ref a_imageOne, .ref a_watched, .ref a_book, .ref a_goers, .ref a_theCourt, .ref a_draft, .int theSeed]))] s.heap.size = A at hD hQ
  have hA : ∀ q : Nat, s.heap.size ≤ q → A q := fun q h => by rw [← hAe]; exact Or.inr h
  have hS : va_S A s.heap s.heap [] := va_S.rf
  have hl := lv_entry ([.ref a_this, .int p1]) (n := 3) (Nat.le_of_ble_eq_true rfl)
  rw [lg_entry_eq]
  generalize (lg_sl ([.ref a_this, .int p1]) ++ List.replicate (3 - (lg_sl ([.ref a_this, .int p1])).length) Slot.unset).toArray = ls at hl ⊢
  have hl : lv_has ls 3 [(0, .ref a_this), (1, .int p1)] := hl
  generalize ([.ref a_this, .int p1] : List Value).toArray = args at hts hQ ⊢
  have hP : va_P D vwCl [(a_this, .inr (7, [.ref a_text, .ref a_now, .ref a_past, .ref a_imageZero, .ref a_imageOne, .ref a_watched, .ref a_book, .ref a_goers, .ref a_theCourt, .ref a_draft, .int theSeed]))] s.heap := hP
  have hinX7 : ∀ w ∈ u_ws RX7 TX7 11, w ∈ wsX7_seed := by decide +kernel
  have fl_68 := hts (.fieldLink RX7 68 "DoubleChain" "theSeed" "I") (by decide +kernel)
  clear B
  show W p l e xrm_X7_seed s m args below meth c s.heap [] 0 0 Q (F0 m 0 ls [])
  unfold wp_X7_seed at hw
  refine lv_iload_n hx hb dX7_seed_0 rfl (lv_at hl 1 rfl) ?_
  refine lv_if_ge (tgt := 7) hx hb dX7_seed_1 (by decide) (fun c_1 => ?_) (fun c_1 => ?_)
  · have hw := hw.1 c_1
    refine lv_aload_n hx hb dX7_seed_7 rfl (lv_at hl 0 rfl) ?_
    refine va_get (D := D) (ci := 7) (v := .int theSeed) (C := RX7) (T := TX7) (N := 11) hx hb hts hinX7 hown hKK.1 hP 0 rfl rfl 10 (by decide) fl_68 (fun _ h9 => h9) rfl dX7_seed_8 ?_
    refine lv_istore_n (lv' := [(2, .int theSeed), (0, .ref a_this), (1, .int p1)]) hx hb dX7_seed_11 rfl hl (by decide) rfl (fun ls hl => ?_)
    refine lv_aload_n hx hb dX7_seed_12 rfl (lv_at hl 1 rfl) ?_
    refine lv_iload_n hx hb dX7_seed_13 rfl (lv_at hl 2 rfl) ?_
    refine va_put (D := D) (ci := 7) (v := .int p1) (ty := .int) (C := RX7) (T := TX7) (N := 11) hx hb hts hinX7 tyX7 tyX7_ok nmX7 hown hKK.1 hP hD hS 0 rfl rfl 10 (by decide) fl_68 (fun _ h9 => h9) rfl (by decide +kernel) rfl rfl (Nat.le_of_ble_eq_true rfl) dX7_seed_14 (fun H locs hP hD hS => ?_)
    have hP : va_P D vwCl [(a_this, .inr (7, [.ref a_text, .ref a_now, .ref a_past, .ref a_imageZero, .ref a_imageOne, .ref a_watched, .ref a_book, .ref a_goers, .ref a_theCourt, .ref a_draft, .int p1]))] H := hP
    have hD : va_D A [(a_this, .inr (7, [.ref a_text, .ref a_now, .ref a_past, .ref a_imageZero, .ref a_imageOne, .ref a_watched, .ref a_book, .ref a_goers, .ref a_theCourt, .ref a_draft, .int p1]))] := hD
    refine lv_iload_n hx hb dX7_seed_17 rfl (lv_at hl 0 rfl) ?_
    rw [hQ]
    exact W.iret (v := theSeed) hx hb hr (fun t ht _ => ⟨⟨theSeed, p1, rfl, hw, by rw [ht]; exact hP, hD⟩, hS.F ht⟩) hS.2.2 dX7_seed_18
  · have hw := hw.2 c_1
    refine lv_ldc (v := (-1000000002)) hx hb hown (hts (.constant RX7 76 (-1000000002)) (by decide +kernel)) dX7_seed_4 ?_
    rw [hQ]
    exact W.iret (v := (-1000000002)) hx hb hr (fun t ht _ => ⟨⟨(-1000000002), theSeed, rfl, hw, by rw [ht]; exact hP, hD⟩, hS.F ht⟩) hS.2.2 dX7_seed_6
def wp_X7_imageAt (p1 : Int32) (Φ : Nat → Prop) : Prop :=
  ((p1 = 0 → (Φ 0)) ∧ (¬ p1 = 0 → ((p1 = 1 → (Φ 1)) ∧ (¬ p1 = 1 → (Φ 2)))))
abbrev xrm_X7_imageAt : Room := { frames := 0, cells := 0, slots := 0, locals := 0 }
set_option maxRecDepth 100000 in
set_option maxHeartbeats 4000000 in
theorem c_X7_imageAt (l : Launch) (D : va_G) (cI cZ cO : ClassId) {a_text : Nat} {a_now : Nat} {a_past : Nat} {a_imageZero : Nat} {a_imageOne : Nat} {a_watched : Nat} {a_book : Nat} {a_goers : Nat} {a_theCourt : Nat} {a_draft : Nat} {theSeed : Int32} {a_this : Nat} {p1 : Int32} {Φ : Nat → Prop} (hw : (wp_X7_imageAt p1 Φ)) : Met l yX7_imageAt wsX7_imageAt xrm_X7_imageAt (xPR D cI cZ cO [.ref a_this, .int p1] [(a_this, .inr (7, [.ref a_text, .ref a_now, .ref a_past, .ref a_imageZero, .ref a_imageOne, .ref a_watched, .ref a_book, .ref a_goers, .ref a_theCourt, .ref a_draft, .int theSeed]))]) (va_Sr (fun k => (k = 0 ∧ Φ 0) ∨ (k = 1 ∧ Φ 1) ∨ (k = 2 ∧ Φ 2)) (x_ad a_imageZero a_imageOne)) 0 0 (fun _ => False) := by
  refine Met.ofW (cc := cX7_imageAt) (maxL := 2) (ret := (some (.object "DoubleChain$Image"))) (by decide) rfl ?_
  intro p e s m args below meth c s₁ B hml hv
  obtain ⟨rfl, hP, hKK⟩ := hv
  have hx := B.exec
  have hb := B.bytes
  have hr := B.returns
  have hts := atoms_spec (ws := wsX7_imageAt) B.pre
  have hown : s.vm.findClass RX7 = some m.cls := findClass_of_methodNamed B.named
  have hlocks := B.notSynchronized
  obtain ⟨Q, hQ⟩ : ∃ Q, Q = MQ below (va_Sr (fun k => (k = 0 ∧ Φ 0) ∨ (k = 1 ∧ Φ 1) ∨ (k = 2 ∧ Φ 2)) (x_ad a_imageZero a_imageOne)) ([.ref a_this, .int p1] : List Value).toArray s 0 0 (fun _ => False) := ⟨_, rfl⟩
  rw [← hQ]
  have hl := lv_entry ([.ref a_this, .int p1]) (n := 2) (Nat.le_of_ble_eq_true rfl)
  rw [lg_entry_eq]
  generalize (lg_sl ([.ref a_this, .int p1]) ++ List.replicate (2 - (lg_sl ([.ref a_this, .int p1])).length) Slot.unset).toArray = ls at hl ⊢
  have hl : lv_has ls 2 [(0, .ref a_this), (1, .int p1)] := hl
  generalize ([.ref a_this, .int p1] : List Value).toArray = args at hts hQ ⊢
  have hP : va_P D vwCl [(a_this, .inr (7, [.ref a_text, .ref a_now, .ref a_past, .ref a_imageZero, .ref a_imageOne, .ref a_watched, .ref a_book, .ref a_goers, .ref a_theCourt, .ref a_draft, .int theSeed]))] s.heap := hP
  have hinX7 : ∀ w ∈ u_ws RX7 TX7 11, w ∈ wsX7_imageAt := by decide +kernel
  have fl_33 := hts (.fieldLink RX7 33 "DoubleChain" "imageZero" "LDoubleChain$Image;") (by decide +kernel)
  have fl_37 := hts (.fieldLink RX7 37 "DoubleChain" "imageOne" "LDoubleChain$Image;") (by decide +kernel)
  clear B
  show W p l e xrm_X7_imageAt s m args below meth c s.heap [] 0 0 Q (F0 m 0 ls [])
  unfold wp_X7_imageAt at hw
  refine lv_iload_n hx hb dX7_imageAt_0 rfl (lv_at hl 1 rfl) ?_
  refine lv_if_ne (tgt := 9) hx hb dX7_imageAt_1 (by decide) (fun c_1 => ?_) (fun c_1 => ?_)
  · have hw := hw.2 c_1
    refine lv_iload_n hx hb dX7_imageAt_9 rfl (lv_at hl 1 rfl) ?_
    refine lv_iconst (v := 1) hx hb dX7_imageAt_10 (by decide) ?_
    refine lv_icmp_ne (tgt := 21) hx hb dX7_imageAt_11 (by decide) (fun c_11 => ?_) (fun c_11 => ?_)
    · have hw := hw.2 c_11
      refine lv_null hx hb dX7_imageAt_21 ?_
      rw [hQ]
      exact W.aret (v := .null) hx hb hr (Or.inl ⟨_, rfl⟩) (Or.inl rfl) (fun t ht _ => ⟨2, rfl, Or.inr (Or.inr ⟨rfl, hw⟩), ht⟩) (fun _ h => (List.not_mem_nil h).elim) dX7_imageAt_22
    · have hw := hw.1 c_11
      refine lv_aload_n hx hb dX7_imageAt_14 rfl (lv_at hl 0 rfl) ?_
      refine va_get (D := D) (ci := 7) (v := .ref a_imageOne) (C := RX7) (T := TX7) (N := 11) hx hb hts hinX7 hown hKK.1 hP 0 rfl rfl 4 (by decide) fl_37 (fun _ h9 => h9) rfl dX7_imageAt_15 ?_
      refine lv_goto (tgt := 22) hx hb dX7_imageAt_18 (by decide) ?_
      rw [hQ]
      exact W.aret (v := .ref a_imageOne) hx hb hr (Or.inl ⟨_, rfl⟩) (Or.inr ⟨_, rfl⟩) (fun t ht _ => ⟨1, rfl, Or.inr (Or.inl ⟨rfl, hw⟩), ht⟩) (fun _ h => (List.not_mem_nil h).elim) dX7_imageAt_22
  · have hw := hw.1 c_1
    refine lv_aload_n hx hb dX7_imageAt_4 rfl (lv_at hl 0 rfl) ?_
    refine va_get (D := D) (ci := 7) (v := .ref a_imageZero) (C := RX7) (T := TX7) (N := 11) hx hb hts hinX7 hown hKK.1 hP 0 rfl rfl 3 (by decide) fl_33 (fun _ h9 => h9) rfl dX7_imageAt_5 ?_
    rw [hQ]
    exact W.aret (v := .ref a_imageZero) hx hb hr (Or.inl ⟨_, rfl⟩) (Or.inr ⟨_, rfl⟩) (fun t ht _ => ⟨0, rfl, Or.inl ⟨rfl, hw⟩, ht⟩) (fun _ h => (List.not_mem_nil h).elim) dX7_imageAt_8
