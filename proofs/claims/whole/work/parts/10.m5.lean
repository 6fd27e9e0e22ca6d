def wk_X8_tell_16 (Φ : Int32 → Prop) (x2_16 : Int32) (x3_16 : Int32) : Prop :=
  (Φ x2_16)
def wj_X8_tell_43 (now : Nat → Int32) (p1 : Int32) (x2_16 : Int32) (x3_16 : Int32) (rec_16 : Int32 → Int32 → Prop) (s0_43 : Int32) : Prop :=
  ((s0_43 = 0 → (rec_16 x2_16 (x3_16 + 1))) ∧ (¬ s0_43 = 0 → (wp_X8_areTold now x3_16 p1 (fun r_53 => ((r_53 = 0 → (rec_16 x2_16 (x3_16 + 1))) ∧ (¬ r_53 = 0 → (rec_16 x3_16 (x3_16 + 1))))))))
def wj_X8_tell_38 (now : Nat → Int32) (p1 : Int32) (x2_16 : Int32) (x3_16 : Int32) (rec_16 : Int32 → Int32 → Prop) : Prop :=
  (wj_X8_tell_43 now p1 x2_16 x3_16 rec_16 1)
def wb_X8_tell_16 (now : Nat → Int32) (p1 : Int32) (K_16 : Int32 → Int32 → Prop) (rec_16 : Int32 → Int32 → Prop) (x2_16 : Int32) (x3_16 : Int32) : Prop :=
  ((255 < x3_16 → (K_16 x2_16 x3_16)) ∧ (¬ 255 < x3_16 → ((x2_16 < 0 → (wj_X8_tell_38 now p1 x2_16 x3_16 rec_16)) ∧ (¬ x2_16 < 0 → (wp_X8_bits x3_16 (fun r_28 => (wp_X8_bits x2_16 (fun r_32 => ((r_32 ≤ r_28 → (wj_X8_tell_43 now p1 x2_16 x3_16 rec_16 0)) ∧ (¬ r_32 ≤ r_28 → (wj_X8_tell_38 now p1 x2_16 x3_16 rec_16)))))))))))
def wp_X8_tell (now : Nat → Int32) (p1 : Int32) (Φ : Int32 → Prop) : Prop :=
  (((now 9) = 0 → (Φ (-1))) ∧ (¬ (now 9) = 0 → (∃ n : Nat, xit2 (wb_X8_tell_16 now p1 (wk_X8_tell_16 Φ)) n (-1) 0)))
abbrev xrm_X8_tell : Room := { frames := 3, cells := 0, slots := 0, locals := 69 }
set_option maxRecDepth 100000 in
set_option maxHeartbeats 4000000 in
theorem c_X8_tell (l : Launch) (D : va_G) (cI cZ cO : ClassId) {pay : Int32} {a_weathers : Nat} {a_hours : Nat} {a_fear : Nat} {days : Int32} {a_dayWeather : Nat} {a_dayHour : Nat} {a_dayDanger : Nat} {a_now : Nat} {seed : Int32} {a_text : Nat} {texted : Int32} {faultPlace : Int32} {at0 : Int32} {number : Int32} {numberAt : Int32} {a_readPay : Nat} {readPersons : Int32} {a_readMarks : Nat} {a_readWeathers : Nat} {a_readHours : Nat} {a_readFear : Nat} {readDays : Int32} {a_readWeather : Nat} {a_readHour : Nat} {a_readDanger : Nat} {undos : Int32} {a_past : Nat} {a_morning : Nat} {a_sent : Nat} {watched : Int32} {a_watchedDay : Nat} {a_watchedOut : Nat} {booked : Int32} {a_bookWho : Nat} {a_bookMarks : Nat} {a_images : Nat} {a_isKept : Nat} {a_this : Nat} {now : Nat → Int32} {p1 : Int32} {Φ : Int32 → Prop} (hw : (wp_X8_tell now p1 Φ)) : Met l yX8_tell wsX8_tell xrm_X8_tell (xPR D cI cZ cO [.ref a_this, .int p1] [(a_this, .inr (8, [.int pay, .ref a_weathers, .ref a_hours, .ref a_fear, .int days, .ref a_dayWeather, .ref a_dayHour, .ref a_dayDanger, .ref a_now, .int seed, .ref a_text, .int texted, .int faultPlace, .int at0, .int number, .int numberAt, .ref a_readPay, .int readPersons, .ref a_readMarks, .ref a_readWeathers, .ref a_readHours, .ref a_readFear, .int readDays, .ref a_readWeather, .ref a_readHour, .ref a_readDanger, .int undos, .ref a_past, .ref a_morning, .ref a_sent, .int watched, .ref a_watchedDay, .ref a_watchedOut, .int booked, .ref a_bookWho, .ref a_bookMarks, .ref a_images, .ref a_isKept])), (a_now, .inl (cI, 13, .inl now))]) (vp_Si Φ) 0 0 (fun _ => False) := by
  refine Met.ofW (cc := cX8_tell) (maxL := 5) (ret := (some .int)) (by decide) rfl ?_
  intro p e s m args below meth c s₁ B hml hv
  obtain ⟨rfl, hP, hKK⟩ := hv
  have hx := B.exec
  have hb := B.bytes
  have hr := B.returns
  have hts := atoms_spec (ws := wsX8_tell) B.pre
  have hown : s.vm.findClass RX8 = some m.cls := findClass_of_methodNamed B.named
  have hlocks := B.notSynchronized
  obtain ⟨Q, hQ⟩ : ∃ Q, Q = MQ below (vp_Si Φ) ([.ref a_this, .int p1] : List Value).toArray s 0 0 (fun _ => False) := ⟨_, rfl⟩
  rw [← hQ]
  have hl := lv_entry ([.ref a_this, .int p1]) (n := 5) (Nat.le_of_ble_eq_true rfl)
  rw [lg_entry_eq]
  generalize (lg_sl ([.ref a_this, .int p1]) ++ List.replicate (5 - (lg_sl ([.ref a_this, .int p1])).length) Slot.unset).toArray = ls at hl ⊢
  have hl : lv_has ls 5 [(0, .ref a_this), (1, .int p1)] := hl
  generalize ([.ref a_this, .int p1] : List Value).toArray = args at hts hQ ⊢
  have hP : va_P D vwCl [(a_this, .inr (8, [.int pay, .ref a_weathers, .ref a_hours, .ref a_fear, .int days, .ref a_dayWeather, .ref a_dayHour, .ref a_dayDanger, .ref a_now, .int seed, .ref a_text, .int texted, .int faultPlace, .int at0, .int number, .int numberAt, .ref a_readPay, .int readPersons, .ref a_readMarks, .ref a_readWeathers, .ref a_readHours, .ref a_readFear, .int readDays, .ref a_readWeather, .ref a_readHour, .ref a_readDanger, .int undos, .ref a_past, .ref a_morning, .ref a_sent, .int watched, .ref a_watchedDay, .ref a_watchedOut, .int booked, .ref a_bookWho, .ref a_bookMarks, .ref a_images, .ref a_isKept])), (a_now, .inl (cI, 13, .inl now))] s.heap := hP
  have hinX8 : ∀ w ∈ u_ws RX8 TX8 38, w ∈ wsX8_tell := by decide +kernel
  have fl_28 := hts (.fieldLink RX8 28 "DoubleChainModel" "now" "[I") (by decide +kernel)
  clear B
  show W p l e xrm_X8_tell s m args below meth c s.heap [] 0 0 Q (F0 m 0 ls [])
  unfold wp_X8_tell at hw
  refine lv_aload_n hx hb dX8_tell_0 rfl (lv_at hl 0 rfl) ?_
  refine va_get (D := D) (ci := 8) (v := .ref a_now) (C := RX8) (T := TX8) (N := 38) hx hb hts hinX8 hown hKK.1 hP 0 rfl rfl 8 (by decide) fl_28 (fun _ h9 => h9) rfl dX8_tell_1 ?_
  refine lv_bipush (v := 9) hx hb dX8_tell_4 (by decide) ?_
  refine x_iald 9 (by decide) (Nat.le_of_ble_eq_true rfl) hx hb hKK.1 hP 1 0 rfl rfl dX8_tell_6 ?_
  refine lv_if_ne (tgt := 12) hx hb dX8_tell_7 (by decide) (fun c_7 => ?_) (fun c_7 => ?_)
  · have hw := hw.2 c_7
    refine lv_iconst (v := (-1)) hx hb dX8_tell_12 (by decide) ?_
    refine lv_istore_n (lv' := [(2, .int (-1)), (0, .ref a_this), (1, .int p1)]) hx hb dX8_tell_13 rfl hl (by decide) rfl (fun ls hl => ?_)
    refine lv_iconst (v := 0) hx hb dX8_tell_14 (by decide) ?_
    refine lv_istore_n (lv' := [(3, .int 0), (2, .int (-1)), (0, .ref a_this), (1, .int p1)]) hx hb dX8_tell_15 rfl hl (by decide) rfl (fun ls hl => ?_)
    have EX_16 : ∀ (x2_16 : Int32) (x3_16 : Int32), ∀ (ls : Array Slot), lv_has ls 5 [(0, .ref a_this), (1, .int p1), (2, .int x2_16), (3, .int x3_16)] → (wk_X8_tell_16 Φ x2_16 x3_16) → W p l e xrm_X8_tell s m args below meth c s.heap [] 0 0 Q (F0 m 71 ls []) := by
      intro x2_16 x3_16 ls hl hw
      unfold wk_X8_tell_16 at hw
      refine lv_iload_n hx hb dX8_tell_71 rfl (lv_at hl 2 rfl) ?_
      rw [hQ]
      exact W.iret (v := x2_16) hx hb hr (fun t ht _ => ⟨x2_16, rfl, hw, ht⟩) (fun _ h => (List.not_mem_nil h).elim) dX8_tell_72
    generalize (wk_X8_tell_16 Φ) = K_16 at EX_16 hw
    have LP_16 : ∀ n : Nat, ∀ (x2_16 : Int32) (x3_16 : Int32), ∀ (ls : Array Slot), lv_has ls 5 [(0, .ref a_this), (1, .int p1), (2, .int x2_16), (3, .int x3_16)] → xit2 (wb_X8_tell_16 now p1 K_16) n x2_16 x3_16 → W p l e xrm_X8_tell s m args below meth c s.heap [] 0 0 Q (F0 m 16 ls []) := by
      intro n
      induction n with
      | zero => intro x2_16 x3_16 ls hl hw; exact (show False from hw).elim
      | succ n ih =>
        intro x2_16 x3_16 ls hl hw
        have hw : wb_X8_tell_16 now p1 K_16 (xit2 (wb_X8_tell_16 now p1 K_16) n) x2_16 x3_16 := hw
        generalize xit2 (wb_X8_tell_16 now p1 K_16) n = rec_16 at ih hw
        unfold wb_X8_tell_16 at hw
        have JN_43 : ∀ (s0_43 : Int32), ∀ (ls : Array Slot), lv_has ls 5 [(0, .ref a_this), (1, .int p1), (2, .int x2_16), (3, .int x3_16)] → (wj_X8_tell_43 now p1 x2_16 x3_16 rec_16 s0_43) → W p l e xrm_X8_tell s m args below meth c s.heap [] 0 0 Q (F0 m 43 ls [.int s0_43]) := by
          intro s0_43 ls hl hw
          unfold wj_X8_tell_43 at hw
          refine lv_istore (lv' := [(4, .int s0_43), (0, .ref a_this), (1, .int p1), (2, .int x2_16), (3, .int x3_16)]) hx hb dX8_tell_43 hl (by decide) rfl (fun ls hl => ?_)
          refine lv_iload hx hb dX8_tell_45 (lv_at hl 0 rfl) ?_
          refine lv_if_eq (tgt := 63) hx hb dX8_tell_47 (by decide) (fun c_47 => ?_) (fun c_47 => ?_)
          · have hw := hw.1 c_47
            refine lv_iload_n hx hb dX8_tell_63 rfl (lv_at hl 3 rfl) ?_
            refine lv_istore_n (lv' := [(2, .int x2_16), (4, .int s0_43), (0, .ref a_this), (1, .int p1), (3, .int x3_16)]) hx hb dX8_tell_64 rfl hl (by decide) rfl (fun ls hl => ?_)
            refine lv_iinc (v := (x3_16 + 1)) (lv' := [(3, .int (x3_16 + 1)), (2, .int x2_16), (4, .int s0_43), (0, .ref a_this), (1, .int p1)]) hx hb dX8_tell_65 hl (k := 4) rfl (by rfl) (by decide) rfl (fun ls hl => ?_)
            refine lv_goto (tgt := 16) hx hb dX8_tell_68 (by decide) ?_
            exact ih _ _ ls (lv_sub hl [3, 4, 1, 0] rfl) hw
          · have hw := hw.2 c_47
            refine lv_aload_n hx hb dX8_tell_50 rfl (lv_at hl 1 rfl) ?_
            refine lv_iload_n hx hb dX8_tell_51 rfl (lv_at hl 4 rfl) ?_
            refine lv_iload_n hx hb dX8_tell_52 rfl (lv_at hl 2 rfl) ?_
            refine xcVi (q0 := 0) (ci := 8) (As := [.int x3_16, .int p1]) (rest := []) (wc := [(a_this, .inr (8, [.int pay, .ref a_weathers, .ref a_hours, .ref a_fear, .int days, .ref a_dayWeather, .ref a_dayHour, .ref a_dayDanger, .ref a_now, .int seed, .ref a_text, .int texted, .int faultPlace, .int at0, .int number, .int numberAt, .ref a_readPay, .int readPersons, .ref a_readMarks, .ref a_readWeathers, .ref a_readHours, .ref a_readFear, .int readDays, .ref a_readWeather, .ref a_readHour, .ref a_readDanger, .int undos, .ref a_past, .ref a_morning, .ref a_sent, .int watched, .ref a_watchedDay, .ref a_watchedOut, .int booked, .ref a_bookWho, .ref a_bookMarks, .ref a_images, .ref a_isKept])), (a_now, .inl (cI, 13, .inl now))]) ⟨hx, hb, hml, hown, hts⟩ (c_X8_areTold l D cI cZ cO hw) (cwV 2 hts gX8_tell_X8_areTold rfl rfl rfl (by decide +kernel) ⟨Nat.le_of_ble_eq_true rfl, Nat.le_of_ble_eq_true rfl⟩) hKK hP [0, 1] rfl rfl rfl rfl hl.1 rfl (Nat.le_of_ble_eq_true rfl) dX8_tell_53 ⟨Nat.zero_le _, Nat.zero_le _⟩ (fun r_53 hw => ?_)
            refine lv_if_eq (tgt := 63) hx hb dX8_tell_56 (by decide) (fun c_56 => ?_) (fun c_56 => ?_)
            · have hw := hw.1 c_56
              refine lv_iload_n hx hb dX8_tell_63 rfl (lv_at hl 3 rfl) ?_
              refine lv_istore_n (lv' := [(2, .int x2_16), (4, .int s0_43), (0, .ref a_this), (1, .int p1), (3, .int x3_16)]) hx hb dX8_tell_64 rfl hl (by decide) rfl (fun ls hl => ?_)
              refine lv_iinc (v := (x3_16 + 1)) (lv' := [(3, .int (x3_16 + 1)), (2, .int x2_16), (4, .int s0_43), (0, .ref a_this), (1, .int p1)]) hx hb dX8_tell_65 hl (k := 4) rfl (by rfl) (by decide) rfl (fun ls hl => ?_)
              refine lv_goto (tgt := 16) hx hb dX8_tell_68 (by decide) ?_
              exact ih _ _ ls (lv_sub hl [3, 4, 1, 0] rfl) hw
            · have hw := hw.2 c_56
              refine lv_iload_n hx hb dX8_tell_59 rfl (lv_at hl 4 rfl) ?_
              refine lv_goto (tgt := 64) hx hb dX8_tell_60 (by decide) ?_
              refine lv_istore_n (lv' := [(2, .int x3_16), (4, .int s0_43), (0, .ref a_this), (1, .int p1), (3, .int x3_16)]) hx hb dX8_tell_64 rfl hl (by decide) rfl (fun ls hl => ?_)
              refine lv_iinc (v := (x3_16 + 1)) (lv' := [(3, .int (x3_16 + 1)), (2, .int x3_16), (4, .int s0_43), (0, .ref a_this), (1, .int p1)]) hx hb dX8_tell_65 hl (k := 4) rfl (by rfl) (by decide) rfl (fun ls hl => ?_)
              refine lv_goto (tgt := 16) hx hb dX8_tell_68 (by decide) ?_
              exact ih _ _ ls (lv_sub hl [3, 4, 1, 0] rfl) hw
        have JN_38 : ∀ (ls : Array Slot), lv_has ls 5 [(0, .ref a_this), (1, .int p1), (2, .int x2_16), (3, .int x3_16)] → (wj_X8_tell_38 now p1 x2_16 x3_16 rec_16) → W p l e xrm_X8_tell s m args below meth c s.heap [] 0 0 Q (F0 m 38 ls []) := by
          intro ls hl hw
          unfold wj_X8_tell_38 at hw
          refine lv_iconst (v := 1) hx hb dX8_tell_38 (by decide) ?_
          refine lv_goto (tgt := 43) hx hb dX8_tell_39 (by decide) ?_
          exact JN_43 _ ls (lv_sub hl [0, 1, 2, 3] rfl) hw
        refine lv_iload_n hx hb dX8_tell_16 rfl (lv_at hl 3 rfl) ?_
        refine lv_sipush (v := 255) hx hb dX8_tell_17 (by decide) ?_
        refine lv_icmp_gt (tgt := 71) hx hb dX8_tell_20 (by decide) (fun c_20 => ?_) (fun c_20 => ?_)
        · have hw := hw.1 c_20
          exact EX_16 _ _ ls (lv_sub hl [0, 1, 2, 3] rfl) hw
        · have hw := hw.2 c_20
          refine lv_iload_n hx hb dX8_tell_23 rfl (lv_at hl 2 rfl) ?_
          refine lv_if_lt (tgt := 38) hx hb dX8_tell_24 (by decide) (fun c_24 => ?_) (fun c_24 => ?_)
          · have hw := hw.1 c_24
            exact JN_38 ls (lv_sub hl [0, 1, 2, 3] rfl) hw
          · have hw := hw.2 c_24
            refine lv_iload_n hx hb dX8_tell_27 rfl (lv_at hl 3 rfl) ?_
            refine xcSi (As := [.int x3_16]) (rest := []) (wc := []) ⟨hx, hb, hml, hown, hts⟩ (c_X8_bits l D cI cZ cO hw) (va_cwS 1 hts gX8_tell_X8_bits rfl rfl rfl (by decide +kernel) ⟨Nat.le_of_ble_eq_true rfl, Nat.le_of_ble_eq_true rfl⟩) hKK hP [] rfl rfl hl.1 rfl (Nat.le_of_ble_eq_true rfl) dX8_tell_28 ⟨Nat.zero_le _, Nat.zero_le _⟩ (fun r_28 hw => ?_)
            refine lv_iload_n hx hb dX8_tell_31 rfl (lv_at hl 2 rfl) ?_
            refine xcSi (As := [.int x2_16]) (rest := [.int r_28]) (wc := []) ⟨hx, hb, hml, hown, hts⟩ (c_X8_bits l D cI cZ cO hw) (va_cwS 1 hts gX8_tell_X8_bits rfl rfl rfl (by decide +kernel) ⟨Nat.le_of_ble_eq_true rfl, Nat.le_of_ble_eq_true rfl⟩) hKK hP [] rfl rfl hl.1 rfl (Nat.le_of_ble_eq_true rfl) dX8_tell_32 ⟨Nat.zero_le _, Nat.zero_le _⟩ (fun r_32 hw => ?_)
            refine lv_icmp_ge (tgt := 42) hx hb dX8_tell_35 (by decide) (fun c_35 => ?_) (fun c_35 => ?_)
            · have hw := hw.1 c_35
              refine lv_iconst (v := 0) hx hb dX8_tell_42 (by decide) ?_
              exact JN_43 _ ls (lv_sub hl [0, 1, 2, 3] rfl) hw
            · have hw := hw.2 c_35
              exact JN_38 ls (lv_sub hl [0, 1, 2, 3] rfl) hw
    obtain ⟨n, hw⟩ := hw
    exact LP_16 n _ _ ls (lv_sub hl [2, 3, 1, 0] rfl) hw
  · have hw := hw.1 c_7
    refine lv_iconst (v := (-1)) hx hb dX8_tell_10 (by decide) ?_
    rw [hQ]
    exact W.iret (v := (-1)) hx hb hr (fun t ht _ => ⟨(-1), rfl, hw, ht⟩) (fun _ h => (List.not_mem_nil h).elim) dX8_tell_11
def wk_X8_reign_4 (Φ : Int32 → Prop) (x1_4 : Int32) (x2_4 : Int32) : Prop :=
  (Φ x1_4)
def wk_X8_reign_25 (Φ : Int32 → Prop) (x1_4 : Int32) (x2_4 : Int32) (rec_4 : Int32 → Int32 → Prop) (x3_25 : Int32) (x4_25 : Int32) : Prop :=
  ((0 ≤ x3_25 → (((x3_25 + 1) ≤ x1_4 → (rec_4 x1_4 (x2_4 + 1))) ∧ (¬ (x3_25 + 1) ≤ x1_4 → (rec_4 (x3_25 + 1) (x2_4 + 1))))) ∧ (¬ 0 ≤ x3_25 → (Φ (-1))))
def wb_X8_reign_25 (now : Nat → Int32) (dayWeather : Nat → Int32) (dayHour : Nat → Int32) (dayDanger : Nat → Int32) (weathers : Nat → Int32) (hours : Nat → Int32) (fear : Nat → Int32) (x2_4 : Int32) (K_25 : Int32 → Int32 → Prop) (rec_25 : Int32 → Int32 → Prop) (x3_25 : Int32) (x4_25 : Int32) : Prop :=
  ((x4_25 < 0 → (K_25 x3_25 x4_25)) ∧ (¬ x4_25 < 0 → (wp_X8_lives now x4_25 (fun r_33 => ((r_33 = 0 → (rec_25 x3_25 (x4_25 + (-1)))) ∧ (¬ r_33 = 0 → (wp_X8_goesAt dayWeather dayHour dayDanger weathers hours fear x4_25 x2_4 (fun r_43 => ((r_43 = 0 → (rec_25 x3_25 (x4_25 + (-1)))) ∧ (¬ r_43 = 0 → (wp_X8_placeOf now x4_25 (fun r_52 => (rec_25 r_52 (x4_25 + (-1)))))))))))))))
def wb_X8_reign_4 (days : Int32) (now : Nat → Int32) (dayWeather : Nat → Int32) (dayHour : Nat → Int32) (dayDanger : Nat → Int32) (weathers : Nat → Int32) (hours : Nat → Int32) (fear : Nat → Int32) (Φ : Int32 → Prop) (K_4 : Int32 → Int32 → Prop) (rec_4 : Int32 → Int32 → Prop) (x1_4 : Int32) (x2_4 : Int32) : Prop :=
  ((days ≤ x2_4 → (K_4 x1_4 x2_4)) ∧ (¬ days ≤ x2_4 → (∃ n : Nat, xit2 (wb_X8_reign_25 now dayWeather dayHour dayDanger weathers hours fear x2_4 (wk_X8_reign_25 Φ x1_4 x2_4 rec_4)) n (-1) ((now 8) - 1))))
def wp_X8_reign (days : Int32) (now : Nat → Int32) (dayWeather : Nat → Int32) (dayHour : Nat → Int32) (dayDanger : Nat → Int32) (weathers : Nat → Int32) (hours : Nat → Int32) (fear : Nat → Int32) (Φ : Int32 → Prop) : Prop :=
  (∃ n : Nat, xit2 (wb_X8_reign_4 days now dayWeather dayHour dayDanger weathers hours fear Φ (wk_X8_reign_4 Φ)) n 0 0)
abbrev xrm_X8_reign : Room := { frames := 3, cells := 0, slots := 0, locals := 67 }
set_option maxRecDepth 100000 in
set_option maxHeartbeats 4000000 in
theorem c_X8_reign (l : Launch) (D : va_G) (cI cZ cO : ClassId) {pay : Int32} {a_weathers : Nat} {a_hours : Nat} {a_fear : Nat} {days : Int32} {a_dayWeather : Nat} {a_dayHour : Nat} {a_dayDanger : Nat} {a_now : Nat} {seed : Int32} {a_text : Nat} {texted : Int32} {faultPlace : Int32} {at0 : Int32} {number : Int32} {numberAt : Int32} {a_readPay : Nat} {readPersons : Int32} {a_readMarks : Nat} {a_readWeathers : Nat} {a_readHours : Nat} {a_readFear : Nat} {readDays : Int32} {a_readWeather : Nat} {a_readHour : Nat} {a_readDanger : Nat} {undos : Int32} {a_past : Nat} {a_morning : Nat} {a_sent : Nat} {watched : Int32} {a_watchedDay : Nat} {a_watchedOut : Nat} {booked : Int32} {a_bookWho : Nat} {a_bookMarks : Nat} {a_images : Nat} {a_isKept : Nat} {a_this : Nat} {now : Nat → Int32} {dayWeather : Nat → Int32} {dayHour : Nat → Int32} {dayDanger : Nat → Int32} {weathers : Nat → Int32} {hours : Nat → Int32} {fear : Nat → Int32} {Φ : Int32 → Prop} (hw : (wp_X8_reign days now dayWeather dayHour dayDanger weathers hours fear Φ)) : Met l yX8_reign wsX8_reign xrm_X8_reign (xPR D cI cZ cO [.ref a_this] [(a_this, .inr (8, [.int pay, .ref a_weathers, .ref a_hours, .ref a_fear, .int days, .ref a_dayWeather, .ref a_dayHour, .ref a_dayDanger, .ref a_now, .int seed, .ref a_text, .int texted, .int faultPlace, .int at0, .int number, .int numberAt, .ref a_readPay, .int readPersons, .ref a_readMarks, .ref a_readWeathers, .ref a_readHours, .ref a_readFear, .int readDays, .ref a_readWeather, .ref a_readHour, .ref a_readDanger, .int undos, .ref a_past, .ref a_morning, .ref a_sent, .int watched, .ref a_watchedDay, .ref a_watchedOut, .int booked, .ref a_bookWho, .ref a_bookMarks, .ref a_images, .ref a_isKept])), (a_now, .inl (cI, 13, .inl now)), (a_dayWeather, .inl (cI, 10, .inl dayWeather)), (a_dayHour, .inl (cI, 10, .inl dayHour)), (a_dayDanger, .inl (cI, 10, .inl dayDanger)), (a_weathers, .inl (cI, 8, .inl weathers)), (a_hours, .inl (cI, 8, .inl hours)), (a_fear, .inl (cI, 8, .inl fear))]) (vp_Si Φ) 0 0 (fun _ => False) := by
  refine Met.ofW (cc := cX8_reign) (maxL := 5) (ret := (some .int)) (by decide) rfl ?_
  intro p e s m args below meth c s₁ B hml hv
  obtain ⟨rfl, hP, hKK⟩ := hv
  have hx := B.exec
  have hb := B.bytes
  have hr := B.returns
  have hts := atoms_spec (ws := wsX8_reign) B.pre
  have hown : s.vm.findClass RX8 = some m.cls := findClass_of_methodNamed B.named
  have hlocks := B.notSynchronized
  obtain ⟨Q, hQ⟩ : ∃ Q, Q = MQ below (vp_Si Φ) ([.ref a_this] : List Value).toArray s 0 0 (fun _ => False) := ⟨_, rfl⟩
  rw [← hQ]
  have hl := lv_entry ([.ref a_this]) (n := 5) (Nat.le_of_ble_eq_true rfl)
  rw [lg_entry_eq]
  generalize (lg_sl ([.ref a_this]) ++ List.replicate (5 - (lg_sl ([.ref a_this])).length) Slot.unset).toArray = ls at hl ⊢
  have hl : lv_has ls 5 [(0, .ref a_this)] := hl
  generalize ([.ref a_this] : List Value).toArray = args at hts hQ ⊢
  have hP : va_P D vwCl [(a_this, .inr (8, [.int pay, .ref a_weathers, .ref a_hours, .ref a_fear, .int days, .ref a_dayWeather, .ref a_dayHour, .ref a_dayDanger, .ref a_now, .int seed, .ref a_text, .int texted, .int faultPlace, .int at0, .int number, .int numberAt, .ref a_readPay, .int readPersons, .ref a_readMarks, .ref a_readWeathers, .ref a_readHours, .ref a_readFear, .int readDays, .ref a_readWeather, .ref a_readHour, .ref a_readDanger, .int undos, .ref a_past, .ref a_morning, .ref a_sent, .int watched, .ref a_watchedDay, .ref a_watchedOut, .int booked, .ref a_bookWho, .ref a_bookMarks, .ref a_images, .ref a_isKept])), (a_now, .inl (cI, 13, .inl now)), (a_dayWeather, .inl (cI, 10, .inl dayWeather)), (a_dayHour, .inl (cI, 10, .inl dayHour)), (a_dayDanger, .inl (cI, 10, .inl dayDanger)), (a_weathers, .inl (cI, 8, .inl weathers)), (a_hours, .inl (cI, 8, .inl hours)), (a_fear, .inl (cI, 8, .inl fear))] s.heap := hP
  have hinX8 : ∀ w ∈ u_ws RX8 TX8 38, w ∈ wsX8_reign := by decide +kernel
  have fl_28 := hts (.fieldLink RX8 28 "DoubleChainModel" "now" "[I") (by decide +kernel)
  have fl_148 := hts (.fieldLink RX8 148 "DoubleChainModel" "days" "I") (by decide +kernel)
  clear B
  show W p l e xrm_X8_reign s m args below meth c s.heap [] 0 0 Q (F0 m 0 ls [])
  unfold wp_X8_reign at hw
  refine lv_iconst (v := 0) hx hb dX8_reign_0 (by decide) ?_
  refine lv_istore_n (lv' := [(1, .int 0), (0, .ref a_this)]) hx hb dX8_reign_1 rfl hl (by decide) rfl (fun ls hl => ?_)
  refine lv_iconst (v := 0) hx hb dX8_reign_2 (by decide) ?_
  refine lv_istore_n (lv' := [(2, .int 0), (1, .int 0), (0, .ref a_this)]) hx hb dX8_reign_3 rfl hl (by decide) rfl (fun ls hl => ?_)
  have EX_4 : ∀ (x1_4 : Int32) (x2_4 : Int32), ∀ (ls : Array Slot), lv_has ls 5 [(0, .ref a_this), (1, .int x1_4), (2, .int x2_4)] → (wk_X8_reign_4 Φ x1_4 x2_4) → W p l e xrm_X8_reign s m args below meth c s.heap [] 0 0 Q (F0 m 93 ls []) := by
    intro x1_4 x2_4 ls hl hw
    unfold wk_X8_reign_4 at hw
    refine lv_iload_n hx hb dX8_reign_93 rfl (lv_at hl 1 rfl) ?_
    rw [hQ]
    exact W.iret (v := x1_4) hx hb hr (fun t ht _ => ⟨x1_4, rfl, hw, ht⟩) (fun _ h => (List.not_mem_nil h).elim) dX8_reign_94
  generalize (wk_X8_reign_4 Φ) = K_4 at EX_4 hw
  have LP_4 : ∀ n : Nat, ∀ (x1_4 : Int32) (x2_4 : Int32), ∀ (ls : Array Slot), lv_has ls 5 [(0, .ref a_this), (1, .int x1_4), (2, .int x2_4)] → xit2 (wb_X8_reign_4 days now dayWeather dayHour dayDanger weathers hours fear Φ K_4) n x1_4 x2_4 → W p l e xrm_X8_reign s m args below meth c s.heap [] 0 0 Q (F0 m 4 ls []) := by
    intro n
    induction n with
    | zero => intro x1_4 x2_4 ls hl hw; exact (show False from hw).elim
    | succ n ih =>
      intro x1_4 x2_4 ls hl hw
      have hw : wb_X8_reign_4 days now dayWeather dayHour dayDanger weathers hours fear Φ K_4 (xit2 (wb_X8_reign_4 days now dayWeather dayHour dayDanger weathers hours fear Φ K_4) n) x1_4 x2_4 := hw
      generalize xit2 (wb_X8_reign_4 days now dayWeather dayHour dayDanger weathers hours fear Φ K_4) n = rec_4 at ih hw
      unfold wb_X8_reign_4 at hw
      refine lv_iload_n hx hb dX8_reign_4 rfl (lv_at hl 2 rfl) ?_
      refine lv_aload_n hx hb dX8_reign_5 rfl (lv_at hl 0 rfl) ?_
      refine va_get (D := D) (ci := 8) (v := .int days) (C := RX8) (T := TX8) (N := 38) hx hb hts hinX8 hown hKK.1 hP 0 rfl rfl 4 (by decide) fl_148 (fun _ h9 => h9) rfl dX8_reign_6 ?_
      refine lv_icmp_ge (tgt := 93) hx hb dX8_reign_9 (by decide) (fun c_9 => ?_) (fun c_9 => ?_)
      · have hw := hw.1 c_9
        exact EX_4 _ _ ls (lv_sub hl [0, 1, 2] rfl) hw
      · have hw := hw.2 c_9
        refine lv_iconst (v := (-1)) hx hb dX8_reign_12 (by decide) ?_
        refine lv_istore_n (lv' := [(3, .int (-1)), (0, .ref a_this), (1, .int x1_4), (2, .int x2_4)]) hx hb dX8_reign_13 rfl hl (by decide) rfl (fun ls hl => ?_)
        refine lv_aload_n hx hb dX8_reign_14 rfl (lv_at hl 1 rfl) ?_
        refine va_get (D := D) (ci := 8) (v := .ref a_now) (C := RX8) (T := TX8) (N := 38) hx hb hts hinX8 hown hKK.1 hP 0 rfl rfl 8 (by decide) fl_28 (fun _ h9 => h9) rfl dX8_reign_15 ?_
        refine lv_bipush (v := 8) hx hb dX8_reign_18 (by decide) ?_
        refine x_iald 8 (by decide) (Nat.le_of_ble_eq_true rfl) hx hb hKK.1 hP 1 0 rfl rfl dX8_reign_20 ?_
        refine lv_iconst (v := 1) hx hb dX8_reign_21 (by decide) ?_
        refine lv_isub hx hb dX8_reign_22 ?_
        refine lv_istore (lv' := [(4, .int ((now 8) - 1)), (3, .int (-1)), (0, .ref a_this), (1, .int x1_4), (2, .int x2_4)]) hx hb dX8_reign_23 hl (by decide) rfl (fun ls hl => ?_)
        have EX_25 : ∀ (x3_25 : Int32) (x4_25 : Int32), ∀ (ls : Array Slot), lv_has ls 5 [(0, .ref a_this), (1, .int x1_4), (2, .int x2_4), (3, .int x3_25), (4, .int x4_25)] → (wk_X8_reign_25 Φ x1_4 x2_4 rec_4 x3_25 x4_25) → W p l e xrm_X8_reign s m args below meth c s.heap [] 0 0 Q (F0 m 66 ls []) := by
          intro x3_25 x4_25 ls hl hw
          unfold wk_X8_reign_25 at hw
          refine lv_iload_n hx hb dX8_reign_66 rfl (lv_at hl 3 rfl) ?_
          refine lv_if_ge (tgt := 72) hx hb dX8_reign_67 (by decide) (fun c_67 => ?_) (fun c_67 => ?_)
          · have hw := hw.1 c_67
            refine lv_iload_n hx hb dX8_reign_72 rfl (lv_at hl 3 rfl) ?_
            refine lv_iconst (v := 1) hx hb dX8_reign_73 (by decide) ?_
            refine lv_iadd hx hb dX8_reign_74 ?_
            refine lv_iload_n hx hb dX8_reign_75 rfl (lv_at hl 1 rfl) ?_
            refine lv_icmp_le (tgt := 85) hx hb dX8_reign_76 (by decide) (fun c_76 => ?_) (fun c_76 => ?_)
            · have hw := hw.1 c_76
              refine lv_iload_n hx hb dX8_reign_85 rfl (lv_at hl 1 rfl) ?_
              refine lv_istore_n (lv' := [(1, .int x1_4), (0, .ref a_this), (2, .int x2_4), (3, .int x3_25), (4, .int x4_25)]) hx hb dX8_reign_86 rfl hl (by decide) rfl (fun ls hl => ?_)
              refine lv_iinc (v := (x2_4 + 1)) (lv' := [(2, .int (x2_4 + 1)), (1, .int x1_4), (0, .ref a_this), (3, .int x3_25), (4, .int x4_25)]) hx hb dX8_reign_87 hl (k := 2) rfl (by rfl) (by decide) rfl (fun ls hl => ?_)
              refine lv_goto (tgt := 4) hx hb dX8_reign_90 (by decide) ?_
              exact ih _ _ ls (lv_sub hl [2, 1, 0] rfl) hw
            · have hw := hw.2 c_76
              refine lv_iload_n hx hb dX8_reign_79 rfl (lv_at hl 3 rfl) ?_
              refine lv_iconst (v := 1) hx hb dX8_reign_80 (by decide) ?_
              refine lv_iadd hx hb dX8_reign_81 ?_
              refine lv_goto (tgt := 86) hx hb dX8_reign_82 (by decide) ?_
              refine lv_istore_n (lv' := [(1, .int (x3_25 + 1)), (0, .ref a_this), (2, .int x2_4), (3, .int x3_25), (4, .int x4_25)]) hx hb dX8_reign_86 rfl hl (by decide) rfl (fun ls hl => ?_)
              refine lv_iinc (v := (x2_4 + 1)) (lv' := [(2, .int (x2_4 + 1)), (1, .int (x3_25 + 1)), (0, .ref a_this), (3, .int x3_25), (4, .int x4_25)]) hx hb dX8_reign_87 hl (k := 2) rfl (by rfl) (by decide) rfl (fun ls hl => ?_)
              refine lv_goto (tgt := 4) hx hb dX8_reign_90 (by decide) ?_
              exact ih _ _ ls (lv_sub hl [2, 1, 0] rfl) hw
          · have hw := hw.2 c_67
            refine lv_iconst (v := (-1)) hx hb dX8_reign_70 (by decide) ?_
            rw [hQ]
            exact W.iret (v := (-1)) hx hb hr (fun t ht _ => ⟨(-1), rfl, hw, ht⟩) (fun _ h => (List.not_mem_nil h).elim) dX8_reign_71
        generalize (wk_X8_reign_25 Φ x1_4 x2_4 rec_4) = K_25 at EX_25 hw
        have LP_25 : ∀ n : Nat, ∀ (x3_25 : Int32) (x4_25 : Int32), ∀ (ls : Array Slot), lv_has ls 5 [(0, .ref a_this), (1, .int x1_4), (2, .int x2_4), (3, .int x3_25), (4, .int x4_25)] → xit2 (wb_X8_reign_25 now dayWeather dayHour dayDanger weathers hours fear x2_4 K_25) n x3_25 x4_25 → W p l e xrm_X8_reign s m args below meth c s.heap [] 0 0 Q (F0 m 25 ls []) := by
          intro n
          induction n with
          | zero => intro x3_25 x4_25 ls hl hw; exact (show False from hw).elim
          | succ n ih =>
            intro x3_25 x4_25 ls hl hw
            have hw : wb_X8_reign_25 now dayWeather dayHour dayDanger weathers hours fear x2_4 K_25 (xit2 (wb_X8_reign_25 now dayWeather dayHour dayDanger weathers hours fear x2_4 K_25) n) x3_25 x4_25 := hw
            generalize xit2 (wb_X8_reign_25 now dayWeather dayHour dayDanger weathers hours fear x2_4 K_25) n = rec_25 at ih hw
            unfold wb_X8_reign_25 at hw
            refine lv_iload hx hb dX8_reign_25 (lv_at hl 4 rfl) ?_
            refine lv_if_lt (tgt := 66) hx hb dX8_reign_27 (by decide) (fun c_27 => ?_) (fun c_27 => ?_)
            · have hw := hw.1 c_27
              exact EX_25 _ _ ls (lv_sub hl [0, 1, 2, 3, 4] rfl) hw
            · have hw := hw.2 c_27
              refine lv_aload_n hx hb dX8_reign_30 rfl (lv_at hl 0 rfl) ?_
              refine lv_iload hx hb dX8_reign_31 (lv_at hl 4 rfl) ?_
              refine xcVi (q0 := 0) (ci := 8) (As := [.int x4_25]) (rest := []) (wc := [(a_this, .inr (8, [.int pay, .ref a_weathers, .ref a_hours, .ref a_fear, .int days, .ref a_dayWeather, .ref a_dayHour, .ref a_dayDanger, .ref a_now, .int seed, .ref a_text, .int texted, .int faultPlace, .int at0, .int number, .int numberAt, .ref a_readPay, .int readPersons, .ref a_readMarks, .ref a_readWeathers, .ref a_readHours, .ref a_readFear, .int readDays, .ref a_readWeather, .ref a_readHour, .ref a_readDanger, .int undos, .ref a_past, .ref a_morning, .ref a_sent, .int watched, .ref a_watchedDay, .ref a_watchedOut, .int booked, .ref a_bookWho, .ref a_bookMarks, .ref a_images, .ref a_isKept])), (a_now, .inl (cI, 13, .inl now))]) ⟨hx, hb, hml, hown, hts⟩ (c_X8_lives l D cI cZ cO hw) (cwV 1 hts gX8_reign_X8_lives rfl rfl rfl (by decide +kernel) ⟨Nat.le_of_ble_eq_true rfl, Nat.le_of_ble_eq_true rfl⟩) hKK hP [0, 1] rfl rfl rfl rfl hl.1 rfl (Nat.le_of_ble_eq_true rfl) dX8_reign_33 ⟨Nat.zero_le _, Nat.zero_le _⟩ (fun r_33 hw => ?_)
              refine lv_if_eq (tgt := 58) hx hb dX8_reign_36 (by decide) (fun c_36 => ?_) (fun c_36 => ?_)
              · have hw := hw.1 c_36
                refine lv_iload_n hx hb dX8_reign_58 rfl (lv_at hl 3 rfl) ?_
                refine lv_istore_n (lv' := [(3, .int x3_25), (0, .ref a_this), (1, .int x1_4), (2, .int x2_4), (4, .int x4_25)]) hx hb dX8_reign_59 rfl hl (by decide) rfl (fun ls hl => ?_)
                refine lv_iinc (v := (x4_25 + (-1))) (lv' := [(4, .int (x4_25 + (-1))), (3, .int x3_25), (0, .ref a_this), (1, .int x1_4), (2, .int x2_4)]) hx hb dX8_reign_60 hl (k := 4) rfl (by rfl) (by decide) rfl (fun ls hl => ?_)
                refine lv_goto (tgt := 25) hx hb dX8_reign_63 (by decide) ?_
                exact ih _ _ ls (lv_sub hl [2, 3, 4, 1, 0] rfl) hw
              · have hw := hw.2 c_36
                refine lv_aload_n hx hb dX8_reign_39 rfl (lv_at hl 0 rfl) ?_
                refine lv_iload hx hb dX8_reign_40 (lv_at hl 4 rfl) ?_
                refine lv_iload_n hx hb dX8_reign_42 rfl (lv_at hl 2 rfl) ?_
                refine xcVi (q0 := 0) (ci := 8) (As := [.int x4_25, .int x2_4]) (rest := []) (wc := [(a_this, .inr (8, [.int pay, .ref a_weathers, .ref a_hours, .ref a_fear, .int days, .ref a_dayWeather, .ref a_dayHour, .ref a_dayDanger, .ref a_now, .int seed, .ref a_text, .int texted, .int faultPlace, .int at0, .int number, .int numberAt, .ref a_readPay, .int readPersons, .ref a_readMarks, .ref a_readWeathers, .ref a_readHours, .ref a_readFear, .int readDays, .ref a_readWeather, .ref a_readHour, .ref a_readDanger, .int undos, .ref a_past, .ref a_morning, .ref a_sent, .int watched, .ref a_watchedDay, .ref a_watchedOut, .int booked, .ref a_bookWho, .ref a_bookMarks, .ref a_images, .ref a_isKept])), (a_dayWeather, .inl (cI, 10, .inl dayWeather)), (a_dayHour, .inl (cI, 10, .inl dayHour)), (a_dayDanger, .inl (cI, 10, .inl dayDanger)), (a_weathers, .inl (cI, 8, .inl weathers)), (a_hours, .inl (cI, 8, .inl hours)), (a_fear, .inl (cI, 8, .inl fear))]) ⟨hx, hb, hml, hown, hts⟩ (c_X8_goesAt l D cI cZ cO hw) (cwV 2 hts gX8_reign_X8_goesAt rfl rfl rfl (by decide +kernel) ⟨Nat.le_of_ble_eq_true rfl, Nat.le_of_ble_eq_true rfl⟩) hKK hP [0, 2, 3, 4, 5, 6, 7] rfl rfl rfl rfl hl.1 rfl (Nat.le_of_ble_eq_true rfl) dX8_reign_43 ⟨Nat.zero_le _, Nat.zero_le _⟩ (fun r_43 hw => ?_)
                refine lv_if_eq (tgt := 58) hx hb dX8_reign_46 (by decide) (fun c_46 => ?_) (fun c_46 => ?_)
                · have hw := hw.1 c_46
                  refine lv_iload_n hx hb dX8_reign_58 rfl (lv_at hl 3 rfl) ?_
                  refine lv_istore_n (lv' := [(3, .int x3_25), (0, .ref a_this), (1, .int x1_4), (2, .int x2_4), (4, .int x4_25)]) hx hb dX8_reign_59 rfl hl (by decide) rfl (fun ls hl => ?_)
                  refine lv_iinc (v := (x4_25 + (-1))) (lv' := [(4, .int (x4_25 + (-1))), (3, .int x3_25), (0, .ref a_this), (1, .int x1_4), (2, .int x2_4)]) hx hb dX8_reign_60 hl (k := 4) rfl (by rfl) (by decide) rfl (fun ls hl => ?_)
                  refine lv_goto (tgt := 25) hx hb dX8_reign_63 (by decide) ?_
                  exact ih _ _ ls (lv_sub hl [2, 3, 4, 1, 0] rfl) hw
                · have hw := hw.2 c_46
                  refine lv_aload_n hx hb dX8_reign_49 rfl (lv_at hl 0 rfl) ?_
                  refine lv_iload hx hb dX8_reign_50 (lv_at hl 4 rfl) ?_
                  refine xcVi (q0 := 0) (ci := 8) (As := [.int x4_25]) (rest := []) (wc := [(a_this, .inr (8, [.int pay, .ref a_weathers, .ref a_hours, .ref a_fear, .int days, .ref a_dayWeather, .ref a_dayHour, .ref a_dayDanger, .ref a_now, .int seed, .ref a_text, .int texted, .int faultPlace, .int at0, .int number, .int numberAt, .ref a_readPay, .int readPersons, .ref a_readMarks, .ref a_readWeathers, .ref a_readHours, .ref a_readFear, .int readDays, .ref a_readWeather, .ref a_readHour, .ref a_readDanger, .int undos, .ref a_past, .ref a_morning, .ref a_sent, .int watched, .ref a_watchedDay, .ref a_watchedOut, .int booked, .ref a_bookWho, .ref a_bookMarks, .ref a_images, .ref a_isKept])), (a_now, .inl (cI, 13, .inl now))]) ⟨hx, hb, hml, hown, hts⟩ (c_X8_placeOf l D cI cZ cO hw) (cwV 1 hts gX8_reign_X8_placeOf rfl rfl rfl (by decide +kernel) ⟨Nat.le_of_ble_eq_true rfl, Nat.le_of_ble_eq_true rfl⟩) hKK hP [0, 1] rfl rfl rfl rfl hl.1 rfl (Nat.le_of_ble_eq_true rfl) dX8_reign_52 ⟨Nat.zero_le _, Nat.zero_le _⟩ (fun r_52 hw => ?_)
                  refine lv_goto (tgt := 59) hx hb dX8_reign_55 (by decide) ?_
                  refine lv_istore_n (lv' := [(3, .int r_52), (0, .ref a_this), (1, .int x1_4), (2, .int x2_4), (4, .int x4_25)]) hx hb dX8_reign_59 rfl hl (by decide) rfl (fun ls hl => ?_)
                  refine lv_iinc (v := (x4_25 + (-1))) (lv' := [(4, .int (x4_25 + (-1))), (3, .int r_52), (0, .ref a_this), (1, .int x1_4), (2, .int x2_4)]) hx hb dX8_reign_60 hl (k := 4) rfl (by rfl) (by decide) rfl (fun ls hl => ?_)
                  refine lv_goto (tgt := 25) hx hb dX8_reign_63 (by decide) ?_
                  exact ih _ _ ls (lv_sub hl [2, 3, 4, 1, 0] rfl) hw
        obtain ⟨n, hw⟩ := hw
        exact LP_25 n _ _ ls (lv_sub hl [2, 3, 4, 1, 0] rfl) hw
  obtain ⟨n, hw⟩ := hw
  exact LP_4 n _ _ ls (lv_sub hl [2, 1, 0] rfl) hw
def wk_X8_shownAll_20 (Φ : Int32 → Prop) (x1_20 : Int32) (x2_20 : Int32) : Prop :=
  (Φ (-1))
def wb_X8_shownAll_20 (days : Int32) (now : Nat → Int32) (dayWeather : Nat → Int32) (dayHour : Nat → Int32) (dayDanger : Nat → Int32) (weathers : Nat → Int32) (hours : Nat → Int32) (fear : Nat → Int32) (Φ : Int32 → Prop) (K_20 : Int32 → Int32 → Prop) (rec_20 : Int32 → Int32 → Prop) (x1_20 : Int32) (x2_20 : Int32) : Prop :=
  ((99 < x2_20 → (K_20 x1_20 x2_20)) ∧ (¬ 99 < x2_20 → ((((now 9) &&& (x1_20 ^^^ (-1))) = 0 → (Φ x2_20)) ∧ (¬ ((now 9) &&& (x1_20 ^^^ (-1))) = 0 → (wp_X8_seenOn days now dayWeather dayHour dayDanger weathers hours fear ((now 11) + x2_20) (fun r_52 => ((r_52 < 0 → (rec_20 (x1_20 ||| 0) (x2_20 + 1))) ∧ (¬ r_52 < 0 → (rec_20 (x1_20 ||| ((1 : Int32) <<< (r_52 &&& 31))) (x2_20 + 1))))))))))
def wp_X8_shownAll (pay : Int32) (days : Int32) (now : Nat → Int32) (dayWeather : Nat → Int32) (dayHour : Nat → Int32) (dayDanger : Nat → Int32) (weathers : Nat → Int32) (hours : Nat → Int32) (fear : Nat → Int32) (Φ : Int32 → Prop) : Prop :=
  ((pay = 0 → (Φ (-1000000003))) ∧ (¬ pay = 0 → (∃ n : Nat, xit2 (wb_X8_shownAll_20 days now dayWeather dayHour dayDanger weathers hours fear Φ (wk_X8_shownAll_20 Φ)) n (now 10) 0)))
abbrev xrm_X8_shownAll : Room := { frames := 5, cells := 0, slots := 0, locals := 111 }
set_option maxRecDepth 100000 in
set_option maxHeartbeats 4000000 in
theorem c_X8_shownAll (l : Launch) (D : va_G) (cI cZ cO : ClassId) {pay : Int32} {a_weathers : Nat} {a_hours : Nat} {a_fear : Nat} {days : Int32} {a_dayWeather : Nat} {a_dayHour : Nat} {a_dayDanger : Nat} {a_now : Nat} {seed : Int32} {a_text : Nat} {texted : Int32} {faultPlace : Int32} {at0 : Int32} {number : Int32} {numberAt : Int32} {a_readPay : Nat} {readPersons : Int32} {a_readMarks : Nat} {a_readWeathers : Nat} {a_readHours : Nat} {a_readFear : Nat} {readDays : Int32} {a_readWeather : Nat} {a_readHour : Nat} {a_readDanger : Nat} {undos : Int32} {a_past : Nat} {a_morning : Nat} {a_sent : Nat} {watched : Int32} {a_watchedDay : Nat} {a_watchedOut : Nat} {booked : Int32} {a_bookWho : Nat} {a_bookMarks : Nat} {a_images : Nat} {a_isKept : Nat} {a_this : Nat} {now : Nat → Int32} {dayWeather : Nat → Int32} {dayHour : Nat → Int32} {dayDanger : Nat → Int32} {weathers : Nat → Int32} {hours : Nat → Int32} {fear : Nat → Int32} {Φ : Int32 → Prop} (hw : (wp_X8_shownAll pay days now dayWeather dayHour dayDanger weathers hours fear Φ)) : Met l yX8_shownAll wsX8_shownAll xrm_X8_shownAll (xPR D cI cZ cO [.ref a_this] [(a_this, .inr (8, [.int pay, .ref a_weathers, .ref a_hours, .ref a_fear, .int days, .ref a_dayWeather, .ref a_dayHour, .ref a_dayDanger, .ref a_now, .int seed, .ref a_text, .int texted, .int faultPlace, .int at0, .int number, .int numberAt, .ref a_readPay, .int readPersons, .ref a_readMarks, .ref a_readWeathers, .ref a_readHours, .ref a_readFear, .int readDays, .ref a_readWeather, .ref a_readHour, .ref a_readDanger, .int undos, .ref a_past, .ref a_morning, .ref a_sent, .int watched, .ref a_watchedDay, .ref a_watchedOut, .int booked, .ref a_bookWho, .ref a_bookMarks, .ref a_images, .ref a_isKept])), (a_now, .inl (cI, 13, .inl now)), (a_dayWeather, .inl (cI, 10, .inl dayWeather)), (a_dayHour, .inl (cI, 10, .inl dayHour)), (a_dayDanger, .inl (cI, 10, .inl dayDanger)), (a_weathers, .inl (cI, 8, .inl weathers)), (a_hours, .inl (cI, 8, .inl hours)), (a_fear, .inl (cI, 8, .inl fear))]) (vp_Si Φ) 0 0 (fun _ => False) := by
  refine Met.ofW (cc := cX8_shownAll) (maxL := 4) (ret := (some .int)) (by decide) rfl ?_
  intro p e s m args below meth c s₁ B hml hv
  obtain ⟨rfl, hP, hKK⟩ := hv
  have hx := B.exec
  have hb := B.bytes
  have hr := B.returns
  have hts := atoms_spec (ws := wsX8_shownAll) B.pre
  have hown : s.vm.findClass RX8 = some m.cls := findClass_of_methodNamed B.named
  have hlocks := B.notSynchronized
  obtain ⟨Q, hQ⟩ : ∃ Q, Q = MQ below (vp_Si Φ) ([.ref a_this] : List Value).toArray s 0 0 (fun _ => False) := ⟨_, rfl⟩
  rw [← hQ]
  have hl := lv_entry ([.ref a_this]) (n := 4) (Nat.le_of_ble_eq_true rfl)
  rw [lg_entry_eq]
  generalize (lg_sl ([.ref a_this]) ++ List.replicate (4 - (lg_sl ([.ref a_this])).length) Slot.unset).toArray = ls at hl ⊢
  have hl : lv_has ls 4 [(0, .ref a_this)] := hl
  generalize ([.ref a_this] : List Value).toArray = args at hts hQ ⊢
  have hP : va_P D vwCl [(a_this, .inr (8, [.int pay, .ref a_weathers, .ref a_hours, .ref a_fear, .int days, .ref a_dayWeather, .ref a_dayHour, .ref a_dayDanger, .ref a_now, .int seed, .ref a_text, .int texted, .int faultPlace, .int at0, .int number, .int numberAt, .ref a_readPay, .int readPersons, .ref a_readMarks, .ref a_readWeathers, .ref a_readHours, .ref a_readFear, .int readDays, .ref a_readWeather, .ref a_readHour, .ref a_readDanger, .int undos, .ref a_past, .ref a_morning, .ref a_sent, .int watched, .ref a_watchedDay, .ref a_watchedOut, .int booked, .ref a_bookWho, .ref a_bookMarks, .ref a_images, .ref a_isKept])), (a_now, .inl (cI, 13, .inl now)), (a_dayWeather, .inl (cI, 10, .inl dayWeather)), (a_dayHour, .inl (cI, 10, .inl dayHour)), (a_dayDanger, .inl (cI, 10, .inl dayDanger)), (a_weathers, .inl (cI, 8, .inl weathers)), (a_hours, .inl (cI, 8, .inl hours)), (a_fear, .inl (cI, 8, .inl fear))] s.heap := hP
  have hinX8 : ∀ w ∈ u_ws RX8 TX8 38, w ∈ wsX8_shownAll := by decide +kernel
  have fl_28 := hts (.fieldLink RX8 28 "DoubleChainModel" "now" "[I") (by decide +kernel)
  have fl_90 := hts (.fieldLink RX8 90 "DoubleChainModel" "pay" "I") (by decide +kernel)
  clear B
  show W p l e xrm_X8_shownAll s m args below meth c s.heap [] 0 0 Q (F0 m 0 ls [])
  unfold wp_X8_shownAll at hw
  refine lv_aload_n hx hb dX8_shownAll_0 rfl (lv_at hl 0 rfl) ?_
  refine va_get (D := D) (ci := 8) (v := .int pay) (C := RX8) (T := TX8) (N := 38) hx hb hts hinX8 hown hKK.1 hP 0 rfl rfl 0 (by decide) fl_90 (fun _ h9 => h9) rfl dX8_shownAll_1 ?_
  refine lv_if_ne (tgt := 10) hx hb dX8_shownAll_4 (by decide) (fun c_4 => ?_) (fun c_4 => ?_)
  · have hw := hw.2 c_4
    refine lv_aload_n hx hb dX8_shownAll_10 rfl (lv_at hl 0 rfl) ?_
    refine va_get (D := D) (ci := 8) (v := .ref a_now) (C := RX8) (T := TX8) (N := 38) hx hb hts hinX8 hown hKK.1 hP 0 rfl rfl 8 (by decide) fl_28 (fun _ h9 => h9) rfl dX8_shownAll_11 ?_
    refine lv_bipush (v := 10) hx hb dX8_shownAll_14 (by decide) ?_
    refine x_iald 10 (by decide) (Nat.le_of_ble_eq_true rfl) hx hb hKK.1 hP 1 0 rfl rfl dX8_shownAll_16 ?_
    refine lv_istore_n (lv' := [(1, .int (now 10)), (0, .ref a_this)]) hx hb dX8_shownAll_17 rfl hl (by decide) rfl (fun ls hl => ?_)
    refine lv_iconst (v := 0) hx hb dX8_shownAll_18 (by decide) ?_
    refine lv_istore_n (lv' := [(2, .int 0), (1, .int (now 10)), (0, .ref a_this)]) hx hb dX8_shownAll_19 rfl hl (by decide) rfl (fun ls hl => ?_)
    have EX_20 : ∀ (x1_20 : Int32) (x2_20 : Int32), ∀ (ls : Array Slot), lv_has ls 4 [(0, .ref a_this), (1, .int x1_20), (2, .int x2_20)] → (wk_X8_shownAll_20 Φ x1_20 x2_20) → W p l e xrm_X8_shownAll s m args below meth c s.heap [] 0 0 Q (F0 m 76 ls []) := by
      intro x1_20 x2_20 ls hl hw
      unfold wk_X8_shownAll_20 at hw
      refine lv_iconst (v := (-1)) hx hb dX8_shownAll_76 (by decide) ?_
      rw [hQ]
      exact W.iret (v := (-1)) hx hb hr (fun t ht _ => ⟨(-1), rfl, hw, ht⟩) (fun _ h => (List.not_mem_nil h).elim) dX8_shownAll_77
    generalize (wk_X8_shownAll_20 Φ) = K_20 at EX_20 hw
    have LP_20 : ∀ n : Nat, ∀ (x1_20 : Int32) (x2_20 : Int32), ∀ (ls : Array Slot), lv_has ls 4 [(0, .ref a_this), (1, .int x1_20), (2, .int x2_20)] → xit2 (wb_X8_shownAll_20 days now dayWeather dayHour dayDanger weathers hours fear Φ K_20) n x1_20 x2_20 → W p l e xrm_X8_shownAll s m args below meth c s.heap [] 0 0 Q (F0 m 20 ls []) := by
      intro n
      induction n with
      | zero => intro x1_20 x2_20 ls hl hw; exact (show False from hw).elim
      | succ n ih =>
        intro x1_20 x2_20 ls hl hw
        have hw : wb_X8_shownAll_20 days now dayWeather dayHour dayDanger weathers hours fear Φ K_20 (xit2 (wb_X8_shownAll_20 days now dayWeather dayHour dayDanger weathers hours fear Φ K_20) n) x1_20 x2_20 := hw
        generalize xit2 (wb_X8_shownAll_20 days now dayWeather dayHour dayDanger weathers hours fear Φ K_20) n = rec_20 at ih hw
        unfold wb_X8_shownAll_20 at hw
        refine lv_iload_n hx hb dX8_shownAll_20 rfl (lv_at hl 2 rfl) ?_
        refine lv_bipush (v := 99) hx hb dX8_shownAll_21 (by decide) ?_
        refine lv_icmp_gt (tgt := 76) hx hb dX8_shownAll_23 (by decide) (fun c_23 => ?_) (fun c_23 => ?_)
        · have hw := hw.1 c_23
          exact EX_20 _ _ ls (lv_sub hl [0, 1, 2] rfl) hw
        · have hw := hw.2 c_23
          refine lv_aload_n hx hb dX8_shownAll_26 rfl (lv_at hl 0 rfl) ?_
          refine va_get (D := D) (ci := 8) (v := .ref a_now) (C := RX8) (T := TX8) (N := 38) hx hb hts hinX8 hown hKK.1 hP 0 rfl rfl 8 (by decide) fl_28 (fun _ h9 => h9) rfl dX8_shownAll_27 ?_
          refine lv_bipush (v := 9) hx hb dX8_shownAll_30 (by decide) ?_
          refine x_iald 9 (by decide) (Nat.le_of_ble_eq_true rfl) hx hb hKK.1 hP 1 0 rfl rfl dX8_shownAll_32 ?_
          refine lv_iload_n hx hb dX8_shownAll_33 rfl (lv_at hl 1 rfl) ?_
          refine lv_iconst (v := (-1)) hx hb dX8_shownAll_34 (by decide) ?_
          refine lv_ixor hx hb dX8_shownAll_35 ?_
          refine lv_iand hx hb dX8_shownAll_36 ?_
          refine lv_if_ne (tgt := 42) hx hb dX8_shownAll_37 (by decide) (fun c_37 => ?_) (fun c_37 => ?_)
          · have hw := hw.2 c_37
            refine lv_aload_n hx hb dX8_shownAll_42 rfl (lv_at hl 0 rfl) ?_
            refine lv_aload_n hx hb dX8_shownAll_43 rfl (lv_at hl 0 rfl) ?_
            refine va_get (D := D) (ci := 8) (v := .ref a_now) (C := RX8) (T := TX8) (N := 38) hx hb hts hinX8 hown hKK.1 hP 0 rfl rfl 8 (by decide) fl_28 (fun _ h9 => h9) rfl dX8_shownAll_44 ?_
            refine lv_bipush (v := 11) hx hb dX8_shownAll_47 (by decide) ?_
            refine x_iald 11 (by decide) (Nat.le_of_ble_eq_true rfl) hx hb hKK.1 hP 1 0 rfl rfl dX8_shownAll_49 ?_
            refine lv_iload_n hx hb dX8_shownAll_50 rfl (lv_at hl 2 rfl) ?_
            refine lv_iadd hx hb dX8_shownAll_51 ?_
            refine xcVi (q0 := 0) (ci := 8) (As := [.int ((now 11) + x2_20)]) (rest := []) (wc := [(a_this, .inr (8, [.int pay, .ref a_weathers, .ref a_hours, .ref a_fear, .int days, .ref a_dayWeather, .ref a_dayHour, .ref a_dayDanger, .ref a_now, .int seed, .ref a_text, .int texted, .int faultPlace, .int at0, .int number, .int numberAt, .ref a_readPay, .int readPersons, .ref a_readMarks, .ref a_readWeathers, .ref a_readHours, .ref a_readFear, .int readDays, .ref a_readWeather, .ref a_readHour, .ref a_readDanger, .int undos, .ref a_past, .ref a_morning, .ref a_sent, .int watched, .ref a_watchedDay, .ref a_watchedOut, .int booked, .ref a_bookWho, .ref a_bookMarks, .ref a_images, .ref a_isKept])), (a_now, .inl (cI, 13, .inl now)), (a_dayWeather, .inl (cI, 10, .inl dayWeather)), (a_dayHour, .inl (cI, 10, .inl dayHour)), (a_dayDanger, .inl (cI, 10, .inl dayDanger)), (a_weathers, .inl (cI, 8, .inl weathers)), (a_hours, .inl (cI, 8, .inl hours)), (a_fear, .inl (cI, 8, .inl fear))]) ⟨hx, hb, hml, hown, hts⟩ (c_X8_seenOn l D cI cZ cO hw) (cwV 1 hts gX8_shownAll_X8_seenOn rfl rfl rfl (by decide +kernel) ⟨Nat.le_of_ble_eq_true rfl, Nat.le_of_ble_eq_true rfl⟩) hKK hP [0, 1, 2, 3, 4, 5, 6, 7] rfl rfl rfl rfl hl.1 rfl (Nat.le_of_ble_eq_true rfl) dX8_shownAll_52 ⟨Nat.zero_le _, Nat.zero_le _⟩ (fun r_52 hw => ?_)
            refine lv_istore_n (lv' := [(3, .int r_52), (0, .ref a_this), (1, .int x1_20), (2, .int x2_20)]) hx hb dX8_shownAll_55 rfl hl (by decide) rfl (fun ls hl => ?_)
            refine lv_iload_n hx hb dX8_shownAll_56 rfl (lv_at hl 2 rfl) ?_
            refine lv_iload_n hx hb dX8_shownAll_57 rfl (lv_at hl 0 rfl) ?_
            refine lv_if_lt (tgt := 67) hx hb dX8_shownAll_58 (by decide) (fun c_58 => ?_) (fun c_58 => ?_)
            · have hw := hw.1 c_58
              refine lv_iconst (v := 0) hx hb dX8_shownAll_67 (by decide) ?_
              refine lv_ior hx hb dX8_shownAll_68 ?_
              refine lv_istore_n (lv' := [(1, .int (x1_20 ||| 0)), (3, .int r_52), (0, .ref a_this), (2, .int x2_20)]) hx hb dX8_shownAll_69 rfl hl (by decide) rfl (fun ls hl => ?_)
              refine lv_iinc (v := (x2_20 + 1)) (lv' := [(2, .int (x2_20 + 1)), (1, .int (x1_20 ||| 0)), (3, .int r_52), (0, .ref a_this)]) hx hb dX8_shownAll_70 hl (k := 3) rfl (by rfl) (by decide) rfl (fun ls hl => ?_)
              refine lv_goto (tgt := 20) hx hb dX8_shownAll_73 (by decide) ?_
              exact ih _ _ ls (lv_sub hl [3, 1, 0] rfl) hw
            · have hw := hw.2 c_58
              refine lv_iconst (v := 1) hx hb dX8_shownAll_61 (by decide) ?_
              refine lv_iload_n hx hb dX8_shownAll_62 rfl (lv_at hl 0 rfl) ?_
              refine lv_ishl hx hb dX8_shownAll_63 ?_
              refine lv_goto (tgt := 68) hx hb dX8_shownAll_64 (by decide) ?_
              refine lv_ior hx hb dX8_shownAll_68 ?_
              refine lv_istore_n (lv' := [(1, .int (x1_20 ||| ((1 : Int32) <<< (r_52 &&& 31)))), (3, .int r_52), (0, .ref a_this), (2, .int x2_20)]) hx hb dX8_shownAll_69 rfl hl (by decide) rfl (fun ls hl => ?_)
              refine lv_iinc (v := (x2_20 + 1)) (lv' := [(2, .int (x2_20 + 1)), (1, .int (x1_20 ||| ((1 : Int32) <<< (r_52 &&& 31)))), (3, .int r_52), (0, .ref a_this)]) hx hb dX8_shownAll_70 hl (k := 3) rfl (by rfl) (by decide) rfl (fun ls hl => ?_)
              refine lv_goto (tgt := 20) hx hb dX8_shownAll_73 (by decide) ?_
              exact ih _ _ ls (lv_sub hl [3, 1, 0] rfl) hw
          · have hw := hw.1 c_37
            refine lv_iload_n hx hb dX8_shownAll_40 rfl (lv_at hl 2 rfl) ?_
            rw [hQ]
            exact W.iret (v := x2_20) hx hb hr (fun t ht _ => ⟨x2_20, rfl, hw, ht⟩) (fun _ h => (List.not_mem_nil h).elim) dX8_shownAll_41
    obtain ⟨n, hw⟩ := hw
    exact LP_20 n _ _ ls (lv_sub hl [2, 1, 0] rfl) hw
  · have hw := hw.1 c_4
    refine lv_ldc (v := (-1000000003)) hx hb hown (hts (.constant RX8 203 (-1000000003)) (by decide +kernel)) dX8_shownAll_7 ?_
    rw [hQ]
    exact W.iret (v := (-1000000003)) hx hb hr (fun t ht _ => ⟨(-1000000003), rfl, hw, ht⟩) (fun _ h => (List.not_mem_nil h).elim) dX8_shownAll_9
def wp_X8_apart (now : Nat → Int32) (p1 : Int32) (p2 : Int32) (Φ : Int32 → Prop) : Prop :=
  (wp_X8_isPerson now p1 (fun r_2 => ((r_2 = 0 → (Φ (-1000000001))) ∧ (¬ r_2 = 0 → (wp_X8_isPerson now p2 (fun r_10 => ((r_10 = 0 → (Φ (-1000000001))) ∧ (¬ r_10 = 0 → ((p1 = p2 → (Φ (-1000000001))) ∧ (¬ p1 = p2 → (vp_in p1 13 ∧ (vp_in p2 13 ∧ (wp_X8_bits ((now p1.toNatClampNeg) ^^^ (now p2.toNatClampNeg)) (fun r_34 => (Φ r_34)))))))))))))))
abbrev xrm_X8_apart : Room := { frames := 2, cells := 0, slots := 0, locals := 46 }
set_option maxRecDepth 100000 in
set_option maxHeartbeats 4000000 in
theorem c_X8_apart (l : Launch) (D : va_G) (cI cZ cO : ClassId) {pay : Int32} {a_weathers : Nat} {a_hours : Nat} {a_fear : Nat} {days : Int32} {a_dayWeather : Nat} {a_dayHour : Nat} {a_dayDanger : Nat} {a_now : Nat} {seed : Int32} {a_text : Nat} {texted : Int32} {faultPlace : Int32} {at0 : Int32} {number : Int32} {numberAt : Int32} {a_readPay : Nat} {readPersons : Int32} {a_readMarks : Nat} {a_readWeathers : Nat} {a_readHours : Nat} {a_readFear : Nat} {readDays : Int32} {a_readWeather : Nat} {a_readHour : Nat} {a_readDanger : Nat} {undos : Int32} {a_past : Nat} {a_morning : Nat} {a_sent : Nat} {watched : Int32} {a_watchedDay : Nat} {a_watchedOut : Nat} {booked : Int32} {a_bookWho : Nat} {a_bookMarks : Nat} {a_images : Nat} {a_isKept : Nat} {a_this : Nat} {now : Nat → Int32} {p1 : Int32} {p2 : Int32} {Φ : Int32 → Prop} (hw : (wp_X8_apart now p1 p2 Φ)) : Met l yX8_apart wsX8_apart xrm_X8_apart (xPR D cI cZ cO [.ref a_this, .int p1, .int p2] [(a_this, .inr (8, [.int pay, .ref a_weathers, .ref a_hours, .ref a_fear, .int days, .ref a_dayWeather, .ref a_dayHour, .ref a_dayDanger, .ref a_now, .int seed, .ref a_text, .int texted, .int faultPlace, .int at0, .int number, .int numberAt, .ref a_readPay, .int readPersons, .ref a_readMarks, .ref a_readWeathers, .ref a_readHours, .ref a_readFear, .int readDays, .ref a_readWeather, .ref a_readHour, .ref a_readDanger, .int undos, .ref a_past, .ref a_morning, .ref a_sent, .int watched, .ref a_watchedDay, .ref a_watchedOut, .int booked, .ref a_bookWho, .ref a_bookMarks, .ref a_images, .ref a_isKept])), (a_now, .inl (cI, 13, .inl now))]) (vp_Si Φ) 0 0 (fun _ => False) := by
  refine Met.ofW (cc := cX8_apart) (maxL := 3) (ret := (some .int)) (by decide) rfl ?_
  intro p e s m args below meth c s₁ B hml hv
  obtain ⟨rfl, hP, hKK⟩ := hv
  have hx := B.exec
  have hb := B.bytes
  have hr := B.returns
  have hts := atoms_spec (ws := wsX8_apart) B.pre
  have hown : s.vm.findClass RX8 = some m.cls := findClass_of_methodNamed B.named
  have hlocks := B.notSynchronized
  obtain ⟨Q, hQ⟩ : ∃ Q, Q = MQ below (vp_Si Φ) ([.ref a_this, .int p1, .int p2] : List Value).toArray s 0 0 (fun _ => False) := ⟨_, rfl⟩
  rw [← hQ]
  have hl := lv_entry ([.ref a_this, .int p1, .int p2]) (n := 3) (Nat.le_of_ble_eq_true rfl)
  rw [lg_entry_eq]
  generalize (lg_sl ([.ref a_this, .int p1, .int p2]) ++ List.replicate (3 - (lg_sl ([.ref a_this, .int p1, .int p2])).length) Slot.unset).toArray = ls at hl ⊢
  have hl : lv_has ls 3 [(0, .ref a_this), (1, .int p1), (2, .int p2)] := hl
  generalize ([.ref a_this, .int p1, .int p2] : List Value).toArray = args at hts hQ ⊢
  have hP : va_P D vwCl [(a_this, .inr (8, [.int pay, .ref a_weathers, .ref a_hours, .ref a_fear, .int days, .ref a_dayWeather, .ref a_dayHour, .ref a_dayDanger, .ref a_now, .int seed, .ref a_text, .int texted, .int faultPlace, .int at0, .int number, .int numberAt, .ref a_readPay, .int readPersons, .ref a_readMarks, .ref a_readWeathers, .ref a_readHours, .ref a_readFear, .int readDays, .ref a_readWeather, .ref a_readHour, .ref a_readDanger, .int undos, .ref a_past, .ref a_morning, .ref a_sent, .int watched, .ref a_watchedDay, .ref a_watchedOut, .int booked, .ref a_bookWho, .ref a_bookMarks, .ref a_images, .ref a_isKept])), (a_now, .inl (cI, 13, .inl now))] s.heap := hP
  have hinX8 : ∀ w ∈ u_ws RX8 TX8 38, w ∈ wsX8_apart := by decide +kernel
  have fl_28 := hts (.fieldLink RX8 28 "DoubleChainModel" "now" "[I") (by decide +kernel)
  clear B
  show W p l e xrm_X8_apart s m args below meth c s.heap [] 0 0 Q (F0 m 0 ls [])
  unfold wp_X8_apart at hw
  refine lv_aload_n hx hb dX8_apart_0 rfl (lv_at hl 0 rfl) ?_
  refine lv_iload_n hx hb dX8_apart_1 rfl (lv_at hl 1 rfl) ?_
  refine xcVi (q0 := 0) (ci := 8) (As := [.int p1]) (rest := []) (wc := [(a_this, .inr (8, [.int pay, .ref a_weathers, .ref a_hours, .ref a_fear, .int days, .ref a_dayWeather, .ref a_dayHour, .ref a_dayDanger, .ref a_now, .int seed, .ref a_text, .int texted, .int faultPlace, .int at0, .int number, .int numberAt, .ref a_readPay, .int readPersons, .ref a_readMarks, .ref a_readWeathers, .ref a_readHours, .ref a_readFear, .int readDays, .ref a_readWeather, .ref a_readHour, .ref a_readDanger, .int undos, .ref a_past, .ref a_morning, .ref a_sent, .int watched, .ref a_watchedDay, .ref a_watchedOut, .int booked, .ref a_bookWho, .ref a_bookMarks, .ref a_images, .ref a_isKept])), (a_now, .inl (cI, 13, .inl now))]) ⟨hx, hb, hml, hown, hts⟩ (c_X8_isPerson l D cI cZ cO hw) (cwV 1 hts gX8_apart_X8_isPerson rfl rfl rfl (by decide +kernel) ⟨Nat.le_of_ble_eq_true rfl, Nat.le_of_ble_eq_true rfl⟩) hKK hP [0, 1] rfl rfl rfl rfl hl.1 rfl (Nat.le_of_ble_eq_true rfl) dX8_apart_2 ⟨Nat.zero_le _, Nat.zero_le _⟩ (fun r_2 hw => ?_)
  refine lv_if_eq (tgt := 40) hx hb dX8_apart_5 (by decide) (fun c_5 => ?_) (fun c_5 => ?_)
  · have hw := hw.1 c_5
    refine lv_ldc (v := (-1000000001)) hx hb hown (hts (.constant RX8 190 (-1000000001)) (by decide +kernel)) dX8_apart_40 ?_
    rw [hQ]
    exact W.iret (v := (-1000000001)) hx hb hr (fun t ht _ => ⟨(-1000000001), rfl, hw, ht⟩) (fun _ h => (List.not_mem_nil h).elim) dX8_apart_42
  · have hw := hw.2 c_5
    refine lv_aload_n hx hb dX8_apart_8 rfl (lv_at hl 0 rfl) ?_
    refine lv_iload_n hx hb dX8_apart_9 rfl (lv_at hl 2 rfl) ?_
    refine xcVi (q0 := 0) (ci := 8) (As := [.int p2]) (rest := []) (wc := [(a_this, .inr (8, [.int pay, .ref a_weathers, .ref a_hours, .ref a_fear, .int days, .ref a_dayWeather, .ref a_dayHour, .ref a_dayDanger, .ref a_now, .int seed, .ref a_text, .int texted, .int faultPlace, .int at0, .int number, .int numberAt, .ref a_readPay, .int readPersons, .ref a_readMarks, .ref a_readWeathers, .ref a_readHours, .ref a_readFear, .int readDays, .ref a_readWeather, .ref a_readHour, .ref a_readDanger, .int undos, .ref a_past, .ref a_morning, .ref a_sent, .int watched, .ref a_watchedDay, .ref a_watchedOut, .int booked, .ref a_bookWho, .ref a_bookMarks, .ref a_images, .ref a_isKept])), (a_now, .inl (cI, 13, .inl now))]) ⟨hx, hb, hml, hown, hts⟩ (c_X8_isPerson l D cI cZ cO hw) (cwV 1 hts gX8_apart_X8_isPerson rfl rfl rfl (by decide +kernel) ⟨Nat.le_of_ble_eq_true rfl, Nat.le_of_ble_eq_true rfl⟩) hKK hP [0, 1] rfl rfl rfl rfl hl.1 rfl (Nat.le_of_ble_eq_true rfl) dX8_apart_10 ⟨Nat.zero_le _, Nat.zero_le _⟩ (fun r_10 hw => ?_)
    refine lv_if_eq (tgt := 40) hx hb dX8_apart_13 (by decide) (fun c_13 => ?_) (fun c_13 => ?_)
    · have hw := hw.1 c_13
      refine lv_ldc (v := (-1000000001)) hx hb hown (hts (.constant RX8 190 (-1000000001)) (by decide +kernel)) dX8_apart_40 ?_
      rw [hQ]
      exact W.iret (v := (-1000000001)) hx hb hr (fun t ht _ => ⟨(-1000000001), rfl, hw, ht⟩) (fun _ h => (List.not_mem_nil h).elim) dX8_apart_42
    · have hw := hw.2 c_13
      refine lv_iload_n hx hb dX8_apart_16 rfl (lv_at hl 1 rfl) ?_
      refine lv_iload_n hx hb dX8_apart_17 rfl (lv_at hl 2 rfl) ?_
      refine lv_icmp_eq (tgt := 40) hx hb dX8_apart_18 (by decide) (fun c_18 => ?_) (fun c_18 => ?_)
      · have hw := hw.1 c_18
        refine lv_ldc (v := (-1000000001)) hx hb hown (hts (.constant RX8 190 (-1000000001)) (by decide +kernel)) dX8_apart_40 ?_
        rw [hQ]
        exact W.iret (v := (-1000000001)) hx hb hr (fun t ht _ => ⟨(-1000000001), rfl, hw, ht⟩) (fun _ h => (List.not_mem_nil h).elim) dX8_apart_42
      · have hw := hw.2 c_18
        refine lv_aload_n hx hb dX8_apart_21 rfl (lv_at hl 0 rfl) ?_
        refine va_get (D := D) (ci := 8) (v := .ref a_now) (C := RX8) (T := TX8) (N := 38) hx hb hts hinX8 hown hKK.1 hP 0 rfl rfl 8 (by decide) fl_28 (fun _ h9 => h9) rfl dX8_apart_22 ?_
        refine lv_iload_n hx hb dX8_apart_25 rfl (lv_at hl 1 rfl) ?_
        obtain ⟨hin, hw⟩ := hw
        refine va_iald hx hb hKK.1 hP 1 0 rfl rfl hin dX8_apart_26 ?_
        refine lv_aload_n hx hb dX8_apart_27 rfl (lv_at hl 0 rfl) ?_
        refine va_get (D := D) (ci := 8) (v := .ref a_now) (C := RX8) (T := TX8) (N := 38) hx hb hts hinX8 hown hKK.1 hP 0 rfl rfl 8 (by decide) fl_28 (fun _ h9 => h9) rfl dX8_apart_28 ?_
        refine lv_iload_n hx hb dX8_apart_31 rfl (lv_at hl 2 rfl) ?_
        obtain ⟨hin, hw⟩ := hw
        refine va_iald hx hb hKK.1 hP 1 0 rfl rfl hin dX8_apart_32 ?_
        refine lv_ixor hx hb dX8_apart_33 ?_
        refine xcSi (As := [.int ((now p1.toNatClampNeg) ^^^ (now p2.toNatClampNeg))]) (rest := []) (wc := []) ⟨hx, hb, hml, hown, hts⟩ (c_X8_bits l D cI cZ cO hw) (va_cwS 1 hts gX8_apart_X8_bits rfl rfl rfl (by decide +kernel) ⟨Nat.le_of_ble_eq_true rfl, Nat.le_of_ble_eq_true rfl⟩) hKK hP [] rfl rfl hl.1 rfl (Nat.le_of_ble_eq_true rfl) dX8_apart_34 ⟨Nat.zero_le _, Nat.zero_le _⟩ (fun r_34 hw => ?_)
        refine lv_goto (tgt := 42) hx hb dX8_apart_37 (by decide) ?_
        rw [hQ]
        exact W.iret (v := r_34) hx hb hr (fun t ht _ => ⟨r_34, rfl, hw, ht⟩) (fun _ h => (List.not_mem_nil h).elim) dX8_apart_42
def wk_X8_safe_34 (Φ : Int32 → Prop) (x3_34 : Int64) (x5_34 : Int32) : Prop :=
  (Φ (x3_34).toInt32)
def wj_X8_safe_82 (x3_34 : Int64) (x5_34 : Int32) (rec_34 : Int64 → Int32 → Prop) (s0_82 : Int32) : Prop :=
  (rec_34 ((x3_34 * ((100 - s0_82)).toInt64) / 100) (x5_34 + 1))
def wb_X8_safe_34 (days : Int32) (now : Nat → Int32) (dayDanger : Nat → Int32) (p1 : Int32) (p2 : Int32) (K_34 : Int64 → Int32 → Prop) (rec_34 : Int64 → Int32 → Prop) (x3_34 : Int64) (x5_34 : Int32) : Prop :=
  ((p1 ≤ x5_34 → (K_34 x3_34 x5_34)) ∧ (¬ p1 ≤ x5_34 → (wp_X8_dangerOn days dayDanger ((now 11) + x5_34) (fun r_52 => ((100 ≤ (p2 + r_52) → (wj_X8_safe_82 x3_34 x5_34 rec_34 100)) ∧ (¬ 100 ≤ (p2 + r_52) → (wp_X8_dangerOn days dayDanger ((now 11) + x5_34) (fun r_73 => (wj_X8_safe_82 x3_34 x5_34 rec_34 (p2 + r_73))))))))))
def wp_X8_safe (days : Int32) (now : Nat → Int32) (dayDanger : Nat → Int32) (p1 : Int32) (p2 : Int32) (Φ : Int32 → Prop) : Prop :=
  (wp_X8_in (p1).toInt64 0 60 (fun r_6 => ((r_6 = 0 → (Φ (-1000000002))) ∧ (¬ r_6 = 0 → (wp_X8_in (p2).toInt64 0 100 (fun r_18 => ((r_18 = 0 → (Φ (-1000000002))) ∧ (¬ r_18 = 0 → (∃ n : Nat, xit2 (wb_X8_safe_34 days now dayDanger p1 p2 (wk_X8_safe_34 Φ)) n 1000000000 0)))))))))
abbrev xrm_X8_safe : Room := { frames := 1, cells := 0, slots := 0, locals := 25 }
set_option maxRecDepth 100000 in
set_option maxHeartbeats 4000000 in
theorem c_X8_safe (l : Launch) (D : va_G) (cI cZ cO : ClassId) {pay : Int32} {a_weathers : Nat} {a_hours : Nat} {a_fear : Nat} {days : Int32} {a_dayWeather : Nat} {a_dayHour : Nat} {a_dayDanger : Nat} {a_now : Nat} {seed : Int32} {a_text : Nat} {texted : Int32} {faultPlace : Int32} {at0 : Int32} {number : Int32} {numberAt : Int32} {a_readPay : Nat} {readPersons : Int32} {a_readMarks : Nat} {a_readWeathers : Nat} {a_readHours : Nat} {a_readFear : Nat} {readDays : Int32} {a_readWeather : Nat} {a_readHour : Nat} {a_readDanger : Nat} {undos : Int32} {a_past : Nat} {a_morning : Nat} {a_sent : Nat} {watched : Int32} {a_watchedDay : Nat} {a_watchedOut : Nat} {booked : Int32} {a_bookWho : Nat} {a_bookMarks : Nat} {a_images : Nat} {a_isKept : Nat} {a_this : Nat} {now : Nat → Int32} {dayDanger : Nat → Int32} {p1 : Int32} {p2 : Int32} {Φ : Int32 → Prop} (hw : (wp_X8_safe days now dayDanger p1 p2 Φ)) : Met l yX8_safe wsX8_safe xrm_X8_safe (xPR D cI cZ cO [.ref a_this, .int p1, .int p2] [(a_this, .inr (8, [.int pay, .ref a_weathers, .ref a_hours, .ref a_fear, .int days, .ref a_dayWeather, .ref a_dayHour, .ref a_dayDanger, .ref a_now, .int seed, .ref a_text, .int texted, .int faultPlace, .int at0, .int number, .int numberAt, .ref a_readPay, .int readPersons, .ref a_readMarks, .ref a_readWeathers, .ref a_readHours, .ref a_readFear, .int readDays, .ref a_readWeather, .ref a_readHour, .ref a_readDanger, .int undos, .ref a_past, .ref a_morning, .ref a_sent, .int watched, .ref a_watchedDay, .ref a_watchedOut, .int booked, .ref a_bookWho, .ref a_bookMarks, .ref a_images, .ref a_isKept])), (a_now, .inl (cI, 13, .inl now)), (a_dayDanger, .inl (cI, 10, .inl dayDanger))]) (vp_Si Φ) 0 0 (fun _ => False) := by
  refine Met.ofW (cc := cX8_safe) (maxL := 7) (ret := (some .int)) (by decide) rfl ?_
  intro p e s m args below meth c s₁ B hml hv
  obtain ⟨rfl, hP, hKK⟩ := hv
  have hx := B.exec
  have hb := B.bytes
  have hr := B.returns
  have hts := atoms_spec (ws := wsX8_safe) B.pre
  have hown : s.vm.findClass RX8 = some m.cls := findClass_of_methodNamed B.named
  have hlocks := B.notSynchronized
  obtain ⟨Q, hQ⟩ : ∃ Q, Q = MQ below (vp_Si Φ) ([.ref a_this, .int p1, .int p2] : List Value).toArray s 0 0 (fun _ => False) := ⟨_, rfl⟩
  rw [← hQ]
  have hl := lv_entry ([.ref a_this, .int p1, .int p2]) (n := 7) (Nat.le_of_ble_eq_true rfl)
  rw [lg_entry_eq]
  generalize (lg_sl ([.ref a_this, .int p1, .int p2]) ++ List.replicate (7 - (lg_sl ([.ref a_this, .int p1, .int p2])).length) Slot.unset).toArray = ls at hl ⊢
  have hl : lv_has ls 7 [(0, .ref a_this), (1, .int p1), (2, .int p2)] := hl
  generalize ([.ref a_this, .int p1, .int p2] : List Value).toArray = args at hts hQ ⊢
  have hP : va_P D vwCl [(a_this, .inr (8, [.int pay, .ref a_weathers, .ref a_hours, .ref a_fear, .int days, .ref a_dayWeather, .ref a_dayHour, .ref a_dayDanger, .ref a_now, .int seed, .ref a_text, .int texted, .int faultPlace, .int at0, .int number, .int numberAt, .ref a_readPay, .int readPersons, .ref a_readMarks, .ref a_readWeathers, .ref a_readHours, .ref a_readFear, .int readDays, .ref a_readWeather, .ref a_readHour, .ref a_readDanger, .int undos, .ref a_past, .ref a_morning, .ref a_sent, .int watched, .ref a_watchedDay, .ref a_watchedOut, .int booked, .ref a_bookWho, .ref a_bookMarks, .ref a_images, .ref a_isKept])), (a_now, .inl (cI, 13, .inl now)), (a_dayDanger, .inl (cI, 10, .inl dayDanger))] s.heap := hP
  have hinX8 : ∀ w ∈ u_ws RX8 TX8 38, w ∈ wsX8_safe := by decide +kernel
  have fl_28 := hts (.fieldLink RX8 28 "DoubleChainModel" "now" "[I") (by decide +kernel)
  clear B
  show W p l e xrm_X8_safe s m args below meth c s.heap [] 0 0 Q (F0 m 0 ls [])
  unfold wp_X8_safe at hw
  refine lv_iload_n hx hb dX8_safe_0 rfl (lv_at hl 1 rfl) ?_
  refine lv_i2l (v := (p1).toInt64) hx hb dX8_safe_1 rfl ?_
  refine lv_lconst (v := 0) hx hb dX8_safe_2 (by decide) ?_
  refine lv_ldc2 (v := 60) hx hb hown (hts (.constantLong RX8 201 60) (by decide +kernel)) dX8_safe_3 ?_
  refine xcSi (As := [.long (p1).toInt64, .long 0, .long 60]) (rest := []) (wc := []) ⟨hx, hb, hml, hown, hts⟩ (c_X8_in l D cI cZ cO hw) (va_cwS 3 hts gX8_safe_X8_in rfl rfl rfl (by decide +kernel) ⟨Nat.le_of_ble_eq_true rfl, Nat.le_of_ble_eq_true rfl⟩) hKK hP [] rfl rfl hl.1 rfl (Nat.le_of_ble_eq_true rfl) dX8_safe_6 ⟨Nat.zero_le _, Nat.zero_le _⟩ (fun r_6 hw => ?_)
  refine lv_if_eq (tgt := 24) hx hb dX8_safe_9 (by decide) (fun c_9 => ?_) (fun c_9 => ?_)
  · have hw := hw.1 c_9
    refine lv_ldc (v := (-1000000002)) hx hb hown (hts (.constant RX8 103 (-1000000002)) (by decide +kernel)) dX8_safe_24 ?_
    rw [hQ]
    exact W.iret (v := (-1000000002)) hx hb hr (fun t ht _ => ⟨(-1000000002), rfl, hw, ht⟩) (fun _ h => (List.not_mem_nil h).elim) dX8_safe_26
  · have hw := hw.2 c_9
    refine lv_iload_n hx hb dX8_safe_12 rfl (lv_at hl 2 rfl) ?_
    refine lv_i2l (v := (p2).toInt64) hx hb dX8_safe_13 rfl ?_
    refine lv_lconst (v := 0) hx hb dX8_safe_14 (by decide) ?_
    refine lv_ldc2 (v := 100) hx hb hown (hts (.constantLong RX8 253 100) (by decide +kernel)) dX8_safe_15 ?_
    refine xcSi (As := [.long (p2).toInt64, .long 0, .long 100]) (rest := []) (wc := []) ⟨hx, hb, hml, hown, hts⟩ (c_X8_in l D cI cZ cO hw) (va_cwS 3 hts gX8_safe_X8_in rfl rfl rfl (by decide +kernel) ⟨Nat.le_of_ble_eq_true rfl, Nat.le_of_ble_eq_true rfl⟩) hKK hP [] rfl rfl hl.1 rfl (Nat.le_of_ble_eq_true rfl) dX8_safe_18 ⟨Nat.zero_le _, Nat.zero_le _⟩ (fun r_18 hw => ?_)
    refine lv_if_ne (tgt := 27) hx hb dX8_safe_21 (by decide) (fun c_21 => ?_) (fun c_21 => ?_)
    · have hw := hw.2 c_21
      refine lv_ldc2 (v := 1000000000) hx hb hown (hts (.constantLong RX8 255 1000000000) (by decide +kernel)) dX8_safe_27 ?_
      refine lv_lstore_n (lv' := [(3, .long 1000000000), (0, .ref a_this), (1, .int p1), (2, .int p2)]) hx hb dX8_safe_30 rfl hl (by decide) rfl (fun ls hl => ?_)
      refine lv_iconst (v := 0) hx hb dX8_safe_31 (by decide) ?_
      refine lv_istore (lv' := [(5, .int 0), (3, .long 1000000000), (0, .ref a_this), (1, .int p1), (2, .int p2)]) hx hb dX8_safe_32 hl (by decide) rfl (fun ls hl => ?_)
      have EX_34 : ∀ (x3_34 : Int64) (x5_34 : Int32), ∀ (ls : Array Slot), lv_has ls 7 [(0, .ref a_this), (1, .int p1), (2, .int p2), (3, .long x3_34), (5, .int x5_34)] → (wk_X8_safe_34 Φ x3_34 x5_34) → W p l e xrm_X8_safe s m args below meth c s.heap [] 0 0 Q (F0 m 103 ls []) := by
        intro x3_34 x5_34 ls hl hw
        unfold wk_X8_safe_34 at hw
        refine lv_lload_n hx hb dX8_safe_103 rfl (lv_at hl 3 rfl) ?_
        refine lv_l2i (v := (x3_34).toInt32) hx hb dX8_safe_104 rfl ?_
        rw [hQ]
        exact W.iret (v := (x3_34).toInt32) hx hb hr (fun t ht _ => ⟨(x3_34).toInt32, rfl, hw, ht⟩) (fun _ h => (List.not_mem_nil h).elim) dX8_safe_105
      generalize (wk_X8_safe_34 Φ) = K_34 at EX_34 hw
      have LP_34 : ∀ n : Nat, ∀ (x3_34 : Int64) (x5_34 : Int32), ∀ (ls : Array Slot), lv_has ls 7 [(0, .ref a_this), (1, .int p1), (2, .int p2), (3, .long x3_34), (5, .int x5_34)] → xit2 (wb_X8_safe_34 days now dayDanger p1 p2 K_34) n x3_34 x5_34 → W p l e xrm_X8_safe s m args below meth c s.heap [] 0 0 Q (F0 m 34 ls []) := by
        intro n
        induction n with
        | zero => intro x3_34 x5_34 ls hl hw; exact (show False from hw).elim
        | succ n ih =>
          intro x3_34 x5_34 ls hl hw
          have hw : wb_X8_safe_34 days now dayDanger p1 p2 K_34 (xit2 (wb_X8_safe_34 days now dayDanger p1 p2 K_34) n) x3_34 x5_34 := hw
          generalize xit2 (wb_X8_safe_34 days now dayDanger p1 p2 K_34) n = rec_34 at ih hw
          unfold wb_X8_safe_34 at hw
          have JN_82 : ∀ (s0_82 : Int32), ∀ (ls : Array Slot), lv_has ls 7 [(0, .ref a_this), (1, .int p1), (2, .int p2), (3, .long x3_34), (5, .int x5_34)] → (wj_X8_safe_82 x3_34 x5_34 rec_34 s0_82) → W p l e xrm_X8_safe s m args below meth c s.heap [] 0 0 Q (F0 m 82 ls [.int s0_82]) := by
            intro s0_82 ls hl hw
            unfold wj_X8_safe_82 at hw
            refine lv_istore (lv' := [(6, .int s0_82), (0, .ref a_this), (1, .int p1), (2, .int p2), (3, .long x3_34), (5, .int x5_34)]) hx hb dX8_safe_82 hl (by decide) rfl (fun ls hl => ?_)
            refine lv_lload_n hx hb dX8_safe_84 rfl (lv_at hl 4 rfl) ?_
            refine lv_bipush (v := 100) hx hb dX8_safe_85 (by decide) ?_
            refine lv_iload hx hb dX8_safe_87 (lv_at hl 0 rfl) ?_
            refine lv_isub hx hb dX8_safe_89 ?_
            refine lv_i2l (v := ((100 - s0_82)).toInt64) hx hb dX8_safe_90 rfl ?_
            refine lv_lmul hx hb dX8_safe_91 ?_
            refine lv_ldc2 (v := 100) hx hb hown (hts (.constantLong RX8 253 100) (by decide +kernel)) dX8_safe_92 ?_
            refine lv_ldiv hx hb dX8_safe_95 (by decide) ?_
            refine lv_lstore_n (lv' := [(3, .long ((x3_34 * ((100 - s0_82)).toInt64) / 100)), (6, .int s0_82), (0, .ref a_this), (1, .int p1), (2, .int p2), (5, .int x5_34)]) hx hb dX8_safe_96 rfl hl (by decide) rfl (fun ls hl => ?_)
            refine lv_iinc (v := (x5_34 + 1)) (lv' := [(5, .int (x5_34 + 1)), (3, .long ((x3_34 * ((100 - s0_82)).toInt64) / 100)), (6, .int s0_82), (0, .ref a_this), (1, .int p1), (2, .int p2)]) hx hb dX8_safe_97 hl (k := 5) rfl (by rfl) (by decide) rfl (fun ls hl => ?_)
            refine lv_goto (tgt := 34) hx hb dX8_safe_100 (by decide) ?_
            exact ih _ _ ls (lv_sub hl [3, 4, 5, 1, 0] rfl) hw
          refine lv_iload hx hb dX8_safe_34 (lv_at hl 4 rfl) ?_
          refine lv_iload_n hx hb dX8_safe_36 rfl (lv_at hl 1 rfl) ?_
          refine lv_icmp_ge (tgt := 103) hx hb dX8_safe_37 (by decide) (fun c_37 => ?_) (fun c_37 => ?_)
          · have hw := hw.1 c_37
            exact EX_34 _ _ ls (lv_sub hl [0, 1, 2, 3, 4] rfl) hw
          · have hw := hw.2 c_37
            refine lv_iload_n hx hb dX8_safe_40 rfl (lv_at hl 2 rfl) ?_
            refine lv_aload_n hx hb dX8_safe_41 rfl (lv_at hl 0 rfl) ?_
            refine lv_aload_n hx hb dX8_safe_42 rfl (lv_at hl 0 rfl) ?_
            refine va_get (D := D) (ci := 8) (v := .ref a_now) (C := RX8) (T := TX8) (N := 38) hx hb hts hinX8 hown hKK.1 hP 0 rfl rfl 8 (by decide) fl_28 (fun _ h9 => h9) rfl dX8_safe_43 ?_
            refine lv_bipush (v := 11) hx hb dX8_safe_46 (by decide) ?_
            refine x_iald 11 (by decide) (Nat.le_of_ble_eq_true rfl) hx hb hKK.1 hP 1 0 rfl rfl dX8_safe_48 ?_
            refine lv_iload hx hb dX8_safe_49 (lv_at hl 4 rfl) ?_
            refine lv_iadd hx hb dX8_safe_51 ?_
            refine xcVi (q0 := 0) (ci := 8) (As := [.int ((now 11) + x5_34)]) (rest := [.int p2]) (wc := [(a_this, .inr (8, [.int pay, .ref a_weathers, .ref a_hours, .ref a_fear, .int days, .ref a_dayWeather, .ref a_dayHour, .ref a_dayDanger, .ref a_now, .int seed, .ref a_text, .int texted, .int faultPlace, .int at0, .int number, .int numberAt, .ref a_readPay, .int readPersons, .ref a_readMarks, .ref a_readWeathers, .ref a_readHours, .ref a_readFear, .int readDays, .ref a_readWeather, .ref a_readHour, .ref a_readDanger, .int undos, .ref a_past, .ref a_morning, .ref a_sent, .int watched, .ref a_watchedDay, .ref a_watchedOut, .int booked, .ref a_bookWho, .ref a_bookMarks, .ref a_images, .ref a_isKept])), (a_dayDanger, .inl (cI, 10, .inl dayDanger))]) ⟨hx, hb, hml, hown, hts⟩ (c_X8_dangerOn l D cI cZ cO hw) (cwV 1 hts gX8_safe_X8_dangerOn rfl rfl rfl (by decide +kernel) ⟨Nat.le_of_ble_eq_true rfl, Nat.le_of_ble_eq_true rfl⟩) hKK hP [0, 2] rfl rfl rfl rfl hl.1 rfl (Nat.le_of_ble_eq_true rfl) dX8_safe_52 ⟨Nat.zero_le _, Nat.zero_le _⟩ (fun r_52 hw => ?_)
            refine lv_iadd hx hb dX8_safe_55 ?_
            refine lv_bipush (v := 100) hx hb dX8_safe_56 (by decide) ?_
            refine lv_icmp_ge (tgt := 80) hx hb dX8_safe_58 (by decide) (fun c_58 => ?_) (fun c_58 => ?_)
            · have hw := hw.1 c_58
              refine lv_bipush (v := 100) hx hb dX8_safe_80 (by decide) ?_
              exact JN_82 _ ls (lv_sub hl [0, 1, 2, 3, 4] rfl) hw
            · have hw := hw.2 c_58
              refine lv_iload_n hx hb dX8_safe_61 rfl (lv_at hl 2 rfl) ?_
              refine lv_aload_n hx hb dX8_safe_62 rfl (lv_at hl 0 rfl) ?_
              refine lv_aload_n hx hb dX8_safe_63 rfl (lv_at hl 0 rfl) ?_
              refine va_get (D := D) (ci := 8) (v := .ref a_now) (C := RX8) (T := TX8) (N := 38) hx hb hts hinX8 hown hKK.1 hP 0 rfl rfl 8 (by decide) fl_28 (fun _ h9 => h9) rfl dX8_safe_64 ?_
              refine lv_bipush (v := 11) hx hb dX8_safe_67 (by decide) ?_
              refine x_iald 11 (by decide) (Nat.le_of_ble_eq_true rfl) hx hb hKK.1 hP 1 0 rfl rfl dX8_safe_69 ?_
              refine lv_iload hx hb dX8_safe_70 (lv_at hl 4 rfl) ?_
              refine lv_iadd hx hb dX8_safe_72 ?_
              refine xcVi (q0 := 0) (ci := 8) (As := [.int ((now 11) + x5_34)]) (rest := [.int p2]) (wc := [(a_this, .inr (8, [.int pay, .ref a_weathers, .ref a_hours, .ref a_fear, .int days, .ref a_dayWeather, .ref a_dayHour, .ref a_dayDanger, .ref a_now, .int seed, .ref a_text, .int texted, .int faultPlace, .int at0, .int number, .int numberAt, .ref a_readPay, .int readPersons, .ref a_readMarks, .ref a_readWeathers, .ref a_readHours, .ref a_readFear, .int readDays, .ref a_readWeather, .ref a_readHour, .ref a_readDanger, .int undos, .ref a_past, .ref a_morning, .ref a_sent, .int watched, .ref a_watchedDay, .ref a_watchedOut, .int booked, .ref a_bookWho, .ref a_bookMarks, .ref a_images, .ref a_isKept])), (a_dayDanger, .inl (cI, 10, .inl dayDanger))]) ⟨hx, hb, hml, hown, hts⟩ (c_X8_dangerOn l D cI cZ cO hw) (cwV 1 hts gX8_safe_X8_dangerOn rfl rfl rfl (by decide +kernel) ⟨Nat.le_of_ble_eq_true rfl, Nat.le_of_ble_eq_true rfl⟩) hKK hP [0, 2] rfl rfl rfl rfl hl.1 rfl (Nat.le_of_ble_eq_true rfl) dX8_safe_73 ⟨Nat.zero_le _, Nat.zero_le _⟩ (fun r_73 hw => ?_)
              refine lv_iadd hx hb dX8_safe_76 ?_
              refine lv_goto (tgt := 82) hx hb dX8_safe_77 (by decide) ?_
              exact JN_82 _ ls (lv_sub hl [0, 1, 2, 3, 4] rfl) hw
      obtain ⟨n, hw⟩ := hw
      exact LP_34 n _ _ ls (lv_sub hl [2, 3, 4, 1, 0] rfl) hw
    · have hw := hw.1 c_21
      refine lv_ldc (v := (-1000000002)) hx hb hown (hts (.constant RX8 103 (-1000000002)) (by decide +kernel)) dX8_safe_24 ?_
      rw [hQ]
      exact W.iret (v := (-1000000002)) hx hb hr (fun t ht _ => ⟨(-1000000002), rfl, hw, ht⟩) (fun _ h => (List.not_mem_nil h).elim) dX8_safe_26
def wp_X8_watch (days : Int32) (watched : Int32) (watchedDay : Nat → Int32) (watchedOut : Nat → Int32) (p1 : Int32) (p2 : Int32) (Φ : Int32 → (Nat → Int32) → (Nat → Int32) → Int32 → Prop) : Prop :=
  (wp_X8_in (p1).toInt64 0 ((days - 1)).toInt64 (fun r_10 => ((r_10 = 0 → (Φ (-1000000001) watchedDay watchedOut watched)) ∧ (¬ r_10 = 0 → ((watched = 8 → (Φ (-1000000004) watchedDay watchedOut watched)) ∧ (¬ watched = 8 → (vp_in watched 8 ∧ (vp_in watched 8 ∧ (Φ (watched + 1) (upd watchedDay watched.toNatClampNeg p1) (upd watchedOut watched.toNatClampNeg (vp_nar .boolean p2)) (watched + 1))))))))))
abbrev xrm_X8_watch : Room := { frames := 1, cells := 0, slots := 0, locals := 25 }
set_option maxRecDepth 100000 in
set_option maxHeartbeats 4000000 in
theorem c_X8_watch (l : Launch) (D : va_G) (cI cZ cO : ClassId) {pay : Int32} {a_weathers : Nat} {a_hours : Nat} {a_fear : Nat} {days : Int32} {a_dayWeather : Nat} {a_dayHour : Nat} {a_dayDanger : Nat} {a_now : Nat} {seed : Int32} {a_text : Nat} {texted : Int32} {faultPlace : Int32} {at0 : Int32} {number : Int32} {numberAt : Int32} {a_readPay : Nat} {readPersons : Int32} {a_readMarks : Nat} {a_readWeathers : Nat} {a_readHours : Nat} {a_readFear : Nat} {readDays : Int32} {a_readWeather : Nat} {a_readHour : Nat} {a_readDanger : Nat} {undos : Int32} {a_past : Nat} {a_morning : Nat} {a_sent : Nat} {watched : Int32} {a_watchedDay : Nat} {a_watchedOut : Nat} {booked : Int32} {a_bookWho : Nat} {a_bookMarks : Nat} {a_images : Nat} {a_isKept : Nat} {a_this : Nat} {watchedDay : Nat → Int32} {watchedOut : Nat → Int32} {p1 : Int32} {p2 : Int32} {Φ : Int32 → (Nat → Int32) → (Nat → Int32) → Int32 → Prop} {sz : Nat} (hw : (wp_X8_watch days watched watchedDay watchedOut p1 p2 Φ)) : Met l yX8_watch wsX8_watch xrm_X8_watch (xPW D cI cZ cO [.ref a_this, .int p1, .int p2] sz [(a_this, .inr (8, [.int pay, .ref a_weathers, .ref a_hours, .ref a_fear, .int days, .ref a_dayWeather, .ref a_dayHour, .ref a_dayDanger, .ref a_now, .int seed, .ref a_text, .int texted, .int faultPlace, .int at0, .int number, .int numberAt, .ref a_readPay, .int readPersons, .ref a_readMarks, .ref a_readWeathers, .ref a_readHours, .ref a_readFear, .int readDays, .ref a_readWeather, .ref a_readHour, .ref a_readDanger, .int undos, .ref a_past, .ref a_morning, .ref a_sent, .int watched, .ref a_watchedDay, .ref a_watchedOut, .int booked, .ref a_bookWho, .ref a_bookMarks, .ref a_images, .ref a_isKept])), (a_watchedDay, .inl (cI, 8, .inl watchedDay)), (a_watchedOut, .inl (cZ, 8, .inl watchedOut))]) (va_Qi (fun (r : Int32) (u : (Nat → Int32) × (Nat → Int32) × Int32) => Φ r u.1 u.2.1 u.2.2) (xB D (va_A [(a_this, .inr (8, [.int pay, .ref a_weathers, .ref a_hours, .ref a_fear, .int days, .ref a_dayWeather, .ref a_dayHour, .ref a_dayDanger, .ref a_now, .int seed, .ref a_text, .int texted, .int faultPlace, .int at0, .int number, .int numberAt, .ref a_readPay, .int readPersons, .ref a_readMarks, .ref a_readWeathers, .ref a_readHours, .ref a_readFear, .int readDays, .ref a_readWeather, .ref a_readHour, .ref a_readDanger, .int undos, .ref a_past, .ref a_morning, .ref a_sent, .int watched, .ref a_watchedDay, .ref a_watchedOut, .int booked, .ref a_bookWho, .ref a_bookMarks, .ref a_images, .ref a_isKept])), (a_watchedDay, .inl (cI, 8, .inl watchedDay)), (a_watchedOut, .inl (cZ, 8, .inl watchedOut))] sz) (fun (u : (Nat → Int32) × (Nat → Int32) × Int32) => [(a_this, .inr (8, [.int pay, .ref a_weathers, .ref a_hours, .ref a_fear, .int days, .ref a_dayWeather, .ref a_dayHour, .ref a_dayDanger, .ref a_now, .int seed, .ref a_text, .int texted, .int faultPlace, .int at0, .int number, .int numberAt, .ref a_readPay, .int readPersons, .ref a_readMarks, .ref a_readWeathers, .ref a_readHours, .ref a_readFear, .int readDays, .ref a_readWeather, .ref a_readHour, .ref a_readDanger, .int undos, .ref a_past, .ref a_morning, .ref a_sent, .int u.2.2, .ref a_watchedDay, .ref a_watchedOut, .int booked, .ref a_bookWho, .ref a_bookMarks, .ref a_images, .ref a_isKept])), (a_watchedDay, .inl (cI, 8, .inl u.1)), (a_watchedOut, .inl (cZ, 8, .inl u.2.1))])) (va_A [(a_this, .inr (8, [.int pay, .ref a_weathers, .ref a_hours, .ref a_fear, .int days, .ref a_dayWeather, .ref a_dayHour, .ref a_dayDanger, .ref a_now, .int seed, .ref a_text, .int texted, .int faultPlace, .int at0, .int number, .int numberAt, .ref a_readPay, .int readPersons, .ref a_readMarks, .ref a_readWeathers, .ref a_readHours, .ref a_readFear, .int readDays, .ref a_readWeather, .ref a_readHour, .ref a_readDanger, .int undos, .ref a_past, .ref a_morning, .ref a_sent, .int watched, .ref a_watchedDay, .ref a_watchedOut, .int booked, .ref a_bookWho, .ref a_bookMarks, .ref a_images, .ref a_isKept])), (a_watchedDay, .inl (cI, 8, .inl watchedDay)), (a_watchedOut, .inl (cZ, 8, .inl watchedOut))] sz)) 0 0 (va_A [(a_this, .inr (8, [.int pay, .ref a_weathers, .ref a_hours, .ref a_fear, .int days, .ref a_dayWeather, .ref a_dayHour, .ref a_dayDanger, .ref a_now, .int seed, .ref a_text, .int texted, .int faultPlace, .int at0, .int number, .int numberAt, .ref a_readPay, .int readPersons, .ref a_readMarks, .ref a_readWeathers, .ref a_readHours, .ref a_readFear, .int readDays, .ref a_readWeather, .ref a_readHour, .ref a_readDanger, .int undos, .ref a_past, .ref a_morning, .ref a_sent, .int watched, .ref a_watchedDay, .ref a_watchedOut, .int booked, .ref a_bookWho, .ref a_bookMarks, .ref a_images, .ref a_isKept])), (a_watchedDay, .inl (cI, 8, .inl watchedDay)), (a_watchedOut, .inl (cZ, 8, .inl watchedOut))] sz) := by
  refine Met.ofW (cc := cX8_watch) (maxL := 3) (ret := (some .int)) (by decide) rfl ?_
  intro p e s m args below meth c s₁ B hml hv
  obtain ⟨rfl, hsz, hP, hKK, hD0⟩ := hv
  have hx := B.exec
  have hb := B.bytes
  have hr := B.returns
  have hts := atoms_spec (ws := wsX8_watch) B.pre
  have hown : s.vm.findClass RX8 = some m.cls := findClass_of_methodNamed B.named
  have hlocks := B.notSynchronized
  subst hsz
  have hD := hD0.self (sz := s.heap.size)
  obtain ⟨Q, hQ⟩ : ∃ Q, Q = MQ below (va_Qi (fun (r : Int32) (u : (Nat → Int32) × (Nat → Int32) × Int32) => Φ r u.1 u.2.1 u.2.2) (xB D (va_A [(a_this, .inr (8, [.int pay, .ref a_weathers, .ref a_hours, .ref a_fear, .int days, .ref a_dayWeather, .ref a_dayHour, .ref a_dayDanger, .ref a_now, .int seed, .ref a_text, .int texted, .int faultPlace, .int at0, .int number, .int numberAt, .ref a_readPay, .int readPersons, .ref a_readMarks, .ref a_readWeathers, .ref a_readHours, .ref a_readFear, .int readDays, .ref a_readWeather, .ref a_readHour, .ref a_readDanger, .int undos, .ref a_past, .ref a_morning, .ref a_sent, .int watched, .ref a_watchedDay, .ref a_watchedOut, .int booked, .ref a_bookWho, .ref a_bookMarks, .ref a_images, .ref a_isKept])), (a_watchedDay, .inl (cI, 8, .inl watchedDay)), (a_watchedOut, .inl (cZ, 8, .inl watchedOut))] s.heap.size) (fun (u : (Nat → Int32) × (Nat → Int32) × Int32) => [(a_this, .inr (8, [.int pay, .ref a_weathers, .ref a_hours, .ref a_fear, .int days, .ref a_dayWeather, .ref a_dayHour, .ref a_dayDanger, .ref a_now, .int seed, .ref a_text, .int texted, .int faultPlace, .int at0, .int number, .int numberAt, .ref a_readPay, .int readPersons, .ref a_readMarks, .ref a_readWeathers, .ref a_readHours, .ref a_readFear, .int readDays, .ref a_readWeather, .ref a_readHour, .ref a_readDanger, .int undos, .ref a_past, .ref a_morning, .ref a_sent, .int u.2.2, .ref a_watchedDay, .ref a_watchedOut, .int booked, .ref a_bookWho, .ref a_bookMarks, .ref a_images, .ref a_isKept])), (a_watchedDay, .inl (cI, 8, .inl u.1)), (a_watchedOut, .inl (cZ, 8, .inl u.2.1))])) (va_A [(a_this, .inr (8, [.int pay, .ref a_weathers, .ref a_hours, .ref a_fear, .int days, .ref a_dayWeather, .ref a_dayHour, .ref a_dayDanger, .ref a_now, .int seed, .ref a_text, .int texted, .int faultPlace, .int at0, .int number, .int numberAt, .ref a_readPay, .int readPersons, .ref a_readMarks, .ref a_readWeathers, .ref a_readHours, .ref a_readFear, .int readDays, .ref a_readWeather, .ref a_readHour, .ref a_readDanger, .int undos, .ref a_past, .ref a_morning, .ref a_sent, .int watched, .ref a_watchedDay, .ref a_watchedOut, .int booked, .ref a_bookWho, .ref a_bookMarks, .ref a_images, .ref a_isKept])), (a_watchedDay, .inl (cI, 8, .inl watchedDay)), (a_watchedOut, .inl (cZ, 8, .inl watchedOut))] s.heap.size)) ([.ref a_this, .int p1, .int p2] : List Value).toArray s 0 0 (va_A [(a_this, .inr (8, [.int pay, .ref a_weathers, .ref a_hours, .ref a_fear, .int days, .ref a_dayWeather, .ref a_dayHour, .ref a_dayDanger, .ref a_now, .int seed, .ref a_text, .int texted, .int faultPlace, .int at0, .int number, .int numberAt, .ref a_readPay, .int readPersons, .ref a_readMarks, .ref a_readWeathers, .ref a_readHours, .ref a_readFear, .int readDays, .ref a_readWeather, .ref a_readHour, .ref a_readDanger, .int undos, .ref a_past, .ref a_morning, .ref a_sent, .int watched, .ref a_watchedDay, .ref a_watchedOut, .int booked, .ref a_bookWho, .ref a_bookMarks, .ref a_images, .ref a_isKept])), (a_watchedDay, .inl (cI, 8, .inl watchedDay)), (a_watchedOut, .inl (cZ, 8, .inl watchedOut))] s.heap.size) := ⟨_, rfl⟩
  rw [← hQ]
  generalize hAe : va_A [(a_this, .inr (8, [.int pay, .ref a_weathers, .ref a_hours, .ref a_fear, .int days, .ref a_dayWeather, .ref a_dayHour, .ref a_dayDanger, .ref a_now, .int seed, .ref a_text, .int texted, .int faultPlace, .int at0, .int number, .int numberAt, .ref a_readPay, .int readPersons, .ref a_readMarks, .ref a_readWeathers, .ref a_readHours, .ref a_readFear, .int readDays, .ref a_readWeather, .ref a_readHour, .ref a_readDanger, .int undos, .ref a_past, .ref a_morning, .ref a_sent, .int watched, .ref a_watchedDay, .ref a_watchedOut, .int booked, .ref a_bookWho, .ref a_bookMarks, .ref a_images, .ref a_isKept])), (a_watchedDay, .inl (cI, 8, .inl watchedDay)), (a_watchedOut, .inl (cZ, 8, .inl watchedOut))] s.heap.size = A at hD hQ
  have hA : ∀ q : Nat, s.heap.size ≤ q → A q := fun q h => by rw [← hAe]; exact Or.inr h
  have hS : va_S A s.heap s.heap [] := va_S.rf
  have hl := lv_entry ([.ref a_this, .int p1, .int p2]) (n := 3) (Nat.le_of_ble_eq_true rfl)
  rw [lg_entry_eq]
  generalize (lg_sl ([.ref a_this, .int p1, .int p2]) ++ List.replicate (3 - (lg_sl ([.ref a_this, .int p1, .int p2])).length) Slot.unset).toArray = ls at hl ⊢
  have hl : lv_has ls 3 [(0, .ref a_this), (1, .int p1), (2, .int p2)] := hl
  generalize ([.ref a_this, .int p1, .int p2] : List Value).toArray = args at hts hQ ⊢
  have hP : va_P D vwCl [(a_this, .inr (8, [.int pay, .ref a_weathers, .ref a_hours, .ref a_fear, .int days, .ref a_dayWeather, .ref a_dayHour, .ref a_dayDanger, .ref a_now, .int seed, .ref a_text, .int texted, .int faultPlace, .int at0, .int number, .int numberAt, .ref a_readPay, .int readPersons, .ref a_readMarks, .ref a_readWeathers, .ref a_readHours, .ref a_readFear, .int readDays, .ref a_readWeather, .ref a_readHour, .ref a_readDanger, .int undos, .ref a_past, .ref a_morning, .ref a_sent, .int watched, .ref a_watchedDay, .ref a_watchedOut, .int booked, .ref a_bookWho, .ref a_bookMarks, .ref a_images, .ref a_isKept])), (a_watchedDay, .inl (cI, 8, .inl watchedDay)), (a_watchedOut, .inl (cZ, 8, .inl watchedOut))] s.heap := hP
  have hinX8 : ∀ w ∈ u_ws RX8 TX8 38, w ∈ wsX8_watch := by decide +kernel
  have fl_71 := hts (.fieldLink RX8 71 "DoubleChainModel" "watchedDay" "[I") (by decide +kernel)
  have fl_74 := hts (.fieldLink RX8 74 "DoubleChainModel" "watchedOut" "[Z") (by decide +kernel)
  have fl_148 := hts (.fieldLink RX8 148 "DoubleChainModel" "days" "I") (by decide +kernel)
  have fl_157 := hts (.fieldLink RX8 157 "DoubleChainModel" "watched" "I") (by decide +kernel)
  clear B
  show W p l e xrm_X8_watch s m args below meth c s.heap [] 0 0 Q (F0 m 0 ls [])
  unfold wp_X8_watch at hw
  refine lv_iload_n hx hb dX8_watch_0 rfl (lv_at hl 1 rfl) ?_
  refine lv_i2l (v := (p1).toInt64) hx hb dX8_watch_1 rfl ?_
  refine lv_lconst (v := 0) hx hb dX8_watch_2 (by decide) ?_
  refine lv_aload_n hx hb dX8_watch_3 rfl (lv_at hl 0 rfl) ?_
  refine va_get (D := D) (ci := 8) (v := .int days) (C := RX8) (T := TX8) (N := 38) hx hb hts hinX8 hown hKK.1 hP 0 rfl rfl 4 (by decide) fl_148 (fun _ h9 => h9) rfl dX8_watch_4 ?_
  refine lv_iconst (v := 1) hx hb dX8_watch_7 (by decide) ?_
  refine lv_isub hx hb dX8_watch_8 ?_
  refine lv_i2l (v := ((days - 1)).toInt64) hx hb dX8_watch_9 rfl ?_
  refine xcSi (As := [.long (p1).toInt64, .long 0, .long ((days - 1)).toInt64]) (rest := []) (wc := []) ⟨hx, hb, hml, hown, hts⟩ (c_X8_in l D cI cZ cO hw) (va_cwS 3 hts gX8_watch_X8_in rfl rfl rfl (by decide +kernel) ⟨Nat.le_of_ble_eq_true rfl, Nat.le_of_ble_eq_true rfl⟩) hKK hP [] rfl rfl hl.1 rfl (Nat.le_of_ble_eq_true rfl) dX8_watch_10 ⟨Nat.zero_le _, Nat.zero_le _⟩ (fun r_10 hw => ?_)
  refine lv_if_ne (tgt := 19) hx hb dX8_watch_13 (by decide) (fun c_13 => ?_) (fun c_13 => ?_)
  · have hw := hw.2 c_13
    refine lv_aload_n hx hb dX8_watch_19 rfl (lv_at hl 0 rfl) ?_
    refine va_get (D := D) (ci := 8) (v := .int watched) (C := RX8) (T := TX8) (N := 38) hx hb hts hinX8 hown hKK.1 hP 0 rfl rfl 30 (by decide) fl_157 (fun _ h9 => h9) rfl dX8_watch_20 ?_
    refine lv_bipush (v := 8) hx hb dX8_watch_23 (by decide) ?_
    refine lv_icmp_ne (tgt := 31) hx hb dX8_watch_25 (by decide) (fun c_25 => ?_) (fun c_25 => ?_)
    · have hw := hw.2 c_25
      refine lv_aload_n hx hb dX8_watch_31 rfl (lv_at hl 0 rfl) ?_
      refine va_get (D := D) (ci := 8) (v := .ref a_watchedDay) (C := RX8) (T := TX8) (N := 38) hx hb hts hinX8 hown hKK.1 hP 0 rfl rfl 31 (by decide) fl_71 (fun _ h9 => h9) rfl dX8_watch_32 ?_
      refine lv_aload_n hx hb dX8_watch_35 rfl (lv_at hl 0 rfl) ?_
      refine va_get (D := D) (ci := 8) (v := .int watched) (C := RX8) (T := TX8) (N := 38) hx hb hts hinX8 hown hKK.1 hP 0 rfl rfl 30 (by decide) fl_157 (fun _ h9 => h9) rfl dX8_watch_36 ?_
      refine lv_iload_n hx hb dX8_watch_39 rfl (lv_at hl 1 rfl) ?_
      obtain ⟨hin, hw⟩ := hw
      refine va_iast hx hb hKK.1 hP hD hS 1 0 rfl rfl hin dX8_watch_40 (fun H locs hP hD hS => ?_)
      have hP : va_P D vwCl [(a_this, .inr (8, [.int pay, .ref a_weathers, .ref a_hours, .ref a_fear, .int days, .ref a_dayWeather, .ref a_dayHour, .ref a_dayDanger, .ref a_now, .int seed, .ref a_text, .int texted, .int faultPlace, .int at0, .int number, .int numberAt, .ref a_readPay, .int readPersons, .ref a_readMarks, .ref a_readWeathers, .ref a_readHours, .ref a_readFear, .int readDays, .ref a_readWeather, .ref a_readHour, .ref a_readDanger, .int undos, .ref a_past, .ref a_morning, .ref a_sent, .int watched, .ref a_watchedDay, .ref a_watchedOut, .int booked, .ref a_bookWho, .ref a_bookMarks, .ref a_images, .ref a_isKept])), (a_watchedDay, .inl (cI, 8, .inl (upd watchedDay watched.toNatClampNeg p1))), (a_watchedOut, .inl (cZ, 8, .inl watchedOut))] H := hP
      have hD : va_D A [(a_this, .inr (8, [.int pay, .ref a_weathers, .ref a_hours, .ref a_fear, .int days, .ref a_dayWeather, .ref a_dayHour, .ref a_dayDanger, .ref a_now, .int seed, .ref a_text, .int texted, .int faultPlace, .int at0, .int number, .int numberAt, .ref a_readPay, .int readPersons, .ref a_readMarks, .ref a_readWeathers, .ref a_readHours, .ref a_readFear, .int readDays, .ref a_readWeather, .ref a_readHour, .ref a_readDanger, .int undos, .ref a_past, .ref a_morning, .ref a_sent, .int watched, .ref a_watchedDay, .ref a_watchedOut, .int booked, .ref a_bookWho, .ref a_bookMarks, .ref a_images, .ref a_isKept])), (a_watchedDay, .inl (cI, 8, .inl (upd watchedDay watched.toNatClampNeg p1))), (a_watchedOut, .inl (cZ, 8, .inl watchedOut))] := hD
      refine lv_aload_n hx hb dX8_watch_41 rfl (lv_at hl 0 rfl) ?_
      refine va_get (D := D) (ci := 8) (v := .ref a_watchedOut) (C := RX8) (T := TX8) (N := 38) hx hb hts hinX8 hown hKK.1 hP 0 rfl rfl 32 (by decide) fl_74 (fun _ h9 => h9) rfl dX8_watch_42 ?_
      refine lv_aload_n hx hb dX8_watch_45 rfl (lv_at hl 0 rfl) ?_
      refine va_get (D := D) (ci := 8) (v := .int watched) (C := RX8) (T := TX8) (N := 38) hx hb hts hinX8 hown hKK.1 hP 0 rfl rfl 30 (by decide) fl_157 (fun _ h9 => h9) rfl dX8_watch_46 ?_
      refine lv_iload_n hx hb dX8_watch_49 rfl (lv_at hl 2 rfl) ?_
      obtain ⟨hin, hw⟩ := hw
      refine va_zast hx hb hKK.1 hP hD hS 2 1 rfl rfl hin dX8_watch_50 (fun H locs hP hD hS => ?_)
      have hP : va_P D vwCl [(a_this, .inr (8, [.int pay, .ref a_weathers, .ref a_hours, .ref a_fear, .int days, .ref a_dayWeather, .ref a_dayHour, .ref a_dayDanger, .ref a_now, .int seed, .ref a_text, .int texted, .int faultPlace, .int at0, .int number, .int numberAt, .ref a_readPay, .int readPersons, .ref a_readMarks, .ref a_readWeathers, .ref a_readHours, .ref a_readFear, .int readDays, .ref a_readWeather, .ref a_readHour, .ref a_readDanger, .int undos, .ref a_past, .ref a_morning, .ref a_sent, .int watched, .ref a_watchedDay, .ref a_watchedOut, .int booked, .ref a_bookWho, .ref a_bookMarks, .ref a_images, .ref a_isKept])), (a_watchedDay, .inl (cI, 8, .inl (upd watchedDay watched.toNatClampNeg p1))), (a_watchedOut, .inl (cZ, 8, .inl (upd watchedOut watched.toNatClampNeg (vp_nar .boolean p2))))] H := hP
      have hD : va_D A [(a_this, .inr (8, [.int pay, .ref a_weathers, .ref a_hours, .ref a_fear, .int days, .ref a_dayWeather, .ref a_dayHour, .ref a_dayDanger, .ref a_now, .int seed, .ref a_text, .int texted, .int faultPlace, .int at0, .int number, .int numberAt, .ref a_readPay, .int readPersons, .ref a_readMarks, .ref a_readWeathers, .ref a_readHours, .ref a_readFear, .int readDays, .ref a_readWeather, .ref a_readHour, .ref a_readDanger, .int undos, .ref a_past, .ref a_morning, .ref a_sent, .int watched, .ref a_watchedDay, .ref a_watchedOut, .int booked, .ref a_bookWho, .ref a_bookMarks, .ref a_images, .ref a_isKept])), (a_watchedDay, .inl (cI, 8, .inl (upd watchedDay watched.toNatClampNeg p1))), (a_watchedOut, .inl (cZ, 8, .inl (upd watchedOut watched.toNatClampNeg (vp_nar .boolean p2))))] := hD
      refine lv_aload_n hx hb dX8_watch_51 rfl (lv_at hl 0 rfl) ?_
      refine lv_dup hx hb dX8_watch_52 rfl ?_
      refine va_get (D := D) (ci := 8) (v := .int watched) (C := RX8) (T := TX8) (N := 38) hx hb hts hinX8 hown hKK.1 hP 0 rfl rfl 30 (by decide) fl_157 (fun _ h9 => h9) rfl dX8_watch_53 ?_
      refine lv_iconst (v := 1) hx hb dX8_watch_56 (by decide) ?_
      refine lv_iadd hx hb dX8_watch_57 ?_
      refine va_put (D := D) (ci := 8) (v := .int (watched + 1)) (ty := .int) (C := RX8) (T := TX8) (N := 38) hx hb hts hinX8 tyX8 tyX8_ok nmX8 hown hKK.1 hP hD hS 0 rfl rfl 30 (by decide) fl_157 (fun _ h9 => h9) rfl (by decide +kernel) rfl rfl (Nat.le_of_ble_eq_true rfl) dX8_watch_58 (fun H locs hP hD hS => ?_)
      have hP : va_P D vwCl [(a_this, .inr (8, [.int pay, .ref a_weathers, .ref a_hours, .ref a_fear, .int days, .ref a_dayWeather, .ref a_dayHour, .ref a_dayDanger, .ref a_now, .int seed, .ref a_text, .int texted, .int faultPlace, .int at0, .int number, .int numberAt, .ref a_readPay, .int readPersons, .ref a_readMarks, .ref a_readWeathers, .ref a_readHours, .ref a_readFear, .int readDays, .ref a_readWeather, .ref a_readHour, .ref a_readDanger, .int undos, .ref a_past, .ref a_morning, .ref a_sent, .int (watched + 1), .ref a_watchedDay, .ref a_watchedOut, .int booked, .ref a_bookWho, .ref a_bookMarks, .ref a_images, .ref a_isKept])), (a_watchedDay, .inl (cI, 8, .inl (upd watchedDay watched.toNatClampNeg p1))), (a_watchedOut, .inl (cZ, 8, .inl (upd watchedOut watched.toNatClampNeg (vp_nar .boolean p2))))] H := hP
      have hD : va_D A [(a_this, .inr (8, [.int pay, .ref a_weathers, .ref a_hours, .ref a_fear, .int days, .ref a_dayWeather, .ref a_dayHour, .ref a_dayDanger, .ref a_now, .int seed, .ref a_text, .int texted, .int faultPlace, .int at0, .int number, .int numberAt, .ref a_readPay, .int readPersons, .ref a_readMarks, .ref a_readWeathers, .ref a_readHours, .ref a_readFear, .int readDays, .ref a_readWeather, .ref a_readHour, .ref a_readDanger, .int undos, .ref a_past, .ref a_morning, .ref a_sent, .int (watched + 1), .ref a_watchedDay, .ref a_watchedOut, .int booked, .ref a_bookWho, .ref a_bookMarks, .ref a_images, .ref a_isKept])), (a_watchedDay, .inl (cI, 8, .inl (upd watchedDay watched.toNatClampNeg p1))), (a_watchedOut, .inl (cZ, 8, .inl (upd watchedOut watched.toNatClampNeg (vp_nar .boolean p2))))] := hD
      refine lv_aload_n hx hb dX8_watch_61 rfl (lv_at hl 0 rfl) ?_
      refine va_get (D := D) (ci := 8) (v := .int (watched + 1)) (C := RX8) (T := TX8) (N := 38) hx hb hts hinX8 hown hKK.1 hP 0 rfl rfl 30 (by decide) fl_157 (fun _ h9 => h9) rfl dX8_watch_62 ?_
      rw [hQ]
      exact W.iret (v := (watched + 1)) hx hb hr (fun t ht _ => ⟨⟨(watched + 1), ⟨(upd watchedDay watched.toNatClampNeg p1), (upd watchedOut watched.toNatClampNeg (vp_nar .boolean p2)), (watched + 1)⟩, rfl, hw, by rw [ht]; exact hP, hD⟩, hS.F ht⟩) hS.2.2 dX8_watch_65
    · have hw := hw.1 c_25
      refine lv_ldc (v := (-1000000004)) hx hb hown (hts (.constant RX8 107 (-1000000004)) (by decide +kernel)) dX8_watch_28 ?_
      rw [hQ]
      exact W.iret (v := (-1000000004)) hx hb hr (fun t ht _ => ⟨⟨(-1000000004), ⟨watchedDay, watchedOut, watched⟩, rfl, hw, by rw [ht]; exact hP, hD⟩, hS.F ht⟩) hS.2.2 dX8_watch_30
  · have hw := hw.1 c_13
    refine lv_ldc (v := (-1000000001)) hx hb hown (hts (.constant RX8 190 (-1000000001)) (by decide +kernel)) dX8_watch_16 ?_
    rw [hQ]
    exact W.iret (v := (-1000000001)) hx hb hr (fun t ht _ => ⟨⟨(-1000000001), ⟨watchedDay, watchedOut, watched⟩, rfl, hw, by rw [ht]; exact hP, hD⟩, hS.F ht⟩) hS.2.2 dX8_watch_18
def wk_X8_fits_4 (Φ : Int32 → Prop) (x1_4 : Int32) (x2_4 : Int32) : Prop :=
  (Φ x1_4)
def wk_X8_fits_20 (x1_4 : Int32) (x2_4 : Int32) (rec_4 : Int32 → Int32 → Prop) (x3_20 : Int32) (x4_20 : Int32) : Prop :=
  ((x3_20 = 0 → (rec_4 (x1_4 ||| 0) (x2_4 + 1))) ∧ (¬ x3_20 = 0 → (rec_4 (x1_4 ||| ((1 : Int32) <<< (x2_4 &&& 31))) (x2_4 + 1))))
def wb_X8_fits_20 (watched : Int32) (watchedDay : Nat → Int32) (dayWeather : Nat → Int32) (dayHour : Nat → Int32) (dayDanger : Nat → Int32) (weathers : Nat → Int32) (hours : Nat → Int32) (fear : Nat → Int32) (watchedOut : Nat → Int32) (x2_4 : Int32) (K_20 : Int32 → Int32 → Prop) (rec_20 : Int32 → Int32 → Prop) (x3_20 : Int32) (x4_20 : Int32) : Prop :=
  ((watched ≤ x4_20 → (K_20 x3_20 x4_20)) ∧ (¬ watched ≤ x4_20 → ((x3_20 = 0 → (rec_20 0 (x4_20 + 1))) ∧ (¬ x3_20 = 0 → (vp_in x4_20 8 ∧ (wp_X8_goesAt dayWeather dayHour dayDanger weathers hours fear x2_4 (watchedDay x4_20.toNatClampNeg) (fun r_42 => (vp_in x4_20 8 ∧ ((r_42 = (watchedOut x4_20.toNatClampNeg) → (rec_20 1 (x4_20 + 1))) ∧ (¬ r_42 = (watchedOut x4_20.toNatClampNeg) → (rec_20 0 (x4_20 + 1))))))))))))
def wb_X8_fits_4 (watched : Int32) (now : Nat → Int32) (watchedDay : Nat → Int32) (dayWeather : Nat → Int32) (dayHour : Nat → Int32) (dayDanger : Nat → Int32) (weathers : Nat → Int32) (hours : Nat → Int32) (fear : Nat → Int32) (watchedOut : Nat → Int32) (K_4 : Int32 → Int32 → Prop) (rec_4 : Int32 → Int32 → Prop) (x1_4 : Int32) (x2_4 : Int32) : Prop :=
  (((now 8) ≤ x2_4 → (K_4 x1_4 x2_4)) ∧ (¬ (now 8) ≤ x2_4 → (∃ n : Nat, xit2 (wb_X8_fits_20 watched watchedDay dayWeather dayHour dayDanger weathers hours fear watchedOut x2_4 (wk_X8_fits_20 x1_4 x2_4 rec_4)) n 1 0)))
def wp_X8_fits (watched : Int32) (now : Nat → Int32) (watchedDay : Nat → Int32) (dayWeather : Nat → Int32) (dayHour : Nat → Int32) (dayDanger : Nat → Int32) (weathers : Nat → Int32) (hours : Nat → Int32) (fear : Nat → Int32) (watchedOut : Nat → Int32) (Φ : Int32 → Prop) : Prop :=
  (∃ n : Nat, xit2 (wb_X8_fits_4 watched now watchedDay dayWeather dayHour dayDanger weathers hours fear watchedOut (wk_X8_fits_4 Φ)) n 0 0)
abbrev xrm_X8_fits : Room := { frames := 3, cells := 0, slots := 0, locals := 67 }
set_option maxRecDepth 100000 in
set_option maxHeartbeats 4000000 in
theorem c_X8_fits (l : Launch) (D : va_G) (cI cZ cO : ClassId) {pay : Int32} {a_weathers : Nat} {a_hours : Nat} {a_fear : Nat} {days : Int32} {a_dayWeather : Nat} {a_dayHour : Nat} {a_dayDanger : Nat} {a_now : Nat} {seed : Int32} {a_text : Nat} {texted : Int32} {faultPlace : Int32} {at0 : Int32} {number : Int32} {numberAt : Int32} {a_readPay : Nat} {readPersons : Int32} {a_readMarks : Nat} {a_readWeathers : Nat} {a_readHours : Nat} {a_readFear : Nat} {readDays : Int32} {a_readWeather : Nat} {a_readHour : Nat} {a_readDanger : Nat} {undos : Int32} {a_past : Nat} {a_morning : Nat} {a_sent : Nat} {watched : Int32} {a_watchedDay : Nat} {a_watchedOut : Nat} {booked : Int32} {a_bookWho : Nat} {a_bookMarks : Nat} {a_images : Nat} {a_isKept : Nat} {a_this : Nat} {now : Nat → Int32} {watchedDay : Nat → Int32} {dayWeather : Nat → Int32} {dayHour : Nat → Int32} {dayDanger : Nat → Int32} {weathers : Nat → Int32} {hours : Nat → Int32} {fear : Nat → Int32} {watchedOut : Nat → Int32} {Φ : Int32 → Prop} (hw : (wp_X8_fits watched now watchedDay dayWeather dayHour dayDanger weathers hours fear watchedOut Φ)) : Met l yX8_fits wsX8_fits xrm_X8_fits (xPR D cI cZ cO [.ref a_this] [(a_this, .inr (8, [.int pay, .ref a_weathers, .ref a_hours, .ref a_fear, .int days, .ref a_dayWeather, .ref a_dayHour, .ref a_dayDanger, .ref a_now, .int seed, .ref a_text, .int texted, .int faultPlace, .int at0, .int number, .int numberAt, .ref a_readPay, .int readPersons, .ref a_readMarks, .ref a_readWeathers, .ref a_readHours, .ref a_readFear, .int readDays, .ref a_readWeather, .ref a_readHour, .ref a_readDanger, .int undos, .ref a_past, .ref a_morning, .ref a_sent, .int watched, .ref a_watchedDay, .ref a_watchedOut, .int booked, .ref a_bookWho, .ref a_bookMarks, .ref a_images, .ref a_isKept])), (a_now, .inl (cI, 13, .inl now)), (a_watchedDay, .inl (cI, 8, .inl watchedDay)), (a_dayWeather, .inl (cI, 10, .inl dayWeather)), (a_dayHour, .inl (cI, 10, .inl dayHour)), (a_dayDanger, .inl (cI, 10, .inl dayDanger)), (a_weathers, .inl (cI, 8, .inl weathers)), (a_hours, .inl (cI, 8, .inl hours)), (a_fear, .inl (cI, 8, .inl fear)), (a_watchedOut, .inl (cZ, 8, .inl watchedOut))]) (vp_Si Φ) 0 0 (fun _ => False) := by
  refine Met.ofW (cc := cX8_fits) (maxL := 5) (ret := (some .int)) (by decide) rfl ?_
  intro p e s m args below meth c s₁ B hml hv
  obtain ⟨rfl, hP, hKK⟩ := hv
  have hx := B.exec
  have hb := B.bytes
  have hr := B.returns
  have hts := atoms_spec (ws := wsX8_fits) B.pre
  have hown : s.vm.findClass RX8 = some m.cls := findClass_of_methodNamed B.named
  have hlocks := B.notSynchronized
  obtain ⟨Q, hQ⟩ : ∃ Q, Q = MQ below (vp_Si Φ) ([.ref a_this] : List Value).toArray s 0 0 (fun _ => False) := ⟨_, rfl⟩
  rw [← hQ]
  have hl := lv_entry ([.ref a_this]) (n := 5) (Nat.le_of_ble_eq_true rfl)
  rw [lg_entry_eq]
  generalize (lg_sl ([.ref a_this]) ++ List.replicate (5 - (lg_sl ([.ref a_this])).length) Slot.unset).toArray = ls at hl ⊢
  have hl : lv_has ls 5 [(0, .ref a_this)] := hl
  generalize ([.ref a_this] : List Value).toArray = args at hts hQ ⊢
  have hP : va_P D vwCl [(a_this, .inr (8, [.int pay, .ref a_weathers, .ref a_hours, .ref a_fear, .int days, .ref a_dayWeather, .ref a_dayHour, .ref a_dayDanger, .ref a_now, .int seed, .ref a_text, .int texted, .int faultPlace, .int at0, .int number, .int numberAt, .ref a_readPay, .int readPersons, .ref a_readMarks, .ref a_readWeathers, .ref a_readHours, .ref a_readFear, .int readDays, .ref a_readWeather, .ref a_readHour, .ref a_readDanger, .int undos, .ref a_past, .ref a_morning, .ref a_sent, .int watched, .ref a_watchedDay, .ref a_watchedOut, .int booked, .ref a_bookWho, .ref a_bookMarks, .ref a_images, .ref a_isKept])), (a_now, .inl (cI, 13, .inl now)), (a_watchedDay, .inl (cI, 8, .inl watchedDay)), (a_dayWeather, .inl (cI, 10, .inl dayWeather)), (a_dayHour, .inl (cI, 10, .inl dayHour)), (a_dayDanger, .inl (cI, 10, .inl dayDanger)), (a_weathers, .inl (cI, 8, .inl weathers)), (a_hours, .inl (cI, 8, .inl hours)), (a_fear, .inl (cI, 8, .inl fear)), (a_watchedOut, .inl (cZ, 8, .inl watchedOut))] s.heap := hP
  have hinX8 : ∀ w ∈ u_ws RX8 TX8 38, w ∈ wsX8_fits := by decide +kernel
  have fl_28 := hts (.fieldLink RX8 28 "DoubleChainModel" "now" "[I") (by decide +kernel)
  have fl_71 := hts (.fieldLink RX8 71 "DoubleChainModel" "watchedDay" "[I") (by decide +kernel)
  have fl_74 := hts (.fieldLink RX8 74 "DoubleChainModel" "watchedOut" "[Z") (by decide +kernel)
  have fl_157 := hts (.fieldLink RX8 157 "DoubleChainModel" "watched" "I") (by decide +kernel)
  clear B
  show W p l e xrm_X8_fits s m args below meth c s.heap [] 0 0 Q (F0 m 0 ls [])
  unfold wp_X8_fits at hw
  refine lv_iconst (v := 0) hx hb dX8_fits_0 (by decide) ?_
  refine lv_istore_n (lv' := [(1, .int 0), (0, .ref a_this)]) hx hb dX8_fits_1 rfl hl (by decide) rfl (fun ls hl => ?_)
  refine lv_iconst (v := 0) hx hb dX8_fits_2 (by decide) ?_
  refine lv_istore_n (lv' := [(2, .int 0), (1, .int 0), (0, .ref a_this)]) hx hb dX8_fits_3 rfl hl (by decide) rfl (fun ls hl => ?_)
  have EX_4 : ∀ (x1_4 : Int32) (x2_4 : Int32), ∀ (ls : Array Slot), lv_has ls 5 [(0, .ref a_this), (1, .int x1_4), (2, .int x2_4)] → (wk_X8_fits_4 Φ x1_4 x2_4) → W p l e xrm_X8_fits s m args below meth c s.heap [] 0 0 Q (F0 m 87 ls []) := by
    intro x1_4 x2_4 ls hl hw
    unfold wk_X8_fits_4 at hw
    refine lv_iload_n hx hb dX8_fits_87 rfl (lv_at hl 1 rfl) ?_
    rw [hQ]
    exact W.iret (v := x1_4) hx hb hr (fun t ht _ => ⟨x1_4, rfl, hw, ht⟩) (fun _ h => (List.not_mem_nil h).elim) dX8_fits_88
  generalize (wk_X8_fits_4 Φ) = K_4 at EX_4 hw
  have LP_4 : ∀ n : Nat, ∀ (x1_4 : Int32) (x2_4 : Int32), ∀ (ls : Array Slot), lv_has ls 5 [(0, .ref a_this), (1, .int x1_4), (2, .int x2_4)] → xit2 (wb_X8_fits_4 watched now watchedDay dayWeather dayHour dayDanger weathers hours fear watchedOut K_4) n x1_4 x2_4 → W p l e xrm_X8_fits s m args below meth c s.heap [] 0 0 Q (F0 m 4 ls []) := by
    intro n
    induction n with
    | zero => intro x1_4 x2_4 ls hl hw; exact (show False from hw).elim
    | succ n ih =>
      intro x1_4 x2_4 ls hl hw
      have hw : wb_X8_fits_4 watched now watchedDay dayWeather dayHour dayDanger weathers hours fear watchedOut K_4 (xit2 (wb_X8_fits_4 watched now watchedDay dayWeather dayHour dayDanger weathers hours fear watchedOut K_4) n) x1_4 x2_4 := hw
      generalize xit2 (wb_X8_fits_4 watched now watchedDay dayWeather dayHour dayDanger weathers hours fear watchedOut K_4) n = rec_4 at ih hw
      unfold wb_X8_fits_4 at hw
      refine lv_iload_n hx hb dX8_fits_4 rfl (lv_at hl 2 rfl) ?_
      refine lv_aload_n hx hb dX8_fits_5 rfl (lv_at hl 0 rfl) ?_
      refine va_get (D := D) (ci := 8) (v := .ref a_now) (C := RX8) (T := TX8) (N := 38) hx hb hts hinX8 hown hKK.1 hP 0 rfl rfl 8 (by decide) fl_28 (fun _ h9 => h9) rfl dX8_fits_6 ?_
      refine lv_bipush (v := 8) hx hb dX8_fits_9 (by decide) ?_
      refine x_iald 8 (by decide) (Nat.le_of_ble_eq_true rfl) hx hb hKK.1 hP 1 0 rfl rfl dX8_fits_11 ?_
      refine lv_icmp_ge (tgt := 87) hx hb dX8_fits_12 (by decide) (fun c_12 => ?_) (fun c_12 => ?_)
      · have hw := hw.1 c_12
        exact EX_4 _ _ ls (lv_sub hl [0, 1, 2] rfl) hw
      · have hw := hw.2 c_12
        refine lv_iconst (v := 1) hx hb dX8_fits_15 (by decide) ?_
        refine lv_istore_n (lv' := [(3, .int 1), (0, .ref a_this), (1, .int x1_4), (2, .int x2_4)]) hx hb dX8_fits_16 rfl hl (by decide) rfl (fun ls hl => ?_)
        refine lv_iconst (v := 0) hx hb dX8_fits_17 (by decide) ?_
        refine lv_istore (lv' := [(4, .int 0), (3, .int 1), (0, .ref a_this), (1, .int x1_4), (2, .int x2_4)]) hx hb dX8_fits_18 hl (by decide) rfl (fun ls hl => ?_)
        have EX_20 : ∀ (x3_20 : Int32) (x4_20 : Int32), ∀ (ls : Array Slot), lv_has ls 5 [(0, .ref a_this), (1, .int x1_4), (2, .int x2_4), (3, .int x3_20), (4, .int x4_20)] → (wk_X8_fits_20 x1_4 x2_4 rec_4 x3_20 x4_20) → W p l e xrm_X8_fits s m args below meth c s.heap [] 0 0 Q (F0 m 67 ls []) := by
          intro x3_20 x4_20 ls hl hw
          unfold wk_X8_fits_20 at hw
          refine lv_iload_n hx hb dX8_fits_67 rfl (lv_at hl 1 rfl) ?_
          refine lv_iload_n hx hb dX8_fits_68 rfl (lv_at hl 3 rfl) ?_
          refine lv_if_eq (tgt := 78) hx hb dX8_fits_69 (by decide) (fun c_69 => ?_) (fun c_69 => ?_)
          · have hw := hw.1 c_69
            refine lv_iconst (v := 0) hx hb dX8_fits_78 (by decide) ?_
            refine lv_ior hx hb dX8_fits_79 ?_
            refine lv_istore_n (lv' := [(1, .int (x1_4 ||| 0)), (0, .ref a_this), (2, .int x2_4), (3, .int x3_20), (4, .int x4_20)]) hx hb dX8_fits_80 rfl hl (by decide) rfl (fun ls hl => ?_)
            refine lv_iinc (v := (x2_4 + 1)) (lv' := [(2, .int (x2_4 + 1)), (1, .int (x1_4 ||| 0)), (0, .ref a_this), (3, .int x3_20), (4, .int x4_20)]) hx hb dX8_fits_81 hl (k := 2) rfl (by rfl) (by decide) rfl (fun ls hl => ?_)
            refine lv_goto (tgt := 4) hx hb dX8_fits_84 (by decide) ?_
            exact ih _ _ ls (lv_sub hl [2, 1, 0] rfl) hw
          · have hw := hw.2 c_69
            refine lv_iconst (v := 1) hx hb dX8_fits_72 (by decide) ?_
            refine lv_iload_n hx hb dX8_fits_73 rfl (lv_at hl 2 rfl) ?_
            refine lv_ishl hx hb dX8_fits_74 ?_
            refine lv_goto (tgt := 79) hx hb dX8_fits_75 (by decide) ?_
            refine lv_ior hx hb dX8_fits_79 ?_
            refine lv_istore_n (lv' := [(1, .int (x1_4 ||| ((1 : Int32) <<< (x2_4 &&& 31)))), (0, .ref a_this), (2, .int x2_4), (3, .int x3_20), (4, .int x4_20)]) hx hb dX8_fits_80 rfl hl (by decide) rfl (fun ls hl => ?_)
            refine lv_iinc (v := (x2_4 + 1)) (lv' := [(2, .int (x2_4 + 1)), (1, .int (x1_4 ||| ((1 : Int32) <<< (x2_4 &&& 31)))), (0, .ref a_this), (3, .int x3_20), (4, .int x4_20)]) hx hb dX8_fits_81 hl (k := 2) rfl (by rfl) (by decide) rfl (fun ls hl => ?_)
            refine lv_goto (tgt := 4) hx hb dX8_fits_84 (by decide) ?_
            exact ih _ _ ls (lv_sub hl [2, 1, 0] rfl) hw
        generalize (wk_X8_fits_20 x1_4 x2_4 rec_4) = K_20 at EX_20 hw
        have LP_20 : ∀ n : Nat, ∀ (x3_20 : Int32) (x4_20 : Int32), ∀ (ls : Array Slot), lv_has ls 5 [(0, .ref a_this), (1, .int x1_4), (2, .int x2_4), (3, .int x3_20), (4, .int x4_20)] → xit2 (wb_X8_fits_20 watched watchedDay dayWeather dayHour dayDanger weathers hours fear watchedOut x2_4 K_20) n x3_20 x4_20 → W p l e xrm_X8_fits s m args below meth c s.heap [] 0 0 Q (F0 m 20 ls []) := by
          intro n
          induction n with
          | zero => intro x3_20 x4_20 ls hl hw; exact (show False from hw).elim
          | succ n ih =>
            intro x3_20 x4_20 ls hl hw
            have hw : wb_X8_fits_20 watched watchedDay dayWeather dayHour dayDanger weathers hours fear watchedOut x2_4 K_20 (xit2 (wb_X8_fits_20 watched watchedDay dayWeather dayHour dayDanger weathers hours fear watchedOut x2_4 K_20) n) x3_20 x4_20 := hw
            generalize xit2 (wb_X8_fits_20 watched watchedDay dayWeather dayHour dayDanger weathers hours fear watchedOut x2_4 K_20) n = rec_20 at ih hw
            unfold wb_X8_fits_20 at hw
            refine lv_iload hx hb dX8_fits_20 (lv_at hl 4 rfl) ?_
            refine lv_aload_n hx hb dX8_fits_22 rfl (lv_at hl 0 rfl) ?_
            refine va_get (D := D) (ci := 8) (v := .int watched) (C := RX8) (T := TX8) (N := 38) hx hb hts hinX8 hown hKK.1 hP 0 rfl rfl 30 (by decide) fl_157 (fun _ h9 => h9) rfl dX8_fits_23 ?_
            refine lv_icmp_ge (tgt := 67) hx hb dX8_fits_26 (by decide) (fun c_26 => ?_) (fun c_26 => ?_)
            · have hw := hw.1 c_26
              exact EX_20 _ _ ls (lv_sub hl [0, 1, 2, 3, 4] rfl) hw
            · have hw := hw.2 c_26
              refine lv_iload_n hx hb dX8_fits_29 rfl (lv_at hl 3 rfl) ?_
              refine lv_if_eq (tgt := 59) hx hb dX8_fits_30 (by decide) (fun c_30 => ?_) (fun c_30 => ?_)
              · have hw := hw.1 c_30
                refine lv_iconst (v := 0) hx hb dX8_fits_59 (by decide) ?_
                refine lv_istore_n (lv' := [(3, .int 0), (0, .ref a_this), (1, .int x1_4), (2, .int x2_4), (4, .int x4_20)]) hx hb dX8_fits_60 rfl hl (by decide) rfl (fun ls hl => ?_)
                refine lv_iinc (v := (x4_20 + 1)) (lv' := [(4, .int (x4_20 + 1)), (3, .int 0), (0, .ref a_this), (1, .int x1_4), (2, .int x2_4)]) hx hb dX8_fits_61 hl (k := 4) rfl (by rfl) (by decide) rfl (fun ls hl => ?_)
                refine lv_goto (tgt := 20) hx hb dX8_fits_64 (by decide) ?_
                exact ih _ _ ls (lv_sub hl [2, 3, 4, 1, 0] rfl) hw
              · have hw := hw.2 c_30
                refine lv_aload_n hx hb dX8_fits_33 rfl (lv_at hl 0 rfl) ?_
                refine lv_iload_n hx hb dX8_fits_34 rfl (lv_at hl 2 rfl) ?_
                refine lv_aload_n hx hb dX8_fits_35 rfl (lv_at hl 0 rfl) ?_
                refine va_get (D := D) (ci := 8) (v := .ref a_watchedDay) (C := RX8) (T := TX8) (N := 38) hx hb hts hinX8 hown hKK.1 hP 0 rfl rfl 31 (by decide) fl_71 (fun _ h9 => h9) rfl dX8_fits_36 ?_
                refine lv_iload hx hb dX8_fits_39 (lv_at hl 4 rfl) ?_
                obtain ⟨hin, hw⟩ := hw
                refine va_iald hx hb hKK.1 hP 2 0 rfl rfl hin dX8_fits_41 ?_
                refine xcVi (q0 := 0) (ci := 8) (As := [.int x2_4, .int (watchedDay x4_20.toNatClampNeg)]) (rest := []) (wc := [(a_this, .inr (8, [.int pay, .ref a_weathers, .ref a_hours, .ref a_fear, .int days, .ref a_dayWeather, .ref a_dayHour, .ref a_dayDanger, .ref a_now, .int seed, .ref a_text, .int texted, .int faultPlace, .int at0, .int number, .int numberAt, .ref a_readPay, .int readPersons, .ref a_readMarks, .ref a_readWeathers, .ref a_readHours, .ref a_readFear, .int readDays, .ref a_readWeather, .ref a_readHour, .ref a_readDanger, .int undos, .ref a_past, .ref a_morning, .ref a_sent, .int watched, .ref a_watchedDay, .ref a_watchedOut, .int booked, .ref a_bookWho, .ref a_bookMarks, .ref a_images, .ref a_isKept])), (a_dayWeather, .inl (cI, 10, .inl dayWeather)), (a_dayHour, .inl (cI, 10, .inl dayHour)), (a_dayDanger, .inl (cI, 10, .inl dayDanger)), (a_weathers, .inl (cI, 8, .inl weathers)), (a_hours, .inl (cI, 8, .inl hours)), (a_fear, .inl (cI, 8, .inl fear))]) ⟨hx, hb, hml, hown, hts⟩ (c_X8_goesAt l D cI cZ cO hw) (cwV 2 hts gX8_fits_X8_goesAt rfl rfl rfl (by decide +kernel) ⟨Nat.le_of_ble_eq_true rfl, Nat.le_of_ble_eq_true rfl⟩) hKK hP [0, 3, 4, 5, 6, 7, 8] rfl rfl rfl rfl hl.1 rfl (Nat.le_of_ble_eq_true rfl) dX8_fits_42 ⟨Nat.zero_le _, Nat.zero_le _⟩ (fun r_42 hw => ?_)
                refine lv_aload_n hx hb dX8_fits_45 rfl (lv_at hl 0 rfl) ?_
                refine va_get (D := D) (ci := 8) (v := .ref a_watchedOut) (C := RX8) (T := TX8) (N := 38) hx hb hts hinX8 hown hKK.1 hP 0 rfl rfl 32 (by decide) fl_74 (fun _ h9 => h9) rfl dX8_fits_46 ?_
                refine lv_iload hx hb dX8_fits_49 (lv_at hl 4 rfl) ?_
                obtain ⟨hin, hw⟩ := hw
                refine va_zald hx hb hKK.1 hP 9 1 rfl rfl hin dX8_fits_51 ?_
                refine lv_icmp_ne (tgt := 59) hx hb dX8_fits_52 (by decide) (fun c_52 => ?_) (fun c_52 => ?_)
                · have hw := hw.2 c_52
                  refine lv_iconst (v := 0) hx hb dX8_fits_59 (by decide) ?_
                  refine lv_istore_n (lv' := [(3, .int 0), (0, .ref a_this), (1, .int x1_4), (2, .int x2_4), (4, .int x4_20)]) hx hb dX8_fits_60 rfl hl (by decide) rfl (fun ls hl => ?_)
                  refine lv_iinc (v := (x4_20 + 1)) (lv' := [(4, .int (x4_20 + 1)), (3, .int 0), (0, .ref a_this), (1, .int x1_4), (2, .int x2_4)]) hx hb dX8_fits_61 hl (k := 4) rfl (by rfl) (by decide) rfl (fun ls hl => ?_)
                  refine lv_goto (tgt := 20) hx hb dX8_fits_64 (by decide) ?_
                  exact ih _ _ ls (lv_sub hl [2, 3, 4, 1, 0] rfl) hw
                · have hw := hw.1 c_52
                  refine lv_iconst (v := 1) hx hb dX8_fits_55 (by decide) ?_
                  refine lv_goto (tgt := 60) hx hb dX8_fits_56 (by decide) ?_
                  refine lv_istore_n (lv' := [(3, .int 1), (0, .ref a_this), (1, .int x1_4), (2, .int x2_4), (4, .int x4_20)]) hx hb dX8_fits_60 rfl hl (by decide) rfl (fun ls hl => ?_)
                  refine lv_iinc (v := (x4_20 + 1)) (lv' := [(4, .int (x4_20 + 1)), (3, .int 1), (0, .ref a_this), (1, .int x1_4), (2, .int x2_4)]) hx hb dX8_fits_61 hl (k := 4) rfl (by rfl) (by decide) rfl (fun ls hl => ?_)
                  refine lv_goto (tgt := 20) hx hb dX8_fits_64 (by decide) ?_
                  exact ih _ _ ls (lv_sub hl [2, 3, 4, 1, 0] rfl) hw
        obtain ⟨n, hw⟩ := hw
        exact LP_20 n _ _ ls (lv_sub hl [2, 3, 4, 1, 0] rfl) hw
  obtain ⟨n, hw⟩ := hw
  exact LP_4 n _ _ ls (lv_sub hl [2, 1, 0] rfl) hw
def wk_X8_lookOn_15 (Φ : Int32 → Prop) (x2_15 : Int32) (x3_15 : Int32) (x4_15 : Int32) : Prop :=
  (Φ x2_15)
def wj_X8_lookOn_102 (x2_15 : Int32) (x3_15 : Int32) (x4_15 : Int32) (rec_15 : Int32 → Int32 → Int32 → Prop) (x5_102 : Int32) (x6_102 : Int32) (s0_102 : Int32) : Prop :=
  ((x3_15 ≤ s0_102 → ((x3_15 ≤ s0_102 → (rec_15 x2_15 x3_15 (x4_15 + 1))) ∧ (¬ x3_15 ≤ s0_102 → (rec_15 x2_15 s0_102 (x4_15 + 1))))) ∧ (¬ x3_15 ≤ s0_102 → ((x3_15 ≤ s0_102 → (rec_15 x4_15 x3_15 (x4_15 + 1))) ∧ (¬ x3_15 ≤ s0_102 → (rec_15 x4_15 s0_102 (x4_15 + 1))))))
def wk_X8_lookOn_30 (r_1 : Int32) (x2_15 : Int32) (x3_15 : Int32) (x4_15 : Int32) (rec_15 : Int32 → Int32 → Int32 → Prop) (x5_30 : Int32) (x6_30 : Int32) : Prop :=
  (wp_X8_bits r_1 (fun r_81 => ((x5_30 ≤ (r_81 - x5_30) → (wp_X8_bits r_1 (fun r_96 => (wj_X8_lookOn_102 x2_15 x3_15 x4_15 rec_15 x5_30 x6_30 (r_96 - x5_30))))) ∧ (¬ x5_30 ≤ (r_81 - x5_30) → (wj_X8_lookOn_102 x2_15 x3_15 x4_15 rec_15 x5_30 x6_30 x5_30)))))
def wb_X8_lookOn_30 (now : Nat → Int32) (dayWeather : Nat → Int32) (dayHour : Nat → Int32) (dayDanger : Nat → Int32) (weathers : Nat → Int32) (hours : Nat → Int32) (fear : Nat → Int32) (r_1 : Int32) (x4_15 : Int32) (K_30 : Int32 → Int32 → Prop) (rec_30 : Int32 → Int32 → Prop) (x5_30 : Int32) (x6_30 : Int32) : Prop :=
  (((now 8) ≤ x6_30 → (K_30 x5_30 x6_30)) ∧ (¬ (now 8) ≤ x6_30 → (wp_X8_has r_1 x6_30 (fun r_47 => ((r_47 = 0 → (rec_30 (x5_30 + 0) (x6_30 + 1))) ∧ (¬ r_47 = 0 → (wp_X8_goesAt dayWeather dayHour dayDanger weathers hours fear x6_30 x4_15 (fun r_58 => ((r_58 = 0 → (rec_30 (x5_30 + 0) (x6_30 + 1))) ∧ (¬ r_58 = 0 → (rec_30 (x5_30 + 1) (x6_30 + 1))))))))))))
def wb_X8_lookOn_15 (days : Int32) (now : Nat → Int32) (dayWeather : Nat → Int32) (dayHour : Nat → Int32) (dayDanger : Nat → Int32) (weathers : Nat → Int32) (hours : Nat → Int32) (fear : Nat → Int32) (r_1 : Int32) (K_15 : Int32 → Int32 → Int32 → Prop) (rec_15 : Int32 → Int32 → Int32 → Prop) (x2_15 : Int32) (x3_15 : Int32) (x4_15 : Int32) : Prop :=
  ((days ≤ x4_15 → (K_15 x2_15 x3_15 x4_15)) ∧ (¬ days ≤ x4_15 → (∃ n : Nat, xit2 (wb_X8_lookOn_30 now dayWeather dayHour dayDanger weathers hours fear r_1 x4_15 (wk_X8_lookOn_30 r_1 x2_15 x3_15 x4_15 rec_15)) n 0 0)))
def wp_X8_lookOn (days : Int32) (watched : Int32) (now : Nat → Int32) (watchedDay : Nat → Int32) (dayWeather : Nat → Int32) (dayHour : Nat → Int32) (dayDanger : Nat → Int32) (weathers : Nat → Int32) (hours : Nat → Int32) (fear : Nat → Int32) (watchedOut : Nat → Int32) (Φ : Int32 → Prop) : Prop :=
  (wp_X8_fits watched now watchedDay dayWeather dayHour dayDanger weathers hours fear watchedOut (fun r_1 => (wp_X8_bits r_1 (fun r_8 => (∃ n : Nat, xit3 (wb_X8_lookOn_15 days now dayWeather dayHour dayDanger weathers hours fear r_1 (wk_X8_lookOn_15 Φ)) n (-1) r_8 0)))))
abbrev xrm_X8_lookOn : Room := { frames := 4, cells := 0, slots := 0, locals := 91 }
set_option maxRecDepth 100000 in
set_option maxHeartbeats 4000000 in
theorem c_X8_lookOn (l : Launch) (D : va_G) (cI cZ cO : ClassId) {pay : Int32} {a_weathers : Nat} {a_hours : Nat} {a_fear : Nat} {days : Int32} {a_dayWeather : Nat} {a_dayHour : Nat} {a_dayDanger : Nat} {a_now : Nat} {seed : Int32} {a_text : Nat} {texted : Int32} {faultPlace : Int32} {at0 : Int32} {number : Int32} {numberAt : Int32} {a_readPay : Nat} {readPersons : Int32} {a_readMarks : Nat} {a_readWeathers : Nat} {a_readHours : Nat} {a_readFear : Nat} {readDays : Int32} {a_readWeather : Nat} {a_readHour : Nat} {a_readDanger : Nat} {undos : Int32} {a_past : Nat} {a_morning : Nat} {a_sent : Nat} {watched : Int32} {a_watchedDay : Nat} {a_watchedOut : Nat} {booked : Int32} {a_bookWho : Nat} {a_bookMarks : Nat} {a_images : Nat} {a_isKept : Nat} {a_this : Nat} {now : Nat → Int32} {watchedDay : Nat → Int32} {dayWeather : Nat → Int32} {dayHour : Nat → Int32} {dayDanger : Nat → Int32} {weathers : Nat → Int32} {hours : Nat → Int32} {fear : Nat → Int32} {watchedOut : Nat → Int32} {Φ : Int32 → Prop} (hw : (wp_X8_lookOn days watched now watchedDay dayWeather dayHour dayDanger weathers hours fear watchedOut Φ)) : Met l yX8_lookOn wsX8_lookOn xrm_X8_lookOn (xPR D cI cZ cO [.ref a_this] [(a_this, .inr (8, [.int pay, .ref a_weathers, .ref a_hours, .ref a_fear, .int days, .ref a_dayWeather, .ref a_dayHour, .ref a_dayDanger, .ref a_now, .int seed, .ref a_text, .int texted, .int faultPlace, .int at0, .int number, .int numberAt, .ref a_readPay, .int readPersons, .ref a_readMarks, .ref a_readWeathers, .ref a_readHours, .ref a_readFear, .int readDays, .ref a_readWeather, .ref a_readHour, .ref a_readDanger, .int undos, .ref a_past, .ref a_morning, .ref a_sent, .int watched, .ref a_watchedDay, .ref a_watchedOut, .int booked, .ref a_bookWho, .ref a_bookMarks, .ref a_images, .ref a_isKept])), (a_now, .inl (cI, 13, .inl now)), (a_watchedDay, .inl (cI, 8, .inl watchedDay)), (a_dayWeather, .inl (cI, 10, .inl dayWeather)), (a_dayHour, .inl (cI, 10, .inl dayHour)), (a_dayDanger, .inl (cI, 10, .inl dayDanger)), (a_weathers, .inl (cI, 8, .inl weathers)), (a_hours, .inl (cI, 8, .inl hours)), (a_fear, .inl (cI, 8, .inl fear)), (a_watchedOut, .inl (cZ, 8, .inl watchedOut))]) (vp_Si Φ) 0 0 (fun _ => False) := by
  refine Met.ofW (cc := cX8_lookOn) (maxL := 7) (ret := (some .int)) (by decide) rfl ?_
  intro p e s m args below meth c s₁ B hml hv
  obtain ⟨rfl, hP, hKK⟩ := hv
  have hx := B.exec
  have hb := B.bytes
  have hr := B.returns
  have hts := atoms_spec (ws := wsX8_lookOn) B.pre
  have hown : s.vm.findClass RX8 = some m.cls := findClass_of_methodNamed B.named
  have hlocks := B.notSynchronized
  obtain ⟨Q, hQ⟩ : ∃ Q, Q = MQ below (vp_Si Φ) ([.ref a_this] : List Value).toArray s 0 0 (fun _ => False) := ⟨_, rfl⟩
  rw [← hQ]
  have hl := lv_entry ([.ref a_this]) (n := 7) (Nat.le_of_ble_eq_true rfl)
  rw [lg_entry_eq]
  generalize (lg_sl ([.ref a_this]) ++ List.replicate (7 - (lg_sl ([.ref a_this])).length) Slot.unset).toArray = ls at hl ⊢
  have hl : lv_has ls 7 [(0, .ref a_this)] := hl
  generalize ([.ref a_this] : List Value).toArray = args at hts hQ ⊢
  have hP : va_P D vwCl [(a_this, .inr (8, [.int pay, .ref a_weathers, .ref a_hours, .ref a_fear, .int days, .ref a_dayWeather, .ref a_dayHour, .ref a_dayDanger, .ref a_now, .int seed, .ref a_text, .int texted, .int faultPlace, .int at0, .int number, .int numberAt, .ref a_readPay, .int readPersons, .ref a_readMarks, .ref a_readWeathers, .ref a_readHours, .ref a_readFear, .int readDays, .ref a_readWeather, .ref a_readHour, .ref a_readDanger, .int undos, .ref a_past, .ref a_morning, .ref a_sent, .int watched, .ref a_watchedDay, .ref a_watchedOut, .int booked, .ref a_bookWho, .ref a_bookMarks, .ref a_images, .ref a_isKept])), (a_now, .inl (cI, 13, .inl now)), (a_watchedDay, .inl (cI, 8, .inl watchedDay)), (a_dayWeather, .inl (cI, 10, .inl dayWeather)), (a_dayHour, .inl (cI, 10, .inl dayHour)), (a_dayDanger, .inl (cI, 10, .inl dayDanger)), (a_weathers, .inl (cI, 8, .inl weathers)), (a_hours, .inl (cI, 8, .inl hours)), (a_fear, .inl (cI, 8, .inl fear)), (a_watchedOut, .inl (cZ, 8, .inl watchedOut))] s.heap := hP
  have hinX8 : ∀ w ∈ u_ws RX8 TX8 38, w ∈ wsX8_lookOn := by decide +kernel
  have fl_28 := hts (.fieldLink RX8 28 "DoubleChainModel" "now" "[I") (by decide +kernel)
  have fl_148 := hts (.fieldLink RX8 148 "DoubleChainModel" "days" "I") (by decide +kernel)
  clear B
  show W p l e xrm_X8_lookOn s m args below meth c s.heap [] 0 0 Q (F0 m 0 ls [])
  unfold wp_X8_lookOn at hw
  refine lv_aload_n hx hb dX8_lookOn_0 rfl (lv_at hl 0 rfl) ?_
  refine xcVi (q0 := 0) (ci := 8) (As := []) (rest := []) (wc := [(a_this, .inr (8, [.int pay, .ref a_weathers, .ref a_hours, .ref a_fear, .int days, .ref a_dayWeather, .ref a_dayHour, .ref a_dayDanger, .ref a_now, .int seed, .ref a_text, .int texted, .int faultPlace, .int at0, .int number, .int numberAt, .ref a_readPay, .int readPersons, .ref a_readMarks, .ref a_readWeathers, .ref a_readHours, .ref a_readFear, .int readDays, .ref a_readWeather, .ref a_readHour, .ref a_readDanger, .int undos, .ref a_past, .ref a_morning, .ref a_sent, .int watched, .ref a_watchedDay, .ref a_watchedOut, .int booked, .ref a_bookWho, .ref a_bookMarks, .ref a_images, .ref a_isKept])), (a_now, .inl (cI, 13, .inl now)), (a_watchedDay, .inl (cI, 8, .inl watchedDay)), (a_dayWeather, .inl (cI, 10, .inl dayWeather)), (a_dayHour, .inl (cI, 10, .inl dayHour)), (a_dayDanger, .inl (cI, 10, .inl dayDanger)), (a_weathers, .inl (cI, 8, .inl weathers)), (a_hours, .inl (cI, 8, .inl hours)), (a_fear, .inl (cI, 8, .inl fear)), (a_watchedOut, .inl (cZ, 8, .inl watchedOut))]) ⟨hx, hb, hml, hown, hts⟩ (c_X8_fits l D cI cZ cO hw) (cwV 0 hts gX8_lookOn_X8_fits rfl rfl rfl (by decide +kernel) ⟨Nat.le_of_ble_eq_true rfl, Nat.le_of_ble_eq_true rfl⟩) hKK hP [0, 1, 2, 3, 4, 5, 6, 7, 8, 9] rfl rfl rfl rfl hl.1 rfl (Nat.le_of_ble_eq_true rfl) dX8_lookOn_1 ⟨Nat.zero_le _, Nat.zero_le _⟩ (fun r_1 hw => ?_)
  refine lv_istore_n (lv' := [(1, .int r_1), (0, .ref a_this)]) hx hb dX8_lookOn_4 rfl hl (by decide) rfl (fun ls hl => ?_)
  refine lv_iconst (v := (-1)) hx hb dX8_lookOn_5 (by decide) ?_
  refine lv_istore_n (lv' := [(2, .int (-1)), (1, .int r_1), (0, .ref a_this)]) hx hb dX8_lookOn_6 rfl hl (by decide) rfl (fun ls hl => ?_)
  refine lv_iload_n hx hb dX8_lookOn_7 rfl (lv_at hl 1 rfl) ?_
  refine xcSi (As := [.int r_1]) (rest := []) (wc := []) ⟨hx, hb, hml, hown, hts⟩ (c_X8_bits l D cI cZ cO hw) (va_cwS 1 hts gX8_lookOn_X8_bits rfl rfl rfl (by decide +kernel) ⟨Nat.le_of_ble_eq_true rfl, Nat.le_of_ble_eq_true rfl⟩) hKK hP [] rfl rfl hl.1 rfl (Nat.le_of_ble_eq_true rfl) dX8_lookOn_8 ⟨Nat.zero_le _, Nat.zero_le _⟩ (fun r_8 hw => ?_)
  refine lv_istore_n (lv' := [(3, .int r_8), (2, .int (-1)), (1, .int r_1), (0, .ref a_this)]) hx hb dX8_lookOn_11 rfl hl (by decide) rfl (fun ls hl => ?_)
  refine lv_iconst (v := 0) hx hb dX8_lookOn_12 (by decide) ?_
  refine lv_istore (lv' := [(4, .int 0), (3, .int r_8), (2, .int (-1)), (1, .int r_1), (0, .ref a_this)]) hx hb dX8_lookOn_13 hl (by decide) rfl (fun ls hl => ?_)
  have EX_15 : ∀ (x2_15 : Int32) (x3_15 : Int32) (x4_15 : Int32), ∀ (ls : Array Slot), lv_has ls 7 [(0, .ref a_this), (1, .int r_1), (2, .int x2_15), (3, .int x3_15), (4, .int x4_15)] → (wk_X8_lookOn_15 Φ x2_15 x3_15 x4_15) → W p l e xrm_X8_lookOn s m args below meth c s.heap [] 0 0 Q (F0 m 136 ls []) := by
    intro x2_15 x3_15 x4_15 ls hl hw
    unfold wk_X8_lookOn_15 at hw
    refine lv_iload_n hx hb dX8_lookOn_136 rfl (lv_at hl 2 rfl) ?_
    rw [hQ]
    exact W.iret (v := x2_15) hx hb hr (fun t ht _ => ⟨x2_15, rfl, hw, ht⟩) (fun _ h => (List.not_mem_nil h).elim) dX8_lookOn_137
  generalize (wk_X8_lookOn_15 Φ) = K_15 at EX_15 hw
  have LP_15 : ∀ n : Nat, ∀ (x2_15 : Int32) (x3_15 : Int32) (x4_15 : Int32), ∀ (ls : Array Slot), lv_has ls 7 [(0, .ref a_this), (1, .int r_1), (2, .int x2_15), (3, .int x3_15), (4, .int x4_15)] → xit3 (wb_X8_lookOn_15 days now dayWeather dayHour dayDanger weathers hours fear r_1 K_15) n x2_15 x3_15 x4_15 → W p l e xrm_X8_lookOn s m args below meth c s.heap [] 0 0 Q (F0 m 15 ls []) := by
    intro n
    induction n with
    | zero => intro x2_15 x3_15 x4_15 ls hl hw; exact (show False from hw).elim
    | succ n ih =>
      intro x2_15 x3_15 x4_15 ls hl hw
      have hw : wb_X8_lookOn_15 days now dayWeather dayHour dayDanger weathers hours fear r_1 K_15 (xit3 (wb_X8_lookOn_15 days now dayWeather dayHour dayDanger weathers hours fear r_1 K_15) n) x2_15 x3_15 x4_15 := hw
      generalize xit3 (wb_X8_lookOn_15 days now dayWeather dayHour dayDanger weathers hours fear r_1 K_15) n = rec_15 at ih hw
      unfold wb_X8_lookOn_15 at hw
      have JN_102 : ∀ (x5_102 : Int32) (x6_102 : Int32) (s0_102 : Int32), ∀ (ls : Array Slot), lv_has ls 7 [(0, .ref a_this), (1, .int r_1), (2, .int x2_15), (3, .int x3_15), (4, .int x4_15), (5, .int x5_102), (6, .int x6_102)] → (wj_X8_lookOn_102 x2_15 x3_15 x4_15 rec_15 x5_102 x6_102 s0_102) → W p l e xrm_X8_lookOn s m args below meth c s.heap [] 0 0 Q (F0 m 102 ls [.int s0_102]) := by
        intro x5_102 x6_102 s0_102 ls hl hw
        unfold wj_X8_lookOn_102 at hw
        refine lv_istore (lv' := [(6, .int s0_102), (0, .ref a_this), (1, .int r_1), (2, .int x2_15), (3, .int x3_15), (4, .int x4_15), (5, .int x5_102)]) hx hb dX8_lookOn_102 hl (by decide) rfl (fun ls hl => ?_)
        refine lv_iload hx hb dX8_lookOn_104 (lv_at hl 0 rfl) ?_
        refine lv_iload_n hx hb dX8_lookOn_106 rfl (lv_at hl 4 rfl) ?_
        refine lv_icmp_ge (tgt := 115) hx hb dX8_lookOn_107 (by decide) (fun c_107 => ?_) (fun c_107 => ?_)
        · have hw := hw.1 c_107
          refine lv_iload_n hx hb dX8_lookOn_115 rfl (lv_at hl 3 rfl) ?_
          refine lv_istore_n (lv' := [(2, .int x2_15), (6, .int s0_102), (0, .ref a_this), (1, .int r_1), (3, .int x3_15), (4, .int x4_15), (5, .int x5_102)]) hx hb dX8_lookOn_116 rfl hl (by decide) rfl (fun ls hl => ?_)
          refine lv_iload hx hb dX8_lookOn_117 (lv_at hl 1 rfl) ?_
          refine lv_iload_n hx hb dX8_lookOn_119 rfl (lv_at hl 4 rfl) ?_
          refine lv_icmp_ge (tgt := 128) hx hb dX8_lookOn_120 (by decide) (fun c_120 => ?_) (fun c_120 => ?_)
          · have hw := hw.1 c_120
            refine lv_iload_n hx hb dX8_lookOn_128 rfl (lv_at hl 4 rfl) ?_
            refine lv_istore_n (lv' := [(3, .int x3_15), (2, .int x2_15), (6, .int s0_102), (0, .ref a_this), (1, .int r_1), (4, .int x4_15), (5, .int x5_102)]) hx hb dX8_lookOn_129 rfl hl (by decide) rfl (fun ls hl => ?_)
            refine lv_iinc (v := (x4_15 + 1)) (lv' := [(4, .int (x4_15 + 1)), (3, .int x3_15), (2, .int x2_15), (6, .int s0_102), (0, .ref a_this), (1, .int r_1), (5, .int x5_102)]) hx hb dX8_lookOn_130 hl (k := 5) rfl (by rfl) (by decide) rfl (fun ls hl => ?_)
            refine lv_goto (tgt := 15) hx hb dX8_lookOn_133 (by decide) ?_
            exact ih _ _ _ ls (lv_sub hl [4, 5, 2, 1, 0] rfl) hw
          · have hw := hw.2 c_120
            refine lv_iload hx hb dX8_lookOn_123 (lv_at hl 1 rfl) ?_
            refine lv_goto (tgt := 129) hx hb dX8_lookOn_125 (by decide) ?_
            refine lv_istore_n (lv' := [(3, .int s0_102), (2, .int x2_15), (6, .int s0_102), (0, .ref a_this), (1, .int r_1), (4, .int x4_15), (5, .int x5_102)]) hx hb dX8_lookOn_129 rfl hl (by decide) rfl (fun ls hl => ?_)
            refine lv_iinc (v := (x4_15 + 1)) (lv' := [(4, .int (x4_15 + 1)), (3, .int s0_102), (2, .int x2_15), (6, .int s0_102), (0, .ref a_this), (1, .int r_1), (5, .int x5_102)]) hx hb dX8_lookOn_130 hl (k := 5) rfl (by rfl) (by decide) rfl (fun ls hl => ?_)
            refine lv_goto (tgt := 15) hx hb dX8_lookOn_133 (by decide) ?_
            exact ih _ _ _ ls (lv_sub hl [4, 5, 2, 1, 0] rfl) hw
        · have hw := hw.2 c_107
          refine lv_iload hx hb dX8_lookOn_110 (lv_at hl 5 rfl) ?_
          refine lv_goto (tgt := 116) hx hb dX8_lookOn_112 (by decide) ?_
          refine lv_istore_n (lv' := [(2, .int x4_15), (6, .int s0_102), (0, .ref a_this), (1, .int r_1), (3, .int x3_15), (4, .int x4_15), (5, .int x5_102)]) hx hb dX8_lookOn_116 rfl hl (by decide) rfl (fun ls hl => ?_)
          refine lv_iload hx hb dX8_lookOn_117 (lv_at hl 1 rfl) ?_
          refine lv_iload_n hx hb dX8_lookOn_119 rfl (lv_at hl 4 rfl) ?_
          refine lv_icmp_ge (tgt := 128) hx hb dX8_lookOn_120 (by decide) (fun c_120 => ?_) (fun c_120 => ?_)
          · have hw := hw.1 c_120
            refine lv_iload_n hx hb dX8_lookOn_128 rfl (lv_at hl 4 rfl) ?_
            refine lv_istore_n (lv' := [(3, .int x3_15), (2, .int x4_15), (6, .int s0_102), (0, .ref a_this), (1, .int r_1), (4, .int x4_15), (5, .int x5_102)]) hx hb dX8_lookOn_129 rfl hl (by decide) rfl (fun ls hl => ?_)
            refine lv_iinc (v := (x4_15 + 1)) (lv' := [(4, .int (x4_15 + 1)), (3, .int x3_15), (2, .int x4_15), (6, .int s0_102), (0, .ref a_this), (1, .int r_1), (5, .int x5_102)]) hx hb dX8_lookOn_130 hl (k := 5) rfl (by rfl) (by decide) rfl (fun ls hl => ?_)
            refine lv_goto (tgt := 15) hx hb dX8_lookOn_133 (by decide) ?_
            exact ih _ _ _ ls (lv_sub hl [4, 5, 2, 1, 0] rfl) hw
          · have hw := hw.2 c_120
            refine lv_iload hx hb dX8_lookOn_123 (lv_at hl 1 rfl) ?_
            refine lv_goto (tgt := 129) hx hb dX8_lookOn_125 (by decide) ?_
            refine lv_istore_n (lv' := [(3, .int s0_102), (2, .int x4_15), (6, .int s0_102), (0, .ref a_this), (1, .int r_1), (4, .int x4_15), (5, .int x5_102)]) hx hb dX8_lookOn_129 rfl hl (by decide) rfl (fun ls hl => ?_)
            refine lv_iinc (v := (x4_15 + 1)) (lv' := [(4, .int (x4_15 + 1)), (3, .int s0_102), (2, .int x4_15), (6, .int s0_102), (0, .ref a_this), (1, .int r_1), (5, .int x5_102)]) hx hb dX8_lookOn_130 hl (k := 5) rfl (by rfl) (by decide) rfl (fun ls hl => ?_)
            refine lv_goto (tgt := 15) hx hb dX8_lookOn_133 (by decide) ?_
            exact ih _ _ _ ls (lv_sub hl [4, 5, 2, 1, 0] rfl) hw
      refine lv_iload hx hb dX8_lookOn_15 (lv_at hl 4 rfl) ?_
      refine lv_aload_n hx hb dX8_lookOn_17 rfl (lv_at hl 0 rfl) ?_
      refine va_get (D := D) (ci := 8) (v := .int days) (C := RX8) (T := TX8) (N := 38) hx hb hts hinX8 hown hKK.1 hP 0 rfl rfl 4 (by decide) fl_148 (fun _ h9 => h9) rfl dX8_lookOn_18 ?_
      refine lv_icmp_ge (tgt := 136) hx hb dX8_lookOn_21 (by decide) (fun c_21 => ?_) (fun c_21 => ?_)
      · have hw := hw.1 c_21
        exact EX_15 _ _ _ ls (lv_sub hl [0, 1, 2, 3, 4] rfl) hw
      · have hw := hw.2 c_21
        refine lv_iconst (v := 0) hx hb dX8_lookOn_24 (by decide) ?_
        refine lv_istore (lv' := [(5, .int 0), (0, .ref a_this), (1, .int r_1), (2, .int x2_15), (3, .int x3_15), (4, .int x4_15)]) hx hb dX8_lookOn_25 hl (by decide) rfl (fun ls hl => ?_)
        refine lv_iconst (v := 0) hx hb dX8_lookOn_27 (by decide) ?_
        refine lv_istore (lv' := [(6, .int 0), (5, .int 0), (0, .ref a_this), (1, .int r_1), (2, .int x2_15), (3, .int x3_15), (4, .int x4_15)]) hx hb dX8_lookOn_28 hl (by decide) rfl (fun ls hl => ?_)
        have EX_30 : ∀ (x5_30 : Int32) (x6_30 : Int32), ∀ (ls : Array Slot), lv_has ls 7 [(0, .ref a_this), (1, .int r_1), (2, .int x2_15), (3, .int x3_15), (4, .int x4_15), (5, .int x5_30), (6, .int x6_30)] → (wk_X8_lookOn_30 r_1 x2_15 x3_15 x4_15 rec_15 x5_30 x6_30) → W p l e xrm_X8_lookOn s m args below meth c s.heap [] 0 0 Q (F0 m 78 ls []) := by
          intro x5_30 x6_30 ls hl hw
          unfold wk_X8_lookOn_30 at hw
          refine lv_iload hx hb dX8_lookOn_78 (lv_at hl 5 rfl) ?_
          refine lv_iload_n hx hb dX8_lookOn_80 rfl (lv_at hl 1 rfl) ?_
          refine xcSi (As := [.int r_1]) (rest := [.int x5_30]) (wc := []) ⟨hx, hb, hml, hown, hts⟩ (c_X8_bits l D cI cZ cO hw) (va_cwS 1 hts gX8_lookOn_X8_bits rfl rfl rfl (by decide +kernel) ⟨Nat.le_of_ble_eq_true rfl, Nat.le_of_ble_eq_true rfl⟩) hKK hP [] rfl rfl hl.1 rfl (Nat.le_of_ble_eq_true rfl) dX8_lookOn_81 ⟨Nat.zero_le _, Nat.zero_le _⟩ (fun r_81 hw => ?_)
          refine lv_iload hx hb dX8_lookOn_84 (lv_at hl 5 rfl) ?_
          refine lv_isub hx hb dX8_lookOn_86 ?_
          refine lv_icmp_le (tgt := 95) hx hb dX8_lookOn_87 (by decide) (fun c_87 => ?_) (fun c_87 => ?_)
          · have hw := hw.1 c_87
            refine lv_iload_n hx hb dX8_lookOn_95 rfl (lv_at hl 1 rfl) ?_
            refine xcSi (As := [.int r_1]) (rest := []) (wc := []) ⟨hx, hb, hml, hown, hts⟩ (c_X8_bits l D cI cZ cO hw) (va_cwS 1 hts gX8_lookOn_X8_bits rfl rfl rfl (by decide +kernel) ⟨Nat.le_of_ble_eq_true rfl, Nat.le_of_ble_eq_true rfl⟩) hKK hP [] rfl rfl hl.1 rfl (Nat.le_of_ble_eq_true rfl) dX8_lookOn_96 ⟨Nat.zero_le _, Nat.zero_le _⟩ (fun r_96 hw => ?_)
            refine lv_iload hx hb dX8_lookOn_99 (lv_at hl 5 rfl) ?_
            refine lv_isub hx hb dX8_lookOn_101 ?_
            exact JN_102 _ _ _ ls (lv_sub hl [0, 1, 2, 3, 4, 5, 6] rfl) hw
          · have hw := hw.2 c_87
            refine lv_iload hx hb dX8_lookOn_90 (lv_at hl 5 rfl) ?_
            refine lv_goto (tgt := 102) hx hb dX8_lookOn_92 (by decide) ?_
            exact JN_102 _ _ _ ls (lv_sub hl [0, 1, 2, 3, 4, 5, 6] rfl) hw
        generalize (wk_X8_lookOn_30 r_1 x2_15 x3_15 x4_15 rec_15) = K_30 at EX_30 hw
        have LP_30 : ∀ n : Nat, ∀ (x5_30 : Int32) (x6_30 : Int32), ∀ (ls : Array Slot), lv_has ls 7 [(0, .ref a_this), (1, .int r_1), (2, .int x2_15), (3, .int x3_15), (4, .int x4_15), (5, .int x5_30), (6, .int x6_30)] → xit2 (wb_X8_lookOn_30 now dayWeather dayHour dayDanger weathers hours fear r_1 x4_15 K_30) n x5_30 x6_30 → W p l e xrm_X8_lookOn s m args below meth c s.heap [] 0 0 Q (F0 m 30 ls []) := by
          intro n
          induction n with
          | zero => intro x5_30 x6_30 ls hl hw; exact (show False from hw).elim
          | succ n ih =>
            intro x5_30 x6_30 ls hl hw
            have hw : wb_X8_lookOn_30 now dayWeather dayHour dayDanger weathers hours fear r_1 x4_15 K_30 (xit2 (wb_X8_lookOn_30 now dayWeather dayHour dayDanger weathers hours fear r_1 x4_15 K_30) n) x5_30 x6_30 := hw
            generalize xit2 (wb_X8_lookOn_30 now dayWeather dayHour dayDanger weathers hours fear r_1 x4_15 K_30) n = rec_30 at ih hw
            unfold wb_X8_lookOn_30 at hw
            refine lv_iload hx hb dX8_lookOn_30 (lv_at hl 6 rfl) ?_
            refine lv_aload_n hx hb dX8_lookOn_32 rfl (lv_at hl 0 rfl) ?_
            refine va_get (D := D) (ci := 8) (v := .ref a_now) (C := RX8) (T := TX8) (N := 38) hx hb hts hinX8 hown hKK.1 hP 0 rfl rfl 8 (by decide) fl_28 (fun _ h9 => h9) rfl dX8_lookOn_33 ?_
            refine lv_bipush (v := 8) hx hb dX8_lookOn_36 (by decide) ?_
            refine x_iald 8 (by decide) (Nat.le_of_ble_eq_true rfl) hx hb hKK.1 hP 1 0 rfl rfl dX8_lookOn_38 ?_
            refine lv_icmp_ge (tgt := 78) hx hb dX8_lookOn_39 (by decide) (fun c_39 => ?_) (fun c_39 => ?_)
            · have hw := hw.1 c_39
              exact EX_30 _ _ ls (lv_sub hl [0, 1, 2, 3, 4, 5, 6] rfl) hw
            · have hw := hw.2 c_39
              refine lv_iload hx hb dX8_lookOn_42 (lv_at hl 5 rfl) ?_
              refine lv_iload_n hx hb dX8_lookOn_44 rfl (lv_at hl 1 rfl) ?_
              refine lv_iload hx hb dX8_lookOn_45 (lv_at hl 6 rfl) ?_
              refine xcSi (As := [.int r_1, .int x6_30]) (rest := [.int x5_30]) (wc := []) ⟨hx, hb, hml, hown, hts⟩ (c_X8_has l D cI cZ cO hw) (va_cwS 2 hts gX8_lookOn_X8_has rfl rfl rfl (by decide +kernel) ⟨Nat.le_of_ble_eq_true rfl, Nat.le_of_ble_eq_true rfl⟩) hKK hP [] rfl rfl hl.1 rfl (Nat.le_of_ble_eq_true rfl) dX8_lookOn_47 ⟨Nat.zero_le _, Nat.zero_le _⟩ (fun r_47 hw => ?_)
              refine lv_if_eq (tgt := 68) hx hb dX8_lookOn_50 (by decide) (fun c_50 => ?_) (fun c_50 => ?_)
              · have hw := hw.1 c_50
                refine lv_iconst (v := 0) hx hb dX8_lookOn_68 (by decide) ?_
                refine lv_iadd hx hb dX8_lookOn_69 ?_
                refine lv_istore (lv' := [(5, .int (x5_30 + 0)), (0, .ref a_this), (1, .int r_1), (2, .int x2_15), (3, .int x3_15), (4, .int x4_15), (6, .int x6_30)]) hx hb dX8_lookOn_70 hl (by decide) rfl (fun ls hl => ?_)
                refine lv_iinc (v := (x6_30 + 1)) (lv' := [(6, .int (x6_30 + 1)), (5, .int (x5_30 + 0)), (0, .ref a_this), (1, .int r_1), (2, .int x2_15), (3, .int x3_15), (4, .int x4_15)]) hx hb dX8_lookOn_72 hl (k := 6) rfl (by rfl) (by decide) rfl (fun ls hl => ?_)
                refine lv_goto (tgt := 30) hx hb dX8_lookOn_75 (by decide) ?_
                exact ih _ _ ls (lv_sub hl [2, 3, 4, 5, 6, 1, 0] rfl) hw
              · have hw := hw.2 c_50
                refine lv_aload_n hx hb dX8_lookOn_53 rfl (lv_at hl 0 rfl) ?_
                refine lv_iload hx hb dX8_lookOn_54 (lv_at hl 6 rfl) ?_
                refine lv_iload hx hb dX8_lookOn_56 (lv_at hl 4 rfl) ?_
                refine xcVi (q0 := 0) (ci := 8) (As := [.int x6_30, .int x4_15]) (rest := [.int x5_30]) (wc := [(a_this, .inr (8, [.int pay, .ref a_weathers, .ref a_hours, .ref a_fear, .int days, .ref a_dayWeather, .ref a_dayHour, .ref a_dayDanger, .ref a_now, .int seed, .ref a_text, .int texted, .int faultPlace, .int at0, .int number, .int numberAt, .ref a_readPay, .int readPersons, .ref a_readMarks, .ref a_readWeathers, .ref a_readHours, .ref a_readFear, .int readDays, .ref a_readWeather, .ref a_readHour, .ref a_readDanger, .int undos, .ref a_past, .ref a_morning, .ref a_sent, .int watched, .ref a_watchedDay, .ref a_watchedOut, .int booked, .ref a_bookWho, .ref a_bookMarks, .ref a_images, .ref a_isKept])), (a_dayWeather, .inl (cI, 10, .inl dayWeather)), (a_dayHour, .inl (cI, 10, .inl dayHour)), (a_dayDanger, .inl (cI, 10, .inl dayDanger)), (a_weathers, .inl (cI, 8, .inl weathers)), (a_hours, .inl (cI, 8, .inl hours)), (a_fear, .inl (cI, 8, .inl fear))]) ⟨hx, hb, hml, hown, hts⟩ (c_X8_goesAt l D cI cZ cO hw) (cwV 2 hts gX8_lookOn_X8_goesAt rfl rfl rfl (by decide +kernel) ⟨Nat.le_of_ble_eq_true rfl, Nat.le_of_ble_eq_true rfl⟩) hKK hP [0, 3, 4, 5, 6, 7, 8] rfl rfl rfl rfl hl.1 rfl (Nat.le_of_ble_eq_true rfl) dX8_lookOn_58 ⟨Nat.zero_le _, Nat.zero_le _⟩ (fun r_58 hw => ?_)
                refine lv_if_eq (tgt := 68) hx hb dX8_lookOn_61 (by decide) (fun c_61 => ?_) (fun c_61 => ?_)
                · have hw := hw.1 c_61
                  refine lv_iconst (v := 0) hx hb dX8_lookOn_68 (by decide) ?_
                  refine lv_iadd hx hb dX8_lookOn_69 ?_
                  refine lv_istore (lv' := [(5, .int (x5_30 + 0)), (0, .ref a_this), (1, .int r_1), (2, .int x2_15), (3, .int x3_15), (4, .int x4_15), (6, .int x6_30)]) hx hb dX8_lookOn_70 hl (by decide) rfl (fun ls hl => ?_)
                  refine lv_iinc (v := (x6_30 + 1)) (lv' := [(6, .int (x6_30 + 1)), (5, .int (x5_30 + 0)), (0, .ref a_this), (1, .int r_1), (2, .int x2_15), (3, .int x3_15), (4, .int x4_15)]) hx hb dX8_lookOn_72 hl (k := 6) rfl (by rfl) (by decide) rfl (fun ls hl => ?_)
                  refine lv_goto (tgt := 30) hx hb dX8_lookOn_75 (by decide) ?_
                  exact ih _ _ ls (lv_sub hl [2, 3, 4, 5, 6, 1, 0] rfl) hw
                · have hw := hw.2 c_61
                  refine lv_iconst (v := 1) hx hb dX8_lookOn_64 (by decide) ?_
                  refine lv_goto (tgt := 69) hx hb dX8_lookOn_65 (by decide) ?_
                  refine lv_iadd hx hb dX8_lookOn_69 ?_
                  refine lv_istore (lv' := [(5, .int (x5_30 + 1)), (0, .ref a_this), (1, .int r_1), (2, .int x2_15), (3, .int x3_15), (4, .int x4_15), (6, .int x6_30)]) hx hb dX8_lookOn_70 hl (by decide) rfl (fun ls hl => ?_)
                  refine lv_iinc (v := (x6_30 + 1)) (lv' := [(6, .int (x6_30 + 1)), (5, .int (x5_30 + 1)), (0, .ref a_this), (1, .int r_1), (2, .int x2_15), (3, .int x3_15), (4, .int x4_15)]) hx hb dX8_lookOn_72 hl (k := 6) rfl (by rfl) (by decide) rfl (fun ls hl => ?_)
                  refine lv_goto (tgt := 30) hx hb dX8_lookOn_75 (by decide) ?_
                  exact ih _ _ ls (lv_sub hl [2, 3, 4, 5, 6, 1, 0] rfl) hw
        obtain ⟨n, hw⟩ := hw
        exact LP_30 n _ _ ls (lv_sub hl [2, 3, 4, 5, 6, 1, 0] rfl) hw
  obtain ⟨n, hw⟩ := hw
  exact LP_15 n _ _ _ ls (lv_sub hl [4, 3, 2, 1, 0] rfl) hw
def wp_X8_write (booked : Int32) (now : Nat → Int32) (bookWho : Nat → Int32) (bookMarks : Nat → Int32) (p1 : Int32) (p2 : Int32) (Φ : Int32 → (Nat → Int32) → (Nat → Int32) → Int32 → Prop) : Prop :=
  (wp_X8_isPerson now p1 (fun r_2 => ((r_2 = 0 → (Φ (-1000000001) bookWho bookMarks booked)) ∧ (¬ r_2 = 0 → (wp_X8_in (p2).toInt64 0 255 (fun r_17 => ((r_17 = 0 → (Φ (-1000000002) bookWho bookMarks booked)) ∧ (¬ r_17 = 0 → ((booked = 15 → (Φ (-1000000004) bookWho bookMarks booked)) ∧ (¬ booked = 15 → (vp_in booked 15 ∧ (vp_in booked 15 ∧ (Φ (booked + 1) (upd bookWho booked.toNatClampNeg p1) (upd bookMarks booked.toNatClampNeg p2) (booked + 1))))))))))))))
abbrev xrm_X8_write : Room := { frames := 2, cells := 0, slots := 0, locals := 46 }
set_option maxRecDepth 100000 in
set_option maxHeartbeats 4000000 in
theorem c_X8_write (l : Launch) (D : va_G) (cI cZ cO : ClassId) {pay : Int32} {a_weathers : Nat} {a_hours : Nat} {a_fear : Nat} {days : Int32} {a_dayWeather : Nat} {a_dayHour : Nat} {a_dayDanger : Nat} {a_now : Nat} {seed : Int32} {a_text : Nat} {texted : Int32} {faultPlace : Int32} {at0 : Int32} {number : Int32} {numberAt : Int32} {a_readPay : Nat} {readPersons : Int32} {a_readMarks : Nat} {a_readWeathers : Nat} {a_readHours : Nat} {a_readFear : Nat} {readDays : Int32} {a_readWeather : Nat} {a_readHour : Nat} {a_readDanger : Nat} {undos : Int32} {a_past : Nat} {a_morning : Nat} {a_sent : Nat} {watched : Int32} {a_watchedDay : Nat} {a_watchedOut : Nat} {booked : Int32} {a_bookWho : Nat} {a_bookMarks : Nat} {a_images : Nat} {a_isKept : Nat} {a_this : Nat} {now : Nat → Int32} {bookWho : Nat → Int32} {bookMarks : Nat → Int32} {p1 : Int32} {p2 : Int32} {Φ : Int32 → (Nat → Int32) → (Nat → Int32) → Int32 → Prop} {sz : Nat} (hw : (wp_X8_write booked now bookWho bookMarks p1 p2 Φ)) : Met l yX8_write wsX8_write xrm_X8_write (xPW D cI cZ cO [.ref a_this, .int p1, .int p2] sz [(a_this, .inr (8, [.int pay, .ref a_weathers, .ref a_hours, .ref a_fear, .int days, .ref a_dayWeather, .ref a_dayHour, .ref a_dayDanger, .ref a_now, .int seed, .ref a_text, .int texted, .int faultPlace, .int at0, .int number, .int numberAt, .ref a_readPay, .int readPersons, .ref a_readMarks, .ref a_readWeathers, .ref a_readHours, .ref a_readFear, .int readDays, .ref a_readWeather, .ref a_readHour, .ref a_readDanger, .int undos, .ref a_past, .ref a_morning, .ref a_sent, .int watched, .ref a_watchedDay, .ref a_watchedOut, .int booked, .ref a_bookWho, .ref a_bookMarks, .ref a_images, .ref a_isKept])), (a_now, .inl (cI, 13, .inl now)), (a_bookWho, .inl (cI, 15, .inl bookWho)), (a_bookMarks, .inl (cI, 15, .inl bookMarks))]) (va_Qi (fun (r : Int32) (u : (Nat → Int32) × (Nat → Int32) × Int32) => Φ r u.1 u.2.1 u.2.2) (xB D (va_A [(a_this, .inr (8, [.int pay, .ref a_weathers, .ref a_hours, .ref a_fear, .int days, .ref a_dayWeather, .ref a_dayHour, .ref a_dayDanger, .ref a_now, .int seed, .ref a_text, .int texted, .int faultPlace, .int at0, .int number, .int numberAt, .ref a_readPay, .int readPersons, .ref a_readMarks, .ref a_readWeathers, .ref a_readHours, .ref a_readFear, .int readDays, .ref a_readWeather, .ref a_readHour, .ref a_readDanger, .int undos, .ref a_past, .ref a_morning, .ref a_sent, .int watched, .ref a_watchedDay, .ref a_watchedOut, .int booked, .ref a_bookWho, .ref a_bookMarks, .ref a_images, .ref a_isKept])), (a_now, .inl (cI, 13, .inl now)), (a_bookWho, .inl (cI, 15, .inl bookWho)), (a_bookMarks, .inl (cI, 15, .inl bookMarks))] sz) (fun (u : (Nat → Int32) × (Nat → Int32) × Int32) => [(a_this, .inr (8, [.int pay, .ref a_weathers, .ref a_hours, .ref a_fear, .int days, .ref a_dayWeather, .ref a_dayHour, .ref a_dayDanger, .ref a_now, .int seed, .ref a_text, .int texted, .int faultPlace, .int at0, .int number, .int numberAt, .ref a_readPay, .int readPersons, .ref a_readMarks, .ref a_readWeathers, .ref a_readHours, .ref a_readFear, .int readDays, .ref a_readWeather, .ref a_readHour, .ref a_readDanger, .int undos, .ref a_past, .ref a_morning, .ref a_sent, .int watched, .ref a_watchedDay, .ref a_watchedOut, .int u.2.2, .ref a_bookWho, .ref a_bookMarks, .ref a_images, .ref a_isKept])), (a_now, .inl (cI, 13, .inl now)), (a_bookWho, .inl (cI, 15, .inl u.1)), (a_bookMarks, .inl (cI, 15, .inl u.2.1))])) (va_A [(a_this, .inr (8, [.int pay, .ref a_weathers, .ref a_hours, .ref a_fear, .int days, .ref a_dayWeather, .ref a_dayHour, .ref a_dayDanger, .ref a_now, .int seed, .ref a_text, .int texted, .int faultPlace, .int at0, .int number, .int numberAt, .ref a_readPay, .int readPersons, .ref a_readMarks, .ref a_readWeathers, .ref a_readHours, .ref a_readFear, .int readDays, .ref a_readWeather, .ref a_readHour, .ref a_readDanger, .int undos, .ref a_past, .ref a_morning, .ref a_sent, .int watched, .ref a_watchedDay, .ref a_watchedOut, .int booked, .ref a_bookWho, .ref a_bookMarks, .ref a_images, .ref a_isKept])), (a_now, .inl (cI, 13, .inl now)), (a_bookWho, .inl (cI, 15, .inl bookWho)), (a_bookMarks, .inl (cI, 15, .inl bookMarks))] sz)) 0 0 (va_A [(a_this, .inr (8, [.int pay, .ref a_weathers, .ref a_hours, .ref a_fear, .int days, .ref a_dayWeather, .ref a_dayHour, .ref a_dayDanger, .ref a_now, .int seed, .ref a_text, .int texted, .int faultPlace, .int at0, .int number, .int numberAt, .ref a_readPay, .int readPersons, .ref a_readMarks, .ref a_readWeathers, .ref a_readHours, .ref a_readFear, .int readDays, .ref a_readWeather, .ref a_readHour, .ref a_readDanger, .int undos, .ref a_past, .ref a_morning, .ref a_sent, .int watched, .ref a_watchedDay, .ref a_watchedOut, .int booked, .ref a_bookWho, .ref a_bookMarks, .ref a_images, .ref a_isKept])), (a_now, .inl (cI, 13, .inl now)), (a_bookWho, .inl (cI, 15, .inl bookWho)), (a_bookMarks, .inl (cI, 15, .inl bookMarks))] sz) := by
  refine Met.ofW (cc := cX8_write) (maxL := 3) (ret := (some .int)) (by decide) rfl ?_
  intro p e s m args below meth c s₁ B hml hv
  obtain ⟨rfl, hsz, hP, hKK, hD0⟩ := hv
  have hx := B.exec
  have hb := B.bytes
  have hr := B.returns
  have hts := atoms_spec (ws := wsX8_write) B.pre
  have hown : s.vm.findClass RX8 = some m.cls := findClass_of_methodNamed B.named
  have hlocks := B.notSynchronized
  subst hsz
  have hD := hD0.self (sz := s.heap.size)
  obtain ⟨Q, hQ⟩ : ∃ Q, Q = MQ below (va_Qi (fun (r : Int32) (u : (Nat → Int32) × (Nat → Int32) × Int32) => Φ r u.1 u.2.1 u.2.2) (xB D (va_A [(a_this, .inr (8, [.int pay, .ref a_weathers, .ref a_hours, .ref a_fear, .int days, .ref a_dayWeather, .ref a_dayHour, .ref a_dayDanger, .ref a_now, .int seed, .ref a_text, .int texted, .int faultPlace, .int at0, .int number, .int numberAt, .ref a_readPay, .int readPersons, .ref a_readMarks, .ref a_readWeathers, .ref a_readHours, .ref a_readFear, .int readDays, .ref a_readWeather, .ref a_readHour, .ref a_readDanger, .int undos, .ref a_past, .ref a_morning, .ref a_sent, .int watched, .ref a_watchedDay, .ref a_watchedOut, .int booked, .ref a_bookWho, .ref a_bookMarks, .ref a_images, .ref a_isKept])), (a_now, .inl (cI, 13, .inl now)), (a_bookWho, .inl (cI, 15, .inl bookWho)), (a_bookMarks, .inl (cI, 15, .inl bookMarks))] s.heap.size) (fun (u : (Nat → Int32) × (Nat → Int32) × Int32) => [(a_this, .inr (8, [.int pay, .ref a_weathers, .ref a_hours, .ref a_fear, .int days, .ref a_dayWeather, .ref a_dayHour, .ref a_dayDanger, .ref a_now, .int seed, .ref a_text, .int texted, .int faultPlace, .int at0, .int number, .int numberAt, .ref a_readPay, .int readPersons, .ref a_readMarks, .ref a_readWeathers, .ref a_readHours, .ref a_readFear, .int readDays, .ref a_readWeather, .ref a_readHour, .ref a_readDanger, .int undos, .ref a_past, .ref a_morning, .ref a_sent, .int watched, .ref a_watchedDay, .ref a_watchedOut, .int u.2.2, .ref a_bookWho, .ref a_bookMarks, .ref a_images, .ref a_isKept])), (a_now, .inl (cI, 13, .inl now)), (a_bookWho, .inl (cI, 15, .inl u.1)), (a_bookMarks, .inl (cI, 15, .inl u.2.1))])) (va_A [(a_this, .inr (8, [.int pay, .ref a_weathers, .ref a_hours, .ref a_fear, .int days, .ref a_dayWeather, .ref a_dayHour, .ref a_dayDanger, .ref a_now, .int seed, .ref a_text, .int texted, .int faultPlace, .int at0, .int number, .int numberAt, .ref a_readPay, .int readPersons, .ref a_readMarks, .ref a_readWeathers, .ref a_readHours, .ref a_readFear, .int readDays, .ref a_readWeather, .ref a_readHour, .ref a_readDanger, .int undos, .ref a_past, .ref a_morning, .ref a_sent, .int watched, .ref a_watchedDay, .ref a_watchedOut, .int booked, .ref a_bookWho, .ref a_bookMarks, .ref a_images, .ref a_isKept])), (a_now, .inl (cI, 13, .inl now)), (a_bookWho, .inl (cI, 15, .inl bookWho)), (a_bookMarks, .inl (cI, 15, .inl bookMarks))] s.heap.size)) ([.ref a_this, .int p1, .int p2] : List Value).toArray s 0 0 (va_A [(a_this, .inr (8, [.int pay, .ref a_weathers, .ref a_hours, .ref a_fear, .int days, .ref a_dayWeather, .ref a_dayHour, .ref a_dayDanger, .ref a_now, .int seed, .ref a_text, .int texted, .int faultPlace, .int at0, .int number, .int numberAt, .ref a_readPay, .int readPersons, .ref a_readMarks, .ref a_readWeathers, .ref a_readHours, .ref a_readFear, .int readDays, .ref a_readWeather, .ref a_readHour, .ref a_readDanger, .int undos, .ref a_past, .ref a_morning, .ref a_sent, .int watched, .ref a_watchedDay, .ref a_watchedOut, .int booked, .ref a_bookWho, .ref a_bookMarks, .ref a_images, .ref a_isKept])), (a_now, .inl (cI, 13, .inl now)), (a_bookWho, .inl (cI, 15, .inl bookWho)), (a_bookMarks, .inl (cI, 15, .inl bookMarks))] s.heap.size) := ⟨_, rfl⟩
  rw [← hQ]
  generalize hAe : va_A [(a_this, .inr (8, [.int pay, .ref a_weathers, .ref a_hours, .ref a_fear, .int days, .ref a_dayWeather, .ref a_dayHour, .ref a_dayDanger, .ref a_now, .int seed, .ref a_text, .int texted, .int faultPlace, .int at0, .int number, .int numberAt, .ref a_readPay, .int readPersons, .ref a_readMarks, .ref a_readWeathers, .ref a_readHours, .ref a_readFear, .int readDays, .ref a_readWeather, .ref a_readHour, .ref a_readDanger, .int undos, .ref a_past, .ref a_morning, .ref a_sent, .int watched, .ref a_watchedDay, .ref a_watchedOut, .int booked, .ref a_bookWho, .ref a_bookMarks, .ref a_images, .ref a_isKept])), (a_now, .inl (cI, 13, .inl now)), (a_bookWho, .inl (cI, 15, .inl bookWho)), (a_bookMarks, .inl (cI, 15, .inl bookMarks))] s.heap.size = A at hD hQ
  have hA : ∀ q : Nat, s.heap.size ≤ q → A q := fun q h => by rw [← hAe]; exact Or.inr h
  have hS : va_S A s.heap s.heap [] := va_S.rf
  have hl := lv_entry ([.ref a_this, .int p1, .int p2]) (n := 3) (Nat.le_of_ble_eq_true rfl)
  rw [lg_entry_eq]
  generalize (lg_sl ([.ref a_this, .int p1, .int p2]) ++ List.replicate (3 - (lg_sl ([.ref a_this, .int p1, .int p2])).length) Slot.unset).toArray = ls at hl ⊢
  have hl : lv_has ls 3 [(0, .ref a_this), (1, .int p1), (2, .int p2)] := hl
  generalize ([.ref a_this, .int p1, .int p2] : List Value).toArray = args at hts hQ ⊢
  have hP : va_P D vwCl [(a_this, .inr (8, [.int pay, .ref a_weathers, .ref a_hours, .ref a_fear, .int days, .ref a_dayWeather, .ref a_dayHour, .ref a_dayDanger, .ref a_now, .int seed, .ref a_text, .int texted, .int faultPlace, .int at0, .int number, .int numberAt, .ref a_readPay, .int readPersons, .ref a_readMarks, .ref a_readWeathers, .ref a_readHours, .ref a_readFear, .int readDays, .ref a_readWeather, .ref a_readHour, .ref a_readDanger, .int undos, .ref a_past, .ref a_morning, .ref a_sent, .int watched, .ref a_watchedDay, .ref a_watchedOut, .int booked, .ref a_bookWho, .ref a_bookMarks, .ref a_images, .ref a_isKept])), (a_now, .inl (cI, 13, .inl now)), (a_bookWho, .inl (cI, 15, .inl bookWho)), (a_bookMarks, .inl (cI, 15, .inl bookMarks))] s.heap := hP
  have hinX8 : ∀ w ∈ u_ws RX8 TX8 38, w ∈ wsX8_write := by decide +kernel
  have fl_78 := hts (.fieldLink RX8 78 "DoubleChainModel" "bookWho" "[I") (by decide +kernel)
  have fl_81 := hts (.fieldLink RX8 81 "DoubleChainModel" "bookMarks" "[I") (by decide +kernel)
  have fl_160 := hts (.fieldLink RX8 160 "DoubleChainModel" "booked" "I") (by decide +kernel)
  clear B
  show W p l e xrm_X8_write s m args below meth c s.heap [] 0 0 Q (F0 m 0 ls [])
  unfold wp_X8_write at hw
  refine lv_aload_n hx hb dX8_write_0 rfl (lv_at hl 0 rfl) ?_
  refine lv_iload_n hx hb dX8_write_1 rfl (lv_at hl 1 rfl) ?_
  refine xcVi (q0 := 0) (ci := 8) (As := [.int p1]) (rest := []) (wc := [(a_this, .inr (8, [.int pay, .ref a_weathers, .ref a_hours, .ref a_fear, .int days, .ref a_dayWeather, .ref a_dayHour, .ref a_dayDanger, .ref a_now, .int seed, .ref a_text, .int texted, .int faultPlace, .int at0, .int number, .int numberAt, .ref a_readPay, .int readPersons, .ref a_readMarks, .ref a_readWeathers, .ref a_readHours, .ref a_readFear, .int readDays, .ref a_readWeather, .ref a_readHour, .ref a_readDanger, .int undos, .ref a_past, .ref a_morning, .ref a_sent, .int watched, .ref a_watchedDay, .ref a_watchedOut, .int booked, .ref a_bookWho, .ref a_bookMarks, .ref a_images, .ref a_isKept])), (a_now, .inl (cI, 13, .inl now))]) ⟨hx, hb, hml, hown, hts⟩ (c_X8_isPerson l D cI cZ cO hw) (cwV 1 hts gX8_write_X8_isPerson rfl rfl rfl (by decide +kernel) ⟨Nat.le_of_ble_eq_true rfl, Nat.le_of_ble_eq_true rfl⟩) hKK hP [0, 1] rfl rfl rfl rfl hl.1 rfl (Nat.le_of_ble_eq_true rfl) dX8_write_2 ⟨Nat.zero_le _, Nat.zero_le _⟩ (fun r_2 hw => ?_)
  refine lv_if_ne (tgt := 11) hx hb dX8_write_5 (by decide) (fun c_5 => ?_) (fun c_5 => ?_)
  · have hw := hw.2 c_5
    refine lv_iload_n hx hb dX8_write_11 rfl (lv_at hl 2 rfl) ?_
    refine lv_i2l (v := (p2).toInt64) hx hb dX8_write_12 rfl ?_
    refine lv_lconst (v := 0) hx hb dX8_write_13 (by decide) ?_
    refine lv_ldc2 (v := 255) hx hb hown (hts (.constantLong RX8 101 255) (by decide +kernel)) dX8_write_14 ?_
    refine xcSi (As := [.long (p2).toInt64, .long 0, .long 255]) (rest := []) (wc := []) ⟨hx, hb, hml, hown, hts⟩ (c_X8_in l D cI cZ cO hw) (va_cwS 3 hts gX8_write_X8_in rfl rfl rfl (by decide +kernel) ⟨Nat.le_of_ble_eq_true rfl, Nat.le_of_ble_eq_true rfl⟩) hKK hP [] rfl rfl hl.1 rfl (Nat.le_of_ble_eq_true rfl) dX8_write_17 ⟨Nat.zero_le _, Nat.zero_le _⟩ (fun r_17 hw => ?_)
    refine lv_if_ne (tgt := 26) hx hb dX8_write_20 (by decide) (fun c_20 => ?_) (fun c_20 => ?_)
    · have hw := hw.2 c_20
      refine lv_aload_n hx hb dX8_write_26 rfl (lv_at hl 0 rfl) ?_
      refine va_get (D := D) (ci := 8) (v := .int booked) (C := RX8) (T := TX8) (N := 38) hx hb hts hinX8 hown hKK.1 hP 0 rfl rfl 33 (by decide) fl_160 (fun _ h9 => h9) rfl dX8_write_27 ?_
      refine lv_bipush (v := 15) hx hb dX8_write_30 (by decide) ?_
      refine lv_icmp_ne (tgt := 38) hx hb dX8_write_32 (by decide) (fun c_32 => ?_) (fun c_32 => ?_)
      · have hw := hw.2 c_32
        refine lv_aload_n hx hb dX8_write_38 rfl (lv_at hl 0 rfl) ?_
        refine va_get (D := D) (ci := 8) (v := .ref a_bookWho) (C := RX8) (T := TX8) (N := 38) hx hb hts hinX8 hown hKK.1 hP 0 rfl rfl 34 (by decide) fl_78 (fun _ h9 => h9) rfl dX8_write_39 ?_
        refine lv_aload_n hx hb dX8_write_42 rfl (lv_at hl 0 rfl) ?_
        refine va_get (D := D) (ci := 8) (v := .int booked) (C := RX8) (T := TX8) (N := 38) hx hb hts hinX8 hown hKK.1 hP 0 rfl rfl 33 (by decide) fl_160 (fun _ h9 => h9) rfl dX8_write_43 ?_
        refine lv_iload_n hx hb dX8_write_46 rfl (lv_at hl 1 rfl) ?_
        obtain ⟨hin, hw⟩ := hw
        refine va_iast hx hb hKK.1 hP hD hS 2 0 rfl rfl hin dX8_write_47 (fun H locs hP hD hS => ?_)
        have hP : va_P D vwCl [(a_this, .inr (8, [.int pay, .ref a_weathers, .ref a_hours, .ref a_fear, .int days, .ref a_dayWeather, .ref a_dayHour, .ref a_dayDanger, .ref a_now, .int seed, .ref a_text, .int texted, .int faultPlace, .int at0, .int number, .int numberAt, .ref a_readPay, .int readPersons, .ref a_readMarks, .ref a_readWeathers, .ref a_readHours, .ref a_readFear, .int readDays, .ref a_readWeather, .ref a_readHour, .ref a_readDanger, .int undos, .ref a_past, .ref a_morning, .ref a_sent, .int watched, .ref a_watchedDay, .ref a_watchedOut, .int booked, .ref a_bookWho, .ref a_bookMarks, .ref a_images, .ref a_isKept])), (a_now, .inl (cI, 13, .inl now)), (a_bookWho, .inl (cI, 15, .inl (upd bookWho booked.toNatClampNeg p1))), (a_bookMarks, .inl (cI, 15, .inl bookMarks))] H := hP
        have hD : va_D A [(a_this, .inr (8, [.int pay, .ref a_weathers, .ref a_hours, .ref a_fear, .int days, .ref a_dayWeather, .ref a_dayHour, .ref a_dayDanger, .ref a_now, .int seed, .ref a_text, .int texted, .int faultPlace, .int at0, .int number, .int numberAt, .ref a_readPay, .int readPersons, .ref a_readMarks, .ref a_readWeathers, .ref a_readHours, .ref a_readFear, .int readDays, .ref a_readWeather, .ref a_readHour, .ref a_readDanger, .int undos, .ref a_past, .ref a_morning, .ref a_sent, .int watched, .ref a_watchedDay, .ref a_watchedOut, .int booked, .ref a_bookWho, .ref a_bookMarks, .ref a_images, .ref a_isKept])), (a_now, .inl (cI, 13, .inl now)), (a_bookWho, .inl (cI, 15, .inl (upd bookWho booked.toNatClampNeg p1))), (a_bookMarks, .inl (cI, 15, .inl bookMarks))] := hD
        refine lv_aload_n hx hb dX8_write_48 rfl (lv_at hl 0 rfl) ?_
        refine va_get (D := D) (ci := 8) (v := .ref a_bookMarks) (C := RX8) (T := TX8) (N := 38) hx hb hts hinX8 hown hKK.1 hP 0 rfl rfl 35 (by decide) fl_81 (fun _ h9 => h9) rfl dX8_write_49 ?_
        refine lv_aload_n hx hb dX8_write_52 rfl (lv_at hl 0 rfl) ?_
        refine va_get (D := D) (ci := 8) (v := .int booked) (C := RX8) (T := TX8) (N := 38) hx hb hts hinX8 hown hKK.1 hP 0 rfl rfl 33 (by decide) fl_160 (fun _ h9 => h9) rfl dX8_write_53 ?_
        refine lv_iload_n hx hb dX8_write_56 rfl (lv_at hl 2 rfl) ?_
        obtain ⟨hin, hw⟩ := hw
        refine va_iast hx hb hKK.1 hP hD hS 3 0 rfl rfl hin dX8_write_57 (fun H locs hP hD hS => ?_)
        have hP : va_P D vwCl [(a_this, .inr (8, [.int pay, .ref a_weathers, .ref a_hours, .ref a_fear, .int days, .ref a_dayWeather, .ref a_dayHour, .ref a_dayDanger, .ref a_now, .int seed, .ref a_text, .int texted, .int faultPlace, .int at0, .int number, .int numberAt, .ref a_readPay, .int readPersons, .ref a_readMarks, .ref a_readWeathers, .ref a_readHours, .ref a_readFear, .int readDays, .ref a_readWeather, .ref a_readHour, .ref a_readDanger, .int undos, .ref a_past, .ref a_morning, .ref a_sent, .int watched, .ref a_watchedDay, .ref a_watchedOut, .int booked, .ref a_bookWho, .ref a_bookMarks, .ref a_images, .ref a_isKept])), (a_now, .inl (cI, 13, .inl now)), (a_bookWho, .inl (cI, 15, .inl (upd bookWho booked.toNatClampNeg p1))), (a_bookMarks, .inl (cI, 15, .inl (upd bookMarks booked.toNatClampNeg p2)))] H := hP
        have hD : va_D A [(a_this, .inr (8, [.int pay, .ref a_weathers, .ref a_hours, .ref a_fear, .int days, .ref a_dayWeather, .ref a_dayHour, .ref a_dayDanger, .ref a_now, .int seed, .ref a_text, .int texted, .int faultPlace, .int at0, .int number, .int numberAt, .ref a_readPay, .int readPersons, .ref a_readMarks, .ref a_readWeathers, .ref a_readHours, .ref a_readFear, .int readDays, .ref a_readWeather, .ref a_readHour, .ref a_readDanger, .int undos, .ref a_past, .ref a_morning, .ref a_sent, .int watched, .ref a_watchedDay, .ref a_watchedOut, .int booked, .ref a_bookWho, .ref a_bookMarks, .ref a_images, .ref a_isKept])), (a_now, .inl (cI, 13, .inl now)), (a_bookWho, .inl (cI, 15, .inl (upd bookWho booked.toNatClampNeg p1))), (a_bookMarks, .inl (cI, 15, .inl (upd bookMarks booked.toNatClampNeg p2)))] := hD
        refine lv_aload_n hx hb dX8_write_58 rfl (lv_at hl 0 rfl) ?_
        refine lv_dup hx hb dX8_write_59 rfl ?_
        refine va_get (D := D) (ci := 8) (v := .int booked) (C := RX8) (T := TX8) (N := 38) hx hb hts hinX8 hown hKK.1 hP 0 rfl rfl 33 (by decide) fl_160 (fun _ h9 => h9) rfl dX8_write_60 ?_
        refine lv_iconst (v := 1) hx hb dX8_write_63 (by decide) ?_
        refine lv_iadd hx hb dX8_write_64 ?_
        refine va_put (D := D) (ci := 8) (v := .int (booked + 1)) (ty := .int) (C := RX8) (T := TX8) (N := 38) hx hb hts hinX8 tyX8 tyX8_ok nmX8 hown hKK.1 hP hD hS 0 rfl rfl 33 (by decide) fl_160 (fun _ h9 => h9) rfl (by decide +kernel) rfl rfl (Nat.le_of_ble_eq_true rfl) dX8_write_65 (fun H locs hP hD hS => ?_)
        have hP : va_P D vwCl [(a_this, .inr (8, [.int pay, .ref a_weathers, .ref a_hours, .ref a_fear, .int days, .ref a_dayWeather, .ref a_dayHour, .ref a_dayDanger, .ref a_now, .int seed, .ref a_text, .int texted, .int faultPlace, .int at0, .int number, .int numberAt, .ref a_readPay, .int readPersons, .ref a_readMarks, .ref a_readWeathers, .ref a_readHours, .ref a_readFear, .int readDays, .ref a_readWeather, .ref a_readHour, .ref a_readDanger, .int undos, .ref a_past, .ref a_morning, .ref a_sent, .int watched, .ref a_watchedDay, .ref a_watchedOut, .int (booked + 1), .ref a_bookWho, .ref a_bookMarks, .ref a_images, .ref a_isKept])), (a_now, .inl (cI, 13, .inl now)), (a_bookWho, .inl (cI, 15, .inl (upd bookWho booked.toNatClampNeg p1))), (a_bookMarks, .inl (cI, 15, .inl (upd bookMarks booked.toNatClampNeg p2)))] H := hP
        have hD : va_D A [(a_this, .inr (8, [.int pay, .ref a_weathers, .ref a_hours, .ref a_fear, .int days, .ref a_dayWeather, .ref a_dayHour, .ref a_dayDanger, .ref a_now, .int seed, .ref a_text, .int texted, .int faultPlace, .int at0, .int number, .int numberAt, .ref a_readPay, .int readPersons, .ref a_readMarks, .ref a_readWeathers, .ref a_readHours, .ref a_readFear, .int readDays, .ref a_readWeather, .ref a_readHour, .ref a_readDanger, .int undos, .ref a_past, .ref a_morning, .ref a_sent, .int watched, .ref a_watchedDay, .ref a_watchedOut, .int (booked + 1), .ref a_bookWho, .ref a_bookMarks, .ref a_images, .ref a_isKept])), (a_now, .inl (cI, 13, .inl now)), (a_bookWho, .inl (cI, 15, .inl (upd bookWho booked.toNatClampNeg p1))), (a_bookMarks, .inl (cI, 15, .inl (upd bookMarks booked.toNatClampNeg p2)))] := hD
        refine lv_aload_n hx hb dX8_write_68 rfl (lv_at hl 0 rfl) ?_
        refine va_get (D := D) (ci := 8) (v := .int (booked + 1)) (C := RX8) (T := TX8) (N := 38) hx hb hts hinX8 hown hKK.1 hP 0 rfl rfl 33 (by decide) fl_160 (fun _ h9 => h9) rfl dX8_write_69 ?_
        rw [hQ]
        exact W.iret (v := (booked + 1)) hx hb hr (fun t ht _ => ⟨⟨(booked + 1), ⟨(upd bookWho booked.toNatClampNeg p1), (upd bookMarks booked.toNatClampNeg p2), (booked + 1)⟩, rfl, hw, by rw [ht]; exact hP, hD⟩, hS.F ht⟩) hS.2.2 dX8_write_72
      · have hw := hw.1 c_32
        refine lv_ldc (v := (-1000000004)) hx hb hown (hts (.constant RX8 107 (-1000000004)) (by decide +kernel)) dX8_write_35 ?_
        rw [hQ]
        exact W.iret (v := (-1000000004)) hx hb hr (fun t ht _ => ⟨⟨(-1000000004), ⟨bookWho, bookMarks, booked⟩, rfl, hw, by rw [ht]; exact hP, hD⟩, hS.F ht⟩) hS.2.2 dX8_write_37
    · have hw := hw.1 c_20
      refine lv_ldc (v := (-1000000002)) hx hb hown (hts (.constant RX8 103 (-1000000002)) (by decide +kernel)) dX8_write_23 ?_
      rw [hQ]
      exact W.iret (v := (-1000000002)) hx hb hr (fun t ht _ => ⟨⟨(-1000000002), ⟨bookWho, bookMarks, booked⟩, rfl, hw, by rw [ht]; exact hP, hD⟩, hS.F ht⟩) hS.2.2 dX8_write_25
  · have hw := hw.1 c_5
    refine lv_ldc (v := (-1000000001)) hx hb hown (hts (.constant RX8 190 (-1000000001)) (by decide +kernel)) dX8_write_8 ?_
    rw [hQ]
    exact W.iret (v := (-1000000001)) hx hb hr (fun t ht _ => ⟨⟨(-1000000001), ⟨bookWho, bookMarks, booked⟩, rfl, hw, by rw [ht]; exact hP, hD⟩, hS.F ht⟩) hS.2.2 dX8_write_10
def wp_X8_tear (watched : Int32) (booked : Int32) (Φ : Int32 → Int32 → Int32 → Prop) : Prop :=
  (Φ (watched + booked) 0 0)
abbrev xrm_X8_tear : Room := { frames := 0, cells := 0, slots := 0, locals := 0 }
set_option maxRecDepth 100000 in
set_option maxHeartbeats 4000000 in
theorem c_X8_tear (l : Launch) (D : va_G) (cI cZ cO : ClassId) {pay : Int32} {a_weathers : Nat} {a_hours : Nat} {a_fear : Nat} {days : Int32} {a_dayWeather : Nat} {a_dayHour : Nat} {a_dayDanger : Nat} {a_now : Nat} {seed : Int32} {a_text : Nat} {texted : Int32} {faultPlace : Int32} {at0 : Int32} {number : Int32} {numberAt : Int32} {a_readPay : Nat} {readPersons : Int32} {a_readMarks : Nat} {a_readWeathers : Nat} {a_readHours : Nat} {a_readFear : Nat} {readDays : Int32} {a_readWeather : Nat} {a_readHour : Nat} {a_readDanger : Nat} {undos : Int32} {a_past : Nat} {a_morning : Nat} {a_sent : Nat} {watched : Int32} {a_watchedDay : Nat} {a_watchedOut : Nat} {booked : Int32} {a_bookWho : Nat} {a_bookMarks : Nat} {a_images : Nat} {a_isKept : Nat} {a_this : Nat} {Φ : Int32 → Int32 → Int32 → Prop} {sz : Nat} (hw : (wp_X8_tear watched booked Φ)) : Met l yX8_tear wsX8_tear xrm_X8_tear (xPW D cI cZ cO [.ref a_this] sz [(a_this, .inr (8, [.int pay, .ref a_weathers, .ref a_hours, .ref a_fear, .int days, .ref a_dayWeather, .ref a_dayHour, .ref a_dayDanger, .ref a_now, .int seed, .ref a_text, .int texted, .int faultPlace, .int at0, .int number, .int numberAt, .ref a_readPay, .int readPersons, .ref a_readMarks, .ref a_readWeathers, .ref a_readHours, .ref a_readFear, .int readDays, .ref a_readWeather, .ref a_readHour, .ref a_readDanger, .int undos, .ref a_past, .ref a_morning, .ref a_sent, .int watched, .ref a_watchedDay, .ref a_watchedOut, .int booked, .ref a_bookWho, .ref a_bookMarks, .ref a_images, .ref a_isKept]))]) (va_Qi (fun (r : Int32) (u : Int32 × Int32) => Φ r u.1 u.2) (xB D (va_A [(a_this, .inr (8, [.int pay, .ref a_weathers, .ref a_hours, .ref a_fear, .int days, .ref a_dayWeather, .ref a_dayHour, .ref a_dayDanger, .ref a_now, .int seed, .ref a_text, .int texted, .int faultPlace, .int at0, .int number, .int numberAt, .ref a_readPay, .int readPersons, .ref a_readMarks, .ref a_readWeathers, .ref a_readHours, .ref a_readFear, .int readDays, .ref a_readWeather, .ref a_readHour, .ref a_readDanger, .int undos, .ref a_past, .ref a_morning, .ref a_sent, .int watched, .ref a_watchedDay, .ref a_watchedOut, .int booked, .ref a_bookWho, .ref a_bookMarks, .ref a_images, .ref a_isKept]))] sz) (fun (u : Int32 × Int32) => [(a_this, .inr (8, [.int pay, .ref a_weathers, .ref a_hours, .ref a_fear, .int days, .ref a_dayWeather, .ref a_dayHour, .ref a_dayDanger, .ref a_now, .int seed, .ref a_text, .int texted, .int faultPlace, .int at0, .int number, .int numberAt, .ref a_readPay, .int readPersons, .ref a_readMarks, .ref a_readWeathers, .ref a_readHours, .ref a_readFear, .int readDays, .ref a_readWeather, .ref a_readHour, .ref a_readDanger, .int undos, .ref a_past, .ref a_morning, .ref a_sent, .int u.1, .ref a_watchedDay, .ref a_watchedOut, .int u.2, .ref a_bookWho, .ref a_bookMarks, .ref a_images, .ref a_isKept]))])) (va_A [(a_this, .inr (8, [.int pay, .ref a_weathers, .ref a_hours, .ref a_fear, .int days, .ref a_dayWeather, .ref a_dayHour, .ref a_dayDanger, .ref a_now, .int seed, .ref a_text, .int texted, .int faultPlace, .int at0, .int number, .int numberAt, .ref a_readPay, .int readPersons, .ref a_readMarks, .ref a_readWeathers, .ref a_readHours, .ref a_readFear, .int readDays, .ref a_readWeather, .ref a_readHour, .ref a_readDanger, .int undos, .ref a_past, .ref a_morning, .ref a_sent, .int watched, .ref a_watchedDay, .ref a_watchedOut, .int booked, .ref a_bookWho, .ref a_bookMarks, .ref a_images, .ref a_isKept]))] sz)) 0 0 (va_A [(a_this, .inr (8, [.int pay, .ref a_weathers, .ref a_hours, .ref a_fear, .int days, .ref a_dayWeather, .ref a_dayHour, .ref a_dayDanger, .ref a_now, .int seed, .ref a_text, .int texted, .int faultPlace, .int at0, .int number, .int numberAt, .ref a_readPay, .int readPersons, .ref a_readMarks, .ref a_readWeathers, .ref a_readHours, .ref a_readFear, .int readDays, .ref a_readWeather, .ref a_readHour, .ref a_readDanger, .int undos, .ref a_past, .ref a_morning, .ref a_sent, .int watched, .ref a_watchedDay, .ref a_watchedOut, .int booked, .ref a_bookWho, .ref a_bookMarks, .ref a_images, .ref a_isKept]))] sz) := by
  refine Met.ofW (cc := cX8_tear) (maxL := 2) (ret := (some .int)) (by decide) rfl ?_
  intro p e s m args below meth c s₁ B hml hv
  obtain ⟨rfl, hsz, hP, hKK, hD0⟩ := hv
  have hx := B.exec
  have hb := B.bytes
  have hr := B.returns
  have hts := atoms_spec (ws := wsX8_tear) B.pre
  have hown : s.vm.findClass RX8 = some m.cls := findClass_of_methodNamed B.named
  have hlocks := B.notSynchronized
  subst hsz
  have hD := hD0.self (sz := s.heap.size)
  obtain ⟨Q, hQ⟩ : ∃ Q, Q = MQ below (va_Qi (fun (r : Int32) (u : Int32 × Int32) => Φ r u.1 u.2) (xB D (va_A [(a_this, .inr (8, [.int pay, .ref a_weathers, .ref a_hours, .ref a_fear, .int days, .ref a_dayWeather, .ref a_dayHour, .ref a_dayDanger, .ref a_now, .int seed, .ref a_text, .int texted, .int faultPlace, .int at0, .int number, .int numberAt, .ref a_readPay, .int readPersons, .ref a_readMarks, .ref a_readWeathers, .ref a_readHours, .ref a_readFear, .int readDays, .ref a_readWeather, .ref a_readHour, .ref a_readDanger, .int undos, .ref a_past, .ref a_morning, .ref a_sent, .int watched, .ref a_watchedDay, .ref a_watchedOut, .int booked, .ref a_bookWho, .ref a_bookMarks, .ref a_images, .ref a_isKept]))] s.heap.size) (fun (u : Int32 × Int32) => [(a_this, .inr (8, [.int pay, .ref a_weathers, .ref a_hours, .ref a_fear, .int days, .ref a_dayWeather, .ref a_dayHour, .ref a_dayDanger, .ref a_now, .int seed, .ref a_text, .int texted, .int faultPlace, .int at0, .int number, .int numberAt, .ref a_readPay, .int readPersons, .ref a_readMarks, .ref a_readWeathers, .ref a_readHours, .ref a_readFear, .int readDays, .ref a_readWeather, .ref a_readHour, .ref a_readDanger, .int undos, .ref a_past, .ref a_morning, .ref a_sent, .int u.1, .ref a_watchedDay, .ref a_watchedOut, .int u.2, .ref a_bookWho, .ref a_bookMarks, .ref a_images, .ref a_isKept]))])) (va_A [(a_this, .inr (8, [.int pay, .ref a_weathers, .ref a_hours, .ref a_fear, .int days, .ref a_dayWeather, .ref a_dayHour, .ref a_dayDanger, .ref a_now, .int seed, .ref a_text, .int texted, .int faultPlace, .int at0, .int number, .int numberAt, .ref a_readPay, .int readPersons, .ref a_readMarks, .ref a_readWeathers, .ref a_readHours, .ref a_readFear, .int readDays, .ref a_readWeather, .ref a_readHour, .ref a_readDanger, .int undos, .ref a_past, .ref a_morning, .ref a_sent, .int watched, .ref a_watchedDay, .ref a_watchedOut, .int booked, .ref a_bookWho, .ref a_bookMarks, .ref a_images, .ref a_isKept]))] s.heap.size)) ([.ref a_this] : List Value).toArray s 0 0 (va_A [(a_this, .inr (8, [.int pay, .ref a_weathers, .ref a_hours, .ref a_fear, .int days, .ref a_dayWeather, .ref a_dayHour, .ref a_dayDanger, .ref a_now, .int seed, .ref a_text, .int texted, .int faultPlace, .int at0, .int number, .int numberAt, .ref a_readPay, .int readPersons, .ref a_readMarks, .ref a_readWeathers, .ref a_readHours, .ref a_readFear, .int readDays, .ref a_readWeather, .ref a_readHour, .ref a_readDanger, .int undos, .ref a_past, .ref a_morning, .ref a_sent, .int watched, .ref a_watchedDay, .ref a_watchedOut, .int booked, .ref a_bookWho, .ref a_bookMarks, .ref a_images, .ref a_isKept]))] s.heap.size) := ⟨_, rfl⟩
  rw [← hQ]
  generalize hAe : va_A [(a_this, .inr (8, [.int pay, .ref a_weathers, .ref a_hours, .ref a_fear, .int days, .ref a_dayWeather, .ref a_dayHour, .ref a_dayDanger, .ref a_now, .int seed, .ref a_text, .int texted, .int faultPlace, .int at0, .int number, .int numberAt, .ref a_readPay, .int readPersons, .ref a_readMarks, .ref a_readWeathers, .ref a_readHours, .ref a_readFear, .int readDays, .ref a_readWeather, .ref a_readHour, .ref a_readDanger, .int undos, .ref a_past, .ref a_morning, .ref a_sent, .int watched, .ref a_watchedDay, .ref a_watchedOut, .int booked, .ref a_bookWho, .ref a_bookMarks, .ref a_images, .ref a_isKept]))] s.heap.size = A at hD hQ
  have hA : ∀ q : Nat, s.heap.size ≤ q → A q := fun q h => by rw [← hAe]; exact Or.inr h
  have hS : va_S A s.heap s.heap [] := va_S.rf
  have hl := lv_entry ([.ref a_this]) (n := 2) (Nat.le_of_ble_eq_true rfl)
  rw [lg_entry_eq]
  generalize (lg_sl ([.ref a_this]) ++ List.replicate (2 - (lg_sl ([.ref a_this])).length) Slot.unset).toArray = ls at hl ⊢
  have hl : lv_has ls 2 [(0, .ref a_this)] := hl
  generalize ([.ref a_this] : List Value).toArray = args at hts hQ ⊢
  have hP : va_P D vwCl [(a_this, .inr (8, [.int pay, .ref a_weathers, .ref a_hours, .ref a_fear, .int days, .ref a_dayWeather, .ref a_dayHour, .ref a_dayDanger, .ref a_now, .int seed, .ref a_text, .int texted, .int faultPlace, .int at0, .int number, .int numberAt, .ref a_readPay, .int readPersons, .ref a_readMarks, .ref a_readWeathers, .ref a_readHours, .ref a_readFear, .int readDays, .ref a_readWeather, .ref a_readHour, .ref a_readDanger, .int undos, .ref a_past, .ref a_morning, .ref a_sent, .int watched, .ref a_watchedDay, .ref a_watchedOut, .int booked, .ref a_bookWho, .ref a_bookMarks, .ref a_images, .ref a_isKept]))] s.heap := hP
  have hinX8 : ∀ w ∈ u_ws RX8 TX8 38, w ∈ wsX8_tear := by decide +kernel
  have fl_157 := hts (.fieldLink RX8 157 "DoubleChainModel" "watched" "I") (by decide +kernel)
  have fl_160 := hts (.fieldLink RX8 160 "DoubleChainModel" "booked" "I") (by decide +kernel)
  clear B
  show W p l e xrm_X8_tear s m args below meth c s.heap [] 0 0 Q (F0 m 0 ls [])
  unfold wp_X8_tear at hw
  refine lv_aload_n hx hb dX8_tear_0 rfl (lv_at hl 0 rfl) ?_
  refine va_get (D := D) (ci := 8) (v := .int watched) (C := RX8) (T := TX8) (N := 38) hx hb hts hinX8 hown hKK.1 hP 0 rfl rfl 30 (by decide) fl_157 (fun _ h9 => h9) rfl dX8_tear_1 ?_
  refine lv_aload_n hx hb dX8_tear_4 rfl (lv_at hl 0 rfl) ?_
  refine va_get (D := D) (ci := 8) (v := .int booked) (C := RX8) (T := TX8) (N := 38) hx hb hts hinX8 hown hKK.1 hP 0 rfl rfl 33 (by decide) fl_160 (fun _ h9 => h9) rfl dX8_tear_5 ?_
  refine lv_iadd hx hb dX8_tear_8 ?_
  refine lv_istore_n (lv' := [(1, .int (watched + booked)), (0, .ref a_this)]) hx hb dX8_tear_9 rfl hl (by decide) rfl (fun ls hl => ?_)
  refine lv_aload_n hx hb dX8_tear_10 rfl (lv_at hl 1 rfl) ?_
  refine lv_iconst (v := 0) hx hb dX8_tear_11 (by decide) ?_
  refine va_put (D := D) (ci := 8) (v := .int 0) (ty := .int) (C := RX8) (T := TX8) (N := 38) hx hb hts hinX8 tyX8 tyX8_ok nmX8 hown hKK.1 hP hD hS 0 rfl rfl 30 (by decide) fl_157 (fun _ h9 => h9) rfl (by decide +kernel) rfl rfl (Nat.le_of_ble_eq_true rfl) dX8_tear_12 (fun H locs hP hD hS => ?_)
  have hP : va_P D vwCl [(a_this, .inr (8, [.int pay, .ref a_weathers, .ref a_hours, .ref a_fear, .int days, .ref a_dayWeather, .ref a_dayHour, .ref a_dayDanger, .ref a_now, .int seed, .ref a_text, .int texted, .int faultPlace, .int at0, .int number, .int numberAt, .ref a_readPay, .int readPersons, .ref a_readMarks, .ref a_readWeathers, .ref a_readHours, .ref a_readFear, .int readDays, .ref a_readWeather, .ref a_readHour, .ref a_readDanger, .int undos, .ref a_past, .ref a_morning, .ref a_sent, .int 0, .ref a_watchedDay, .ref a_watchedOut, .int booked, .ref a_bookWho, .ref a_bookMarks, .ref a_images, .ref a_isKept]))] H := hP
  have hD : va_D A [(a_this, .inr (8, [.int pay, .ref a_weathers, .ref a_hours, .ref a_fear, .int days, .ref a_dayWeather, .ref a_dayHour, .ref a_dayDanger, .ref a_now, .int seed, .ref a_text, .int texted, .int faultPlace, .int at0, .int number, .int numberAt, .ref a_readPay, .int readPersons, .ref a_readMarks, .ref a_readWeathers, .ref a_readHours, .ref a_readFear, .int readDays, .ref a_readWeather, .ref a_readHour, .ref a_readDanger, .int undos, .ref a_past, .ref a_morning, .ref a_sent, .int 0, .ref a_watchedDay, .ref a_watchedOut, .int booked, .ref a_bookWho, .ref a_bookMarks, .ref a_images, .ref a_isKept]))] := hD
  refine lv_aload_n hx hb dX8_tear_15 rfl (lv_at hl 1 rfl) ?_
  refine lv_iconst (v := 0) hx hb dX8_tear_16 (by decide) ?_
  refine va_put (D := D) (ci := 8) (v := .int 0) (ty := .int) (C := RX8) (T := TX8) (N := 38) hx hb hts hinX8 tyX8 tyX8_ok nmX8 hown hKK.1 hP hD hS 0 rfl rfl 33 (by decide) fl_160 (fun _ h9 => h9) rfl (by decide +kernel) rfl rfl (Nat.le_of_ble_eq_true rfl) dX8_tear_17 (fun H locs hP hD hS => ?_)
  have hP : va_P D vwCl [(a_this, .inr (8, [.int pay, .ref a_weathers, .ref a_hours, .ref a_fear, .int days, .ref a_dayWeather, .ref a_dayHour, .ref a_dayDanger, .ref a_now, .int seed, .ref a_text, .int texted, .int faultPlace, .int at0, .int number, .int numberAt, .ref a_readPay, .int readPersons, .ref a_readMarks, .ref a_readWeathers, .ref a_readHours, .ref a_readFear, .int readDays, .ref a_readWeather, .ref a_readHour, .ref a_readDanger, .int undos, .ref a_past, .ref a_morning, .ref a_sent, .int 0, .ref a_watchedDay, .ref a_watchedOut, .int 0, .ref a_bookWho, .ref a_bookMarks, .ref a_images, .ref a_isKept]))] H := hP
  have hD : va_D A [(a_this, .inr (8, [.int pay, .ref a_weathers, .ref a_hours, .ref a_fear, .int days, .ref a_dayWeather, .ref a_dayHour, .ref a_dayDanger, .ref a_now, .int seed, .ref a_text, .int texted, .int faultPlace, .int at0, .int number, .int numberAt, .ref a_readPay, .int readPersons, .ref a_readMarks, .ref a_readWeathers, .ref a_readHours, .ref a_readFear, .int readDays, .ref a_readWeather, .ref a_readHour, .ref a_readDanger, .int undos, .ref a_past, .ref a_morning, .ref a_sent, .int 0, .ref a_watchedDay, .ref a_watchedOut, .int 0, .ref a_bookWho, .ref a_bookMarks, .ref a_images, .ref a_isKept]))] := hD
  refine lv_iload_n hx hb dX8_tear_20 rfl (lv_at hl 0 rfl) ?_
  rw [hQ]
  exact W.iret (v := (watched + booked)) hx hb hr (fun t ht _ => ⟨⟨(watched + booked), ⟨0, 0⟩, rfl, hw, by rw [ht]; exact hP, hD⟩, hS.F ht⟩) hS.2.2 dX8_tear_21
def wk_X8_judge_2 (Φ : Int32 → Prop) (x1_2 : Int32) : Prop :=
  (Φ (-1))
def wb_X8_judge_2 (booked : Int32) (bookWho : Nat → Int32) (now : Nat → Int32) (bookMarks : Nat → Int32) (Φ : Int32 → Prop) (K_2 : Int32 → Prop) (rec_2 : Int32 → Prop) (x1_2 : Int32) : Prop :=
  ((booked ≤ x1_2 → (K_2 x1_2)) ∧ (¬ booked ≤ x1_2 → (vp_in x1_2 15 ∧ (wp_X8_isPerson now (bookWho x1_2.toNatClampNeg) (fun r_17 => ((r_17 = 0 → (Φ x1_2)) ∧ (¬ r_17 = 0 → (vp_in x1_2 15 ∧ (vp_in (bookWho x1_2.toNatClampNeg) 13 ∧ (vp_in x1_2 15 ∧ (((now (bookWho x1_2.toNatClampNeg).toNatClampNeg) = (bookMarks x1_2.toNatClampNeg) → (rec_2 (x1_2 + 1))) ∧ (¬ (now (bookWho x1_2.toNatClampNeg).toNatClampNeg) = (bookMarks x1_2.toNatClampNeg) → (Φ x1_2)))))))))))))
def wp_X8_judge (booked : Int32) (bookWho : Nat → Int32) (now : Nat → Int32) (bookMarks : Nat → Int32) (Φ : Int32 → Prop) : Prop :=
  (∃ n : Nat, xit1 (wb_X8_judge_2 booked bookWho now bookMarks Φ (wk_X8_judge_2 Φ)) n 0)
abbrev xrm_X8_judge : Room := { frames := 2, cells := 0, slots := 0, locals := 46 }
set_option maxRecDepth 100000 in
set_option maxHeartbeats 4000000 in
theorem c_X8_judge (l : Launch) (D : va_G) (cI cZ cO : ClassId) {pay : Int32} {a_weathers : Nat} {a_hours : Nat} {a_fear : Nat} {days : Int32} {a_dayWeather : Nat} {a_dayHour : Nat} {a_dayDanger : Nat} {a_now : Nat} {seed : Int32} {a_text : Nat} {texted : Int32} {faultPlace : Int32} {at0 : Int32} {number : Int32} {numberAt : Int32} {a_readPay : Nat} {readPersons : Int32} {a_readMarks : Nat} {a_readWeathers : Nat} {a_readHours : Nat} {a_readFear : Nat} {readDays : Int32} {a_readWeather : Nat} {a_readHour : Nat} {a_readDanger : Nat} {undos : Int32} {a_past : Nat} {a_morning : Nat} {a_sent : Nat} {watched : Int32} {a_watchedDay : Nat} {a_watchedOut : Nat} {booked : Int32} {a_bookWho : Nat} {a_bookMarks : Nat} {a_images : Nat} {a_isKept : Nat} {a_this : Nat} {bookWho : Nat → Int32} {now : Nat → Int32} {bookMarks : Nat → Int32} {Φ : Int32 → Prop} (hw : (wp_X8_judge booked bookWho now bookMarks Φ)) : Met l yX8_judge wsX8_judge xrm_X8_judge (xPR D cI cZ cO [.ref a_this] [(a_this, .inr (8, [.int pay, .ref a_weathers, .ref a_hours, .ref a_fear, .int days, .ref a_dayWeather, .ref a_dayHour, .ref a_dayDanger, .ref a_now, .int seed, .ref a_text, .int texted, .int faultPlace, .int at0, .int number, .int numberAt, .ref a_readPay, .int readPersons, .ref a_readMarks, .ref a_readWeathers, .ref a_readHours, .ref a_readFear, .int readDays, .ref a_readWeather, .ref a_readHour, .ref a_readDanger, .int undos, .ref a_past, .ref a_morning, .ref a_sent, .int watched, .ref a_watchedDay, .ref a_watchedOut, .int booked, .ref a_bookWho, .ref a_bookMarks, .ref a_images, .ref a_isKept])), (a_bookWho, .inl (cI, 15, .inl bookWho)), (a_now, .inl (cI, 13, .inl now)), (a_bookMarks, .inl (cI, 15, .inl bookMarks))]) (vp_Si Φ) 0 0 (fun _ => False) := by
  refine Met.ofW (cc := cX8_judge) (maxL := 2) (ret := (some .int)) (by decide) rfl ?_
  intro p e s m args below meth c s₁ B hml hv
  obtain ⟨rfl, hP, hKK⟩ := hv
  have hx := B.exec
  have hb := B.bytes
  have hr := B.returns
  have hts := atoms_spec (ws := wsX8_judge) B.pre
  have hown : s.vm.findClass RX8 = some m.cls := findClass_of_methodNamed B.named
  have hlocks := B.notSynchronized
  obtain ⟨Q, hQ⟩ : ∃ Q, Q = MQ below (vp_Si Φ) ([.ref a_this] : List Value).toArray s 0 0 (fun _ => False) := ⟨_, rfl⟩
  rw [← hQ]
  have hl := lv_entry ([.ref a_this]) (n := 2) (Nat.le_of_ble_eq_true rfl)
  rw [lg_entry_eq]
  generalize (lg_sl ([.ref a_this]) ++ List.replicate (2 - (lg_sl ([.ref a_this])).length) Slot.unset).toArray = ls at hl ⊢
  have hl : lv_has ls 2 [(0, .ref a_this)] := hl
  generalize ([.ref a_this] : List Value).toArray = args at hts hQ ⊢
  have hP : va_P D vwCl [(a_this, .inr (8, [.int pay, .ref a_weathers, .ref a_hours, .ref a_fear, .int days, .ref a_dayWeather, .ref a_dayHour, .ref a_dayDanger, .ref a_now, .int seed, .ref a_text, .int texted, .int faultPlace, .int at0, .int number, .int numberAt, .ref a_readPay, .int readPersons, .ref a_readMarks, .ref a_readWeathers, .ref a_readHours, .ref a_readFear, .int readDays, .ref a_readWeather, .ref a_readHour, .ref a_readDanger, .int undos, .ref a_past, .ref a_morning, .ref a_sent, .int watched, .ref a_watchedDay, .ref a_watchedOut, .int booked, .ref a_bookWho, .ref a_bookMarks, .ref a_images, .ref a_isKept])), (a_bookWho, .inl (cI, 15, .inl bookWho)), (a_now, .inl (cI, 13, .inl now)), (a_bookMarks, .inl (cI, 15, .inl bookMarks))] s.heap := hP
  have hinX8 : ∀ w ∈ u_ws RX8 TX8 38, w ∈ wsX8_judge := by decide +kernel
  have fl_28 := hts (.fieldLink RX8 28 "DoubleChainModel" "now" "[I") (by decide +kernel)
  have fl_78 := hts (.fieldLink RX8 78 "DoubleChainModel" "bookWho" "[I") (by decide +kernel)
  have fl_81 := hts (.fieldLink RX8 81 "DoubleChainModel" "bookMarks" "[I") (by decide +kernel)
  have fl_160 := hts (.fieldLink RX8 160 "DoubleChainModel" "booked" "I") (by decide +kernel)
  clear B
  show W p l e xrm_X8_judge s m args below meth c s.heap [] 0 0 Q (F0 m 0 ls [])
  unfold wp_X8_judge at hw
  refine lv_iconst (v := 0) hx hb dX8_judge_0 (by decide) ?_
  refine lv_istore_n (lv' := [(1, .int 0), (0, .ref a_this)]) hx hb dX8_judge_1 rfl hl (by decide) rfl (fun ls hl => ?_)
  have EX_2 : ∀ (x1_2 : Int32), ∀ (ls : Array Slot), lv_has ls 2 [(0, .ref a_this), (1, .int x1_2)] → (wk_X8_judge_2 Φ x1_2) → W p l e xrm_X8_judge s m args below meth c s.heap [] 0 0 Q (F0 m 51 ls []) := by
    intro x1_2 ls hl hw
    unfold wk_X8_judge_2 at hw
    refine lv_iconst (v := (-1)) hx hb dX8_judge_51 (by decide) ?_
    rw [hQ]
    exact W.iret (v := (-1)) hx hb hr (fun t ht _ => ⟨(-1), rfl, hw, ht⟩) (fun _ h => (List.not_mem_nil h).elim) dX8_judge_52
  generalize (wk_X8_judge_2 Φ) = K_2 at EX_2 hw
  have LP_2 : ∀ n : Nat, ∀ (x1_2 : Int32), ∀ (ls : Array Slot), lv_has ls 2 [(0, .ref a_this), (1, .int x1_2)] → xit1 (wb_X8_judge_2 booked bookWho now bookMarks Φ K_2) n x1_2 → W p l e xrm_X8_judge s m args below meth c s.heap [] 0 0 Q (F0 m 2 ls []) := by
    intro n
    induction n with
    | zero => intro x1_2 ls hl hw; exact (show False from hw).elim
    | succ n ih =>
      intro x1_2 ls hl hw
      have hw : wb_X8_judge_2 booked bookWho now bookMarks Φ K_2 (xit1 (wb_X8_judge_2 booked bookWho now bookMarks Φ K_2) n) x1_2 := hw
      generalize xit1 (wb_X8_judge_2 booked bookWho now bookMarks Φ K_2) n = rec_2 at ih hw
      unfold wb_X8_judge_2 at hw
      refine lv_iload_n hx hb dX8_judge_2 rfl (lv_at hl 1 rfl) ?_
      refine lv_aload_n hx hb dX8_judge_3 rfl (lv_at hl 0 rfl) ?_
      refine va_get (D := D) (ci := 8) (v := .int booked) (C := RX8) (T := TX8) (N := 38) hx hb hts hinX8 hown hKK.1 hP 0 rfl rfl 33 (by decide) fl_160 (fun _ h9 => h9) rfl dX8_judge_4 ?_
      refine lv_icmp_ge (tgt := 51) hx hb dX8_judge_7 (by decide) (fun c_7 => ?_) (fun c_7 => ?_)
      · have hw := hw.1 c_7
        exact EX_2 _ ls (lv_sub hl [0, 1] rfl) hw
      · have hw := hw.2 c_7
        refine lv_aload_n hx hb dX8_judge_10 rfl (lv_at hl 0 rfl) ?_
        refine lv_aload_n hx hb dX8_judge_11 rfl (lv_at hl 0 rfl) ?_
        refine va_get (D := D) (ci := 8) (v := .ref a_bookWho) (C := RX8) (T := TX8) (N := 38) hx hb hts hinX8 hown hKK.1 hP 0 rfl rfl 34 (by decide) fl_78 (fun _ h9 => h9) rfl dX8_judge_12 ?_
        refine lv_iload_n hx hb dX8_judge_15 rfl (lv_at hl 1 rfl) ?_
        obtain ⟨hin, hw⟩ := hw
        refine va_iald hx hb hKK.1 hP 1 0 rfl rfl hin dX8_judge_16 ?_
        refine xcVi (q0 := 0) (ci := 8) (As := [.int (bookWho x1_2.toNatClampNeg)]) (rest := []) (wc := [(a_this, .inr (8, [.int pay, .ref a_weathers, .ref a_hours, .ref a_fear, .int days, .ref a_dayWeather, .ref a_dayHour, .ref a_dayDanger, .ref a_now, .int seed, .ref a_text, .int texted, .int faultPlace, .int at0, .int number, .int numberAt, .ref a_readPay, .int readPersons, .ref a_readMarks, .ref a_readWeathers, .ref a_readHours, .ref a_readFear, .int readDays, .ref a_readWeather, .ref a_readHour, .ref a_readDanger, .int undos, .ref a_past, .ref a_morning, .ref a_sent, .int watched, .ref a_watchedDay, .ref a_watchedOut, .int booked, .ref a_bookWho, .ref a_bookMarks, .ref a_images, .ref a_isKept])), (a_now, .inl (cI, 13, .inl now))]) ⟨hx, hb, hml, hown, hts⟩ (c_X8_isPerson l D cI cZ cO hw) (cwV 1 hts gX8_judge_X8_isPerson rfl rfl rfl (by decide +kernel) ⟨Nat.le_of_ble_eq_true rfl, Nat.le_of_ble_eq_true rfl⟩) hKK hP [0, 2] rfl rfl rfl rfl hl.1 rfl (Nat.le_of_ble_eq_true rfl) dX8_judge_17 ⟨Nat.zero_le _, Nat.zero_le _⟩ (fun r_17 hw => ?_)
        refine lv_if_eq (tgt := 43) hx hb dX8_judge_20 (by decide) (fun c_20 => ?_) (fun c_20 => ?_)
        · have hw := hw.1 c_20
          refine lv_iload_n hx hb dX8_judge_43 rfl (lv_at hl 1 rfl) ?_
          rw [hQ]
          exact W.iret (v := x1_2) hx hb hr (fun t ht _ => ⟨x1_2, rfl, hw, ht⟩) (fun _ h => (List.not_mem_nil h).elim) dX8_judge_44
        · have hw := hw.2 c_20
          refine lv_aload_n hx hb dX8_judge_23 rfl (lv_at hl 0 rfl) ?_
          refine va_get (D := D) (ci := 8) (v := .ref a_now) (C := RX8) (T := TX8) (N := 38) hx hb hts hinX8 hown hKK.1 hP 0 rfl rfl 8 (by decide) fl_28 (fun _ h9 => h9) rfl dX8_judge_24 ?_
          refine lv_aload_n hx hb dX8_judge_27 rfl (lv_at hl 0 rfl) ?_
          refine va_get (D := D) (ci := 8) (v := .ref a_bookWho) (C := RX8) (T := TX8) (N := 38) hx hb hts hinX8 hown hKK.1 hP 0 rfl rfl 34 (by decide) fl_78 (fun _ h9 => h9) rfl dX8_judge_28 ?_
          refine lv_iload_n hx hb dX8_judge_31 rfl (lv_at hl 1 rfl) ?_
          obtain ⟨hin, hw⟩ := hw
          refine va_iald hx hb hKK.1 hP 1 0 rfl rfl hin dX8_judge_32 ?_
          obtain ⟨hin, hw⟩ := hw
          refine va_iald hx hb hKK.1 hP 2 0 rfl rfl hin dX8_judge_33 ?_
          refine lv_aload_n hx hb dX8_judge_34 rfl (lv_at hl 0 rfl) ?_
          refine va_get (D := D) (ci := 8) (v := .ref a_bookMarks) (C := RX8) (T := TX8) (N := 38) hx hb hts hinX8 hown hKK.1 hP 0 rfl rfl 35 (by decide) fl_81 (fun _ h9 => h9) rfl dX8_judge_35 ?_
          refine lv_iload_n hx hb dX8_judge_38 rfl (lv_at hl 1 rfl) ?_
          obtain ⟨hin, hw⟩ := hw
          refine va_iald hx hb hKK.1 hP 3 0 rfl rfl hin dX8_judge_39 ?_
          refine lv_icmp_eq (tgt := 45) hx hb dX8_judge_40 (by decide) (fun c_40 => ?_) (fun c_40 => ?_)
          · have hw := hw.1 c_40
            refine lv_iinc (v := (x1_2 + 1)) (lv' := [(1, .int (x1_2 + 1)), (0, .ref a_this)]) hx hb dX8_judge_45 hl (k := 1) rfl (by rfl) (by decide) rfl (fun ls hl => ?_)
            refine lv_goto (tgt := 2) hx hb dX8_judge_48 (by decide) ?_
            exact ih _ ls (lv_sub hl [1, 0] rfl) hw
          · have hw := hw.2 c_40
            refine lv_iload_n hx hb dX8_judge_43 rfl (lv_at hl 1 rfl) ?_
            rw [hQ]
            exact W.iret (v := x1_2) hx hb hr (fun t ht _ => ⟨x1_2, rfl, hw, ht⟩) (fun _ h => (List.not_mem_nil h).elim) dX8_judge_44
  obtain ⟨n, hw⟩ := hw
  exact LP_2 n _ ls (lv_sub hl [1, 0] rfl) hw
def wp_X8_seed (seed : Int32) (p1 : Int32) (Φ : Int32 → Int32 → Prop) : Prop :=
  ((0 ≤ p1 → (Φ seed p1)) ∧ (¬ 0 ≤ p1 → (Φ (-1000000002) seed)))
abbrev xrm_X8_seed : Room := { frames := 0, cells := 0, slots := 0, locals := 0 }
set_option maxRecDepth 100000 in
set_option maxHeartbeats 4000000 in
theorem c_X8_seed (l : Launch) (D : va_G) (cI cZ cO : ClassId) {pay : Int32} {a_weathers : Nat} {a_hours : Nat} {a_fear : Nat} {days : Int32} {a_dayWeather : Nat} {a_dayHour : Nat} {a_dayDanger : Nat} {a_now : Nat} {seed : Int32} {a_text : Nat} {texted : Int32} {faultPlace : Int32} {at0 : Int32} {number : Int32} {numberAt : Int32} {a_readPay : Nat} {readPersons : Int32} {a_readMarks : Nat} {a_readWeathers : Nat} {a_readHours : Nat} {a_readFear : Nat} {readDays : Int32} {a_readWeather : Nat} {a_readHour : Nat} {a_readDanger : Nat} {undos : Int32} {a_past : Nat} {a_morning : Nat} {a_sent : Nat} {watched : Int32} {a_watchedDay : Nat} {a_watchedOut : Nat} {booked : Int32} {a_bookWho : Nat} {a_bookMarks : Nat} {a_images : Nat} {a_isKept : Nat} {a_this : Nat} {p1 : Int32} {Φ : Int32 → Int32 → Prop} {sz : Nat} (hw : (wp_X8_seed seed p1 Φ)) : Met l yX8_seed wsX8_seed xrm_X8_seed (xPW D cI cZ cO [.ref a_this, .int p1] sz [(a_this, .inr (8, [.int pay, .ref a_weathers, .ref a_hours, .ref a_fear, .int days, .ref a_dayWeather, .ref a_dayHour, .ref a_dayDanger, .ref a_now, .int seed, .ref a_text, .int texted, .int faultPlace, .int at0, .int number, .int numberAt, .ref a_readPay, .int readPersons, .ref a_readMarks, .ref a_readWeathers, .ref a_readHours, .ref a_readFear, .int readDays, .ref a_readWeather, .ref a_readHour, .ref a_readDanger, .int undos, .ref a_past, .ref a_morning, .ref a_sent, .int watched, .ref a_watchedDay, .ref a_watchedOut, .int booked, .ref a_bookWho, .ref a_bookMarks, .ref a_images, .ref a_isKept]))]) (va_Qi (fun (r : Int32) (u : Int32) => Φ r u) (xB D (va_A [(a_this, .inr (8, [.int pay, .ref a_weathers, .ref a_hours, .ref a_fear, .int days, .ref a_dayWeather, .ref a_dayHour, .ref a_dayDanger, .ref a_now, .int seed, .ref a_text, .int texted, .int faultPlace, .int at0, .int number, .int numberAt, .ref a_readPay, .int readPersons, .ref a_readMarks, .ref a_readWeathers, .ref a_readHours, .ref a_readFear, .int readDays, .ref a_readWeather, .ref a_readHour, .ref a_readDanger, .int undos, .ref a_past, .ref a_morning, .ref a_sent, .int watched, .ref a_watchedDay, .ref a_watchedOut, .int booked, .ref a_bookWho, .ref a_bookMarks, .ref a_images, .ref a_isKept]))] sz) (fun (u : Int32) => [(a_this, .inr (8, [.int pay, .ref a_weathers, .ref a_hours, .ref a_fear, .int days, .ref a_dayWeather, .ref a_dayHour, .ref a_dayDanger, .ref a_now, .int u, .ref a_text, .int texted, .int faultPlace, .int at0, .int number, .int numberAt, .ref a_readPay, .int readPersons, .ref a_readMarks, .ref a_readWeathers, .ref a_readHours, .ref a_readFear, .int readDays, .ref a_readWeather, .ref a_readHour, .ref a_readDanger, .int undos, .ref a_past, .ref a_morning, .ref a_sent, .int watched, .ref a_watchedDay, .ref a_watchedOut, .int booked, .ref a_bookWho, .ref a_bookMarks, .ref a_images, .ref a_isKept]))])) (va_A [(a_this, .inr (8, [.int pay, .ref a_weathers, .ref a_hours, .ref a_fear, .int days, .ref a_dayWeather, .ref a_dayHour, .ref a_dayDanger, .ref a_now, .int seed, .ref a_text, .int texted, .int faultPlace, .int at0, .int number, .int numberAt, .ref a_readPay, .int readPersons, .ref a_readMarks, .ref a_readWeathers, .ref a_readHours, .ref a_readFear, .int readDays, .ref a_readWeather, .ref a_readHour, .ref a_readDanger, .int undos, .ref a_past, .ref a_morning, .ref a_sent, .int watched, .ref a_watchedDay, .ref a_watchedOut, .int booked, .ref a_bookWho, .ref a_bookMarks, .ref a_images, .ref a_isKept]))] sz)) 0 0 (va_A [(a_this, .inr (8, [.int pay, .ref a_weathers, .ref a_hours, .ref a_fear, .int days, .ref a_dayWeather, .ref a_dayHour, .ref a_dayDanger, .ref a_now, .int seed, .ref a_text, .int texted, .int faultPlace, .int at0, .int number, .int numberAt, .ref a_readPay, .int readPersons, .ref a_readMarks, .ref a_readWeathers, .ref a_readHours, .ref a_readFear, .int readDays, .ref a_readWeather, .ref a_readHour, .ref a_readDanger, .int undos, .ref a_past, .ref a_morning, .ref a_sent, .int watched, .ref a_watchedDay, .ref a_watchedOut, .int booked, .ref a_bookWho, .ref a_bookMarks, .ref a_images, .ref a_isKept]))] sz) := by
  refine Met.ofW (cc := cX8_seed) (maxL := 3) (ret := (some .int)) (by decide) rfl ?_
  intro p e s m args below meth c s₁ B hml hv
  obtain ⟨rfl, hsz, hP, hKK, hD0⟩ := hv
  have hx := B.exec
  have hb := B.bytes
  have hr := B.returns
  have hts := atoms_spec (ws := wsX8_seed) B.pre
  have hown : s.vm.findClass RX8 = some m.cls := findClass_of_methodNamed B.named
  have hlocks := B.notSynchronized
  subst hsz
  have hD := hD0.self (sz := s.heap.size)
  obtain ⟨Q, hQ⟩ : ∃ Q, Q = MQ below (va_Qi (fun (r : Int32) (u : Int32) => Φ r u) (xB D (va_A [(a_this, .inr (8, [.int pay, .ref a_weathers, .ref a_hours, .ref a_fear, .int days, .ref a_dayWeather, .ref a_dayHour, .ref a_dayDanger, .ref a_now, .int seed, .ref a_text, .int texted, .int faultPlace, .int at0, .int number, .int numberAt, .ref a_readPay, .int readPersons, .ref a_readMarks, .ref a_readWeathers, .ref a_readHours, .ref a_readFear, .int readDays, .ref a_readWeather, .ref a_readHour, .ref a_readDanger, .int undos, .ref a_past, .ref a_morning, .ref a_sent, .int watched, .ref a_watchedDay, .ref a_watchedOut, .int booked, .ref a_bookWho, .ref a_bookMarks, .ref a_images, .ref a_isKept]))] s.heap.size) (fun (u : Int32) => [(a_this, .inr (8, [.int pay, .ref a_weathers, .ref a_hours, .ref a_fear, .int days, .ref a_dayWeather, .ref a_dayHour, .ref a_dayDanger, .ref a_now, .int u, .ref a_text, .int texted, .int faultPlace, .int at0, .int number, .int numberAt, .ref a_readPay, .int readPersons, .ref a_readMarks, .ref a_readWeathers, .ref a_readHours, .ref a_readFear, .int readDays, .ref a_readWeather, .ref a_readHour, .ref a_readDanger, .int undos, .ref a_past, .ref a_morning, .ref a_sent, .int watched, .ref a_watchedDay, .ref a_watchedOut, .int booked, .ref a_bookWho, .ref a_bookMarks, .ref a_images, .ref a_isKept]))])) (va_A [(a_this, .inr (8, [.int pay, .ref a_weathers, .ref a_hours, .ref a_fear, .int days, .ref a_dayWeather, .ref a_dayHour, .ref a_dayDanger, .ref a_now, .int seed, .ref a_text, .int texted, .int faultPlace, .int at0, .int number, .int numberAt, .ref a_readPay, .int readPersons, .ref a_readMarks, .ref a_readWeathers, .ref a_readHours, .ref a_readFear, .int readDays, .ref a_readWeather, .ref a_readHour, .ref a_readDanger, .int undos, .ref a_past, .ref a_morning, .ref a_sent, .int watched, .ref a_watchedDay, .ref a_watchedOut, .int booked, .ref a_bookWho, .ref a_bookMarks, .ref a_images, .ref a_isKept]))] s.heap.size)) ([.ref a_this, .int p1] : List Value).toArray s 0 0 (va_A [(a_this, .inr (8, [.int pay, .ref a_weathers, .ref a_hours, .ref a_fear, .int days, .ref a_dayWeather, .ref a_dayHour, .ref a_dayDanger, .ref a_now, .int seed, .ref a_text, .int texted, .int faultPlace, .int at0, .int number, .int numberAt, .ref a_readPay, .int readPersons, .ref a_readMarks, .ref a_readWeathers, .ref a_readHours, .ref a_readFear, .int readDays, .ref a_readWeather, .ref a_readHour, .ref a_readDanger, .int undos, .ref a_past, .ref a_morning, .ref a_sent, .int watched, .ref a_watchedDay, .ref a_watchedOut, .int booked, .ref a_bookWho, .ref a_bookMarks, .ref a_images, .ref a_isKept]))] s.heap.size) := ⟨_, rfl⟩
  rw [← hQ]
  generalize hAe : va_A [(a_this, .inr (8, [.int pay, .ref a_weathers, .ref a_hours, .ref a_fear, .int days, .ref a_dayWeather, .ref a_dayHour, .ref a_dayDanger, .ref a_now, .int seed, .ref a_text, .int texted, .int faultPlace, .int at0, .int number, .int numberAt, .ref a_readPay, .int readPersons, .ref a_readMarks, .ref a_readWeathers, .ref a_readHours, .ref a_readFear, .int readDays, .ref a_readWeather, .ref a_readHour, .ref a_readDanger, .int undos, .ref a_past, .ref a_morning, .ref a_sent, .int watched, .ref a_watchedDay, .ref a_watchedOut, .int booked, .ref a_bookWho, .ref a_bookMarks, .ref a_images, .ref a_isKept]))] s.heap.size = A at hD hQ
  have hA : ∀ q : Nat, s.heap.size ≤ q → A q := fun q h => by rw [← hAe]; exact Or.inr h
  have hS : va_S A s.heap s.heap [] := va_S.rf
  have hl := lv_entry ([.ref a_this, .int p1]) (n := 3) (Nat.le_of_ble_eq_true rfl)
  rw [lg_entry_eq]
  generalize (lg_sl ([.ref a_this, .int p1]) ++ List.replicate (3 - (lg_sl ([.ref a_this, .int p1])).length) Slot.unset).toArray = ls at hl ⊢
  have hl : lv_has ls 3 [(0, .ref a_this), (1, .int p1)] := hl
  generalize ([.ref a_this, .int p1] : List Value).toArray = args at hts hQ ⊢
  have hP : va_P D vwCl [(a_this, .inr (8, [.int pay, .ref a_weathers, .ref a_hours, .ref a_fear, .int days, .ref a_dayWeather, .ref a_dayHour, .ref a_dayDanger, .ref a_now, .int seed, .ref a_text, .int texted, .int faultPlace, .int at0, .int number, .int numberAt, .ref a_readPay, .int readPersons, .ref a_readMarks, .ref a_readWeathers, .ref a_readHours, .ref a_readFear, .int readDays, .ref a_readWeather, .ref a_readHour, .ref a_readDanger, .int undos, .ref a_past, .ref a_morning, .ref a_sent, .int watched, .ref a_watchedDay, .ref a_watchedOut, .int booked, .ref a_bookWho, .ref a_bookMarks, .ref a_images, .ref a_isKept]))] s.heap := hP
  have hinX8 : ∀ w ∈ u_ws RX8 TX8 38, w ∈ wsX8_seed := by decide +kernel
  have fl_216 := hts (.fieldLink RX8 216 "DoubleChainModel" "seed" "I") (by decide +kernel)
  clear B
  show W p l e xrm_X8_seed s m args below meth c s.heap [] 0 0 Q (F0 m 0 ls [])
  unfold wp_X8_seed at hw
  refine lv_iload_n hx hb dX8_seed_0 rfl (lv_at hl 1 rfl) ?_
  refine lv_if_ge (tgt := 7) hx hb dX8_seed_1 (by decide) (fun c_1 => ?_) (fun c_1 => ?_)
  · have hw := hw.1 c_1
    refine lv_aload_n hx hb dX8_seed_7 rfl (lv_at hl 0 rfl) ?_
    refine va_get (D := D) (ci := 8) (v := .int seed) (C := RX8) (T := TX8) (N := 38) hx hb hts hinX8 hown hKK.1 hP 0 rfl rfl 9 (by decide) fl_216 (fun _ h9 => h9) rfl dX8_seed_8 ?_
    refine lv_istore_n (lv' := [(2, .int seed), (0, .ref a_this), (1, .int p1)]) hx hb dX8_seed_11 rfl hl (by decide) rfl (fun ls hl => ?_)
    refine lv_aload_n hx hb dX8_seed_12 rfl (lv_at hl 1 rfl) ?_
    refine lv_iload_n hx hb dX8_seed_13 rfl (lv_at hl 2 rfl) ?_
    refine va_put (D := D) (ci := 8) (v := .int p1) (ty := .int) (C := RX8) (T := TX8) (N := 38) hx hb hts hinX8 tyX8 tyX8_ok nmX8 hown hKK.1 hP hD hS 0 rfl rfl 9 (by decide) fl_216 (fun _ h9 => h9) rfl (by decide +kernel) rfl rfl (Nat.le_of_ble_eq_true rfl) dX8_seed_14 (fun H locs hP hD hS => ?_)
    have hP : va_P D vwCl [(a_this, .inr (8, [.int pay, .ref a_weathers, .ref a_hours, .ref a_fear, .int days, .ref a_dayWeather, .ref a_dayHour, .ref a_dayDanger, .ref a_now, .int p1, .ref a_text, .int texted, .int faultPlace, .int at0, .int number, .int numberAt, .ref a_readPay, .int readPersons, .ref a_readMarks, .ref a_readWeathers, .ref a_readHours, .ref a_readFear, .int readDays, .ref a_readWeather, .ref a_readHour, .ref a_readDanger, .int undos, .ref a_past, .ref a_morning, .ref a_sent, .int watched, .ref a_watchedDay, .ref a_watchedOut, .int booked, .ref a_bookWho, .ref a_bookMarks, .ref a_images, .ref a_isKept]))] H := hP
    have hD : va_D A [(a_this, .inr (8, [.int pay, .ref a_weathers, .ref a_hours, .ref a_fear, .int days, .ref a_dayWeather, .ref a_dayHour, .ref a_dayDanger, .ref a_now, .int p1, .ref a_text, .int texted, .int faultPlace, .int at0, .int number, .int numberAt, .ref a_readPay, .int readPersons, .ref a_readMarks, .ref a_readWeathers, .ref a_readHours, .ref a_readFear, .int readDays, .ref a_readWeather, .ref a_readHour, .ref a_readDanger, .int undos, .ref a_past, .ref a_morning, .ref a_sent, .int watched, .ref a_watchedDay, .ref a_watchedOut, .int booked, .ref a_bookWho, .ref a_bookMarks, .ref a_images, .ref a_isKept]))] := hD
    refine lv_iload_n hx hb dX8_seed_17 rfl (lv_at hl 0 rfl) ?_
    rw [hQ]
    exact W.iret (v := seed) hx hb hr (fun t ht _ => ⟨⟨seed, p1, rfl, hw, by rw [ht]; exact hP, hD⟩, hS.F ht⟩) hS.2.2 dX8_seed_18
  · have hw := hw.2 c_1
    refine lv_ldc (v := (-1000000002)) hx hb hown (hts (.constant RX8 103 (-1000000002)) (by decide +kernel)) dX8_seed_4 ?_
    rw [hQ]
    exact W.iret (v := (-1000000002)) hx hb hr (fun t ht _ => ⟨⟨(-1000000002), seed, rfl, hw, by rw [ht]; exact hP, hD⟩, hS.F ht⟩) hS.2.2 dX8_seed_6
def wk_X8_keep_15 (seed : Int32) (isKept : Nat → Int32) (p1 : Int32) (Φ : Int32 → (Nat → Int32) → (Nat → Int32) → Int32 → Prop) (images_15 : Nat → Int32) (x2_15 : Int32) : Prop :=
  (vp_in ((14 * p1) + 13) 28 ∧ (vp_in p1 2 ∧ (Φ 1 (upd images_15 ((14 * p1) + 13).toNatClampNeg seed) (upd isKept p1.toNatClampNeg 1) 0)))
def wb_X8_keep_15 (now : Nat → Int32) (p1 : Int32) (K_15 : (Nat → Int32) → Int32 → Prop) (rec_15 : (Nat → Int32) → Int32 → Prop) (images_15 : Nat → Int32) (x2_15 : Int32) : Prop :=
  ((13 ≤ x2_15 → (K_15 images_15 x2_15)) ∧ (¬ 13 ≤ x2_15 → (vp_in x2_15 13 ∧ (vp_in ((14 * p1) + x2_15) 28 ∧ (rec_15 (upd images_15 ((14 * p1) + x2_15).toNatClampNeg (now x2_15.toNatClampNeg)) (x2_15 + 1))))))
def wp_X8_keep (seed : Int32) (undos : Int32) (images : Nat → Int32) (isKept : Nat → Int32) (now : Nat → Int32) (p1 : Int32) (Φ : Int32 → (Nat → Int32) → (Nat → Int32) → Int32 → Prop) : Prop :=
  (wp_X8_in (p1).toInt64 0 1 (fun r_4 => ((r_4 = 0 → (Φ (-1000000001) images isKept undos)) ∧ (¬ r_4 = 0 → (∃ n : Nat, xit2 (wb_X8_keep_15 now p1 (wk_X8_keep_15 seed isKept p1 Φ)) n images 0)))))
abbrev xrm_X8_keep : Room := { frames := 1, cells := 0, slots := 0, locals := 25 }
set_option maxRecDepth 100000 in
set_option maxHeartbeats 4000000 in
theorem c_X8_keep (l : Launch) (D : va_G) (cI cZ cO : ClassId) {pay : Int32} {a_weathers : Nat} {a_hours : Nat} {a_fear : Nat} {days : Int32} {a_dayWeather : Nat} {a_dayHour : Nat} {a_dayDanger : Nat} {a_now : Nat} {seed : Int32} {a_text : Nat} {texted : Int32} {faultPlace : Int32} {at0 : Int32} {number : Int32} {numberAt : Int32} {a_readPay : Nat} {readPersons : Int32} {a_readMarks : Nat} {a_readWeathers : Nat} {a_readHours : Nat} {a_readFear : Nat} {readDays : Int32} {a_readWeather : Nat} {a_readHour : Nat} {a_readDanger : Nat} {undos : Int32} {a_past : Nat} {a_morning : Nat} {a_sent : Nat} {watched : Int32} {a_watchedDay : Nat} {a_watchedOut : Nat} {booked : Int32} {a_bookWho : Nat} {a_bookMarks : Nat} {a_images : Nat} {a_isKept : Nat} {a_this : Nat} {images : Nat → Int32} {isKept : Nat → Int32} {now : Nat → Int32} {p1 : Int32} {Φ : Int32 → (Nat → Int32) → (Nat → Int32) → Int32 → Prop} {sz : Nat} (hw : (wp_X8_keep seed undos images isKept now p1 Φ)) : Met l yX8_keep wsX8_keep xrm_X8_keep (xPW D cI cZ cO [.ref a_this, .int p1] sz [(a_this, .inr (8, [.int pay, .ref a_weathers, .ref a_hours, .ref a_fear, .int days, .ref a_dayWeather, .ref a_dayHour, .ref a_dayDanger, .ref a_now, .int seed, .ref a_text, .int texted, .int faultPlace, .int at0, .int number, .int numberAt, .ref a_readPay, .int readPersons, .ref a_readMarks, .ref a_readWeathers, .ref a_readHours, .ref a_readFear, .int readDays, .ref a_readWeather, .ref a_readHour, .ref a_readDanger, .int undos, .ref a_past, .ref a_morning, .ref a_sent, .int watched, .ref a_watchedDay, .ref a_watchedOut, .int booked, .ref a_bookWho, .ref a_bookMarks, .ref a_images, .ref a_isKept])), (a_images, .inl (cI, 28, .inl images)), (a_isKept, .inl (cZ, 2, .inl isKept)), (a_now, .inl (cI, 13, .inl now))]) (va_Qi (fun (r : Int32) (u : (Nat → Int32) × (Nat → Int32) × Int32) => Φ r u.1 u.2.1 u.2.2) (xB D (va_A [(a_this, .inr (8, [.int pay, .ref a_weathers, .ref a_hours, .ref a_fear, .int days, .ref a_dayWeather, .ref a_dayHour, .ref a_dayDanger, .ref a_now, .int seed, .ref a_text, .int texted, .int faultPlace, .int at0, .int number, .int numberAt, .ref a_readPay, .int readPersons, .ref a_readMarks, .ref a_readWeathers, .ref a_readHours, .ref a_readFear, .int readDays, .ref a_readWeather, .ref a_readHour, .ref a_readDanger, .int undos, .ref a_past, .ref a_morning, .ref a_sent, .int watched, .ref a_watchedDay, .ref a_watchedOut, .int booked, .ref a_bookWho, .ref a_bookMarks, .ref a_images, .ref a_isKept])), (a_images, .inl (cI, 28, .inl images)), (a_isKept, .inl (cZ, 2, .inl isKept)), (a_now, .inl (cI, 13, .inl now))] sz) (fun (u : (Nat → Int32) × (Nat → Int32) × Int32) => [(a_this, .inr (8, [.int pay, .ref a_weathers, .ref a_hours, .ref a_fear, .int days, .ref a_dayWeather, .ref a_dayHour, .ref a_dayDanger, .ref a_now, .int seed, .ref a_text, .int texted, .int faultPlace, .int at0, .int number, .int numberAt, .ref a_readPay, .int readPersons, .ref a_readMarks, .ref a_readWeathers, .ref a_readHours, .ref a_readFear, .int readDays, .ref a_readWeather, .ref a_readHour, .ref a_readDanger, .int u.2.2, .ref a_past, .ref a_morning, .ref a_sent, .int watched, .ref a_watchedDay, .ref a_watchedOut, .int booked, .ref a_bookWho, .ref a_bookMarks, .ref a_images, .ref a_isKept])), (a_images, .inl (cI, 28, .inl u.1)), (a_isKept, .inl (cZ, 2, .inl u.2.1)), (a_now, .inl (cI, 13, .inl now))])) (va_A [(a_this, .inr (8, [.int pay, .ref a_weathers, .ref a_hours, .ref a_fear, .int days, .ref a_dayWeather, .ref a_dayHour, .ref a_dayDanger, .ref a_now, .int seed, .ref a_text, .int texted, .int faultPlace, .int at0, .int number, .int numberAt, .ref a_readPay, .int readPersons, .ref a_readMarks, .ref a_readWeathers, .ref a_readHours, .ref a_readFear, .int readDays, .ref a_readWeather, .ref a_readHour, .ref a_readDanger, .int undos, .ref a_past, .ref a_morning, .ref a_sent, .int watched, .ref a_watchedDay, .ref a_watchedOut, .int booked, .ref a_bookWho, .ref a_bookMarks, .ref a_images, .ref a_isKept])), (a_images, .inl (cI, 28, .inl images)), (a_isKept, .inl (cZ, 2, .inl isKept)), (a_now, .inl (cI, 13, .inl now))] sz)) 0 0 (va_A [(a_this, .inr (8, [.int pay, .ref a_weathers, .ref a_hours, .ref a_fear, .int days, .ref a_dayWeather, .ref a_dayHour, .ref a_dayDanger, .ref a_now, .int seed, .ref a_text, .int texted, .int faultPlace, .int at0, .int number, .int numberAt, .ref a_readPay, .int readPersons, .ref a_readMarks, .ref a_readWeathers, .ref a_readHours, .ref a_readFear, .int readDays, .ref a_readWeather, .ref a_readHour, .ref a_readDanger, .int undos, .ref a_past, .ref a_morning, .ref a_sent, .int watched, .ref a_watchedDay, .ref a_watchedOut, .int booked, .ref a_bookWho, .ref a_bookMarks, .ref a_images, .ref a_isKept])), (a_images, .inl (cI, 28, .inl images)), (a_isKept, .inl (cZ, 2, .inl isKept)), (a_now, .inl (cI, 13, .inl now))] sz) := by
  refine Met.ofW (cc := cX8_keep) (maxL := 3) (ret := (some .int)) (by decide) rfl ?_
  intro p e s m args below meth c s₁ B hml hv
  obtain ⟨rfl, hsz, hP, hKK, hD0⟩ := hv
  have hx := B.exec
  have hb := B.bytes
  have hr := B.returns
  have hts := atoms_spec (ws := wsX8_keep) B.pre
  have hown : s.vm.findClass RX8 = some m.cls := findClass_of_methodNamed B.named
  have hlocks := B.notSynchronized
  subst hsz
  have hD := hD0.self (sz := s.heap.size)
  obtain ⟨Q, hQ⟩ : ∃ Q, Q = MQ below (va_Qi (fun (r : Int32) (u : (Nat → Int32) × (Nat → Int32) × Int32) => Φ r u.1 u.2.1 u.2.2) (xB D (va_A [(a_this, .inr (8, [.int pay, .ref a_weathers, .ref a_hours, .ref a_fear, .int days, .ref a_dayWeather, .ref a_dayHour, .ref a_dayDanger, .ref a_now, .int seed, .ref a_text, .int texted, .int faultPlace, .int at0, .int number, .int numberAt, .ref a_readPay, .int readPersons, .ref a_readMarks, .ref a_readWeathers, .ref a_readHours, .ref a_readFear, .int readDays, .ref a_readWeather, .ref a_readHour, .ref a_readDanger, .int undos, .ref a_past, .ref a_morning, .ref a_sent, .int watched, .ref a_watchedDay, .ref a_watchedOut, .int booked, .ref a_bookWho, .ref a_bookMarks, .ref a_images, .ref a_isKept])), (a_images, .inl (cI, 28, .inl images)), (a_isKept, .inl (cZ, 2, .inl isKept)), (a_now, .inl (cI, 13, .inl now))] s.heap.size) (fun (u : (Nat → Int32) × (Nat → Int32) × Int32) => [(a_this, .inr (8, [.int pay, .ref a_weathers, .ref a_hours, .ref a_fear, .int days, .ref a_dayWeather, .ref a_dayHour, .ref a_dayDanger, .ref a_now, .int seed, .ref a_text, .int texted, .int faultPlace, .int at0, .int number, .int numberAt, .ref a_readPay, .int readPersons, .ref a_readMarks, .ref a_readWeathers, .ref a_readHours, .ref a_readFear, .int readDays, .ref a_readWeather, .ref a_readHour, .ref a_readDanger, .int u.2.2, .ref a_past, .ref a_morning, .ref a_sent, .int watched, .ref a_watchedDay, .ref a_watchedOut, .int booked, .ref a_bookWho, .ref a_bookMarks, .ref a_images, .ref a_isKept])), (a_images, .inl (cI, 28, .inl u.1)), (a_isKept, .inl (cZ, 2, .inl u.2.1)), (a_now, .inl (cI, 13, .inl now))])) (va_A [(a_this, .inr (8, [.int pay, .ref a_weathers, .ref a_hours, .ref a_fear, .int days, .ref a_dayWeather, .ref a_dayHour, .ref a_dayDanger, .ref a_now, .int seed, .ref a_text, .int texted, .int faultPlace, .int at0, .int number, .int numberAt, .ref a_readPay, .int readPersons, .ref a_readMarks, .ref a_readWeathers, .ref a_readHours, .ref a_readFear, .int readDays, .ref a_readWeather, .ref a_readHour, .ref a_readDanger, .int undos, .ref a_past, .ref a_morning, .ref a_sent, .int watched, .ref a_watchedDay, .ref a_watchedOut, .int booked, .ref a_bookWho, .ref a_bookMarks, .ref a_images, .ref a_isKept])), (a_images, .inl (cI, 28, .inl images)), (a_isKept, .inl (cZ, 2, .inl isKept)), (a_now, .inl (cI, 13, .inl now))] s.heap.size)) ([.ref a_this, .int p1] : List Value).toArray s 0 0 (va_A [(a_this, .inr (8, [.int pay, .ref a_weathers, .ref a_hours, .ref a_fear, .int days, .ref a_dayWeather, .ref a_dayHour, .ref a_dayDanger, .ref a_now, .int seed, .ref a_text, .int texted, .int faultPlace, .int at0, .int number, .int numberAt, .ref a_readPay, .int readPersons, .ref a_readMarks, .ref a_readWeathers, .ref a_readHours, .ref a_readFear, .int readDays, .ref a_readWeather, .ref a_readHour, .ref a_readDanger, .int undos, .ref a_past, .ref a_morning, .ref a_sent, .int watched, .ref a_watchedDay, .ref a_watchedOut, .int booked, .ref a_bookWho, .ref a_bookMarks, .ref a_images, .ref a_isKept])), (a_images, .inl (cI, 28, .inl images)), (a_isKept, .inl (cZ, 2, .inl isKept)), (a_now, .inl (cI, 13, .inl now))] s.heap.size) := ⟨_, rfl⟩
  rw [← hQ]
  generalize hAe : va_A [(a_this, .inr (8, [.int pay, .ref a_weathers, .ref a_hours, .ref a_fear, .int days, .ref a_dayWeather, .ref a_dayHour, .ref a_dayDanger, .ref a_now, .int seed, .ref a_text, .int texted, .int faultPlace, .int at0, .int number, .int numberAt, .ref a_readPay, .int readPersons, .ref a_readMarks, .ref a_readWeathers, .ref a_readHours, .ref a_readFear, .int readDays, .ref a_readWeather, .ref a_readHour, .ref a_readDanger, .int undos, .ref a_past, .ref a_morning, .ref a_sent, .int watched, .ref a_watchedDay, .ref a_watchedOut, .int booked, .ref a_bookWho, .ref a_bookMarks, .ref a_images, .ref a_isKept])), (a_images, .inl (cI, 28, .inl images)), (a_isKept, .inl (cZ, 2, .inl isKept)), (a_now, .inl (cI, 13, .inl now))] s.heap.size = A at hD hQ
  have hA : ∀ q : Nat, s.heap.size ≤ q → A q := fun q h => by rw [← hAe]; exact Or.inr h
  have hS : va_S A s.heap s.heap [] := va_S.rf
  have hl := lv_entry ([.ref a_this, .int p1]) (n := 3) (Nat.le_of_ble_eq_true rfl)
  rw [lg_entry_eq]
  generalize (lg_sl ([.ref a_this, .int p1]) ++ List.replicate (3 - (lg_sl ([.ref a_this, .int p1])).length) Slot.unset).toArray = ls at hl ⊢
  have hl : lv_has ls 3 [(0, .ref a_this), (1, .int p1)] := hl
  generalize ([.ref a_this, .int p1] : List Value).toArray = args at hts hQ ⊢
  have hP : va_P D vwCl [(a_this, .inr (8, [.int pay, .ref a_weathers, .ref a_hours, .ref a_fear, .int days, .ref a_dayWeather, .ref a_dayHour, .ref a_dayDanger, .ref a_now, .int seed, .ref a_text, .int texted, .int faultPlace, .int at0, .int number, .int numberAt, .ref a_readPay, .int readPersons, .ref a_readMarks, .ref a_readWeathers, .ref a_readHours, .ref a_readFear, .int readDays, .ref a_readWeather, .ref a_readHour, .ref a_readDanger, .int undos, .ref a_past, .ref a_morning, .ref a_sent, .int watched, .ref a_watchedDay, .ref a_watchedOut, .int booked, .ref a_bookWho, .ref a_bookMarks, .ref a_images, .ref a_isKept])), (a_images, .inl (cI, 28, .inl images)), (a_isKept, .inl (cZ, 2, .inl isKept)), (a_now, .inl (cI, 13, .inl now))] s.heap := hP
  have hinX8 : ∀ w ∈ u_ws RX8 TX8 38, w ∈ wsX8_keep := by decide +kernel
  have fl_28 := hts (.fieldLink RX8 28 "DoubleChainModel" "now" "[I") (by decide +kernel)
  have fl_84 := hts (.fieldLink RX8 84 "DoubleChainModel" "images" "[I") (by decide +kernel)
  have fl_87 := hts (.fieldLink RX8 87 "DoubleChainModel" "isKept" "[Z") (by decide +kernel)
  have fl_163 := hts (.fieldLink RX8 163 "DoubleChainModel" "undos" "I") (by decide +kernel)
  have fl_216 := hts (.fieldLink RX8 216 "DoubleChainModel" "seed" "I") (by decide +kernel)
  clear B
  show W p l e xrm_X8_keep s m args below meth c s.heap [] 0 0 Q (F0 m 0 ls [])
  unfold wp_X8_keep at hw
  refine lv_iload_n hx hb dX8_keep_0 rfl (lv_at hl 1 rfl) ?_
  refine lv_i2l (v := (p1).toInt64) hx hb dX8_keep_1 rfl ?_
  refine lv_lconst (v := 0) hx hb dX8_keep_2 (by decide) ?_
  refine lv_lconst (v := 1) hx hb dX8_keep_3 (by decide) ?_
  refine xcSi (As := [.long (p1).toInt64, .long 0, .long 1]) (rest := []) (wc := []) ⟨hx, hb, hml, hown, hts⟩ (c_X8_in l D cI cZ cO hw) (va_cwS 3 hts gX8_keep_X8_in rfl rfl rfl (by decide +kernel) ⟨Nat.le_of_ble_eq_true rfl, Nat.le_of_ble_eq_true rfl⟩) hKK hP [] rfl rfl hl.1 rfl (Nat.le_of_ble_eq_true rfl) dX8_keep_4 ⟨Nat.zero_le _, Nat.zero_le _⟩ (fun r_4 hw => ?_)
  refine lv_if_ne (tgt := 13) hx hb dX8_keep_7 (by decide) (fun c_7 => ?_) (fun c_7 => ?_)
  · have hw := hw.2 c_7
    refine lv_iconst (v := 0) hx hb dX8_keep_13 (by decide) ?_
    refine lv_istore_n (lv' := [(2, .int 0), (0, .ref a_this), (1, .int p1)]) hx hb dX8_keep_14 rfl hl (by decide) rfl (fun ls hl => ?_)
    have EX_15 : ∀ (images_15 : Nat → Int32) (x2_15 : Int32), ∀ (H : Heap) (locs : List Loc), va_P D vwCl [(a_this, .inr (8, [.int pay, .ref a_weathers, .ref a_hours, .ref a_fear, .int days, .ref a_dayWeather, .ref a_dayHour, .ref a_dayDanger, .ref a_now, .int seed, .ref a_text, .int texted, .int faultPlace, .int at0, .int number, .int numberAt, .ref a_readPay, .int readPersons, .ref a_readMarks, .ref a_readWeathers, .ref a_readHours, .ref a_readFear, .int readDays, .ref a_readWeather, .ref a_readHour, .ref a_readDanger, .int undos, .ref a_past, .ref a_morning, .ref a_sent, .int watched, .ref a_watchedDay, .ref a_watchedOut, .int booked, .ref a_bookWho, .ref a_bookMarks, .ref a_images, .ref a_isKept])), (a_images, .inl (cI, 28, .inl images_15)), (a_isKept, .inl (cZ, 2, .inl isKept)), (a_now, .inl (cI, 13, .inl now))] H → va_D A [(a_this, .inr (8, [.int pay, .ref a_weathers, .ref a_hours, .ref a_fear, .int days, .ref a_dayWeather, .ref a_dayHour, .ref a_dayDanger, .ref a_now, .int seed, .ref a_text, .int texted, .int faultPlace, .int at0, .int number, .int numberAt, .ref a_readPay, .int readPersons, .ref a_readMarks, .ref a_readWeathers, .ref a_readHours, .ref a_readFear, .int readDays, .ref a_readWeather, .ref a_readHour, .ref a_readDanger, .int undos, .ref a_past, .ref a_morning, .ref a_sent, .int watched, .ref a_watchedDay, .ref a_watchedOut, .int booked, .ref a_bookWho, .ref a_bookMarks, .ref a_images, .ref a_isKept])), (a_images, .inl (cI, 28, .inl images_15)), (a_isKept, .inl (cZ, 2, .inl isKept)), (a_now, .inl (cI, 13, .inl now))] → va_S A s.heap H locs → ∀ (ls : Array Slot), lv_has ls 3 [(0, .ref a_this), (1, .int p1), (2, .int x2_15)] → (wk_X8_keep_15 seed isKept p1 Φ images_15 x2_15) → W p l e xrm_X8_keep s m args below meth c H locs 0 0 Q (F0 m 44 ls []) := by
      intro images_15 x2_15 H locs hP hD hS ls hl hw
      unfold wk_X8_keep_15 at hw
      refine lv_aload_n hx hb dX8_keep_44 rfl (lv_at hl 0 rfl) ?_
      refine va_get (D := D) (ci := 8) (v := .ref a_images) (C := RX8) (T := TX8) (N := 38) hx hb hts hinX8 hown hKK.1 hP 0 rfl rfl 36 (by decide) fl_84 (fun _ h9 => h9) rfl dX8_keep_45 ?_
      refine lv_bipush (v := 14) hx hb dX8_keep_48 (by decide) ?_
      refine lv_iload_n hx hb dX8_keep_50 rfl (lv_at hl 1 rfl) ?_
      refine lv_imul hx hb dX8_keep_51 ?_
      refine lv_bipush (v := 13) hx hb dX8_keep_52 (by decide) ?_
      refine lv_iadd hx hb dX8_keep_54 ?_
      refine lv_aload_n hx hb dX8_keep_55 rfl (lv_at hl 0 rfl) ?_
      refine va_get (D := D) (ci := 8) (v := .int seed) (C := RX8) (T := TX8) (N := 38) hx hb hts hinX8 hown hKK.1 hP 0 rfl rfl 9 (by decide) fl_216 (fun _ h9 => h9) rfl dX8_keep_56 ?_
      obtain ⟨hin, hw⟩ := hw
      refine va_iast hx hb hKK.1 hP hD hS 1 0 rfl rfl hin dX8_keep_59 (fun H locs hP hD hS => ?_)
      have hP : va_P D vwCl [(a_this, .inr (8, [.int pay, .ref a_weathers, .ref a_hours, .ref a_fear, .int days, .ref a_dayWeather, .ref a_dayHour, .ref a_dayDanger, .ref a_now, .int seed, .ref a_text, .int texted, .int faultPlace, .int at0, .int number, .int numberAt, .ref a_readPay, .int readPersons, .ref a_readMarks, .ref a_readWeathers, .ref a_readHours, .ref a_readFear, .int readDays, .ref a_readWeather, .ref a_readHour, .ref a_readDanger, .int undos, .ref a_past, .ref a_morning, .ref a_sent, .int watched, .ref a_watchedDay, .ref a_watchedOut, .int booked, .ref a_bookWho, .ref a_bookMarks, .ref a_images, .ref a_isKept])), (a_images, .inl (cI, 28, .inl (upd images_15 ((14 * p1) + 13).toNatClampNeg seed))), (a_isKept, .inl (cZ, 2, .inl isKept)), (a_now, .inl (cI, 13, .inl now))] H := hP
      have hD : va_D A [(a_this, .inr (8, [.int pay, .ref a_weathers, .ref a_hours, .ref a_fear, .int days, .ref a_dayWeather, .ref a_dayHour, .ref a_dayDanger, .ref a_now, .int seed, .ref a_text, .int texted, .int faultPlace, .int at0, .int number, .int numberAt, .ref a_readPay, .int readPersons, .ref a_readMarks, .ref a_readWeathers, .ref a_readHours, .ref a_readFear, .int readDays, .ref a_readWeather, .ref a_readHour, .ref a_readDanger, .int undos, .ref a_past, .ref a_morning, .ref a_sent, .int watched, .ref a_watchedDay, .ref a_watchedOut, .int booked, .ref a_bookWho, .ref a_bookMarks, .ref a_images, .ref a_isKept])), (a_images, .inl (cI, 28, .inl (upd images_15 ((14 * p1) + 13).toNatClampNeg seed))), (a_isKept, .inl (cZ, 2, .inl isKept)), (a_now, .inl (cI, 13, .inl now))] := hD
      refine lv_aload_n hx hb dX8_keep_60 rfl (lv_at hl 0 rfl) ?_
      refine va_get (D := D) (ci := 8) (v := .ref a_isKept) (C := RX8) (T := TX8) (N := 38) hx hb hts hinX8 hown hKK.1 hP 0 rfl rfl 37 (by decide) fl_87 (fun _ h9 => h9) rfl dX8_keep_61 ?_
      refine lv_iload_n hx hb dX8_keep_64 rfl (lv_at hl 1 rfl) ?_
      refine lv_iconst (v := 1) hx hb dX8_keep_65 (by decide) ?_
      obtain ⟨hin, hw⟩ := hw
      refine va_zast hx hb hKK.1 hP hD hS 2 1 rfl rfl hin dX8_keep_66 (fun H locs hP hD hS => ?_)
      have hP : va_P D vwCl [(a_this, .inr (8, [.int pay, .ref a_weathers, .ref a_hours, .ref a_fear, .int days, .ref a_dayWeather, .ref a_dayHour, .ref a_dayDanger, .ref a_now, .int seed, .ref a_text, .int texted, .int faultPlace, .int at0, .int number, .int numberAt, .ref a_readPay, .int readPersons, .ref a_readMarks, .ref a_readWeathers, .ref a_readHours, .ref a_readFear, .int readDays, .ref a_readWeather, .ref a_readHour, .ref a_readDanger, .int undos, .ref a_past, .ref a_morning, .ref a_sent, .int watched, .ref a_watchedDay, .ref a_watchedOut, .int booked, .ref a_bookWho, .ref a_bookMarks, .ref a_images, .ref a_isKept])), (a_images, .inl (cI, 28, .inl (upd images_15 ((14 * p1) + 13).toNatClampNeg seed))), (a_isKept, .inl (cZ, 2, .inl (upd isKept p1.toNatClampNeg 1))), (a_now, .inl (cI, 13, .inl now))] H := hP
      have hD : va_D A [(a_this, .inr (8, [.int pay, .ref a_weathers, .ref a_hours, .ref a_fear, .int days, .ref a_dayWeather, .ref a_dayHour, .ref a_dayDanger, .ref a_now, .int seed, .ref a_text, .int texted, .int faultPlace, .int at0, .int number, .int numberAt, .ref a_readPay, .int readPersons, .ref a_readMarks, .ref a_readWeathers, .ref a_readHours, .ref a_readFear, .int readDays, .ref a_readWeather, .ref a_readHour, .ref a_readDanger, .int undos, .ref a_past, .ref a_morning, .ref a_sent, .int watched, .ref a_watchedDay, .ref a_watchedOut, .int booked, .ref a_bookWho, .ref a_bookMarks, .ref a_images, .ref a_isKept])), (a_images, .inl (cI, 28, .inl (upd images_15 ((14 * p1) + 13).toNatClampNeg seed))), (a_isKept, .inl (cZ, 2, .inl (upd isKept p1.toNatClampNeg 1))), (a_now, .inl (cI, 13, .inl now))] := hD
      refine lv_aload_n hx hb dX8_keep_67 rfl (lv_at hl 0 rfl) ?_
      refine lv_iconst (v := 0) hx hb dX8_keep_68 (by decide) ?_
      refine va_put (D := D) (ci := 8) (v := .int 0) (ty := .int) (C := RX8) (T := TX8) (N := 38) hx hb hts hinX8 tyX8 tyX8_ok nmX8 hown hKK.1 hP hD hS 0 rfl rfl 26 (by decide) fl_163 (fun _ h9 => h9) rfl (by decide +kernel) rfl rfl (Nat.le_of_ble_eq_true rfl) dX8_keep_69 (fun H locs hP hD hS => ?_)
      have hP : va_P D vwCl [(a_this, .inr (8, [.int pay, .ref a_weathers, .ref a_hours, .ref a_fear, .int days, .ref a_dayWeather, .ref a_dayHour, .ref a_dayDanger, .ref a_now, .int seed, .ref a_text, .int texted, .int faultPlace, .int at0, .int number, .int numberAt, .ref a_readPay, .int readPersons, .ref a_readMarks, .ref a_readWeathers, .ref a_readHours, .ref a_readFear, .int readDays, .ref a_readWeather, .ref a_readHour, .ref a_readDanger, .int 0, .ref a_past, .ref a_morning, .ref a_sent, .int watched, .ref a_watchedDay, .ref a_watchedOut, .int booked, .ref a_bookWho, .ref a_bookMarks, .ref a_images, .ref a_isKept])), (a_images, .inl (cI, 28, .inl (upd images_15 ((14 * p1) + 13).toNatClampNeg seed))), (a_isKept, .inl (cZ, 2, .inl (upd isKept p1.toNatClampNeg 1))), (a_now, .inl (cI, 13, .inl now))] H := hP
      have hD : va_D A [(a_this, .inr (8, [.int pay, .ref a_weathers, .ref a_hours, .ref a_fear, .int days, .ref a_dayWeather, .ref a_dayHour, .ref a_dayDanger, .ref a_now, .int seed, .ref a_text, .int texted, .int faultPlace, .int at0, .int number, .int numberAt, .ref a_readPay, .int readPersons, .ref a_readMarks, .ref a_readWeathers, .ref a_readHours, .ref a_readFear, .int readDays, .ref a_readWeather, .ref a_readHour, .ref a_readDanger, .int 0, .ref a_past, .ref a_morning, .ref a_sent, .int watched, .ref a_watchedDay, .ref a_watchedOut, .int booked, .ref a_bookWho, .ref a_bookMarks, .ref a_images, .ref a_isKept])), (a_images, .inl (cI, 28, .inl (upd images_15 ((14 * p1) + 13).toNatClampNeg seed))), (a_isKept, .inl (cZ, 2, .inl (upd isKept p1.toNatClampNeg 1))), (a_now, .inl (cI, 13, .inl now))] := hD
      refine lv_iconst (v := 1) hx hb dX8_keep_72 (by decide) ?_
      rw [hQ]
      exact W.iret (v := 1) hx hb hr (fun t ht _ => ⟨⟨1, ⟨(upd images_15 ((14 * p1) + 13).toNatClampNeg seed), (upd isKept p1.toNatClampNeg 1), 0⟩, rfl, hw, by rw [ht]; exact hP, hD⟩, hS.F ht⟩) hS.2.2 dX8_keep_73
    generalize (wk_X8_keep_15 seed isKept p1 Φ) = K_15 at EX_15 hw
    have LP_15 : ∀ n : Nat, ∀ (images_15 : Nat → Int32) (x2_15 : Int32), ∀ (H : Heap) (locs : List Loc), va_P D vwCl [(a_this, .inr (8, [.int pay, .ref a_weathers, .ref a_hours, .ref a_fear, .int days, .ref a_dayWeather, .ref a_dayHour, .ref a_dayDanger, .ref a_now, .int seed, .ref a_text, .int texted, .int faultPlace, .int at0, .int number, .int numberAt, .ref a_readPay, .int readPersons, .ref a_readMarks, .ref a_readWeathers, .ref a_readHours, .ref a_readFear, .int readDays, .ref a_readWeather, .ref a_readHour, .ref a_readDanger, .int undos, .ref a_past, .ref a_morning, .ref a_sent, .int watched, .ref a_watchedDay, .ref a_watchedOut, .int booked, .ref a_bookWho, .ref a_bookMarks, .ref a_images, .ref a_isKept])), (a_images, .inl (cI, 28, .inl images_15)), (a_isKept, .inl (cZ, 2, .inl isKept)), (a_now, .inl (cI, 13, .inl now))] H → va_D A [(a_this, .inr (8, [.int pay, .ref a_weathers, .ref a_hours, .ref a_fear, .int days, .ref a_dayWeather, .ref a_dayHour, .ref a_dayDanger, .ref a_now, .int seed, .ref a_text, .int texted, .int faultPlace, .int at0, .int number, .int numberAt, .ref a_readPay, .int readPersons, .ref a_readMarks, .ref a_readWeathers, .ref a_readHours, .ref a_readFear, .int readDays, .ref a_readWeather, .ref a_readHour, .ref a_readDanger, .int undos, .ref a_past, .ref a_morning, .ref a_sent, .int watched, .ref a_watchedDay, .ref a_watchedOut, .int booked, .ref a_bookWho, .ref a_bookMarks, .ref a_images, .ref a_isKept])), (a_images, .inl (cI, 28, .inl images_15)), (a_isKept, .inl (cZ, 2, .inl isKept)), (a_now, .inl (cI, 13, .inl now))] → va_S A s.heap H locs → ∀ (ls : Array Slot), lv_has ls 3 [(0, .ref a_this), (1, .int p1), (2, .int x2_15)] → xit2 (wb_X8_keep_15 now p1 K_15) n images_15 x2_15 → W p l e xrm_X8_keep s m args below meth c H locs 0 0 Q (F0 m 15 ls []) := by
      intro n
      induction n with
      | zero => intro images_15 x2_15 H locs hP hD hS ls hl hw; exact (show False from hw).elim
      | succ n ih =>
        intro images_15 x2_15 H locs hP hD hS ls hl hw
        have hw : wb_X8_keep_15 now p1 K_15 (xit2 (wb_X8_keep_15 now p1 K_15) n) images_15 x2_15 := hw
        generalize xit2 (wb_X8_keep_15 now p1 K_15) n = rec_15 at ih hw
        unfold wb_X8_keep_15 at hw
        refine lv_iload_n hx hb dX8_keep_15 rfl (lv_at hl 2 rfl) ?_
        refine lv_bipush (v := 13) hx hb dX8_keep_16 (by decide) ?_
        refine lv_icmp_ge (tgt := 44) hx hb dX8_keep_18 (by decide) (fun c_18 => ?_) (fun c_18 => ?_)
        · have hw := hw.1 c_18
          exact EX_15 _ _ _ _ hP hD hS ls (lv_sub hl [0, 1, 2] rfl) hw
        · have hw := hw.2 c_18
          refine lv_aload_n hx hb dX8_keep_21 rfl (lv_at hl 0 rfl) ?_
          refine va_get (D := D) (ci := 8) (v := .ref a_images) (C := RX8) (T := TX8) (N := 38) hx hb hts hinX8 hown hKK.1 hP 0 rfl rfl 36 (by decide) fl_84 (fun _ h9 => h9) rfl dX8_keep_22 ?_
          refine lv_bipush (v := 14) hx hb dX8_keep_25 (by decide) ?_
          refine lv_iload_n hx hb dX8_keep_27 rfl (lv_at hl 1 rfl) ?_
          refine lv_imul hx hb dX8_keep_28 ?_
          refine lv_iload_n hx hb dX8_keep_29 rfl (lv_at hl 2 rfl) ?_
          refine lv_iadd hx hb dX8_keep_30 ?_
          refine lv_aload_n hx hb dX8_keep_31 rfl (lv_at hl 0 rfl) ?_
          refine va_get (D := D) (ci := 8) (v := .ref a_now) (C := RX8) (T := TX8) (N := 38) hx hb hts hinX8 hown hKK.1 hP 0 rfl rfl 8 (by decide) fl_28 (fun _ h9 => h9) rfl dX8_keep_32 ?_
          refine lv_iload_n hx hb dX8_keep_35 rfl (lv_at hl 2 rfl) ?_
          obtain ⟨hin, hw⟩ := hw
          refine va_iald hx hb hKK.1 hP 3 0 rfl rfl hin dX8_keep_36 ?_
          obtain ⟨hin, hw⟩ := hw
          refine va_iast hx hb hKK.1 hP hD hS 1 0 rfl rfl hin dX8_keep_37 (fun H locs hP hD hS => ?_)
          have hP : va_P D vwCl [(a_this, .inr (8, [.int pay, .ref a_weathers, .ref a_hours, .ref a_fear, .int days, .ref a_dayWeather, .ref a_dayHour, .ref a_dayDanger, .ref a_now, .int seed, .ref a_text, .int texted, .int faultPlace, .int at0, .int number, .int numberAt, .ref a_readPay, .int readPersons, .ref a_readMarks, .ref a_readWeathers, .ref a_readHours, .ref a_readFear, .int readDays, .ref a_readWeather, .ref a_readHour, .ref a_readDanger, .int undos, .ref a_past, .ref a_morning, .ref a_sent, .int watched, .ref a_watchedDay, .ref a_watchedOut, .int booked, .ref a_bookWho, .ref a_bookMarks, .ref a_images, .ref a_isKept])), (a_images, .inl (cI, 28, .inl (upd images_15 ((14 * p1) + x2_15).toNatClampNeg (now x2_15.toNatClampNeg)))), (a_isKept, .inl (cZ, 2, .inl isKept)), (a_now, .inl (cI, 13, .inl now))] H := hP
          have hD : va_D A [(a_this, .inr (8, [.int pay, .ref a_weathers, .ref a_hours, .ref a_fear, .int days, .ref a_dayWeather, .ref a_dayHour, .ref a_dayDanger, .ref a_now, .int seed, .ref a_text, .int texted, .int faultPlace, .int at0, .int number, .int numberAt, .ref a_readPay, .int readPersons, .ref a_readMarks, .ref a_readWeathers, .ref a_readHours, .ref a_readFear, .int readDays, .ref a_readWeather, .ref a_readHour, .ref a_readDanger, .int undos, .ref a_past, .ref a_morning, .ref a_sent, .int watched, .ref a_watchedDay, .ref a_watchedOut, .int booked, .ref a_bookWho, .ref a_bookMarks, .ref a_images, .ref a_isKept])), (a_images, .inl (cI, 28, .inl (upd images_15 ((14 * p1) + x2_15).toNatClampNeg (now x2_15.toNatClampNeg)))), (a_isKept, .inl (cZ, 2, .inl isKept)), (a_now, .inl (cI, 13, .inl now))] := hD
          refine lv_iinc (v := (x2_15 + 1)) (lv' := [(2, .int (x2_15 + 1)), (0, .ref a_this), (1, .int p1)]) hx hb dX8_keep_38 hl (k := 2) rfl (by rfl) (by decide) rfl (fun ls hl => ?_)
          refine lv_goto (tgt := 15) hx hb dX8_keep_41 (by decide) ?_
          exact ih _ _ _ _ hP hD hS ls (lv_sub hl [1, 2, 0] rfl) hw
    obtain ⟨n, hw⟩ := hw
    exact LP_15 n _ _ _ _ hP hD hS ls (lv_sub hl [1, 2, 0] rfl) hw
  · have hw := hw.1 c_7
    refine lv_ldc (v := (-1000000001)) hx hb hown (hts (.constant RX8 190 (-1000000001)) (by decide +kernel)) dX8_keep_10 ?_
    rw [hQ]
    exact W.iret (v := (-1000000001)) hx hb hr (fun t ht _ => ⟨⟨(-1000000001), ⟨images, isKept, undos⟩, rfl, hw, by rw [ht]; exact hP, hD⟩, hS.F ht⟩) hS.2.2 dX8_keep_12
def wk_X8_goBack_27 (images : Nat → Int32) (p1 : Int32) (Φ : Int32 → Int32 → Int32 → (Nat → Int32) → Prop) (now_27 : Nat → Int32) (x2_27 : Int32) : Prop :=
  (vp_in ((14 * p1) + 13) 28 ∧ (Φ 1 (images ((14 * p1) + 13).toNatClampNeg) 0 now_27))
def wb_X8_goBack_27 (images : Nat → Int32) (p1 : Int32) (K_27 : (Nat → Int32) → Int32 → Prop) (rec_27 : (Nat → Int32) → Int32 → Prop) (now_27 : Nat → Int32) (x2_27 : Int32) : Prop :=
  ((13 ≤ x2_27 → (K_27 now_27 x2_27)) ∧ (¬ 13 ≤ x2_27 → (vp_in ((14 * p1) + x2_27) 28 ∧ (vp_in x2_27 13 ∧ (rec_27 (upd now_27 x2_27.toNatClampNeg (images ((14 * p1) + x2_27).toNatClampNeg)) (x2_27 + 1))))))
def wp_X8_goBack (seed : Int32) (undos : Int32) (isKept : Nat → Int32) (images : Nat → Int32) (now : Nat → Int32) (p1 : Int32) (Φ : Int32 → Int32 → Int32 → (Nat → Int32) → Prop) : Prop :=
  (wp_X8_in (p1).toInt64 0 1 (fun r_4 => ((r_4 = 0 → (Φ (-1000000001) seed undos now)) ∧ (¬ r_4 = 0 → (vp_in p1 2 ∧ (((isKept p1.toNatClampNeg) = 0 → (Φ (-1000000003) seed undos now)) ∧ (¬ (isKept p1.toNatClampNeg) = 0 → (∃ n : Nat, xit2 (wb_X8_goBack_27 images p1 (wk_X8_goBack_27 images p1 Φ)) n now 0))))))))
abbrev xrm_X8_goBack : Room := { frames := 1, cells := 0, slots := 0, locals := 25 }
set_option maxRecDepth 100000 in
set_option maxHeartbeats 4000000 in
theorem c_X8_goBack (l : Launch) (D : va_G) (cI cZ cO : ClassId) {pay : Int32} {a_weathers : Nat} {a_hours : Nat} {a_fear : Nat} {days : Int32} {a_dayWeather : Nat} {a_dayHour : Nat} {a_dayDanger : Nat} {a_now : Nat} {seed : Int32} {a_text : Nat} {texted : Int32} {faultPlace : Int32} {at0 : Int32} {number : Int32} {numberAt : Int32} {a_readPay : Nat} {readPersons : Int32} {a_readMarks : Nat} {a_readWeathers : Nat} {a_readHours : Nat} {a_readFear : Nat} {readDays : Int32} {a_readWeather : Nat} {a_readHour : Nat} {a_readDanger : Nat} {undos : Int32} {a_past : Nat} {a_morning : Nat} {a_sent : Nat} {watched : Int32} {a_watchedDay : Nat} {a_watchedOut : Nat} {booked : Int32} {a_bookWho : Nat} {a_bookMarks : Nat} {a_images : Nat} {a_isKept : Nat} {a_this : Nat} {isKept : Nat → Int32} {images : Nat → Int32} {now : Nat → Int32} {p1 : Int32} {Φ : Int32 → Int32 → Int32 → (Nat → Int32) → Prop} {sz : Nat} (hw : (wp_X8_goBack seed undos isKept images now p1 Φ)) : Met l yX8_goBack wsX8_goBack xrm_X8_goBack (xPW D cI cZ cO [.ref a_this, .int p1] sz [(a_this, .inr (8, [.int pay, .ref a_weathers, .ref a_hours, .ref a_fear, .int days, .ref a_dayWeather, .ref a_dayHour, .ref a_dayDanger, .ref a_now, .int seed, .ref a_text, .int texted, .int faultPlace, .int at0, .int number, .int numberAt, .ref a_readPay, .int readPersons, .ref a_readMarks, .ref a_readWeathers, .ref a_readHours, .ref a_readFear, .int readDays, .ref a_readWeather, .ref a_readHour, .ref a_readDanger, .int undos, .ref a_past, .ref a_morning, .ref a_sent, .int watched, .ref a_watchedDay, .ref a_watchedOut, .int booked, .ref a_bookWho, .ref a_bookMarks, .ref a_images, .ref a_isKept])), (a_isKept, .inl (cZ, 2, .inl isKept)), (a_images, .inl (cI, 28, .inl images)), (a_now, .inl (cI, 13, .inl now))]) (va_Qi (fun (r : Int32) (u : Int32 × Int32 × (Nat → Int32)) => Φ r u.1 u.2.1 u.2.2) (xB D (va_A [(a_this, .inr (8, [.int pay, .ref a_weathers, .ref a_hours, .ref a_fear, .int days, .ref a_dayWeather, .ref a_dayHour, .ref a_dayDanger, .ref a_now, .int seed, .ref a_text, .int texted, .int faultPlace, .int at0, .int number, .int numberAt, .ref a_readPay, .int readPersons, .ref a_readMarks, .ref a_readWeathers, .ref a_readHours, .ref a_readFear, .int readDays, .ref a_readWeather, .ref a_readHour, .ref a_readDanger, .int undos, .ref a_past, .ref a_morning, .ref a_sent, .int watched, .ref a_watchedDay, .ref a_watchedOut, .int booked, .ref a_bookWho, .ref a_bookMarks, .ref a_images, .ref a_isKept])), (a_isKept, .inl (cZ, 2, .inl isKept)), (a_images, .inl (cI, 28, .inl images)), (a_now, .inl (cI, 13, .inl now))] sz) (fun (u : Int32 × Int32 × (Nat → Int32)) => [(a_this, .inr (8, [.int pay, .ref a_weathers, .ref a_hours, .ref a_fear, .int days, .ref a_dayWeather, .ref a_dayHour, .ref a_dayDanger, .ref a_now, .int u.1, .ref a_text, .int texted, .int faultPlace, .int at0, .int number, .int numberAt, .ref a_readPay, .int readPersons, .ref a_readMarks, .ref a_readWeathers, .ref a_readHours, .ref a_readFear, .int readDays, .ref a_readWeather, .ref a_readHour, .ref a_readDanger, .int u.2.1, .ref a_past, .ref a_morning, .ref a_sent, .int watched, .ref a_watchedDay, .ref a_watchedOut, .int booked, .ref a_bookWho, .ref a_bookMarks, .ref a_images, .ref a_isKept])), (a_isKept, .inl (cZ, 2, .inl isKept)), (a_images, .inl (cI, 28, .inl images)), (a_now, .inl (cI, 13, .inl u.2.2))])) (va_A [(a_this, .inr (8, [.int pay, .ref a_weathers, .ref a_hours, .ref a_fear, .int days, .ref a_dayWeather, .ref a_dayHour, .ref a_dayDanger, .ref a_now, .int seed, .ref a_text, .int texted, .int faultPlace, .int at0, .int number, .int numberAt, .ref a_readPay, .int readPersons, .ref a_readMarks, .ref a_readWeathers, .ref a_readHours, .ref a_readFear, .int readDays, .ref a_readWeather, .ref a_readHour, .ref a_readDanger, .int undos, .ref a_past, .ref a_morning, .ref a_sent, .int watched, .ref a_watchedDay, .ref a_watchedOut, .int booked, .ref a_bookWho, .ref a_bookMarks, .ref a_images, .ref a_isKept])), (a_isKept, .inl (cZ, 2, .inl isKept)), (a_images, .inl (cI, 28, .inl images)), (a_now, .inl (cI, 13, .inl now))] sz)) 0 0 (va_A [(a_this, .inr (8, [.int pay, .ref a_weathers, .ref a_hours, .ref a_fear, .int days, .ref a_dayWeather, .ref a_dayHour, .ref a_dayDanger, .ref a_now, .int seed, .ref a_text, .int texted, .int faultPlace, .int at0, .int number, .int numberAt, .ref a_readPay, .int readPersons, .ref a_readMarks, .ref a_readWeathers, .ref a_readHours, .ref a_readFear, .int readDays, .ref a_readWeather, .ref a_readHour, .ref a_readDanger, .int undos, .ref a_past, .ref a_morning, .ref a_sent, .int watched, .ref a_watchedDay, .ref a_watchedOut, .int booked, .ref a_bookWho, .ref a_bookMarks, .ref a_images, .ref a_isKept])), (a_isKept, .inl (cZ, 2, .inl isKept)), (a_images, .inl (cI, 28, .inl images)), (a_now, .inl (cI, 13, .inl now))] sz) := by
  refine Met.ofW (cc := cX8_goBack) (maxL := 3) (ret := (some .int)) (by decide) rfl ?_
  intro p e s m args below meth c s₁ B hml hv
  obtain ⟨rfl, hsz, hP, hKK, hD0⟩ := hv
  have hx := B.exec
  have hb := B.bytes
  have hr := B.returns
  have hts := atoms_spec (ws := wsX8_goBack) B.pre
  have hown : s.vm.findClass RX8 = some m.cls := findClass_of_methodNamed B.named
  have hlocks := B.notSynchronized
  subst hsz
  have hD := hD0.self (sz := s.heap.size)
  obtain ⟨Q, hQ⟩ : ∃ Q, Q = MQ below (va_Qi (fun (r : Int32) (u : Int32 × Int32 × (Nat → Int32)) => Φ r u.1 u.2.1 u.2.2) (xB D (va_A [(a_this, .inr (8, [.int pay, .ref a_weathers, .ref a_hours, .ref a_fear, .int days, .ref a_dayWeather, .ref a_dayHour, .ref a_dayDanger, .ref a_now, .int seed, .ref a_text, .int texted, .int faultPlace, .int at0, .int number, .int numberAt, .ref a_readPay, .int readPersons, .ref a_readMarks, .ref a_readWeathers, .ref a_readHours, .ref a_readFear, .int readDays, .ref a_readWeather, .ref a_readHour, .ref a_readDanger, .int undos, .ref a_past, .ref a_morning, .ref a_sent, .int watched, .ref a_watchedDay, .ref a_watchedOut, .int booked, .ref a_bookWho, .ref a_bookMarks, .ref a_images, .ref a_isKept])), (a_isKept, .inl (cZ, 2, .inl isKept)), (a_images, .inl (cI, 28, .inl images)), (a_now, .inl (cI, 13, .inl now))] s.heap.size) (fun (u : Int32 × Int32 × (Nat → Int32)) => [(a_this, .inr (8, [.int pay, .ref a_weathers, .ref a_hours, .ref a_fear, .int days, .ref a_dayWeather, .ref a_dayHour, .ref a_dayDanger, .ref a_now, .int u.1, .ref a_text, .int texted, .int faultPlace, .int at0, .int number, .int numberAt, .ref a_readPay, .int readPersons, .ref a_readMarks, .ref a_readWeathers, .ref a_readHours, .ref a_readFear, .int readDays, .ref a_readWeather, .ref a_readHour, .ref a_readDanger, .int u.2.1, .ref a_past, .ref a_morning, .ref a_sent, .int watched, .ref a_watchedDay, .ref a_watchedOut, .int booked, .ref a_bookWho, .ref a_bookMarks, .ref a_images, .ref a_isKept])), (a_isKept, .inl (cZ, 2, .inl isKept)), (a_images, .inl (cI, 28, .inl images)), (a_now, .inl (cI, 13, .inl u.2.2))])) (va_A [(a_this, .inr (8, [.int pay, .ref a_weathers, .ref a_hours, .ref a_fear, .int days, .ref a_dayWeather, .ref a_dayHour, .ref a_dayDanger, .ref a_now, .int seed, .ref a_text, .int texted, .int faultPlace, .int at0, .int number, .int numberAt, .ref a_readPay, .int readPersons, .ref a_readMarks, .ref a_readWeathers, .ref a_readHours, .ref a_readFear, .int readDays, .ref a_readWeather, .ref a_readHour, .ref a_readDanger, .int undos, .ref a_past, .ref a_morning, .ref a_sent, .int watched, .ref a_watchedDay, .ref a_watchedOut, .int booked, .ref a_bookWho, .ref a_bookMarks, .ref a_images, .ref a_isKept])), (a_isKept, .inl (cZ, 2, .inl isKept)), (a_images, .inl (cI, 28, .inl images)), (a_now, .inl (cI, 13, .inl now))] s.heap.size)) ([.ref a_this, .int p1] : List Value).toArray s 0 0 (va_A [(a_this, .inr (8, [.int pay, .ref a_weathers, .ref a_hours, .ref a_fear, .int days, .ref a_dayWeather, .ref a_dayHour, .ref a_dayDanger, .ref a_now, .int seed, .ref a_text, .int texted, .int faultPlace, .int at0, .int number, .int numberAt, .ref a_readPay, .int readPersons, .ref a_readMarks, .ref a_readWeathers, .ref a_readHours, .ref a_readFear, .int readDays, .ref a_readWeather, .ref a_readHour, .ref a_readDanger, .int undos, .ref a_past, .ref a_morning, .ref a_sent, .int watched, .ref a_watchedDay, .ref a_watchedOut, .int booked, .ref a_bookWho, .ref a_bookMarks, .ref a_images, .ref a_isKept])), (a_isKept, .inl (cZ, 2, .inl isKept)), (a_images, .inl (cI, 28, .inl images)), (a_now, .inl (cI, 13, .inl now))] s.heap.size) := ⟨_, rfl⟩
  rw [← hQ]
  generalize hAe : va_A [(a_this, .inr (8, [.int pay, .ref a_weathers, .ref a_hours, .ref a_fear, .int days, .ref a_dayWeather, .ref a_dayHour, .ref a_dayDanger, .ref a_now, .int seed, .ref a_text, .int texted, .int faultPlace, .int at0, .int number, .int numberAt, .ref a_readPay, .int readPersons, .ref a_readMarks, .ref a_readWeathers, .ref a_readHours, .ref a_readFear, .int readDays, .ref a_readWeather, .ref a_readHour, .ref a_readDanger, .int undos, .ref a_past, .ref a_morning, .ref a_sent, .int watched, .ref a_watchedDay, .ref a_watchedOut, .int booked, .ref a_bookWho, .ref a_bookMarks, .ref a_images, .ref a_isKept])), (a_isKept, .inl (cZ, 2, .inl isKept)), (a_images, .inl (cI, 28, .inl images)), (a_now, .inl (cI, 13, .inl now))] s.heap.size = A at hD hQ
  have hA : ∀ q : Nat, s.heap.size ≤ q → A q := fun q h => by rw [← hAe]; exact Or.inr h
  have hS : va_S A s.heap s.heap [] := va_S.rf
  have hl := lv_entry ([.ref a_this, .int p1]) (n := 3) (Nat.le_of_ble_eq_true rfl)
  rw [lg_entry_eq]
  generalize (lg_sl ([.ref a_this, .int p1]) ++ List.replicate (3 - (lg_sl ([.ref a_this, .int p1])).length) Slot.unset).toArray = ls at hl ⊢
  have hl : lv_has ls 3 [(0, .ref a_this), (1, .int p1)] := hl
  generalize ([.ref a_this, .int p1] : List Value).toArray = args at hts hQ ⊢
  have hP : va_P D vwCl [(a_this, .inr (8, [.int pay, .ref a_weathers, .ref a_hours, .ref a_fear, .int days, .ref a_dayWeather, .ref a_dayHour, .ref a_dayDanger, .ref a_now, .int seed, .ref a_text, .int texted, .int faultPlace, .int at0, .int number, .int numberAt, .ref a_readPay, .int readPersons, .ref a_readMarks, .ref a_readWeathers, .ref a_readHours, .ref a_readFear, .int readDays, .ref a_readWeather, .ref a_readHour, .ref a_readDanger, .int undos, .ref a_past, .ref a_morning, .ref a_sent, .int watched, .ref a_watchedDay, .ref a_watchedOut, .int booked, .ref a_bookWho, .ref a_bookMarks, .ref a_images, .ref a_isKept])), (a_isKept, .inl (cZ, 2, .inl isKept)), (a_images, .inl (cI, 28, .inl images)), (a_now, .inl (cI, 13, .inl now))] s.heap := hP
  have hinX8 : ∀ w ∈ u_ws RX8 TX8 38, w ∈ wsX8_goBack := by decide +kernel
  have fl_28 := hts (.fieldLink RX8 28 "DoubleChainModel" "now" "[I") (by decide +kernel)
  have fl_84 := hts (.fieldLink RX8 84 "DoubleChainModel" "images" "[I") (by decide +kernel)
  have fl_87 := hts (.fieldLink RX8 87 "DoubleChainModel" "isKept" "[Z") (by decide +kernel)
  have fl_163 := hts (.fieldLink RX8 163 "DoubleChainModel" "undos" "I") (by decide +kernel)
  have fl_216 := hts (.fieldLink RX8 216 "DoubleChainModel" "seed" "I") (by decide +kernel)
  clear B
  show W p l e xrm_X8_goBack s m args below meth c s.heap [] 0 0 Q (F0 m 0 ls [])
  unfold wp_X8_goBack at hw
  refine lv_iload_n hx hb dX8_goBack_0 rfl (lv_at hl 1 rfl) ?_
  refine lv_i2l (v := (p1).toInt64) hx hb dX8_goBack_1 rfl ?_
  refine lv_lconst (v := 0) hx hb dX8_goBack_2 (by decide) ?_
  refine lv_lconst (v := 1) hx hb dX8_goBack_3 (by decide) ?_
  refine xcSi (As := [.long (p1).toInt64, .long 0, .long 1]) (rest := []) (wc := []) ⟨hx, hb, hml, hown, hts⟩ (c_X8_in l D cI cZ cO hw) (va_cwS 3 hts gX8_goBack_X8_in rfl rfl rfl (by decide +kernel) ⟨Nat.le_of_ble_eq_true rfl, Nat.le_of_ble_eq_true rfl⟩) hKK hP [] rfl rfl hl.1 rfl (Nat.le_of_ble_eq_true rfl) dX8_goBack_4 ⟨Nat.zero_le _, Nat.zero_le _⟩ (fun r_4 hw => ?_)
  refine lv_if_ne (tgt := 13) hx hb dX8_goBack_7 (by decide) (fun c_7 => ?_) (fun c_7 => ?_)
  · have hw := hw.2 c_7
    refine lv_aload_n hx hb dX8_goBack_13 rfl (lv_at hl 0 rfl) ?_
    refine va_get (D := D) (ci := 8) (v := .ref a_isKept) (C := RX8) (T := TX8) (N := 38) hx hb hts hinX8 hown hKK.1 hP 0 rfl rfl 37 (by decide) fl_87 (fun _ h9 => h9) rfl dX8_goBack_14 ?_
    refine lv_iload_n hx hb dX8_goBack_17 rfl (lv_at hl 1 rfl) ?_
    obtain ⟨hin, hw⟩ := hw
    refine va_zald hx hb hKK.1 hP 1 1 rfl rfl hin dX8_goBack_18 ?_
    refine lv_if_ne (tgt := 25) hx hb dX8_goBack_19 (by decide) (fun c_19 => ?_) (fun c_19 => ?_)
    · have hw := hw.2 c_19
      refine lv_iconst (v := 0) hx hb dX8_goBack_25 (by decide) ?_
      refine lv_istore_n (lv' := [(2, .int 0), (0, .ref a_this), (1, .int p1)]) hx hb dX8_goBack_26 rfl hl (by decide) rfl (fun ls hl => ?_)
      have EX_27 : ∀ (now_27 : Nat → Int32) (x2_27 : Int32), ∀ (H : Heap) (locs : List Loc), va_P D vwCl [(a_this, .inr (8, [.int pay, .ref a_weathers, .ref a_hours, .ref a_fear, .int days, .ref a_dayWeather, .ref a_dayHour, .ref a_dayDanger, .ref a_now, .int seed, .ref a_text, .int texted, .int faultPlace, .int at0, .int number, .int numberAt, .ref a_readPay, .int readPersons, .ref a_readMarks, .ref a_readWeathers, .ref a_readHours, .ref a_readFear, .int readDays, .ref a_readWeather, .ref a_readHour, .ref a_readDanger, .int undos, .ref a_past, .ref a_morning, .ref a_sent, .int watched, .ref a_watchedDay, .ref a_watchedOut, .int booked, .ref a_bookWho, .ref a_bookMarks, .ref a_images, .ref a_isKept])), (a_isKept, .inl (cZ, 2, .inl isKept)), (a_images, .inl (cI, 28, .inl images)), (a_now, .inl (cI, 13, .inl now_27))] H → va_D A [(a_this, .inr (8, [.int pay, .ref a_weathers, .ref a_hours, .ref a_fear, .int days, .ref a_dayWeather, .ref a_dayHour, .ref a_dayDanger, .ref a_now, .int seed, .ref a_text, .int texted, .int faultPlace, .int at0, .int number, .int numberAt, .ref a_readPay, .int readPersons, .ref a_readMarks, .ref a_readWeathers, .ref a_readHours, .ref a_readFear, .int readDays, .ref a_readWeather, .ref a_readHour, .ref a_readDanger, .int undos, .ref a_past, .ref a_morning, .ref a_sent, .int watched, .ref a_watchedDay, .ref a_watchedOut, .int booked, .ref a_bookWho, .ref a_bookMarks, .ref a_images, .ref a_isKept])), (a_isKept, .inl (cZ, 2, .inl isKept)), (a_images, .inl (cI, 28, .inl images)), (a_now, .inl (cI, 13, .inl now_27))] → va_S A s.heap H locs → ∀ (ls : Array Slot), lv_has ls 3 [(0, .ref a_this), (1, .int p1), (2, .int x2_27)] → (wk_X8_goBack_27 images p1 Φ now_27 x2_27) → W p l e xrm_X8_goBack s m args below meth c H locs 0 0 Q (F0 m 56 ls []) := by
        intro now_27 x2_27 H locs hP hD hS ls hl hw
        unfold wk_X8_goBack_27 at hw
        refine lv_aload_n hx hb dX8_goBack_56 rfl (lv_at hl 0 rfl) ?_
        refine lv_aload_n hx hb dX8_goBack_57 rfl (lv_at hl 0 rfl) ?_
        refine va_get (D := D) (ci := 8) (v := .ref a_images) (C := RX8) (T := TX8) (N := 38) hx hb hts hinX8 hown hKK.1 hP 0 rfl rfl 36 (by decide) fl_84 (fun _ h9 => h9) rfl dX8_goBack_58 ?_
        refine lv_bipush (v := 14) hx hb dX8_goBack_61 (by decide) ?_
        refine lv_iload_n hx hb dX8_goBack_63 rfl (lv_at hl 1 rfl) ?_
        refine lv_imul hx hb dX8_goBack_64 ?_
        refine lv_bipush (v := 13) hx hb dX8_goBack_65 (by decide) ?_
        refine lv_iadd hx hb dX8_goBack_67 ?_
        obtain ⟨hin, hw⟩ := hw
        refine va_iald hx hb hKK.1 hP 2 0 rfl rfl hin dX8_goBack_68 ?_
        refine va_put (D := D) (ci := 8) (v := .int (images ((14 * p1) + 13).toNatClampNeg)) (ty := .int) (C := RX8) (T := TX8) (N := 38) hx hb hts hinX8 tyX8 tyX8_ok nmX8 hown hKK.1 hP hD hS 0 rfl rfl 9 (by decide) fl_216 (fun _ h9 => h9) rfl (by decide +kernel) rfl rfl (Nat.le_of_ble_eq_true rfl) dX8_goBack_69 (fun H locs hP hD hS => ?_)
        have hP : va_P D vwCl [(a_this, .inr (8, [.int pay, .ref a_weathers, .ref a_hours, .ref a_fear, .int days, .ref a_dayWeather, .ref a_dayHour, .ref a_dayDanger, .ref a_now, .int (images ((14 * p1) + 13).toNatClampNeg), .ref a_text, .int texted, .int faultPlace, .int at0, .int number, .int numberAt, .ref a_readPay, .int readPersons, .ref a_readMarks, .ref a_readWeathers, .ref a_readHours, .ref a_readFear, .int readDays, .ref a_readWeather, .ref a_readHour, .ref a_readDanger, .int undos, .ref a_past, .ref a_morning, .ref a_sent, .int watched, .ref a_watchedDay, .ref a_watchedOut, .int booked, .ref a_bookWho, .ref a_bookMarks, .ref a_images, .ref a_isKept])), (a_isKept, .inl (cZ, 2, .inl isKept)), (a_images, .inl (cI, 28, .inl images)), (a_now, .inl (cI, 13, .inl now_27))] H := hP
        have hD : va_D A [(a_this, .inr (8, [.int pay, .ref a_weathers, .ref a_hours, .ref a_fear, .int days, .ref a_dayWeather, .ref a_dayHour, .ref a_dayDanger, .ref a_now, .int (images ((14 * p1) + 13).toNatClampNeg), .ref a_text, .int texted, .int faultPlace, .int at0, .int number, .int numberAt, .ref a_readPay, .int readPersons, .ref a_readMarks, .ref a_readWeathers, .ref a_readHours, .ref a_readFear, .int readDays, .ref a_readWeather, .ref a_readHour, .ref a_readDanger, .int undos, .ref a_past, .ref a_morning, .ref a_sent, .int watched, .ref a_watchedDay, .ref a_watchedOut, .int booked, .ref a_bookWho, .ref a_bookMarks, .ref a_images, .ref a_isKept])), (a_isKept, .inl (cZ, 2, .inl isKept)), (a_images, .inl (cI, 28, .inl images)), (a_now, .inl (cI, 13, .inl now_27))] := hD
        refine lv_aload_n hx hb dX8_goBack_72 rfl (lv_at hl 0 rfl) ?_
        refine lv_iconst (v := 0) hx hb dX8_goBack_73 (by decide) ?_
        refine va_put (D := D) (ci := 8) (v := .int 0) (ty := .int) (C := RX8) (T := TX8) (N := 38) hx hb hts hinX8 tyX8 tyX8_ok nmX8 hown hKK.1 hP hD hS 0 rfl rfl 26 (by decide) fl_163 (fun _ h9 => h9) rfl (by decide +kernel) rfl rfl (Nat.le_of_ble_eq_true rfl) dX8_goBack_74 (fun H locs hP hD hS => ?_)
        have hP : va_P D vwCl [(a_this, .inr (8, [.int pay, .ref a_weathers, .ref a_hours, .ref a_fear, .int days, .ref a_dayWeather, .ref a_dayHour, .ref a_dayDanger, .ref a_now, .int (images ((14 * p1) + 13).toNatClampNeg), .ref a_text, .int texted, .int faultPlace, .int at0, .int number, .int numberAt, .ref a_readPay, .int readPersons, .ref a_readMarks, .ref a_readWeathers, .ref a_readHours, .ref a_readFear, .int readDays, .ref a_readWeather, .ref a_readHour, .ref a_readDanger, .int 0, .ref a_past, .ref a_morning, .ref a_sent, .int watched, .ref a_watchedDay, .ref a_watchedOut, .int booked, .ref a_bookWho, .ref a_bookMarks, .ref a_images, .ref a_isKept])), (a_isKept, .inl (cZ, 2, .inl isKept)), (a_images, .inl (cI, 28, .inl images)), (a_now, .inl (cI, 13, .inl now_27))] H := hP
        have hD : va_D A [(a_this, .inr (8, [.int pay, .ref a_weathers, .ref a_hours, .ref a_fear, .int days, .ref a_dayWeather, .ref a_dayHour, .ref a_dayDanger, .ref a_now, .int (images ((14 * p1) + 13).toNatClampNeg), .ref a_text, .int texted, .int faultPlace, .int at0, .int number, .int numberAt, .ref a_readPay, .int readPersons, .ref a_readMarks, .ref a_readWeathers, .ref a_readHours, .ref a_readFear, .int readDays, .ref a_readWeather, .ref a_readHour, .ref a_readDanger, .int 0, .ref a_past, .ref a_morning, .ref a_sent, .int watched, .ref a_watchedDay, .ref a_watchedOut, .int booked, .ref a_bookWho, .ref a_bookMarks, .ref a_images, .ref a_isKept])), (a_isKept, .inl (cZ, 2, .inl isKept)), (a_images, .inl (cI, 28, .inl images)), (a_now, .inl (cI, 13, .inl now_27))] := hD
        refine lv_iconst (v := 1) hx hb dX8_goBack_77 (by decide) ?_
        rw [hQ]
        exact W.iret (v := 1) hx hb hr (fun t ht _ => ⟨⟨1, ⟨(images ((14 * p1) + 13).toNatClampNeg), 0, now_27⟩, rfl, hw, by rw [ht]; exact hP, hD⟩, hS.F ht⟩) hS.2.2 dX8_goBack_78
      generalize (wk_X8_goBack_27 images p1 Φ) = K_27 at EX_27 hw
      have LP_27 : ∀ n : Nat, ∀ (now_27 : Nat → Int32) (x2_27 : Int32), ∀ (H : Heap) (locs : List Loc), va_P D vwCl [(a_this, .inr (8, [.int pay, .ref a_weathers, .ref a_hours, .ref a_fear, .int days, .ref a_dayWeather, .ref a_dayHour, .ref a_dayDanger, .ref a_now, .int seed, .ref a_text, .int texted, .int faultPlace, .int at0, .int number, .int numberAt, .ref a_readPay, .int readPersons, .ref a_readMarks, .ref a_readWeathers, .ref a_readHours, .ref a_readFear, .int readDays, .ref a_readWeather, .ref a_readHour, .ref a_readDanger, .int undos, .ref a_past, .ref a_morning, .ref a_sent, .int watched, .ref a_watchedDay, .ref a_watchedOut, .int booked, .ref a_bookWho, .ref a_bookMarks, .ref a_images, .ref a_isKept])), (a_isKept, .inl (cZ, 2, .inl isKept)), (a_images, .inl (cI, 28, .inl images)), (a_now, .inl (cI, 13, .inl now_27))] H → va_D A [(a_this, .inr (8, [.int pay, .ref a_weathers, .ref a_hours, .ref a_fear, .int days, .ref a_dayWeather, .ref a_dayHour, .ref a_dayDanger, .ref a_now, .int seed, .ref a_text, .int texted, .int faultPlace, .int at0, .int number, .int numberAt, .ref a_readPay, .int readPersons, .ref a_readMarks, .ref a_readWeathers, .ref a_readHours, .ref a_readFear, .int readDays, .ref a_readWeather, .ref a_readHour, .ref a_readDanger, .int undos, .ref a_past, .ref a_morning, .ref a_sent, .int watched, .ref a_watchedDay, .ref a_watchedOut, .int booked, .ref a_bookWho, .ref a_bookMarks, .ref a_images, .ref a_isKept])), (a_isKept, .inl (cZ, 2, .inl isKept)), (a_images, .inl (cI, 28, .inl images)), (a_now, .inl (cI, 13, .inl now_27))] → va_S A s.heap H locs → ∀ (ls : Array Slot), lv_has ls 3 [(0, .ref a_this), (1, .int p1), (2, .int x2_27)] → xit2 (wb_X8_goBack_27 images p1 K_27) n now_27 x2_27 → W p l e xrm_X8_goBack s m args below meth c H locs 0 0 Q (F0 m 27 ls []) := by
        intro n
        induction n with
        | zero => intro now_27 x2_27 H locs hP hD hS ls hl hw; exact (show False from hw).elim
        | succ n ih =>
          intro now_27 x2_27 H locs hP hD hS ls hl hw
          have hw : wb_X8_goBack_27 images p1 K_27 (xit2 (wb_X8_goBack_27 images p1 K_27) n) now_27 x2_27 := hw
          generalize xit2 (wb_X8_goBack_27 images p1 K_27) n = rec_27 at ih hw
          unfold wb_X8_goBack_27 at hw
          refine lv_iload_n hx hb dX8_goBack_27 rfl (lv_at hl 2 rfl) ?_
          refine lv_bipush (v := 13) hx hb dX8_goBack_28 (by decide) ?_
          refine lv_icmp_ge (tgt := 56) hx hb dX8_goBack_30 (by decide) (fun c_30 => ?_) (fun c_30 => ?_)
          · have hw := hw.1 c_30
            exact EX_27 _ _ _ _ hP hD hS ls (lv_sub hl [0, 1, 2] rfl) hw
          · have hw := hw.2 c_30
            refine lv_aload_n hx hb dX8_goBack_33 rfl (lv_at hl 0 rfl) ?_
            refine va_get (D := D) (ci := 8) (v := .ref a_now) (C := RX8) (T := TX8) (N := 38) hx hb hts hinX8 hown hKK.1 hP 0 rfl rfl 8 (by decide) fl_28 (fun _ h9 => h9) rfl dX8_goBack_34 ?_
            refine lv_iload_n hx hb dX8_goBack_37 rfl (lv_at hl 2 rfl) ?_
            refine lv_aload_n hx hb dX8_goBack_38 rfl (lv_at hl 0 rfl) ?_
            refine va_get (D := D) (ci := 8) (v := .ref a_images) (C := RX8) (T := TX8) (N := 38) hx hb hts hinX8 hown hKK.1 hP 0 rfl rfl 36 (by decide) fl_84 (fun _ h9 => h9) rfl dX8_goBack_39 ?_
            refine lv_bipush (v := 14) hx hb dX8_goBack_42 (by decide) ?_
            refine lv_iload_n hx hb dX8_goBack_44 rfl (lv_at hl 1 rfl) ?_
            refine lv_imul hx hb dX8_goBack_45 ?_
            refine lv_iload_n hx hb dX8_goBack_46 rfl (lv_at hl 2 rfl) ?_
            refine lv_iadd hx hb dX8_goBack_47 ?_
            obtain ⟨hin, hw⟩ := hw
            refine va_iald hx hb hKK.1 hP 2 0 rfl rfl hin dX8_goBack_48 ?_
            obtain ⟨hin, hw⟩ := hw
            refine va_iast hx hb hKK.1 hP hD hS 3 0 rfl rfl hin dX8_goBack_49 (fun H locs hP hD hS => ?_)
            have hP : va_P D vwCl [(a_this, .inr (8, [.int pay, .ref a_weathers, .ref a_hours, .ref a_fear, .int days, .ref a_dayWeather, .ref a_dayHour, .ref a_dayDanger, .ref a_now, .int seed, .ref a_text, .int texted, .int faultPlace, .int at0, .int number, .int numberAt, .ref a_readPay, .int readPersons, .ref a_readMarks, .ref a_readWeathers, .ref a_readHours, .ref a_readFear, .int readDays, .ref a_readWeather, .ref a_readHour, .ref a_readDanger, .int undos, .ref a_past, .ref a_morning, .ref a_sent, .int watched, .ref a_watchedDay, .ref a_watchedOut, .int booked, .ref a_bookWho, .ref a_bookMarks, .ref a_images, .ref a_isKept])), (a_isKept, .inl (cZ, 2, .inl isKept)), (a_images, .inl (cI, 28, .inl images)), (a_now, .inl (cI, 13, .inl (upd now_27 x2_27.toNatClampNeg (images ((14 * p1) + x2_27).toNatClampNeg))))] H := hP
            have hD : va_D A [(a_this, .inr (8, [.int pay, .ref a_weathers, .ref a_hours, .ref a_fear, .int days, .ref a_dayWeather, .ref a_dayHour, .ref a_dayDanger, .ref a_now, .int seed, .ref a_text, .int texted, .int faultPlace, .int at0, .int number, .int numberAt, .ref a_readPay, .int readPersons, .ref a_readMarks, .ref a_readWeathers, .ref a_readHours, .ref a_readFear, .int readDays, .ref a_readWeather, .ref a_readHour, .ref a_readDanger, .int undos, .ref a_past, .ref a_morning, .ref a_sent, .int watched, .ref a_watchedDay, .ref a_watchedOut, .int booked, .ref a_bookWho, .ref a_bookMarks, .ref a_images, .ref a_isKept])), (a_isKept, .inl (cZ, 2, .inl isKept)), (a_images, .inl (cI, 28, .inl images)), (a_now, .inl (cI, 13, .inl (upd now_27 x2_27.toNatClampNeg (images ((14 * p1) + x2_27).toNatClampNeg))))] := hD
            refine lv_iinc (v := (x2_27 + 1)) (lv' := [(2, .int (x2_27 + 1)), (0, .ref a_this), (1, .int p1)]) hx hb dX8_goBack_50 hl (k := 2) rfl (by rfl) (by decide) rfl (fun ls hl => ?_)
            refine lv_goto (tgt := 27) hx hb dX8_goBack_53 (by decide) ?_
            exact ih _ _ _ _ hP hD hS ls (lv_sub hl [1, 2, 0] rfl) hw
      obtain ⟨n, hw⟩ := hw
      exact LP_27 n _ _ _ _ hP hD hS ls (lv_sub hl [1, 2, 0] rfl) hw
    · have hw := hw.1 c_19
      refine lv_ldc (v := (-1000000003)) hx hb hown (hts (.constant RX8 203 (-1000000003)) (by decide +kernel)) dX8_goBack_22 ?_
      rw [hQ]
      exact W.iret (v := (-1000000003)) hx hb hr (fun t ht _ => ⟨⟨(-1000000003), ⟨seed, undos, now⟩, rfl, hw, by rw [ht]; exact hP, hD⟩, hS.F ht⟩) hS.2.2 dX8_goBack_24
  · have hw := hw.1 c_7
    refine lv_ldc (v := (-1000000001)) hx hb hown (hts (.constant RX8 190 (-1000000001)) (by decide +kernel)) dX8_goBack_10 ?_
    rw [hQ]
    exact W.iret (v := (-1000000001)) hx hb hr (fun t ht _ => ⟨⟨(-1000000001), ⟨seed, undos, now⟩, rfl, hw, by rw [ht]; exact hP, hD⟩, hS.F ht⟩) hS.2.2 dX8_goBack_12
