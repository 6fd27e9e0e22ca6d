def wk_X8_drift_18 (Φ : Int32 → Int32 → (Nat → Int32) → Int32 → (Nat → Int32) → (Nat → Int32) → Prop) (undos_13 : Int32) (past_13 : Nat → Int32) (morning_18 : Nat → Int32) (now_18 : Nat → Int32) (seed_18 : Int32) (x3_18 : Int32) : Prop :=
  (wp_X8_bits (now_18 9) (fun r_66 => (Φ r_66 undos_13 past_13 seed_18 now_18 morning_18)))
def wb_X8_drift_18 (pay : Int32) (days : Int32) (dayDanger : Nat → Int32) (dayWeather : Nat → Int32) (dayHour : Nat → Int32) (weathers : Nat → Int32) (hours : Nat → Int32) (fear : Nat → Int32) (p1 : Int32) (K_18 : (Nat → Int32) → (Nat → Int32) → Int32 → Int32 → Prop) (rec_18 : (Nat → Int32) → (Nat → Int32) → Int32 → Int32 → Prop) (morning_18 : Nat → Int32) (now_18 : Nat → Int32) (seed_18 : Int32) (x3_18 : Int32) : Prop :=
  ((p1 ≤ x3_18 → (K_18 morning_18 now_18 seed_18 x3_18)) ∧ (¬ p1 ≤ x3_18 → (wp_X8_draw seed_18 100 (fun r_26 seed_26 => (wp_X8_dangerOn days dayDanger (now_18 11) (fun r_37 => ((r_37 ≤ r_26 → (wp_X8_pass pay days now_18 dayWeather dayHour dayDanger weathers hours fear morning_18 (fun now_50 morning_50 => (rec_18 morning_50 now_50 seed_26 (x3_18 + 1))))) ∧ (¬ r_37 ≤ r_26 → (wp_X8_shoot days now_18 dayWeather dayHour dayDanger weathers hours fear (fun r_44 now_44 => (wp_X8_pass pay days now_44 dayWeather dayHour dayDanger weathers hours fear morning_18 (fun now_50 morning_50 => (rec_18 morning_50 now_50 seed_26 (x3_18 + 1))))))))))))))
def wp_X8_drift (pay : Int32) (days : Int32) (seed : Int32) (undos : Int32) (now : Nat → Int32) (past : Nat → Int32) (dayDanger : Nat → Int32) (dayWeather : Nat → Int32) (dayHour : Nat → Int32) (weathers : Nat → Int32) (hours : Nat → Int32) (fear : Nat → Int32) (morning : Nat → Int32) (p1 : Int32) (Φ : Int32 → Int32 → (Nat → Int32) → Int32 → (Nat → Int32) → (Nat → Int32) → Prop) : Prop :=
  (wp_X8_daysRefused pay now p1 (fun r_2 => ((r_2 = 0 → (wp_X8_remember undos now past (fun undos_13 past_13 => (∃ n : Nat, xit4 (wb_X8_drift_18 pay days dayDanger dayWeather dayHour weathers hours fear p1 (wk_X8_drift_18 Φ undos_13 past_13)) n morning now seed 0)))) ∧ (¬ r_2 = 0 → (Φ r_2 undos past seed now morning)))))
abbrev xrm_X8_drift : Room := { frames := 6, cells := 0, slots := 0, locals := 133 }
set_option maxRecDepth 100000 in
set_option maxHeartbeats 4000000 in
theorem c_X8_drift (l : Launch) (D : va_G) (cI cZ cO : ClassId) {pay : Int32} {a_weathers : Nat} {a_hours : Nat} {a_fear : Nat} {days : Int32} {a_dayWeather : Nat} {a_dayHour : Nat} {a_dayDanger : Nat} {a_now : Nat} {seed : Int32} {a_text : Nat} {texted : Int32} {faultPlace : Int32} {at0 : Int32} {number : Int32} {numberAt : Int32} {a_readPay : Nat} {readPersons : Int32} {a_readMarks : Nat} {a_readWeathers : Nat} {a_readHours : Nat} {a_readFear : Nat} {readDays : Int32} {a_readWeather : Nat} {a_readHour : Nat} {a_readDanger : Nat} {undos : Int32} {a_past : Nat} {a_morning : Nat} {a_sent : Nat} {watched : Int32} {a_watchedDay : Nat} {a_watchedOut : Nat} {booked : Int32} {a_bookWho : Nat} {a_bookMarks : Nat} {a_images : Nat} {a_isKept : Nat} {a_this : Nat} {now : Nat → Int32} {past : Nat → Int32} {dayDanger : Nat → Int32} {dayWeather : Nat → Int32} {dayHour : Nat → Int32} {weathers : Nat → Int32} {hours : Nat → Int32} {fear : Nat → Int32} {morning : Nat → Int32} {p1 : Int32} {Φ : Int32 → Int32 → (Nat → Int32) → Int32 → (Nat → Int32) → (Nat → Int32) → Prop} {sz : Nat} (hw : (wp_X8_drift pay days seed undos now past dayDanger dayWeather dayHour weathers hours fear morning p1 Φ)) : Met l yX8_drift wsX8_drift xrm_X8_drift (xPW D cI cZ cO [.ref a_this, .int p1] sz [(a_this, .inr (8, [.int pay, .ref a_weathers, .ref a_hours, .ref a_fear, .int days, .ref a_dayWeather, .ref a_dayHour, .ref a_dayDanger, .ref a_now, .int seed, .ref a_text, .int texted, .int faultPlace, .int at0, .int number, .int numberAt, .ref a_readPay, .int readPersons, .ref a_readMarks, .ref a_readWeathers, .ref a_readHours, .ref a_readFear, .int readDays, .ref a_readWeather, .ref a_readHour, .ref a_readDanger, .int undos, .ref a_past, .ref a_morning, .ref a_sent, .int watched, .ref a_watchedDay, .ref a_watchedOut, .int booked, .ref a_bookWho, .ref a_bookMarks, .ref a_images, .ref a_isKept])), (a_now, .inl (cI, 13, .inl now)), (a_past, .inl (cI, 260, .inl past)), (a_dayDanger, .inl (cI, 10, .inl dayDanger)), (a_dayWeather, .inl (cI, 10, .inl dayWeather)), (a_dayHour, .inl (cI, 10, .inl dayHour)), (a_weathers, .inl (cI, 8, .inl weathers)), (a_hours, .inl (cI, 8, .inl hours)), (a_fear, .inl (cI, 8, .inl fear)), (a_morning, .inl (cI, 8, .inl morning))]) (va_Qi (fun (r : Int32) (u : Int32 × (Nat → Int32) × Int32 × (Nat → Int32) × (Nat → Int32)) => Φ r u.1 u.2.1 u.2.2.1 u.2.2.2.1 u.2.2.2.2) (xB D (va_A [(a_this, .inr (8, [.int pay, .ref a_weathers, .ref a_hours, .ref a_fear, .int days, .ref a_dayWeather, .ref a_dayHour, .ref a_dayDanger, .ref a_now, .int seed, .ref a_text, .int texted, .int faultPlace, .int at0, .int number, .int numberAt, .ref a_readPay, .int readPersons, .ref a_readMarks, .ref a_readWeathers, .ref a_readHours, .ref a_readFear, .int readDays, .ref a_readWeather, .ref a_readHour, .ref a_readDanger, .int undos, .ref a_past, .ref a_morning, .ref a_sent, .int watched, .ref a_watchedDay, .ref a_watchedOut, .int booked, .ref a_bookWho, .ref a_bookMarks, .ref a_images, .ref a_isKept])), (a_now, .inl (cI, 13, .inl now)), (a_past, .inl (cI, 260, .inl past)), (a_dayDanger, .inl (cI, 10, .inl dayDanger)), (a_dayWeather, .inl (cI, 10, .inl dayWeather)), (a_dayHour, .inl (cI, 10, .inl dayHour)), (a_weathers, .inl (cI, 8, .inl weathers)), (a_hours, .inl (cI, 8, .inl hours)), (a_fear, .inl (cI, 8, .inl fear)), (a_morning, .inl (cI, 8, .inl morning))] sz) (fun (u : Int32 × (Nat → Int32) × Int32 × (Nat → Int32) × (Nat → Int32)) => [(a_this, .inr (8, [.int pay, .ref a_weathers, .ref a_hours, .ref a_fear, .int days, .ref a_dayWeather, .ref a_dayHour, .ref a_dayDanger, .ref a_now, .int u.2.2.1, .ref a_text, .int texted, .int faultPlace, .int at0, .int number, .int numberAt, .ref a_readPay, .int readPersons, .ref a_readMarks, .ref a_readWeathers, .ref a_readHours, .ref a_readFear, .int readDays, .ref a_readWeather, .ref a_readHour, .ref a_readDanger, .int u.1, .ref a_past, .ref a_morning, .ref a_sent, .int watched, .ref a_watchedDay, .ref a_watchedOut, .int booked, .ref a_bookWho, .ref a_bookMarks, .ref a_images, .ref a_isKept])), (a_now, .inl (cI, 13, .inl u.2.2.2.1)), (a_past, .inl (cI, 260, .inl u.2.1)), (a_dayDanger, .inl (cI, 10, .inl dayDanger)), (a_dayWeather, .inl (cI, 10, .inl dayWeather)), (a_dayHour, .inl (cI, 10, .inl dayHour)), (a_weathers, .inl (cI, 8, .inl weathers)), (a_hours, .inl (cI, 8, .inl hours)), (a_fear, .inl (cI, 8, .inl fear)), (a_morning, .inl (cI, 8, .inl u.2.2.2.2))])) (va_A [(a_this, .inr (8, [.int pay, .ref a_weathers, .ref a_hours, .ref a_fear, .int days, .ref a_dayWeather, .ref a_dayHour, .ref a_dayDanger, .ref a_now, .int seed, .ref a_text, .int texted, .int faultPlace, .int at0, .int number, .int numberAt, .ref a_readPay, .int readPersons, .ref a_readMarks, .ref a_readWeathers, .ref a_readHours, .ref a_readFear, .int readDays, .ref a_readWeather, .ref a_readHour, .ref a_readDanger, .int undos, .ref a_past, .ref a_morning, .ref a_sent, .int watched, .ref a_watchedDay, .ref a_watchedOut, .int booked, .ref a_bookWho, .ref a_bookMarks, .ref a_images, .ref a_isKept])), (a_now, .inl (cI, 13, .inl now)), (a_past, .inl (cI, 260, .inl past)), (a_dayDanger, .inl (cI, 10, .inl dayDanger)), (a_dayWeather, .inl (cI, 10, .inl dayWeather)), (a_dayHour, .inl (cI, 10, .inl dayHour)), (a_weathers, .inl (cI, 8, .inl weathers)), (a_hours, .inl (cI, 8, .inl hours)), (a_fear, .inl (cI, 8, .inl fear)), (a_morning, .inl (cI, 8, .inl morning))] sz)) 0 0 (va_A [(a_this, .inr (8, [.int pay, .ref a_weathers, .ref a_hours, .ref a_fear, .int days, .ref a_dayWeather, .ref a_dayHour, .ref a_dayDanger, .ref a_now, .int seed, .ref a_text, .int texted, .int faultPlace, .int at0, .int number, .int numberAt, .ref a_readPay, .int readPersons, .ref a_readMarks, .ref a_readWeathers, .ref a_readHours, .ref a_readFear, .int readDays, .ref a_readWeather, .ref a_readHour, .ref a_readDanger, .int undos, .ref a_past, .ref a_morning, .ref a_sent, .int watched, .ref a_watchedDay, .ref a_watchedOut, .int booked, .ref a_bookWho, .ref a_bookMarks, .ref a_images, .ref a_isKept])), (a_now, .inl (cI, 13, .inl now)), (a_past, .inl (cI, 260, .inl past)), (a_dayDanger, .inl (cI, 10, .inl dayDanger)), (a_dayWeather, .inl (cI, 10, .inl dayWeather)), (a_dayHour, .inl (cI, 10, .inl dayHour)), (a_weathers, .inl (cI, 8, .inl weathers)), (a_hours, .inl (cI, 8, .inl hours)), (a_fear, .inl (cI, 8, .inl fear)), (a_morning, .inl (cI, 8, .inl morning))] sz) := by
  refine Met.ofW (cc := cX8_drift) (maxL := 5) (ret := (some .int)) (by decide) rfl ?_
  intro p e s m args below meth c s₁ B hml hv
  obtain ⟨rfl, hsz, hP, hKK, hD0⟩ := hv
  have hx := B.exec
  have hb := B.bytes
  have hr := B.returns
  have hts := atoms_spec (ws := wsX8_drift) B.pre
  have hown : s.vm.findClass RX8 = some m.cls := findClass_of_methodNamed B.named
  have hlocks := B.notSynchronized
  subst hsz
  have hD := hD0.self (sz := s.heap.size)
  obtain ⟨Q, hQ⟩ : ∃ Q, Q = MQ below (va_Qi (fun (r : Int32) (u : Int32 × (Nat → Int32) × Int32 × (Nat → Int32) × (Nat → Int32)) => Φ r u.1 u.2.1 u.2.2.1 u.2.2.2.1 u.2.2.2.2) (xB D (va_A [(a_this, .inr (8, [.int pay, .ref a_weathers, .ref a_hours, .ref a_fear, .int days, .ref a_dayWeather, .ref a_dayHour, .ref a_dayDanger, .ref a_now, .int seed, .ref a_text, .int texted, .int faultPlace, .int at0, .int number, .int numberAt, .ref a_readPay, .int readPersons, .ref a_readMarks, .ref a_readWeathers, .ref a_readHours, .ref a_readFear, .int readDays, .ref a_readWeather, .ref a_readHour, .ref a_readDanger, .int undos, .ref a_past, .ref a_morning, .ref a_sent, .int watched, .ref a_watchedDay, .ref a_watchedOut, .int booked, .ref a_bookWho, .ref a_bookMarks, .ref a_images, .ref a_isKept])), (a_now, .inl (cI, 13, .inl now)), (a_past, .inl (cI, 260, .inl past)), (a_dayDanger, .inl (cI, 10, .inl dayDanger)), (a_dayWeather, .inl (cI, 10, .inl dayWeather)), (a_dayHour, .inl (cI, 10, .inl dayHour)), (a_weathers, .inl (cI, 8, .inl weathers)), (a_hours, .inl (cI, 8, .inl hours)), (a_fear, .inl (cI, 8, .inl fear)), (a_morning, .inl (cI, 8, .inl morning))] s.heap.size) (fun (u : Int32 × (Nat → Int32) × Int32 × (Nat → Int32) × (Nat → Int32)) => [(a_this, .inr (8, [.int pay, .ref a_weathers, .ref a_hours, .ref a_fear, .int days, .ref a_dayWeather, .ref a_dayHour, .ref a_dayDanger, .ref a_now, .int u.2.2.1, .ref a_text, .int texted, .int faultPlace, .int at0, .int number, .int numberAt, .ref a_readPay, .int readPersons, .ref a_readMarks, .ref a_readWeathers, .ref a_readHours, .ref a_readFear, .int readDays, .ref a_readWeather, .ref a_readHour, .ref a_readDanger, .int u.1, .ref a_past, .ref a_morning, .ref a_sent, .int watched, .ref a_watchedDay, .ref a_watchedOut, .int booked, .ref a_bookWho, .ref a_bookMarks, .ref a_images, .ref a_isKept])), (a_now, .inl (cI, 13, .inl u.2.2.2.1)), (a_past, .inl (cI, 260, .inl u.2.1)), (a_dayDanger, .inl (cI, 10, .inl dayDanger)), (a_dayWeather, .inl (cI, 10, .inl dayWeather)), (a_dayHour, .inl (cI, 10, .inl dayHour)), (a_weathers, .inl (cI, 8, .inl weathers)), (a_hours, .inl (cI, 8, .inl hours)), (a_fear, .inl (cI, 8, .inl fear)), (a_morning, .inl (cI, 8, .inl u.2.2.2.2))])) (va_A [(a_this, .inr (8, [.int pay, .ref a_weathers, .ref a_hours, .ref a_fear, .int days, .ref a_dayWeather, .ref a_dayHour, .ref a_dayDanger, .ref a_now, .int seed, .ref a_text, .int texted, .int faultPlace, .int at0, .int number, .int numberAt, .ref a_readPay, .int readPersons, .ref a_readMarks, .ref a_readWeathers, .ref a_readHours, .ref a_readFear, .int readDays, .ref a_readWeather, .ref a_readHour, .ref a_readDanger, .int undos, .ref a_past, .ref a_morning, .ref a_sent, .int watched, .ref a_watchedDay, .ref a_watchedOut, .int booked, .ref a_bookWho, .ref a_bookMarks, .ref a_images, .ref a_isKept])), (a_now, .inl (cI, 13, .inl now)), (a_past, .inl (cI, 260, .inl past)), (a_dayDanger, .inl (cI, 10, .inl dayDanger)), (a_dayWeather, .inl (cI, 10, .inl dayWeather)), (a_dayHour, .inl (cI, 10, .inl dayHour)), (a_weathers, .inl (cI, 8, .inl weathers)), (a_hours, .inl (cI, 8, .inl hours)), (a_fear, .inl (cI, 8, .inl fear)), (a_morning, .inl (cI, 8, .inl morning))] s.heap.size)) ([.ref a_this, .int p1] : List Value).toArray s 0 0 (va_A [(a_this, .inr (8, [.int pay, .ref a_weathers, .ref a_hours, .ref a_fear, .int days, .ref a_dayWeather, .ref a_dayHour, .ref a_dayDanger, .ref a_now, .int seed, .ref a_text, .int texted, .int faultPlace, .int at0, .int number, .int numberAt, .ref a_readPay, .int readPersons, .ref a_readMarks, .ref a_readWeathers, .ref a_readHours, .ref a_readFear, .int readDays, .ref a_readWeather, .ref a_readHour, .ref a_readDanger, .int undos, .ref a_past, .ref a_morning, .ref a_sent, .int watched, .ref a_watchedDay, .ref a_watchedOut, .int booked, .ref a_bookWho, .ref a_bookMarks, .ref a_images, .ref a_isKept])), (a_now, .inl (cI, 13, .inl now)), (a_past, .inl (cI, 260, .inl past)), (a_dayDanger, .inl (cI, 10, .inl dayDanger)), (a_dayWeather, .inl (cI, 10, .inl dayWeather)), (a_dayHour, .inl (cI, 10, .inl dayHour)), (a_weathers, .inl (cI, 8, .inl weathers)), (a_hours, .inl (cI, 8, .inl hours)), (a_fear, .inl (cI, 8, .inl fear)), (a_morning, .inl (cI, 8, .inl morning))] s.heap.size) := ⟨_, rfl⟩
  rw [← hQ]
  generalize hAe : va_A [(a_this, .inr (8, [.int pay, .ref a_weathers, .ref a_hours, .ref a_fear, .int days, .ref a_dayWeather, .ref a_dayHour, .ref a_dayDanger, .ref a_now, .int seed, .ref a_text, .int texted, .int faultPlace, .int at0, .int number, .int numberAt, .ref a_readPay, .int readPersons, .ref a_readMarks, .ref a_readWeathers, .ref a_readHours, .ref a_readFear, .int readDays, .ref a_readWeather, .ref a_readHour, .ref a_readDanger, .int undos, .ref a_past, .ref a_morning, .ref a_sent, .int watched, .ref a_watchedDay, .ref a_watchedOut, .int booked, .ref a_bookWho, .ref a_bookMarks, .ref a_images, .ref a_isKept])), (a_now, .inl (cI, 13, .inl now)), (a_past, .inl (cI, 260, .inl past)), (a_dayDanger, .inl (cI, 10, .inl dayDanger)), (a_dayWeather, .inl (cI, 10, .inl dayWeather)), (a_dayHour, .inl (cI, 10, .inl dayHour)), (a_weathers, .inl (cI, 8, .inl weathers)), (a_hours, .inl (cI, 8, .inl hours)), (a_fear, .inl (cI, 8, .inl fear)), (a_morning, .inl (cI, 8, .inl morning))] s.heap.size = A at hD hQ
  have hA : ∀ q : Nat, s.heap.size ≤ q → A q := fun q h => by rw [← hAe]; exact Or.inr h
  have hS : va_S A s.heap s.heap [] := va_S.rf
  have hl := lv_entry ([.ref a_this, .int p1]) (n := 5) (Nat.le_of_ble_eq_true rfl)
  rw [lg_entry_eq]
  generalize (lg_sl ([.ref a_this, .int p1]) ++ List.replicate (5 - (lg_sl ([.ref a_this, .int p1])).length) Slot.unset).toArray = ls at hl ⊢
  have hl : lv_has ls 5 [(0, .ref a_this), (1, .int p1)] := hl
  generalize ([.ref a_this, .int p1] : List Value).toArray = args at hts hQ ⊢
  have hP : va_P D vwCl [(a_this, .inr (8, [.int pay, .ref a_weathers, .ref a_hours, .ref a_fear, .int days, .ref a_dayWeather, .ref a_dayHour, .ref a_dayDanger, .ref a_now, .int seed, .ref a_text, .int texted, .int faultPlace, .int at0, .int number, .int numberAt, .ref a_readPay, .int readPersons, .ref a_readMarks, .ref a_readWeathers, .ref a_readHours, .ref a_readFear, .int readDays, .ref a_readWeather, .ref a_readHour, .ref a_readDanger, .int undos, .ref a_past, .ref a_morning, .ref a_sent, .int watched, .ref a_watchedDay, .ref a_watchedOut, .int booked, .ref a_bookWho, .ref a_bookMarks, .ref a_images, .ref a_isKept])), (a_now, .inl (cI, 13, .inl now)), (a_past, .inl (cI, 260, .inl past)), (a_dayDanger, .inl (cI, 10, .inl dayDanger)), (a_dayWeather, .inl (cI, 10, .inl dayWeather)), (a_dayHour, .inl (cI, 10, .inl dayHour)), (a_weathers, .inl (cI, 8, .inl weathers)), (a_hours, .inl (cI, 8, .inl hours)), (a_fear, .inl (cI, 8, .inl fear)), (a_morning, .inl (cI, 8, .inl morning))] s.heap := hP
  have hinX8 : ∀ w ∈ u_ws RX8 TX8 38, w ∈ wsX8_drift := by decide +kernel
  have fl_28 := hts (.fieldLink RX8 28 "DoubleChainModel" "now" "[I") (by decide +kernel)
  clear B
  show W p l e xrm_X8_drift s m args below meth c s.heap [] 0 0 Q (F0 m 0 ls [])
  unfold wp_X8_drift at hw
  refine lv_aload_n hx hb dX8_drift_0 rfl (lv_at hl 0 rfl) ?_
  refine lv_iload_n hx hb dX8_drift_1 rfl (lv_at hl 1 rfl) ?_
  refine xcVi (q0 := 0) (ci := 8) (As := [.int p1]) (rest := []) (wc := [(a_this, .inr (8, [.int pay, .ref a_weathers, .ref a_hours, .ref a_fear, .int days, .ref a_dayWeather, .ref a_dayHour, .ref a_dayDanger, .ref a_now, .int seed, .ref a_text, .int texted, .int faultPlace, .int at0, .int number, .int numberAt, .ref a_readPay, .int readPersons, .ref a_readMarks, .ref a_readWeathers, .ref a_readHours, .ref a_readFear, .int readDays, .ref a_readWeather, .ref a_readHour, .ref a_readDanger, .int undos, .ref a_past, .ref a_morning, .ref a_sent, .int watched, .ref a_watchedDay, .ref a_watchedOut, .int booked, .ref a_bookWho, .ref a_bookMarks, .ref a_images, .ref a_isKept])), (a_now, .inl (cI, 13, .inl now))]) ⟨hx, hb, hml, hown, hts⟩ (c_X8_daysRefused l D cI cZ cO hw) (cwV 1 hts gX8_drift_X8_daysRefused rfl rfl rfl (by decide +kernel) ⟨Nat.le_of_ble_eq_true rfl, Nat.le_of_ble_eq_true rfl⟩) hKK hP [0, 1] rfl rfl rfl rfl hl.1 rfl (Nat.le_of_ble_eq_true rfl) dX8_drift_2 ⟨Nat.zero_le _, Nat.zero_le _⟩ (fun r_2 hw => ?_)
  refine lv_istore_n (lv' := [(2, .int r_2), (0, .ref a_this), (1, .int p1)]) hx hb dX8_drift_5 rfl hl (by decide) rfl (fun ls hl => ?_)
  refine lv_iload_n hx hb dX8_drift_6 rfl (lv_at hl 0 rfl) ?_
  refine lv_if_eq (tgt := 12) hx hb dX8_drift_7 (by decide) (fun c_7 => ?_) (fun c_7 => ?_)
  · have hw := hw.1 c_7
    refine lv_aload_n hx hb dX8_drift_12 rfl (lv_at hl 1 rfl) ?_
    refine xwVv (q0 := 0) (ci := 8) (wr := [(a_dayDanger, .inl (cI, 10, .inl dayDanger)), (a_dayWeather, .inl (cI, 10, .inl dayWeather)), (a_dayHour, .inl (cI, 10, .inl dayHour)), (a_weathers, .inl (cI, 8, .inl weathers)), (a_hours, .inl (cI, 8, .inl hours)), (a_fear, .inl (cI, 8, .inl fear)), (a_morning, .inl (cI, 8, .inl morning))]) (As := []) (rest := []) (wc := [(a_this, .inr (8, [.int pay, .ref a_weathers, .ref a_hours, .ref a_fear, .int days, .ref a_dayWeather, .ref a_dayHour, .ref a_dayDanger, .ref a_now, .int seed, .ref a_text, .int texted, .int faultPlace, .int at0, .int number, .int numberAt, .ref a_readPay, .int readPersons, .ref a_readMarks, .ref a_readWeathers, .ref a_readHours, .ref a_readFear, .int readDays, .ref a_readWeather, .ref a_readHour, .ref a_readDanger, .int undos, .ref a_past, .ref a_morning, .ref a_sent, .int watched, .ref a_watchedDay, .ref a_watchedOut, .int booked, .ref a_bookWho, .ref a_bookMarks, .ref a_images, .ref a_isKept])), (a_now, .inl (cI, 13, .inl now)), (a_past, .inl (cI, 260, .inl past))]) (fun u => [(a_this, .inr (8, [.int pay, .ref a_weathers, .ref a_hours, .ref a_fear, .int days, .ref a_dayWeather, .ref a_dayHour, .ref a_dayDanger, .ref a_now, .int seed, .ref a_text, .int texted, .int faultPlace, .int at0, .int number, .int numberAt, .ref a_readPay, .int readPersons, .ref a_readMarks, .ref a_readWeathers, .ref a_readHours, .ref a_readFear, .int readDays, .ref a_readWeather, .ref a_readHour, .ref a_readDanger, .int u.1, .ref a_past, .ref a_morning, .ref a_sent, .int watched, .ref a_watchedDay, .ref a_watchedOut, .int booked, .ref a_bookWho, .ref a_bookMarks, .ref a_images, .ref a_isKept])), (a_now, .inl (cI, 13, .inl now)), (a_past, .inl (cI, 260, .inl u.2)), (a_dayDanger, .inl (cI, 10, .inl dayDanger)), (a_dayWeather, .inl (cI, 10, .inl dayWeather)), (a_dayHour, .inl (cI, 10, .inl dayHour)), (a_weathers, .inl (cI, 8, .inl weathers)), (a_hours, .inl (cI, 8, .inl hours)), (a_fear, .inl (cI, 8, .inl fear)), (a_morning, .inl (cI, 8, .inl morning))]) ⟨hx, hb, hml, hown, hts⟩ (c_X8_remember l D cI cZ cO hw) (cwV 0 hts gX8_drift_X8_remember rfl rfl rfl (by decide +kernel) ⟨Nat.le_of_ble_eq_true rfl, Nat.le_of_ble_eq_true rfl⟩) hKK hP hD hS hA [0, 1, 2] [3, 4, 5, 6, 7, 8, 9] [7, 8, 9, 0, 1, 2, 3, 4, 5, 6] rfl rfl rfl rfl rfl (by decide) (fun _ => rfl) rfl rfl rfl hl.1 rfl (Nat.le_of_ble_eq_true rfl) dX8_drift_13 ⟨Nat.zero_le _, Nat.zero_le _⟩ (fun u_13 H locs hw hP hD hS => ?_)
    obtain ⟨undos_13, past_13⟩ := u_13
    try dsimp only at hw
    have hP : va_P D vwCl [(a_this, .inr (8, [.int pay, .ref a_weathers, .ref a_hours, .ref a_fear, .int days, .ref a_dayWeather, .ref a_dayHour, .ref a_dayDanger, .ref a_now, .int seed, .ref a_text, .int texted, .int faultPlace, .int at0, .int number, .int numberAt, .ref a_readPay, .int readPersons, .ref a_readMarks, .ref a_readWeathers, .ref a_readHours, .ref a_readFear, .int readDays, .ref a_readWeather, .ref a_readHour, .ref a_readDanger, .int undos_13, .ref a_past, .ref a_morning, .ref a_sent, .int watched, .ref a_watchedDay, .ref a_watchedOut, .int booked, .ref a_bookWho, .ref a_bookMarks, .ref a_images, .ref a_isKept])), (a_now, .inl (cI, 13, .inl now)), (a_past, .inl (cI, 260, .inl past_13)), (a_dayDanger, .inl (cI, 10, .inl dayDanger)), (a_dayWeather, .inl (cI, 10, .inl dayWeather)), (a_dayHour, .inl (cI, 10, .inl dayHour)), (a_weathers, .inl (cI, 8, .inl weathers)), (a_hours, .inl (cI, 8, .inl hours)), (a_fear, .inl (cI, 8, .inl fear)), (a_morning, .inl (cI, 8, .inl morning))] H := hP
    have hD : va_D A [(a_this, .inr (8, [.int pay, .ref a_weathers, .ref a_hours, .ref a_fear, .int days, .ref a_dayWeather, .ref a_dayHour, .ref a_dayDanger, .ref a_now, .int seed, .ref a_text, .int texted, .int faultPlace, .int at0, .int number, .int numberAt, .ref a_readPay, .int readPersons, .ref a_readMarks, .ref a_readWeathers, .ref a_readHours, .ref a_readFear, .int readDays, .ref a_readWeather, .ref a_readHour, .ref a_readDanger, .int undos_13, .ref a_past, .ref a_morning, .ref a_sent, .int watched, .ref a_watchedDay, .ref a_watchedOut, .int booked, .ref a_bookWho, .ref a_bookMarks, .ref a_images, .ref a_isKept])), (a_now, .inl (cI, 13, .inl now)), (a_past, .inl (cI, 260, .inl past_13)), (a_dayDanger, .inl (cI, 10, .inl dayDanger)), (a_dayWeather, .inl (cI, 10, .inl dayWeather)), (a_dayHour, .inl (cI, 10, .inl dayHour)), (a_weathers, .inl (cI, 8, .inl weathers)), (a_hours, .inl (cI, 8, .inl hours)), (a_fear, .inl (cI, 8, .inl fear)), (a_morning, .inl (cI, 8, .inl morning))] := hD
    refine lv_iconst (v := 0) hx hb dX8_drift_16 (by decide) ?_
    refine lv_istore_n (lv' := [(3, .int 0), (2, .int r_2), (0, .ref a_this), (1, .int p1)]) hx hb dX8_drift_17 rfl hl (by decide) rfl (fun ls hl => ?_)
    have EX_18 : ∀ (morning_18 : Nat → Int32) (now_18 : Nat → Int32) (seed_18 : Int32) (x3_18 : Int32), ∀ (H : Heap) (locs : List Loc), va_P D vwCl [(a_this, .inr (8, [.int pay, .ref a_weathers, .ref a_hours, .ref a_fear, .int days, .ref a_dayWeather, .ref a_dayHour, .ref a_dayDanger, .ref a_now, .int seed_18, .ref a_text, .int texted, .int faultPlace, .int at0, .int number, .int numberAt, .ref a_readPay, .int readPersons, .ref a_readMarks, .ref a_readWeathers, .ref a_readHours, .ref a_readFear, .int readDays, .ref a_readWeather, .ref a_readHour, .ref a_readDanger, .int undos_13, .ref a_past, .ref a_morning, .ref a_sent, .int watched, .ref a_watchedDay, .ref a_watchedOut, .int booked, .ref a_bookWho, .ref a_bookMarks, .ref a_images, .ref a_isKept])), (a_now, .inl (cI, 13, .inl now_18)), (a_past, .inl (cI, 260, .inl past_13)), (a_dayDanger, .inl (cI, 10, .inl dayDanger)), (a_dayWeather, .inl (cI, 10, .inl dayWeather)), (a_dayHour, .inl (cI, 10, .inl dayHour)), (a_weathers, .inl (cI, 8, .inl weathers)), (a_hours, .inl (cI, 8, .inl hours)), (a_fear, .inl (cI, 8, .inl fear)), (a_morning, .inl (cI, 8, .inl morning_18))] H → va_D A [(a_this, .inr (8, [.int pay, .ref a_weathers, .ref a_hours, .ref a_fear, .int days, .ref a_dayWeather, .ref a_dayHour, .ref a_dayDanger, .ref a_now, .int seed_18, .ref a_text, .int texted, .int faultPlace, .int at0, .int number, .int numberAt, .ref a_readPay, .int readPersons, .ref a_readMarks, .ref a_readWeathers, .ref a_readHours, .ref a_readFear, .int readDays, .ref a_readWeather, .ref a_readHour, .ref a_readDanger, .int undos_13, .ref a_past, .ref a_morning, .ref a_sent, .int watched, .ref a_watchedDay, .ref a_watchedOut, .int booked, .ref a_bookWho, .ref a_bookMarks, .ref a_images, .ref a_isKept])), (a_now, .inl (cI, 13, .inl now_18)), (a_past, .inl (cI, 260, .inl past_13)), (a_dayDanger, .inl (cI, 10, .inl dayDanger)), (a_dayWeather, .inl (cI, 10, .inl dayWeather)), (a_dayHour, .inl (cI, 10, .inl dayHour)), (a_weathers, .inl (cI, 8, .inl weathers)), (a_hours, .inl (cI, 8, .inl hours)), (a_fear, .inl (cI, 8, .inl fear)), (a_morning, .inl (cI, 8, .inl morning_18))] → va_S A s.heap H locs → ∀ (ls : Array Slot), lv_has ls 5 [(0, .ref a_this), (1, .int p1), (2, .int r_2), (3, .int x3_18)] → (wk_X8_drift_18 Φ undos_13 past_13 morning_18 now_18 seed_18 x3_18) → W p l e xrm_X8_drift s m args below meth c H locs 0 0 Q (F0 m 59 ls []) := by
      intro morning_18 now_18 seed_18 x3_18 H locs hP hD hS ls hl hw
      unfold wk_X8_drift_18 at hw
      refine lv_aload_n hx hb dX8_drift_59 rfl (lv_at hl 0 rfl) ?_
      refine va_get (D := D) (ci := 8) (v := .ref a_now) (C := RX8) (T := TX8) (N := 38) hx hb hts hinX8 hown hKK.1 hP 0 rfl rfl 8 (by decide) fl_28 (fun _ h9 => h9) rfl dX8_drift_60 ?_
      refine lv_bipush (v := 9) hx hb dX8_drift_63 (by decide) ?_
      refine x_iald 9 (by decide) (Nat.le_of_ble_eq_true rfl) hx hb hKK.1 hP 1 0 rfl rfl dX8_drift_65 ?_
      refine xcSi (As := [.int (now_18 9)]) (rest := []) (wc := []) ⟨hx, hb, hml, hown, hts⟩ (c_X8_bits l D cI cZ cO hw) (va_cwS 1 hts gX8_drift_X8_bits rfl rfl rfl (by decide +kernel) ⟨Nat.le_of_ble_eq_true rfl, Nat.le_of_ble_eq_true rfl⟩) hKK hP [] rfl rfl hl.1 rfl (Nat.le_of_ble_eq_true rfl) dX8_drift_66 ⟨Nat.zero_le _, Nat.zero_le _⟩ (fun r_66 hw => ?_)
      rw [hQ]
      exact W.iret (v := r_66) hx hb hr (fun t ht _ => ⟨⟨r_66, ⟨undos_13, past_13, seed_18, now_18, morning_18⟩, rfl, hw, by rw [ht]; exact hP, hD⟩, hS.F ht⟩) hS.2.2 dX8_drift_69
    generalize (wk_X8_drift_18 Φ undos_13 past_13) = K_18 at EX_18 hw
    have LP_18 : ∀ n : Nat, ∀ (morning_18 : Nat → Int32) (now_18 : Nat → Int32) (seed_18 : Int32) (x3_18 : Int32), ∀ (H : Heap) (locs : List Loc), va_P D vwCl [(a_this, .inr (8, [.int pay, .ref a_weathers, .ref a_hours, .ref a_fear, .int days, .ref a_dayWeather, .ref a_dayHour, .ref a_dayDanger, .ref a_now, .int seed_18, .ref a_text, .int texted, .int faultPlace, .int at0, .int number, .int numberAt, .ref a_readPay, .int readPersons, .ref a_readMarks, .ref a_readWeathers, .ref a_readHours, .ref a_readFear, .int readDays, .ref a_readWeather, .ref a_readHour, .ref a_readDanger, .int undos_13, .ref a_past, .ref a_morning, .ref a_sent, .int watched, .ref a_watchedDay, .ref a_watchedOut, .int booked, .ref a_bookWho, .ref a_bookMarks, .ref a_images, .ref a_isKept])), (a_now, .inl (cI, 13, .inl now_18)), (a_past, .inl (cI, 260, .inl past_13)), (a_dayDanger, .inl (cI, 10, .inl dayDanger)), (a_dayWeather, .inl (cI, 10, .inl dayWeather)), (a_dayHour, .inl (cI, 10, .inl dayHour)), (a_weathers, .inl (cI, 8, .inl weathers)), (a_hours, .inl (cI, 8, .inl hours)), (a_fear, .inl (cI, 8, .inl fear)), (a_morning, .inl (cI, 8, .inl morning_18))] H → va_D A [(a_this, .inr (8, [.int pay, .ref a_weathers, .ref a_hours, .ref a_fear, .int days, .ref a_dayWeather, .ref a_dayHour, .ref a_dayDanger, .ref a_now, .int seed_18, .ref a_text, .int texted, .int faultPlace, .int at0, .int number, .int numberAt, .ref a_readPay, .int readPersons, .ref a_readMarks, .ref a_readWeathers, .ref a_readHours, .ref a_readFear, .int readDays, .ref a_readWeather, .ref a_readHour, .ref a_readDanger, .int undos_13, .ref a_past, .ref a_morning, .ref a_sent, .int watched, .ref a_watchedDay, .ref a_watchedOut, .int booked, .ref a_bookWho, .ref a_bookMarks, .ref a_images, .ref a_isKept])), (a_now, .inl (cI, 13, .inl now_18)), (a_past, .inl (cI, 260, .inl past_13)), (a_dayDanger, .inl (cI, 10, .inl dayDanger)), (a_dayWeather, .inl (cI, 10, .inl dayWeather)), (a_dayHour, .inl (cI, 10, .inl dayHour)), (a_weathers, .inl (cI, 8, .inl weathers)), (a_hours, .inl (cI, 8, .inl hours)), (a_fear, .inl (cI, 8, .inl fear)), (a_morning, .inl (cI, 8, .inl morning_18))] → va_S A s.heap H locs → ∀ (ls : Array Slot), lv_has ls 5 [(0, .ref a_this), (1, .int p1), (2, .int r_2), (3, .int x3_18)] → xit4 (wb_X8_drift_18 pay days dayDanger dayWeather dayHour weathers hours fear p1 K_18) n morning_18 now_18 seed_18 x3_18 → W p l e xrm_X8_drift s m args below meth c H locs 0 0 Q (F0 m 18 ls []) := by
      intro n
      induction n with
      | zero => intro morning_18 now_18 seed_18 x3_18 H locs hP hD hS ls hl hw; exact (show False from hw).elim
      | succ n ih =>
        intro morning_18 now_18 seed_18 x3_18 H locs hP hD hS ls hl hw
        have hw : wb_X8_drift_18 pay days dayDanger dayWeather dayHour weathers hours fear p1 K_18 (xit4 (wb_X8_drift_18 pay days dayDanger dayWeather dayHour weathers hours fear p1 K_18) n) morning_18 now_18 seed_18 x3_18 := hw
        generalize xit4 (wb_X8_drift_18 pay days dayDanger dayWeather dayHour weathers hours fear p1 K_18) n = rec_18 at ih hw
        unfold wb_X8_drift_18 at hw
        refine lv_iload_n hx hb dX8_drift_18 rfl (lv_at hl 3 rfl) ?_
        refine lv_iload_n hx hb dX8_drift_19 rfl (lv_at hl 1 rfl) ?_
        refine lv_icmp_ge (tgt := 59) hx hb dX8_drift_20 (by decide) (fun c_20 => ?_) (fun c_20 => ?_)
        · have hw := hw.1 c_20
          exact EX_18 _ _ _ _ _ _ hP hD hS ls (lv_sub hl [0, 1, 2, 3] rfl) hw
        · have hw := hw.2 c_20
          refine lv_aload_n hx hb dX8_drift_23 rfl (lv_at hl 0 rfl) ?_
          refine lv_bipush (v := 100) hx hb dX8_drift_24 (by decide) ?_
          refine xwVi (q0 := 0) (ci := 8) (wr := [(a_now, .inl (cI, 13, .inl now_18)), (a_past, .inl (cI, 260, .inl past_13)), (a_dayDanger, .inl (cI, 10, .inl dayDanger)), (a_dayWeather, .inl (cI, 10, .inl dayWeather)), (a_dayHour, .inl (cI, 10, .inl dayHour)), (a_weathers, .inl (cI, 8, .inl weathers)), (a_hours, .inl (cI, 8, .inl hours)), (a_fear, .inl (cI, 8, .inl fear)), (a_morning, .inl (cI, 8, .inl morning_18))]) (As := [.int 100]) (rest := []) (wc := [(a_this, .inr (8, [.int pay, .ref a_weathers, .ref a_hours, .ref a_fear, .int days, .ref a_dayWeather, .ref a_dayHour, .ref a_dayDanger, .ref a_now, .int seed_18, .ref a_text, .int texted, .int faultPlace, .int at0, .int number, .int numberAt, .ref a_readPay, .int readPersons, .ref a_readMarks, .ref a_readWeathers, .ref a_readHours, .ref a_readFear, .int readDays, .ref a_readWeather, .ref a_readHour, .ref a_readDanger, .int undos_13, .ref a_past, .ref a_morning, .ref a_sent, .int watched, .ref a_watchedDay, .ref a_watchedOut, .int booked, .ref a_bookWho, .ref a_bookMarks, .ref a_images, .ref a_isKept]))]) (fun u => [(a_this, .inr (8, [.int pay, .ref a_weathers, .ref a_hours, .ref a_fear, .int days, .ref a_dayWeather, .ref a_dayHour, .ref a_dayDanger, .ref a_now, .int u, .ref a_text, .int texted, .int faultPlace, .int at0, .int number, .int numberAt, .ref a_readPay, .int readPersons, .ref a_readMarks, .ref a_readWeathers, .ref a_readHours, .ref a_readFear, .int readDays, .ref a_readWeather, .ref a_readHour, .ref a_readDanger, .int undos_13, .ref a_past, .ref a_morning, .ref a_sent, .int watched, .ref a_watchedDay, .ref a_watchedOut, .int booked, .ref a_bookWho, .ref a_bookMarks, .ref a_images, .ref a_isKept])), (a_now, .inl (cI, 13, .inl now_18)), (a_past, .inl (cI, 260, .inl past_13)), (a_dayDanger, .inl (cI, 10, .inl dayDanger)), (a_dayWeather, .inl (cI, 10, .inl dayWeather)), (a_dayHour, .inl (cI, 10, .inl dayHour)), (a_weathers, .inl (cI, 8, .inl weathers)), (a_hours, .inl (cI, 8, .inl hours)), (a_fear, .inl (cI, 8, .inl fear)), (a_morning, .inl (cI, 8, .inl morning_18))]) ⟨hx, hb, hml, hown, hts⟩ (c_X8_draw l D cI cZ cO hw) (cwV 1 hts gX8_drift_X8_draw rfl rfl rfl (by decide +kernel) ⟨Nat.le_of_ble_eq_true rfl, Nat.le_of_ble_eq_true rfl⟩) hKK hP hD hS hA [0] [1, 2, 3, 4, 5, 6, 7, 8, 9] [9, 0, 1, 2, 3, 4, 5, 6, 7, 8] rfl rfl rfl rfl rfl (by decide) (fun _ => rfl) rfl rfl rfl hl.1 rfl (Nat.le_of_ble_eq_true rfl) dX8_drift_26 ⟨Nat.zero_le _, Nat.zero_le _⟩ (fun r_26 seed_26 H locs hw hP hD hS => ?_)
          have hP : va_P D vwCl [(a_this, .inr (8, [.int pay, .ref a_weathers, .ref a_hours, .ref a_fear, .int days, .ref a_dayWeather, .ref a_dayHour, .ref a_dayDanger, .ref a_now, .int seed_26, .ref a_text, .int texted, .int faultPlace, .int at0, .int number, .int numberAt, .ref a_readPay, .int readPersons, .ref a_readMarks, .ref a_readWeathers, .ref a_readHours, .ref a_readFear, .int readDays, .ref a_readWeather, .ref a_readHour, .ref a_readDanger, .int undos_13, .ref a_past, .ref a_morning, .ref a_sent, .int watched, .ref a_watchedDay, .ref a_watchedOut, .int booked, .ref a_bookWho, .ref a_bookMarks, .ref a_images, .ref a_isKept])), (a_now, .inl (cI, 13, .inl now_18)), (a_past, .inl (cI, 260, .inl past_13)), (a_dayDanger, .inl (cI, 10, .inl dayDanger)), (a_dayWeather, .inl (cI, 10, .inl dayWeather)), (a_dayHour, .inl (cI, 10, .inl dayHour)), (a_weathers, .inl (cI, 8, .inl weathers)), (a_hours, .inl (cI, 8, .inl hours)), (a_fear, .inl (cI, 8, .inl fear)), (a_morning, .inl (cI, 8, .inl morning_18))] H := hP
          have hD : va_D A [(a_this, .inr (8, [.int pay, .ref a_weathers, .ref a_hours, .ref a_fear, .int days, .ref a_dayWeather, .ref a_dayHour, .ref a_dayDanger, .ref a_now, .int seed_26, .ref a_text, .int texted, .int faultPlace, .int at0, .int number, .int numberAt, .ref a_readPay, .int readPersons, .ref a_readMarks, .ref a_readWeathers, .ref a_readHours, .ref a_readFear, .int readDays, .ref a_readWeather, .ref a_readHour, .ref a_readDanger, .int undos_13, .ref a_past, .ref a_morning, .ref a_sent, .int watched, .ref a_watchedDay, .ref a_watchedOut, .int booked, .ref a_bookWho, .ref a_bookMarks, .ref a_images, .ref a_isKept])), (a_now, .inl (cI, 13, .inl now_18)), (a_past, .inl (cI, 260, .inl past_13)), (a_dayDanger, .inl (cI, 10, .inl dayDanger)), (a_dayWeather, .inl (cI, 10, .inl dayWeather)), (a_dayHour, .inl (cI, 10, .inl dayHour)), (a_weathers, .inl (cI, 8, .inl weathers)), (a_hours, .inl (cI, 8, .inl hours)), (a_fear, .inl (cI, 8, .inl fear)), (a_morning, .inl (cI, 8, .inl morning_18))] := hD
          refine lv_aload_n hx hb dX8_drift_29 rfl (lv_at hl 0 rfl) ?_
          refine lv_aload_n hx hb dX8_drift_30 rfl (lv_at hl 0 rfl) ?_
          refine va_get (D := D) (ci := 8) (v := .ref a_now) (C := RX8) (T := TX8) (N := 38) hx hb hts hinX8 hown hKK.1 hP 0 rfl rfl 8 (by decide) fl_28 (fun _ h9 => h9) rfl dX8_drift_31 ?_
          refine lv_bipush (v := 11) hx hb dX8_drift_34 (by decide) ?_
          refine x_iald 11 (by decide) (Nat.le_of_ble_eq_true rfl) hx hb hKK.1 hP 1 0 rfl rfl dX8_drift_36 ?_
          refine xcVi (q0 := 0) (ci := 8) (As := [.int (now_18 11)]) (rest := [.int r_26]) (wc := [(a_this, .inr (8, [.int pay, .ref a_weathers, .ref a_hours, .ref a_fear, .int days, .ref a_dayWeather, .ref a_dayHour, .ref a_dayDanger, .ref a_now, .int seed_26, .ref a_text, .int texted, .int faultPlace, .int at0, .int number, .int numberAt, .ref a_readPay, .int readPersons, .ref a_readMarks, .ref a_readWeathers, .ref a_readHours, .ref a_readFear, .int readDays, .ref a_readWeather, .ref a_readHour, .ref a_readDanger, .int undos_13, .ref a_past, .ref a_morning, .ref a_sent, .int watched, .ref a_watchedDay, .ref a_watchedOut, .int booked, .ref a_bookWho, .ref a_bookMarks, .ref a_images, .ref a_isKept])), (a_dayDanger, .inl (cI, 10, .inl dayDanger))]) ⟨hx, hb, hml, hown, hts⟩ (c_X8_dangerOn l D cI cZ cO hw) (cwV 1 hts gX8_drift_X8_dangerOn rfl rfl rfl (by decide +kernel) ⟨Nat.le_of_ble_eq_true rfl, Nat.le_of_ble_eq_true rfl⟩) hKK hP [0, 3] rfl rfl rfl rfl hl.1 rfl (Nat.le_of_ble_eq_true rfl) dX8_drift_37 ⟨Nat.zero_le _, Nat.zero_le _⟩ (fun r_37 hw => ?_)
          refine lv_icmp_ge (tgt := 49) hx hb dX8_drift_40 (by decide) (fun c_40 => ?_) (fun c_40 => ?_)
          · have hw := hw.1 c_40
            refine lv_aload_n hx hb dX8_drift_49 rfl (lv_at hl 0 rfl) ?_
            refine xwVv (q0 := 0) (ci := 8) (wr := [(a_past, .inl (cI, 260, .inl past_13))]) (As := []) (rest := []) (wc := [(a_this, .inr (8, [.int pay, .ref a_weathers, .ref a_hours, .ref a_fear, .int days, .ref a_dayWeather, .ref a_dayHour, .ref a_dayDanger, .ref a_now, .int seed_26, .ref a_text, .int texted, .int faultPlace, .int at0, .int number, .int numberAt, .ref a_readPay, .int readPersons, .ref a_readMarks, .ref a_readWeathers, .ref a_readHours, .ref a_readFear, .int readDays, .ref a_readWeather, .ref a_readHour, .ref a_readDanger, .int undos_13, .ref a_past, .ref a_morning, .ref a_sent, .int watched, .ref a_watchedDay, .ref a_watchedOut, .int booked, .ref a_bookWho, .ref a_bookMarks, .ref a_images, .ref a_isKept])), (a_now, .inl (cI, 13, .inl now_18)), (a_dayWeather, .inl (cI, 10, .inl dayWeather)), (a_dayHour, .inl (cI, 10, .inl dayHour)), (a_dayDanger, .inl (cI, 10, .inl dayDanger)), (a_weathers, .inl (cI, 8, .inl weathers)), (a_hours, .inl (cI, 8, .inl hours)), (a_fear, .inl (cI, 8, .inl fear)), (a_morning, .inl (cI, 8, .inl morning_18))]) (fun u => [(a_this, .inr (8, [.int pay, .ref a_weathers, .ref a_hours, .ref a_fear, .int days, .ref a_dayWeather, .ref a_dayHour, .ref a_dayDanger, .ref a_now, .int seed_26, .ref a_text, .int texted, .int faultPlace, .int at0, .int number, .int numberAt, .ref a_readPay, .int readPersons, .ref a_readMarks, .ref a_readWeathers, .ref a_readHours, .ref a_readFear, .int readDays, .ref a_readWeather, .ref a_readHour, .ref a_readDanger, .int undos_13, .ref a_past, .ref a_morning, .ref a_sent, .int watched, .ref a_watchedDay, .ref a_watchedOut, .int booked, .ref a_bookWho, .ref a_bookMarks, .ref a_images, .ref a_isKept])), (a_now, .inl (cI, 13, .inl u.1)), (a_past, .inl (cI, 260, .inl past_13)), (a_dayDanger, .inl (cI, 10, .inl dayDanger)), (a_dayWeather, .inl (cI, 10, .inl dayWeather)), (a_dayHour, .inl (cI, 10, .inl dayHour)), (a_weathers, .inl (cI, 8, .inl weathers)), (a_hours, .inl (cI, 8, .inl hours)), (a_fear, .inl (cI, 8, .inl fear)), (a_morning, .inl (cI, 8, .inl u.2))]) ⟨hx, hb, hml, hown, hts⟩ (c_X8_pass l D cI cZ cO hw) (cwV 0 hts gX8_drift_X8_pass rfl rfl rfl (by decide +kernel) ⟨Nat.le_of_ble_eq_true rfl, Nat.le_of_ble_eq_true rfl⟩) hKK hP hD hS hA [0, 1, 4, 5, 3, 6, 7, 8, 9] [2] [1, 2, 0, 5, 3, 4, 6, 7, 8, 9] rfl rfl rfl rfl rfl (by decide) (fun _ => rfl) rfl rfl rfl hl.1 rfl (Nat.le_of_ble_eq_true rfl) dX8_drift_50 ⟨Nat.zero_le _, Nat.zero_le _⟩ (fun u_50 H locs hw hP hD hS => ?_)
            obtain ⟨now_50, morning_50⟩ := u_50
            try dsimp only at hw
            have hP : va_P D vwCl [(a_this, .inr (8, [.int pay, .ref a_weathers, .ref a_hours, .ref a_fear, .int days, .ref a_dayWeather, .ref a_dayHour, .ref a_dayDanger, .ref a_now, .int seed_26, .ref a_text, .int texted, .int faultPlace, .int at0, .int number, .int numberAt, .ref a_readPay, .int readPersons, .ref a_readMarks, .ref a_readWeathers, .ref a_readHours, .ref a_readFear, .int readDays, .ref a_readWeather, .ref a_readHour, .ref a_readDanger, .int undos_13, .ref a_past, .ref a_morning, .ref a_sent, .int watched, .ref a_watchedDay, .ref a_watchedOut, .int booked, .ref a_bookWho, .ref a_bookMarks, .ref a_images, .ref a_isKept])), (a_now, .inl (cI, 13, .inl now_50)), (a_past, .inl (cI, 260, .inl past_13)), (a_dayDanger, .inl (cI, 10, .inl dayDanger)), (a_dayWeather, .inl (cI, 10, .inl dayWeather)), (a_dayHour, .inl (cI, 10, .inl dayHour)), (a_weathers, .inl (cI, 8, .inl weathers)), (a_hours, .inl (cI, 8, .inl hours)), (a_fear, .inl (cI, 8, .inl fear)), (a_morning, .inl (cI, 8, .inl morning_50))] H := hP
            have hD : va_D A [(a_this, .inr (8, [.int pay, .ref a_weathers, .ref a_hours, .ref a_fear, .int days, .ref a_dayWeather, .ref a_dayHour, .ref a_dayDanger, .ref a_now, .int seed_26, .ref a_text, .int texted, .int faultPlace, .int at0, .int number, .int numberAt, .ref a_readPay, .int readPersons, .ref a_readMarks, .ref a_readWeathers, .ref a_readHours, .ref a_readFear, .int readDays, .ref a_readWeather, .ref a_readHour, .ref a_readDanger, .int undos_13, .ref a_past, .ref a_morning, .ref a_sent, .int watched, .ref a_watchedDay, .ref a_watchedOut, .int booked, .ref a_bookWho, .ref a_bookMarks, .ref a_images, .ref a_isKept])), (a_now, .inl (cI, 13, .inl now_50)), (a_past, .inl (cI, 260, .inl past_13)), (a_dayDanger, .inl (cI, 10, .inl dayDanger)), (a_dayWeather, .inl (cI, 10, .inl dayWeather)), (a_dayHour, .inl (cI, 10, .inl dayHour)), (a_weathers, .inl (cI, 8, .inl weathers)), (a_hours, .inl (cI, 8, .inl hours)), (a_fear, .inl (cI, 8, .inl fear)), (a_morning, .inl (cI, 8, .inl morning_50))] := hD
            refine lv_iinc (v := (x3_18 + 1)) (lv' := [(3, .int (x3_18 + 1)), (0, .ref a_this), (1, .int p1), (2, .int r_2)]) hx hb dX8_drift_53 hl (k := 3) rfl (by rfl) (by decide) rfl (fun ls hl => ?_)
            refine lv_goto (tgt := 18) hx hb dX8_drift_56 (by decide) ?_
            exact ih _ _ _ _ _ _ hP hD hS ls (lv_sub hl [1, 2, 3, 0] rfl) hw
          · have hw := hw.2 c_40
            refine lv_aload_n hx hb dX8_drift_43 rfl (lv_at hl 0 rfl) ?_
            refine xwVi (q0 := 0) (ci := 8) (wr := [(a_past, .inl (cI, 260, .inl past_13)), (a_morning, .inl (cI, 8, .inl morning_18))]) (As := []) (rest := []) (wc := [(a_this, .inr (8, [.int pay, .ref a_weathers, .ref a_hours, .ref a_fear, .int days, .ref a_dayWeather, .ref a_dayHour, .ref a_dayDanger, .ref a_now, .int seed_26, .ref a_text, .int texted, .int faultPlace, .int at0, .int number, .int numberAt, .ref a_readPay, .int readPersons, .ref a_readMarks, .ref a_readWeathers, .ref a_readHours, .ref a_readFear, .int readDays, .ref a_readWeather, .ref a_readHour, .ref a_readDanger, .int undos_13, .ref a_past, .ref a_morning, .ref a_sent, .int watched, .ref a_watchedDay, .ref a_watchedOut, .int booked, .ref a_bookWho, .ref a_bookMarks, .ref a_images, .ref a_isKept])), (a_now, .inl (cI, 13, .inl now_18)), (a_dayWeather, .inl (cI, 10, .inl dayWeather)), (a_dayHour, .inl (cI, 10, .inl dayHour)), (a_dayDanger, .inl (cI, 10, .inl dayDanger)), (a_weathers, .inl (cI, 8, .inl weathers)), (a_hours, .inl (cI, 8, .inl hours)), (a_fear, .inl (cI, 8, .inl fear))]) (fun u => [(a_this, .inr (8, [.int pay, .ref a_weathers, .ref a_hours, .ref a_fear, .int days, .ref a_dayWeather, .ref a_dayHour, .ref a_dayDanger, .ref a_now, .int seed_26, .ref a_text, .int texted, .int faultPlace, .int at0, .int number, .int numberAt, .ref a_readPay, .int readPersons, .ref a_readMarks, .ref a_readWeathers, .ref a_readHours, .ref a_readFear, .int readDays, .ref a_readWeather, .ref a_readHour, .ref a_readDanger, .int undos_13, .ref a_past, .ref a_morning, .ref a_sent, .int watched, .ref a_watchedDay, .ref a_watchedOut, .int booked, .ref a_bookWho, .ref a_bookMarks, .ref a_images, .ref a_isKept])), (a_now, .inl (cI, 13, .inl u)), (a_past, .inl (cI, 260, .inl past_13)), (a_dayDanger, .inl (cI, 10, .inl dayDanger)), (a_dayWeather, .inl (cI, 10, .inl dayWeather)), (a_dayHour, .inl (cI, 10, .inl dayHour)), (a_weathers, .inl (cI, 8, .inl weathers)), (a_hours, .inl (cI, 8, .inl hours)), (a_fear, .inl (cI, 8, .inl fear)), (a_morning, .inl (cI, 8, .inl morning_18))]) ⟨hx, hb, hml, hown, hts⟩ (c_X8_shoot l D cI cZ cO hw) (cwV 0 hts gX8_drift_X8_shoot rfl rfl rfl (by decide +kernel) ⟨Nat.le_of_ble_eq_true rfl, Nat.le_of_ble_eq_true rfl⟩) hKK hP hD hS hA [0, 1, 4, 5, 3, 6, 7, 8] [2, 9] [2, 3, 0, 6, 4, 5, 7, 8, 9, 1] rfl rfl rfl rfl rfl (by decide) (fun _ => rfl) rfl rfl rfl hl.1 rfl (Nat.le_of_ble_eq_true rfl) dX8_drift_44 ⟨Nat.zero_le _, Nat.zero_le _⟩ (fun r_44 now_44 H locs hw hP hD hS => ?_)
            have hP : va_P D vwCl [(a_this, .inr (8, [.int pay, .ref a_weathers, .ref a_hours, .ref a_fear, .int days, .ref a_dayWeather, .ref a_dayHour, .ref a_dayDanger, .ref a_now, .int seed_26, .ref a_text, .int texted, .int faultPlace, .int at0, .int number, .int numberAt, .ref a_readPay, .int readPersons, .ref a_readMarks, .ref a_readWeathers, .ref a_readHours, .ref a_readFear, .int readDays, .ref a_readWeather, .ref a_readHour, .ref a_readDanger, .int undos_13, .ref a_past, .ref a_morning, .ref a_sent, .int watched, .ref a_watchedDay, .ref a_watchedOut, .int booked, .ref a_bookWho, .ref a_bookMarks, .ref a_images, .ref a_isKept])), (a_now, .inl (cI, 13, .inl now_44)), (a_past, .inl (cI, 260, .inl past_13)), (a_dayDanger, .inl (cI, 10, .inl dayDanger)), (a_dayWeather, .inl (cI, 10, .inl dayWeather)), (a_dayHour, .inl (cI, 10, .inl dayHour)), (a_weathers, .inl (cI, 8, .inl weathers)), (a_hours, .inl (cI, 8, .inl hours)), (a_fear, .inl (cI, 8, .inl fear)), (a_morning, .inl (cI, 8, .inl morning_18))] H := hP
            have hD : va_D A [(a_this, .inr (8, [.int pay, .ref a_weathers, .ref a_hours, .ref a_fear, .int days, .ref a_dayWeather, .ref a_dayHour, .ref a_dayDanger, .ref a_now, .int seed_26, .ref a_text, .int texted, .int faultPlace, .int at0, .int number, .int numberAt, .ref a_readPay, .int readPersons, .ref a_readMarks, .ref a_readWeathers, .ref a_readHours, .ref a_readFear, .int readDays, .ref a_readWeather, .ref a_readHour, .ref a_readDanger, .int undos_13, .ref a_past, .ref a_morning, .ref a_sent, .int watched, .ref a_watchedDay, .ref a_watchedOut, .int booked, .ref a_bookWho, .ref a_bookMarks, .ref a_images, .ref a_isKept])), (a_now, .inl (cI, 13, .inl now_44)), (a_past, .inl (cI, 260, .inl past_13)), (a_dayDanger, .inl (cI, 10, .inl dayDanger)), (a_dayWeather, .inl (cI, 10, .inl dayWeather)), (a_dayHour, .inl (cI, 10, .inl dayHour)), (a_weathers, .inl (cI, 8, .inl weathers)), (a_hours, .inl (cI, 8, .inl hours)), (a_fear, .inl (cI, 8, .inl fear)), (a_morning, .inl (cI, 8, .inl morning_18))] := hD
            refine lv_istore (lv' := [(4, .int r_44), (0, .ref a_this), (1, .int p1), (2, .int r_2), (3, .int x3_18)]) hx hb dX8_drift_47 hl (by decide) rfl (fun ls hl => ?_)
            refine lv_aload_n hx hb dX8_drift_49 rfl (lv_at hl 1 rfl) ?_
            refine xwVv (q0 := 0) (ci := 8) (wr := [(a_past, .inl (cI, 260, .inl past_13))]) (As := []) (rest := []) (wc := [(a_this, .inr (8, [.int pay, .ref a_weathers, .ref a_hours, .ref a_fear, .int days, .ref a_dayWeather, .ref a_dayHour, .ref a_dayDanger, .ref a_now, .int seed_26, .ref a_text, .int texted, .int faultPlace, .int at0, .int number, .int numberAt, .ref a_readPay, .int readPersons, .ref a_readMarks, .ref a_readWeathers, .ref a_readHours, .ref a_readFear, .int readDays, .ref a_readWeather, .ref a_readHour, .ref a_readDanger, .int undos_13, .ref a_past, .ref a_morning, .ref a_sent, .int watched, .ref a_watchedDay, .ref a_watchedOut, .int booked, .ref a_bookWho, .ref a_bookMarks, .ref a_images, .ref a_isKept])), (a_now, .inl (cI, 13, .inl now_44)), (a_dayWeather, .inl (cI, 10, .inl dayWeather)), (a_dayHour, .inl (cI, 10, .inl dayHour)), (a_dayDanger, .inl (cI, 10, .inl dayDanger)), (a_weathers, .inl (cI, 8, .inl weathers)), (a_hours, .inl (cI, 8, .inl hours)), (a_fear, .inl (cI, 8, .inl fear)), (a_morning, .inl (cI, 8, .inl morning_18))]) (fun u => [(a_this, .inr (8, [.int pay, .ref a_weathers, .ref a_hours, .ref a_fear, .int days, .ref a_dayWeather, .ref a_dayHour, .ref a_dayDanger, .ref a_now, .int seed_26, .ref a_text, .int texted, .int faultPlace, .int at0, .int number, .int numberAt, .ref a_readPay, .int readPersons, .ref a_readMarks, .ref a_readWeathers, .ref a_readHours, .ref a_readFear, .int readDays, .ref a_readWeather, .ref a_readHour, .ref a_readDanger, .int undos_13, .ref a_past, .ref a_morning, .ref a_sent, .int watched, .ref a_watchedDay, .ref a_watchedOut, .int booked, .ref a_bookWho, .ref a_bookMarks, .ref a_images, .ref a_isKept])), (a_now, .inl (cI, 13, .inl u.1)), (a_past, .inl (cI, 260, .inl past_13)), (a_dayDanger, .inl (cI, 10, .inl dayDanger)), (a_dayWeather, .inl (cI, 10, .inl dayWeather)), (a_dayHour, .inl (cI, 10, .inl dayHour)), (a_weathers, .inl (cI, 8, .inl weathers)), (a_hours, .inl (cI, 8, .inl hours)), (a_fear, .inl (cI, 8, .inl fear)), (a_morning, .inl (cI, 8, .inl u.2))]) ⟨hx, hb, hml, hown, hts⟩ (c_X8_pass l D cI cZ cO hw) (cwV 0 hts gX8_drift_X8_pass rfl rfl rfl (by decide +kernel) ⟨Nat.le_of_ble_eq_true rfl, Nat.le_of_ble_eq_true rfl⟩) hKK hP hD hS hA [0, 1, 4, 5, 3, 6, 7, 8, 9] [2] [1, 2, 0, 5, 3, 4, 6, 7, 8, 9] rfl rfl rfl rfl rfl (by decide) (fun _ => rfl) rfl rfl rfl hl.1 rfl (Nat.le_of_ble_eq_true rfl) dX8_drift_50 ⟨Nat.zero_le _, Nat.zero_le _⟩ (fun u_50 H locs hw hP hD hS => ?_)
            obtain ⟨now_50, morning_50⟩ := u_50
            try dsimp only at hw
            have hP : va_P D vwCl [(a_this, .inr (8, [.int pay, .ref a_weathers, .ref a_hours, .ref a_fear, .int days, .ref a_dayWeather, .ref a_dayHour, .ref a_dayDanger, .ref a_now, .int seed_26, .ref a_text, .int texted, .int faultPlace, .int at0, .int number, .int numberAt, .ref a_readPay, .int readPersons, .ref a_readMarks, .ref a_readWeathers, .ref a_readHours, .ref a_readFear, .int readDays, .ref a_readWeather, .ref a_readHour, .ref a_readDanger, .int undos_13, .ref a_past, .ref a_morning, .ref a_sent, .int watched, .ref a_watchedDay, .ref a_watchedOut, .int booked, .ref a_bookWho, .ref a_bookMarks, .ref a_images, .ref a_isKept])), (a_now, .inl (cI, 13, .inl now_50)), (a_past, .inl (cI, 260, .inl past_13)), (a_dayDanger, .inl (cI, 10, .inl dayDanger)), (a_dayWeather, .inl (cI, 10, .inl dayWeather)), (a_dayHour, .inl (cI, 10, .inl dayHour)), (a_weathers, .inl (cI, 8, .inl weathers)), (a_hours, .inl (cI, 8, .inl hours)), (a_fear, .inl (cI, 8, .inl fear)), (a_morning, .inl (cI, 8, .inl morning_50))] H := hP
            have hD : va_D A [(a_this, .inr (8, [.int pay, .ref a_weathers, .ref a_hours, .ref a_fear, .int days, .ref a_dayWeather, .ref a_dayHour, .ref a_dayDanger, .ref a_now, .int seed_26, .ref a_text, .int texted, .int faultPlace, .int at0, .int number, .int numberAt, .ref a_readPay, .int readPersons, .ref a_readMarks, .ref a_readWeathers, .ref a_readHours, .ref a_readFear, .int readDays, .ref a_readWeather, .ref a_readHour, .ref a_readDanger, .int undos_13, .ref a_past, .ref a_morning, .ref a_sent, .int watched, .ref a_watchedDay, .ref a_watchedOut, .int booked, .ref a_bookWho, .ref a_bookMarks, .ref a_images, .ref a_isKept])), (a_now, .inl (cI, 13, .inl now_50)), (a_past, .inl (cI, 260, .inl past_13)), (a_dayDanger, .inl (cI, 10, .inl dayDanger)), (a_dayWeather, .inl (cI, 10, .inl dayWeather)), (a_dayHour, .inl (cI, 10, .inl dayHour)), (a_weathers, .inl (cI, 8, .inl weathers)), (a_hours, .inl (cI, 8, .inl hours)), (a_fear, .inl (cI, 8, .inl fear)), (a_morning, .inl (cI, 8, .inl morning_50))] := hD
            refine lv_iinc (v := (x3_18 + 1)) (lv' := [(3, .int (x3_18 + 1)), (4, .int r_44), (0, .ref a_this), (1, .int p1), (2, .int r_2)]) hx hb dX8_drift_53 hl (k := 4) rfl (by rfl) (by decide) rfl (fun ls hl => ?_)
            refine lv_goto (tgt := 18) hx hb dX8_drift_56 (by decide) ?_
            exact ih _ _ _ _ _ _ hP hD hS ls (lv_sub hl [2, 3, 4, 0] rfl) hw
    obtain ⟨n, hw⟩ := hw
    exact LP_18 n _ _ _ _ _ _ hP hD hS ls (lv_sub hl [2, 3, 1, 0] rfl) hw
  · have hw := hw.2 c_7
    refine lv_iload_n hx hb dX8_drift_10 rfl (lv_at hl 0 rfl) ?_
    rw [hQ]
    exact W.iret (v := r_2) hx hb hr (fun t ht _ => ⟨⟨r_2, ⟨undos, past, seed, now, morning⟩, rfl, hw, by rw [ht]; exact hP, hD⟩, hS.F ht⟩) hS.2.2 dX8_drift_11
def wk_X8_undo_22 (undos : Int32) (Φ : Int32 → Int32 → (Nat → Int32) → Prop) (now_22 : Nat → Int32) (x1_22 : Int32) : Prop :=
  (Φ (undos - 1) (undos - 1) now_22)
def wb_X8_undo_22 (undos : Int32) (past : Nat → Int32) (K_22 : (Nat → Int32) → Int32 → Prop) (rec_22 : (Nat → Int32) → Int32 → Prop) (now_22 : Nat → Int32) (x1_22 : Int32) : Prop :=
  ((13 ≤ x1_22 → (K_22 now_22 x1_22)) ∧ (¬ 13 ≤ x1_22 → (vp_in ((13 * (undos - 1)) + x1_22) 260 ∧ (vp_in x1_22 13 ∧ (rec_22 (upd now_22 x1_22.toNatClampNeg (past ((13 * (undos - 1)) + x1_22).toNatClampNeg)) (x1_22 + 1))))))
def wp_X8_undo (undos : Int32) (past : Nat → Int32) (now : Nat → Int32) (Φ : Int32 → Int32 → (Nat → Int32) → Prop) : Prop :=
  ((undos = 0 → (Φ (-1000000003) undos now)) ∧ (¬ undos = 0 → (∃ n : Nat, xit2 (wb_X8_undo_22 undos past (wk_X8_undo_22 undos Φ)) n now 0)))
abbrev xrm_X8_undo : Room := { frames := 0, cells := 0, slots := 0, locals := 0 }
set_option maxRecDepth 100000 in
set_option maxHeartbeats 4000000 in
theorem c_X8_undo (l : Launch) (D : va_G) (cI cZ cO : ClassId) {pay : Int32} {a_weathers : Nat} {a_hours : Nat} {a_fear : Nat} {days : Int32} {a_dayWeather : Nat} {a_dayHour : Nat} {a_dayDanger : Nat} {a_now : Nat} {seed : Int32} {a_text : Nat} {texted : Int32} {faultPlace : Int32} {at0 : Int32} {number : Int32} {numberAt : Int32} {a_readPay : Nat} {readPersons : Int32} {a_readMarks : Nat} {a_readWeathers : Nat} {a_readHours : Nat} {a_readFear : Nat} {readDays : Int32} {a_readWeather : Nat} {a_readHour : Nat} {a_readDanger : Nat} {undos : Int32} {a_past : Nat} {a_morning : Nat} {a_sent : Nat} {watched : Int32} {a_watchedDay : Nat} {a_watchedOut : Nat} {booked : Int32} {a_bookWho : Nat} {a_bookMarks : Nat} {a_images : Nat} {a_isKept : Nat} {a_this : Nat} {past : Nat → Int32} {now : Nat → Int32} {Φ : Int32 → Int32 → (Nat → Int32) → Prop} {sz : Nat} (hw : (wp_X8_undo undos past now Φ)) : Met l yX8_undo wsX8_undo xrm_X8_undo (xPW D cI cZ cO [.ref a_this] sz [(a_this, .inr (8, [.int pay, .ref a_weathers, .ref a_hours, .ref a_fear, .int days, .ref a_dayWeather, .ref a_dayHour, .ref a_dayDanger, .ref a_now, .int seed, .ref a_text, .int texted, .int faultPlace, .int at0, .int number, .int numberAt, .ref a_readPay, .int readPersons, .ref a_readMarks, .ref a_readWeathers, .ref a_readHours, .ref a_readFear, .int readDays, .ref a_readWeather, .ref a_readHour, .ref a_readDanger, .int undos, .ref a_past, .ref a_morning, .ref a_sent, .int watched, .ref a_watchedDay, .ref a_watchedOut, .int booked, .ref a_bookWho, .ref a_bookMarks, .ref a_images, .ref a_isKept])), (a_past, .inl (cI, 260, .inl past)), (a_now, .inl (cI, 13, .inl now))]) (va_Qi (fun (r : Int32) (u : Int32 × (Nat → Int32)) => Φ r u.1 u.2) (xB D (va_A [(a_this, .inr (8, [.int pay, .ref a_weathers, .ref a_hours, .ref a_fear, .int days, .ref a_dayWeather, .ref a_dayHour, .ref a_dayDanger, .ref a_now, .int seed, .ref a_text, .int texted, .int faultPlace, .int at0, .int number, .int numberAt, .ref a_readPay, .int readPersons, .ref a_readMarks, .ref a_readWeathers, .ref a_readHours, .ref a_readFear, .int readDays, .ref a_readWeather, .ref a_readHour, .ref a_readDanger, .int undos, .ref a_past, .ref a_morning, .ref a_sent, .int watched, .ref a_watchedDay, .ref a_watchedOut, .int booked, .ref a_bookWho, .ref a_bookMarks, .ref a_images, .ref a_isKept])), (a_past, .inl (cI, 260, .inl past)), (a_now, .inl (cI, 13, .inl now))] sz) (fun (u : Int32 × (Nat → Int32)) => [(a_this, .inr (8, [.int pay, .ref a_weathers, .ref a_hours, .ref a_fear, .int days, .ref a_dayWeather, .ref a_dayHour, .ref a_dayDanger, .ref a_now, .int seed, .ref a_text, .int texted, .int faultPlace, .int at0, .int number, .int numberAt, .ref a_readPay, .int readPersons, .ref a_readMarks, .ref a_readWeathers, .ref a_readHours, .ref a_readFear, .int readDays, .ref a_readWeather, .ref a_readHour, .ref a_readDanger, .int u.1, .ref a_past, .ref a_morning, .ref a_sent, .int watched, .ref a_watchedDay, .ref a_watchedOut, .int booked, .ref a_bookWho, .ref a_bookMarks, .ref a_images, .ref a_isKept])), (a_past, .inl (cI, 260, .inl past)), (a_now, .inl (cI, 13, .inl u.2))])) (va_A [(a_this, .inr (8, [.int pay, .ref a_weathers, .ref a_hours, .ref a_fear, .int days, .ref a_dayWeather, .ref a_dayHour, .ref a_dayDanger, .ref a_now, .int seed, .ref a_text, .int texted, .int faultPlace, .int at0, .int number, .int numberAt, .ref a_readPay, .int readPersons, .ref a_readMarks, .ref a_readWeathers, .ref a_readHours, .ref a_readFear, .int readDays, .ref a_readWeather, .ref a_readHour, .ref a_readDanger, .int undos, .ref a_past, .ref a_morning, .ref a_sent, .int watched, .ref a_watchedDay, .ref a_watchedOut, .int booked, .ref a_bookWho, .ref a_bookMarks, .ref a_images, .ref a_isKept])), (a_past, .inl (cI, 260, .inl past)), (a_now, .inl (cI, 13, .inl now))] sz)) 0 0 (va_A [(a_this, .inr (8, [.int pay, .ref a_weathers, .ref a_hours, .ref a_fear, .int days, .ref a_dayWeather, .ref a_dayHour, .ref a_dayDanger, .ref a_now, .int seed, .ref a_text, .int texted, .int faultPlace, .int at0, .int number, .int numberAt, .ref a_readPay, .int readPersons, .ref a_readMarks, .ref a_readWeathers, .ref a_readHours, .ref a_readFear, .int readDays, .ref a_readWeather, .ref a_readHour, .ref a_readDanger, .int undos, .ref a_past, .ref a_morning, .ref a_sent, .int watched, .ref a_watchedDay, .ref a_watchedOut, .int booked, .ref a_bookWho, .ref a_bookMarks, .ref a_images, .ref a_isKept])), (a_past, .inl (cI, 260, .inl past)), (a_now, .inl (cI, 13, .inl now))] sz) := by
  refine Met.ofW (cc := cX8_undo) (maxL := 2) (ret := (some .int)) (by decide) rfl ?_
  intro p e s m args below meth c s₁ B hml hv
  obtain ⟨rfl, hsz, hP, hKK, hD0⟩ := hv
  have hx := B.exec
  have hb := B.bytes
  have hr := B.returns
  have hts := atoms_spec (ws := wsX8_undo) B.pre
  have hown : s.vm.findClass RX8 = some m.cls := findClass_of_methodNamed B.named
  have hlocks := B.notSynchronized
  subst hsz
  have hD := hD0.self (sz := s.heap.size)
  obtain ⟨Q, hQ⟩ : ∃ Q, Q = MQ below (va_Qi (fun (r : Int32) (u : Int32 × (Nat → Int32)) => Φ r u.1 u.2) (xB D (va_A [(a_this, .inr (8, [.int pay, .ref a_weathers, .ref a_hours, .ref a_fear, .int days, .ref a_dayWeather, .ref a_dayHour, .ref a_dayDanger, .ref a_now, .int seed, .ref a_text, .int texted, .int faultPlace, .int at0, .int number, .int numberAt, .ref a_readPay, .int readPersons, .ref a_readMarks, .ref a_readWeathers, .ref a_readHours, .ref a_readFear, .int readDays, .ref a_readWeather, .ref a_readHour, .ref a_readDanger, .int undos, .ref a_past, .ref a_morning, .ref a_sent, .int watched, .ref a_watchedDay, .ref a_watchedOut, .int booked, .ref a_bookWho, .ref a_bookMarks, .ref a_images, .ref a_isKept])), (a_past, .inl (cI, 260, .inl past)), (a_now, .inl (cI, 13, .inl now))] s.heap.size) (fun (u : Int32 × (Nat → Int32)) => [(a_this, .inr (8, [.int pay, .ref a_weathers, .ref a_hours, .ref a_fear, .int days, .ref a_dayWeather, .ref a_dayHour, .ref a_dayDanger, .ref a_now, .int seed, .ref a_text, .int texted, .int faultPlace, .int at0, .int number, .int numberAt, .ref a_readPay, .int readPersons, .ref a_readMarks, .ref a_readWeathers, .ref a_readHours, .ref a_readFear, .int readDays, .ref a_readWeather, .ref a_readHour, .ref a_readDanger, .int u.1, .ref a_past, .ref a_morning, .ref a_sent, .int watched, .ref a_watchedDay, .ref a_watchedOut, .int booked, .ref a_bookWho, .ref a_bookMarks, .ref a_images, .ref a_isKept])), (a_past, .inl (cI, 260, .inl past)), (a_now, .inl (cI, 13, .inl u.2))])) (va_A [(a_this, .inr (8, [.int pay, .ref a_weathers, .ref a_hours, .ref a_fear, .int days, .ref a_dayWeather, .ref a_dayHour, .ref a_dayDanger, .ref a_now, .int seed, .ref a_text, .int texted, .int faultPlace, .int at0, .int number, .int numberAt, .ref a_readPay, .int readPersons, .ref a_readMarks, .ref a_readWeathers, .ref a_readHours, .ref a_readFear, .int readDays, .ref a_readWeather, .ref a_readHour, .ref a_readDanger, .int undos, .ref a_past, .ref a_morning, .ref a_sent, .int watched, .ref a_watchedDay, .ref a_watchedOut, .int booked, .ref a_bookWho, .ref a_bookMarks, .ref a_images, .ref a_isKept])), (a_past, .inl (cI, 260, .inl past)), (a_now, .inl (cI, 13, .inl now))] s.heap.size)) ([.ref a_this] : List Value).toArray s 0 0 (va_A [(a_this, .inr (8, [.int pay, .ref a_weathers, .ref a_hours, .ref a_fear, .int days, .ref a_dayWeather, .ref a_dayHour, .ref a_dayDanger, .ref a_now, .int seed, .ref a_text, .int texted, .int faultPlace, .int at0, .int number, .int numberAt, .ref a_readPay, .int readPersons, .ref a_readMarks, .ref a_readWeathers, .ref a_readHours, .ref a_readFear, .int readDays, .ref a_readWeather, .ref a_readHour, .ref a_readDanger, .int undos, .ref a_past, .ref a_morning, .ref a_sent, .int watched, .ref a_watchedDay, .ref a_watchedOut, .int booked, .ref a_bookWho, .ref a_bookMarks, .ref a_images, .ref a_isKept])), (a_past, .inl (cI, 260, .inl past)), (a_now, .inl (cI, 13, .inl now))] s.heap.size) := ⟨_, rfl⟩
  rw [← hQ]
  generalize hAe : va_A [(a_this, .inr (8, [.int pay, .ref a_weathers, .ref a_hours, .ref a_fear, .int days, .ref a_dayWeather, .ref a_dayHour, .ref a_dayDanger, .ref a_now, .int seed, .ref a_text, .int texted, .int faultPlace, .int at0, .int number, .int numberAt, .ref a_readPay, .int readPersons, .ref a_readMarks, .ref a_readWeathers, .ref a_readHours, .ref a_readFear, .int readDays, .ref a_readWeather, .ref a_readHour, .ref a_readDanger, .int undos, .ref a_past, .ref a_morning, .ref a_sent, .int watched, .ref a_watchedDay, .ref a_watchedOut, .int booked, .ref a_bookWho, .ref a_bookMarks, .ref a_images, .ref a_isKept])), (a_past, .inl (cI, 260, .inl past)), (a_now, .inl (cI, 13, .inl now))] s.heap.size = A at hD hQ
  have hA : ∀ q : Nat, s.heap.size ≤ q → A q := fun q h => by rw [← hAe]; exact Or.inr h
  have hS : va_S A s.heap s.heap [] := va_S.rf
  have hl := lv_entry ([.ref a_this]) (n := 2) (Nat.le_of_ble_eq_true rfl)
  rw [lg_entry_eq]
  generalize (lg_sl ([.ref a_this]) ++ List.replicate (2 - (lg_sl ([.ref a_this])).length) Slot.unset).toArray = ls at hl ⊢
  have hl : lv_has ls 2 [(0, .ref a_this)] := hl
  generalize ([.ref a_this] : List Value).toArray = args at hts hQ ⊢
  have hP : va_P D vwCl [(a_this, .inr (8, [.int pay, .ref a_weathers, .ref a_hours, .ref a_fear, .int days, .ref a_dayWeather, .ref a_dayHour, .ref a_dayDanger, .ref a_now, .int seed, .ref a_text, .int texted, .int faultPlace, .int at0, .int number, .int numberAt, .ref a_readPay, .int readPersons, .ref a_readMarks, .ref a_readWeathers, .ref a_readHours, .ref a_readFear, .int readDays, .ref a_readWeather, .ref a_readHour, .ref a_readDanger, .int undos, .ref a_past, .ref a_morning, .ref a_sent, .int watched, .ref a_watchedDay, .ref a_watchedOut, .int booked, .ref a_bookWho, .ref a_bookMarks, .ref a_images, .ref a_isKept])), (a_past, .inl (cI, 260, .inl past)), (a_now, .inl (cI, 13, .inl now))] s.heap := hP
  have hinX8 : ∀ w ∈ u_ws RX8 TX8 38, w ∈ wsX8_undo := by decide +kernel
  have fl_28 := hts (.fieldLink RX8 28 "DoubleChainModel" "now" "[I") (by decide +kernel)
  have fl_62 := hts (.fieldLink RX8 62 "DoubleChainModel" "past" "[I") (by decide +kernel)
  have fl_163 := hts (.fieldLink RX8 163 "DoubleChainModel" "undos" "I") (by decide +kernel)
  clear B
  show W p l e xrm_X8_undo s m args below meth c s.heap [] 0 0 Q (F0 m 0 ls [])
  unfold wp_X8_undo at hw
  refine lv_aload_n hx hb dX8_undo_0 rfl (lv_at hl 0 rfl) ?_
  refine va_get (D := D) (ci := 8) (v := .int undos) (C := RX8) (T := TX8) (N := 38) hx hb hts hinX8 hown hKK.1 hP 0 rfl rfl 26 (by decide) fl_163 (fun _ h9 => h9) rfl dX8_undo_1 ?_
  refine lv_if_ne (tgt := 10) hx hb dX8_undo_4 (by decide) (fun c_4 => ?_) (fun c_4 => ?_)
  · have hw := hw.2 c_4
    refine lv_aload_n hx hb dX8_undo_10 rfl (lv_at hl 0 rfl) ?_
    refine lv_dup hx hb dX8_undo_11 rfl ?_
    refine va_get (D := D) (ci := 8) (v := .int undos) (C := RX8) (T := TX8) (N := 38) hx hb hts hinX8 hown hKK.1 hP 0 rfl rfl 26 (by decide) fl_163 (fun _ h9 => h9) rfl dX8_undo_12 ?_
    refine lv_iconst (v := 1) hx hb dX8_undo_15 (by decide) ?_
    refine lv_isub hx hb dX8_undo_16 ?_
    refine va_put (D := D) (ci := 8) (v := .int (undos - 1)) (ty := .int) (C := RX8) (T := TX8) (N := 38) hx hb hts hinX8 tyX8 tyX8_ok nmX8 hown hKK.1 hP hD hS 0 rfl rfl 26 (by decide) fl_163 (fun _ h9 => h9) rfl (by decide +kernel) rfl rfl (Nat.le_of_ble_eq_true rfl) dX8_undo_17 (fun H locs hP hD hS => ?_)
    have hP : va_P D vwCl [(a_this, .inr (8, [.int pay, .ref a_weathers, .ref a_hours, .ref a_fear, .int days, .ref a_dayWeather, .ref a_dayHour, .ref a_dayDanger, .ref a_now, .int seed, .ref a_text, .int texted, .int faultPlace, .int at0, .int number, .int numberAt, .ref a_readPay, .int readPersons, .ref a_readMarks, .ref a_readWeathers, .ref a_readHours, .ref a_readFear, .int readDays, .ref a_readWeather, .ref a_readHour, .ref a_readDanger, .int (undos - 1), .ref a_past, .ref a_morning, .ref a_sent, .int watched, .ref a_watchedDay, .ref a_watchedOut, .int booked, .ref a_bookWho, .ref a_bookMarks, .ref a_images, .ref a_isKept])), (a_past, .inl (cI, 260, .inl past)), (a_now, .inl (cI, 13, .inl now))] H := hP
    have hD : va_D A [(a_this, .inr (8, [.int pay, .ref a_weathers, .ref a_hours, .ref a_fear, .int days, .ref a_dayWeather, .ref a_dayHour, .ref a_dayDanger, .ref a_now, .int seed, .ref a_text, .int texted, .int faultPlace, .int at0, .int number, .int numberAt, .ref a_readPay, .int readPersons, .ref a_readMarks, .ref a_readWeathers, .ref a_readHours, .ref a_readFear, .int readDays, .ref a_readWeather, .ref a_readHour, .ref a_readDanger, .int (undos - 1), .ref a_past, .ref a_morning, .ref a_sent, .int watched, .ref a_watchedDay, .ref a_watchedOut, .int booked, .ref a_bookWho, .ref a_bookMarks, .ref a_images, .ref a_isKept])), (a_past, .inl (cI, 260, .inl past)), (a_now, .inl (cI, 13, .inl now))] := hD
    refine lv_iconst (v := 0) hx hb dX8_undo_20 (by decide) ?_
    refine lv_istore_n (lv' := [(1, .int 0), (0, .ref a_this)]) hx hb dX8_undo_21 rfl hl (by decide) rfl (fun ls hl => ?_)
    have EX_22 : ∀ (now_22 : Nat → Int32) (x1_22 : Int32), ∀ (H : Heap) (locs : List Loc), va_P D vwCl [(a_this, .inr (8, [.int pay, .ref a_weathers, .ref a_hours, .ref a_fear, .int days, .ref a_dayWeather, .ref a_dayHour, .ref a_dayDanger, .ref a_now, .int seed, .ref a_text, .int texted, .int faultPlace, .int at0, .int number, .int numberAt, .ref a_readPay, .int readPersons, .ref a_readMarks, .ref a_readWeathers, .ref a_readHours, .ref a_readFear, .int readDays, .ref a_readWeather, .ref a_readHour, .ref a_readDanger, .int (undos - 1), .ref a_past, .ref a_morning, .ref a_sent, .int watched, .ref a_watchedDay, .ref a_watchedOut, .int booked, .ref a_bookWho, .ref a_bookMarks, .ref a_images, .ref a_isKept])), (a_past, .inl (cI, 260, .inl past)), (a_now, .inl (cI, 13, .inl now_22))] H → va_D A [(a_this, .inr (8, [.int pay, .ref a_weathers, .ref a_hours, .ref a_fear, .int days, .ref a_dayWeather, .ref a_dayHour, .ref a_dayDanger, .ref a_now, .int seed, .ref a_text, .int texted, .int faultPlace, .int at0, .int number, .int numberAt, .ref a_readPay, .int readPersons, .ref a_readMarks, .ref a_readWeathers, .ref a_readHours, .ref a_readFear, .int readDays, .ref a_readWeather, .ref a_readHour, .ref a_readDanger, .int (undos - 1), .ref a_past, .ref a_morning, .ref a_sent, .int watched, .ref a_watchedDay, .ref a_watchedOut, .int booked, .ref a_bookWho, .ref a_bookMarks, .ref a_images, .ref a_isKept])), (a_past, .inl (cI, 260, .inl past)), (a_now, .inl (cI, 13, .inl now_22))] → va_S A s.heap H locs → ∀ (ls : Array Slot), lv_has ls 2 [(0, .ref a_this), (1, .int x1_22)] → (wk_X8_undo_22 undos Φ now_22 x1_22) → W p l e xrm_X8_undo s m args below meth c H locs 0 0 Q (F0 m 54 ls []) := by
      intro now_22 x1_22 H locs hP hD hS ls hl hw
      unfold wk_X8_undo_22 at hw
      refine lv_aload_n hx hb dX8_undo_54 rfl (lv_at hl 0 rfl) ?_
      refine va_get (D := D) (ci := 8) (v := .int (undos - 1)) (C := RX8) (T := TX8) (N := 38) hx hb hts hinX8 hown hKK.1 hP 0 rfl rfl 26 (by decide) fl_163 (fun _ h9 => h9) rfl dX8_undo_55 ?_
      rw [hQ]
      exact W.iret (v := (undos - 1)) hx hb hr (fun t ht _ => ⟨⟨(undos - 1), ⟨(undos - 1), now_22⟩, rfl, hw, by rw [ht]; exact hP, hD⟩, hS.F ht⟩) hS.2.2 dX8_undo_58
    generalize (wk_X8_undo_22 undos Φ) = K_22 at EX_22 hw
    have LP_22 : ∀ n : Nat, ∀ (now_22 : Nat → Int32) (x1_22 : Int32), ∀ (H : Heap) (locs : List Loc), va_P D vwCl [(a_this, .inr (8, [.int pay, .ref a_weathers, .ref a_hours, .ref a_fear, .int days, .ref a_dayWeather, .ref a_dayHour, .ref a_dayDanger, .ref a_now, .int seed, .ref a_text, .int texted, .int faultPlace, .int at0, .int number, .int numberAt, .ref a_readPay, .int readPersons, .ref a_readMarks, .ref a_readWeathers, .ref a_readHours, .ref a_readFear, .int readDays, .ref a_readWeather, .ref a_readHour, .ref a_readDanger, .int (undos - 1), .ref a_past, .ref a_morning, .ref a_sent, .int watched, .ref a_watchedDay, .ref a_watchedOut, .int booked, .ref a_bookWho, .ref a_bookMarks, .ref a_images, .ref a_isKept])), (a_past, .inl (cI, 260, .inl past)), (a_now, .inl (cI, 13, .inl now_22))] H → va_D A [(a_this, .inr (8, [.int pay, .ref a_weathers, .ref a_hours, .ref a_fear, .int days, .ref a_dayWeather, .ref a_dayHour, .ref a_dayDanger, .ref a_now, .int seed, .ref a_text, .int texted, .int faultPlace, .int at0, .int number, .int numberAt, .ref a_readPay, .int readPersons, .ref a_readMarks, .ref a_readWeathers, .ref a_readHours, .ref a_readFear, .int readDays, .ref a_readWeather, .ref a_readHour, .ref a_readDanger, .int (undos - 1), .ref a_past, .ref a_morning, .ref a_sent, .int watched, .ref a_watchedDay, .ref a_watchedOut, .int booked, .ref a_bookWho, .ref a_bookMarks, .ref a_images, .ref a_isKept])), (a_past, .inl (cI, 260, .inl past)), (a_now, .inl (cI, 13, .inl now_22))] → va_S A s.heap H locs → ∀ (ls : Array Slot), lv_has ls 2 [(0, .ref a_this), (1, .int x1_22)] → xit2 (wb_X8_undo_22 undos past K_22) n now_22 x1_22 → W p l e xrm_X8_undo s m args below meth c H locs 0 0 Q (F0 m 22 ls []) := by
      intro n
      induction n with
      | zero => intro now_22 x1_22 H locs hP hD hS ls hl hw; exact (show False from hw).elim
      | succ n ih =>
        intro now_22 x1_22 H locs hP hD hS ls hl hw
        have hw : wb_X8_undo_22 undos past K_22 (xit2 (wb_X8_undo_22 undos past K_22) n) now_22 x1_22 := hw
        generalize xit2 (wb_X8_undo_22 undos past K_22) n = rec_22 at ih hw
        unfold wb_X8_undo_22 at hw
        refine lv_iload_n hx hb dX8_undo_22 rfl (lv_at hl 1 rfl) ?_
        refine lv_bipush (v := 13) hx hb dX8_undo_23 (by decide) ?_
        refine lv_icmp_ge (tgt := 54) hx hb dX8_undo_25 (by decide) (fun c_25 => ?_) (fun c_25 => ?_)
        · have hw := hw.1 c_25
          exact EX_22 _ _ _ _ hP hD hS ls (lv_sub hl [0, 1] rfl) hw
        · have hw := hw.2 c_25
          refine lv_aload_n hx hb dX8_undo_28 rfl (lv_at hl 0 rfl) ?_
          refine va_get (D := D) (ci := 8) (v := .ref a_now) (C := RX8) (T := TX8) (N := 38) hx hb hts hinX8 hown hKK.1 hP 0 rfl rfl 8 (by decide) fl_28 (fun _ h9 => h9) rfl dX8_undo_29 ?_
          refine lv_iload_n hx hb dX8_undo_32 rfl (lv_at hl 1 rfl) ?_
          refine lv_aload_n hx hb dX8_undo_33 rfl (lv_at hl 0 rfl) ?_
          refine va_get (D := D) (ci := 8) (v := .ref a_past) (C := RX8) (T := TX8) (N := 38) hx hb hts hinX8 hown hKK.1 hP 0 rfl rfl 27 (by decide) fl_62 (fun _ h9 => h9) rfl dX8_undo_34 ?_
          refine lv_bipush (v := 13) hx hb dX8_undo_37 (by decide) ?_
          refine lv_aload_n hx hb dX8_undo_39 rfl (lv_at hl 0 rfl) ?_
          refine va_get (D := D) (ci := 8) (v := .int (undos - 1)) (C := RX8) (T := TX8) (N := 38) hx hb hts hinX8 hown hKK.1 hP 0 rfl rfl 26 (by decide) fl_163 (fun _ h9 => h9) rfl dX8_undo_40 ?_
          refine lv_imul hx hb dX8_undo_43 ?_
          refine lv_iload_n hx hb dX8_undo_44 rfl (lv_at hl 1 rfl) ?_
          refine lv_iadd hx hb dX8_undo_45 ?_
          obtain ⟨hin, hw⟩ := hw
          refine va_iald hx hb hKK.1 hP 1 0 rfl rfl hin dX8_undo_46 ?_
          obtain ⟨hin, hw⟩ := hw
          refine va_iast hx hb hKK.1 hP hD hS 2 0 rfl rfl hin dX8_undo_47 (fun H locs hP hD hS => ?_)
          have hP : va_P D vwCl [(a_this, .inr (8, [.int pay, .ref a_weathers, .ref a_hours, .ref a_fear, .int days, .ref a_dayWeather, .ref a_dayHour, .ref a_dayDanger, .ref a_now, .int seed, .ref a_text, .int texted, .int faultPlace, .int at0, .int number, .int numberAt, .ref a_readPay, .int readPersons, .ref a_readMarks, .ref a_readWeathers, .ref a_readHours, .ref a_readFear, .int readDays, .ref a_readWeather, .ref a_readHour, .ref a_readDanger, .int (undos - 1), .ref a_past, .ref a_morning, .ref a_sent, .int watched, .ref a_watchedDay, .ref a_watchedOut, .int booked, .ref a_bookWho, .ref a_bookMarks, .ref a_images, .ref a_isKept])), (a_past, .inl (cI, 260, .inl past)), (a_now, .inl (cI, 13, .inl (upd now_22 x1_22.toNatClampNeg (past ((13 * (undos - 1)) + x1_22).toNatClampNeg))))] H := hP
          have hD : va_D A [(a_this, .inr (8, [.int pay, .ref a_weathers, .ref a_hours, .ref a_fear, .int days, .ref a_dayWeather, .ref a_dayHour, .ref a_dayDanger, .ref a_now, .int seed, .ref a_text, .int texted, .int faultPlace, .int at0, .int number, .int numberAt, .ref a_readPay, .int readPersons, .ref a_readMarks, .ref a_readWeathers, .ref a_readHours, .ref a_readFear, .int readDays, .ref a_readWeather, .ref a_readHour, .ref a_readDanger, .int (undos - 1), .ref a_past, .ref a_morning, .ref a_sent, .int watched, .ref a_watchedDay, .ref a_watchedOut, .int booked, .ref a_bookWho, .ref a_bookMarks, .ref a_images, .ref a_isKept])), (a_past, .inl (cI, 260, .inl past)), (a_now, .inl (cI, 13, .inl (upd now_22 x1_22.toNatClampNeg (past ((13 * (undos - 1)) + x1_22).toNatClampNeg))))] := hD
          refine lv_iinc (v := (x1_22 + 1)) (lv' := [(1, .int (x1_22 + 1)), (0, .ref a_this)]) hx hb dX8_undo_48 hl (k := 1) rfl (by rfl) (by decide) rfl (fun ls hl => ?_)
          refine lv_goto (tgt := 22) hx hb dX8_undo_51 (by decide) ?_
          exact ih _ _ _ _ hP hD hS ls (lv_sub hl [1, 0] rfl) hw
    obtain ⟨n, hw⟩ := hw
    exact LP_22 n _ _ _ _ hP hD hS ls (lv_sub hl [1, 0] rfl) hw
  · have hw := hw.1 c_4
    refine lv_ldc (v := (-1000000003)) hx hb hown (hts (.constant RX8 203 (-1000000003)) (by decide +kernel)) dX8_undo_7 ?_
    rw [hQ]
    exact W.iret (v := (-1000000003)) hx hb hr (fun t ht _ => ⟨⟨(-1000000003), ⟨undos, now⟩, rfl, hw, by rw [ht]; exact hP, hD⟩, hS.F ht⟩) hS.2.2 dX8_undo_9
def wk_X8_would_42 (Φ : Int32 → Prop) (x4_42 : Int32) : Prop :=
  (Φ (-1))
def wb_X8_would_42 (now : Nat → Int32) (weathers : Nat → Int32) (hours : Nat → Int32) (fear : Nat → Int32) (p1 : Int32) (p2 : Int32) (p3 : Int32) (Φ : Int32 → Prop) (K_42 : Int32 → Prop) (rec_42 : Int32 → Prop) (x4_42 : Int32) : Prop :=
  (((now 8) ≤ x4_42 → (K_42 x4_42)) ∧ (¬ (now 8) ≤ x4_42 → (wp_X8_lives now x4_42 (fun r_57 => ((r_57 = 0 → (rec_42 (x4_42 + 1))) ∧ (¬ r_57 = 0 → (wp_X8_goesBy weathers hours fear x4_42 p1 p2 p3 (fun r_69 => ((r_69 = 0 → (rec_42 (x4_42 + 1))) ∧ (¬ r_69 = 0 → (Φ x4_42)))))))))))
def wp_X8_would (now : Nat → Int32) (weathers : Nat → Int32) (hours : Nat → Int32) (fear : Nat → Int32) (p1 : Int32) (p2 : Int32) (p3 : Int32) (Φ : Int32 → Prop) : Prop :=
  (wp_X8_in (p1).toInt64 0 2 (fun r_6 => ((r_6 = 0 → (Φ (-1000000002))) ∧ (¬ r_6 = 0 → (wp_X8_in (p2).toInt64 0 3 (fun r_18 => ((r_18 = 0 → (Φ (-1000000002))) ∧ (¬ r_18 = 0 → (wp_X8_in (p3).toInt64 0 9 (fun r_30 => ((r_30 = 0 → (Φ (-1000000002))) ∧ (¬ r_30 = 0 → (∃ n : Nat, xit1 (wb_X8_would_42 now weathers hours fear p1 p2 p3 Φ (wk_X8_would_42 Φ)) n 0)))))))))))))
abbrev xrm_X8_would : Room := { frames := 2, cells := 0, slots := 0, locals := 45 }
set_option maxRecDepth 100000 in
set_option maxHeartbeats 4000000 in
theorem c_X8_would (l : Launch) (D : va_G) (cI cZ cO : ClassId) {pay : Int32} {a_weathers : Nat} {a_hours : Nat} {a_fear : Nat} {days : Int32} {a_dayWeather : Nat} {a_dayHour : Nat} {a_dayDanger : Nat} {a_now : Nat} {seed : Int32} {a_text : Nat} {texted : Int32} {faultPlace : Int32} {at0 : Int32} {number : Int32} {numberAt : Int32} {a_readPay : Nat} {readPersons : Int32} {a_readMarks : Nat} {a_readWeathers : Nat} {a_readHours : Nat} {a_readFear : Nat} {readDays : Int32} {a_readWeather : Nat} {a_readHour : Nat} {a_readDanger : Nat} {undos : Int32} {a_past : Nat} {a_morning : Nat} {a_sent : Nat} {watched : Int32} {a_watchedDay : Nat} {a_watchedOut : Nat} {booked : Int32} {a_bookWho : Nat} {a_bookMarks : Nat} {a_images : Nat} {a_isKept : Nat} {a_this : Nat} {now : Nat → Int32} {weathers : Nat → Int32} {hours : Nat → Int32} {fear : Nat → Int32} {p1 : Int32} {p2 : Int32} {p3 : Int32} {Φ : Int32 → Prop} (hw : (wp_X8_would now weathers hours fear p1 p2 p3 Φ)) : Met l yX8_would wsX8_would xrm_X8_would (xPR D cI cZ cO [.ref a_this, .int p1, .int p2, .int p3] [(a_this, .inr (8, [.int pay, .ref a_weathers, .ref a_hours, .ref a_fear, .int days, .ref a_dayWeather, .ref a_dayHour, .ref a_dayDanger, .ref a_now, .int seed, .ref a_text, .int texted, .int faultPlace, .int at0, .int number, .int numberAt, .ref a_readPay, .int readPersons, .ref a_readMarks, .ref a_readWeathers, .ref a_readHours, .ref a_readFear, .int readDays, .ref a_readWeather, .ref a_readHour, .ref a_readDanger, .int undos, .ref a_past, .ref a_morning, .ref a_sent, .int watched, .ref a_watchedDay, .ref a_watchedOut, .int booked, .ref a_bookWho, .ref a_bookMarks, .ref a_images, .ref a_isKept])), (a_now, .inl (cI, 13, .inl now)), (a_weathers, .inl (cI, 8, .inl weathers)), (a_hours, .inl (cI, 8, .inl hours)), (a_fear, .inl (cI, 8, .inl fear))]) (vp_Si Φ) 0 0 (fun _ => False) := by
  refine Met.ofW (cc := cX8_would) (maxL := 5) (ret := (some .int)) (by decide) rfl ?_
  intro p e s m args below meth c s₁ B hml hv
  obtain ⟨rfl, hP, hKK⟩ := hv
  have hx := B.exec
  have hb := B.bytes
  have hr := B.returns
  have hts := atoms_spec (ws := wsX8_would) B.pre
  have hown : s.vm.findClass RX8 = some m.cls := findClass_of_methodNamed B.named
  have hlocks := B.notSynchronized
  obtain ⟨Q, hQ⟩ : ∃ Q, Q = MQ below (vp_Si Φ) ([.ref a_this, .int p1, .int p2, .int p3] : List Value).toArray s 0 0 (fun _ => False) := ⟨_, rfl⟩
  rw [← hQ]
  have hl := lv_entry ([.ref a_this, .int p1, .int p2, .int p3]) (n := 5) (Nat.le_of_ble_eq_true rfl)
  rw [lg_entry_eq]
  generalize (lg_sl ([.ref a_this, .int p1, .int p2, .int p3]) ++ List.replicate (5 - (lg_sl ([.ref a_this, .int p1, .int p2, .int p3])).length) Slot.unset).toArray = ls at hl ⊢
  have hl : lv_has ls 5 [(0, .ref a_this), (1, .int p1), (2, .int p2), (3, .int p3)] := hl
  generalize ([.ref a_this, .int p1, .int p2, .int p3] : List Value).toArray = args at hts hQ ⊢
  have hP : va_P D vwCl [(a_this, .inr (8, [.int pay, .ref a_weathers, .ref a_hours, .ref a_fear, .int days, .ref a_dayWeather, .ref a_dayHour, .ref a_dayDanger, .ref a_now, .int seed, .ref a_text, .int texted, .int faultPlace, .int at0, .int number, .int numberAt, .ref a_readPay, .int readPersons, .ref a_readMarks, .ref a_readWeathers, .ref a_readHours, .ref a_readFear, .int readDays, .ref a_readWeather, .ref a_readHour, .ref a_readDanger, .int undos, .ref a_past, .ref a_morning, .ref a_sent, .int watched, .ref a_watchedDay, .ref a_watchedOut, .int booked, .ref a_bookWho, .ref a_bookMarks, .ref a_images, .ref a_isKept])), (a_now, .inl (cI, 13, .inl now)), (a_weathers, .inl (cI, 8, .inl weathers)), (a_hours, .inl (cI, 8, .inl hours)), (a_fear, .inl (cI, 8, .inl fear))] s.heap := hP
  have hinX8 : ∀ w ∈ u_ws RX8 TX8 38, w ∈ wsX8_would := by decide +kernel
  have fl_28 := hts (.fieldLink RX8 28 "DoubleChainModel" "now" "[I") (by decide +kernel)
  clear B
  show W p l e xrm_X8_would s m args below meth c s.heap [] 0 0 Q (F0 m 0 ls [])
  unfold wp_X8_would at hw
  refine lv_iload_n hx hb dX8_would_0 rfl (lv_at hl 1 rfl) ?_
  refine lv_i2l (v := (p1).toInt64) hx hb dX8_would_1 rfl ?_
  refine lv_lconst (v := 0) hx hb dX8_would_2 (by decide) ?_
  refine lv_ldc2 (v := 2) hx hb hown (hts (.constantLong RX8 232 2) (by decide +kernel)) dX8_would_3 ?_
  refine xcSi (As := [.long (p1).toInt64, .long 0, .long 2]) (rest := []) (wc := []) ⟨hx, hb, hml, hown, hts⟩ (c_X8_in l D cI cZ cO hw) (va_cwS 3 hts gX8_would_X8_in rfl rfl rfl (by decide +kernel) ⟨Nat.le_of_ble_eq_true rfl, Nat.le_of_ble_eq_true rfl⟩) hKK hP [] rfl rfl hl.1 rfl (Nat.le_of_ble_eq_true rfl) dX8_would_6 ⟨Nat.zero_le _, Nat.zero_le _⟩ (fun r_6 hw => ?_)
  refine lv_if_eq (tgt := 36) hx hb dX8_would_9 (by decide) (fun c_9 => ?_) (fun c_9 => ?_)
  · have hw := hw.1 c_9
    refine lv_ldc (v := (-1000000002)) hx hb hown (hts (.constant RX8 103 (-1000000002)) (by decide +kernel)) dX8_would_36 ?_
    rw [hQ]
    exact W.iret (v := (-1000000002)) hx hb hr (fun t ht _ => ⟨(-1000000002), rfl, hw, ht⟩) (fun _ h => (List.not_mem_nil h).elim) dX8_would_38
  · have hw := hw.2 c_9
    refine lv_iload_n hx hb dX8_would_12 rfl (lv_at hl 2 rfl) ?_
    refine lv_i2l (v := (p2).toInt64) hx hb dX8_would_13 rfl ?_
    refine lv_lconst (v := 0) hx hb dX8_would_14 (by decide) ?_
    refine lv_ldc2 (v := 3) hx hb hown (hts (.constantLong RX8 234 3) (by decide +kernel)) dX8_would_15 ?_
    refine xcSi (As := [.long (p2).toInt64, .long 0, .long 3]) (rest := []) (wc := []) ⟨hx, hb, hml, hown, hts⟩ (c_X8_in l D cI cZ cO hw) (va_cwS 3 hts gX8_would_X8_in rfl rfl rfl (by decide +kernel) ⟨Nat.le_of_ble_eq_true rfl, Nat.le_of_ble_eq_true rfl⟩) hKK hP [] rfl rfl hl.1 rfl (Nat.le_of_ble_eq_true rfl) dX8_would_18 ⟨Nat.zero_le _, Nat.zero_le _⟩ (fun r_18 hw => ?_)
    refine lv_if_eq (tgt := 36) hx hb dX8_would_21 (by decide) (fun c_21 => ?_) (fun c_21 => ?_)
    · have hw := hw.1 c_21
      refine lv_ldc (v := (-1000000002)) hx hb hown (hts (.constant RX8 103 (-1000000002)) (by decide +kernel)) dX8_would_36 ?_
      rw [hQ]
      exact W.iret (v := (-1000000002)) hx hb hr (fun t ht _ => ⟨(-1000000002), rfl, hw, ht⟩) (fun _ h => (List.not_mem_nil h).elim) dX8_would_38
    · have hw := hw.2 c_21
      refine lv_iload_n hx hb dX8_would_24 rfl (lv_at hl 3 rfl) ?_
      refine lv_i2l (v := (p3).toInt64) hx hb dX8_would_25 rfl ?_
      refine lv_lconst (v := 0) hx hb dX8_would_26 (by decide) ?_
      refine lv_ldc2 (v := 9) hx hb hown (hts (.constantLong RX8 236 9) (by decide +kernel)) dX8_would_27 ?_
      refine xcSi (As := [.long (p3).toInt64, .long 0, .long 9]) (rest := []) (wc := []) ⟨hx, hb, hml, hown, hts⟩ (c_X8_in l D cI cZ cO hw) (va_cwS 3 hts gX8_would_X8_in rfl rfl rfl (by decide +kernel) ⟨Nat.le_of_ble_eq_true rfl, Nat.le_of_ble_eq_true rfl⟩) hKK hP [] rfl rfl hl.1 rfl (Nat.le_of_ble_eq_true rfl) dX8_would_30 ⟨Nat.zero_le _, Nat.zero_le _⟩ (fun r_30 hw => ?_)
      refine lv_if_ne (tgt := 39) hx hb dX8_would_33 (by decide) (fun c_33 => ?_) (fun c_33 => ?_)
      · have hw := hw.2 c_33
        refine lv_iconst (v := 0) hx hb dX8_would_39 (by decide) ?_
        refine lv_istore (lv' := [(4, .int 0), (0, .ref a_this), (1, .int p1), (2, .int p2), (3, .int p3)]) hx hb dX8_would_40 hl (by decide) rfl (fun ls hl => ?_)
        have EX_42 : ∀ (x4_42 : Int32), ∀ (ls : Array Slot), lv_has ls 5 [(0, .ref a_this), (1, .int p1), (2, .int p2), (3, .int p3), (4, .int x4_42)] → (wk_X8_would_42 Φ x4_42) → W p l e xrm_X8_would s m args below meth c s.heap [] 0 0 Q (F0 m 84 ls []) := by
          intro x4_42 ls hl hw
          unfold wk_X8_would_42 at hw
          refine lv_iconst (v := (-1)) hx hb dX8_would_84 (by decide) ?_
          rw [hQ]
          exact W.iret (v := (-1)) hx hb hr (fun t ht _ => ⟨(-1), rfl, hw, ht⟩) (fun _ h => (List.not_mem_nil h).elim) dX8_would_85
        generalize (wk_X8_would_42 Φ) = K_42 at EX_42 hw
        have LP_42 : ∀ n : Nat, ∀ (x4_42 : Int32), ∀ (ls : Array Slot), lv_has ls 5 [(0, .ref a_this), (1, .int p1), (2, .int p2), (3, .int p3), (4, .int x4_42)] → xit1 (wb_X8_would_42 now weathers hours fear p1 p2 p3 Φ K_42) n x4_42 → W p l e xrm_X8_would s m args below meth c s.heap [] 0 0 Q (F0 m 42 ls []) := by
          intro n
          induction n with
          | zero => intro x4_42 ls hl hw; exact (show False from hw).elim
          | succ n ih =>
            intro x4_42 ls hl hw
            have hw : wb_X8_would_42 now weathers hours fear p1 p2 p3 Φ K_42 (xit1 (wb_X8_would_42 now weathers hours fear p1 p2 p3 Φ K_42) n) x4_42 := hw
            generalize xit1 (wb_X8_would_42 now weathers hours fear p1 p2 p3 Φ K_42) n = rec_42 at ih hw
            unfold wb_X8_would_42 at hw
            refine lv_iload hx hb dX8_would_42 (lv_at hl 4 rfl) ?_
            refine lv_aload_n hx hb dX8_would_44 rfl (lv_at hl 0 rfl) ?_
            refine va_get (D := D) (ci := 8) (v := .ref a_now) (C := RX8) (T := TX8) (N := 38) hx hb hts hinX8 hown hKK.1 hP 0 rfl rfl 8 (by decide) fl_28 (fun _ h9 => h9) rfl dX8_would_45 ?_
            refine lv_bipush (v := 8) hx hb dX8_would_48 (by decide) ?_
            refine x_iald 8 (by decide) (Nat.le_of_ble_eq_true rfl) hx hb hKK.1 hP 1 0 rfl rfl dX8_would_50 ?_
            refine lv_icmp_ge (tgt := 84) hx hb dX8_would_51 (by decide) (fun c_51 => ?_) (fun c_51 => ?_)
            · have hw := hw.1 c_51
              exact EX_42 _ ls (lv_sub hl [0, 1, 2, 3, 4] rfl) hw
            · have hw := hw.2 c_51
              refine lv_aload_n hx hb dX8_would_54 rfl (lv_at hl 0 rfl) ?_
              refine lv_iload hx hb dX8_would_55 (lv_at hl 4 rfl) ?_
              refine xcVi (q0 := 0) (ci := 8) (As := [.int x4_42]) (rest := []) (wc := [(a_this, .inr (8, [.int pay, .ref a_weathers, .ref a_hours, .ref a_fear, .int days, .ref a_dayWeather, .ref a_dayHour, .ref a_dayDanger, .ref a_now, .int seed, .ref a_text, .int texted, .int faultPlace, .int at0, .int number, .int numberAt, .ref a_readPay, .int readPersons, .ref a_readMarks, .ref a_readWeathers, .ref a_readHours, .ref a_readFear, .int readDays, .ref a_readWeather, .ref a_readHour, .ref a_readDanger, .int undos, .ref a_past, .ref a_morning, .ref a_sent, .int watched, .ref a_watchedDay, .ref a_watchedOut, .int booked, .ref a_bookWho, .ref a_bookMarks, .ref a_images, .ref a_isKept])), (a_now, .inl (cI, 13, .inl now))]) ⟨hx, hb, hml, hown, hts⟩ (c_X8_lives l D cI cZ cO hw) (cwV 1 hts gX8_would_X8_lives rfl rfl rfl (by decide +kernel) ⟨Nat.le_of_ble_eq_true rfl, Nat.le_of_ble_eq_true rfl⟩) hKK hP [0, 1] rfl rfl rfl rfl hl.1 rfl (Nat.le_of_ble_eq_true rfl) dX8_would_57 ⟨Nat.zero_le _, Nat.zero_le _⟩ (fun r_57 hw => ?_)
              refine lv_if_eq (tgt := 78) hx hb dX8_would_60 (by decide) (fun c_60 => ?_) (fun c_60 => ?_)
              · have hw := hw.1 c_60
                refine lv_iinc (v := (x4_42 + 1)) (lv' := [(4, .int (x4_42 + 1)), (0, .ref a_this), (1, .int p1), (2, .int p2), (3, .int p3)]) hx hb dX8_would_78 hl (k := 4) rfl (by rfl) (by decide) rfl (fun ls hl => ?_)
                refine lv_goto (tgt := 42) hx hb dX8_would_81 (by decide) ?_
                exact ih _ ls (lv_sub hl [1, 2, 3, 4, 0] rfl) hw
              · have hw := hw.2 c_60
                refine lv_aload_n hx hb dX8_would_63 rfl (lv_at hl 0 rfl) ?_
                refine lv_iload hx hb dX8_would_64 (lv_at hl 4 rfl) ?_
                refine lv_iload_n hx hb dX8_would_66 rfl (lv_at hl 1 rfl) ?_
                refine lv_iload_n hx hb dX8_would_67 rfl (lv_at hl 2 rfl) ?_
                refine lv_iload_n hx hb dX8_would_68 rfl (lv_at hl 3 rfl) ?_
                refine xcVi (q0 := 0) (ci := 8) (As := [.int x4_42, .int p1, .int p2, .int p3]) (rest := []) (wc := [(a_this, .inr (8, [.int pay, .ref a_weathers, .ref a_hours, .ref a_fear, .int days, .ref a_dayWeather, .ref a_dayHour, .ref a_dayDanger, .ref a_now, .int seed, .ref a_text, .int texted, .int faultPlace, .int at0, .int number, .int numberAt, .ref a_readPay, .int readPersons, .ref a_readMarks, .ref a_readWeathers, .ref a_readHours, .ref a_readFear, .int readDays, .ref a_readWeather, .ref a_readHour, .ref a_readDanger, .int undos, .ref a_past, .ref a_morning, .ref a_sent, .int watched, .ref a_watchedDay, .ref a_watchedOut, .int booked, .ref a_bookWho, .ref a_bookMarks, .ref a_images, .ref a_isKept])), (a_weathers, .inl (cI, 8, .inl weathers)), (a_hours, .inl (cI, 8, .inl hours)), (a_fear, .inl (cI, 8, .inl fear))]) ⟨hx, hb, hml, hown, hts⟩ (c_X8_goesBy l D cI cZ cO hw) (cwV 4 hts gX8_would_X8_goesBy rfl rfl rfl (by decide +kernel) ⟨Nat.le_of_ble_eq_true rfl, Nat.le_of_ble_eq_true rfl⟩) hKK hP [0, 2, 3, 4] rfl rfl rfl rfl hl.1 rfl (Nat.le_of_ble_eq_true rfl) dX8_would_69 ⟨Nat.zero_le _, Nat.zero_le _⟩ (fun r_69 hw => ?_)
                refine lv_if_eq (tgt := 78) hx hb dX8_would_72 (by decide) (fun c_72 => ?_) (fun c_72 => ?_)
                · have hw := hw.1 c_72
                  refine lv_iinc (v := (x4_42 + 1)) (lv' := [(4, .int (x4_42 + 1)), (0, .ref a_this), (1, .int p1), (2, .int p2), (3, .int p3)]) hx hb dX8_would_78 hl (k := 4) rfl (by rfl) (by decide) rfl (fun ls hl => ?_)
                  refine lv_goto (tgt := 42) hx hb dX8_would_81 (by decide) ?_
                  exact ih _ ls (lv_sub hl [1, 2, 3, 4, 0] rfl) hw
                · have hw := hw.2 c_72
                  refine lv_iload hx hb dX8_would_75 (lv_at hl 4 rfl) ?_
                  rw [hQ]
                  exact W.iret (v := x4_42) hx hb hr (fun t ht _ => ⟨x4_42, rfl, hw, ht⟩) (fun _ h => (List.not_mem_nil h).elim) dX8_would_77
        obtain ⟨n, hw⟩ := hw
        exact LP_42 n _ ls (lv_sub hl [1, 2, 3, 4, 0] rfl) hw
      · have hw := hw.1 c_33
        refine lv_ldc (v := (-1000000002)) hx hb hown (hts (.constant RX8 103 (-1000000002)) (by decide +kernel)) dX8_would_36 ?_
        rw [hQ]
        exact W.iret (v := (-1000000002)) hx hb hr (fun t ht _ => ⟨(-1000000002), rfl, hw, ht⟩) (fun _ h => (List.not_mem_nil h).elim) dX8_would_38
def wk_X8_firstNobody_17 (Φ : Int32 → Prop) (x2_17 : Int32) : Prop :=
  (Φ (-1))
def wb_X8_firstNobody_17 (days : Int32) (now : Nat → Int32) (dayWeather : Nat → Int32) (dayHour : Nat → Int32) (dayDanger : Nat → Int32) (weathers : Nat → Int32) (hours : Nat → Int32) (fear : Nat → Int32) (p1 : Int32) (Φ : Int32 → Prop) (K_17 : Int32 → Prop) (rec_17 : Int32 → Prop) (x2_17 : Int32) : Prop :=
  ((p1 ≤ x2_17 → (K_17 x2_17)) ∧ (¬ p1 ≤ x2_17 → (wp_X8_seenOn days now dayWeather dayHour dayDanger weathers hours fear ((now 11) + x2_17) (fun r_32 => ((0 ≤ r_32 → (rec_17 (x2_17 + 1))) ∧ (¬ 0 ≤ r_32 → (Φ ((now 11) + x2_17))))))))
def wp_X8_firstNobody (days : Int32) (now : Nat → Int32) (dayWeather : Nat → Int32) (dayHour : Nat → Int32) (dayDanger : Nat → Int32) (weathers : Nat → Int32) (hours : Nat → Int32) (fear : Nat → Int32) (p1 : Int32) (Φ : Int32 → Prop) : Prop :=
  (wp_X8_in (p1).toInt64 0 60 (fun r_6 => ((r_6 = 0 → (Φ (-1000000002))) ∧ (¬ r_6 = 0 → (∃ n : Nat, xit1 (wb_X8_firstNobody_17 days now dayWeather dayHour dayDanger weathers hours fear p1 Φ (wk_X8_firstNobody_17 Φ)) n 0)))))
abbrev xrm_X8_firstNobody : Room := { frames := 5, cells := 0, slots := 0, locals := 111 }
set_option maxRecDepth 100000 in
set_option maxHeartbeats 4000000 in
theorem c_X8_firstNobody (l : Launch) (D : va_G) (cI cZ cO : ClassId) {pay : Int32} {a_weathers : Nat} {a_hours : Nat} {a_fear : Nat} {days : Int32} {a_dayWeather : Nat} {a_dayHour : Nat} {a_dayDanger : Nat} {a_now : Nat} {seed : Int32} {a_text : Nat} {texted : Int32} {faultPlace : Int32} {at0 : Int32} {number : Int32} {numberAt : Int32} {a_readPay : Nat} {readPersons : Int32} {a_readMarks : Nat} {a_readWeathers : Nat} {a_readHours : Nat} {a_readFear : Nat} {readDays : Int32} {a_readWeather : Nat} {a_readHour : Nat} {a_readDanger : Nat} {undos : Int32} {a_past : Nat} {a_morning : Nat} {a_sent : Nat} {watched : Int32} {a_watchedDay : Nat} {a_watchedOut : Nat} {booked : Int32} {a_bookWho : Nat} {a_bookMarks : Nat} {a_images : Nat} {a_isKept : Nat} {a_this : Nat} {now : Nat → Int32} {dayWeather : Nat → Int32} {dayHour : Nat → Int32} {dayDanger : Nat → Int32} {weathers : Nat → Int32} {hours : Nat → Int32} {fear : Nat → Int32} {p1 : Int32} {Φ : Int32 → Prop} (hw : (wp_X8_firstNobody days now dayWeather dayHour dayDanger weathers hours fear p1 Φ)) : Met l yX8_firstNobody wsX8_firstNobody xrm_X8_firstNobody (xPR D cI cZ cO [.ref a_this, .int p1] [(a_this, .inr (8, [.int pay, .ref a_weathers, .ref a_hours, .ref a_fear, .int days, .ref a_dayWeather, .ref a_dayHour, .ref a_dayDanger, .ref a_now, .int seed, .ref a_text, .int texted, .int faultPlace, .int at0, .int number, .int numberAt, .ref a_readPay, .int readPersons, .ref a_readMarks, .ref a_readWeathers, .ref a_readHours, .ref a_readFear, .int readDays, .ref a_readWeather, .ref a_readHour, .ref a_readDanger, .int undos, .ref a_past, .ref a_morning, .ref a_sent, .int watched, .ref a_watchedDay, .ref a_watchedOut, .int booked, .ref a_bookWho, .ref a_bookMarks, .ref a_images, .ref a_isKept])), (a_now, .inl (cI, 13, .inl now)), (a_dayWeather, .inl (cI, 10, .inl dayWeather)), (a_dayHour, .inl (cI, 10, .inl dayHour)), (a_dayDanger, .inl (cI, 10, .inl dayDanger)), (a_weathers, .inl (cI, 8, .inl weathers)), (a_hours, .inl (cI, 8, .inl hours)), (a_fear, .inl (cI, 8, .inl fear))]) (vp_Si Φ) 0 0 (fun _ => False) := by
  refine Met.ofW (cc := cX8_firstNobody) (maxL := 3) (ret := (some .int)) (by decide) rfl ?_
  intro p e s m args below meth c s₁ B hml hv
  obtain ⟨rfl, hP, hKK⟩ := hv
  have hx := B.exec
  have hb := B.bytes
  have hr := B.returns
  have hts := atoms_spec (ws := wsX8_firstNobody) B.pre
  have hown : s.vm.findClass RX8 = some m.cls := findClass_of_methodNamed B.named
  have hlocks := B.notSynchronized
  obtain ⟨Q, hQ⟩ : ∃ Q, Q = MQ below (vp_Si Φ) ([.ref a_this, .int p1] : List Value).toArray s 0 0 (fun _ => False) := ⟨_, rfl⟩
  rw [← hQ]
  have hl := lv_entry ([.ref a_this, .int p1]) (n := 3) (Nat.le_of_ble_eq_true rfl)
  rw [lg_entry_eq]
  generalize (lg_sl ([.ref a_this, .int p1]) ++ List.replicate (3 - (lg_sl ([.ref a_this, .int p1])).length) Slot.unset).toArray = ls at hl ⊢
  have hl : lv_has ls 3 [(0, .ref a_this), (1, .int p1)] := hl
  generalize ([.ref a_this, .int p1] : List Value).toArray = args at hts hQ ⊢
  have hP : va_P D vwCl [(a_this, .inr (8, [.int pay, .ref a_weathers, .ref a_hours, .ref a_fear, .int days, .ref a_dayWeather, .ref a_dayHour, .ref a_dayDanger, .ref a_now, .int seed, .ref a_text, .int texted, .int faultPlace, .int at0, .int number, .int numberAt, .ref a_readPay, .int readPersons, .ref a_readMarks, .ref a_readWeathers, .ref a_readHours, .ref a_readFear, .int readDays, .ref a_readWeather, .ref a_readHour, .ref a_readDanger, .int undos, .ref a_past, .ref a_morning, .ref a_sent, .int watched, .ref a_watchedDay, .ref a_watchedOut, .int booked, .ref a_bookWho, .ref a_bookMarks, .ref a_images, .ref a_isKept])), (a_now, .inl (cI, 13, .inl now)), (a_dayWeather, .inl (cI, 10, .inl dayWeather)), (a_dayHour, .inl (cI, 10, .inl dayHour)), (a_dayDanger, .inl (cI, 10, .inl dayDanger)), (a_weathers, .inl (cI, 8, .inl weathers)), (a_hours, .inl (cI, 8, .inl hours)), (a_fear, .inl (cI, 8, .inl fear))] s.heap := hP
  have hinX8 : ∀ w ∈ u_ws RX8 TX8 38, w ∈ wsX8_firstNobody := by decide +kernel
  have fl_28 := hts (.fieldLink RX8 28 "DoubleChainModel" "now" "[I") (by decide +kernel)
  clear B
  show W p l e xrm_X8_firstNobody s m args below meth c s.heap [] 0 0 Q (F0 m 0 ls [])
  unfold wp_X8_firstNobody at hw
  refine lv_iload_n hx hb dX8_firstNobody_0 rfl (lv_at hl 1 rfl) ?_
  refine lv_i2l (v := (p1).toInt64) hx hb dX8_firstNobody_1 rfl ?_
  refine lv_lconst (v := 0) hx hb dX8_firstNobody_2 (by decide) ?_
  refine lv_ldc2 (v := 60) hx hb hown (hts (.constantLong RX8 201 60) (by decide +kernel)) dX8_firstNobody_3 ?_
  refine xcSi (As := [.long (p1).toInt64, .long 0, .long 60]) (rest := []) (wc := []) ⟨hx, hb, hml, hown, hts⟩ (c_X8_in l D cI cZ cO hw) (va_cwS 3 hts gX8_firstNobody_X8_in rfl rfl rfl (by decide +kernel) ⟨Nat.le_of_ble_eq_true rfl, Nat.le_of_ble_eq_true rfl⟩) hKK hP [] rfl rfl hl.1 rfl (Nat.le_of_ble_eq_true rfl) dX8_firstNobody_6 ⟨Nat.zero_le _, Nat.zero_le _⟩ (fun r_6 hw => ?_)
  refine lv_if_ne (tgt := 15) hx hb dX8_firstNobody_9 (by decide) (fun c_9 => ?_) (fun c_9 => ?_)
  · have hw := hw.2 c_9
    refine lv_iconst (v := 0) hx hb dX8_firstNobody_15 (by decide) ?_
    refine lv_istore_n (lv' := [(2, .int 0), (0, .ref a_this), (1, .int p1)]) hx hb dX8_firstNobody_16 rfl hl (by decide) rfl (fun ls hl => ?_)
    have EX_17 : ∀ (x2_17 : Int32), ∀ (ls : Array Slot), lv_has ls 3 [(0, .ref a_this), (1, .int p1), (2, .int x2_17)] → (wk_X8_firstNobody_17 Φ x2_17) → W p l e xrm_X8_firstNobody s m args below meth c s.heap [] 0 0 Q (F0 m 54 ls []) := by
      intro x2_17 ls hl hw
      unfold wk_X8_firstNobody_17 at hw
      refine lv_iconst (v := (-1)) hx hb dX8_firstNobody_54 (by decide) ?_
      rw [hQ]
      exact W.iret (v := (-1)) hx hb hr (fun t ht _ => ⟨(-1), rfl, hw, ht⟩) (fun _ h => (List.not_mem_nil h).elim) dX8_firstNobody_55
    generalize (wk_X8_firstNobody_17 Φ) = K_17 at EX_17 hw
    have LP_17 : ∀ n : Nat, ∀ (x2_17 : Int32), ∀ (ls : Array Slot), lv_has ls 3 [(0, .ref a_this), (1, .int p1), (2, .int x2_17)] → xit1 (wb_X8_firstNobody_17 days now dayWeather dayHour dayDanger weathers hours fear p1 Φ K_17) n x2_17 → W p l e xrm_X8_firstNobody s m args below meth c s.heap [] 0 0 Q (F0 m 17 ls []) := by
      intro n
      induction n with
      | zero => intro x2_17 ls hl hw; exact (show False from hw).elim
      | succ n ih =>
        intro x2_17 ls hl hw
        have hw : wb_X8_firstNobody_17 days now dayWeather dayHour dayDanger weathers hours fear p1 Φ K_17 (xit1 (wb_X8_firstNobody_17 days now dayWeather dayHour dayDanger weathers hours fear p1 Φ K_17) n) x2_17 := hw
        generalize xit1 (wb_X8_firstNobody_17 days now dayWeather dayHour dayDanger weathers hours fear p1 Φ K_17) n = rec_17 at ih hw
        unfold wb_X8_firstNobody_17 at hw
        refine lv_iload_n hx hb dX8_firstNobody_17 rfl (lv_at hl 2 rfl) ?_
        refine lv_iload_n hx hb dX8_firstNobody_18 rfl (lv_at hl 1 rfl) ?_
        refine lv_icmp_ge (tgt := 54) hx hb dX8_firstNobody_19 (by decide) (fun c_19 => ?_) (fun c_19 => ?_)
        · have hw := hw.1 c_19
          exact EX_17 _ ls (lv_sub hl [0, 1, 2] rfl) hw
        · have hw := hw.2 c_19
          refine lv_aload_n hx hb dX8_firstNobody_22 rfl (lv_at hl 0 rfl) ?_
          refine lv_aload_n hx hb dX8_firstNobody_23 rfl (lv_at hl 0 rfl) ?_
          refine va_get (D := D) (ci := 8) (v := .ref a_now) (C := RX8) (T := TX8) (N := 38) hx hb hts hinX8 hown hKK.1 hP 0 rfl rfl 8 (by decide) fl_28 (fun _ h9 => h9) rfl dX8_firstNobody_24 ?_
          refine lv_bipush (v := 11) hx hb dX8_firstNobody_27 (by decide) ?_
          refine x_iald 11 (by decide) (Nat.le_of_ble_eq_true rfl) hx hb hKK.1 hP 1 0 rfl rfl dX8_firstNobody_29 ?_
          refine lv_iload_n hx hb dX8_firstNobody_30 rfl (lv_at hl 2 rfl) ?_
          refine lv_iadd hx hb dX8_firstNobody_31 ?_
          refine xcVi (q0 := 0) (ci := 8) (As := [.int ((now 11) + x2_17)]) (rest := []) (wc := [(a_this, .inr (8, [.int pay, .ref a_weathers, .ref a_hours, .ref a_fear, .int days, .ref a_dayWeather, .ref a_dayHour, .ref a_dayDanger, .ref a_now, .int seed, .ref a_text, .int texted, .int faultPlace, .int at0, .int number, .int numberAt, .ref a_readPay, .int readPersons, .ref a_readMarks, .ref a_readWeathers, .ref a_readHours, .ref a_readFear, .int readDays, .ref a_readWeather, .ref a_readHour, .ref a_readDanger, .int undos, .ref a_past, .ref a_morning, .ref a_sent, .int watched, .ref a_watchedDay, .ref a_watchedOut, .int booked, .ref a_bookWho, .ref a_bookMarks, .ref a_images, .ref a_isKept])), (a_now, .inl (cI, 13, .inl now)), (a_dayWeather, .inl (cI, 10, .inl dayWeather)), (a_dayHour, .inl (cI, 10, .inl dayHour)), (a_dayDanger, .inl (cI, 10, .inl dayDanger)), (a_weathers, .inl (cI, 8, .inl weathers)), (a_hours, .inl (cI, 8, .inl hours)), (a_fear, .inl (cI, 8, .inl fear))]) ⟨hx, hb, hml, hown, hts⟩ (c_X8_seenOn l D cI cZ cO hw) (cwV 1 hts gX8_firstNobody_X8_seenOn rfl rfl rfl (by decide +kernel) ⟨Nat.le_of_ble_eq_true rfl, Nat.le_of_ble_eq_true rfl⟩) hKK hP [0, 1, 2, 3, 4, 5, 6, 7] rfl rfl rfl rfl hl.1 rfl (Nat.le_of_ble_eq_true rfl) dX8_firstNobody_32 ⟨Nat.zero_le _, Nat.zero_le _⟩ (fun r_32 hw => ?_)
          refine lv_if_ge (tgt := 48) hx hb dX8_firstNobody_35 (by decide) (fun c_35 => ?_) (fun c_35 => ?_)
          · have hw := hw.1 c_35
            refine lv_iinc (v := (x2_17 + 1)) (lv' := [(2, .int (x2_17 + 1)), (0, .ref a_this), (1, .int p1)]) hx hb dX8_firstNobody_48 hl (k := 2) rfl (by rfl) (by decide) rfl (fun ls hl => ?_)
            refine lv_goto (tgt := 17) hx hb dX8_firstNobody_51 (by decide) ?_
            exact ih _ ls (lv_sub hl [1, 2, 0] rfl) hw
          · have hw := hw.2 c_35
            refine lv_aload_n hx hb dX8_firstNobody_38 rfl (lv_at hl 0 rfl) ?_
            refine va_get (D := D) (ci := 8) (v := .ref a_now) (C := RX8) (T := TX8) (N := 38) hx hb hts hinX8 hown hKK.1 hP 0 rfl rfl 8 (by decide) fl_28 (fun _ h9 => h9) rfl dX8_firstNobody_39 ?_
            refine lv_bipush (v := 11) hx hb dX8_firstNobody_42 (by decide) ?_
            refine x_iald 11 (by decide) (Nat.le_of_ble_eq_true rfl) hx hb hKK.1 hP 1 0 rfl rfl dX8_firstNobody_44 ?_
            refine lv_iload_n hx hb dX8_firstNobody_45 rfl (lv_at hl 2 rfl) ?_
            refine lv_iadd hx hb dX8_firstNobody_46 ?_
            rw [hQ]
            exact W.iret (v := ((now 11) + x2_17)) hx hb hr (fun t ht _ => ⟨((now 11) + x2_17), rfl, hw, ht⟩) (fun _ h => (List.not_mem_nil h).elim) dX8_firstNobody_47
    obtain ⟨n, hw⟩ := hw
    exact LP_17 n _ ls (lv_sub hl [1, 2, 0] rfl) hw
  · have hw := hw.1 c_9
    refine lv_ldc (v := (-1000000002)) hx hb hown (hts (.constant RX8 103 (-1000000002)) (by decide +kernel)) dX8_firstNobody_12 ?_
    rw [hQ]
    exact W.iret (v := (-1000000002)) hx hb hr (fun t ht _ => ⟨(-1000000002), rfl, hw, ht⟩) (fun _ h => (List.not_mem_nil h).elim) dX8_firstNobody_14
def wk_X8_isSent_5 (Φ : Int32 → Prop) (x3_5 : Int32) (x4_5 : Int32) : Prop :=
  ((xvz x3_5 ∧ Φ x3_5))
def wb_X8_isSent_5 (sent : Nat → Int32) (p1 : Int32) (p2 : Int32) (K_5 : Int32 → Int32 → Prop) (rec_5 : Int32 → Int32 → Prop) (x3_5 : Int32) (x4_5 : Int32) : Prop :=
  ((p2 ≤ x4_5 → (K_5 x3_5 x4_5)) ∧ (¬ p2 ≤ x4_5 → ((x3_5 = 0 → (vp_in x4_5 6 ∧ (((sent x4_5.toNatClampNeg) = p1 → (rec_5 1 (x4_5 + 1))) ∧ (¬ (sent x4_5.toNatClampNeg) = p1 → (rec_5 0 (x4_5 + 1)))))) ∧ (¬ x3_5 = 0 → (rec_5 1 (x4_5 + 1))))))
def wp_X8_isSent (sent : Nat → Int32) (p1 : Int32) (p2 : Int32) (Φ : Int32 → Prop) : Prop :=
  (∃ n : Nat, xit2 (wb_X8_isSent_5 sent p1 p2 (wk_X8_isSent_5 Φ)) n 0 0)
abbrev xrm_X8_isSent : Room := { frames := 0, cells := 0, slots := 0, locals := 0 }
set_option maxRecDepth 100000 in
set_option maxHeartbeats 4000000 in
theorem c_X8_isSent (l : Launch) (D : va_G) (cI cZ cO : ClassId) {pay : Int32} {a_weathers : Nat} {a_hours : Nat} {a_fear : Nat} {days : Int32} {a_dayWeather : Nat} {a_dayHour : Nat} {a_dayDanger : Nat} {a_now : Nat} {seed : Int32} {a_text : Nat} {texted : Int32} {faultPlace : Int32} {at0 : Int32} {number : Int32} {numberAt : Int32} {a_readPay : Nat} {readPersons : Int32} {a_readMarks : Nat} {a_readWeathers : Nat} {a_readHours : Nat} {a_readFear : Nat} {readDays : Int32} {a_readWeather : Nat} {a_readHour : Nat} {a_readDanger : Nat} {undos : Int32} {a_past : Nat} {a_morning : Nat} {a_sent : Nat} {watched : Int32} {a_watchedDay : Nat} {a_watchedOut : Nat} {booked : Int32} {a_bookWho : Nat} {a_bookMarks : Nat} {a_images : Nat} {a_isKept : Nat} {a_this : Nat} {sent : Nat → Int32} {p1 : Int32} {p2 : Int32} {Φ : Int32 → Prop} (hw : (wp_X8_isSent sent p1 p2 Φ)) : Met l yX8_isSent wsX8_isSent xrm_X8_isSent (xPR D cI cZ cO [.ref a_this, .int p1, .int p2] [(a_this, .inr (8, [.int pay, .ref a_weathers, .ref a_hours, .ref a_fear, .int days, .ref a_dayWeather, .ref a_dayHour, .ref a_dayDanger, .ref a_now, .int seed, .ref a_text, .int texted, .int faultPlace, .int at0, .int number, .int numberAt, .ref a_readPay, .int readPersons, .ref a_readMarks, .ref a_readWeathers, .ref a_readHours, .ref a_readFear, .int readDays, .ref a_readWeather, .ref a_readHour, .ref a_readDanger, .int undos, .ref a_past, .ref a_morning, .ref a_sent, .int watched, .ref a_watchedDay, .ref a_watchedOut, .int booked, .ref a_bookWho, .ref a_bookMarks, .ref a_images, .ref a_isKept])), (a_sent, .inl (cI, 6, .inl sent))]) (vp_Si Φ) 0 0 (fun _ => False) := by
  refine Met.ofW (cc := cX8_isSent) (maxL := 5) (ret := (some .boolean)) (by decide) rfl ?_
  intro p e s m args below meth c s₁ B hml hv
  obtain ⟨rfl, hP, hKK⟩ := hv
  have hx := B.exec
  have hb := B.bytes
  have hr := B.returns
  have hts := atoms_spec (ws := wsX8_isSent) B.pre
  have hown : s.vm.findClass RX8 = some m.cls := findClass_of_methodNamed B.named
  have hlocks := B.notSynchronized
  obtain ⟨Q, hQ⟩ : ∃ Q, Q = MQ below (vp_Si Φ) ([.ref a_this, .int p1, .int p2] : List Value).toArray s 0 0 (fun _ => False) := ⟨_, rfl⟩
  rw [← hQ]
  have hl := lv_entry ([.ref a_this, .int p1, .int p2]) (n := 5) (Nat.le_of_ble_eq_true rfl)
  rw [lg_entry_eq]
  generalize (lg_sl ([.ref a_this, .int p1, .int p2]) ++ List.replicate (5 - (lg_sl ([.ref a_this, .int p1, .int p2])).length) Slot.unset).toArray = ls at hl ⊢
  have hl : lv_has ls 5 [(0, .ref a_this), (1, .int p1), (2, .int p2)] := hl
  generalize ([.ref a_this, .int p1, .int p2] : List Value).toArray = args at hts hQ ⊢
  have hP : va_P D vwCl [(a_this, .inr (8, [.int pay, .ref a_weathers, .ref a_hours, .ref a_fear, .int days, .ref a_dayWeather, .ref a_dayHour, .ref a_dayDanger, .ref a_now, .int seed, .ref a_text, .int texted, .int faultPlace, .int at0, .int number, .int numberAt, .ref a_readPay, .int readPersons, .ref a_readMarks, .ref a_readWeathers, .ref a_readHours, .ref a_readFear, .int readDays, .ref a_readWeather, .ref a_readHour, .ref a_readDanger, .int undos, .ref a_past, .ref a_morning, .ref a_sent, .int watched, .ref a_watchedDay, .ref a_watchedOut, .int booked, .ref a_bookWho, .ref a_bookMarks, .ref a_images, .ref a_isKept])), (a_sent, .inl (cI, 6, .inl sent))] s.heap := hP
  have hinX8 : ∀ w ∈ u_ws RX8 TX8 38, w ∈ wsX8_isSent := by decide +kernel
  have fl_68 := hts (.fieldLink RX8 68 "DoubleChainModel" "sent" "[I") (by decide +kernel)
  clear B
  show W p l e xrm_X8_isSent s m args below meth c s.heap [] 0 0 Q (F0 m 0 ls [])
  unfold wp_X8_isSent at hw
  refine lv_iconst (v := 0) hx hb dX8_isSent_0 (by decide) ?_
  refine lv_istore_n (lv' := [(3, .int 0), (0, .ref a_this), (1, .int p1), (2, .int p2)]) hx hb dX8_isSent_1 rfl hl (by decide) rfl (fun ls hl => ?_)
  refine lv_iconst (v := 0) hx hb dX8_isSent_2 (by decide) ?_
  refine lv_istore (lv' := [(4, .int 0), (3, .int 0), (0, .ref a_this), (1, .int p1), (2, .int p2)]) hx hb dX8_isSent_3 hl (by decide) rfl (fun ls hl => ?_)
  have EX_5 : ∀ (x3_5 : Int32) (x4_5 : Int32), ∀ (ls : Array Slot), lv_has ls 5 [(0, .ref a_this), (1, .int p1), (2, .int p2), (3, .int x3_5), (4, .int x4_5)] → (wk_X8_isSent_5 Φ x3_5 x4_5) → W p l e xrm_X8_isSent s m args below meth c s.heap [] 0 0 Q (F0 m 38 ls []) := by
    intro x3_5 x4_5 ls hl hw
    unfold wk_X8_isSent_5 at hw
    refine lv_iload_n hx hb dX8_isSent_38 rfl (lv_at hl 3 rfl) ?_
    obtain ⟨hvz, hw⟩ := hw
    rw [hQ]
    exact W.zret (v := x3_5) hx hb hr hvz (fun t ht _ => ⟨x3_5, rfl, hw, ht⟩) (fun _ h => (List.not_mem_nil h).elim) dX8_isSent_39
  generalize (wk_X8_isSent_5 Φ) = K_5 at EX_5 hw
  have LP_5 : ∀ n : Nat, ∀ (x3_5 : Int32) (x4_5 : Int32), ∀ (ls : Array Slot), lv_has ls 5 [(0, .ref a_this), (1, .int p1), (2, .int p2), (3, .int x3_5), (4, .int x4_5)] → xit2 (wb_X8_isSent_5 sent p1 p2 K_5) n x3_5 x4_5 → W p l e xrm_X8_isSent s m args below meth c s.heap [] 0 0 Q (F0 m 5 ls []) := by
    intro n
    induction n with
    | zero => intro x3_5 x4_5 ls hl hw; exact (show False from hw).elim
    | succ n ih =>
      intro x3_5 x4_5 ls hl hw
      have hw : wb_X8_isSent_5 sent p1 p2 K_5 (xit2 (wb_X8_isSent_5 sent p1 p2 K_5) n) x3_5 x4_5 := hw
      generalize xit2 (wb_X8_isSent_5 sent p1 p2 K_5) n = rec_5 at ih hw
      unfold wb_X8_isSent_5 at hw
      refine lv_iload hx hb dX8_isSent_5 (lv_at hl 4 rfl) ?_
      refine lv_iload_n hx hb dX8_isSent_7 rfl (lv_at hl 2 rfl) ?_
      refine lv_icmp_ge (tgt := 38) hx hb dX8_isSent_8 (by decide) (fun c_8 => ?_) (fun c_8 => ?_)
      · have hw := hw.1 c_8
        exact EX_5 _ _ ls (lv_sub hl [0, 1, 2, 3, 4] rfl) hw
      · have hw := hw.2 c_8
        refine lv_iload_n hx hb dX8_isSent_11 rfl (lv_at hl 3 rfl) ?_
        refine lv_if_ne (tgt := 26) hx hb dX8_isSent_12 (by decide) (fun c_12 => ?_) (fun c_12 => ?_)
        · have hw := hw.2 c_12
          refine lv_iconst (v := 1) hx hb dX8_isSent_26 (by decide) ?_
          refine lv_goto (tgt := 31) hx hb dX8_isSent_27 (by decide) ?_
          refine lv_istore_n (lv' := [(3, .int 1), (0, .ref a_this), (1, .int p1), (2, .int p2), (4, .int x4_5)]) hx hb dX8_isSent_31 rfl hl (by decide) rfl (fun ls hl => ?_)
          refine lv_iinc (v := (x4_5 + 1)) (lv' := [(4, .int (x4_5 + 1)), (3, .int 1), (0, .ref a_this), (1, .int p1), (2, .int p2)]) hx hb dX8_isSent_32 hl (k := 4) rfl (by rfl) (by decide) rfl (fun ls hl => ?_)
          refine lv_goto (tgt := 5) hx hb dX8_isSent_35 (by decide) ?_
          exact ih _ _ ls (lv_sub hl [2, 3, 4, 1, 0] rfl) hw
        · have hw := hw.1 c_12
          refine lv_aload_n hx hb dX8_isSent_15 rfl (lv_at hl 0 rfl) ?_
          refine va_get (D := D) (ci := 8) (v := .ref a_sent) (C := RX8) (T := TX8) (N := 38) hx hb hts hinX8 hown hKK.1 hP 0 rfl rfl 29 (by decide) fl_68 (fun _ h9 => h9) rfl dX8_isSent_16 ?_
          refine lv_iload hx hb dX8_isSent_19 (lv_at hl 4 rfl) ?_
          obtain ⟨hin, hw⟩ := hw
          refine va_iald hx hb hKK.1 hP 1 0 rfl rfl hin dX8_isSent_21 ?_
          refine lv_iload_n hx hb dX8_isSent_22 rfl (lv_at hl 1 rfl) ?_
          refine lv_icmp_ne (tgt := 30) hx hb dX8_isSent_23 (by decide) (fun c_23 => ?_) (fun c_23 => ?_)
          · have hw := hw.2 c_23
            refine lv_iconst (v := 0) hx hb dX8_isSent_30 (by decide) ?_
            refine lv_istore_n (lv' := [(3, .int 0), (0, .ref a_this), (1, .int p1), (2, .int p2), (4, .int x4_5)]) hx hb dX8_isSent_31 rfl hl (by decide) rfl (fun ls hl => ?_)
            refine lv_iinc (v := (x4_5 + 1)) (lv' := [(4, .int (x4_5 + 1)), (3, .int 0), (0, .ref a_this), (1, .int p1), (2, .int p2)]) hx hb dX8_isSent_32 hl (k := 4) rfl (by rfl) (by decide) rfl (fun ls hl => ?_)
            refine lv_goto (tgt := 5) hx hb dX8_isSent_35 (by decide) ?_
            exact ih _ _ ls (lv_sub hl [2, 3, 4, 1, 0] rfl) hw
          · have hw := hw.1 c_23
            refine lv_iconst (v := 1) hx hb dX8_isSent_26 (by decide) ?_
            refine lv_goto (tgt := 31) hx hb dX8_isSent_27 (by decide) ?_
            refine lv_istore_n (lv' := [(3, .int 1), (0, .ref a_this), (1, .int p1), (2, .int p2), (4, .int x4_5)]) hx hb dX8_isSent_31 rfl hl (by decide) rfl (fun ls hl => ?_)
            refine lv_iinc (v := (x4_5 + 1)) (lv' := [(4, .int (x4_5 + 1)), (3, .int 1), (0, .ref a_this), (1, .int p1), (2, .int p2)]) hx hb dX8_isSent_32 hl (k := 4) rfl (by rfl) (by decide) rfl (fun ls hl => ?_)
            refine lv_goto (tgt := 5) hx hb dX8_isSent_35 (by decide) ?_
            exact ih _ _ ls (lv_sub hl [2, 3, 4, 1, 0] rfl) hw
  obtain ⟨n, hw⟩ := hw
  exact LP_5 n _ _ ls (lv_sub hl [2, 3, 4, 1, 0] rfl) hw
def wk_X8_findSent_9 (p1 : Int32) (Φ : Int32 → (Nat → Int32) → Prop) (sent_9 : Nat → Int32) (x2_9 : Int32) : Prop :=
  ((x2_9 = p1 → (Φ 1 sent_9)) ∧ (¬ x2_9 = p1 → (Φ 0 sent_9)))
def wb_X8_findSent_9 (days : Int32) (now : Nat → Int32) (dayWeather : Nat → Int32) (dayHour : Nat → Int32) (dayDanger : Nat → Int32) (weathers : Nat → Int32) (hours : Nat → Int32) (fear : Nat → Int32) (p1 : Int32) (K_9 : (Nat → Int32) → Int32 → Prop) (rec_9 : (Nat → Int32) → Int32 → Prop) (sent_9 : Nat → Int32) (x2_9 : Int32) : Prop :=
  ((x2_9 < 0 → (K_9 sent_9 x2_9)) ∧ (¬ x2_9 < 0 → ((p1 ≤ x2_9 → (K_9 sent_9 x2_9)) ∧ (¬ p1 ≤ x2_9 → (vp_in x2_9 6 ∧ (vp_in x2_9 6 ∧ (vp_in x2_9 6 ∧ ((((upd sent_9 x2_9.toNatClampNeg ((sent_9 x2_9.toNatClampNeg) + 1)) x2_9.toNatClampNeg) < (now 8) → (wp_X8_lives now ((upd sent_9 x2_9.toNatClampNeg ((sent_9 x2_9.toNatClampNeg) + 1)) x2_9.toNatClampNeg) (fun r_54 => ((r_54 = 0 → (rec_9 (upd sent_9 x2_9.toNatClampNeg ((sent_9 x2_9.toNatClampNeg) + 1)) x2_9)) ∧ (¬ r_54 = 0 → (wp_X8_isSent (upd sent_9 x2_9.toNatClampNeg ((sent_9 x2_9.toNatClampNeg) + 1)) ((upd sent_9 x2_9.toNatClampNeg ((sent_9 x2_9.toNatClampNeg) + 1)) x2_9.toNatClampNeg) x2_9 (fun r_63 => ((r_63 = 0 → (wp_X8_goesOn days dayWeather dayHour dayDanger weathers hours fear ((upd sent_9 x2_9.toNatClampNeg ((sent_9 x2_9.toNatClampNeg) + 1)) x2_9.toNatClampNeg) ((now 11) + x2_9) (fun r_80 => ((r_80 = 0 → (rec_9 (upd sent_9 x2_9.toNatClampNeg ((sent_9 x2_9.toNatClampNeg) + 1)) x2_9)) ∧ (¬ r_80 = 0 → ((p1 ≤ (x2_9 + 1) → (rec_9 (upd sent_9 x2_9.toNatClampNeg ((sent_9 x2_9.toNatClampNeg) + 1)) (x2_9 + 1))) ∧ (¬ p1 ≤ (x2_9 + 1) → (vp_in (x2_9 + 1) 6 ∧ (rec_9 (upd (upd sent_9 x2_9.toNatClampNeg ((sent_9 x2_9.toNatClampNeg) + 1)) (x2_9 + 1).toNatClampNeg (-1)) (x2_9 + 1)))))))))) ∧ (¬ r_63 = 0 → (rec_9 (upd sent_9 x2_9.toNatClampNeg ((sent_9 x2_9.toNatClampNeg) + 1)) x2_9)))))))))) ∧ (¬ ((upd sent_9 x2_9.toNatClampNeg ((sent_9 x2_9.toNatClampNeg) + 1)) x2_9.toNatClampNeg) < (now 8) → (rec_9 (upd sent_9 x2_9.toNatClampNeg ((sent_9 x2_9.toNatClampNeg) + 1)) (x2_9 + (-1))))))))))))
def wp_X8_findSent (days : Int32) (sent : Nat → Int32) (now : Nat → Int32) (dayWeather : Nat → Int32) (dayHour : Nat → Int32) (dayDanger : Nat → Int32) (weathers : Nat → Int32) (hours : Nat → Int32) (fear : Nat → Int32) (p1 : Int32) (Φ : Int32 → (Nat → Int32) → Prop) : Prop :=
  (∃ n : Nat, xit2 (wb_X8_findSent_9 days now dayWeather dayHour dayDanger weathers hours fear p1 (wk_X8_findSent_9 p1 Φ)) n (upd sent 0 (-1)) 0)
abbrev xrm_X8_findSent : Room := { frames := 4, cells := 0, slots := 0, locals := 89 }
set_option maxRecDepth 100000 in
set_option maxHeartbeats 4000000 in
theorem c_X8_findSent (l : Launch) (D : va_G) (cI cZ cO : ClassId) {pay : Int32} {a_weathers : Nat} {a_hours : Nat} {a_fear : Nat} {days : Int32} {a_dayWeather : Nat} {a_dayHour : Nat} {a_dayDanger : Nat} {a_now : Nat} {seed : Int32} {a_text : Nat} {texted : Int32} {faultPlace : Int32} {at0 : Int32} {number : Int32} {numberAt : Int32} {a_readPay : Nat} {readPersons : Int32} {a_readMarks : Nat} {a_readWeathers : Nat} {a_readHours : Nat} {a_readFear : Nat} {readDays : Int32} {a_readWeather : Nat} {a_readHour : Nat} {a_readDanger : Nat} {undos : Int32} {a_past : Nat} {a_morning : Nat} {a_sent : Nat} {watched : Int32} {a_watchedDay : Nat} {a_watchedOut : Nat} {booked : Int32} {a_bookWho : Nat} {a_bookMarks : Nat} {a_images : Nat} {a_isKept : Nat} {a_this : Nat} {sent : Nat → Int32} {now : Nat → Int32} {dayWeather : Nat → Int32} {dayHour : Nat → Int32} {dayDanger : Nat → Int32} {weathers : Nat → Int32} {hours : Nat → Int32} {fear : Nat → Int32} {p1 : Int32} {Φ : Int32 → (Nat → Int32) → Prop} {sz : Nat} (hw : (wp_X8_findSent days sent now dayWeather dayHour dayDanger weathers hours fear p1 Φ)) : Met l yX8_findSent wsX8_findSent xrm_X8_findSent (xPW D cI cZ cO [.ref a_this, .int p1] sz [(a_this, .inr (8, [.int pay, .ref a_weathers, .ref a_hours, .ref a_fear, .int days, .ref a_dayWeather, .ref a_dayHour, .ref a_dayDanger, .ref a_now, .int seed, .ref a_text, .int texted, .int faultPlace, .int at0, .int number, .int numberAt, .ref a_readPay, .int readPersons, .ref a_readMarks, .ref a_readWeathers, .ref a_readHours, .ref a_readFear, .int readDays, .ref a_readWeather, .ref a_readHour, .ref a_readDanger, .int undos, .ref a_past, .ref a_morning, .ref a_sent, .int watched, .ref a_watchedDay, .ref a_watchedOut, .int booked, .ref a_bookWho, .ref a_bookMarks, .ref a_images, .ref a_isKept])), (a_sent, .inl (cI, 6, .inl sent)), (a_now, .inl (cI, 13, .inl now)), (a_dayWeather, .inl (cI, 10, .inl dayWeather)), (a_dayHour, .inl (cI, 10, .inl dayHour)), (a_dayDanger, .inl (cI, 10, .inl dayDanger)), (a_weathers, .inl (cI, 8, .inl weathers)), (a_hours, .inl (cI, 8, .inl hours)), (a_fear, .inl (cI, 8, .inl fear))]) (va_Qi (fun (r : Int32) (u : (Nat → Int32)) => Φ r u) (xB D (va_A [(a_this, .inr (8, [.int pay, .ref a_weathers, .ref a_hours, .ref a_fear, .int days, .ref a_dayWeather, .ref a_dayHour, .ref a_dayDanger, .ref a_now, .int seed, .ref a_text, .int texted, .int faultPlace, .int at0, .int number, .int numberAt, .ref a_readPay, .int readPersons, .ref a_readMarks, .ref a_readWeathers, .ref a_readHours, .ref a_readFear, .int readDays, .ref a_readWeather, .ref a_readHour, .ref a_readDanger, .int undos, .ref a_past, .ref a_morning, .ref a_sent, .int watched, .ref a_watchedDay, .ref a_watchedOut, .int booked, .ref a_bookWho, .ref a_bookMarks, .ref a_images, .ref a_isKept])), (a_sent, .inl (cI, 6, .inl sent)), (a_now, .inl (cI, 13, .inl now)), (a_dayWeather, .inl (cI, 10, .inl dayWeather)), (a_dayHour, .inl (cI, 10, .inl dayHour)), (a_dayDanger, .inl (cI, 10, .inl dayDanger)), (a_weathers, .inl (cI, 8, .inl weathers)), (a_hours, .inl (cI, 8, .inl hours)), (a_fear, .inl (cI, 8, .inl fear))] sz) (fun (u : (Nat → Int32)) => [(a_this, .inr (8, [.int pay, .ref a_weathers, .ref a_hours, .ref a_fear, .int days, .ref a_dayWeather, .ref a_dayHour, .ref a_dayDanger, .ref a_now, .int seed, .ref a_text, .int texted, .int faultPlace, .int at0, .int number, .int numberAt, .ref a_readPay, .int readPersons, .ref a_readMarks, .ref a_readWeathers, .ref a_readHours, .ref a_readFear, .int readDays, .ref a_readWeather, .ref a_readHour, .ref a_readDanger, .int undos, .ref a_past, .ref a_morning, .ref a_sent, .int watched, .ref a_watchedDay, .ref a_watchedOut, .int booked, .ref a_bookWho, .ref a_bookMarks, .ref a_images, .ref a_isKept])), (a_sent, .inl (cI, 6, .inl u)), (a_now, .inl (cI, 13, .inl now)), (a_dayWeather, .inl (cI, 10, .inl dayWeather)), (a_dayHour, .inl (cI, 10, .inl dayHour)), (a_dayDanger, .inl (cI, 10, .inl dayDanger)), (a_weathers, .inl (cI, 8, .inl weathers)), (a_hours, .inl (cI, 8, .inl hours)), (a_fear, .inl (cI, 8, .inl fear))])) (va_A [(a_this, .inr (8, [.int pay, .ref a_weathers, .ref a_hours, .ref a_fear, .int days, .ref a_dayWeather, .ref a_dayHour, .ref a_dayDanger, .ref a_now, .int seed, .ref a_text, .int texted, .int faultPlace, .int at0, .int number, .int numberAt, .ref a_readPay, .int readPersons, .ref a_readMarks, .ref a_readWeathers, .ref a_readHours, .ref a_readFear, .int readDays, .ref a_readWeather, .ref a_readHour, .ref a_readDanger, .int undos, .ref a_past, .ref a_morning, .ref a_sent, .int watched, .ref a_watchedDay, .ref a_watchedOut, .int booked, .ref a_bookWho, .ref a_bookMarks, .ref a_images, .ref a_isKept])), (a_sent, .inl (cI, 6, .inl sent)), (a_now, .inl (cI, 13, .inl now)), (a_dayWeather, .inl (cI, 10, .inl dayWeather)), (a_dayHour, .inl (cI, 10, .inl dayHour)), (a_dayDanger, .inl (cI, 10, .inl dayDanger)), (a_weathers, .inl (cI, 8, .inl weathers)), (a_hours, .inl (cI, 8, .inl hours)), (a_fear, .inl (cI, 8, .inl fear))] sz)) 0 0 (va_A [(a_this, .inr (8, [.int pay, .ref a_weathers, .ref a_hours, .ref a_fear, .int days, .ref a_dayWeather, .ref a_dayHour, .ref a_dayDanger, .ref a_now, .int seed, .ref a_text, .int texted, .int faultPlace, .int at0, .int number, .int numberAt, .ref a_readPay, .int readPersons, .ref a_readMarks, .ref a_readWeathers, .ref a_readHours, .ref a_readFear, .int readDays, .ref a_readWeather, .ref a_readHour, .ref a_readDanger, .int undos, .ref a_past, .ref a_morning, .ref a_sent, .int watched, .ref a_watchedDay, .ref a_watchedOut, .int booked, .ref a_bookWho, .ref a_bookMarks, .ref a_images, .ref a_isKept])), (a_sent, .inl (cI, 6, .inl sent)), (a_now, .inl (cI, 13, .inl now)), (a_dayWeather, .inl (cI, 10, .inl dayWeather)), (a_dayHour, .inl (cI, 10, .inl dayHour)), (a_dayDanger, .inl (cI, 10, .inl dayDanger)), (a_weathers, .inl (cI, 8, .inl weathers)), (a_hours, .inl (cI, 8, .inl hours)), (a_fear, .inl (cI, 8, .inl fear))] sz) := by
  refine Met.ofW (cc := cX8_findSent) (maxL := 4) (ret := (some .boolean)) (by decide) rfl ?_
  intro p e s m args below meth c s₁ B hml hv
  obtain ⟨rfl, hsz, hP, hKK, hD0⟩ := hv
  have hx := B.exec
  have hb := B.bytes
  have hr := B.returns
  have hts := atoms_spec (ws := wsX8_findSent) B.pre
  have hown : s.vm.findClass RX8 = some m.cls := findClass_of_methodNamed B.named
  have hlocks := B.notSynchronized
  subst hsz
  have hD := hD0.self (sz := s.heap.size)
  obtain ⟨Q, hQ⟩ : ∃ Q, Q = MQ below (va_Qi (fun (r : Int32) (u : (Nat → Int32)) => Φ r u) (xB D (va_A [(a_this, .inr (8, [.int pay, .ref a_weathers, .ref a_hours, .ref a_fear, .int days, .ref a_dayWeather, .ref a_dayHour, .ref a_dayDanger, .ref a_now, .int seed, .ref a_text, .int texted, .int faultPlace, .int at0, .int number, .int numberAt, .ref a_readPay, .int readPersons, .ref a_readMarks, .ref a_readWeathers, .ref a_readHours, .ref a_readFear, .int readDays, .ref a_readWeather, .ref a_readHour, .ref a_readDanger, .int undos, .ref a_past, .ref a_morning, .ref a_sent, .int watched, .ref a_watchedDay, .ref a_watchedOut, .int booked, .ref a_bookWho, .ref a_bookMarks, .ref a_images, .ref a_isKept])), (a_sent, .inl (cI, 6, .inl sent)), (a_now, .inl (cI, 13, .inl now)), (a_dayWeather, .inl (cI, 10, .inl dayWeather)), (a_dayHour, .inl (cI, 10, .inl dayHour)), (a_dayDanger, .inl (cI, 10, .inl dayDanger)), (a_weathers, .inl (cI, 8, .inl weathers)), (a_hours, .inl (cI, 8, .inl hours)), (a_fear, .inl (cI, 8, .inl fear))] s.heap.size) (fun (u : (Nat → Int32)) => [(a_this, .inr (8, [.int pay, .ref a_weathers, .ref a_hours, .ref a_fear, .int days, .ref a_dayWeather, .ref a_dayHour, .ref a_dayDanger, .ref a_now, .int seed, .ref a_text, .int texted, .int faultPlace, .int at0, .int number, .int numberAt, .ref a_readPay, .int readPersons, .ref a_readMarks, .ref a_readWeathers, .ref a_readHours, .ref a_readFear, .int readDays, .ref a_readWeather, .ref a_readHour, .ref a_readDanger, .int undos, .ref a_past, .ref a_morning, .ref a_sent, .int watched, .ref a_watchedDay, .ref a_watchedOut, .int booked, .ref a_bookWho, .ref a_bookMarks, .ref a_images, .ref a_isKept])), (a_sent, .inl (cI, 6, .inl u)), (a_now, .inl (cI, 13, .inl now)), (a_dayWeather, .inl (cI, 10, .inl dayWeather)), (a_dayHour, .inl (cI, 10, .inl dayHour)), (a_dayDanger, .inl (cI, 10, .inl dayDanger)), (a_weathers, .inl (cI, 8, .inl weathers)), (a_hours, .inl (cI, 8, .inl hours)), (a_fear, .inl (cI, 8, .inl fear))])) (va_A [(a_this, .inr (8, [.int pay, .ref a_weathers, .ref a_hours, .ref a_fear, .int days, .ref a_dayWeather, .ref a_dayHour, .ref a_dayDanger, .ref a_now, .int seed, .ref a_text, .int texted, .int faultPlace, .int at0, .int number, .int numberAt, .ref a_readPay, .int readPersons, .ref a_readMarks, .ref a_readWeathers, .ref a_readHours, .ref a_readFear, .int readDays, .ref a_readWeather, .ref a_readHour, .ref a_readDanger, .int undos, .ref a_past, .ref a_morning, .ref a_sent, .int watched, .ref a_watchedDay, .ref a_watchedOut, .int booked, .ref a_bookWho, .ref a_bookMarks, .ref a_images, .ref a_isKept])), (a_sent, .inl (cI, 6, .inl sent)), (a_now, .inl (cI, 13, .inl now)), (a_dayWeather, .inl (cI, 10, .inl dayWeather)), (a_dayHour, .inl (cI, 10, .inl dayHour)), (a_dayDanger, .inl (cI, 10, .inl dayDanger)), (a_weathers, .inl (cI, 8, .inl weathers)), (a_hours, .inl (cI, 8, .inl hours)), (a_fear, .inl (cI, 8, .inl fear))] s.heap.size)) ([.ref a_this, .int p1] : List Value).toArray s 0 0 (va_A [(a_this, .inr (8, [.int pay, .ref a_weathers, .ref a_hours, .ref a_fear, .int days, .ref a_dayWeather, .ref a_dayHour, .ref a_dayDanger, .ref a_now, .int seed, .ref a_text, .int texted, .int faultPlace, .int at0, .int number, .int numberAt, .ref a_readPay, .int readPersons, .ref a_readMarks, .ref a_readWeathers, .ref a_readHours, .ref a_readFear, .int readDays, .ref a_readWeather, .ref a_readHour, .ref a_readDanger, .int undos, .ref a_past, .ref a_morning, .ref a_sent, .int watched, .ref a_watchedDay, .ref a_watchedOut, .int booked, .ref a_bookWho, .ref a_bookMarks, .ref a_images, .ref a_isKept])), (a_sent, .inl (cI, 6, .inl sent)), (a_now, .inl (cI, 13, .inl now)), (a_dayWeather, .inl (cI, 10, .inl dayWeather)), (a_dayHour, .inl (cI, 10, .inl dayHour)), (a_dayDanger, .inl (cI, 10, .inl dayDanger)), (a_weathers, .inl (cI, 8, .inl weathers)), (a_hours, .inl (cI, 8, .inl hours)), (a_fear, .inl (cI, 8, .inl fear))] s.heap.size) := ⟨_, rfl⟩
  rw [← hQ]
  generalize hAe : va_A [(a_this, .inr (8, [.int pay, .ref a_weathers, .ref a_hours, .ref a_fear, .int days, .ref a_dayWeather, .ref a_dayHour, .ref a_dayDanger, .ref a_now, .int seed, .ref a_text, .int texted, .int faultPlace, .int at0, .int number, .int numberAt, .ref a_readPay, .int readPersons, .ref a_readMarks, .ref a_readWeathers, .ref a_readHours, .ref a_readFear, .int readDays, .ref a_readWeather, .ref a_readHour, .ref a_readDanger, .int undos, .ref a_past, .ref a_morning, .ref a_sent, .int watched, .ref a_watchedDay, .ref a_watchedOut, .int booked, .ref a_bookWho, .ref a_bookMarks, .ref a_images, .ref a_isKept])), (a_sent, .inl (cI, 6, .inl sent)), (a_now, .inl (cI, 13, .inl now)), (a_dayWeather, .inl (cI, 10, .inl dayWeather)), (a_dayHour, .inl (cI, 10, .inl dayHour)), (a_dayDanger, .inl (cI, 10, .inl dayDanger)), (a_weathers, .inl (cI, 8, .inl weathers)), (a_hours, .inl (cI, 8, .inl hours)), (a_fear, .inl (cI, 8, .inl fear))] s.heap.size = A at hD hQ
  have hA : ∀ q : Nat, s.heap.size ≤ q → A q := fun q h => by rw [← hAe]; exact Or.inr h
  have hS : va_S A s.heap s.heap [] := va_S.rf
  have hl := lv_entry ([.ref a_this, .int p1]) (n := 4) (Nat.le_of_ble_eq_true rfl)
  rw [lg_entry_eq]
  generalize (lg_sl ([.ref a_this, .int p1]) ++ List.replicate (4 - (lg_sl ([.ref a_this, .int p1])).length) Slot.unset).toArray = ls at hl ⊢
  have hl : lv_has ls 4 [(0, .ref a_this), (1, .int p1)] := hl
  generalize ([.ref a_this, .int p1] : List Value).toArray = args at hts hQ ⊢
  have hP : va_P D vwCl [(a_this, .inr (8, [.int pay, .ref a_weathers, .ref a_hours, .ref a_fear, .int days, .ref a_dayWeather, .ref a_dayHour, .ref a_dayDanger, .ref a_now, .int seed, .ref a_text, .int texted, .int faultPlace, .int at0, .int number, .int numberAt, .ref a_readPay, .int readPersons, .ref a_readMarks, .ref a_readWeathers, .ref a_readHours, .ref a_readFear, .int readDays, .ref a_readWeather, .ref a_readHour, .ref a_readDanger, .int undos, .ref a_past, .ref a_morning, .ref a_sent, .int watched, .ref a_watchedDay, .ref a_watchedOut, .int booked, .ref a_bookWho, .ref a_bookMarks, .ref a_images, .ref a_isKept])), (a_sent, .inl (cI, 6, .inl sent)), (a_now, .inl (cI, 13, .inl now)), (a_dayWeather, .inl (cI, 10, .inl dayWeather)), (a_dayHour, .inl (cI, 10, .inl dayHour)), (a_dayDanger, .inl (cI, 10, .inl dayDanger)), (a_weathers, .inl (cI, 8, .inl weathers)), (a_hours, .inl (cI, 8, .inl hours)), (a_fear, .inl (cI, 8, .inl fear))] s.heap := hP
  have hinX8 : ∀ w ∈ u_ws RX8 TX8 38, w ∈ wsX8_findSent := by decide +kernel
  have fl_28 := hts (.fieldLink RX8 28 "DoubleChainModel" "now" "[I") (by decide +kernel)
  have fl_68 := hts (.fieldLink RX8 68 "DoubleChainModel" "sent" "[I") (by decide +kernel)
  clear B
  show W p l e xrm_X8_findSent s m args below meth c s.heap [] 0 0 Q (F0 m 0 ls [])
  unfold wp_X8_findSent at hw
  refine lv_iconst (v := 0) hx hb dX8_findSent_0 (by decide) ?_
  refine lv_istore_n (lv' := [(2, .int 0), (0, .ref a_this), (1, .int p1)]) hx hb dX8_findSent_1 rfl hl (by decide) rfl (fun ls hl => ?_)
  refine lv_aload_n hx hb dX8_findSent_2 rfl (lv_at hl 1 rfl) ?_
  refine va_get (D := D) (ci := 8) (v := .ref a_sent) (C := RX8) (T := TX8) (N := 38) hx hb hts hinX8 hown hKK.1 hP 0 rfl rfl 29 (by decide) fl_68 (fun _ h9 => h9) rfl dX8_findSent_3 ?_
  refine lv_iconst (v := 0) hx hb dX8_findSent_6 (by decide) ?_
  refine lv_iconst (v := (-1)) hx hb dX8_findSent_7 (by decide) ?_
  refine x_iast 0 (by decide) (Nat.le_of_ble_eq_true rfl) hx hb hKK.1 hP hD hS 1 0 rfl rfl dX8_findSent_8 (fun H locs hP hD hS => ?_)
  have hP : va_P D vwCl [(a_this, .inr (8, [.int pay, .ref a_weathers, .ref a_hours, .ref a_fear, .int days, .ref a_dayWeather, .ref a_dayHour, .ref a_dayDanger, .ref a_now, .int seed, .ref a_text, .int texted, .int faultPlace, .int at0, .int number, .int numberAt, .ref a_readPay, .int readPersons, .ref a_readMarks, .ref a_readWeathers, .ref a_readHours, .ref a_readFear, .int readDays, .ref a_readWeather, .ref a_readHour, .ref a_readDanger, .int undos, .ref a_past, .ref a_morning, .ref a_sent, .int watched, .ref a_watchedDay, .ref a_watchedOut, .int booked, .ref a_bookWho, .ref a_bookMarks, .ref a_images, .ref a_isKept])), (a_sent, .inl (cI, 6, .inl (upd sent 0 (-1)))), (a_now, .inl (cI, 13, .inl now)), (a_dayWeather, .inl (cI, 10, .inl dayWeather)), (a_dayHour, .inl (cI, 10, .inl dayHour)), (a_dayDanger, .inl (cI, 10, .inl dayDanger)), (a_weathers, .inl (cI, 8, .inl weathers)), (a_hours, .inl (cI, 8, .inl hours)), (a_fear, .inl (cI, 8, .inl fear))] H := hP
  have hD : va_D A [(a_this, .inr (8, [.int pay, .ref a_weathers, .ref a_hours, .ref a_fear, .int days, .ref a_dayWeather, .ref a_dayHour, .ref a_dayDanger, .ref a_now, .int seed, .ref a_text, .int texted, .int faultPlace, .int at0, .int number, .int numberAt, .ref a_readPay, .int readPersons, .ref a_readMarks, .ref a_readWeathers, .ref a_readHours, .ref a_readFear, .int readDays, .ref a_readWeather, .ref a_readHour, .ref a_readDanger, .int undos, .ref a_past, .ref a_morning, .ref a_sent, .int watched, .ref a_watchedDay, .ref a_watchedOut, .int booked, .ref a_bookWho, .ref a_bookMarks, .ref a_images, .ref a_isKept])), (a_sent, .inl (cI, 6, .inl (upd sent 0 (-1)))), (a_now, .inl (cI, 13, .inl now)), (a_dayWeather, .inl (cI, 10, .inl dayWeather)), (a_dayHour, .inl (cI, 10, .inl dayHour)), (a_dayDanger, .inl (cI, 10, .inl dayDanger)), (a_weathers, .inl (cI, 8, .inl weathers)), (a_hours, .inl (cI, 8, .inl hours)), (a_fear, .inl (cI, 8, .inl fear))] := hD
  have EX_9 : ∀ (sent_9 : Nat → Int32) (x2_9 : Int32), ∀ (H : Heap) (locs : List Loc), va_P D vwCl [(a_this, .inr (8, [.int pay, .ref a_weathers, .ref a_hours, .ref a_fear, .int days, .ref a_dayWeather, .ref a_dayHour, .ref a_dayDanger, .ref a_now, .int seed, .ref a_text, .int texted, .int faultPlace, .int at0, .int number, .int numberAt, .ref a_readPay, .int readPersons, .ref a_readMarks, .ref a_readWeathers, .ref a_readHours, .ref a_readFear, .int readDays, .ref a_readWeather, .ref a_readHour, .ref a_readDanger, .int undos, .ref a_past, .ref a_morning, .ref a_sent, .int watched, .ref a_watchedDay, .ref a_watchedOut, .int booked, .ref a_bookWho, .ref a_bookMarks, .ref a_images, .ref a_isKept])), (a_sent, .inl (cI, 6, .inl sent_9)), (a_now, .inl (cI, 13, .inl now)), (a_dayWeather, .inl (cI, 10, .inl dayWeather)), (a_dayHour, .inl (cI, 10, .inl dayHour)), (a_dayDanger, .inl (cI, 10, .inl dayDanger)), (a_weathers, .inl (cI, 8, .inl weathers)), (a_hours, .inl (cI, 8, .inl hours)), (a_fear, .inl (cI, 8, .inl fear))] H → va_D A [(a_this, .inr (8, [.int pay, .ref a_weathers, .ref a_hours, .ref a_fear, .int days, .ref a_dayWeather, .ref a_dayHour, .ref a_dayDanger, .ref a_now, .int seed, .ref a_text, .int texted, .int faultPlace, .int at0, .int number, .int numberAt, .ref a_readPay, .int readPersons, .ref a_readMarks, .ref a_readWeathers, .ref a_readHours, .ref a_readFear, .int readDays, .ref a_readWeather, .ref a_readHour, .ref a_readDanger, .int undos, .ref a_past, .ref a_morning, .ref a_sent, .int watched, .ref a_watchedDay, .ref a_watchedOut, .int booked, .ref a_bookWho, .ref a_bookMarks, .ref a_images, .ref a_isKept])), (a_sent, .inl (cI, 6, .inl sent_9)), (a_now, .inl (cI, 13, .inl now)), (a_dayWeather, .inl (cI, 10, .inl dayWeather)), (a_dayHour, .inl (cI, 10, .inl dayHour)), (a_dayDanger, .inl (cI, 10, .inl dayDanger)), (a_weathers, .inl (cI, 8, .inl weathers)), (a_hours, .inl (cI, 8, .inl hours)), (a_fear, .inl (cI, 8, .inl fear))] → va_S A s.heap H locs → ∀ (ls : Array Slot), lv_has ls 4 [(0, .ref a_this), (1, .int p1), (2, .int x2_9)] → (wk_X8_findSent_9 p1 Φ sent_9 x2_9) → W p l e xrm_X8_findSent s m args below meth c H locs 0 0 Q (F0 m 104 ls []) := by
    intro sent_9 x2_9 H locs hP hD hS ls hl hw
    unfold wk_X8_findSent_9 at hw
    refine lv_iload_n hx hb dX8_findSent_104 rfl (lv_at hl 2 rfl) ?_
    refine lv_iload_n hx hb dX8_findSent_105 rfl (lv_at hl 1 rfl) ?_
    refine lv_icmp_ne (tgt := 113) hx hb dX8_findSent_106 (by decide) (fun c_106 => ?_) (fun c_106 => ?_)
    · have hw := hw.2 c_106
      refine lv_iconst (v := 0) hx hb dX8_findSent_113 (by decide) ?_
      rw [hQ]
      exact W.zret (v := 0) hx hb hr xvz_0 (fun t ht _ => ⟨⟨0, sent_9, rfl, hw, by rw [ht]; exact hP, hD⟩, hS.F ht⟩) hS.2.2 dX8_findSent_114
    · have hw := hw.1 c_106
      refine lv_iconst (v := 1) hx hb dX8_findSent_109 (by decide) ?_
      refine lv_goto (tgt := 114) hx hb dX8_findSent_110 (by decide) ?_
      rw [hQ]
      exact W.zret (v := 1) hx hb hr xvz_1 (fun t ht _ => ⟨⟨1, sent_9, rfl, hw, by rw [ht]; exact hP, hD⟩, hS.F ht⟩) hS.2.2 dX8_findSent_114
  generalize (wk_X8_findSent_9 p1 Φ) = K_9 at EX_9 hw
  have LP_9 : ∀ n : Nat, ∀ (sent_9 : Nat → Int32) (x2_9 : Int32), ∀ (H : Heap) (locs : List Loc), va_P D vwCl [(a_this, .inr (8, [.int pay, .ref a_weathers, .ref a_hours, .ref a_fear, .int days, .ref a_dayWeather, .ref a_dayHour, .ref a_dayDanger, .ref a_now, .int seed, .ref a_text, .int texted, .int faultPlace, .int at0, .int number, .int numberAt, .ref a_readPay, .int readPersons, .ref a_readMarks, .ref a_readWeathers, .ref a_readHours, .ref a_readFear, .int readDays, .ref a_readWeather, .ref a_readHour, .ref a_readDanger, .int undos, .ref a_past, .ref a_morning, .ref a_sent, .int watched, .ref a_watchedDay, .ref a_watchedOut, .int booked, .ref a_bookWho, .ref a_bookMarks, .ref a_images, .ref a_isKept])), (a_sent, .inl (cI, 6, .inl sent_9)), (a_now, .inl (cI, 13, .inl now)), (a_dayWeather, .inl (cI, 10, .inl dayWeather)), (a_dayHour, .inl (cI, 10, .inl dayHour)), (a_dayDanger, .inl (cI, 10, .inl dayDanger)), (a_weathers, .inl (cI, 8, .inl weathers)), (a_hours, .inl (cI, 8, .inl hours)), (a_fear, .inl (cI, 8, .inl fear))] H → va_D A [(a_this, .inr (8, [.int pay, .ref a_weathers, .ref a_hours, .ref a_fear, .int days, .ref a_dayWeather, .ref a_dayHour, .ref a_dayDanger, .ref a_now, .int seed, .ref a_text, .int texted, .int faultPlace, .int at0, .int number, .int numberAt, .ref a_readPay, .int readPersons, .ref a_readMarks, .ref a_readWeathers, .ref a_readHours, .ref a_readFear, .int readDays, .ref a_readWeather, .ref a_readHour, .ref a_readDanger, .int undos, .ref a_past, .ref a_morning, .ref a_sent, .int watched, .ref a_watchedDay, .ref a_watchedOut, .int booked, .ref a_bookWho, .ref a_bookMarks, .ref a_images, .ref a_isKept])), (a_sent, .inl (cI, 6, .inl sent_9)), (a_now, .inl (cI, 13, .inl now)), (a_dayWeather, .inl (cI, 10, .inl dayWeather)), (a_dayHour, .inl (cI, 10, .inl dayHour)), (a_dayDanger, .inl (cI, 10, .inl dayDanger)), (a_weathers, .inl (cI, 8, .inl weathers)), (a_hours, .inl (cI, 8, .inl hours)), (a_fear, .inl (cI, 8, .inl fear))] → va_S A s.heap H locs → ∀ (ls : Array Slot), lv_has ls 4 [(0, .ref a_this), (1, .int p1), (2, .int x2_9)] → xit2 (wb_X8_findSent_9 days now dayWeather dayHour dayDanger weathers hours fear p1 K_9) n sent_9 x2_9 → W p l e xrm_X8_findSent s m args below meth c H locs 0 0 Q (F0 m 9 ls []) := by
    intro n
    induction n with
    | zero => intro sent_9 x2_9 H locs hP hD hS ls hl hw; exact (show False from hw).elim
    | succ n ih =>
      intro sent_9 x2_9 H locs hP hD hS ls hl hw
      have hw : wb_X8_findSent_9 days now dayWeather dayHour dayDanger weathers hours fear p1 K_9 (xit2 (wb_X8_findSent_9 days now dayWeather dayHour dayDanger weathers hours fear p1 K_9) n) sent_9 x2_9 := hw
      generalize xit2 (wb_X8_findSent_9 days now dayWeather dayHour dayDanger weathers hours fear p1 K_9) n = rec_9 at ih hw
      unfold wb_X8_findSent_9 at hw
      refine lv_iload_n hx hb dX8_findSent_9 rfl (lv_at hl 2 rfl) ?_
      refine lv_if_lt (tgt := 104) hx hb dX8_findSent_10 (by decide) (fun c_10 => ?_) (fun c_10 => ?_)
      · have hw := hw.1 c_10
        exact EX_9 _ _ _ _ hP hD hS ls (lv_sub hl [0, 1, 2] rfl) hw
      · have hw := hw.2 c_10
        refine lv_iload_n hx hb dX8_findSent_13 rfl (lv_at hl 2 rfl) ?_
        refine lv_iload_n hx hb dX8_findSent_14 rfl (lv_at hl 1 rfl) ?_
        refine lv_icmp_ge (tgt := 104) hx hb dX8_findSent_15 (by decide) (fun c_15 => ?_) (fun c_15 => ?_)
        · have hw := hw.1 c_15
          exact EX_9 _ _ _ _ hP hD hS ls (lv_sub hl [0, 1, 2] rfl) hw
        · have hw := hw.2 c_15
          refine lv_aload_n hx hb dX8_findSent_18 rfl (lv_at hl 0 rfl) ?_
          refine va_get (D := D) (ci := 8) (v := .ref a_sent) (C := RX8) (T := TX8) (N := 38) hx hb hts hinX8 hown hKK.1 hP 0 rfl rfl 29 (by decide) fl_68 (fun _ h9 => h9) rfl dX8_findSent_19 ?_
          refine lv_iload_n hx hb dX8_findSent_22 rfl (lv_at hl 2 rfl) ?_
          refine lv_dup2_11 hx hb dX8_findSent_23 rfl rfl ?_
          obtain ⟨hin, hw⟩ := hw
          refine va_iald hx hb hKK.1 hP 1 0 rfl rfl hin dX8_findSent_24 ?_
          refine lv_iconst (v := 1) hx hb dX8_findSent_25 (by decide) ?_
          refine lv_iadd hx hb dX8_findSent_26 ?_
          obtain ⟨hin, hw⟩ := hw
          refine va_iast hx hb hKK.1 hP hD hS 1 0 rfl rfl hin dX8_findSent_27 (fun H locs hP hD hS => ?_)
          have hP : va_P D vwCl [(a_this, .inr (8, [.int pay, .ref a_weathers, .ref a_hours, .ref a_fear, .int days, .ref a_dayWeather, .ref a_dayHour, .ref a_dayDanger, .ref a_now, .int seed, .ref a_text, .int texted, .int faultPlace, .int at0, .int number, .int numberAt, .ref a_readPay, .int readPersons, .ref a_readMarks, .ref a_readWeathers, .ref a_readHours, .ref a_readFear, .int readDays, .ref a_readWeather, .ref a_readHour, .ref a_readDanger, .int undos, .ref a_past, .ref a_morning, .ref a_sent, .int watched, .ref a_watchedDay, .ref a_watchedOut, .int booked, .ref a_bookWho, .ref a_bookMarks, .ref a_images, .ref a_isKept])), (a_sent, .inl (cI, 6, .inl (upd sent_9 x2_9.toNatClampNeg ((sent_9 x2_9.toNatClampNeg) + 1)))), (a_now, .inl (cI, 13, .inl now)), (a_dayWeather, .inl (cI, 10, .inl dayWeather)), (a_dayHour, .inl (cI, 10, .inl dayHour)), (a_dayDanger, .inl (cI, 10, .inl dayDanger)), (a_weathers, .inl (cI, 8, .inl weathers)), (a_hours, .inl (cI, 8, .inl hours)), (a_fear, .inl (cI, 8, .inl fear))] H := hP
          have hD : va_D A [(a_this, .inr (8, [.int pay, .ref a_weathers, .ref a_hours, .ref a_fear, .int days, .ref a_dayWeather, .ref a_dayHour, .ref a_dayDanger, .ref a_now, .int seed, .ref a_text, .int texted, .int faultPlace, .int at0, .int number, .int numberAt, .ref a_readPay, .int readPersons, .ref a_readMarks, .ref a_readWeathers, .ref a_readHours, .ref a_readFear, .int readDays, .ref a_readWeather, .ref a_readHour, .ref a_readDanger, .int undos, .ref a_past, .ref a_morning, .ref a_sent, .int watched, .ref a_watchedDay, .ref a_watchedOut, .int booked, .ref a_bookWho, .ref a_bookMarks, .ref a_images, .ref a_isKept])), (a_sent, .inl (cI, 6, .inl (upd sent_9 x2_9.toNatClampNeg ((sent_9 x2_9.toNatClampNeg) + 1)))), (a_now, .inl (cI, 13, .inl now)), (a_dayWeather, .inl (cI, 10, .inl dayWeather)), (a_dayHour, .inl (cI, 10, .inl dayHour)), (a_dayDanger, .inl (cI, 10, .inl dayDanger)), (a_weathers, .inl (cI, 8, .inl weathers)), (a_hours, .inl (cI, 8, .inl hours)), (a_fear, .inl (cI, 8, .inl fear))] := hD
          refine lv_aload_n hx hb dX8_findSent_28 rfl (lv_at hl 0 rfl) ?_
          refine va_get (D := D) (ci := 8) (v := .ref a_sent) (C := RX8) (T := TX8) (N := 38) hx hb hts hinX8 hown hKK.1 hP 0 rfl rfl 29 (by decide) fl_68 (fun _ h9 => h9) rfl dX8_findSent_29 ?_
          refine lv_iload_n hx hb dX8_findSent_32 rfl (lv_at hl 2 rfl) ?_
          obtain ⟨hin, hw⟩ := hw
          refine va_iald hx hb hKK.1 hP 1 0 rfl rfl hin dX8_findSent_33 ?_
          refine lv_istore_n (lv' := [(3, .int ((upd sent_9 x2_9.toNatClampNeg ((sent_9 x2_9.toNatClampNeg) + 1)) x2_9.toNatClampNeg)), (0, .ref a_this), (1, .int p1), (2, .int x2_9)]) hx hb dX8_findSent_34 rfl hl (by decide) rfl (fun ls hl => ?_)
          refine lv_iload_n hx hb dX8_findSent_35 rfl (lv_at hl 0 rfl) ?_
          refine lv_aload_n hx hb dX8_findSent_36 rfl (lv_at hl 1 rfl) ?_
          refine va_get (D := D) (ci := 8) (v := .ref a_now) (C := RX8) (T := TX8) (N := 38) hx hb hts hinX8 hown hKK.1 hP 0 rfl rfl 8 (by decide) fl_28 (fun _ h9 => h9) rfl dX8_findSent_37 ?_
          refine lv_bipush (v := 8) hx hb dX8_findSent_40 (by decide) ?_
          refine x_iald 8 (by decide) (Nat.le_of_ble_eq_true rfl) hx hb hKK.1 hP 2 0 rfl rfl dX8_findSent_42 ?_
          refine lv_icmp_lt (tgt := 52) hx hb dX8_findSent_43 (by decide) (fun c_43 => ?_) (fun c_43 => ?_)
          · have hw := hw.1 c_43
            refine lv_aload_n hx hb dX8_findSent_52 rfl (lv_at hl 1 rfl) ?_
            refine lv_iload_n hx hb dX8_findSent_53 rfl (lv_at hl 0 rfl) ?_
            refine xcVi (q0 := 0) (ci := 8) (As := [.int ((upd sent_9 x2_9.toNatClampNeg ((sent_9 x2_9.toNatClampNeg) + 1)) x2_9.toNatClampNeg)]) (rest := []) (wc := [(a_this, .inr (8, [.int pay, .ref a_weathers, .ref a_hours, .ref a_fear, .int days, .ref a_dayWeather, .ref a_dayHour, .ref a_dayDanger, .ref a_now, .int seed, .ref a_text, .int texted, .int faultPlace, .int at0, .int number, .int numberAt, .ref a_readPay, .int readPersons, .ref a_readMarks, .ref a_readWeathers, .ref a_readHours, .ref a_readFear, .int readDays, .ref a_readWeather, .ref a_readHour, .ref a_readDanger, .int undos, .ref a_past, .ref a_morning, .ref a_sent, .int watched, .ref a_watchedDay, .ref a_watchedOut, .int booked, .ref a_bookWho, .ref a_bookMarks, .ref a_images, .ref a_isKept])), (a_now, .inl (cI, 13, .inl now))]) ⟨hx, hb, hml, hown, hts⟩ (c_X8_lives l D cI cZ cO hw) (cwV 1 hts gX8_findSent_X8_lives rfl rfl rfl (by decide +kernel) ⟨Nat.le_of_ble_eq_true rfl, Nat.le_of_ble_eq_true rfl⟩) hKK hP [0, 2] rfl rfl rfl rfl hl.1 rfl (Nat.le_of_ble_eq_true rfl) dX8_findSent_54 ⟨Nat.zero_le _, Nat.zero_le _⟩ (fun r_54 hw => ?_)
            refine lv_if_eq (tgt := 101) hx hb dX8_findSent_57 (by decide) (fun c_57 => ?_) (fun c_57 => ?_)
            · have hw := hw.1 c_57
              refine lv_goto (tgt := 9) hx hb dX8_findSent_101 (by decide) ?_
              exact ih _ _ _ _ hP hD hS ls (lv_sub hl [1, 2, 3] rfl) hw
            · have hw := hw.2 c_57
              refine lv_aload_n hx hb dX8_findSent_60 rfl (lv_at hl 1 rfl) ?_
              refine lv_iload_n hx hb dX8_findSent_61 rfl (lv_at hl 0 rfl) ?_
              refine lv_iload_n hx hb dX8_findSent_62 rfl (lv_at hl 3 rfl) ?_
              refine xcVi (q0 := 0) (ci := 8) (As := [.int ((upd sent_9 x2_9.toNatClampNeg ((sent_9 x2_9.toNatClampNeg) + 1)) x2_9.toNatClampNeg), .int x2_9]) (rest := []) (wc := [(a_this, .inr (8, [.int pay, .ref a_weathers, .ref a_hours, .ref a_fear, .int days, .ref a_dayWeather, .ref a_dayHour, .ref a_dayDanger, .ref a_now, .int seed, .ref a_text, .int texted, .int faultPlace, .int at0, .int number, .int numberAt, .ref a_readPay, .int readPersons, .ref a_readMarks, .ref a_readWeathers, .ref a_readHours, .ref a_readFear, .int readDays, .ref a_readWeather, .ref a_readHour, .ref a_readDanger, .int undos, .ref a_past, .ref a_morning, .ref a_sent, .int watched, .ref a_watchedDay, .ref a_watchedOut, .int booked, .ref a_bookWho, .ref a_bookMarks, .ref a_images, .ref a_isKept])), (a_sent, .inl (cI, 6, .inl (upd sent_9 x2_9.toNatClampNeg ((sent_9 x2_9.toNatClampNeg) + 1))))]) ⟨hx, hb, hml, hown, hts⟩ (c_X8_isSent l D cI cZ cO hw) (cwV 2 hts gX8_findSent_X8_isSent rfl rfl rfl (by decide +kernel) ⟨Nat.le_of_ble_eq_true rfl, Nat.le_of_ble_eq_true rfl⟩) hKK hP [0, 1] rfl rfl rfl rfl hl.1 rfl (Nat.le_of_ble_eq_true rfl) dX8_findSent_63 ⟨Nat.zero_le _, Nat.zero_le _⟩ (fun r_63 hw => ?_)
              refine lv_if_ne (tgt := 101) hx hb dX8_findSent_66 (by decide) (fun c_66 => ?_) (fun c_66 => ?_)
              · have hw := hw.2 c_66
                refine lv_goto (tgt := 9) hx hb dX8_findSent_101 (by decide) ?_
                exact ih _ _ _ _ hP hD hS ls (lv_sub hl [1, 2, 3] rfl) hw
              · have hw := hw.1 c_66
                refine lv_aload_n hx hb dX8_findSent_69 rfl (lv_at hl 1 rfl) ?_
                refine lv_iload_n hx hb dX8_findSent_70 rfl (lv_at hl 0 rfl) ?_
                refine lv_aload_n hx hb dX8_findSent_71 rfl (lv_at hl 1 rfl) ?_
                refine va_get (D := D) (ci := 8) (v := .ref a_now) (C := RX8) (T := TX8) (N := 38) hx hb hts hinX8 hown hKK.1 hP 0 rfl rfl 8 (by decide) fl_28 (fun _ h9 => h9) rfl dX8_findSent_72 ?_
                refine lv_bipush (v := 11) hx hb dX8_findSent_75 (by decide) ?_
                refine x_iald 11 (by decide) (Nat.le_of_ble_eq_true rfl) hx hb hKK.1 hP 2 0 rfl rfl dX8_findSent_77 ?_
                refine lv_iload_n hx hb dX8_findSent_78 rfl (lv_at hl 3 rfl) ?_
                refine lv_iadd hx hb dX8_findSent_79 ?_
                refine xcVi (q0 := 0) (ci := 8) (As := [.int ((upd sent_9 x2_9.toNatClampNeg ((sent_9 x2_9.toNatClampNeg) + 1)) x2_9.toNatClampNeg), .int ((now 11) + x2_9)]) (rest := []) (wc := [(a_this, .inr (8, [.int pay, .ref a_weathers, .ref a_hours, .ref a_fear, .int days, .ref a_dayWeather, .ref a_dayHour, .ref a_dayDanger, .ref a_now, .int seed, .ref a_text, .int texted, .int faultPlace, .int at0, .int number, .int numberAt, .ref a_readPay, .int readPersons, .ref a_readMarks, .ref a_readWeathers, .ref a_readHours, .ref a_readFear, .int readDays, .ref a_readWeather, .ref a_readHour, .ref a_readDanger, .int undos, .ref a_past, .ref a_morning, .ref a_sent, .int watched, .ref a_watchedDay, .ref a_watchedOut, .int booked, .ref a_bookWho, .ref a_bookMarks, .ref a_images, .ref a_isKept])), (a_dayWeather, .inl (cI, 10, .inl dayWeather)), (a_dayHour, .inl (cI, 10, .inl dayHour)), (a_dayDanger, .inl (cI, 10, .inl dayDanger)), (a_weathers, .inl (cI, 8, .inl weathers)), (a_hours, .inl (cI, 8, .inl hours)), (a_fear, .inl (cI, 8, .inl fear))]) ⟨hx, hb, hml, hown, hts⟩ (c_X8_goesOn l D cI cZ cO hw) (cwV 2 hts gX8_findSent_X8_goesOn rfl rfl rfl (by decide +kernel) ⟨Nat.le_of_ble_eq_true rfl, Nat.le_of_ble_eq_true rfl⟩) hKK hP [0, 3, 4, 5, 6, 7, 8] rfl rfl rfl rfl hl.1 rfl (Nat.le_of_ble_eq_true rfl) dX8_findSent_80 ⟨Nat.zero_le _, Nat.zero_le _⟩ (fun r_80 hw => ?_)
                refine lv_if_eq (tgt := 101) hx hb dX8_findSent_83 (by decide) (fun c_83 => ?_) (fun c_83 => ?_)
                · have hw := hw.1 c_83
                  refine lv_goto (tgt := 9) hx hb dX8_findSent_101 (by decide) ?_
                  exact ih _ _ _ _ hP hD hS ls (lv_sub hl [1, 2, 3] rfl) hw
                · have hw := hw.2 c_83
                  refine lv_iinc (v := (x2_9 + 1)) (lv' := [(2, .int (x2_9 + 1)), (3, .int ((upd sent_9 x2_9.toNatClampNeg ((sent_9 x2_9.toNatClampNeg) + 1)) x2_9.toNatClampNeg)), (0, .ref a_this), (1, .int p1)]) hx hb dX8_findSent_86 hl (k := 3) rfl (by rfl) (by decide) rfl (fun ls hl => ?_)
                  refine lv_iload_n hx hb dX8_findSent_89 rfl (lv_at hl 0 rfl) ?_
                  refine lv_iload_n hx hb dX8_findSent_90 rfl (lv_at hl 3 rfl) ?_
                  refine lv_icmp_ge (tgt := 101) hx hb dX8_findSent_91 (by decide) (fun c_91 => ?_) (fun c_91 => ?_)
                  · have hw := hw.1 c_91
                    refine lv_goto (tgt := 9) hx hb dX8_findSent_101 (by decide) ?_
                    exact ih _ _ _ _ hP hD hS ls (lv_sub hl [2, 3, 0] rfl) hw
                  · have hw := hw.2 c_91
                    refine lv_aload_n hx hb dX8_findSent_94 rfl (lv_at hl 2 rfl) ?_
                    refine va_get (D := D) (ci := 8) (v := .ref a_sent) (C := RX8) (T := TX8) (N := 38) hx hb hts hinX8 hown hKK.1 hP 0 rfl rfl 29 (by decide) fl_68 (fun _ h9 => h9) rfl dX8_findSent_95 ?_
                    refine lv_iload_n hx hb dX8_findSent_98 rfl (lv_at hl 0 rfl) ?_
                    refine lv_iconst (v := (-1)) hx hb dX8_findSent_99 (by decide) ?_
                    obtain ⟨hin, hw⟩ := hw
                    refine va_iast hx hb hKK.1 hP hD hS 1 0 rfl rfl hin dX8_findSent_100 (fun H locs hP hD hS => ?_)
                    have hP : va_P D vwCl [(a_this, .inr (8, [.int pay, .ref a_weathers, .ref a_hours, .ref a_fear, .int days, .ref a_dayWeather, .ref a_dayHour, .ref a_dayDanger, .ref a_now, .int seed, .ref a_text, .int texted, .int faultPlace, .int at0, .int number, .int numberAt, .ref a_readPay, .int readPersons, .ref a_readMarks, .ref a_readWeathers, .ref a_readHours, .ref a_readFear, .int readDays, .ref a_readWeather, .ref a_readHour, .ref a_readDanger, .int undos, .ref a_past, .ref a_morning, .ref a_sent, .int watched, .ref a_watchedDay, .ref a_watchedOut, .int booked, .ref a_bookWho, .ref a_bookMarks, .ref a_images, .ref a_isKept])), (a_sent, .inl (cI, 6, .inl (upd (upd sent_9 x2_9.toNatClampNeg ((sent_9 x2_9.toNatClampNeg) + 1)) (x2_9 + 1).toNatClampNeg (-1)))), (a_now, .inl (cI, 13, .inl now)), (a_dayWeather, .inl (cI, 10, .inl dayWeather)), (a_dayHour, .inl (cI, 10, .inl dayHour)), (a_dayDanger, .inl (cI, 10, .inl dayDanger)), (a_weathers, .inl (cI, 8, .inl weathers)), (a_hours, .inl (cI, 8, .inl hours)), (a_fear, .inl (cI, 8, .inl fear))] H := hP
                    have hD : va_D A [(a_this, .inr (8, [.int pay, .ref a_weathers, .ref a_hours, .ref a_fear, .int days, .ref a_dayWeather, .ref a_dayHour, .ref a_dayDanger, .ref a_now, .int seed, .ref a_text, .int texted, .int faultPlace, .int at0, .int number, .int numberAt, .ref a_readPay, .int readPersons, .ref a_readMarks, .ref a_readWeathers, .ref a_readHours, .ref a_readFear, .int readDays, .ref a_readWeather, .ref a_readHour, .ref a_readDanger, .int undos, .ref a_past, .ref a_morning, .ref a_sent, .int watched, .ref a_watchedDay, .ref a_watchedOut, .int booked, .ref a_bookWho, .ref a_bookMarks, .ref a_images, .ref a_isKept])), (a_sent, .inl (cI, 6, .inl (upd (upd sent_9 x2_9.toNatClampNeg ((sent_9 x2_9.toNatClampNeg) + 1)) (x2_9 + 1).toNatClampNeg (-1)))), (a_now, .inl (cI, 13, .inl now)), (a_dayWeather, .inl (cI, 10, .inl dayWeather)), (a_dayHour, .inl (cI, 10, .inl dayHour)), (a_dayDanger, .inl (cI, 10, .inl dayDanger)), (a_weathers, .inl (cI, 8, .inl weathers)), (a_hours, .inl (cI, 8, .inl hours)), (a_fear, .inl (cI, 8, .inl fear))] := hD
                    refine lv_goto (tgt := 9) hx hb dX8_findSent_101 (by decide) ?_
                    exact ih _ _ _ _ hP hD hS ls (lv_sub hl [2, 3, 0] rfl) hw
          · have hw := hw.2 c_43
            refine lv_iinc (v := (x2_9 + (-1))) (lv' := [(2, .int (x2_9 + (-1))), (3, .int ((upd sent_9 x2_9.toNatClampNeg ((sent_9 x2_9.toNatClampNeg) + 1)) x2_9.toNatClampNeg)), (0, .ref a_this), (1, .int p1)]) hx hb dX8_findSent_46 hl (k := 3) rfl (by rfl) (by decide) rfl (fun ls hl => ?_)
            refine lv_goto (tgt := 101) hx hb dX8_findSent_49 (by decide) ?_
            refine lv_goto (tgt := 9) hx hb dX8_findSent_101 (by decide) ?_
            exact ih _ _ _ _ hP hD hS ls (lv_sub hl [2, 3, 0] rfl) hw
  obtain ⟨n, hw⟩ := hw
  exact LP_9 n _ _ _ _ hP hD hS ls (lv_sub hl [1, 2, 0] rfl) hw
def wp_X8_send (days : Int32) (sent : Nat → Int32) (now : Nat → Int32) (dayWeather : Nat → Int32) (dayHour : Nat → Int32) (dayDanger : Nat → Int32) (weathers : Nat → Int32) (hours : Nat → Int32) (fear : Nat → Int32) (p1 : Int32) (p2 : Int32) (Φ : Int32 → (Nat → Int32) → Prop) : Prop :=
  (wp_X8_in (p1).toInt64 1 6 (fun r_6 => ((r_6 = 0 → (Φ (-1000000002) sent)) ∧ (¬ r_6 = 0 → (wp_X8_findSent days sent now dayWeather dayHour dayDanger weathers hours fear p1 (fun r_17 sent_17 => ((r_17 = 0 → (Φ (-1) sent_17)) ∧ (¬ r_17 = 0 → (wp_X8_in (p2).toInt64 0 ((p1 - 1)).toInt64 (fun r_30 => ((r_30 = 0 → (Φ (-1) sent_17)) ∧ (¬ r_30 = 0 → (vp_in p2 6 ∧ (Φ (sent_17 p2.toNatClampNeg) sent_17))))))))))))))
abbrev xrm_X8_send : Room := { frames := 5, cells := 0, slots := 0, locals := 112 }
set_option maxRecDepth 100000 in
set_option maxHeartbeats 4000000 in
theorem c_X8_send (l : Launch) (D : va_G) (cI cZ cO : ClassId) {pay : Int32} {a_weathers : Nat} {a_hours : Nat} {a_fear : Nat} {days : Int32} {a_dayWeather : Nat} {a_dayHour : Nat} {a_dayDanger : Nat} {a_now : Nat} {seed : Int32} {a_text : Nat} {texted : Int32} {faultPlace : Int32} {at0 : Int32} {number : Int32} {numberAt : Int32} {a_readPay : Nat} {readPersons : Int32} {a_readMarks : Nat} {a_readWeathers : Nat} {a_readHours : Nat} {a_readFear : Nat} {readDays : Int32} {a_readWeather : Nat} {a_readHour : Nat} {a_readDanger : Nat} {undos : Int32} {a_past : Nat} {a_morning : Nat} {a_sent : Nat} {watched : Int32} {a_watchedDay : Nat} {a_watchedOut : Nat} {booked : Int32} {a_bookWho : Nat} {a_bookMarks : Nat} {a_images : Nat} {a_isKept : Nat} {a_this : Nat} {sent : Nat → Int32} {now : Nat → Int32} {dayWeather : Nat → Int32} {dayHour : Nat → Int32} {dayDanger : Nat → Int32} {weathers : Nat → Int32} {hours : Nat → Int32} {fear : Nat → Int32} {p1 : Int32} {p2 : Int32} {Φ : Int32 → (Nat → Int32) → Prop} {sz : Nat} (hw : (wp_X8_send days sent now dayWeather dayHour dayDanger weathers hours fear p1 p2 Φ)) : Met l yX8_send wsX8_send xrm_X8_send (xPW D cI cZ cO [.ref a_this, .int p1, .int p2] sz [(a_this, .inr (8, [.int pay, .ref a_weathers, .ref a_hours, .ref a_fear, .int days, .ref a_dayWeather, .ref a_dayHour, .ref a_dayDanger, .ref a_now, .int seed, .ref a_text, .int texted, .int faultPlace, .int at0, .int number, .int numberAt, .ref a_readPay, .int readPersons, .ref a_readMarks, .ref a_readWeathers, .ref a_readHours, .ref a_readFear, .int readDays, .ref a_readWeather, .ref a_readHour, .ref a_readDanger, .int undos, .ref a_past, .ref a_morning, .ref a_sent, .int watched, .ref a_watchedDay, .ref a_watchedOut, .int booked, .ref a_bookWho, .ref a_bookMarks, .ref a_images, .ref a_isKept])), (a_sent, .inl (cI, 6, .inl sent)), (a_now, .inl (cI, 13, .inl now)), (a_dayWeather, .inl (cI, 10, .inl dayWeather)), (a_dayHour, .inl (cI, 10, .inl dayHour)), (a_dayDanger, .inl (cI, 10, .inl dayDanger)), (a_weathers, .inl (cI, 8, .inl weathers)), (a_hours, .inl (cI, 8, .inl hours)), (a_fear, .inl (cI, 8, .inl fear))]) (va_Qi (fun (r : Int32) (u : (Nat → Int32)) => Φ r u) (xB D (va_A [(a_this, .inr (8, [.int pay, .ref a_weathers, .ref a_hours, .ref a_fear, .int days, .ref a_dayWeather, .ref a_dayHour, .ref a_dayDanger, .ref a_now, .int seed, .ref a_text, .int texted, .int faultPlace, .int at0, .int number, .int numberAt, .ref a_readPay, .int readPersons, .ref a_readMarks, .ref a_readWeathers, .ref a_readHours, .ref a_readFear, .int readDays, .ref a_readWeather, .ref a_readHour, .ref a_readDanger, .int undos, .ref a_past, .ref a_morning, .ref a_sent, .int watched, .ref a_watchedDay, .ref a_watchedOut, .int booked, .ref a_bookWho, .ref a_bookMarks, .ref a_images, .ref a_isKept])), (a_sent, .inl (cI, 6, .inl sent)), (a_now, .inl (cI, 13, .inl now)), (a_dayWeather, .inl (cI, 10, .inl dayWeather)), (a_dayHour, .inl (cI, 10, .inl dayHour)), (a_dayDanger, .inl (cI, 10, .inl dayDanger)), (a_weathers, .inl (cI, 8, .inl weathers)), (a_hours, .inl (cI, 8, .inl hours)), (a_fear, .inl (cI, 8, .inl fear))] sz) (fun (u : (Nat → Int32)) => [(a_this, .inr (8, [.int pay, .ref a_weathers, .ref a_hours, .ref a_fear, .int days, .ref a_dayWeather, .ref a_dayHour, .ref a_dayDanger, .ref a_now, .int seed, .ref a_text, .int texted, .int faultPlace, .int at0, .int number, .int numberAt, .ref a_readPay, .int readPersons, .ref a_readMarks, .ref a_readWeathers, .ref a_readHours, .ref a_readFear, .int readDays, .ref a_readWeather, .ref a_readHour, .ref a_readDanger, .int undos, .ref a_past, .ref a_morning, .ref a_sent, .int watched, .ref a_watchedDay, .ref a_watchedOut, .int booked, .ref a_bookWho, .ref a_bookMarks, .ref a_images, .ref a_isKept])), (a_sent, .inl (cI, 6, .inl u)), (a_now, .inl (cI, 13, .inl now)), (a_dayWeather, .inl (cI, 10, .inl dayWeather)), (a_dayHour, .inl (cI, 10, .inl dayHour)), (a_dayDanger, .inl (cI, 10, .inl dayDanger)), (a_weathers, .inl (cI, 8, .inl weathers)), (a_hours, .inl (cI, 8, .inl hours)), (a_fear, .inl (cI, 8, .inl fear))])) (va_A [(a_this, .inr (8, [.int pay, .ref a_weathers, .ref a_hours, .ref a_fear, .int days, .ref a_dayWeather, .ref a_dayHour, .ref a_dayDanger, .ref a_now, .int seed, .ref a_text, .int texted, .int faultPlace, .int at0, .int number, .int numberAt, .ref a_readPay, .int readPersons, .ref a_readMarks, .ref a_readWeathers, .ref a_readHours, .ref a_readFear, .int readDays, .ref a_readWeather, .ref a_readHour, .ref a_readDanger, .int undos, .ref a_past, .ref a_morning, .ref a_sent, .int watched, .ref a_watchedDay, .ref a_watchedOut, .int booked, .ref a_bookWho, .ref a_bookMarks, .ref a_images, .ref a_isKept])), (a_sent, .inl (cI, 6, .inl sent)), (a_now, .inl (cI, 13, .inl now)), (a_dayWeather, .inl (cI, 10, .inl dayWeather)), (a_dayHour, .inl (cI, 10, .inl dayHour)), (a_dayDanger, .inl (cI, 10, .inl dayDanger)), (a_weathers, .inl (cI, 8, .inl weathers)), (a_hours, .inl (cI, 8, .inl hours)), (a_fear, .inl (cI, 8, .inl fear))] sz)) 0 0 (va_A [(a_this, .inr (8, [.int pay, .ref a_weathers, .ref a_hours, .ref a_fear, .int days, .ref a_dayWeather, .ref a_dayHour, .ref a_dayDanger, .ref a_now, .int seed, .ref a_text, .int texted, .int faultPlace, .int at0, .int number, .int numberAt, .ref a_readPay, .int readPersons, .ref a_readMarks, .ref a_readWeathers, .ref a_readHours, .ref a_readFear, .int readDays, .ref a_readWeather, .ref a_readHour, .ref a_readDanger, .int undos, .ref a_past, .ref a_morning, .ref a_sent, .int watched, .ref a_watchedDay, .ref a_watchedOut, .int booked, .ref a_bookWho, .ref a_bookMarks, .ref a_images, .ref a_isKept])), (a_sent, .inl (cI, 6, .inl sent)), (a_now, .inl (cI, 13, .inl now)), (a_dayWeather, .inl (cI, 10, .inl dayWeather)), (a_dayHour, .inl (cI, 10, .inl dayHour)), (a_dayDanger, .inl (cI, 10, .inl dayDanger)), (a_weathers, .inl (cI, 8, .inl weathers)), (a_hours, .inl (cI, 8, .inl hours)), (a_fear, .inl (cI, 8, .inl fear))] sz) := by
  refine Met.ofW (cc := cX8_send) (maxL := 3) (ret := (some .int)) (by decide) rfl ?_
  intro p e s m args below meth c s₁ B hml hv
  obtain ⟨rfl, hsz, hP, hKK, hD0⟩ := hv
  have hx := B.exec
  have hb := B.bytes
  have hr := B.returns
  have hts := atoms_spec (ws := wsX8_send) B.pre
  have hown : s.vm.findClass RX8 = some m.cls := findClass_of_methodNamed B.named
  have hlocks := B.notSynchronized
  subst hsz
  have hD := hD0.self (sz := s.heap.size)
  obtain ⟨Q, hQ⟩ : ∃ Q, Q = MQ below (va_Qi (fun (r : Int32) (u : (Nat → Int32)) => Φ r u) (xB D (va_A [(a_this, .inr (8, [.int pay, .ref a_weathers, .ref a_hours, .ref a_fear, .int days, .ref a_dayWeather, .ref a_dayHour, .ref a_dayDanger, .ref a_now, .int seed, .ref a_text, .int texted, .int faultPlace, .int at0, .int number, .int numberAt, .ref a_readPay, .int readPersons, .ref a_readMarks, .ref a_readWeathers, .ref a_readHours, .ref a_readFear, .int readDays, .ref a_readWeather, .ref a_readHour, .ref a_readDanger, .int undos, .ref a_past, .ref a_morning, .ref a_sent, .int watched, .ref a_watchedDay, .ref a_watchedOut, .int booked, .ref a_bookWho, .ref a_bookMarks, .ref a_images, .ref a_isKept])), (a_sent, .inl (cI, 6, .inl sent)), (a_now, .inl (cI, 13, .inl now)), (a_dayWeather, .inl (cI, 10, .inl dayWeather)), (a_dayHour, .inl (cI, 10, .inl dayHour)), (a_dayDanger, .inl (cI, 10, .inl dayDanger)), (a_weathers, .inl (cI, 8, .inl weathers)), (a_hours, .inl (cI, 8, .inl hours)), (a_fear, .inl (cI, 8, .inl fear))] s.heap.size) (fun (u : (Nat → Int32)) => [(a_this, .inr (8, [.int pay, .ref a_weathers, .ref a_hours, .ref a_fear, .int days, .ref a_dayWeather, .ref a_dayHour, .ref a_dayDanger, .ref a_now, .int seed, .ref a_text, .int texted, .int faultPlace, .int at0, .int number, .int numberAt, .ref a_readPay, .int readPersons, .ref a_readMarks, .ref a_readWeathers, .ref a_readHours, .ref a_readFear, .int readDays, .ref a_readWeather, .ref a_readHour, .ref a_readDanger, .int undos, .ref a_past, .ref a_morning, .ref a_sent, .int watched, .ref a_watchedDay, .ref a_watchedOut, .int booked, .ref a_bookWho, .ref a_bookMarks, .ref a_images, .ref a_isKept])), (a_sent, .inl (cI, 6, .inl u)), (a_now, .inl (cI, 13, .inl now)), (a_dayWeather, .inl (cI, 10, .inl dayWeather)), (a_dayHour, .inl (cI, 10, .inl dayHour)), (a_dayDanger, .inl (cI, 10, .inl dayDanger)), (a_weathers, .inl (cI, 8, .inl weathers)), (a_hours, .inl (cI, 8, .inl hours)), (a_fear, .inl (cI, 8, .inl fear))])) (va_A [(a_this, .inr (8, [.int pay, .ref a_weathers, .ref a_hours, .ref a_fear, .int days, .ref a_dayWeather, .ref a_dayHour, .ref a_dayDanger, .ref a_now, .int seed, .ref a_text, .int texted, .int faultPlace, .int at0, .int number, .int numberAt, .ref a_readPay, .int readPersons, .ref a_readMarks, .ref a_readWeathers, .ref a_readHours, .ref a_readFear, .int readDays, .ref a_readWeather, .ref a_readHour, .ref a_readDanger, .int undos, .ref a_past, .ref a_morning, .ref a_sent, .int watched, .ref a_watchedDay, .ref a_watchedOut, .int booked, .ref a_bookWho, .ref a_bookMarks, .ref a_images, .ref a_isKept])), (a_sent, .inl (cI, 6, .inl sent)), (a_now, .inl (cI, 13, .inl now)), (a_dayWeather, .inl (cI, 10, .inl dayWeather)), (a_dayHour, .inl (cI, 10, .inl dayHour)), (a_dayDanger, .inl (cI, 10, .inl dayDanger)), (a_weathers, .inl (cI, 8, .inl weathers)), (a_hours, .inl (cI, 8, .inl hours)), (a_fear, .inl (cI, 8, .inl fear))] s.heap.size)) ([.ref a_this, .int p1, .int p2] : List Value).toArray s 0 0 (va_A [(a_this, .inr (8, [.int pay, .ref a_weathers, .ref a_hours, .ref a_fear, .int days, .ref a_dayWeather, .ref a_dayHour, .ref a_dayDanger, .ref a_now, .int seed, .ref a_text, .int texted, .int faultPlace, .int at0, .int number, .int numberAt, .ref a_readPay, .int readPersons, .ref a_readMarks, .ref a_readWeathers, .ref a_readHours, .ref a_readFear, .int readDays, .ref a_readWeather, .ref a_readHour, .ref a_readDanger, .int undos, .ref a_past, .ref a_morning, .ref a_sent, .int watched, .ref a_watchedDay, .ref a_watchedOut, .int booked, .ref a_bookWho, .ref a_bookMarks, .ref a_images, .ref a_isKept])), (a_sent, .inl (cI, 6, .inl sent)), (a_now, .inl (cI, 13, .inl now)), (a_dayWeather, .inl (cI, 10, .inl dayWeather)), (a_dayHour, .inl (cI, 10, .inl dayHour)), (a_dayDanger, .inl (cI, 10, .inl dayDanger)), (a_weathers, .inl (cI, 8, .inl weathers)), (a_hours, .inl (cI, 8, .inl hours)), (a_fear, .inl (cI, 8, .inl fear))] s.heap.size) := ⟨_, rfl⟩
  rw [← hQ]
  generalize hAe : va_A [(a_this, .inr (8, [.int pay, .ref a_weathers, .ref a_hours, .ref a_fear, .int days, .ref a_dayWeather, .ref a_dayHour, .ref a_dayDanger, .ref a_now, .int seed, .ref a_text, .int texted, .int faultPlace, .int at0, .int number, .int numberAt, .ref a_readPay, .int readPersons, .ref a_readMarks, .ref a_readWeathers, .ref a_readHours, .ref a_readFear, .int readDays, .ref a_readWeather, .ref a_readHour, .ref a_readDanger, .int undos, .ref a_past, .ref a_morning, .ref a_sent, .int watched, .ref a_watchedDay, .ref a_watchedOut, .int booked, .ref a_bookWho, .ref a_bookMarks, .ref a_images, .ref a_isKept])), (a_sent, .inl (cI, 6, .inl sent)), (a_now, .inl (cI, 13, .inl now)), (a_dayWeather, .inl (cI, 10, .inl dayWeather)), (a_dayHour, .inl (cI, 10, .inl dayHour)), (a_dayDanger, .inl (cI, 10, .inl dayDanger)), (a_weathers, .inl (cI, 8, .inl weathers)), (a_hours, .inl (cI, 8, .inl hours)), (a_fear, .inl (cI, 8, .inl fear))] s.heap.size = A at hD hQ
  have hA : ∀ q : Nat, s.heap.size ≤ q → A q := fun q h => by rw [← hAe]; exact Or.inr h
  have hS : va_S A s.heap s.heap [] := va_S.rf
  have hl := lv_entry ([.ref a_this, .int p1, .int p2]) (n := 3) (Nat.le_of_ble_eq_true rfl)
  rw [lg_entry_eq]
  generalize (lg_sl ([.ref a_this, .int p1, .int p2]) ++ List.replicate (3 - (lg_sl ([.ref a_this, .int p1, .int p2])).length) Slot.unset).toArray = ls at hl ⊢
  have hl : lv_has ls 3 [(0, .ref a_this), (1, .int p1), (2, .int p2)] := hl
  generalize ([.ref a_this, .int p1, .int p2] : List Value).toArray = args at hts hQ ⊢
  have hP : va_P D vwCl [(a_this, .inr (8, [.int pay, .ref a_weathers, .ref a_hours, .ref a_fear, .int days, .ref a_dayWeather, .ref a_dayHour, .ref a_dayDanger, .ref a_now, .int seed, .ref a_text, .int texted, .int faultPlace, .int at0, .int number, .int numberAt, .ref a_readPay, .int readPersons, .ref a_readMarks, .ref a_readWeathers, .ref a_readHours, .ref a_readFear, .int readDays, .ref a_readWeather, .ref a_readHour, .ref a_readDanger, .int undos, .ref a_past, .ref a_morning, .ref a_sent, .int watched, .ref a_watchedDay, .ref a_watchedOut, .int booked, .ref a_bookWho, .ref a_bookMarks, .ref a_images, .ref a_isKept])), (a_sent, .inl (cI, 6, .inl sent)), (a_now, .inl (cI, 13, .inl now)), (a_dayWeather, .inl (cI, 10, .inl dayWeather)), (a_dayHour, .inl (cI, 10, .inl dayHour)), (a_dayDanger, .inl (cI, 10, .inl dayDanger)), (a_weathers, .inl (cI, 8, .inl weathers)), (a_hours, .inl (cI, 8, .inl hours)), (a_fear, .inl (cI, 8, .inl fear))] s.heap := hP
  have hinX8 : ∀ w ∈ u_ws RX8 TX8 38, w ∈ wsX8_send := by decide +kernel
  have fl_68 := hts (.fieldLink RX8 68 "DoubleChainModel" "sent" "[I") (by decide +kernel)
  clear B
  show W p l e xrm_X8_send s m args below meth c s.heap [] 0 0 Q (F0 m 0 ls [])
  unfold wp_X8_send at hw
  refine lv_iload_n hx hb dX8_send_0 rfl (lv_at hl 1 rfl) ?_
  refine lv_i2l (v := (p1).toInt64) hx hb dX8_send_1 rfl ?_
  refine lv_lconst (v := 1) hx hb dX8_send_2 (by decide) ?_
  refine lv_ldc2 (v := 6) hx hb hown (hts (.constantLong RX8 241 6) (by decide +kernel)) dX8_send_3 ?_
  refine xcSi (As := [.long (p1).toInt64, .long 1, .long 6]) (rest := []) (wc := []) ⟨hx, hb, hml, hown, hts⟩ (c_X8_in l D cI cZ cO hw) (va_cwS 3 hts gX8_send_X8_in rfl rfl rfl (by decide +kernel) ⟨Nat.le_of_ble_eq_true rfl, Nat.le_of_ble_eq_true rfl⟩) hKK hP [] rfl rfl hl.1 rfl (Nat.le_of_ble_eq_true rfl) dX8_send_6 ⟨Nat.zero_le _, Nat.zero_le _⟩ (fun r_6 hw => ?_)
  refine lv_if_ne (tgt := 15) hx hb dX8_send_9 (by decide) (fun c_9 => ?_) (fun c_9 => ?_)
  · have hw := hw.2 c_9
    refine lv_aload_n hx hb dX8_send_15 rfl (lv_at hl 0 rfl) ?_
    refine lv_iload_n hx hb dX8_send_16 rfl (lv_at hl 1 rfl) ?_
    refine xwVi (q0 := 0) (ci := 8) (wr := []) (As := [.int p1]) (rest := []) (wc := [(a_this, .inr (8, [.int pay, .ref a_weathers, .ref a_hours, .ref a_fear, .int days, .ref a_dayWeather, .ref a_dayHour, .ref a_dayDanger, .ref a_now, .int seed, .ref a_text, .int texted, .int faultPlace, .int at0, .int number, .int numberAt, .ref a_readPay, .int readPersons, .ref a_readMarks, .ref a_readWeathers, .ref a_readHours, .ref a_readFear, .int readDays, .ref a_readWeather, .ref a_readHour, .ref a_readDanger, .int undos, .ref a_past, .ref a_morning, .ref a_sent, .int watched, .ref a_watchedDay, .ref a_watchedOut, .int booked, .ref a_bookWho, .ref a_bookMarks, .ref a_images, .ref a_isKept])), (a_sent, .inl (cI, 6, .inl sent)), (a_now, .inl (cI, 13, .inl now)), (a_dayWeather, .inl (cI, 10, .inl dayWeather)), (a_dayHour, .inl (cI, 10, .inl dayHour)), (a_dayDanger, .inl (cI, 10, .inl dayDanger)), (a_weathers, .inl (cI, 8, .inl weathers)), (a_hours, .inl (cI, 8, .inl hours)), (a_fear, .inl (cI, 8, .inl fear))]) (fun u => [(a_this, .inr (8, [.int pay, .ref a_weathers, .ref a_hours, .ref a_fear, .int days, .ref a_dayWeather, .ref a_dayHour, .ref a_dayDanger, .ref a_now, .int seed, .ref a_text, .int texted, .int faultPlace, .int at0, .int number, .int numberAt, .ref a_readPay, .int readPersons, .ref a_readMarks, .ref a_readWeathers, .ref a_readHours, .ref a_readFear, .int readDays, .ref a_readWeather, .ref a_readHour, .ref a_readDanger, .int undos, .ref a_past, .ref a_morning, .ref a_sent, .int watched, .ref a_watchedDay, .ref a_watchedOut, .int booked, .ref a_bookWho, .ref a_bookMarks, .ref a_images, .ref a_isKept])), (a_sent, .inl (cI, 6, .inl u)), (a_now, .inl (cI, 13, .inl now)), (a_dayWeather, .inl (cI, 10, .inl dayWeather)), (a_dayHour, .inl (cI, 10, .inl dayHour)), (a_dayDanger, .inl (cI, 10, .inl dayDanger)), (a_weathers, .inl (cI, 8, .inl weathers)), (a_hours, .inl (cI, 8, .inl hours)), (a_fear, .inl (cI, 8, .inl fear))]) ⟨hx, hb, hml, hown, hts⟩ (c_X8_findSent l D cI cZ cO hw) (cwV 1 hts gX8_send_X8_findSent rfl rfl rfl (by decide +kernel) ⟨Nat.le_of_ble_eq_true rfl, Nat.le_of_ble_eq_true rfl⟩) hKK hP hD hS hA [0, 1, 2, 3, 4, 5, 6, 7, 8] [] [0, 1, 2, 3, 4, 5, 6, 7, 8] rfl rfl rfl rfl rfl (by decide) (fun _ => rfl) rfl rfl rfl hl.1 rfl (Nat.le_of_ble_eq_true rfl) dX8_send_17 ⟨Nat.zero_le _, Nat.zero_le _⟩ (fun r_17 sent_17 H locs hw hP hD hS => ?_)
    have hP : va_P D vwCl [(a_this, .inr (8, [.int pay, .ref a_weathers, .ref a_hours, .ref a_fear, .int days, .ref a_dayWeather, .ref a_dayHour, .ref a_dayDanger, .ref a_now, .int seed, .ref a_text, .int texted, .int faultPlace, .int at0, .int number, .int numberAt, .ref a_readPay, .int readPersons, .ref a_readMarks, .ref a_readWeathers, .ref a_readHours, .ref a_readFear, .int readDays, .ref a_readWeather, .ref a_readHour, .ref a_readDanger, .int undos, .ref a_past, .ref a_morning, .ref a_sent, .int watched, .ref a_watchedDay, .ref a_watchedOut, .int booked, .ref a_bookWho, .ref a_bookMarks, .ref a_images, .ref a_isKept])), (a_sent, .inl (cI, 6, .inl sent_17)), (a_now, .inl (cI, 13, .inl now)), (a_dayWeather, .inl (cI, 10, .inl dayWeather)), (a_dayHour, .inl (cI, 10, .inl dayHour)), (a_dayDanger, .inl (cI, 10, .inl dayDanger)), (a_weathers, .inl (cI, 8, .inl weathers)), (a_hours, .inl (cI, 8, .inl hours)), (a_fear, .inl (cI, 8, .inl fear))] H := hP
    have hD : va_D A [(a_this, .inr (8, [.int pay, .ref a_weathers, .ref a_hours, .ref a_fear, .int days, .ref a_dayWeather, .ref a_dayHour, .ref a_dayDanger, .ref a_now, .int seed, .ref a_text, .int texted, .int faultPlace, .int at0, .int number, .int numberAt, .ref a_readPay, .int readPersons, .ref a_readMarks, .ref a_readWeathers, .ref a_readHours, .ref a_readFear, .int readDays, .ref a_readWeather, .ref a_readHour, .ref a_readDanger, .int undos, .ref a_past, .ref a_morning, .ref a_sent, .int watched, .ref a_watchedDay, .ref a_watchedOut, .int booked, .ref a_bookWho, .ref a_bookMarks, .ref a_images, .ref a_isKept])), (a_sent, .inl (cI, 6, .inl sent_17)), (a_now, .inl (cI, 13, .inl now)), (a_dayWeather, .inl (cI, 10, .inl dayWeather)), (a_dayHour, .inl (cI, 10, .inl dayHour)), (a_dayDanger, .inl (cI, 10, .inl dayDanger)), (a_weathers, .inl (cI, 8, .inl weathers)), (a_hours, .inl (cI, 8, .inl hours)), (a_fear, .inl (cI, 8, .inl fear))] := hD
    refine lv_if_eq (tgt := 45) hx hb dX8_send_20 (by decide) (fun c_20 => ?_) (fun c_20 => ?_)
    · have hw := hw.1 c_20
      refine lv_iconst (v := (-1)) hx hb dX8_send_45 (by decide) ?_
      rw [hQ]
      exact W.iret (v := (-1)) hx hb hr (fun t ht _ => ⟨⟨(-1), sent_17, rfl, hw, by rw [ht]; exact hP, hD⟩, hS.F ht⟩) hS.2.2 dX8_send_46
    · have hw := hw.2 c_20
      refine lv_iload_n hx hb dX8_send_23 rfl (lv_at hl 2 rfl) ?_
      refine lv_i2l (v := (p2).toInt64) hx hb dX8_send_24 rfl ?_
      refine lv_lconst (v := 0) hx hb dX8_send_25 (by decide) ?_
      refine lv_iload_n hx hb dX8_send_26 rfl (lv_at hl 1 rfl) ?_
      refine lv_iconst (v := 1) hx hb dX8_send_27 (by decide) ?_
      refine lv_isub hx hb dX8_send_28 ?_
      refine lv_i2l (v := ((p1 - 1)).toInt64) hx hb dX8_send_29 rfl ?_
      refine xcSi (As := [.long (p2).toInt64, .long 0, .long ((p1 - 1)).toInt64]) (rest := []) (wc := []) ⟨hx, hb, hml, hown, hts⟩ (c_X8_in l D cI cZ cO hw) (va_cwS 3 hts gX8_send_X8_in rfl rfl rfl (by decide +kernel) ⟨Nat.le_of_ble_eq_true rfl, Nat.le_of_ble_eq_true rfl⟩) hKK hP [] rfl rfl hl.1 rfl (Nat.le_of_ble_eq_true rfl) dX8_send_30 ⟨Nat.zero_le _, Nat.zero_le _⟩ (fun r_30 hw => ?_)
      refine lv_if_eq (tgt := 45) hx hb dX8_send_33 (by decide) (fun c_33 => ?_) (fun c_33 => ?_)
      · have hw := hw.1 c_33
        refine lv_iconst (v := (-1)) hx hb dX8_send_45 (by decide) ?_
        rw [hQ]
        exact W.iret (v := (-1)) hx hb hr (fun t ht _ => ⟨⟨(-1), sent_17, rfl, hw, by rw [ht]; exact hP, hD⟩, hS.F ht⟩) hS.2.2 dX8_send_46
      · have hw := hw.2 c_33
        refine lv_aload_n hx hb dX8_send_36 rfl (lv_at hl 0 rfl) ?_
        refine va_get (D := D) (ci := 8) (v := .ref a_sent) (C := RX8) (T := TX8) (N := 38) hx hb hts hinX8 hown hKK.1 hP 0 rfl rfl 29 (by decide) fl_68 (fun _ h9 => h9) rfl dX8_send_37 ?_
        refine lv_iload_n hx hb dX8_send_40 rfl (lv_at hl 2 rfl) ?_
        obtain ⟨hin, hw⟩ := hw
        refine va_iald hx hb hKK.1 hP 1 0 rfl rfl hin dX8_send_41 ?_
        refine lv_goto (tgt := 46) hx hb dX8_send_42 (by decide) ?_
        rw [hQ]
        exact W.iret (v := (sent_17 p2.toNatClampNeg)) hx hb hr (fun t ht _ => ⟨⟨(sent_17 p2.toNatClampNeg), sent_17, rfl, hw, by rw [ht]; exact hP, hD⟩, hS.F ht⟩) hS.2.2 dX8_send_46
  · have hw := hw.1 c_9
    refine lv_ldc (v := (-1000000002)) hx hb hown (hts (.constant RX8 103 (-1000000002)) (by decide +kernel)) dX8_send_12 ?_
    rw [hQ]
    exact W.iret (v := (-1000000002)) hx hb hr (fun t ht _ => ⟨⟨(-1000000002), sent, rfl, hw, by rw [ht]; exact hP, hD⟩, hS.F ht⟩) hS.2.2 dX8_send_14
def wk_X8_byMarks_32 (Φ : Int32 → Prop) (x3_32 : Int32) (x4_32 : Int32) : Prop :=
  (Φ x3_32)
def wb_X8_byMarks_32 (now : Nat → Int32) (p1 : Int32) (p2 : Int32) (K_32 : Int32 → Int32 → Prop) (rec_32 : Int32 → Int32 → Prop) (x3_32 : Int32) (x4_32 : Int32) : Prop :=
  (((now 8) ≤ x4_32 → (K_32 x3_32 x4_32)) ∧ (¬ (now 8) ≤ x4_32 → (wp_X8_lives now x4_32 (fun r_48 => ((r_48 = 0 → (rec_32 (x3_32 ||| 0) (x4_32 + 1))) ∧ (¬ r_48 = 0 → (vp_in x4_32 13 ∧ (((p1 &&& ((now x4_32.toNatClampNeg) ^^^ (-1))) = 0 → (vp_in x4_32 13 ∧ (((p2 &&& (now x4_32.toNatClampNeg)) = 0 → (rec_32 (x3_32 ||| ((1 : Int32) <<< (x4_32 &&& 31))) (x4_32 + 1))) ∧ (¬ (p2 &&& (now x4_32.toNatClampNeg)) = 0 → (rec_32 (x3_32 ||| 0) (x4_32 + 1)))))) ∧ (¬ (p1 &&& ((now x4_32.toNatClampNeg) ^^^ (-1))) = 0 → (rec_32 (x3_32 ||| 0) (x4_32 + 1)))))))))))
def wp_X8_byMarks (now : Nat → Int32) (p1 : Int32) (p2 : Int32) (Φ : Int32 → Prop) : Prop :=
  (wp_X8_in (p1).toInt64 0 255 (fun r_6 => ((r_6 = 0 → (Φ (-1000000002))) ∧ (¬ r_6 = 0 → (wp_X8_in (p2).toInt64 0 255 (fun r_18 => ((r_18 = 0 → (Φ (-1000000002))) ∧ (¬ r_18 = 0 → (∃ n : Nat, xit2 (wb_X8_byMarks_32 now p1 p2 (wk_X8_byMarks_32 Φ)) n 0 0)))))))))
abbrev xrm_X8_byMarks : Room := { frames := 2, cells := 0, slots := 0, locals := 42 }
set_option maxRecDepth 100000 in
set_option maxHeartbeats 4000000 in
theorem c_X8_byMarks (l : Launch) (D : va_G) (cI cZ cO : ClassId) {pay : Int32} {a_weathers : Nat} {a_hours : Nat} {a_fear : Nat} {days : Int32} {a_dayWeather : Nat} {a_dayHour : Nat} {a_dayDanger : Nat} {a_now : Nat} {seed : Int32} {a_text : Nat} {texted : Int32} {faultPlace : Int32} {at0 : Int32} {number : Int32} {numberAt : Int32} {a_readPay : Nat} {readPersons : Int32} {a_readMarks : Nat} {a_readWeathers : Nat} {a_readHours : Nat} {a_readFear : Nat} {readDays : Int32} {a_readWeather : Nat} {a_readHour : Nat} {a_readDanger : Nat} {undos : Int32} {a_past : Nat} {a_morning : Nat} {a_sent : Nat} {watched : Int32} {a_watchedDay : Nat} {a_watchedOut : Nat} {booked : Int32} {a_bookWho : Nat} {a_bookMarks : Nat} {a_images : Nat} {a_isKept : Nat} {a_this : Nat} {now : Nat → Int32} {p1 : Int32} {p2 : Int32} {Φ : Int32 → Prop} (hw : (wp_X8_byMarks now p1 p2 Φ)) : Met l yX8_byMarks wsX8_byMarks xrm_X8_byMarks (xPR D cI cZ cO [.ref a_this, .int p1, .int p2] [(a_this, .inr (8, [.int pay, .ref a_weathers, .ref a_hours, .ref a_fear, .int days, .ref a_dayWeather, .ref a_dayHour, .ref a_dayDanger, .ref a_now, .int seed, .ref a_text, .int texted, .int faultPlace, .int at0, .int number, .int numberAt, .ref a_readPay, .int readPersons, .ref a_readMarks, .ref a_readWeathers, .ref a_readHours, .ref a_readFear, .int readDays, .ref a_readWeather, .ref a_readHour, .ref a_readDanger, .int undos, .ref a_past, .ref a_morning, .ref a_sent, .int watched, .ref a_watchedDay, .ref a_watchedOut, .int booked, .ref a_bookWho, .ref a_bookMarks, .ref a_images, .ref a_isKept])), (a_now, .inl (cI, 13, .inl now))]) (vp_Si Φ) 0 0 (fun _ => False) := by
  refine Met.ofW (cc := cX8_byMarks) (maxL := 5) (ret := (some .int)) (by decide) rfl ?_
  intro p e s m args below meth c s₁ B hml hv
  obtain ⟨rfl, hP, hKK⟩ := hv
  have hx := B.exec
  have hb := B.bytes
  have hr := B.returns
  have hts := atoms_spec (ws := wsX8_byMarks) B.pre
  have hown : s.vm.findClass RX8 = some m.cls := findClass_of_methodNamed B.named
  have hlocks := B.notSynchronized
  obtain ⟨Q, hQ⟩ : ∃ Q, Q = MQ below (vp_Si Φ) ([.ref a_this, .int p1, .int p2] : List Value).toArray s 0 0 (fun _ => False) := ⟨_, rfl⟩
  rw [← hQ]
  have hl := lv_entry ([.ref a_this, .int p1, .int p2]) (n := 5) (Nat.le_of_ble_eq_true rfl)
  rw [lg_entry_eq]
  generalize (lg_sl ([.ref a_this, .int p1, .int p2]) ++ List.replicate (5 - (lg_sl ([.ref a_this, .int p1, .int p2])).length) Slot.unset).toArray = ls at hl ⊢
  have hl : lv_has ls 5 [(0, .ref a_this), (1, .int p1), (2, .int p2)] := hl
  generalize ([.ref a_this, .int p1, .int p2] : List Value).toArray = args at hts hQ ⊢
  have hP : va_P D vwCl [(a_this, .inr (8, [.int pay, .ref a_weathers, .ref a_hours, .ref a_fear, .int days, .ref a_dayWeather, .ref a_dayHour, .ref a_dayDanger, .ref a_now, .int seed, .ref a_text, .int texted, .int faultPlace, .int at0, .int number, .int numberAt, .ref a_readPay, .int readPersons, .ref a_readMarks, .ref a_readWeathers, .ref a_readHours, .ref a_readFear, .int readDays, .ref a_readWeather, .ref a_readHour, .ref a_readDanger, .int undos, .ref a_past, .ref a_morning, .ref a_sent, .int watched, .ref a_watchedDay, .ref a_watchedOut, .int booked, .ref a_bookWho, .ref a_bookMarks, .ref a_images, .ref a_isKept])), (a_now, .inl (cI, 13, .inl now))] s.heap := hP
  have hinX8 : ∀ w ∈ u_ws RX8 TX8 38, w ∈ wsX8_byMarks := by decide +kernel
  have fl_28 := hts (.fieldLink RX8 28 "DoubleChainModel" "now" "[I") (by decide +kernel)
  clear B
  show W p l e xrm_X8_byMarks s m args below meth c s.heap [] 0 0 Q (F0 m 0 ls [])
  unfold wp_X8_byMarks at hw
  refine lv_iload_n hx hb dX8_byMarks_0 rfl (lv_at hl 1 rfl) ?_
  refine lv_i2l (v := (p1).toInt64) hx hb dX8_byMarks_1 rfl ?_
  refine lv_lconst (v := 0) hx hb dX8_byMarks_2 (by decide) ?_
  refine lv_ldc2 (v := 255) hx hb hown (hts (.constantLong RX8 101 255) (by decide +kernel)) dX8_byMarks_3 ?_
  refine xcSi (As := [.long (p1).toInt64, .long 0, .long 255]) (rest := []) (wc := []) ⟨hx, hb, hml, hown, hts⟩ (c_X8_in l D cI cZ cO hw) (va_cwS 3 hts gX8_byMarks_X8_in rfl rfl rfl (by decide +kernel) ⟨Nat.le_of_ble_eq_true rfl, Nat.le_of_ble_eq_true rfl⟩) hKK hP [] rfl rfl hl.1 rfl (Nat.le_of_ble_eq_true rfl) dX8_byMarks_6 ⟨Nat.zero_le _, Nat.zero_le _⟩ (fun r_6 hw => ?_)
  refine lv_if_eq (tgt := 24) hx hb dX8_byMarks_9 (by decide) (fun c_9 => ?_) (fun c_9 => ?_)
  · have hw := hw.1 c_9
    refine lv_ldc (v := (-1000000002)) hx hb hown (hts (.constant RX8 103 (-1000000002)) (by decide +kernel)) dX8_byMarks_24 ?_
    rw [hQ]
    exact W.iret (v := (-1000000002)) hx hb hr (fun t ht _ => ⟨(-1000000002), rfl, hw, ht⟩) (fun _ h => (List.not_mem_nil h).elim) dX8_byMarks_26
  · have hw := hw.2 c_9
    refine lv_iload_n hx hb dX8_byMarks_12 rfl (lv_at hl 2 rfl) ?_
    refine lv_i2l (v := (p2).toInt64) hx hb dX8_byMarks_13 rfl ?_
    refine lv_lconst (v := 0) hx hb dX8_byMarks_14 (by decide) ?_
    refine lv_ldc2 (v := 255) hx hb hown (hts (.constantLong RX8 101 255) (by decide +kernel)) dX8_byMarks_15 ?_
    refine xcSi (As := [.long (p2).toInt64, .long 0, .long 255]) (rest := []) (wc := []) ⟨hx, hb, hml, hown, hts⟩ (c_X8_in l D cI cZ cO hw) (va_cwS 3 hts gX8_byMarks_X8_in rfl rfl rfl (by decide +kernel) ⟨Nat.le_of_ble_eq_true rfl, Nat.le_of_ble_eq_true rfl⟩) hKK hP [] rfl rfl hl.1 rfl (Nat.le_of_ble_eq_true rfl) dX8_byMarks_18 ⟨Nat.zero_le _, Nat.zero_le _⟩ (fun r_18 hw => ?_)
    refine lv_if_ne (tgt := 27) hx hb dX8_byMarks_21 (by decide) (fun c_21 => ?_) (fun c_21 => ?_)
    · have hw := hw.2 c_21
      refine lv_iconst (v := 0) hx hb dX8_byMarks_27 (by decide) ?_
      refine lv_istore_n (lv' := [(3, .int 0), (0, .ref a_this), (1, .int p1), (2, .int p2)]) hx hb dX8_byMarks_28 rfl hl (by decide) rfl (fun ls hl => ?_)
      refine lv_iconst (v := 0) hx hb dX8_byMarks_29 (by decide) ?_
      refine lv_istore (lv' := [(4, .int 0), (3, .int 0), (0, .ref a_this), (1, .int p1), (2, .int p2)]) hx hb dX8_byMarks_30 hl (by decide) rfl (fun ls hl => ?_)
      have EX_32 : ∀ (x3_32 : Int32) (x4_32 : Int32), ∀ (ls : Array Slot), lv_has ls 5 [(0, .ref a_this), (1, .int p1), (2, .int p2), (3, .int x3_32), (4, .int x4_32)] → (wk_X8_byMarks_32 Φ x3_32 x4_32) → W p l e xrm_X8_byMarks s m args below meth c s.heap [] 0 0 Q (F0 m 96 ls []) := by
        intro x3_32 x4_32 ls hl hw
        unfold wk_X8_byMarks_32 at hw
        refine lv_iload_n hx hb dX8_byMarks_96 rfl (lv_at hl 3 rfl) ?_
        rw [hQ]
        exact W.iret (v := x3_32) hx hb hr (fun t ht _ => ⟨x3_32, rfl, hw, ht⟩) (fun _ h => (List.not_mem_nil h).elim) dX8_byMarks_97
      generalize (wk_X8_byMarks_32 Φ) = K_32 at EX_32 hw
      have LP_32 : ∀ n : Nat, ∀ (x3_32 : Int32) (x4_32 : Int32), ∀ (ls : Array Slot), lv_has ls 5 [(0, .ref a_this), (1, .int p1), (2, .int p2), (3, .int x3_32), (4, .int x4_32)] → xit2 (wb_X8_byMarks_32 now p1 p2 K_32) n x3_32 x4_32 → W p l e xrm_X8_byMarks s m args below meth c s.heap [] 0 0 Q (F0 m 32 ls []) := by
        intro n
        induction n with
        | zero => intro x3_32 x4_32 ls hl hw; exact (show False from hw).elim
        | succ n ih =>
          intro x3_32 x4_32 ls hl hw
          have hw : wb_X8_byMarks_32 now p1 p2 K_32 (xit2 (wb_X8_byMarks_32 now p1 p2 K_32) n) x3_32 x4_32 := hw
          generalize xit2 (wb_X8_byMarks_32 now p1 p2 K_32) n = rec_32 at ih hw
          unfold wb_X8_byMarks_32 at hw
          refine lv_iload hx hb dX8_byMarks_32 (lv_at hl 4 rfl) ?_
          refine lv_aload_n hx hb dX8_byMarks_34 rfl (lv_at hl 0 rfl) ?_
          refine va_get (D := D) (ci := 8) (v := .ref a_now) (C := RX8) (T := TX8) (N := 38) hx hb hts hinX8 hown hKK.1 hP 0 rfl rfl 8 (by decide) fl_28 (fun _ h9 => h9) rfl dX8_byMarks_35 ?_
          refine lv_bipush (v := 8) hx hb dX8_byMarks_38 (by decide) ?_
          refine x_iald 8 (by decide) (Nat.le_of_ble_eq_true rfl) hx hb hKK.1 hP 1 0 rfl rfl dX8_byMarks_40 ?_
          refine lv_icmp_ge (tgt := 96) hx hb dX8_byMarks_41 (by decide) (fun c_41 => ?_) (fun c_41 => ?_)
          · have hw := hw.1 c_41
            exact EX_32 _ _ ls (lv_sub hl [0, 1, 2, 3, 4] rfl) hw
          · have hw := hw.2 c_41
            refine lv_iload_n hx hb dX8_byMarks_44 rfl (lv_at hl 3 rfl) ?_
            refine lv_aload_n hx hb dX8_byMarks_45 rfl (lv_at hl 0 rfl) ?_
            refine lv_iload hx hb dX8_byMarks_46 (lv_at hl 4 rfl) ?_
            refine xcVi (q0 := 0) (ci := 8) (As := [.int x4_32]) (rest := [.int x3_32]) (wc := [(a_this, .inr (8, [.int pay, .ref a_weathers, .ref a_hours, .ref a_fear, .int days, .ref a_dayWeather, .ref a_dayHour, .ref a_dayDanger, .ref a_now, .int seed, .ref a_text, .int texted, .int faultPlace, .int at0, .int number, .int numberAt, .ref a_readPay, .int readPersons, .ref a_readMarks, .ref a_readWeathers, .ref a_readHours, .ref a_readFear, .int readDays, .ref a_readWeather, .ref a_readHour, .ref a_readDanger, .int undos, .ref a_past, .ref a_morning, .ref a_sent, .int watched, .ref a_watchedDay, .ref a_watchedOut, .int booked, .ref a_bookWho, .ref a_bookMarks, .ref a_images, .ref a_isKept])), (a_now, .inl (cI, 13, .inl now))]) ⟨hx, hb, hml, hown, hts⟩ (c_X8_lives l D cI cZ cO hw) (cwV 1 hts gX8_byMarks_X8_lives rfl rfl rfl (by decide +kernel) ⟨Nat.le_of_ble_eq_true rfl, Nat.le_of_ble_eq_true rfl⟩) hKK hP [0, 1] rfl rfl rfl rfl hl.1 rfl (Nat.le_of_ble_eq_true rfl) dX8_byMarks_48 ⟨Nat.zero_le _, Nat.zero_le _⟩ (fun r_48 hw => ?_)
            refine lv_if_eq (tgt := 87) hx hb dX8_byMarks_51 (by decide) (fun c_51 => ?_) (fun c_51 => ?_)
            · have hw := hw.1 c_51
              refine lv_iconst (v := 0) hx hb dX8_byMarks_87 (by decide) ?_
              refine lv_ior hx hb dX8_byMarks_88 ?_
              refine lv_istore_n (lv' := [(3, .int (x3_32 ||| 0)), (0, .ref a_this), (1, .int p1), (2, .int p2), (4, .int x4_32)]) hx hb dX8_byMarks_89 rfl hl (by decide) rfl (fun ls hl => ?_)
              refine lv_iinc (v := (x4_32 + 1)) (lv' := [(4, .int (x4_32 + 1)), (3, .int (x3_32 ||| 0)), (0, .ref a_this), (1, .int p1), (2, .int p2)]) hx hb dX8_byMarks_90 hl (k := 4) rfl (by rfl) (by decide) rfl (fun ls hl => ?_)
              refine lv_goto (tgt := 32) hx hb dX8_byMarks_93 (by decide) ?_
              exact ih _ _ ls (lv_sub hl [2, 3, 4, 1, 0] rfl) hw
            · have hw := hw.2 c_51
              refine lv_iload_n hx hb dX8_byMarks_54 rfl (lv_at hl 1 rfl) ?_
              refine lv_aload_n hx hb dX8_byMarks_55 rfl (lv_at hl 0 rfl) ?_
              refine va_get (D := D) (ci := 8) (v := .ref a_now) (C := RX8) (T := TX8) (N := 38) hx hb hts hinX8 hown hKK.1 hP 0 rfl rfl 8 (by decide) fl_28 (fun _ h9 => h9) rfl dX8_byMarks_56 ?_
              refine lv_iload hx hb dX8_byMarks_59 (lv_at hl 4 rfl) ?_
              obtain ⟨hin, hw⟩ := hw
              refine va_iald hx hb hKK.1 hP 1 0 rfl rfl hin dX8_byMarks_61 ?_
              refine lv_iconst (v := (-1)) hx hb dX8_byMarks_62 (by decide) ?_
              refine lv_ixor hx hb dX8_byMarks_63 ?_
              refine lv_iand hx hb dX8_byMarks_64 ?_
              refine lv_if_ne (tgt := 87) hx hb dX8_byMarks_65 (by decide) (fun c_65 => ?_) (fun c_65 => ?_)
              · have hw := hw.2 c_65
                refine lv_iconst (v := 0) hx hb dX8_byMarks_87 (by decide) ?_
                refine lv_ior hx hb dX8_byMarks_88 ?_
                refine lv_istore_n (lv' := [(3, .int (x3_32 ||| 0)), (0, .ref a_this), (1, .int p1), (2, .int p2), (4, .int x4_32)]) hx hb dX8_byMarks_89 rfl hl (by decide) rfl (fun ls hl => ?_)
                refine lv_iinc (v := (x4_32 + 1)) (lv' := [(4, .int (x4_32 + 1)), (3, .int (x3_32 ||| 0)), (0, .ref a_this), (1, .int p1), (2, .int p2)]) hx hb dX8_byMarks_90 hl (k := 4) rfl (by rfl) (by decide) rfl (fun ls hl => ?_)
                refine lv_goto (tgt := 32) hx hb dX8_byMarks_93 (by decide) ?_
                exact ih _ _ ls (lv_sub hl [2, 3, 4, 1, 0] rfl) hw
              · have hw := hw.1 c_65
                refine lv_iload_n hx hb dX8_byMarks_68 rfl (lv_at hl 2 rfl) ?_
                refine lv_aload_n hx hb dX8_byMarks_69 rfl (lv_at hl 0 rfl) ?_
                refine va_get (D := D) (ci := 8) (v := .ref a_now) (C := RX8) (T := TX8) (N := 38) hx hb hts hinX8 hown hKK.1 hP 0 rfl rfl 8 (by decide) fl_28 (fun _ h9 => h9) rfl dX8_byMarks_70 ?_
                refine lv_iload hx hb dX8_byMarks_73 (lv_at hl 4 rfl) ?_
                obtain ⟨hin, hw⟩ := hw
                refine va_iald hx hb hKK.1 hP 1 0 rfl rfl hin dX8_byMarks_75 ?_
                refine lv_iand hx hb dX8_byMarks_76 ?_
                refine lv_if_ne (tgt := 87) hx hb dX8_byMarks_77 (by decide) (fun c_77 => ?_) (fun c_77 => ?_)
                · have hw := hw.2 c_77
                  refine lv_iconst (v := 0) hx hb dX8_byMarks_87 (by decide) ?_
                  refine lv_ior hx hb dX8_byMarks_88 ?_
                  refine lv_istore_n (lv' := [(3, .int (x3_32 ||| 0)), (0, .ref a_this), (1, .int p1), (2, .int p2), (4, .int x4_32)]) hx hb dX8_byMarks_89 rfl hl (by decide) rfl (fun ls hl => ?_)
                  refine lv_iinc (v := (x4_32 + 1)) (lv' := [(4, .int (x4_32 + 1)), (3, .int (x3_32 ||| 0)), (0, .ref a_this), (1, .int p1), (2, .int p2)]) hx hb dX8_byMarks_90 hl (k := 4) rfl (by rfl) (by decide) rfl (fun ls hl => ?_)
                  refine lv_goto (tgt := 32) hx hb dX8_byMarks_93 (by decide) ?_
                  exact ih _ _ ls (lv_sub hl [2, 3, 4, 1, 0] rfl) hw
                · have hw := hw.1 c_77
                  refine lv_iconst (v := 1) hx hb dX8_byMarks_80 (by decide) ?_
                  refine lv_iload hx hb dX8_byMarks_81 (lv_at hl 4 rfl) ?_
                  refine lv_ishl hx hb dX8_byMarks_83 ?_
                  refine lv_goto (tgt := 88) hx hb dX8_byMarks_84 (by decide) ?_
                  refine lv_ior hx hb dX8_byMarks_88 ?_
                  refine lv_istore_n (lv' := [(3, .int (x3_32 ||| ((1 : Int32) <<< (x4_32 &&& 31)))), (0, .ref a_this), (1, .int p1), (2, .int p2), (4, .int x4_32)]) hx hb dX8_byMarks_89 rfl hl (by decide) rfl (fun ls hl => ?_)
                  refine lv_iinc (v := (x4_32 + 1)) (lv' := [(4, .int (x4_32 + 1)), (3, .int (x3_32 ||| ((1 : Int32) <<< (x4_32 &&& 31)))), (0, .ref a_this), (1, .int p1), (2, .int p2)]) hx hb dX8_byMarks_90 hl (k := 4) rfl (by rfl) (by decide) rfl (fun ls hl => ?_)
                  refine lv_goto (tgt := 32) hx hb dX8_byMarks_93 (by decide) ?_
                  exact ih _ _ ls (lv_sub hl [2, 3, 4, 1, 0] rfl) hw
      obtain ⟨n, hw⟩ := hw
      exact LP_32 n _ _ ls (lv_sub hl [2, 3, 4, 1, 0] rfl) hw
    · have hw := hw.1 c_21
      refine lv_ldc (v := (-1000000002)) hx hb hown (hts (.constant RX8 103 (-1000000002)) (by decide +kernel)) dX8_byMarks_24 ?_
      rw [hQ]
      exact W.iret (v := (-1000000002)) hx hb hr (fun t ht _ => ⟨(-1000000002), rfl, hw, ht⟩) (fun _ h => (List.not_mem_nil h).elim) dX8_byMarks_26
def wp_X8_diedAt (now : Nat → Int32) (p1 : Int32) (Φ : Int32 → Prop) : Prop :=
  (wp_X8_isPerson now p1 (fun r_2 => ((r_2 = 0 → (Φ (-1000000001))) ∧ (¬ r_2 = 0 → (wp_X8_lives now p1 (fun r_13 => ((r_13 = 0 → (wp_X8_placeOf now p1 (fun r_26 => (Φ r_26)))) ∧ (¬ r_13 = 0 → (Φ (-1000000003))))))))))
abbrev xrm_X8_diedAt : Room := { frames := 2, cells := 0, slots := 0, locals := 46 }
set_option maxRecDepth 100000 in
set_option maxHeartbeats 4000000 in
theorem c_X8_diedAt (l : Launch) (D : va_G) (cI cZ cO : ClassId) {pay : Int32} {a_weathers : Nat} {a_hours : Nat} {a_fear : Nat} {days : Int32} {a_dayWeather : Nat} {a_dayHour : Nat} {a_dayDanger : Nat} {a_now : Nat} {seed : Int32} {a_text : Nat} {texted : Int32} {faultPlace : Int32} {at0 : Int32} {number : Int32} {numberAt : Int32} {a_readPay : Nat} {readPersons : Int32} {a_readMarks : Nat} {a_readWeathers : Nat} {a_readHours : Nat} {a_readFear : Nat} {readDays : Int32} {a_readWeather : Nat} {a_readHour : Nat} {a_readDanger : Nat} {undos : Int32} {a_past : Nat} {a_morning : Nat} {a_sent : Nat} {watched : Int32} {a_watchedDay : Nat} {a_watchedOut : Nat} {booked : Int32} {a_bookWho : Nat} {a_bookMarks : Nat} {a_images : Nat} {a_isKept : Nat} {a_this : Nat} {now : Nat → Int32} {p1 : Int32} {Φ : Int32 → Prop} (hw : (wp_X8_diedAt now p1 Φ)) : Met l yX8_diedAt wsX8_diedAt xrm_X8_diedAt (xPR D cI cZ cO [.ref a_this, .int p1] [(a_this, .inr (8, [.int pay, .ref a_weathers, .ref a_hours, .ref a_fear, .int days, .ref a_dayWeather, .ref a_dayHour, .ref a_dayDanger, .ref a_now, .int seed, .ref a_text, .int texted, .int faultPlace, .int at0, .int number, .int numberAt, .ref a_readPay, .int readPersons, .ref a_readMarks, .ref a_readWeathers, .ref a_readHours, .ref a_readFear, .int readDays, .ref a_readWeather, .ref a_readHour, .ref a_readDanger, .int undos, .ref a_past, .ref a_morning, .ref a_sent, .int watched, .ref a_watchedDay, .ref a_watchedOut, .int booked, .ref a_bookWho, .ref a_bookMarks, .ref a_images, .ref a_isKept])), (a_now, .inl (cI, 13, .inl now))]) (vp_Si Φ) 0 0 (fun _ => False) := by
  refine Met.ofW (cc := cX8_diedAt) (maxL := 2) (ret := (some .int)) (by decide) rfl ?_
  intro p e s m args below meth c s₁ B hml hv
  obtain ⟨rfl, hP, hKK⟩ := hv
  have hx := B.exec
  have hb := B.bytes
  have hr := B.returns
  have hts := atoms_spec (ws := wsX8_diedAt) B.pre
  have hown : s.vm.findClass RX8 = some m.cls := findClass_of_methodNamed B.named
  have hlocks := B.notSynchronized
  obtain ⟨Q, hQ⟩ : ∃ Q, Q = MQ below (vp_Si Φ) ([.ref a_this, .int p1] : List Value).toArray s 0 0 (fun _ => False) := ⟨_, rfl⟩
  rw [← hQ]
  have hl := lv_entry ([.ref a_this, .int p1]) (n := 2) (Nat.le_of_ble_eq_true rfl)
  rw [lg_entry_eq]
  generalize (lg_sl ([.ref a_this, .int p1]) ++ List.replicate (2 - (lg_sl ([.ref a_this, .int p1])).length) Slot.unset).toArray = ls at hl ⊢
  have hl : lv_has ls 2 [(0, .ref a_this), (1, .int p1)] := hl
  generalize ([.ref a_this, .int p1] : List Value).toArray = args at hts hQ ⊢
  have hP : va_P D vwCl [(a_this, .inr (8, [.int pay, .ref a_weathers, .ref a_hours, .ref a_fear, .int days, .ref a_dayWeather, .ref a_dayHour, .ref a_dayDanger, .ref a_now, .int seed, .ref a_text, .int texted, .int faultPlace, .int at0, .int number, .int numberAt, .ref a_readPay, .int readPersons, .ref a_readMarks, .ref a_readWeathers, .ref a_readHours, .ref a_readFear, .int readDays, .ref a_readWeather, .ref a_readHour, .ref a_readDanger, .int undos, .ref a_past, .ref a_morning, .ref a_sent, .int watched, .ref a_watchedDay, .ref a_watchedOut, .int booked, .ref a_bookWho, .ref a_bookMarks, .ref a_images, .ref a_isKept])), (a_now, .inl (cI, 13, .inl now))] s.heap := hP
  clear B
  show W p l e xrm_X8_diedAt s m args below meth c s.heap [] 0 0 Q (F0 m 0 ls [])
  unfold wp_X8_diedAt at hw
  refine lv_aload_n hx hb dX8_diedAt_0 rfl (lv_at hl 0 rfl) ?_
  refine lv_iload_n hx hb dX8_diedAt_1 rfl (lv_at hl 1 rfl) ?_
  refine xcVi (q0 := 0) (ci := 8) (As := [.int p1]) (rest := []) (wc := [(a_this, .inr (8, [.int pay, .ref a_weathers, .ref a_hours, .ref a_fear, .int days, .ref a_dayWeather, .ref a_dayHour, .ref a_dayDanger, .ref a_now, .int seed, .ref a_text, .int texted, .int faultPlace, .int at0, .int number, .int numberAt, .ref a_readPay, .int readPersons, .ref a_readMarks, .ref a_readWeathers, .ref a_readHours, .ref a_readFear, .int readDays, .ref a_readWeather, .ref a_readHour, .ref a_readDanger, .int undos, .ref a_past, .ref a_morning, .ref a_sent, .int watched, .ref a_watchedDay, .ref a_watchedOut, .int booked, .ref a_bookWho, .ref a_bookMarks, .ref a_images, .ref a_isKept])), (a_now, .inl (cI, 13, .inl now))]) ⟨hx, hb, hml, hown, hts⟩ (c_X8_isPerson l D cI cZ cO hw) (cwV 1 hts gX8_diedAt_X8_isPerson rfl rfl rfl (by decide +kernel) ⟨Nat.le_of_ble_eq_true rfl, Nat.le_of_ble_eq_true rfl⟩) hKK hP [0, 1] rfl rfl rfl rfl hl.1 rfl (Nat.le_of_ble_eq_true rfl) dX8_diedAt_2 ⟨Nat.zero_le _, Nat.zero_le _⟩ (fun r_2 hw => ?_)
  refine lv_if_ne (tgt := 11) hx hb dX8_diedAt_5 (by decide) (fun c_5 => ?_) (fun c_5 => ?_)
  · have hw := hw.2 c_5
    refine lv_aload_n hx hb dX8_diedAt_11 rfl (lv_at hl 0 rfl) ?_
    refine lv_iload_n hx hb dX8_diedAt_12 rfl (lv_at hl 1 rfl) ?_
    refine xcVi (q0 := 0) (ci := 8) (As := [.int p1]) (rest := []) (wc := [(a_this, .inr (8, [.int pay, .ref a_weathers, .ref a_hours, .ref a_fear, .int days, .ref a_dayWeather, .ref a_dayHour, .ref a_dayDanger, .ref a_now, .int seed, .ref a_text, .int texted, .int faultPlace, .int at0, .int number, .int numberAt, .ref a_readPay, .int readPersons, .ref a_readMarks, .ref a_readWeathers, .ref a_readHours, .ref a_readFear, .int readDays, .ref a_readWeather, .ref a_readHour, .ref a_readDanger, .int undos, .ref a_past, .ref a_morning, .ref a_sent, .int watched, .ref a_watchedDay, .ref a_watchedOut, .int booked, .ref a_bookWho, .ref a_bookMarks, .ref a_images, .ref a_isKept])), (a_now, .inl (cI, 13, .inl now))]) ⟨hx, hb, hml, hown, hts⟩ (c_X8_lives l D cI cZ cO hw) (cwV 1 hts gX8_diedAt_X8_lives rfl rfl rfl (by decide +kernel) ⟨Nat.le_of_ble_eq_true rfl, Nat.le_of_ble_eq_true rfl⟩) hKK hP [0, 1] rfl rfl rfl rfl hl.1 rfl (Nat.le_of_ble_eq_true rfl) dX8_diedAt_13 ⟨Nat.zero_le _, Nat.zero_le _⟩ (fun r_13 hw => ?_)
    refine lv_if_eq (tgt := 24) hx hb dX8_diedAt_16 (by decide) (fun c_16 => ?_) (fun c_16 => ?_)
    · have hw := hw.1 c_16
      refine lv_aload_n hx hb dX8_diedAt_24 rfl (lv_at hl 0 rfl) ?_
      refine lv_iload_n hx hb dX8_diedAt_25 rfl (lv_at hl 1 rfl) ?_
      refine xcVi (q0 := 0) (ci := 8) (As := [.int p1]) (rest := []) (wc := [(a_this, .inr (8, [.int pay, .ref a_weathers, .ref a_hours, .ref a_fear, .int days, .ref a_dayWeather, .ref a_dayHour, .ref a_dayDanger, .ref a_now, .int seed, .ref a_text, .int texted, .int faultPlace, .int at0, .int number, .int numberAt, .ref a_readPay, .int readPersons, .ref a_readMarks, .ref a_readWeathers, .ref a_readHours, .ref a_readFear, .int readDays, .ref a_readWeather, .ref a_readHour, .ref a_readDanger, .int undos, .ref a_past, .ref a_morning, .ref a_sent, .int watched, .ref a_watchedDay, .ref a_watchedOut, .int booked, .ref a_bookWho, .ref a_bookMarks, .ref a_images, .ref a_isKept])), (a_now, .inl (cI, 13, .inl now))]) ⟨hx, hb, hml, hown, hts⟩ (c_X8_placeOf l D cI cZ cO hw) (cwV 1 hts gX8_diedAt_X8_placeOf rfl rfl rfl (by decide +kernel) ⟨Nat.le_of_ble_eq_true rfl, Nat.le_of_ble_eq_true rfl⟩) hKK hP [0, 1] rfl rfl rfl rfl hl.1 rfl (Nat.le_of_ble_eq_true rfl) dX8_diedAt_26 ⟨Nat.zero_le _, Nat.zero_le _⟩ (fun r_26 hw => ?_)
      rw [hQ]
      exact W.iret (v := r_26) hx hb hr (fun t ht _ => ⟨r_26, rfl, hw, ht⟩) (fun _ h => (List.not_mem_nil h).elim) dX8_diedAt_29
    · have hw := hw.2 c_16
      refine lv_ldc (v := (-1000000003)) hx hb hown (hts (.constant RX8 203 (-1000000003)) (by decide +kernel)) dX8_diedAt_19 ?_
      refine lv_goto (tgt := 29) hx hb dX8_diedAt_21 (by decide) ?_
      rw [hQ]
      exact W.iret (v := (-1000000003)) hx hb hr (fun t ht _ => ⟨(-1000000003), rfl, hw, ht⟩) (fun _ h => (List.not_mem_nil h).elim) dX8_diedAt_29
  · have hw := hw.1 c_5
    refine lv_ldc (v := (-1000000001)) hx hb hown (hts (.constant RX8 190 (-1000000001)) (by decide +kernel)) dX8_diedAt_8 ?_
    rw [hQ]
    exact W.iret (v := (-1000000001)) hx hb hr (fun t ht _ => ⟨(-1000000001), rfl, hw, ht⟩) (fun _ h => (List.not_mem_nil h).elim) dX8_diedAt_10
def wk_X8_classOf_4 (Φ : Int32 → Prop) (x2_4 : Int32) (x3_4 : Int32) : Prop :=
  (Φ x2_4)
def wb_X8_classOf_4 (now : Nat → Int32) (p1 : Int32) (K_4 : Int32 → Int32 → Prop) (rec_4 : Int32 → Int32 → Prop) (x2_4 : Int32) (x3_4 : Int32) : Prop :=
  (((now 8) ≤ x3_4 → (K_4 x2_4 x3_4)) ∧ (¬ (now 8) ≤ x3_4 → (wp_X8_lives now p1 (fun r_18 => ((r_18 = 0 → (rec_4 (x2_4 ||| 0) (x3_4 + 1))) ∧ (¬ r_18 = 0 → (wp_X8_lives now x3_4 (fun r_26 => ((r_26 = 0 → (rec_4 (x2_4 ||| 0) (x3_4 + 1))) ∧ (¬ r_26 = 0 → (vp_in p1 13 ∧ (vp_in x3_4 13 ∧ (((now p1.toNatClampNeg) = (now x3_4.toNatClampNeg) → (rec_4 (x2_4 ||| ((1 : Int32) <<< (x3_4 &&& 31))) (x3_4 + 1))) ∧ (¬ (now p1.toNatClampNeg) = (now x3_4.toNatClampNeg) → (rec_4 (x2_4 ||| 0) (x3_4 + 1))))))))))))))))
def wp_X8_classOf (now : Nat → Int32) (p1 : Int32) (Φ : Int32 → Prop) : Prop :=
  (∃ n : Nat, xit2 (wb_X8_classOf_4 now p1 (wk_X8_classOf_4 Φ)) n 0 0)
abbrev xrm_X8_classOf : Room := { frames := 2, cells := 0, slots := 0, locals := 42 }
set_option maxRecDepth 100000 in
set_option maxHeartbeats 4000000 in
theorem c_X8_classOf (l : Launch) (D : va_G) (cI cZ cO : ClassId) {pay : Int32} {a_weathers : Nat} {a_hours : Nat} {a_fear : Nat} {days : Int32} {a_dayWeather : Nat} {a_dayHour : Nat} {a_dayDanger : Nat} {a_now : Nat} {seed : Int32} {a_text : Nat} {texted : Int32} {faultPlace : Int32} {at0 : Int32} {number : Int32} {numberAt : Int32} {a_readPay : Nat} {readPersons : Int32} {a_readMarks : Nat} {a_readWeathers : Nat} {a_readHours : Nat} {a_readFear : Nat} {readDays : Int32} {a_readWeather : Nat} {a_readHour : Nat} {a_readDanger : Nat} {undos : Int32} {a_past : Nat} {a_morning : Nat} {a_sent : Nat} {watched : Int32} {a_watchedDay : Nat} {a_watchedOut : Nat} {booked : Int32} {a_bookWho : Nat} {a_bookMarks : Nat} {a_images : Nat} {a_isKept : Nat} {a_this : Nat} {now : Nat → Int32} {p1 : Int32} {Φ : Int32 → Prop} (hw : (wp_X8_classOf now p1 Φ)) : Met l yX8_classOf wsX8_classOf xrm_X8_classOf (xPR D cI cZ cO [.ref a_this, .int p1] [(a_this, .inr (8, [.int pay, .ref a_weathers, .ref a_hours, .ref a_fear, .int days, .ref a_dayWeather, .ref a_dayHour, .ref a_dayDanger, .ref a_now, .int seed, .ref a_text, .int texted, .int faultPlace, .int at0, .int number, .int numberAt, .ref a_readPay, .int readPersons, .ref a_readMarks, .ref a_readWeathers, .ref a_readHours, .ref a_readFear, .int readDays, .ref a_readWeather, .ref a_readHour, .ref a_readDanger, .int undos, .ref a_past, .ref a_morning, .ref a_sent, .int watched, .ref a_watchedDay, .ref a_watchedOut, .int booked, .ref a_bookWho, .ref a_bookMarks, .ref a_images, .ref a_isKept])), (a_now, .inl (cI, 13, .inl now))]) (vp_Si Φ) 0 0 (fun _ => False) := by
  refine Met.ofW (cc := cX8_classOf) (maxL := 4) (ret := (some .int)) (by decide) rfl ?_
  intro p e s m args below meth c s₁ B hml hv
  obtain ⟨rfl, hP, hKK⟩ := hv
  have hx := B.exec
  have hb := B.bytes
  have hr := B.returns
  have hts := atoms_spec (ws := wsX8_classOf) B.pre
  have hown : s.vm.findClass RX8 = some m.cls := findClass_of_methodNamed B.named
  have hlocks := B.notSynchronized
  obtain ⟨Q, hQ⟩ : ∃ Q, Q = MQ below (vp_Si Φ) ([.ref a_this, .int p1] : List Value).toArray s 0 0 (fun _ => False) := ⟨_, rfl⟩
  rw [← hQ]
  have hl := lv_entry ([.ref a_this, .int p1]) (n := 4) (Nat.le_of_ble_eq_true rfl)
  rw [lg_entry_eq]
  generalize (lg_sl ([.ref a_this, .int p1]) ++ List.replicate (4 - (lg_sl ([.ref a_this, .int p1])).length) Slot.unset).toArray = ls at hl ⊢
  have hl : lv_has ls 4 [(0, .ref a_this), (1, .int p1)] := hl
  generalize ([.ref a_this, .int p1] : List Value).toArray = args at hts hQ ⊢
  have hP : va_P D vwCl [(a_this, .inr (8, [.int pay, .ref a_weathers, .ref a_hours, .ref a_fear, .int days, .ref a_dayWeather, .ref a_dayHour, .ref a_dayDanger, .ref a_now, .int seed, .ref a_text, .int texted, .int faultPlace, .int at0, .int number, .int numberAt, .ref a_readPay, .int readPersons, .ref a_readMarks, .ref a_readWeathers, .ref a_readHours, .ref a_readFear, .int readDays, .ref a_readWeather, .ref a_readHour, .ref a_readDanger, .int undos, .ref a_past, .ref a_morning, .ref a_sent, .int watched, .ref a_watchedDay, .ref a_watchedOut, .int booked, .ref a_bookWho, .ref a_bookMarks, .ref a_images, .ref a_isKept])), (a_now, .inl (cI, 13, .inl now))] s.heap := hP
  have hinX8 : ∀ w ∈ u_ws RX8 TX8 38, w ∈ wsX8_classOf := by decide +kernel
  have fl_28 := hts (.fieldLink RX8 28 "DoubleChainModel" "now" "[I") (by decide +kernel)
  clear B
  show W p l e xrm_X8_classOf s m args below meth c s.heap [] 0 0 Q (F0 m 0 ls [])
  unfold wp_X8_classOf at hw
  refine lv_iconst (v := 0) hx hb dX8_classOf_0 (by decide) ?_
  refine lv_istore_n (lv' := [(2, .int 0), (0, .ref a_this), (1, .int p1)]) hx hb dX8_classOf_1 rfl hl (by decide) rfl (fun ls hl => ?_)
  refine lv_iconst (v := 0) hx hb dX8_classOf_2 (by decide) ?_
  refine lv_istore_n (lv' := [(3, .int 0), (2, .int 0), (0, .ref a_this), (1, .int p1)]) hx hb dX8_classOf_3 rfl hl (by decide) rfl (fun ls hl => ?_)
  have EX_4 : ∀ (x2_4 : Int32) (x3_4 : Int32), ∀ (ls : Array Slot), lv_has ls 4 [(0, .ref a_this), (1, .int p1), (2, .int x2_4), (3, .int x3_4)] → (wk_X8_classOf_4 Φ x2_4 x3_4) → W p l e xrm_X8_classOf s m args below meth c s.heap [] 0 0 Q (F0 m 62 ls []) := by
    intro x2_4 x3_4 ls hl hw
    unfold wk_X8_classOf_4 at hw
    refine lv_iload_n hx hb dX8_classOf_62 rfl (lv_at hl 2 rfl) ?_
    rw [hQ]
    exact W.iret (v := x2_4) hx hb hr (fun t ht _ => ⟨x2_4, rfl, hw, ht⟩) (fun _ h => (List.not_mem_nil h).elim) dX8_classOf_63
  generalize (wk_X8_classOf_4 Φ) = K_4 at EX_4 hw
  have LP_4 : ∀ n : Nat, ∀ (x2_4 : Int32) (x3_4 : Int32), ∀ (ls : Array Slot), lv_has ls 4 [(0, .ref a_this), (1, .int p1), (2, .int x2_4), (3, .int x3_4)] → xit2 (wb_X8_classOf_4 now p1 K_4) n x2_4 x3_4 → W p l e xrm_X8_classOf s m args below meth c s.heap [] 0 0 Q (F0 m 4 ls []) := by
    intro n
    induction n with
    | zero => intro x2_4 x3_4 ls hl hw; exact (show False from hw).elim
    | succ n ih =>
      intro x2_4 x3_4 ls hl hw
      have hw : wb_X8_classOf_4 now p1 K_4 (xit2 (wb_X8_classOf_4 now p1 K_4) n) x2_4 x3_4 := hw
      generalize xit2 (wb_X8_classOf_4 now p1 K_4) n = rec_4 at ih hw
      unfold wb_X8_classOf_4 at hw
      refine lv_iload_n hx hb dX8_classOf_4 rfl (lv_at hl 3 rfl) ?_
      refine lv_aload_n hx hb dX8_classOf_5 rfl (lv_at hl 0 rfl) ?_
      refine va_get (D := D) (ci := 8) (v := .ref a_now) (C := RX8) (T := TX8) (N := 38) hx hb hts hinX8 hown hKK.1 hP 0 rfl rfl 8 (by decide) fl_28 (fun _ h9 => h9) rfl dX8_classOf_6 ?_
      refine lv_bipush (v := 8) hx hb dX8_classOf_9 (by decide) ?_
      refine x_iald 8 (by decide) (Nat.le_of_ble_eq_true rfl) hx hb hKK.1 hP 1 0 rfl rfl dX8_classOf_11 ?_
      refine lv_icmp_ge (tgt := 62) hx hb dX8_classOf_12 (by decide) (fun c_12 => ?_) (fun c_12 => ?_)
      · have hw := hw.1 c_12
        exact EX_4 _ _ ls (lv_sub hl [0, 1, 2, 3] rfl) hw
      · have hw := hw.2 c_12
        refine lv_iload_n hx hb dX8_classOf_15 rfl (lv_at hl 2 rfl) ?_
        refine lv_aload_n hx hb dX8_classOf_16 rfl (lv_at hl 0 rfl) ?_
        refine lv_iload_n hx hb dX8_classOf_17 rfl (lv_at hl 1 rfl) ?_
        refine xcVi (q0 := 0) (ci := 8) (As := [.int p1]) (rest := [.int x2_4]) (wc := [(a_this, .inr (8, [.int pay, .ref a_weathers, .ref a_hours, .ref a_fear, .int days, .ref a_dayWeather, .ref a_dayHour, .ref a_dayDanger, .ref a_now, .int seed, .ref a_text, .int texted, .int faultPlace, .int at0, .int number, .int numberAt, .ref a_readPay, .int readPersons, .ref a_readMarks, .ref a_readWeathers, .ref a_readHours, .ref a_readFear, .int readDays, .ref a_readWeather, .ref a_readHour, .ref a_readDanger, .int undos, .ref a_past, .ref a_morning, .ref a_sent, .int watched, .ref a_watchedDay, .ref a_watchedOut, .int booked, .ref a_bookWho, .ref a_bookMarks, .ref a_images, .ref a_isKept])), (a_now, .inl (cI, 13, .inl now))]) ⟨hx, hb, hml, hown, hts⟩ (c_X8_lives l D cI cZ cO hw) (cwV 1 hts gX8_classOf_X8_lives rfl rfl rfl (by decide +kernel) ⟨Nat.le_of_ble_eq_true rfl, Nat.le_of_ble_eq_true rfl⟩) hKK hP [0, 1] rfl rfl rfl rfl hl.1 rfl (Nat.le_of_ble_eq_true rfl) dX8_classOf_18 ⟨Nat.zero_le _, Nat.zero_le _⟩ (fun r_18 hw => ?_)
        refine lv_if_eq (tgt := 53) hx hb dX8_classOf_21 (by decide) (fun c_21 => ?_) (fun c_21 => ?_)
        · have hw := hw.1 c_21
          refine lv_iconst (v := 0) hx hb dX8_classOf_53 (by decide) ?_
          refine lv_ior hx hb dX8_classOf_54 ?_
          refine lv_istore_n (lv' := [(2, .int (x2_4 ||| 0)), (0, .ref a_this), (1, .int p1), (3, .int x3_4)]) hx hb dX8_classOf_55 rfl hl (by decide) rfl (fun ls hl => ?_)
          refine lv_iinc (v := (x3_4 + 1)) (lv' := [(3, .int (x3_4 + 1)), (2, .int (x2_4 ||| 0)), (0, .ref a_this), (1, .int p1)]) hx hb dX8_classOf_56 hl (k := 3) rfl (by rfl) (by decide) rfl (fun ls hl => ?_)
          refine lv_goto (tgt := 4) hx hb dX8_classOf_59 (by decide) ?_
          exact ih _ _ ls (lv_sub hl [2, 3, 1, 0] rfl) hw
        · have hw := hw.2 c_21
          refine lv_aload_n hx hb dX8_classOf_24 rfl (lv_at hl 0 rfl) ?_
          refine lv_iload_n hx hb dX8_classOf_25 rfl (lv_at hl 3 rfl) ?_
          refine xcVi (q0 := 0) (ci := 8) (As := [.int x3_4]) (rest := [.int x2_4]) (wc := [(a_this, .inr (8, [.int pay, .ref a_weathers, .ref a_hours, .ref a_fear, .int days, .ref a_dayWeather, .ref a_dayHour, .ref a_dayDanger, .ref a_now, .int seed, .ref a_text, .int texted, .int faultPlace, .int at0, .int number, .int numberAt, .ref a_readPay, .int readPersons, .ref a_readMarks, .ref a_readWeathers, .ref a_readHours, .ref a_readFear, .int readDays, .ref a_readWeather, .ref a_readHour, .ref a_readDanger, .int undos, .ref a_past, .ref a_morning, .ref a_sent, .int watched, .ref a_watchedDay, .ref a_watchedOut, .int booked, .ref a_bookWho, .ref a_bookMarks, .ref a_images, .ref a_isKept])), (a_now, .inl (cI, 13, .inl now))]) ⟨hx, hb, hml, hown, hts⟩ (c_X8_lives l D cI cZ cO hw) (cwV 1 hts gX8_classOf_X8_lives rfl rfl rfl (by decide +kernel) ⟨Nat.le_of_ble_eq_true rfl, Nat.le_of_ble_eq_true rfl⟩) hKK hP [0, 1] rfl rfl rfl rfl hl.1 rfl (Nat.le_of_ble_eq_true rfl) dX8_classOf_26 ⟨Nat.zero_le _, Nat.zero_le _⟩ (fun r_26 hw => ?_)
          refine lv_if_eq (tgt := 53) hx hb dX8_classOf_29 (by decide) (fun c_29 => ?_) (fun c_29 => ?_)
          · have hw := hw.1 c_29
            refine lv_iconst (v := 0) hx hb dX8_classOf_53 (by decide) ?_
            refine lv_ior hx hb dX8_classOf_54 ?_
            refine lv_istore_n (lv' := [(2, .int (x2_4 ||| 0)), (0, .ref a_this), (1, .int p1), (3, .int x3_4)]) hx hb dX8_classOf_55 rfl hl (by decide) rfl (fun ls hl => ?_)
            refine lv_iinc (v := (x3_4 + 1)) (lv' := [(3, .int (x3_4 + 1)), (2, .int (x2_4 ||| 0)), (0, .ref a_this), (1, .int p1)]) hx hb dX8_classOf_56 hl (k := 3) rfl (by rfl) (by decide) rfl (fun ls hl => ?_)
            refine lv_goto (tgt := 4) hx hb dX8_classOf_59 (by decide) ?_
            exact ih _ _ ls (lv_sub hl [2, 3, 1, 0] rfl) hw
          · have hw := hw.2 c_29
            refine lv_aload_n hx hb dX8_classOf_32 rfl (lv_at hl 0 rfl) ?_
            refine va_get (D := D) (ci := 8) (v := .ref a_now) (C := RX8) (T := TX8) (N := 38) hx hb hts hinX8 hown hKK.1 hP 0 rfl rfl 8 (by decide) fl_28 (fun _ h9 => h9) rfl dX8_classOf_33 ?_
            refine lv_iload_n hx hb dX8_classOf_36 rfl (lv_at hl 1 rfl) ?_
            obtain ⟨hin, hw⟩ := hw
            refine va_iald hx hb hKK.1 hP 1 0 rfl rfl hin dX8_classOf_37 ?_
            refine lv_aload_n hx hb dX8_classOf_38 rfl (lv_at hl 0 rfl) ?_
            refine va_get (D := D) (ci := 8) (v := .ref a_now) (C := RX8) (T := TX8) (N := 38) hx hb hts hinX8 hown hKK.1 hP 0 rfl rfl 8 (by decide) fl_28 (fun _ h9 => h9) rfl dX8_classOf_39 ?_
            refine lv_iload_n hx hb dX8_classOf_42 rfl (lv_at hl 3 rfl) ?_
            obtain ⟨hin, hw⟩ := hw
            refine va_iald hx hb hKK.1 hP 1 0 rfl rfl hin dX8_classOf_43 ?_
            refine lv_icmp_ne (tgt := 53) hx hb dX8_classOf_44 (by decide) (fun c_44 => ?_) (fun c_44 => ?_)
            · have hw := hw.2 c_44
              refine lv_iconst (v := 0) hx hb dX8_classOf_53 (by decide) ?_
              refine lv_ior hx hb dX8_classOf_54 ?_
              refine lv_istore_n (lv' := [(2, .int (x2_4 ||| 0)), (0, .ref a_this), (1, .int p1), (3, .int x3_4)]) hx hb dX8_classOf_55 rfl hl (by decide) rfl (fun ls hl => ?_)
              refine lv_iinc (v := (x3_4 + 1)) (lv' := [(3, .int (x3_4 + 1)), (2, .int (x2_4 ||| 0)), (0, .ref a_this), (1, .int p1)]) hx hb dX8_classOf_56 hl (k := 3) rfl (by rfl) (by decide) rfl (fun ls hl => ?_)
              refine lv_goto (tgt := 4) hx hb dX8_classOf_59 (by decide) ?_
              exact ih _ _ ls (lv_sub hl [2, 3, 1, 0] rfl) hw
            · have hw := hw.1 c_44
              refine lv_iconst (v := 1) hx hb dX8_classOf_47 (by decide) ?_
              refine lv_iload_n hx hb dX8_classOf_48 rfl (lv_at hl 3 rfl) ?_
              refine lv_ishl hx hb dX8_classOf_49 ?_
              refine lv_goto (tgt := 54) hx hb dX8_classOf_50 (by decide) ?_
              refine lv_ior hx hb dX8_classOf_54 ?_
              refine lv_istore_n (lv' := [(2, .int (x2_4 ||| ((1 : Int32) <<< (x3_4 &&& 31)))), (0, .ref a_this), (1, .int p1), (3, .int x3_4)]) hx hb dX8_classOf_55 rfl hl (by decide) rfl (fun ls hl => ?_)
              refine lv_iinc (v := (x3_4 + 1)) (lv' := [(3, .int (x3_4 + 1)), (2, .int (x2_4 ||| ((1 : Int32) <<< (x3_4 &&& 31)))), (0, .ref a_this), (1, .int p1)]) hx hb dX8_classOf_56 hl (k := 3) rfl (by rfl) (by decide) rfl (fun ls hl => ?_)
              refine lv_goto (tgt := 4) hx hb dX8_classOf_59 (by decide) ?_
              exact ih _ _ ls (lv_sub hl [2, 3, 1, 0] rfl) hw
  obtain ⟨n, hw⟩ := hw
  exact LP_4 n _ _ ls (lv_sub hl [2, 3, 1, 0] rfl) hw
def wk_X8_classes_28 (Φ : Int32 → Prop) (x2_28 : Int32) (x3_28 : Int32) : Prop :=
  (Φ x2_28)
def wb_X8_classes_28 (now : Nat → Int32) (K_28 : Int32 → Int32 → Prop) (rec_28 : Int32 → Int32 → Prop) (x2_28 : Int32) (x3_28 : Int32) : Prop :=
  (((now 8) ≤ x3_28 → (K_28 x2_28 x3_28)) ∧ (¬ (now 8) ≤ x3_28 → (wp_X8_lives now x3_28 (fun r_42 => ((r_42 = 0 → (rec_28 (x2_28 + 0) (x3_28 + 1))) ∧ (¬ r_42 = 0 → (wp_X8_classOf now x3_28 (fun r_50 => (wp_X8_least r_50 (fun r_53 => ((r_53 = x3_28 → (rec_28 (x2_28 + 1) (x3_28 + 1))) ∧ (¬ r_53 = x3_28 → (rec_28 (x2_28 + 0) (x3_28 + 1))))))))))))))
def wp_X8_classes (now : Nat → Int32) (p1 : Int32) (Φ : Int32 → Prop) : Prop :=
  ((p1 = (-1) → (∃ n : Nat, xit2 (wb_X8_classes_28 now (wk_X8_classes_28 Φ)) n 0 0)) ∧ (¬ p1 = (-1) → (wp_X8_isPerson now p1 (fun r_7 => ((r_7 = 0 → (Φ (-1000000001))) ∧ (¬ r_7 = 0 → (wp_X8_classOf now p1 (fun r_15 => (Φ r_15)))))))))
abbrev xrm_X8_classes : Room := { frames := 3, cells := 0, slots := 0, locals := 65 }
set_option maxRecDepth 100000 in
set_option maxHeartbeats 4000000 in
theorem c_X8_classes (l : Launch) (D : va_G) (cI cZ cO : ClassId) {pay : Int32} {a_weathers : Nat} {a_hours : Nat} {a_fear : Nat} {days : Int32} {a_dayWeather : Nat} {a_dayHour : Nat} {a_dayDanger : Nat} {a_now : Nat} {seed : Int32} {a_text : Nat} {texted : Int32} {faultPlace : Int32} {at0 : Int32} {number : Int32} {numberAt : Int32} {a_readPay : Nat} {readPersons : Int32} {a_readMarks : Nat} {a_readWeathers : Nat} {a_readHours : Nat} {a_readFear : Nat} {readDays : Int32} {a_readWeather : Nat} {a_readHour : Nat} {a_readDanger : Nat} {undos : Int32} {a_past : Nat} {a_morning : Nat} {a_sent : Nat} {watched : Int32} {a_watchedDay : Nat} {a_watchedOut : Nat} {booked : Int32} {a_bookWho : Nat} {a_bookMarks : Nat} {a_images : Nat} {a_isKept : Nat} {a_this : Nat} {now : Nat → Int32} {p1 : Int32} {Φ : Int32 → Prop} (hw : (wp_X8_classes now p1 Φ)) : Met l yX8_classes wsX8_classes xrm_X8_classes (xPR D cI cZ cO [.ref a_this, .int p1] [(a_this, .inr (8, [.int pay, .ref a_weathers, .ref a_hours, .ref a_fear, .int days, .ref a_dayWeather, .ref a_dayHour, .ref a_dayDanger, .ref a_now, .int seed, .ref a_text, .int texted, .int faultPlace, .int at0, .int number, .int numberAt, .ref a_readPay, .int readPersons, .ref a_readMarks, .ref a_readWeathers, .ref a_readHours, .ref a_readFear, .int readDays, .ref a_readWeather, .ref a_readHour, .ref a_readDanger, .int undos, .ref a_past, .ref a_morning, .ref a_sent, .int watched, .ref a_watchedDay, .ref a_watchedOut, .int booked, .ref a_bookWho, .ref a_bookMarks, .ref a_images, .ref a_isKept])), (a_now, .inl (cI, 13, .inl now))]) (vp_Si Φ) 0 0 (fun _ => False) := by
  refine Met.ofW (cc := cX8_classes) (maxL := 4) (ret := (some .int)) (by decide) rfl ?_
  intro p e s m args below meth c s₁ B hml hv
  obtain ⟨rfl, hP, hKK⟩ := hv
  have hx := B.exec
  have hb := B.bytes
  have hr := B.returns
  have hts := atoms_spec (ws := wsX8_classes) B.pre
  have hown : s.vm.findClass RX8 = some m.cls := findClass_of_methodNamed B.named
  have hlocks := B.notSynchronized
  obtain ⟨Q, hQ⟩ : ∃ Q, Q = MQ below (vp_Si Φ) ([.ref a_this, .int p1] : List Value).toArray s 0 0 (fun _ => False) := ⟨_, rfl⟩
  rw [← hQ]
  have hl := lv_entry ([.ref a_this, .int p1]) (n := 4) (Nat.le_of_ble_eq_true rfl)
  rw [lg_entry_eq]
  generalize (lg_sl ([.ref a_this, .int p1]) ++ List.replicate (4 - (lg_sl ([.ref a_this, .int p1])).length) Slot.unset).toArray = ls at hl ⊢
  have hl : lv_has ls 4 [(0, .ref a_this), (1, .int p1)] := hl
  generalize ([.ref a_this, .int p1] : List Value).toArray = args at hts hQ ⊢
  have hP : va_P D vwCl [(a_this, .inr (8, [.int pay, .ref a_weathers, .ref a_hours, .ref a_fear, .int days, .ref a_dayWeather, .ref a_dayHour, .ref a_dayDanger, .ref a_now, .int seed, .ref a_text, .int texted, .int faultPlace, .int at0, .int number, .int numberAt, .ref a_readPay, .int readPersons, .ref a_readMarks, .ref a_readWeathers, .ref a_readHours, .ref a_readFear, .int readDays, .ref a_readWeather, .ref a_readHour, .ref a_readDanger, .int undos, .ref a_past, .ref a_morning, .ref a_sent, .int watched, .ref a_watchedDay, .ref a_watchedOut, .int booked, .ref a_bookWho, .ref a_bookMarks, .ref a_images, .ref a_isKept])), (a_now, .inl (cI, 13, .inl now))] s.heap := hP
  have hinX8 : ∀ w ∈ u_ws RX8 TX8 38, w ∈ wsX8_classes := by decide +kernel
  have fl_28 := hts (.fieldLink RX8 28 "DoubleChainModel" "now" "[I") (by decide +kernel)
  clear B
  show W p l e xrm_X8_classes s m args below meth c s.heap [] 0 0 Q (F0 m 0 ls [])
  unfold wp_X8_classes at hw
  refine lv_iload_n hx hb dX8_classes_0 rfl (lv_at hl 1 rfl) ?_
  refine lv_iconst (v := (-1)) hx hb dX8_classes_1 (by decide) ?_
  refine lv_icmp_eq (tgt := 24) hx hb dX8_classes_2 (by decide) (fun c_2 => ?_) (fun c_2 => ?_)
  · have hw := hw.1 c_2
    refine lv_iconst (v := 0) hx hb dX8_classes_24 (by decide) ?_
    refine lv_istore_n (lv' := [(2, .int 0), (0, .ref a_this), (1, .int p1)]) hx hb dX8_classes_25 rfl hl (by decide) rfl (fun ls hl => ?_)
    refine lv_iconst (v := 0) hx hb dX8_classes_26 (by decide) ?_
    refine lv_istore_n (lv' := [(3, .int 0), (2, .int 0), (0, .ref a_this), (1, .int p1)]) hx hb dX8_classes_27 rfl hl (by decide) rfl (fun ls hl => ?_)
    have EX_28 : ∀ (x2_28 : Int32) (x3_28 : Int32), ∀ (ls : Array Slot), lv_has ls 4 [(0, .ref a_this), (1, .int p1), (2, .int x2_28), (3, .int x3_28)] → (wk_X8_classes_28 Φ x2_28 x3_28) → W p l e xrm_X8_classes s m args below meth c s.heap [] 0 0 Q (F0 m 73 ls []) := by
      intro x2_28 x3_28 ls hl hw
      unfold wk_X8_classes_28 at hw
      refine lv_iload_n hx hb dX8_classes_73 rfl (lv_at hl 2 rfl) ?_
      rw [hQ]
      exact W.iret (v := x2_28) hx hb hr (fun t ht _ => ⟨x2_28, rfl, hw, ht⟩) (fun _ h => (List.not_mem_nil h).elim) dX8_classes_74
    generalize (wk_X8_classes_28 Φ) = K_28 at EX_28 hw
    have LP_28 : ∀ n : Nat, ∀ (x2_28 : Int32) (x3_28 : Int32), ∀ (ls : Array Slot), lv_has ls 4 [(0, .ref a_this), (1, .int p1), (2, .int x2_28), (3, .int x3_28)] → xit2 (wb_X8_classes_28 now K_28) n x2_28 x3_28 → W p l e xrm_X8_classes s m args below meth c s.heap [] 0 0 Q (F0 m 28 ls []) := by
      intro n
      induction n with
      | zero => intro x2_28 x3_28 ls hl hw; exact (show False from hw).elim
      | succ n ih =>
        intro x2_28 x3_28 ls hl hw
        have hw : wb_X8_classes_28 now K_28 (xit2 (wb_X8_classes_28 now K_28) n) x2_28 x3_28 := hw
        generalize xit2 (wb_X8_classes_28 now K_28) n = rec_28 at ih hw
        unfold wb_X8_classes_28 at hw
        refine lv_iload_n hx hb dX8_classes_28 rfl (lv_at hl 3 rfl) ?_
        refine lv_aload_n hx hb dX8_classes_29 rfl (lv_at hl 0 rfl) ?_
        refine va_get (D := D) (ci := 8) (v := .ref a_now) (C := RX8) (T := TX8) (N := 38) hx hb hts hinX8 hown hKK.1 hP 0 rfl rfl 8 (by decide) fl_28 (fun _ h9 => h9) rfl dX8_classes_30 ?_
        refine lv_bipush (v := 8) hx hb dX8_classes_33 (by decide) ?_
        refine x_iald 8 (by decide) (Nat.le_of_ble_eq_true rfl) hx hb hKK.1 hP 1 0 rfl rfl dX8_classes_35 ?_
        refine lv_icmp_ge (tgt := 73) hx hb dX8_classes_36 (by decide) (fun c_36 => ?_) (fun c_36 => ?_)
        · have hw := hw.1 c_36
          exact EX_28 _ _ ls (lv_sub hl [0, 1, 2, 3] rfl) hw
        · have hw := hw.2 c_36
          refine lv_iload_n hx hb dX8_classes_39 rfl (lv_at hl 2 rfl) ?_
          refine lv_aload_n hx hb dX8_classes_40 rfl (lv_at hl 0 rfl) ?_
          refine lv_iload_n hx hb dX8_classes_41 rfl (lv_at hl 3 rfl) ?_
          refine xcVi (q0 := 0) (ci := 8) (As := [.int x3_28]) (rest := [.int x2_28]) (wc := [(a_this, .inr (8, [.int pay, .ref a_weathers, .ref a_hours, .ref a_fear, .int days, .ref a_dayWeather, .ref a_dayHour, .ref a_dayDanger, .ref a_now, .int seed, .ref a_text, .int texted, .int faultPlace, .int at0, .int number, .int numberAt, .ref a_readPay, .int readPersons, .ref a_readMarks, .ref a_readWeathers, .ref a_readHours, .ref a_readFear, .int readDays, .ref a_readWeather, .ref a_readHour, .ref a_readDanger, .int undos, .ref a_past, .ref a_morning, .ref a_sent, .int watched, .ref a_watchedDay, .ref a_watchedOut, .int booked, .ref a_bookWho, .ref a_bookMarks, .ref a_images, .ref a_isKept])), (a_now, .inl (cI, 13, .inl now))]) ⟨hx, hb, hml, hown, hts⟩ (c_X8_lives l D cI cZ cO hw) (cwV 1 hts gX8_classes_X8_lives rfl rfl rfl (by decide +kernel) ⟨Nat.le_of_ble_eq_true rfl, Nat.le_of_ble_eq_true rfl⟩) hKK hP [0, 1] rfl rfl rfl rfl hl.1 rfl (Nat.le_of_ble_eq_true rfl) dX8_classes_42 ⟨Nat.zero_le _, Nat.zero_le _⟩ (fun r_42 hw => ?_)
          refine lv_if_eq (tgt := 64) hx hb dX8_classes_45 (by decide) (fun c_45 => ?_) (fun c_45 => ?_)
          · have hw := hw.1 c_45
            refine lv_iconst (v := 0) hx hb dX8_classes_64 (by decide) ?_
            refine lv_iadd hx hb dX8_classes_65 ?_
            refine lv_istore_n (lv' := [(2, .int (x2_28 + 0)), (0, .ref a_this), (1, .int p1), (3, .int x3_28)]) hx hb dX8_classes_66 rfl hl (by decide) rfl (fun ls hl => ?_)
            refine lv_iinc (v := (x3_28 + 1)) (lv' := [(3, .int (x3_28 + 1)), (2, .int (x2_28 + 0)), (0, .ref a_this), (1, .int p1)]) hx hb dX8_classes_67 hl (k := 3) rfl (by rfl) (by decide) rfl (fun ls hl => ?_)
            refine lv_goto (tgt := 28) hx hb dX8_classes_70 (by decide) ?_
            exact ih _ _ ls (lv_sub hl [2, 3, 1, 0] rfl) hw
          · have hw := hw.2 c_45
            refine lv_aload_n hx hb dX8_classes_48 rfl (lv_at hl 0 rfl) ?_
            refine lv_iload_n hx hb dX8_classes_49 rfl (lv_at hl 3 rfl) ?_
            refine xcVi (q0 := 0) (ci := 8) (As := [.int x3_28]) (rest := [.int x2_28]) (wc := [(a_this, .inr (8, [.int pay, .ref a_weathers, .ref a_hours, .ref a_fear, .int days, .ref a_dayWeather, .ref a_dayHour, .ref a_dayDanger, .ref a_now, .int seed, .ref a_text, .int texted, .int faultPlace, .int at0, .int number, .int numberAt, .ref a_readPay, .int readPersons, .ref a_readMarks, .ref a_readWeathers, .ref a_readHours, .ref a_readFear, .int readDays, .ref a_readWeather, .ref a_readHour, .ref a_readDanger, .int undos, .ref a_past, .ref a_morning, .ref a_sent, .int watched, .ref a_watchedDay, .ref a_watchedOut, .int booked, .ref a_bookWho, .ref a_bookMarks, .ref a_images, .ref a_isKept])), (a_now, .inl (cI, 13, .inl now))]) ⟨hx, hb, hml, hown, hts⟩ (c_X8_classOf l D cI cZ cO hw) (cwV 1 hts gX8_classes_X8_classOf rfl rfl rfl (by decide +kernel) ⟨Nat.le_of_ble_eq_true rfl, Nat.le_of_ble_eq_true rfl⟩) hKK hP [0, 1] rfl rfl rfl rfl hl.1 rfl (Nat.le_of_ble_eq_true rfl) dX8_classes_50 ⟨Nat.zero_le _, Nat.zero_le _⟩ (fun r_50 hw => ?_)
            refine xcSi (As := [.int r_50]) (rest := [.int x2_28]) (wc := []) ⟨hx, hb, hml, hown, hts⟩ (c_X8_least l D cI cZ cO hw) (va_cwS 1 hts gX8_classes_X8_least rfl rfl rfl (by decide +kernel) ⟨Nat.le_of_ble_eq_true rfl, Nat.le_of_ble_eq_true rfl⟩) hKK hP [] rfl rfl hl.1 rfl (Nat.le_of_ble_eq_true rfl) dX8_classes_53 ⟨Nat.zero_le _, Nat.zero_le _⟩ (fun r_53 hw => ?_)
            refine lv_iload_n hx hb dX8_classes_56 rfl (lv_at hl 3 rfl) ?_
            refine lv_icmp_ne (tgt := 64) hx hb dX8_classes_57 (by decide) (fun c_57 => ?_) (fun c_57 => ?_)
            · have hw := hw.2 c_57
              refine lv_iconst (v := 0) hx hb dX8_classes_64 (by decide) ?_
              refine lv_iadd hx hb dX8_classes_65 ?_
              refine lv_istore_n (lv' := [(2, .int (x2_28 + 0)), (0, .ref a_this), (1, .int p1), (3, .int x3_28)]) hx hb dX8_classes_66 rfl hl (by decide) rfl (fun ls hl => ?_)
              refine lv_iinc (v := (x3_28 + 1)) (lv' := [(3, .int (x3_28 + 1)), (2, .int (x2_28 + 0)), (0, .ref a_this), (1, .int p1)]) hx hb dX8_classes_67 hl (k := 3) rfl (by rfl) (by decide) rfl (fun ls hl => ?_)
              refine lv_goto (tgt := 28) hx hb dX8_classes_70 (by decide) ?_
              exact ih _ _ ls (lv_sub hl [2, 3, 1, 0] rfl) hw
            · have hw := hw.1 c_57
              refine lv_iconst (v := 1) hx hb dX8_classes_60 (by decide) ?_
              refine lv_goto (tgt := 65) hx hb dX8_classes_61 (by decide) ?_
              refine lv_iadd hx hb dX8_classes_65 ?_
              refine lv_istore_n (lv' := [(2, .int (x2_28 + 1)), (0, .ref a_this), (1, .int p1), (3, .int x3_28)]) hx hb dX8_classes_66 rfl hl (by decide) rfl (fun ls hl => ?_)
              refine lv_iinc (v := (x3_28 + 1)) (lv' := [(3, .int (x3_28 + 1)), (2, .int (x2_28 + 1)), (0, .ref a_this), (1, .int p1)]) hx hb dX8_classes_67 hl (k := 3) rfl (by rfl) (by decide) rfl (fun ls hl => ?_)
              refine lv_goto (tgt := 28) hx hb dX8_classes_70 (by decide) ?_
              exact ih _ _ ls (lv_sub hl [2, 3, 1, 0] rfl) hw
    obtain ⟨n, hw⟩ := hw
    exact LP_28 n _ _ ls (lv_sub hl [2, 3, 1, 0] rfl) hw
  · have hw := hw.2 c_2
    refine lv_aload_n hx hb dX8_classes_5 rfl (lv_at hl 0 rfl) ?_
    refine lv_iload_n hx hb dX8_classes_6 rfl (lv_at hl 1 rfl) ?_
    refine xcVi (q0 := 0) (ci := 8) (As := [.int p1]) (rest := []) (wc := [(a_this, .inr (8, [.int pay, .ref a_weathers, .ref a_hours, .ref a_fear, .int days, .ref a_dayWeather, .ref a_dayHour, .ref a_dayDanger, .ref a_now, .int seed, .ref a_text, .int texted, .int faultPlace, .int at0, .int number, .int numberAt, .ref a_readPay, .int readPersons, .ref a_readMarks, .ref a_readWeathers, .ref a_readHours, .ref a_readFear, .int readDays, .ref a_readWeather, .ref a_readHour, .ref a_readDanger, .int undos, .ref a_past, .ref a_morning, .ref a_sent, .int watched, .ref a_watchedDay, .ref a_watchedOut, .int booked, .ref a_bookWho, .ref a_bookMarks, .ref a_images, .ref a_isKept])), (a_now, .inl (cI, 13, .inl now))]) ⟨hx, hb, hml, hown, hts⟩ (c_X8_isPerson l D cI cZ cO hw) (cwV 1 hts gX8_classes_X8_isPerson rfl rfl rfl (by decide +kernel) ⟨Nat.le_of_ble_eq_true rfl, Nat.le_of_ble_eq_true rfl⟩) hKK hP [0, 1] rfl rfl rfl rfl hl.1 rfl (Nat.le_of_ble_eq_true rfl) dX8_classes_7 ⟨Nat.zero_le _, Nat.zero_le _⟩ (fun r_7 hw => ?_)
    refine lv_if_eq (tgt := 21) hx hb dX8_classes_10 (by decide) (fun c_10 => ?_) (fun c_10 => ?_)
    · have hw := hw.1 c_10
      refine lv_ldc (v := (-1000000001)) hx hb hown (hts (.constant RX8 190 (-1000000001)) (by decide +kernel)) dX8_classes_21 ?_
      rw [hQ]
      exact W.iret (v := (-1000000001)) hx hb hr (fun t ht _ => ⟨(-1000000001), rfl, hw, ht⟩) (fun _ h => (List.not_mem_nil h).elim) dX8_classes_23
    · have hw := hw.2 c_10
      refine lv_aload_n hx hb dX8_classes_13 rfl (lv_at hl 0 rfl) ?_
      refine lv_iload_n hx hb dX8_classes_14 rfl (lv_at hl 1 rfl) ?_
      refine xcVi (q0 := 0) (ci := 8) (As := [.int p1]) (rest := []) (wc := [(a_this, .inr (8, [.int pay, .ref a_weathers, .ref a_hours, .ref a_fear, .int days, .ref a_dayWeather, .ref a_dayHour, .ref a_dayDanger, .ref a_now, .int seed, .ref a_text, .int texted, .int faultPlace, .int at0, .int number, .int numberAt, .ref a_readPay, .int readPersons, .ref a_readMarks, .ref a_readWeathers, .ref a_readHours, .ref a_readFear, .int readDays, .ref a_readWeather, .ref a_readHour, .ref a_readDanger, .int undos, .ref a_past, .ref a_morning, .ref a_sent, .int watched, .ref a_watchedDay, .ref a_watchedOut, .int booked, .ref a_bookWho, .ref a_bookMarks, .ref a_images, .ref a_isKept])), (a_now, .inl (cI, 13, .inl now))]) ⟨hx, hb, hml, hown, hts⟩ (c_X8_classOf l D cI cZ cO hw) (cwV 1 hts gX8_classes_X8_classOf rfl rfl rfl (by decide +kernel) ⟨Nat.le_of_ble_eq_true rfl, Nat.le_of_ble_eq_true rfl⟩) hKK hP [0, 1] rfl rfl rfl rfl hl.1 rfl (Nat.le_of_ble_eq_true rfl) dX8_classes_15 ⟨Nat.zero_le _, Nat.zero_le _⟩ (fun r_15 hw => ?_)
      refine lv_goto (tgt := 23) hx hb dX8_classes_18 (by decide) ?_
      rw [hQ]
      exact W.iret (v := r_15) hx hb hr (fun t ht _ => ⟨r_15, rfl, hw, ht⟩) (fun _ h => (List.not_mem_nil h).elim) dX8_classes_23
def wk_X8_areTold_17 (Φ : Int32 → Prop) (x3_17 : Int32) (x5_17 : Int32) : Prop :=
  ((xvz x3_17 ∧ Φ x3_17))
def wk_X8_areTold_32 (x5_17 : Int32) (rec_17 : Int32 → Int32 → Prop) (x3_32 : Int32) (x6_32 : Int32) : Prop :=
  (rec_17 x3_32 (x5_17 + 1))
def wj_X8_areTold_73 (now : Nat → Int32) (p1 : Int32) (x5_17 : Int32) (x3_32 : Int32) (x6_32 : Int32) (rec_32 : Int32 → Int32 → Prop) (s0_73 : Int32) : Prop :=
  ((x3_32 = 0 → (rec_32 0 (x6_32 + 1))) ∧ (¬ x3_32 = 0 → ((s0_73 = 0 → (rec_32 1 (x6_32 + 1))) ∧ (¬ s0_73 = 0 → (vp_in x5_17 13 ∧ (vp_in x6_32 13 ∧ ((((now x5_17.toNatClampNeg) &&& p1) = ((now x6_32.toNatClampNeg) &&& p1) → (rec_32 0 (x6_32 + 1))) ∧ (¬ ((now x5_17.toNatClampNeg) &&& p1) = ((now x6_32.toNatClampNeg) &&& p1) → (rec_32 1 (x6_32 + 1))))))))))
def wj_X8_areTold_72 (now : Nat → Int32) (p1 : Int32) (x5_17 : Int32) (x3_32 : Int32) (x6_32 : Int32) (rec_32 : Int32 → Int32 → Prop) : Prop :=
  (wj_X8_areTold_73 now p1 x5_17 x3_32 x6_32 rec_32 0)
def wj_X8_areTold_68 (now : Nat → Int32) (p1 : Int32) (x5_17 : Int32) (x3_32 : Int32) (x6_32 : Int32) (rec_32 : Int32 → Int32 → Prop) : Prop :=
  (wj_X8_areTold_73 now p1 x5_17 x3_32 x6_32 rec_32 1)
def wb_X8_areTold_32 (now : Nat → Int32) (p1 : Int32) (p2 : Int32) (r_9 : Int32) (x5_17 : Int32) (K_32 : Int32 → Int32 → Prop) (rec_32 : Int32 → Int32 → Prop) (x3_32 : Int32) (x6_32 : Int32) : Prop :=
  ((x5_17 ≤ x6_32 → (K_32 x3_32 x6_32)) ∧ (¬ x5_17 ≤ x6_32 → (wp_X8_lives now x5_17 (fun r_42 => ((r_42 = 0 → (wj_X8_areTold_72 now p1 x5_17 x3_32 x6_32 rec_32)) ∧ (¬ r_42 = 0 → (wp_X8_lives now x6_32 (fun r_51 => ((r_51 = 0 → (wj_X8_areTold_72 now p1 x5_17 x3_32 x6_32 rec_32)) ∧ (¬ r_51 = 0 → ((p2 = 0 → ((x6_32 = r_9 → (wj_X8_areTold_68 now p1 x5_17 x3_32 x6_32 rec_32)) ∧ (¬ x6_32 = r_9 → (wj_X8_areTold_72 now p1 x5_17 x3_32 x6_32 rec_32)))) ∧ (¬ p2 = 0 → (wj_X8_areTold_68 now p1 x5_17 x3_32 x6_32 rec_32)))))))))))))
def wb_X8_areTold_17 (now : Nat → Int32) (p1 : Int32) (p2 : Int32) (r_9 : Int32) (K_17 : Int32 → Int32 → Prop) (rec_17 : Int32 → Int32 → Prop) (x3_17 : Int32) (x5_17 : Int32) : Prop :=
  (((now 8) ≤ x5_17 → (K_17 x3_17 x5_17)) ∧ (¬ (now 8) ≤ x5_17 → (∃ n : Nat, xit2 (wb_X8_areTold_32 now p1 p2 r_9 x5_17 (wk_X8_areTold_32 x5_17 rec_17)) n x3_17 0)))
def wp_X8_areTold (now : Nat → Int32) (p1 : Int32) (p2 : Int32) (Φ : Int32 → Prop) : Prop :=
  (wp_X8_least (now 9) (fun r_9 => (∃ n : Nat, xit2 (wb_X8_areTold_17 now p1 p2 r_9 (wk_X8_areTold_17 Φ)) n 1 0)))
abbrev xrm_X8_areTold : Room := { frames := 2, cells := 0, slots := 0, locals := 42 }
set_option maxRecDepth 100000 in
set_option maxHeartbeats 4000000 in
theorem c_X8_areTold (l : Launch) (D : va_G) (cI cZ cO : ClassId) {pay : Int32} {a_weathers : Nat} {a_hours : Nat} {a_fear : Nat} {days : Int32} {a_dayWeather : Nat} {a_dayHour : Nat} {a_dayDanger : Nat} {a_now : Nat} {seed : Int32} {a_text : Nat} {texted : Int32} {faultPlace : Int32} {at0 : Int32} {number : Int32} {numberAt : Int32} {a_readPay : Nat} {readPersons : Int32} {a_readMarks : Nat} {a_readWeathers : Nat} {a_readHours : Nat} {a_readFear : Nat} {readDays : Int32} {a_readWeather : Nat} {a_readHour : Nat} {a_readDanger : Nat} {undos : Int32} {a_past : Nat} {a_morning : Nat} {a_sent : Nat} {watched : Int32} {a_watchedDay : Nat} {a_watchedOut : Nat} {booked : Int32} {a_bookWho : Nat} {a_bookMarks : Nat} {a_images : Nat} {a_isKept : Nat} {a_this : Nat} {now : Nat → Int32} {p1 : Int32} {p2 : Int32} {Φ : Int32 → Prop} (hw : (wp_X8_areTold now p1 p2 Φ)) : Met l yX8_areTold wsX8_areTold xrm_X8_areTold (xPR D cI cZ cO [.ref a_this, .int p1, .int p2] [(a_this, .inr (8, [.int pay, .ref a_weathers, .ref a_hours, .ref a_fear, .int days, .ref a_dayWeather, .ref a_dayHour, .ref a_dayDanger, .ref a_now, .int seed, .ref a_text, .int texted, .int faultPlace, .int at0, .int number, .int numberAt, .ref a_readPay, .int readPersons, .ref a_readMarks, .ref a_readWeathers, .ref a_readHours, .ref a_readFear, .int readDays, .ref a_readWeather, .ref a_readHour, .ref a_readDanger, .int undos, .ref a_past, .ref a_morning, .ref a_sent, .int watched, .ref a_watchedDay, .ref a_watchedOut, .int booked, .ref a_bookWho, .ref a_bookMarks, .ref a_images, .ref a_isKept])), (a_now, .inl (cI, 13, .inl now))]) (vp_Si Φ) 0 0 (fun _ => False) := by
  refine Met.ofW (cc := cX8_areTold) (maxL := 8) (ret := (some .boolean)) (by decide) rfl ?_
  intro p e s m args below meth c s₁ B hml hv
  obtain ⟨rfl, hP, hKK⟩ := hv
  have hx := B.exec
  have hb := B.bytes
  have hr := B.returns
  have hts := atoms_spec (ws := wsX8_areTold) B.pre
  have hown : s.vm.findClass RX8 = some m.cls := findClass_of_methodNamed B.named
  have hlocks := B.notSynchronized
  obtain ⟨Q, hQ⟩ : ∃ Q, Q = MQ below (vp_Si Φ) ([.ref a_this, .int p1, .int p2] : List Value).toArray s 0 0 (fun _ => False) := ⟨_, rfl⟩
  rw [← hQ]
  have hl := lv_entry ([.ref a_this, .int p1, .int p2]) (n := 8) (Nat.le_of_ble_eq_true rfl)
  rw [lg_entry_eq]
  generalize (lg_sl ([.ref a_this, .int p1, .int p2]) ++ List.replicate (8 - (lg_sl ([.ref a_this, .int p1, .int p2])).length) Slot.unset).toArray = ls at hl ⊢
  have hl : lv_has ls 8 [(0, .ref a_this), (1, .int p1), (2, .int p2)] := hl
  generalize ([.ref a_this, .int p1, .int p2] : List Value).toArray = args at hts hQ ⊢
  have hP : va_P D vwCl [(a_this, .inr (8, [.int pay, .ref a_weathers, .ref a_hours, .ref a_fear, .int days, .ref a_dayWeather, .ref a_dayHour, .ref a_dayDanger, .ref a_now, .int seed, .ref a_text, .int texted, .int faultPlace, .int at0, .int number, .int numberAt, .ref a_readPay, .int readPersons, .ref a_readMarks, .ref a_readWeathers, .ref a_readHours, .ref a_readFear, .int readDays, .ref a_readWeather, .ref a_readHour, .ref a_readDanger, .int undos, .ref a_past, .ref a_morning, .ref a_sent, .int watched, .ref a_watchedDay, .ref a_watchedOut, .int booked, .ref a_bookWho, .ref a_bookMarks, .ref a_images, .ref a_isKept])), (a_now, .inl (cI, 13, .inl now))] s.heap := hP
  have hinX8 : ∀ w ∈ u_ws RX8 TX8 38, w ∈ wsX8_areTold := by decide +kernel
  have fl_28 := hts (.fieldLink RX8 28 "DoubleChainModel" "now" "[I") (by decide +kernel)
  clear B
  show W p l e xrm_X8_areTold s m args below meth c s.heap [] 0 0 Q (F0 m 0 ls [])
  unfold wp_X8_areTold at hw
  refine lv_iconst (v := 1) hx hb dX8_areTold_0 (by decide) ?_
  refine lv_istore_n (lv' := [(3, .int 1), (0, .ref a_this), (1, .int p1), (2, .int p2)]) hx hb dX8_areTold_1 rfl hl (by decide) rfl (fun ls hl => ?_)
  refine lv_aload_n hx hb dX8_areTold_2 rfl (lv_at hl 1 rfl) ?_
  refine va_get (D := D) (ci := 8) (v := .ref a_now) (C := RX8) (T := TX8) (N := 38) hx hb hts hinX8 hown hKK.1 hP 0 rfl rfl 8 (by decide) fl_28 (fun _ h9 => h9) rfl dX8_areTold_3 ?_
  refine lv_bipush (v := 9) hx hb dX8_areTold_6 (by decide) ?_
  refine x_iald 9 (by decide) (Nat.le_of_ble_eq_true rfl) hx hb hKK.1 hP 1 0 rfl rfl dX8_areTold_8 ?_
  refine xcSi (As := [.int (now 9)]) (rest := []) (wc := []) ⟨hx, hb, hml, hown, hts⟩ (c_X8_least l D cI cZ cO hw) (va_cwS 1 hts gX8_areTold_X8_least rfl rfl rfl (by decide +kernel) ⟨Nat.le_of_ble_eq_true rfl, Nat.le_of_ble_eq_true rfl⟩) hKK hP [] rfl rfl hl.1 rfl (Nat.le_of_ble_eq_true rfl) dX8_areTold_9 ⟨Nat.zero_le _, Nat.zero_le _⟩ (fun r_9 hw => ?_)
  refine lv_istore (lv' := [(4, .int r_9), (3, .int 1), (0, .ref a_this), (1, .int p1), (2, .int p2)]) hx hb dX8_areTold_12 hl (by decide) rfl (fun ls hl => ?_)
  refine lv_iconst (v := 0) hx hb dX8_areTold_14 (by decide) ?_
  refine lv_istore (lv' := [(5, .int 0), (4, .int r_9), (3, .int 1), (0, .ref a_this), (1, .int p1), (2, .int p2)]) hx hb dX8_areTold_15 hl (by decide) rfl (fun ls hl => ?_)
  have EX_17 : ∀ (x3_17 : Int32) (x5_17 : Int32), ∀ (ls : Array Slot), lv_has ls 8 [(0, .ref a_this), (1, .int p1), (2, .int p2), (3, .int x3_17), (4, .int r_9), (5, .int x5_17)] → (wk_X8_areTold_17 Φ x3_17 x5_17) → W p l e xrm_X8_areTold s m args below meth c s.heap [] 0 0 Q (F0 m 123 ls []) := by
    intro x3_17 x5_17 ls hl hw
    unfold wk_X8_areTold_17 at hw
    refine lv_iload_n hx hb dX8_areTold_123 rfl (lv_at hl 3 rfl) ?_
    obtain ⟨hvz, hw⟩ := hw
    rw [hQ]
    exact W.zret (v := x3_17) hx hb hr hvz (fun t ht _ => ⟨x3_17, rfl, hw, ht⟩) (fun _ h => (List.not_mem_nil h).elim) dX8_areTold_124
  generalize (wk_X8_areTold_17 Φ) = K_17 at EX_17 hw
  have LP_17 : ∀ n : Nat, ∀ (x3_17 : Int32) (x5_17 : Int32), ∀ (ls : Array Slot), lv_has ls 8 [(0, .ref a_this), (1, .int p1), (2, .int p2), (3, .int x3_17), (4, .int r_9), (5, .int x5_17)] → xit2 (wb_X8_areTold_17 now p1 p2 r_9 K_17) n x3_17 x5_17 → W p l e xrm_X8_areTold s m args below meth c s.heap [] 0 0 Q (F0 m 17 ls []) := by
    intro n
    induction n with
    | zero => intro x3_17 x5_17 ls hl hw; exact (show False from hw).elim
    | succ n ih =>
      intro x3_17 x5_17 ls hl hw
      have hw : wb_X8_areTold_17 now p1 p2 r_9 K_17 (xit2 (wb_X8_areTold_17 now p1 p2 r_9 K_17) n) x3_17 x5_17 := hw
      generalize xit2 (wb_X8_areTold_17 now p1 p2 r_9 K_17) n = rec_17 at ih hw
      unfold wb_X8_areTold_17 at hw
      refine lv_iload hx hb dX8_areTold_17 (lv_at hl 5 rfl) ?_
      refine lv_aload_n hx hb dX8_areTold_19 rfl (lv_at hl 0 rfl) ?_
      refine va_get (D := D) (ci := 8) (v := .ref a_now) (C := RX8) (T := TX8) (N := 38) hx hb hts hinX8 hown hKK.1 hP 0 rfl rfl 8 (by decide) fl_28 (fun _ h9 => h9) rfl dX8_areTold_20 ?_
      refine lv_bipush (v := 8) hx hb dX8_areTold_23 (by decide) ?_
      refine x_iald 8 (by decide) (Nat.le_of_ble_eq_true rfl) hx hb hKK.1 hP 1 0 rfl rfl dX8_areTold_25 ?_
      refine lv_icmp_ge (tgt := 123) hx hb dX8_areTold_26 (by decide) (fun c_26 => ?_) (fun c_26 => ?_)
      · have hw := hw.1 c_26
        exact EX_17 _ _ ls (lv_sub hl [0, 1, 2, 3, 4, 5] rfl) hw
      · have hw := hw.2 c_26
        refine lv_iconst (v := 0) hx hb dX8_areTold_29 (by decide) ?_
        refine lv_istore (lv' := [(6, .int 0), (0, .ref a_this), (1, .int p1), (2, .int p2), (3, .int x3_17), (4, .int r_9), (5, .int x5_17)]) hx hb dX8_areTold_30 hl (by decide) rfl (fun ls hl => ?_)
        have EX_32 : ∀ (x3_32 : Int32) (x6_32 : Int32), ∀ (ls : Array Slot), lv_has ls 8 [(0, .ref a_this), (1, .int p1), (2, .int p2), (3, .int x3_32), (4, .int r_9), (5, .int x5_17), (6, .int x6_32)] → (wk_X8_areTold_32 x5_17 rec_17 x3_32 x6_32) → W p l e xrm_X8_areTold s m args below meth c s.heap [] 0 0 Q (F0 m 117 ls []) := by
          intro x3_32 x6_32 ls hl hw
          unfold wk_X8_areTold_32 at hw
          refine lv_iinc (v := (x5_17 + 1)) (lv' := [(5, .int (x5_17 + 1)), (0, .ref a_this), (1, .int p1), (2, .int p2), (3, .int x3_32), (4, .int r_9), (6, .int x6_32)]) hx hb dX8_areTold_117 hl (k := 5) rfl (by rfl) (by decide) rfl (fun ls hl => ?_)
          refine lv_goto (tgt := 17) hx hb dX8_areTold_120 (by decide) ?_
          exact ih _ _ ls (lv_sub hl [1, 2, 3, 4, 5, 0] rfl) hw
        generalize (wk_X8_areTold_32 x5_17 rec_17) = K_32 at EX_32 hw
        have LP_32 : ∀ n : Nat, ∀ (x3_32 : Int32) (x6_32 : Int32), ∀ (ls : Array Slot), lv_has ls 8 [(0, .ref a_this), (1, .int p1), (2, .int p2), (3, .int x3_32), (4, .int r_9), (5, .int x5_17), (6, .int x6_32)] → xit2 (wb_X8_areTold_32 now p1 p2 r_9 x5_17 K_32) n x3_32 x6_32 → W p l e xrm_X8_areTold s m args below meth c s.heap [] 0 0 Q (F0 m 32 ls []) := by
          intro n
          induction n with
          | zero => intro x3_32 x6_32 ls hl hw; exact (show False from hw).elim
          | succ n ih =>
            intro x3_32 x6_32 ls hl hw
            have hw : wb_X8_areTold_32 now p1 p2 r_9 x5_17 K_32 (xit2 (wb_X8_areTold_32 now p1 p2 r_9 x5_17 K_32) n) x3_32 x6_32 := hw
            generalize xit2 (wb_X8_areTold_32 now p1 p2 r_9 x5_17 K_32) n = rec_32 at ih hw
            unfold wb_X8_areTold_32 at hw
            have JN_73 : ∀ (s0_73 : Int32), ∀ (ls : Array Slot), lv_has ls 8 [(0, .ref a_this), (1, .int p1), (2, .int p2), (3, .int x3_32), (4, .int r_9), (5, .int x5_17), (6, .int x6_32)] → (wj_X8_areTold_73 now p1 x5_17 x3_32 x6_32 rec_32 s0_73) → W p l e xrm_X8_areTold s m args below meth c s.heap [] 0 0 Q (F0 m 73 ls [.int s0_73]) := by
              intro s0_73 ls hl hw
              unfold wj_X8_areTold_73 at hw
              refine lv_istore (lv' := [(7, .int s0_73), (0, .ref a_this), (1, .int p1), (2, .int p2), (3, .int x3_32), (4, .int r_9), (5, .int x5_17), (6, .int x6_32)]) hx hb dX8_areTold_73 hl (by decide) rfl (fun ls hl => ?_)
              refine lv_iload_n hx hb dX8_areTold_75 rfl (lv_at hl 4 rfl) ?_
              refine lv_if_eq (tgt := 109) hx hb dX8_areTold_76 (by decide) (fun c_76 => ?_) (fun c_76 => ?_)
              · have hw := hw.1 c_76
                refine lv_iconst (v := 0) hx hb dX8_areTold_109 (by decide) ?_
                refine lv_istore_n (lv' := [(3, .int 0), (7, .int s0_73), (0, .ref a_this), (1, .int p1), (2, .int p2), (4, .int r_9), (5, .int x5_17), (6, .int x6_32)]) hx hb dX8_areTold_110 rfl hl (by decide) rfl (fun ls hl => ?_)
                refine lv_iinc (v := (x6_32 + 1)) (lv' := [(6, .int (x6_32 + 1)), (3, .int 0), (7, .int s0_73), (0, .ref a_this), (1, .int p1), (2, .int p2), (4, .int r_9), (5, .int x5_17)]) hx hb dX8_areTold_111 hl (k := 7) rfl (by rfl) (by decide) rfl (fun ls hl => ?_)
                refine lv_goto (tgt := 32) hx hb dX8_areTold_114 (by decide) ?_
                exact ih _ _ ls (lv_sub hl [3, 4, 5, 1, 6, 7, 0] rfl) hw
              · have hw := hw.2 c_76
                refine lv_iload hx hb dX8_areTold_79 (lv_at hl 0 rfl) ?_
                refine lv_if_eq (tgt := 105) hx hb dX8_areTold_81 (by decide) (fun c_81 => ?_) (fun c_81 => ?_)
                · have hw := hw.1 c_81
                  refine lv_iconst (v := 1) hx hb dX8_areTold_105 (by decide) ?_
                  refine lv_goto (tgt := 110) hx hb dX8_areTold_106 (by decide) ?_
                  refine lv_istore_n (lv' := [(3, .int 1), (7, .int s0_73), (0, .ref a_this), (1, .int p1), (2, .int p2), (4, .int r_9), (5, .int x5_17), (6, .int x6_32)]) hx hb dX8_areTold_110 rfl hl (by decide) rfl (fun ls hl => ?_)
                  refine lv_iinc (v := (x6_32 + 1)) (lv' := [(6, .int (x6_32 + 1)), (3, .int 1), (7, .int s0_73), (0, .ref a_this), (1, .int p1), (2, .int p2), (4, .int r_9), (5, .int x5_17)]) hx hb dX8_areTold_111 hl (k := 7) rfl (by rfl) (by decide) rfl (fun ls hl => ?_)
                  refine lv_goto (tgt := 32) hx hb dX8_areTold_114 (by decide) ?_
                  exact ih _ _ ls (lv_sub hl [3, 4, 5, 1, 6, 7, 0] rfl) hw
                · have hw := hw.2 c_81
                  refine lv_aload_n hx hb dX8_areTold_84 rfl (lv_at hl 1 rfl) ?_
                  refine va_get (D := D) (ci := 8) (v := .ref a_now) (C := RX8) (T := TX8) (N := 38) hx hb hts hinX8 hown hKK.1 hP 0 rfl rfl 8 (by decide) fl_28 (fun _ h9 => h9) rfl dX8_areTold_85 ?_
                  refine lv_iload hx hb dX8_areTold_88 (lv_at hl 6 rfl) ?_
                  obtain ⟨hin, hw⟩ := hw
                  refine va_iald hx hb hKK.1 hP 1 0 rfl rfl hin dX8_areTold_90 ?_
                  refine lv_iload_n hx hb dX8_areTold_91 rfl (lv_at hl 2 rfl) ?_
                  refine lv_iand hx hb dX8_areTold_92 ?_
                  refine lv_aload_n hx hb dX8_areTold_93 rfl (lv_at hl 1 rfl) ?_
                  refine va_get (D := D) (ci := 8) (v := .ref a_now) (C := RX8) (T := TX8) (N := 38) hx hb hts hinX8 hown hKK.1 hP 0 rfl rfl 8 (by decide) fl_28 (fun _ h9 => h9) rfl dX8_areTold_94 ?_
                  refine lv_iload hx hb dX8_areTold_97 (lv_at hl 7 rfl) ?_
                  obtain ⟨hin, hw⟩ := hw
                  refine va_iald hx hb hKK.1 hP 1 0 rfl rfl hin dX8_areTold_99 ?_
                  refine lv_iload_n hx hb dX8_areTold_100 rfl (lv_at hl 2 rfl) ?_
                  refine lv_iand hx hb dX8_areTold_101 ?_
                  refine lv_icmp_eq (tgt := 109) hx hb dX8_areTold_102 (by decide) (fun c_102 => ?_) (fun c_102 => ?_)
                  · have hw := hw.1 c_102
                    refine lv_iconst (v := 0) hx hb dX8_areTold_109 (by decide) ?_
                    refine lv_istore_n (lv' := [(3, .int 0), (7, .int s0_73), (0, .ref a_this), (1, .int p1), (2, .int p2), (4, .int r_9), (5, .int x5_17), (6, .int x6_32)]) hx hb dX8_areTold_110 rfl hl (by decide) rfl (fun ls hl => ?_)
                    refine lv_iinc (v := (x6_32 + 1)) (lv' := [(6, .int (x6_32 + 1)), (3, .int 0), (7, .int s0_73), (0, .ref a_this), (1, .int p1), (2, .int p2), (4, .int r_9), (5, .int x5_17)]) hx hb dX8_areTold_111 hl (k := 7) rfl (by rfl) (by decide) rfl (fun ls hl => ?_)
                    refine lv_goto (tgt := 32) hx hb dX8_areTold_114 (by decide) ?_
                    exact ih _ _ ls (lv_sub hl [3, 4, 5, 1, 6, 7, 0] rfl) hw
                  · have hw := hw.2 c_102
                    refine lv_iconst (v := 1) hx hb dX8_areTold_105 (by decide) ?_
                    refine lv_goto (tgt := 110) hx hb dX8_areTold_106 (by decide) ?_
                    refine lv_istore_n (lv' := [(3, .int 1), (7, .int s0_73), (0, .ref a_this), (1, .int p1), (2, .int p2), (4, .int r_9), (5, .int x5_17), (6, .int x6_32)]) hx hb dX8_areTold_110 rfl hl (by decide) rfl (fun ls hl => ?_)
                    refine lv_iinc (v := (x6_32 + 1)) (lv' := [(6, .int (x6_32 + 1)), (3, .int 1), (7, .int s0_73), (0, .ref a_this), (1, .int p1), (2, .int p2), (4, .int r_9), (5, .int x5_17)]) hx hb dX8_areTold_111 hl (k := 7) rfl (by rfl) (by decide) rfl (fun ls hl => ?_)
                    refine lv_goto (tgt := 32) hx hb dX8_areTold_114 (by decide) ?_
                    exact ih _ _ ls (lv_sub hl [3, 4, 5, 1, 6, 7, 0] rfl) hw
            have JN_72 : ∀ (ls : Array Slot), lv_has ls 8 [(0, .ref a_this), (1, .int p1), (2, .int p2), (3, .int x3_32), (4, .int r_9), (5, .int x5_17), (6, .int x6_32)] → (wj_X8_areTold_72 now p1 x5_17 x3_32 x6_32 rec_32) → W p l e xrm_X8_areTold s m args below meth c s.heap [] 0 0 Q (F0 m 72 ls []) := by
              intro ls hl hw
              unfold wj_X8_areTold_72 at hw
              refine lv_iconst (v := 0) hx hb dX8_areTold_72 (by decide) ?_
              exact JN_73 _ ls (lv_sub hl [0, 1, 2, 3, 4, 5, 6] rfl) hw
            have JN_68 : ∀ (ls : Array Slot), lv_has ls 8 [(0, .ref a_this), (1, .int p1), (2, .int p2), (3, .int x3_32), (4, .int r_9), (5, .int x5_17), (6, .int x6_32)] → (wj_X8_areTold_68 now p1 x5_17 x3_32 x6_32 rec_32) → W p l e xrm_X8_areTold s m args below meth c s.heap [] 0 0 Q (F0 m 68 ls []) := by
              intro ls hl hw
              unfold wj_X8_areTold_68 at hw
              refine lv_iconst (v := 1) hx hb dX8_areTold_68 (by decide) ?_
              refine lv_goto (tgt := 73) hx hb dX8_areTold_69 (by decide) ?_
              exact JN_73 _ ls (lv_sub hl [0, 1, 2, 3, 4, 5, 6] rfl) hw
            refine lv_iload hx hb dX8_areTold_32 (lv_at hl 6 rfl) ?_
            refine lv_iload hx hb dX8_areTold_34 (lv_at hl 5 rfl) ?_
            refine lv_icmp_ge (tgt := 117) hx hb dX8_areTold_36 (by decide) (fun c_36 => ?_) (fun c_36 => ?_)
            · have hw := hw.1 c_36
              exact EX_32 _ _ ls (lv_sub hl [0, 1, 2, 3, 4, 5, 6] rfl) hw
            · have hw := hw.2 c_36
              refine lv_aload_n hx hb dX8_areTold_39 rfl (lv_at hl 0 rfl) ?_
              refine lv_iload hx hb dX8_areTold_40 (lv_at hl 5 rfl) ?_
              refine xcVi (q0 := 0) (ci := 8) (As := [.int x5_17]) (rest := []) (wc := [(a_this, .inr (8, [.int pay, .ref a_weathers, .ref a_hours, .ref a_fear, .int days, .ref a_dayWeather, .ref a_dayHour, .ref a_dayDanger, .ref a_now, .int seed, .ref a_text, .int texted, .int faultPlace, .int at0, .int number, .int numberAt, .ref a_readPay, .int readPersons, .ref a_readMarks, .ref a_readWeathers, .ref a_readHours, .ref a_readFear, .int readDays, .ref a_readWeather, .ref a_readHour, .ref a_readDanger, .int undos, .ref a_past, .ref a_morning, .ref a_sent, .int watched, .ref a_watchedDay, .ref a_watchedOut, .int booked, .ref a_bookWho, .ref a_bookMarks, .ref a_images, .ref a_isKept])), (a_now, .inl (cI, 13, .inl now))]) ⟨hx, hb, hml, hown, hts⟩ (c_X8_lives l D cI cZ cO hw) (cwV 1 hts gX8_areTold_X8_lives rfl rfl rfl (by decide +kernel) ⟨Nat.le_of_ble_eq_true rfl, Nat.le_of_ble_eq_true rfl⟩) hKK hP [0, 1] rfl rfl rfl rfl hl.1 rfl (Nat.le_of_ble_eq_true rfl) dX8_areTold_42 ⟨Nat.zero_le _, Nat.zero_le _⟩ (fun r_42 hw => ?_)
              refine lv_if_eq (tgt := 72) hx hb dX8_areTold_45 (by decide) (fun c_45 => ?_) (fun c_45 => ?_)
              · have hw := hw.1 c_45
                exact JN_72 ls (lv_sub hl [0, 1, 2, 3, 4, 5, 6] rfl) hw
              · have hw := hw.2 c_45
                refine lv_aload_n hx hb dX8_areTold_48 rfl (lv_at hl 0 rfl) ?_
                refine lv_iload hx hb dX8_areTold_49 (lv_at hl 6 rfl) ?_
                refine xcVi (q0 := 0) (ci := 8) (As := [.int x6_32]) (rest := []) (wc := [(a_this, .inr (8, [.int pay, .ref a_weathers, .ref a_hours, .ref a_fear, .int days, .ref a_dayWeather, .ref a_dayHour, .ref a_dayDanger, .ref a_now, .int seed, .ref a_text, .int texted, .int faultPlace, .int at0, .int number, .int numberAt, .ref a_readPay, .int readPersons, .ref a_readMarks, .ref a_readWeathers, .ref a_readHours, .ref a_readFear, .int readDays, .ref a_readWeather, .ref a_readHour, .ref a_readDanger, .int undos, .ref a_past, .ref a_morning, .ref a_sent, .int watched, .ref a_watchedDay, .ref a_watchedOut, .int booked, .ref a_bookWho, .ref a_bookMarks, .ref a_images, .ref a_isKept])), (a_now, .inl (cI, 13, .inl now))]) ⟨hx, hb, hml, hown, hts⟩ (c_X8_lives l D cI cZ cO hw) (cwV 1 hts gX8_areTold_X8_lives rfl rfl rfl (by decide +kernel) ⟨Nat.le_of_ble_eq_true rfl, Nat.le_of_ble_eq_true rfl⟩) hKK hP [0, 1] rfl rfl rfl rfl hl.1 rfl (Nat.le_of_ble_eq_true rfl) dX8_areTold_51 ⟨Nat.zero_le _, Nat.zero_le _⟩ (fun r_51 hw => ?_)
                refine lv_if_eq (tgt := 72) hx hb dX8_areTold_54 (by decide) (fun c_54 => ?_) (fun c_54 => ?_)
                · have hw := hw.1 c_54
                  exact JN_72 ls (lv_sub hl [0, 1, 2, 3, 4, 5, 6] rfl) hw
                · have hw := hw.2 c_54
                  refine lv_iload_n hx hb dX8_areTold_57 rfl (lv_at hl 2 rfl) ?_
                  refine lv_if_ne (tgt := 68) hx hb dX8_areTold_58 (by decide) (fun c_58 => ?_) (fun c_58 => ?_)
                  · have hw := hw.2 c_58
                    exact JN_68 ls (lv_sub hl [0, 1, 2, 3, 4, 5, 6] rfl) hw
                  · have hw := hw.1 c_58
                    refine lv_iload hx hb dX8_areTold_61 (lv_at hl 6 rfl) ?_
                    refine lv_iload hx hb dX8_areTold_63 (lv_at hl 4 rfl) ?_
                    refine lv_icmp_ne (tgt := 72) hx hb dX8_areTold_65 (by decide) (fun c_65 => ?_) (fun c_65 => ?_)
                    · have hw := hw.2 c_65
                      exact JN_72 ls (lv_sub hl [0, 1, 2, 3, 4, 5, 6] rfl) hw
                    · have hw := hw.1 c_65
                      exact JN_68 ls (lv_sub hl [0, 1, 2, 3, 4, 5, 6] rfl) hw
        obtain ⟨n, hw⟩ := hw
        exact LP_32 n _ _ ls (lv_sub hl [1, 2, 3, 4, 5, 6, 0] rfl) hw
  obtain ⟨n, hw⟩ := hw
  exact LP_17 n _ _ ls (lv_sub hl [3, 4, 5, 2, 1, 0] rfl) hw
