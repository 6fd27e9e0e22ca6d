/-! the pure side, 15: each kind of clause -/
def kBad (n : Nat) (CW : Int32 → CPhi → Prop) (RW : Int32 → Int32 → Int32 → RPhi → Prop) : Prop := ∃ f w : Nat, 1 ≤ f ∧ f ≤ 3 ∧ w ≤ n ∧ (∀ (fa : Int32) (Φ : CPhi), (∀ (e : Nat) pay mk iw ih fe P we ho da D, e ≤ n → Φ (nI e) (nI f) (nI w) pay mk iw ih fe P we ho da D) → CW fa Φ) ∧ ∀ (fa nu na : Int32) (Φ : RPhi), (∀ at' D na' nu' a b c P d e g h i, Φ (nI f) at' (nI w) D na' nu' a b c P d e g h i) → RW fa nu na Φ
def kOk (n p : Nat) (CW : Int32 → CPhi → Prop) (RW : Int32 → Int32 → Int32 → RPhi → Prop) : Prop := ∃ (e P D : Nat) (pay : Int32) (mk iw ih fe we ho da rpay rm rw rh rf rwe rho rda : Nat → Int32), p < e ∧ e ≤ n ∧ cI pay P D mk iw ih fe we ho da rpay rm rw rh rf rwe rho rda ∧ (∀ (fa : Int32) (Φ : CPhi), Φ (nI e) 0 fa pay mk iw ih fe (nI P) we ho da (nI D) → CW fa Φ) ∧ ∀ (fa nu na : Int32) (Φ : RPhi), (∀ na' nu', Φ 0 (nI e) fa (nI D) na' nu' rwe rho rda (nI P) rm rw rh rf rpay) → RW fa nu na Φ
theorem k_clause {n p P D : Nat} {t x mk iw ih fe we ho da rpay rm rw rh rf rwe rho rda : Nat → Int32} {pay : Int32} (hn : n ≤ 240) (he : ∀ k, k < n → x k = t k ∧ 0 ≤ (t k).toInt) (hp : p < n) (hb : ¬ t p = 32) (hI : cI pay P D mk iw ih fe we ho da rpay rm rw rh rf rwe rho rda) : kOk n p (fun fa Φ => wp_X5_readClause (nI n) (nI p) 0 fa t pay (nI P) (nI D) mk iw ih fe we ho da Φ) (fun fa nu na Φ => wp_X8_takeClause (nI n) fa (nI p) nu na (nI P) (nI D) x rwe rho rda rm rw rh rf rpay Φ) ∨ kBad n (fun fa Φ => wp_X5_readClause (nI n) (nI p) 0 fa t pay (nI P) (nI D) mk iw ih fe we ho da Φ) (fun fa nu na Φ => wp_X8_takeClause (nI n) fa (nI p) nu na (nI P) (nI D) x rwe rho rda rm rw rh rf rpay Φ) := by
  have hI0 := hI
  obtain ⟨hpay, h0, hP, hD, hR1, hR2, hR3⟩ := hI
  by_cases hw : wfN pay P D (t p) = 0
  · have cls : ∀ {fa : Int32} {Φ : CPhi}, ((t p = 107 → (wp_X5_readKing (nI n) (nI (p + 1)) 0 fa t pay (fun a b c d => (Φ a b c d mk iw ih fe (nI P) we ho da (nI D))))) ∧ (¬ t p = 107 → ((t p = 112 → (wp_X5_readPerson (nI n) (nI (p + 1)) 0 fa t (nI P) mk iw ih fe (fun a b c d e f g h => (Φ a b c pay d e f g h we ho da (nI D))))) ∧ (¬ t p = 112 → (wp_X5_readDay (nI n) (nI (p + 1)) 0 fa t (nI D) we ho da (fun a b c d e f g => (Φ a b c pay mk iw ih fe (nI P) d e f g))))))) → wp_X5_readClause (nI n) (nI p) 0 fa t pay (nI P) (nI D) mk iw ih fe we ho da Φ := by
      intro fa Φ h
      unfold wp_X5_readClause
      refine w_at (by omega) (by omega) (w_word h0 hP hD ?_)
      rw [hw, ← nI_succ]
      exact pos_br rfl h
    by_cases w1 : t p = 107
    · have vi0 : vp_in 0 1 := vp_in_nI (show 0 < 1 by omega) (by omega)
      have ref : ∀ {fa nu na : Int32} {Φ : RPhi}, (∀ x1, wp_X8_into (nI n) fa (nI (p + 1)) nu na x rpay 1 0 1 999 (fun r_160 at0_160 numberAt_160 number_160 faultPlace_160 readPay_160 => (wj_X8_takeClause_182 (nI n) x Φ x1 0 0 rda rf rho rh rm readPay_160 rwe rw faultPlace_160 at0_160 number_160 numberAt_160 (nI P) (nI D) r_160))) → wp_X8_takeClause (nI n) fa (nI p) nu na (nI P) (nI D) x rwe rho rda rm rw rh rf rpay Φ := by
        intro fa nu na Φ h
        refine r_word hn he hp hb h0 hpay hP hD (fun q => absurd hw q) (fun _ x1 x2 e1 _ _ => ?_)
        unfold wj_X8_takeClause_121
        rw [e1 w1, ← nI_succ]
        exact pos_br rfl (pos_br rfl (h x1))
      rcases k_numc (lo := 1) (hi := 999) hn he (show p + 1 ≤ n by omega) (by omega) (by omega) with ⟨e0, b0, g0, l0, m0, o0, nc0, nr0⟩ | ⟨f, w, f1, f2, hwn, nc0, nr0⟩
      · rcases k_end hn he l0 with ⟨q, q1, q2, ec, er⟩ | ⟨q, q2, ec, er⟩
        · refine Or.inl ⟨q + 1, P, D, nI b0, mk, iw, ih, fe, we, ho, da, upd rpay 0 (nI b0), rm, rw, rh, rf, rwe, rho, rda, by omega, by omega, ⟨pk_us, by rw [nI_toInt (by omega)]; omega, hP, hD, hR1, hR2, hR3⟩, fun fa Φ h => cls (pos_br w1 (nc0 _ _ (ec _ _ (pos_br rfl (?_))))), fun fa nu na Φ h => ref (fun x1 => nr0 _ _ _ _ (fun na' => ⟨vi0, pos_br rfl (er _ (pos_br rfl (?_)))⟩))⟩
          · exact h
          · rw [← nI_succ]
            exact h _ _
        · exact Or.inr ⟨1, q, by omega, by omega, q2, fun fa Φ h => cls (pos_br w1 (nc0 _ _ (ec _ _ (neg_br (by decide) (h _ _ _ _ _ _ _ _ _ _ _ q2))))), fun fa nu na Φ h => ref (fun x1 => nr0 _ _ _ _ (fun na' => ⟨vi0, pos_br rfl (er _ (fun r hr => neg_br hr (h _ _ _ _ _ _ _ _ _ _ _ _ _)))⟩))⟩
      · exact Or.inr ⟨f, w, f1, by omega, hwn, fun fa Φ h => cls (pos_br w1 (nc0 _ _ (fun v e he2 => x_re f1 (by omega) (neg_br (nf0 f1 (by omega)) (h _ _ _ _ _ _ _ _ _ _ _ he2))))), fun fa nu na Φ h => ref (fun x1 => nr0 _ _ _ _ (fun at' na' nu' => ⟨vi0, r_endB f1 (by omega) (fun at2 => h _ _ _ _ _ _ _ _ _ _ _ _ _)⟩))⟩
    · by_cases w2 : t p = 112
      · have hz : ¬ pay = 0 := fun q => by unfold wfN at hw; rw [if_pos q, if_neg w1] at hw; cases hw
        have hP8 : P < 8 := by
          unfold wfN at hw
          rw [if_neg hz, if_neg (by rw [w2]; decide), if_neg w1, if_pos w2] at hw
          by_cases h8 : 8 ≤ P
          · rw [if_pos h8] at hw; cases hw
          · omega
        have ref : ∀ {fa nu na : Int32} {Φ : RPhi}, (∀ x1, wp_X8_takePerson (nI n) fa (nI (p + 1)) nu na (nI P) x rm rw rh rf (fun r_172 readPersons_172 at0_172 numberAt_172 number_172 faultPlace_172 readMarks_172 readWeathers_172 readHours_172 readFear_172 => (wj_X8_takeClause_182 (nI n) x Φ x1 1 0 rda readFear_172 rho readHours_172 readMarks_172 rpay rwe readWeathers_172 faultPlace_172 at0_172 number_172 numberAt_172 readPersons_172 (nI D) r_172))) → wp_X8_takeClause (nI n) fa (nI p) nu na (nI P) (nI D) x rwe rho rda rm rw rh rf rpay Φ := by
          intro fa nu na Φ h
          refine r_word hn he hp hb h0 hpay hP hD (fun q => absurd hw q) (fun _ x1 x2 _ e1 _ => ?_)
          unfold wj_X8_takeClause_121
          rw [e1 w2, ← nI_succ]
          exact pos_br rfl (neg_br (by decide) (pos_br rfl (h x1)))
        have vi : vp_in (nI P) 8 := vp_in_nI hP8 (by omega)
        rcases k_numc (lo := 0) (hi := 255) hn he (show p + 1 ≤ n by omega) (by omega) (by omega) with ⟨e0, b0, g0, l0, m0, o0, nc0, nr0⟩ | ⟨f, w, f1, f2, hwn, nc0, nr0⟩
        · rcases k_numc (lo := 0) (hi := 7) hn he l0 (by omega) (by omega) with ⟨e1, b1, g1, l1, m1, o1, nc1, nr1⟩ | ⟨f, w, f1, f2, hwn, nc1, nr1⟩
          · rcases k_numc (lo := 0) (hi := 15) hn he l1 (by omega) (by omega) with ⟨e2, b2, g2, l2, m2, o2, nc2, nr2⟩ | ⟨f, w, f1, f2, hwn, nc2, nr2⟩
            · rcases k_numc (lo := 0) (hi := 9) hn he l2 (by omega) (by omega) with ⟨e3, b3, g3, l3, m3, o3, nc3, nr3⟩ | ⟨f, w, f1, f2, hwn, nc3, nr3⟩
              · rcases k_end hn he l3 with ⟨q, q1, q2, ec, er⟩ | ⟨q, q2, ec, er⟩
                · refine Or.inl ⟨q + 1, P + 1, D, pay, upd mk P (nI b0), upd iw P (nI b1), upd ih P (nI b2), upd fe P (nI b3), we, ho, da, rpay, upd rm P (nI b0), upd rw P (nI b1), upd rh P (nI b2), upd rf P (nI b3), rwe, rho, rda, by omega, by omega, ⟨hpay, h0, by omega, hD, fun j hj => ?_, fun j h1 h2 => ?_, hR3⟩, fun fa Φ h => cls (neg_br w1 (pos_br w2 (nc0 _ _ (nc1 _ _ (nc2 _ _ (nc3 _ _ (ec _ _ (pos_br rfl (w_put hP8 (by omega) (w_put hP8 (by omega) (w_put hP8 (by omega) (w_put hP8 (by omega) (?_))))))))))))), fun fa nu na Φ h => ref (fun x1 => by unfold wp_X8_takePerson; exact (nr0 _ _ _ _ (fun na' => ⟨vi, pos_br (by decide) (nr1 _ _ _ _ (fun na' => ⟨vi, pos_br (by decide) (nr2 _ _ _ _ (fun na' => ⟨vi, pos_br (by decide) (nr3 _ _ _ _ (fun na' => ⟨vi, pos_br rfl (er _ (pos_br rfl (by rw [← nI_succ, ← nI_succ, nI_clamp (by omega)]; exact h _ _)))⟩))⟩))⟩))⟩)))⟩
                  · by_cases hjP : j = P
                    · subst hjP
                      simp only [pk_us, and_self, true_and]
                      exact ⟨sml_nI (n := b0) (by omega), trivial⟩
                    · simp only [pk_un hjP]; exact hR1 j (by omega)
                  · rw [pk_un (show j ≠ P by omega), pk_un (show j ≠ P by omega), pk_un (show j ≠ P by omega)]; exact hR2 j (by omega) h2
                  · rw [← nI_succ]; exact h
                · exact Or.inr ⟨1, q, by omega, by omega, q2, fun fa Φ h => cls (neg_br w1 (pos_br w2 (nc0 _ _ (nc1 _ _ (nc2 _ _ (nc3 _ _ (ec _ _ (neg_br (by decide) (h _ _ _ _ _ _ _ _ _ _ _ q2))))))))), fun fa nu na Φ h => ref (fun x1 => by unfold wp_X8_takePerson; exact (nr0 _ _ _ _ (fun na' => ⟨vi, pos_br (by decide) (nr1 _ _ _ _ (fun na' => ⟨vi, pos_br (by decide) (nr2 _ _ _ _ (fun na' => ⟨vi, pos_br (by decide) (nr3 _ _ _ _ (fun na' => ⟨vi, pos_br rfl (er _ (fun r hr => neg_br hr (h _ _ _ _ _ _ _ _ _ _ _ _ _)))⟩))⟩))⟩))⟩)))⟩
              · exact Or.inr ⟨f, w, f1, by omega, hwn, fun fa Φ h => cls (neg_br w1 (pos_br w2 (nc0 _ _ (nc1 _ _ (nc2 _ _ (nc3 _ _ (fun v e he2 => x_re f1 (by omega) (neg_br (nf0 f1 (by omega)) (h _ _ _ _ _ _ _ _ _ _ _ he2))))))))), fun fa nu na Φ h => ref (fun x1 => by unfold wp_X8_takePerson; exact (nr0 _ _ _ _ (fun na' => ⟨vi, pos_br (by decide) (nr1 _ _ _ _ (fun na' => ⟨vi, pos_br (by decide) (nr2 _ _ _ _ (fun na' => ⟨vi, pos_br (by decide) (nr3 _ _ _ _ (fun at' na' nu' => ⟨vi, r_endB f1 (by omega) (fun at2 => h _ _ _ _ _ _ _ _ _ _ _ _ _)⟩))⟩))⟩))⟩)))⟩
            · exact Or.inr ⟨f, w, f1, by omega, hwn, fun fa Φ h => cls (neg_br w1 (pos_br w2 (nc0 _ _ (nc1 _ _ (nc2 _ _ (fun v e he2 => x_rn f1 (by omega) (x_re f1 (by omega) (neg_br (nf0 f1 (by omega)) (h _ _ _ _ _ _ _ _ _ _ _ he2))))))))), fun fa nu na Φ h => ref (fun x1 => by unfold wp_X8_takePerson; exact (nr0 _ _ _ _ (fun na' => ⟨vi, pos_br (by decide) (nr1 _ _ _ _ (fun na' => ⟨vi, pos_br (by decide) (nr2 _ _ _ _ (fun at' na' nu' => ⟨vi, neg_br (nfle f1 (by omega)) (r_endB f1 (by omega) (fun at2 => h _ _ _ _ _ _ _ _ _ _ _ _ _))⟩))⟩))⟩)))⟩
          · exact Or.inr ⟨f, w, f1, by omega, hwn, fun fa Φ h => cls (neg_br w1 (pos_br w2 (nc0 _ _ (nc1 _ _ (fun v e he2 => x_rn f1 (by omega) (x_rn f1 (by omega) (x_re f1 (by omega) (neg_br (nf0 f1 (by omega)) (h _ _ _ _ _ _ _ _ _ _ _ he2))))))))), fun fa nu na Φ h => ref (fun x1 => by unfold wp_X8_takePerson; exact (nr0 _ _ _ _ (fun na' => ⟨vi, pos_br (by decide) (nr1 _ _ _ _ (fun at' na' nu' => ⟨vi, neg_br (nfle f1 (by omega)) (neg_br (nfle f1 (by omega)) (r_endB f1 (by omega) (fun at2 => h _ _ _ _ _ _ _ _ _ _ _ _ _)))⟩))⟩)))⟩
        · exact Or.inr ⟨f, w, f1, by omega, hwn, fun fa Φ h => cls (neg_br w1 (pos_br w2 (nc0 _ _ (fun v e he2 => x_rn f1 (by omega) (x_rn f1 (by omega) (x_rn f1 (by omega) (x_re f1 (by omega) (neg_br (nf0 f1 (by omega)) (h _ _ _ _ _ _ _ _ _ _ _ he2))))))))), fun fa nu na Φ h => ref (fun x1 => by unfold wp_X8_takePerson; exact (nr0 _ _ _ _ (fun at' na' nu' => ⟨vi, neg_br (nfle f1 (by omega)) (neg_br (nfle f1 (by omega)) (neg_br (nfle f1 (by omega)) (r_endB f1 (by omega) (fun at2 => h _ _ _ _ _ _ _ _ _ _ _ _ _))))⟩)))⟩
      · have hz : ¬ pay = 0 := fun q => by unfold wfN at hw; rw [if_pos q, if_neg w1] at hw; cases hw
        have w3 : t p = 100 := by
          refine Classical.byContradiction fun q => ?_
          unfold wfN at hw
          rw [if_neg hz, if_neg q, if_neg w1, if_neg w2] at hw; cases hw
        have hD10 : D < 10 := by
          unfold wfN at hw
          rw [if_neg hz, if_pos w3] at hw
          by_cases h8 : 10 ≤ D
          · rw [if_pos h8] at hw; cases hw
          · omega
        have ref : ∀ {fa nu na : Int32} {Φ : RPhi}, (∀ x1, wp_X8_takeDay (nI n) fa (nI (p + 1)) nu na (nI D) x rwe rho rda (fun r_179 readDays_179 at0_179 numberAt_179 number_179 faultPlace_179 readWeather_179 readHour_179 readDanger_179 => (wj_X8_takeClause_182 (nI n) x Φ x1 2 0 readDanger_179 rf readHour_179 rh rm rpay readWeather_179 rw faultPlace_179 at0_179 number_179 numberAt_179 (nI P) readDays_179 r_179))) → wp_X8_takeClause (nI n) fa (nI p) nu na (nI P) (nI D) x rwe rho rda rm rw rh rf rpay Φ := by
          intro fa nu na Φ h
          refine r_word hn he hp hb h0 hpay hP hD (fun q => absurd hw q) (fun _ x1 x2 _ _ e1 => ?_)
          unfold wj_X8_takeClause_121
          rw [e1 w3, ← nI_succ]
          exact pos_br rfl (neg_br (by decide) (neg_br (by decide) (h x1)))
        have vi : vp_in (nI D) 10 := vp_in_nI hD10 (by omega)
        rcases k_numc (lo := 0) (hi := 2) hn he (show p + 1 ≤ n by omega) (by omega) (by omega) with ⟨e0, b0, g0, l0, m0, o0, nc0, nr0⟩ | ⟨f, w, f1, f2, hwn, nc0, nr0⟩
        · rcases k_numc (lo := 0) (hi := 3) hn he l0 (by omega) (by omega) with ⟨e1, b1, g1, l1, m1, o1, nc1, nr1⟩ | ⟨f, w, f1, f2, hwn, nc1, nr1⟩
          · rcases k_numc (lo := 0) (hi := 9) hn he l1 (by omega) (by omega) with ⟨e2, b2, g2, l2, m2, o2, nc2, nr2⟩ | ⟨f, w, f1, f2, hwn, nc2, nr2⟩
            · rcases k_end hn he l2 with ⟨q, q1, q2, ec, er⟩ | ⟨q, q2, ec, er⟩
              · refine Or.inl ⟨q + 1, P, D + 1, pay, mk, iw, ih, fe, upd we D (nI b0), upd ho D (nI b1), upd da D (nI b2), rpay, rm, rw, rh, rf, upd rwe D (nI b0), upd rho D (nI b1), upd rda D (nI b2), by omega, by omega, ⟨hpay, h0, hP, by omega, hR1, hR2, fun j hj => ?_⟩, fun fa Φ h => cls (neg_br w1 (neg_br w2 (nc0 _ _ (nc1 _ _ (nc2 _ _ (ec _ _ (pos_br rfl (w_put hD10 (by omega) (w_put hD10 (by omega) (w_put hD10 (by omega) (?_))))))))))), fun fa nu na Φ h => ref (fun x1 => by unfold wp_X8_takeDay; exact (nr0 _ _ _ _ (fun na' => ⟨vi, pos_br (by decide) (nr1 _ _ _ _ (fun na' => ⟨vi, pos_br (by decide) (nr2 _ _ _ _ (fun na' => ⟨vi, pos_br rfl (er _ (pos_br rfl (by rw [← nI_succ, ← nI_succ, nI_clamp (by omega)]; exact h _ _)))⟩))⟩))⟩)))⟩
                · by_cases hjP : j = D
                  · subst hjP
                    simp only [pk_us, and_self]
                  · simp only [pk_un hjP]; exact hR3 j (by omega)
                · rw [← nI_succ]; exact h
              · exact Or.inr ⟨1, q, by omega, by omega, q2, fun fa Φ h => cls (neg_br w1 (neg_br w2 (nc0 _ _ (nc1 _ _ (nc2 _ _ (ec _ _ (neg_br (by decide) (h _ _ _ _ _ _ _ _ _ _ _ q2)))))))), fun fa nu na Φ h => ref (fun x1 => by unfold wp_X8_takeDay; exact (nr0 _ _ _ _ (fun na' => ⟨vi, pos_br (by decide) (nr1 _ _ _ _ (fun na' => ⟨vi, pos_br (by decide) (nr2 _ _ _ _ (fun na' => ⟨vi, pos_br rfl (er _ (fun r hr => neg_br hr (h _ _ _ _ _ _ _ _ _ _ _ _ _)))⟩))⟩))⟩)))⟩
            · exact Or.inr ⟨f, w, f1, by omega, hwn, fun fa Φ h => cls (neg_br w1 (neg_br w2 (nc0 _ _ (nc1 _ _ (nc2 _ _ (fun v e he2 => x_re f1 (by omega) (neg_br (nf0 f1 (by omega)) (h _ _ _ _ _ _ _ _ _ _ _ he2)))))))), fun fa nu na Φ h => ref (fun x1 => by unfold wp_X8_takeDay; exact (nr0 _ _ _ _ (fun na' => ⟨vi, pos_br (by decide) (nr1 _ _ _ _ (fun na' => ⟨vi, pos_br (by decide) (nr2 _ _ _ _ (fun at' na' nu' => ⟨vi, r_endB f1 (by omega) (fun at2 => h _ _ _ _ _ _ _ _ _ _ _ _ _)⟩))⟩))⟩)))⟩
          · exact Or.inr ⟨f, w, f1, by omega, hwn, fun fa Φ h => cls (neg_br w1 (neg_br w2 (nc0 _ _ (nc1 _ _ (fun v e he2 => x_rn f1 (by omega) (x_re f1 (by omega) (neg_br (nf0 f1 (by omega)) (h _ _ _ _ _ _ _ _ _ _ _ he2)))))))), fun fa nu na Φ h => ref (fun x1 => by unfold wp_X8_takeDay; exact (nr0 _ _ _ _ (fun na' => ⟨vi, pos_br (by decide) (nr1 _ _ _ _ (fun at' na' nu' => ⟨vi, neg_br (nfle f1 (by omega)) (r_endB f1 (by omega) (fun at2 => h _ _ _ _ _ _ _ _ _ _ _ _ _))⟩))⟩)))⟩
        · exact Or.inr ⟨f, w, f1, by omega, hwn, fun fa Φ h => cls (neg_br w1 (neg_br w2 (nc0 _ _ (fun v e he2 => x_rn f1 (by omega) (x_rn f1 (by omega) (x_re f1 (by omega) (neg_br (nf0 f1 (by omega)) (h _ _ _ _ _ _ _ _ _ _ _ he2)))))))), fun fa nu na Φ h => ref (fun x1 => by unfold wp_X8_takeDay; exact (nr0 _ _ _ _ (fun at' na' nu' => ⟨vi, neg_br (nfle f1 (by omega)) (neg_br (nfle f1 (by omega)) (r_endB f1 (by omega) (fun at2 => h _ _ _ _ _ _ _ _ _ _ _ _ _)))⟩)))⟩
  · have hw3 : wfN pay P D (t p) ≤ 3 := by unfold wfN; repeat (first | omega | split)
    refine Or.inr ⟨wfN pay P D (t p), p, by omega, hw3, by omega, fun fa Φ h => ?_, fun fa nu na Φ h => ?_⟩
    · show wp_X5_readClause (nI n) (nI p) 0 fa t pay (nI P) (nI D) mk iw ih fe we ho da Φ
      unfold wp_X5_readClause
      refine w_at (by omega) (by omega) (w_word h0 hP hD (neg_br (nf0 (by omega) hw3) ?_))
      exact h p _ _ _ _ _ _ _ _ _ _ (by omega)
    · exact r_word hn he hp hb h0 hpay hP hD (fun _ => h _ _ _ _ _ _ _ _ _ _ _ _ _) (fun q => absurd q hw)
