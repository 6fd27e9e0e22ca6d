/-! Past: the ring of chains -/
def x_ra (ra : Nat → Nat) : Nat → Value := fun k => if k < 20 then .ref (ra k) else .null
def wp_X4_ringAt (p1 : Int32) (Φ : Nat → Prop) : Prop := (p1 < 0 → Φ 20) ∧ (¬ p1 < 0 → (20 ≤ p1 → Φ 20) ∧ (¬ 20 ≤ p1 → vp_in p1 20 ∧ Φ p1.toNatClampNeg))
abbrev xrm_X4_ringAt : Room := { frames := 0, cells := 0, slots := 0, locals := 0 }
set_option maxRecDepth 100000 in
set_option maxHeartbeats 4000000 in
theorem c_X4_ringAt (l : Launch) (D : va_G) (cI cZ cO : ClassId) {a_this a_ring : Nat} {ra : Nat → Nat} {next count p1 : Int32} {Φ : Nat → Prop} (hw : wp_X4_ringAt p1 Φ) : Met l yX4_ringAt wsX4_ringAt xrm_X4_ringAt (xPR D cI cZ cO [.ref a_this, .int p1] [(a_this, .inr (4, [.ref a_ring, .int next, .int count])), (a_ring, .inl (cO, 20, .inr (.inr (.inr (.inr (fun k => some (ra k)))))))]) (va_Sr (fun k => k ≤ 20 ∧ Φ k) (x_ra ra)) 0 0 (fun _ => False) := by
  refine Met.ofW (cc := cX4_ringAt) (maxL := 2) (ret := (some (.object "DoubleChain$Chain"))) (by decide) rfl ?_
  intro p e s m args below meth c s₁ B hml hv
  obtain ⟨rfl, hP, hKK⟩ := hv
  have hx := B.exec
  have hb := B.bytes
  have hr := B.returns
  have hts := atoms_spec (ws := wsX4_ringAt) B.pre
  have hown : s.vm.findClass RX4 = some m.cls := findClass_of_methodNamed B.named
  have hlocks := B.notSynchronized
  obtain ⟨Q, hQ⟩ : ∃ Q, Q = MQ below (va_Sr (fun k => k ≤ 20 ∧ Φ k) (x_ra ra)) ([.ref a_this, .int p1] : List Value).toArray s 0 0 (fun _ => False) := ⟨_, rfl⟩
  rw [← hQ]
  have hl := lv_entry ([.ref a_this, .int p1]) (n := 2) (Nat.le_of_ble_eq_true rfl)
  rw [lg_entry_eq]
  generalize (lg_sl ([.ref a_this, .int p1]) ++ List.replicate (2 - (lg_sl ([.ref a_this, .int p1])).length) Slot.unset).toArray = ls at hl ⊢
  have hl : lv_has ls 2 [(0, .ref a_this), (1, .int p1)] := hl
  generalize ([.ref a_this, .int p1] : List Value).toArray = args at hts hQ ⊢
  have hP : va_P D vwCl [(a_this, .inr (4, [.ref a_ring, .int next, .int count])), (a_ring, .inl (cO, 20, .inr (.inr (.inr (.inr (fun k => some (ra k)))))))] s.heap := hP
  have hinX4 : ∀ w ∈ u_ws RX4 TX4 3, w ∈ wsX4_ringAt := by decide +kernel
  have fl_11 := hts (.fieldLink RX4 11 "DoubleChain$Past" "ring" "[LDoubleChain$Chain;") (by decide +kernel)
  clear B
  show W p l e xrm_X4_ringAt s m args below meth c s.heap [] 0 0 Q (F0 m 0 ls [])
  unfold wp_X4_ringAt at hw
  refine lv_iload_n hx hb dX4_ringAt_0 rfl (lv_at hl 1 rfl) ?_
  refine lv_if_lt (tgt := 22) hx hb dX4_ringAt_1 (by decide) (fun c_1 => ?_) (fun c_1 => ?_)
  · have hw := hw.1 c_1
    refine lv_null hx hb dX4_ringAt_22 ?_
    rw [hQ]
    exact W.aret (v := .null) hx hb hr (Or.inl ⟨_, rfl⟩) (Or.inl rfl) (fun t ht _ => ⟨20, rfl, ⟨Nat.le_refl _, hw⟩, ht⟩) (fun _ h => (List.not_mem_nil h).elim) dX4_ringAt_23
  · have hw := hw.2 c_1
    refine lv_iload_n hx hb dX4_ringAt_4 rfl (lv_at hl 1 rfl) ?_
    refine lv_aload_n hx hb dX4_ringAt_5 rfl (lv_at hl 0 rfl) ?_
    refine va_get (D := D) (ci := 4) (v := .ref a_ring) (C := RX4) (T := TX4) (N := 3) hx hb hts hinX4 hown hKK.1 hP 0 rfl rfl 0 (by decide) fl_11 (fun _ h9 => h9) rfl dX4_ringAt_6 ?_
    refine va_alen (v := 20) hx hb hKK.1 hP 1 2 rfl rfl rfl dX4_ringAt_9 ?_
    refine lv_icmp_ge (tgt := 22) hx hb dX4_ringAt_10 (by decide) (fun c_10 => ?_) (fun c_10 => ?_)
    · have hw := hw.1 c_10
      refine lv_null hx hb dX4_ringAt_22 ?_
      rw [hQ]
      exact W.aret (v := .null) hx hb hr (Or.inl ⟨_, rfl⟩) (Or.inl rfl) (fun t ht _ => ⟨20, rfl, ⟨Nat.le_refl _, hw⟩, ht⟩) (fun _ h => (List.not_mem_nil h).elim) dX4_ringAt_23
    · obtain ⟨hin, hw⟩ := hw.2 c_10
      refine lv_aload_n hx hb dX4_ringAt_13 rfl (lv_at hl 0 rfl) ?_
      refine va_get (D := D) (ci := 4) (v := .ref a_ring) (C := RX4) (T := TX4) (N := 3) hx hb hts hinX4 hown hKK.1 hP 0 rfl rfl 0 (by decide) fl_11 (fun _ h9 => h9) rfl dX4_ringAt_14 ?_
      refine lv_iload_n hx hb dX4_ringAt_17 rfl (lv_at hl 1 rfl) ?_
      refine va_aldq hx hb hKK.1 hP 1 2 rfl rfl hin dX4_ringAt_18 ?_
      refine lv_goto (tgt := 23) hx hb dX4_ringAt_19 (by decide) ?_
      have hlt : p1.toNatClampNeg < 20 := Nat.not_le.mp fun q => hin (Or.inr q)
      rw [hQ]
      exact W.aret (v := .ref (ra p1.toNatClampNeg)) hx hb hr (Or.inl ⟨_, rfl⟩) (Or.inr ⟨_, rfl⟩) (fun t ht _ => ⟨p1.toNatClampNeg, by simp [x_ra, hlt], ⟨Nat.le_of_lt hlt, hw⟩, ht⟩) (fun _ h => (List.not_mem_nil h).elim) dX4_ringAt_23
theorem xpl_o {X : va_W} {cI : ClassId} {ra rm : Nat → Nat} {rk : Nat → Nat → Int32} {rp rl rs rn rd : Nat → Int32} {k : Nat} (hk : k < 20) : (X ++ xpl cI ra rm rk rp rl rs rn rd)[X.length + k]? = some (ra k, .inr (1, [.ref (rm k), .int (rp k), .int (rl k), .int (rs k), .int (rn k), .int (rd k)])) := by
  rw [List.getElem?_append_right (by omega), show X.length + k - X.length = k by omega, xpl, List.getElem?_append_left (by simp; omega)]
  simp [hk]
theorem xpl_m {X : va_W} {cI : ClassId} {ra rm : Nat → Nat} {rk : Nat → Nat → Int32} {rp rl rs rn rd : Nat → Int32} {k : Nat} (hk : k < 20) : (X ++ xpl cI ra rm rk rp rl rs rn rd)[X.length + 20 + k]? = some (rm k, .inl (cI, 8, .inl (rk k))) := by
  rw [List.getElem?_append_right (by omega), show X.length + 20 + k - X.length = 20 + k by omega, xpl, List.getElem?_append_right (by simp), List.length_map, List.length_range, show 20 + k - 20 = k by omega]
  simp [hk]
theorem xpl_adr {cI : ClassId} {ra rm : Nat → Nat} {rk rk2 : Nat → Nat → Int32} {rp rl rs rn rd rp2 rl2 rs2 rn2 rd2 : Nat → Int32} : (xpl cI ra rm rk rp rl rs rn rd).map Prod.fst = (xpl cI ra rm rk2 rp2 rl2 rs2 rn2 rd2).map Prod.fst := by
  simp [xpl, List.map_append, List.map_map, Function.comp_def]
section XR
variable {p : Program} {l : Launch} {e : Env} {R : Room} {s : State} {m : MethodId} {args : Array Value} {below : List Frame} {meth : Method} {c : Code} {H H0 : Heap} {locs : List Loc} {cells slots : Nat} {Q : State → Prop}
variable {cc : ByteArray} {pc : Nat} {ls : Array Slot} {rest st0 : List Value} {D : va_G} {cI cZ cO : ClassId} {A : Nat → Prop} {wsW wc : va_W} {b : Addr} {As : List Value}
variable {y : MethodName} {bytes : ByteArray} {maxL nL n index : Nat} {ret : Option FieldType} {ws Ts : List Cond} {rm : Room} {own C : String} {ci q0 : Nat} {q : vw_C} {fs : List Value}
theorem xcVrR {Φ : Nat → Prop} {ra : Nat → Nat} (S : CallFix p m c cc nL s args Ts own) (hM : Met l y ws rm (xPR D cI cZ cO (.ref b :: As) wc) (va_Sr (fun k => k ≤ 20 ∧ Φ k) (x_ra ra)) 0 0 (fun _ => False)) (cw : CallW R s args own q.1 index y bytes maxL ret ws rm 0 0 n) (hKK : xKK D cI cZ cO s) (hP : va_P D vwCl wsW H) (is : List Nat) (hC : is.filterMap (fun i => wsW[i]?) = wc) (hc : vwCl[ci]? = some q) (he : wsW[q0]? = some (b, .inr (ci, fs)))
    (hn : As.length = n) (hsz : ls.size = nL) (hst : st0 = As.reverse ++ .ref b :: rest) (hW8 : (rest.map fun v => v.category).sum ≤ 8) (hdg : decode cc pc = .ok (.invokevirtual index, 3)) (hcl : cells ≤ R.cells ∧ slots ≤ R.slots)
    (k0 : ∀ k, k < 20 → Φ k → W p l e R s m args below meth c H locs cells slots Q (F0 m (pc + 3) ls (.ref (ra k) :: rest))) (k1 : Φ 20 → W p l e R s m args below meth c H locs cells slots Q (F0 m (pc + 3) ls (.null :: rest))) : W p l e R s m args below meth c H locs cells slots Q (F0 m pc ls st0) := by
  subst hst
  refine va_csr (va_runV (C := q.1) (As := As) (b := b) (rest := rest) S hM cw ⟨xPR.blind, va_recv hKK.1 hP hc he, fun U hU hWm => ⟨rfl, by rw [hU]; exact hP.sub is hC, hKK.warm hWm⟩⟩ rfl hn hsz rfl (lv_room hW8) hdg hcl).run (fun k hk => ?_)
  by_cases h : k < 20
  · have := k0 k h hk.2
    rw [show x_ra ra k = .ref (ra k) by simp [x_ra, h]]
    exact this
  · have hk20 : k = 20 := by omega
    subst hk20
    exact k1 hk.2
/-- a call of a method that writes: its cells at places that may be variables; behind it the world by what is in it -/
theorem xwVvM {T : Type} {Φ : T → Prop} {w1 : T → va_W} (wsN : T → va_W) (S : CallFix p m c cc nL s args Ts own) (hM : Met l y ws rm (xPW D cI cZ cO (.ref b :: As) H.size wc) (va_Qv Φ (xB D (va_A wc H.size) w1) (va_A wc H.size)) 0 0 (va_A wc H.size)) (cw : CallW R s args own q.1 index y bytes maxL ret ws rm 0 0 n) (hKK : xKK D cI cZ cO s) (hP : va_P D vwCl wsW H) (hD : va_D A wsW) (hS : va_S A H0 H locs) (hA : ∀ q, H0.size ≤ q → A q) (isC : List Nat) (hC : isC.map (fun i => wsW[i]?) = wc.map some) (hn0 : va_nd isC = true)
    (hN : ∀ u : T, ∀ q ∈ wsN u, q ∈ w1 u ∨ (q ∈ wsW ∧ ∀ r ∈ wc, r.1 ≠ q.1)) (hadr : ∀ u : T, (wsN u).map Prod.fst = wsW.map Prod.fst) (hc : vwCl[ci]? = some q) (he : wsW[q0]? = some (b, .inr (ci, fs)))
    (hn : As.length = n) (hsz : ls.size = nL) (hst : st0 = As.reverse ++ .ref b :: rest) (hW8 : (rest.map fun v => v.category).sum ≤ 8) (hdg : decode cc pc = .ok (.invokevirtual index, 3)) (hcl : cells ≤ R.cells ∧ slots ≤ R.slots)
    (kk : ∀ (u : T) (H1 : Heap) (locs1 : List Loc), Φ u → va_P D vwCl (wsN u) H1 → va_D A (wsN u) → va_S A H0 H1 locs1 → W p l e R s m args below meth c H1 locs1 cells slots Q (F0 m (pc + 3) ls rest)) : W p l e R s m args below meth c H locs cells slots Q (F0 m pc ls st0) := by
  subst hst
  have hFc := va_free hD hS hA isC hC
  have hPc := x_subP hP isC hC
  have hDc := hD.sub isC hn0 hC
  refine va_callv (va_runV (C := q.1) (As := As) (b := b) (rest := rest) S hM cw ⟨xPW.blind, va_recv hKK.1 hP hc he, fun U hU hWm => ⟨rfl, by rw [hU], by rw [hU]; exact hPc, hKK.warm hWm, hDc.weaken (fun _ _ _ _ => trivial)⟩⟩ rfl hn hsz rfl (lv_room hW8) hdg hcl) hS (fun q _ h => hFc q h) hFc (fun u t H1 locs1 ht hvm hw hB hz1 hk1 hS1 => ?_)
  obtain ⟨hP1, hD1⟩ := hB
  rw [ht] at hP1
  obtain ⟨g1, g2⟩ := x_joinM hP hD hk1 hP1 (hN u) (hadr u)
  exact kk u H1 locs1 hw g1 g2 hS1
end XR
def wp_X4_push (next count : Int32) (rk : Nat → Nat → Int32) (rp rl rs rn rd : Nat → Int32) (p1_people p1_living p1_shown p1_spent p1_days : Int32) (p1_marks : Nat → Int32) (Φ : Int32 → Int32 → (Nat → Nat → Int32) → (Nat → Int32) → (Nat → Int32) → (Nat → Int32) → (Nat → Int32) → (Nat → Int32) → Prop) : Prop :=
  wp_X4_ringAt next (fun k => (k = 20 → Φ next count rk rp rl rs rn rd) ∧ (k < 20 → wp_X1_become p1_people p1_living p1_shown p1_spent p1_days p1_marks (rk k) (fun marks people living shown spent days =>
    (20 ≤ next + 1 → Φ 0 (if (count + 1) < 20 then (count + 1) else 20) (va_up rk k marks) (va_up rp k people) (va_up rl k living) (va_up rs k shown) (va_up rn k spent) (va_up rd k days)) ∧ (¬ 20 ≤ next + 1 → Φ (next + 1) (if (count + 1) < 20 then (count + 1) else 20) (va_up rk k marks) (va_up rp k people) (va_up rl k living) (va_up rs k shown) (va_up rn k spent) (va_up rd k days)))))
abbrev xrm_X4_push : Room := { frames := 3, cells := 0, slots := 0, locals := 66 }
set_option maxRecDepth 100000 in
set_option maxHeartbeats 4000000 in
theorem c_X4_push (l : Launch) (D : va_G) (cI cZ cO : ClassId) {a_this a_ring a_p1 a_p1_marks : Nat} {ra rm : Nat → Nat} {next count : Int32} {p1_people p1_living p1_shown p1_spent p1_days : Int32} {p1_marks : Nat → Int32} {rk : Nat → Nat → Int32} {rp rl rs rn rd : Nat → Int32} {Φ : Int32 → Int32 → (Nat → Nat → Int32) → (Nat → Int32) → (Nat → Int32) → (Nat → Int32) → (Nat → Int32) → (Nat → Int32) → Prop} {sz : Nat} (hw : wp_X4_push next count rk rp rl rs rn rd p1_people p1_living p1_shown p1_spent p1_days p1_marks Φ) : Met l yX4_push wsX4_push xrm_X4_push (xPW D cI cZ cO [.ref a_this, .ref a_p1] sz ([(a_this, .inr (4, [.ref a_ring, .int next, .int count])), (a_ring, .inl (cO, 20, .inr (.inr (.inr (.inr (fun k => some (ra k))))))), (a_p1, .inr (1, [.ref a_p1_marks, .int p1_people, .int p1_living, .int p1_shown, .int p1_spent, .int p1_days])), (a_p1_marks, .inl (cI, 8, .inl p1_marks))] ++ xpl cI ra rm rk rp rl rs rn rd)) (va_Qv (fun (u : Int32 × Int32 × (Nat → Nat → Int32) × (Nat → Int32) × (Nat → Int32) × (Nat → Int32) × (Nat → Int32) × (Nat → Int32)) => Φ u.1 u.2.1 u.2.2.1 u.2.2.2.1 u.2.2.2.2.1 u.2.2.2.2.2.1 u.2.2.2.2.2.2.1 u.2.2.2.2.2.2.2) (xB D (va_A ([(a_this, .inr (4, [.ref a_ring, .int next, .int count])), (a_ring, .inl (cO, 20, .inr (.inr (.inr (.inr (fun k => some (ra k))))))), (a_p1, .inr (1, [.ref a_p1_marks, .int p1_people, .int p1_living, .int p1_shown, .int p1_spent, .int p1_days])), (a_p1_marks, .inl (cI, 8, .inl p1_marks))] ++ xpl cI ra rm rk rp rl rs rn rd) sz) (fun (u : Int32 × Int32 × (Nat → Nat → Int32) × (Nat → Int32) × (Nat → Int32) × (Nat → Int32) × (Nat → Int32) × (Nat → Int32)) => ([(a_this, .inr (4, [.ref a_ring, .int u.1, .int u.2.1])), (a_ring, .inl (cO, 20, .inr (.inr (.inr (.inr (fun k => some (ra k))))))), (a_p1, .inr (1, [.ref a_p1_marks, .int p1_people, .int p1_living, .int p1_shown, .int p1_spent, .int p1_days])), (a_p1_marks, .inl (cI, 8, .inl p1_marks))] ++ xpl cI ra rm (u.2.2.1) (u.2.2.2.1) (u.2.2.2.2.1) (u.2.2.2.2.2.1) (u.2.2.2.2.2.2.1) (u.2.2.2.2.2.2.2)))) (va_A ([(a_this, .inr (4, [.ref a_ring, .int next, .int count])), (a_ring, .inl (cO, 20, .inr (.inr (.inr (.inr (fun k => some (ra k))))))), (a_p1, .inr (1, [.ref a_p1_marks, .int p1_people, .int p1_living, .int p1_shown, .int p1_spent, .int p1_days])), (a_p1_marks, .inl (cI, 8, .inl p1_marks))] ++ xpl cI ra rm rk rp rl rs rn rd) sz)) 0 0 (va_A ([(a_this, .inr (4, [.ref a_ring, .int next, .int count])), (a_ring, .inl (cO, 20, .inr (.inr (.inr (.inr (fun k => some (ra k))))))), (a_p1, .inr (1, [.ref a_p1_marks, .int p1_people, .int p1_living, .int p1_shown, .int p1_spent, .int p1_days])), (a_p1_marks, .inl (cI, 8, .inl p1_marks))] ++ xpl cI ra rm rk rp rl rs rn rd) sz) := by
  refine Met.ofW (cc := cX4_push) (maxL := 3) (ret := none) (by decide) rfl ?_
  intro p e s m args below meth c s₁ B hml hv
  obtain ⟨rfl, hsz, hP, hKK, hD0⟩ := hv
  have hx := B.exec
  have hb := B.bytes
  have hr := B.returns
  have hts := atoms_spec (ws := wsX4_push) B.pre
  have hown : s.vm.findClass RX4 = some m.cls := findClass_of_methodNamed B.named
  have hlocks := B.notSynchronized
  subst hsz
  have hD := hD0.self (sz := s.heap.size)
  obtain ⟨Q, hQ⟩ : ∃ Q, Q = MQ below (va_Qv (fun (u : Int32 × Int32 × (Nat → Nat → Int32) × (Nat → Int32) × (Nat → Int32) × (Nat → Int32) × (Nat → Int32) × (Nat → Int32)) => Φ u.1 u.2.1 u.2.2.1 u.2.2.2.1 u.2.2.2.2.1 u.2.2.2.2.2.1 u.2.2.2.2.2.2.1 u.2.2.2.2.2.2.2) (xB D (va_A ([(a_this, .inr (4, [.ref a_ring, .int next, .int count])), (a_ring, .inl (cO, 20, .inr (.inr (.inr (.inr (fun k => some (ra k))))))), (a_p1, .inr (1, [.ref a_p1_marks, .int p1_people, .int p1_living, .int p1_shown, .int p1_spent, .int p1_days])), (a_p1_marks, .inl (cI, 8, .inl p1_marks))] ++ xpl cI ra rm rk rp rl rs rn rd) s.heap.size) (fun (u : Int32 × Int32 × (Nat → Nat → Int32) × (Nat → Int32) × (Nat → Int32) × (Nat → Int32) × (Nat → Int32) × (Nat → Int32)) => ([(a_this, .inr (4, [.ref a_ring, .int u.1, .int u.2.1])), (a_ring, .inl (cO, 20, .inr (.inr (.inr (.inr (fun k => some (ra k))))))), (a_p1, .inr (1, [.ref a_p1_marks, .int p1_people, .int p1_living, .int p1_shown, .int p1_spent, .int p1_days])), (a_p1_marks, .inl (cI, 8, .inl p1_marks))] ++ xpl cI ra rm (u.2.2.1) (u.2.2.2.1) (u.2.2.2.2.1) (u.2.2.2.2.2.1) (u.2.2.2.2.2.2.1) (u.2.2.2.2.2.2.2)))) (va_A ([(a_this, .inr (4, [.ref a_ring, .int next, .int count])), (a_ring, .inl (cO, 20, .inr (.inr (.inr (.inr (fun k => some (ra k))))))), (a_p1, .inr (1, [.ref a_p1_marks, .int p1_people, .int p1_living, .int p1_shown, .int p1_spent, .int p1_days])), (a_p1_marks, .inl (cI, 8, .inl p1_marks))] ++ xpl cI ra rm rk rp rl rs rn rd) s.heap.size)) ([.ref a_this, .ref a_p1] : List Value).toArray s 0 0 (va_A ([(a_this, .inr (4, [.ref a_ring, .int next, .int count])), (a_ring, .inl (cO, 20, .inr (.inr (.inr (.inr (fun k => some (ra k))))))), (a_p1, .inr (1, [.ref a_p1_marks, .int p1_people, .int p1_living, .int p1_shown, .int p1_spent, .int p1_days])), (a_p1_marks, .inl (cI, 8, .inl p1_marks))] ++ xpl cI ra rm rk rp rl rs rn rd) s.heap.size) := ⟨_, rfl⟩
  rw [← hQ]
  generalize hAe : va_A ([(a_this, .inr (4, [.ref a_ring, .int next, .int count])), (a_ring, .inl (cO, 20, .inr (.inr (.inr (.inr (fun k => some (ra k))))))), (a_p1, .inr (1, [.ref a_p1_marks, .int p1_people, .int p1_living, .int p1_shown, .int p1_spent, .int p1_days])), (a_p1_marks, .inl (cI, 8, .inl p1_marks))] ++ xpl cI ra rm rk rp rl rs rn rd) s.heap.size = A at hD hQ
  have hA : ∀ q : Nat, s.heap.size ≤ q → A q := fun q h => by rw [← hAe]; exact Or.inr h
  have hS : va_S A s.heap s.heap [] := va_S.rf
  have hl := lv_entry ([.ref a_this, .ref a_p1]) (n := 3) (Nat.le_of_ble_eq_true rfl)
  rw [lg_entry_eq]
  generalize (lg_sl ([.ref a_this, .ref a_p1]) ++ List.replicate (3 - (lg_sl ([.ref a_this, .ref a_p1])).length) Slot.unset).toArray = ls at hl ⊢
  have hl : lv_has ls 3 [(0, .ref a_this), (1, .ref a_p1)] := hl
  generalize ([.ref a_this, .ref a_p1] : List Value).toArray = args at hts hQ ⊢
  have hP : va_P D vwCl ([(a_this, .inr (4, [.ref a_ring, .int next, .int count])), (a_ring, .inl (cO, 20, .inr (.inr (.inr (.inr (fun k => some (ra k))))))), (a_p1, .inr (1, [.ref a_p1_marks, .int p1_people, .int p1_living, .int p1_shown, .int p1_spent, .int p1_days])), (a_p1_marks, .inl (cI, 8, .inl p1_marks))] ++ xpl cI ra rm rk rp rl rs rn rd) s.heap := hP
  have hinX4 : ∀ w ∈ u_ws RX4 TX4 3, w ∈ wsX4_push := by decide +kernel
  have fl_17 := hts (.fieldLink RX4 17 "DoubleChain$Past" "next" "I") (by decide +kernel)
  have fl_21 := hts (.fieldLink RX4 21 "DoubleChain$Past" "count" "I") (by decide +kernel)
  clear B
  show W p l e xrm_X4_push s m args below meth c s.heap [] 0 0 Q (F0 m 0 ls [])
  unfold wp_X4_push at hw
  refine lv_aload_n hx hb dX4_push_0 rfl (lv_at hl 0 rfl) ?_
  refine lv_aload_n hx hb dX4_push_1 rfl (lv_at hl 0 rfl) ?_
  refine va_get (D := D) (ci := 4) (v := .int next) (C := RX4) (T := TX4) (N := 3) hx hb hts hinX4 hown hKK.1 hP 0 rfl rfl 1 (by decide) fl_17 (fun _ h9 => h9) rfl dX4_push_2 ?_
  refine xcVrR (q0 := 0) (ci := 4) (As := [.int next]) (rest := []) (wc := [(a_this, .inr (4, [.ref a_ring, .int next, .int count])), (a_ring, .inl (cO, 20, .inr (.inr (.inr (.inr (fun k => some (ra k)))))))]) ⟨hx, hb, hml, hown, hts⟩ (c_X4_ringAt l D cI cZ cO hw) (cwV 1 hts gX4_push_X4_ringAt rfl rfl rfl (by decide +kernel) ⟨Nat.le_of_ble_eq_true rfl, Nat.le_of_ble_eq_true rfl⟩) hKK hP [0, 1] rfl rfl rfl rfl hl.1 rfl (Nat.le_of_ble_eq_true rfl) dX4_push_5 ⟨Nat.zero_le _, Nat.zero_le _⟩ (fun k hk hw => ?_) (fun hw => ?_)
  · have hw := hw.2 hk
    refine lv_astore_n (lv' := [(2, .ref (ra k)), (0, .ref a_this), (1, .ref a_p1)]) hx hb dX4_push_8 rfl hl (by decide) rfl (fun ls hl => ?_)
    refine lv_aload_n hx hb dX4_push_9 rfl (lv_at hl 0 rfl) ?_
    refine lv_ifnonnull (tgt := 14) hx hb dX4_push_10 (by decide) ?_
    refine lv_aload_n hx hb dX4_push_14 rfl (lv_at hl 0 rfl) ?_
    refine lv_aload_n hx hb dX4_push_15 rfl (lv_at hl 2 rfl) ?_
    have gX : ∀ (i j : Nat) (a b : Nat × va_E), ([(a_this, .inr (4, [.ref a_ring, .int next, .int count])), (a_ring, .inl (cO, 20, .inr (.inr (.inr (.inr (fun k => some (ra k))))))), (a_p1, .inr (1, [.ref a_p1_marks, .int p1_people, .int p1_living, .int p1_shown, .int p1_spent, .int p1_days])), (a_p1_marks, .inl (cI, 8, .inl p1_marks))] ++ xpl cI ra rm rk rp rl rs rn rd)[i]? = some a → ([(a_this, .inr (4, [.ref a_ring, .int next, .int count])), (a_ring, .inl (cO, 20, .inr (.inr (.inr (.inr (fun k => some (ra k))))))), (a_p1, .inr (1, [.ref a_p1_marks, .int p1_people, .int p1_living, .int p1_shown, .int p1_spent, .int p1_days])), (a_p1_marks, .inl (cI, 8, .inl p1_marks))] ++ xpl cI ra rm rk rp rl rs rn rd)[j]? = some b → i ≠ j → a.1 ≠ b.1 := fun i j a b h1 h2 h3 h4 => h3 (hD.1 i j a b h1 h2 h4)
    have go : ∀ j, j < 20 → ([(a_this, .inr (4, [.ref a_ring, .int next, .int count])), (a_ring, .inl (cO, 20, .inr (.inr (.inr (.inr (fun k => some (ra k))))))), (a_p1, .inr (1, [.ref a_p1_marks, .int p1_people, .int p1_living, .int p1_shown, .int p1_spent, .int p1_days])), (a_p1_marks, .inl (cI, 8, .inl p1_marks))] ++ xpl cI ra rm rk rp rl rs rn rd)[4 + j]? = some ((ra j, .inr (1, [.ref (rm j), .int (rp j), .int (rl j), .int (rs j), .int (rn j), .int (rd j)]))) := fun j hj => xpl_o hj
    have gm : ∀ j, j < 20 → ([(a_this, .inr (4, [.ref a_ring, .int next, .int count])), (a_ring, .inl (cO, 20, .inr (.inr (.inr (.inr (fun k => some (ra k))))))), (a_p1, .inr (1, [.ref a_p1_marks, .int p1_people, .int p1_living, .int p1_shown, .int p1_spent, .int p1_days])), (a_p1_marks, .inl (cI, 8, .inl p1_marks))] ++ xpl cI ra rm rk rp rl rs rn rd)[24 + j]? = some ((rm j, .inl (cI, 8, .inl (rk j)))) := fun j hj => xpl_m hj
    have g0 : ([(a_this, .inr (4, [.ref a_ring, .int next, .int count])), (a_ring, .inl (cO, 20, .inr (.inr (.inr (.inr (fun k => some (ra k))))))), (a_p1, .inr (1, [.ref a_p1_marks, .int p1_people, .int p1_living, .int p1_shown, .int p1_spent, .int p1_days])), (a_p1_marks, .inl (cI, 8, .inl p1_marks))] ++ xpl cI ra rm rk rp rl rs rn rd)[0]? = some ((a_this, .inr (4, [.ref a_ring, .int next, .int count]))) := rfl
    have g1 : ([(a_this, .inr (4, [.ref a_ring, .int next, .int count])), (a_ring, .inl (cO, 20, .inr (.inr (.inr (.inr (fun k => some (ra k))))))), (a_p1, .inr (1, [.ref a_p1_marks, .int p1_people, .int p1_living, .int p1_shown, .int p1_spent, .int p1_days])), (a_p1_marks, .inl (cI, 8, .inl p1_marks))] ++ xpl cI ra rm rk rp rl rs rn rd)[1]? = some ((a_ring, .inl (cO, 20, .inr (.inr (.inr (.inr (fun k => some (ra k)))))))) := rfl
    have g2 : ([(a_this, .inr (4, [.ref a_ring, .int next, .int count])), (a_ring, .inl (cO, 20, .inr (.inr (.inr (.inr (fun k => some (ra k))))))), (a_p1, .inr (1, [.ref a_p1_marks, .int p1_people, .int p1_living, .int p1_shown, .int p1_spent, .int p1_days])), (a_p1_marks, .inl (cI, 8, .inl p1_marks))] ++ xpl cI ra rm rk rp rl rs rn rd)[2]? = some ((a_p1, .inr (1, [.ref a_p1_marks, .int p1_people, .int p1_living, .int p1_shown, .int p1_spent, .int p1_days]))) := rfl
    have g3 : ([(a_this, .inr (4, [.ref a_ring, .int next, .int count])), (a_ring, .inl (cO, 20, .inr (.inr (.inr (.inr (fun k => some (ra k))))))), (a_p1, .inr (1, [.ref a_p1_marks, .int p1_people, .int p1_living, .int p1_shown, .int p1_spent, .int p1_days])), (a_p1_marks, .inl (cI, 8, .inl p1_marks))] ++ xpl cI ra rm rk rp rl rs rn rd)[3]? = some ((a_p1_marks, .inl (cI, 8, .inl p1_marks))) := rfl
    refine xwVvM (q0 := 4 + k) (ci := 1) (As := [.ref a_p1]) (rest := []) (wc := [(ra k, .inr (1, [.ref (rm k), .int (rp k), .int (rl k), .int (rs k), .int (rn k), .int (rd k)])), (a_p1, .inr (1, [.ref a_p1_marks, .int p1_people, .int p1_living, .int p1_shown, .int p1_spent, .int p1_days])), (a_p1_marks, .inl (cI, 8, .inl p1_marks)), (rm k, .inl (cI, 8, .inl (rk k)))]) (fun u => ([(a_this, .inr (4, [.ref a_ring, .int next, .int count])), (a_ring, .inl (cO, 20, .inr (.inr (.inr (.inr (fun k => some (ra k))))))), (a_p1, .inr (1, [.ref a_p1_marks, .int p1_people, .int p1_living, .int p1_shown, .int p1_spent, .int p1_days])), (a_p1_marks, .inl (cI, 8, .inl p1_marks))] ++ xpl cI ra rm (va_up rk k u.1) (va_up rp k u.2.1) (va_up rl k u.2.2.1) (va_up rs k u.2.2.2.1) (va_up rn k u.2.2.2.2.1) (va_up rd k u.2.2.2.2.2))) ⟨hx, hb, hml, hown, hts⟩ (c_X1_become l D cI cZ cO hw) (cwV 1 hts gX4_push_X1_become rfl rfl rfl (by decide +kernel) ⟨Nat.le_of_ble_eq_true rfl, Nat.le_of_ble_eq_true rfl⟩) hKK hP hD hS hA [4 + k, 2, 3, 24 + k] ?_ ?_ ?_ ?_ rfl (go k hk) rfl hl.1 rfl (Nat.le_of_ble_eq_true rfl) dX4_push_16 ⟨Nat.zero_le _, Nat.zero_le _⟩ (fun u_16 H locs hw hP hD hS => ?_)
    · simp only [List.map_cons, List.map_nil]
      rw [go k hk, gm k hk, g2, g3]
    · simp [va_nd]
      omega
    · intro u q hq
      simp only [xpl, List.mem_append, List.mem_cons, List.not_mem_nil, or_false, List.mem_map, List.mem_range] at hq
      rcases hq with (rfl | rfl | rfl | rfl) | ⟨j, hj, rfl⟩ | ⟨j, hj, rfl⟩
      · exact Or.inr ⟨List.mem_of_getElem? g0, fun r hr => by
          simp only [List.mem_cons, List.not_mem_nil, or_false] at hr
          rcases hr with rfl | rfl | rfl | rfl
          · exact (have hz := gX _ _ _ _ (go k hk) g0 (by omega); hz)
          · exact (have hz := gX _ _ _ _ g2 g0 (by omega); hz)
          · exact (have hz := gX _ _ _ _ g3 g0 (by omega); hz)
          · exact (have hz := gX _ _ _ _ (gm k hk) g0 (by omega); hz)⟩
      · exact Or.inr ⟨List.mem_of_getElem? g1, fun r hr => by
          simp only [List.mem_cons, List.not_mem_nil, or_false] at hr
          rcases hr with rfl | rfl | rfl | rfl
          · exact (have hz := gX _ _ _ _ (go k hk) g1 (by omega); hz)
          · exact (have hz := gX _ _ _ _ g2 g1 (by omega); hz)
          · exact (have hz := gX _ _ _ _ g3 g1 (by omega); hz)
          · exact (have hz := gX _ _ _ _ (gm k hk) g1 (by omega); hz)⟩
      · exact Or.inl (by simp)
      · exact Or.inl (by simp)
      · by_cases hjk : j = k
        · subst hjk
          exact Or.inl (by simp [va_up])
        · refine Or.inr ⟨?_, fun r hr => by
          simp only [List.mem_cons, List.not_mem_nil, or_false] at hr
          rcases hr with rfl | rfl | rfl | rfl
          · exact (have hz := gX _ _ _ _ (go k hk) (go j hj) (by omega); hz)
          · exact (have hz := gX _ _ _ _ g2 (go j hj) (by omega); hz)
          · exact (have hz := gX _ _ _ _ g3 (go j hj) (by omega); hz)
          · exact (have hz := gX _ _ _ _ (gm k hk) (go j hj) (by omega); hz)⟩
          have := List.mem_of_getElem? (go j hj)
          simpa [va_up, hjk] using this
      · by_cases hjk : j = k
        · subst hjk
          exact Or.inl (by simp [va_up])
        · refine Or.inr ⟨?_, fun r hr => by
          simp only [List.mem_cons, List.not_mem_nil, or_false] at hr
          rcases hr with rfl | rfl | rfl | rfl
          · exact (have hz := gX _ _ _ _ (go k hk) (gm j hj) (by omega); hz)
          · exact (have hz := gX _ _ _ _ g2 (gm j hj) (by omega); hz)
          · exact (have hz := gX _ _ _ _ g3 (gm j hj) (by omega); hz)
          · exact (have hz := gX _ _ _ _ (gm k hk) (gm j hj) (by omega); hz)⟩
          have := List.mem_of_getElem? (gm j hj)
          simpa [va_up, hjk] using this
    · intro u
      rw [List.map_append, List.map_append]
      exact congrArg (fun z => _ ++ z) xpl_adr
    obtain ⟨marks, people, living, shown, spent, days⟩ := u_16
    try dsimp only at hw
    have hP : va_P D vwCl ([(a_this, .inr (4, [.ref a_ring, .int next, .int count])), (a_ring, .inl (cO, 20, .inr (.inr (.inr (.inr (fun k => some (ra k))))))), (a_p1, .inr (1, [.ref a_p1_marks, .int p1_people, .int p1_living, .int p1_shown, .int p1_spent, .int p1_days])), (a_p1_marks, .inl (cI, 8, .inl p1_marks))] ++ xpl cI ra rm (va_up rk k marks) (va_up rp k people) (va_up rl k living) (va_up rs k shown) (va_up rn k spent) (va_up rd k days)) H := hP
    have hD : va_D A ([(a_this, .inr (4, [.ref a_ring, .int next, .int count])), (a_ring, .inl (cO, 20, .inr (.inr (.inr (.inr (fun k => some (ra k))))))), (a_p1, .inr (1, [.ref a_p1_marks, .int p1_people, .int p1_living, .int p1_shown, .int p1_spent, .int p1_days])), (a_p1_marks, .inl (cI, 8, .inl p1_marks))] ++ xpl cI ra rm (va_up rk k marks) (va_up rp k people) (va_up rl k living) (va_up rs k shown) (va_up rn k spent) (va_up rd k days)) := hD
    clear gX go gm g0 g1 g2 g3
    refine lv_aload_n hx hb dX4_push_19 rfl (lv_at hl 1 rfl) ?_
    refine lv_aload_n hx hb dX4_push_20 rfl (lv_at hl 1 rfl) ?_
    refine va_get (D := D) (ci := 4) (v := .int next) (C := RX4) (T := TX4) (N := 3) hx hb hts hinX4 hown hKK.1 hP 0 rfl rfl 1 (by decide) fl_17 (fun _ h9 => h9) rfl dX4_push_21 ?_
    refine lv_iconst (v := 1) hx hb dX4_push_24 (by decide) ?_
    refine lv_iadd hx hb dX4_push_25 ?_
    refine lv_bipush (v := 20) hx hb dX4_push_26 (by decide) ?_
    have tail : ∀ z : Int32, Φ z (if (count + 1) < 20 then (count + 1) else 20) (va_up rk k marks) (va_up rp k people) (va_up rl k living) (va_up rs k shown) (va_up rn k spent) (va_up rd k days) → W p l e xrm_X4_push s m args below meth c H locs 0 0 Q (F0 m 41 ls [.int z, .ref a_this]) := by
      intro z hw
      refine va_put (D := D) (ci := 4) (v := .int z) (ty := .int) (C := RX4) (T := TX4) (N := 3) hx hb hts hinX4 tyX4 tyX4_ok nmX4 hown hKK.1 hP hD hS 0 rfl rfl 1 (by decide) fl_17 (fun _ h9 => h9) rfl (by decide +kernel) rfl rfl (Nat.le_of_ble_eq_true rfl) dX4_push_41 (fun H locs hP hD hS => ?_)
      have hP : va_P D vwCl ([(a_this, .inr (4, [.ref a_ring, .int z, .int count])), (a_ring, .inl (cO, 20, .inr (.inr (.inr (.inr (fun k => some (ra k))))))), (a_p1, .inr (1, [.ref a_p1_marks, .int p1_people, .int p1_living, .int p1_shown, .int p1_spent, .int p1_days])), (a_p1_marks, .inl (cI, 8, .inl p1_marks))] ++ xpl cI ra rm (va_up rk k marks) (va_up rp k people) (va_up rl k living) (va_up rs k shown) (va_up rn k spent) (va_up rd k days)) H := hP
      have hD : va_D A ([(a_this, .inr (4, [.ref a_ring, .int z, .int count])), (a_ring, .inl (cO, 20, .inr (.inr (.inr (.inr (fun k => some (ra k))))))), (a_p1, .inr (1, [.ref a_p1_marks, .int p1_people, .int p1_living, .int p1_shown, .int p1_spent, .int p1_days])), (a_p1_marks, .inl (cI, 8, .inl p1_marks))] ++ xpl cI ra rm (va_up rk k marks) (va_up rp k people) (va_up rl k living) (va_up rs k shown) (va_up rn k spent) (va_up rd k days)) := hD
      refine lv_aload_n hx hb dX4_push_44 rfl (lv_at hl 1 rfl) ?_
      refine lv_bipush (v := 20) hx hb dX4_push_45 (by decide) ?_
      refine lv_aload_n hx hb dX4_push_47 rfl (lv_at hl 1 rfl) ?_
      refine va_get (D := D) (ci := 4) (v := .int count) (C := RX4) (T := TX4) (N := 3) hx hb hts hinX4 hown hKK.1 hP 0 rfl rfl 2 (by decide) fl_21 (fun _ h9 => h9) rfl dX4_push_48 ?_
      refine lv_iconst (v := 1) hx hb dX4_push_51 (by decide) ?_
      refine lv_iadd hx hb dX4_push_52 ?_
      refine va_mmin hx hb (hml.trans hl.1.symm) hown (hts (.methodLink RX4 33 Lib.Math.min.name) (by decide +kernel)) (hts (.static Lib.Math.min.name) (by decide +kernel)) (hts (.initialized "java/lang/Math") (by decide +kernel)) (hts (.code Lib.Math.min.name Lib.Math.min.code 2 (some .int)) (by decide +kernel)) (Nat.le_of_ble_eq_true rfl) (Nat.le_of_ble_eq_true rfl) (Nat.zero_le _) (Nat.zero_le _) dX4_push_53 ?_
      refine va_put (D := D) (ci := 4) (v := .int (if (count + 1) < 20 then (count + 1) else 20)) (ty := .int) (C := RX4) (T := TX4) (N := 3) hx hb hts hinX4 tyX4 tyX4_ok nmX4 hown hKK.1 hP hD hS 0 rfl rfl 2 (by decide) fl_21 (fun _ h9 => h9) rfl (by decide +kernel) rfl rfl (Nat.le_of_ble_eq_true rfl) dX4_push_56 (fun H locs hP hD hS => ?_)
      have hP : va_P D vwCl ([(a_this, .inr (4, [.ref a_ring, .int z, .int (if (count + 1) < 20 then (count + 1) else 20)])), (a_ring, .inl (cO, 20, .inr (.inr (.inr (.inr (fun k => some (ra k))))))), (a_p1, .inr (1, [.ref a_p1_marks, .int p1_people, .int p1_living, .int p1_shown, .int p1_spent, .int p1_days])), (a_p1_marks, .inl (cI, 8, .inl p1_marks))] ++ xpl cI ra rm (va_up rk k marks) (va_up rp k people) (va_up rl k living) (va_up rs k shown) (va_up rn k spent) (va_up rd k days)) H := hP
      have hD : va_D A ([(a_this, .inr (4, [.ref a_ring, .int z, .int (if (count + 1) < 20 then (count + 1) else 20)])), (a_ring, .inl (cO, 20, .inr (.inr (.inr (.inr (fun k => some (ra k))))))), (a_p1, .inr (1, [.ref a_p1_marks, .int p1_people, .int p1_living, .int p1_shown, .int p1_spent, .int p1_days])), (a_p1_marks, .inl (cI, 8, .inl p1_marks))] ++ xpl cI ra rm (va_up rk k marks) (va_up rp k people) (va_up rl k living) (va_up rs k shown) (va_up rn k spent) (va_up rd k days)) := hD
      rw [hQ]
      exact W.vret hx hb hr (fun t ht hW => ⟨⟨⟨z, (if (count + 1) < 20 then (count + 1) else 20), va_up rk k marks, va_up rp k people, va_up rl k living, va_up rs k shown, va_up rn k spent, va_up rd k days⟩, rfl, hw, by rw [ht]; exact hP, hD⟩, hS.F ht⟩) hS.2.2 dX4_push_59
    refine lv_icmp_ge (tgt := 40) hx hb dX4_push_28 (by decide) (fun c_28 => ?_) (fun c_28 => ?_)
    · have hw := hw.1 c_28
      refine lv_iconst (v := 0) hx hb dX4_push_40 (by decide) ?_
      exact tail _ hw
    · have hw := hw.2 c_28
      refine lv_aload_n hx hb dX4_push_31 rfl (lv_at hl 1 rfl) ?_
      refine va_get (D := D) (ci := 4) (v := .int next) (C := RX4) (T := TX4) (N := 3) hx hb hts hinX4 hown hKK.1 hP 0 rfl rfl 1 (by decide) fl_17 (fun _ h9 => h9) rfl dX4_push_32 ?_
      refine lv_iconst (v := 1) hx hb dX4_push_35 (by decide) ?_
      refine lv_iadd hx hb dX4_push_36 ?_
      refine lv_goto (tgt := 41) hx hb dX4_push_37 (by decide) ?_
      exact tail _ hw
  · have hw := hw.1 rfl
    refine lv_astore_nN (lv' := [(2, .null), (0, .ref a_this), (1, .ref a_p1)]) hx hb dX4_push_8 rfl hl (by decide) rfl (fun ls hl => ?_)
    refine lv_aload_nN hx hb dX4_push_9 rfl (lv_at hl 0 rfl) ?_
    refine lv_ifnonnullN hx hb dX4_push_10 ?_
    rw [hQ]
    exact W.vret hx hb hr (fun t ht hW => ⟨⟨⟨next, count, rk, rp, rl, rs, rn, rd⟩, rfl, hw, by rw [ht]; exact hP, hD⟩, hS.F ht⟩) hS.2.2 dX4_push_13
def wj_X4_popInto_18 (count next : Int32) (rk : Nat → Nat → Int32) (rp rl rs rn rd : Nat → Int32) (p1_people p1_living p1_shown p1_spent p1_days : Int32) (p1_marks : Nat → Int32) (Φ : Int32 → Int32 → (Nat → Int32) → Int32 → Int32 → Int32 → Int32 → Int32 → Prop) (z : Int32) : Prop :=
  wp_X4_ringAt z (fun k => (k = 20 → Φ next count p1_marks p1_people p1_living p1_shown p1_spent p1_days) ∧ (k < 20 → (count = 0 → Φ next count p1_marks p1_people p1_living p1_shown p1_spent p1_days) ∧ (¬ count = 0 → wp_X1_become (rp k) (rl k) (rs k) (rn k) (rd k) (rk k) p1_marks (fun marks people living shown spent days => Φ z (count - 1) marks people living shown spent days))))
def wp_X4_popInto (next count : Int32) (rk : Nat → Nat → Int32) (rp rl rs rn rd : Nat → Int32) (p1_people p1_living p1_shown p1_spent p1_days : Int32) (p1_marks : Nat → Int32) (Φ : Int32 → Int32 → (Nat → Int32) → Int32 → Int32 → Int32 → Int32 → Int32 → Prop) : Prop :=
  (next ≤ 0 → wj_X4_popInto_18 count next rk rp rl rs rn rd p1_people p1_living p1_shown p1_spent p1_days p1_marks Φ 19) ∧ (¬ next ≤ 0 → wj_X4_popInto_18 count next rk rp rl rs rn rd p1_people p1_living p1_shown p1_spent p1_days p1_marks Φ (next - 1))
abbrev xrm_X4_popInto : Room := { frames := 3, cells := 0, slots := 0, locals := 66 }
set_option maxRecDepth 100000 in
set_option maxHeartbeats 4000000 in
theorem c_X4_popInto (l : Launch) (D : va_G) (cI cZ cO : ClassId) {a_this a_ring a_p1 a_p1_marks : Nat} {ra rm : Nat → Nat} {next count : Int32} {p1_people p1_living p1_shown p1_spent p1_days : Int32} {p1_marks : Nat → Int32} {rk : Nat → Nat → Int32} {rp rl rs rn rd : Nat → Int32} {Φ : Int32 → Int32 → (Nat → Int32) → Int32 → Int32 → Int32 → Int32 → Int32 → Prop} {sz : Nat} (hw : wp_X4_popInto next count rk rp rl rs rn rd p1_people p1_living p1_shown p1_spent p1_days p1_marks Φ) : Met l yX4_popInto wsX4_popInto xrm_X4_popInto (xPW D cI cZ cO [.ref a_this, .ref a_p1] sz ([(a_this, .inr (4, [.ref a_ring, .int next, .int count])), (a_ring, .inl (cO, 20, .inr (.inr (.inr (.inr (fun k => some (ra k))))))), (a_p1, .inr (1, [.ref a_p1_marks, .int p1_people, .int p1_living, .int p1_shown, .int p1_spent, .int p1_days])), (a_p1_marks, .inl (cI, 8, .inl p1_marks))] ++ xpl cI ra rm rk rp rl rs rn rd)) (va_Qv (fun (u : Int32 × Int32 × (Nat → Int32) × Int32 × Int32 × Int32 × Int32 × Int32) => Φ u.1 u.2.1 u.2.2.1 u.2.2.2.1 u.2.2.2.2.1 u.2.2.2.2.2.1 u.2.2.2.2.2.2.1 u.2.2.2.2.2.2.2) (xB D (va_A ([(a_this, .inr (4, [.ref a_ring, .int next, .int count])), (a_ring, .inl (cO, 20, .inr (.inr (.inr (.inr (fun k => some (ra k))))))), (a_p1, .inr (1, [.ref a_p1_marks, .int p1_people, .int p1_living, .int p1_shown, .int p1_spent, .int p1_days])), (a_p1_marks, .inl (cI, 8, .inl p1_marks))] ++ xpl cI ra rm rk rp rl rs rn rd) sz) (fun (u : Int32 × Int32 × (Nat → Int32) × Int32 × Int32 × Int32 × Int32 × Int32) => ([(a_this, .inr (4, [.ref a_ring, .int u.1, .int u.2.1])), (a_ring, .inl (cO, 20, .inr (.inr (.inr (.inr (fun k => some (ra k))))))), (a_p1, .inr (1, [.ref a_p1_marks, .int u.2.2.2.1, .int u.2.2.2.2.1, .int u.2.2.2.2.2.1, .int u.2.2.2.2.2.2.1, .int u.2.2.2.2.2.2.2])), (a_p1_marks, .inl (cI, 8, .inl (u.2.2.1)))] ++ xpl cI ra rm rk rp rl rs rn rd))) (va_A ([(a_this, .inr (4, [.ref a_ring, .int next, .int count])), (a_ring, .inl (cO, 20, .inr (.inr (.inr (.inr (fun k => some (ra k))))))), (a_p1, .inr (1, [.ref a_p1_marks, .int p1_people, .int p1_living, .int p1_shown, .int p1_spent, .int p1_days])), (a_p1_marks, .inl (cI, 8, .inl p1_marks))] ++ xpl cI ra rm rk rp rl rs rn rd) sz)) 0 0 (va_A ([(a_this, .inr (4, [.ref a_ring, .int next, .int count])), (a_ring, .inl (cO, 20, .inr (.inr (.inr (.inr (fun k => some (ra k))))))), (a_p1, .inr (1, [.ref a_p1_marks, .int p1_people, .int p1_living, .int p1_shown, .int p1_spent, .int p1_days])), (a_p1_marks, .inl (cI, 8, .inl p1_marks))] ++ xpl cI ra rm rk rp rl rs rn rd) sz) := by
  refine Met.ofW (cc := cX4_popInto) (maxL := 4) (ret := none) (by decide) rfl ?_
  intro p e s m args below meth c s₁ B hml hv
  obtain ⟨rfl, hsz, hP, hKK, hD0⟩ := hv
  have hx := B.exec
  have hb := B.bytes
  have hr := B.returns
  have hts := atoms_spec (ws := wsX4_popInto) B.pre
  have hown : s.vm.findClass RX4 = some m.cls := findClass_of_methodNamed B.named
  have hlocks := B.notSynchronized
  subst hsz
  have hD := hD0.self (sz := s.heap.size)
  obtain ⟨Q, hQ⟩ : ∃ Q, Q = MQ below (va_Qv (fun (u : Int32 × Int32 × (Nat → Int32) × Int32 × Int32 × Int32 × Int32 × Int32) => Φ u.1 u.2.1 u.2.2.1 u.2.2.2.1 u.2.2.2.2.1 u.2.2.2.2.2.1 u.2.2.2.2.2.2.1 u.2.2.2.2.2.2.2) (xB D (va_A ([(a_this, .inr (4, [.ref a_ring, .int next, .int count])), (a_ring, .inl (cO, 20, .inr (.inr (.inr (.inr (fun k => some (ra k))))))), (a_p1, .inr (1, [.ref a_p1_marks, .int p1_people, .int p1_living, .int p1_shown, .int p1_spent, .int p1_days])), (a_p1_marks, .inl (cI, 8, .inl p1_marks))] ++ xpl cI ra rm rk rp rl rs rn rd) s.heap.size) (fun (u : Int32 × Int32 × (Nat → Int32) × Int32 × Int32 × Int32 × Int32 × Int32) => ([(a_this, .inr (4, [.ref a_ring, .int u.1, .int u.2.1])), (a_ring, .inl (cO, 20, .inr (.inr (.inr (.inr (fun k => some (ra k))))))), (a_p1, .inr (1, [.ref a_p1_marks, .int u.2.2.2.1, .int u.2.2.2.2.1, .int u.2.2.2.2.2.1, .int u.2.2.2.2.2.2.1, .int u.2.2.2.2.2.2.2])), (a_p1_marks, .inl (cI, 8, .inl (u.2.2.1)))] ++ xpl cI ra rm rk rp rl rs rn rd))) (va_A ([(a_this, .inr (4, [.ref a_ring, .int next, .int count])), (a_ring, .inl (cO, 20, .inr (.inr (.inr (.inr (fun k => some (ra k))))))), (a_p1, .inr (1, [.ref a_p1_marks, .int p1_people, .int p1_living, .int p1_shown, .int p1_spent, .int p1_days])), (a_p1_marks, .inl (cI, 8, .inl p1_marks))] ++ xpl cI ra rm rk rp rl rs rn rd) s.heap.size)) ([.ref a_this, .ref a_p1] : List Value).toArray s 0 0 (va_A ([(a_this, .inr (4, [.ref a_ring, .int next, .int count])), (a_ring, .inl (cO, 20, .inr (.inr (.inr (.inr (fun k => some (ra k))))))), (a_p1, .inr (1, [.ref a_p1_marks, .int p1_people, .int p1_living, .int p1_shown, .int p1_spent, .int p1_days])), (a_p1_marks, .inl (cI, 8, .inl p1_marks))] ++ xpl cI ra rm rk rp rl rs rn rd) s.heap.size) := ⟨_, rfl⟩
  rw [← hQ]
  generalize hAe : va_A ([(a_this, .inr (4, [.ref a_ring, .int next, .int count])), (a_ring, .inl (cO, 20, .inr (.inr (.inr (.inr (fun k => some (ra k))))))), (a_p1, .inr (1, [.ref a_p1_marks, .int p1_people, .int p1_living, .int p1_shown, .int p1_spent, .int p1_days])), (a_p1_marks, .inl (cI, 8, .inl p1_marks))] ++ xpl cI ra rm rk rp rl rs rn rd) s.heap.size = A at hD hQ
  have hA : ∀ q : Nat, s.heap.size ≤ q → A q := fun q h => by rw [← hAe]; exact Or.inr h
  have hS : va_S A s.heap s.heap [] := va_S.rf
  have hl := lv_entry ([.ref a_this, .ref a_p1]) (n := 4) (Nat.le_of_ble_eq_true rfl)
  rw [lg_entry_eq]
  generalize (lg_sl ([.ref a_this, .ref a_p1]) ++ List.replicate (4 - (lg_sl ([.ref a_this, .ref a_p1])).length) Slot.unset).toArray = ls at hl ⊢
  have hl : lv_has ls 4 [(0, .ref a_this), (1, .ref a_p1)] := hl
  generalize ([.ref a_this, .ref a_p1] : List Value).toArray = args at hts hQ ⊢
  have hP : va_P D vwCl ([(a_this, .inr (4, [.ref a_ring, .int next, .int count])), (a_ring, .inl (cO, 20, .inr (.inr (.inr (.inr (fun k => some (ra k))))))), (a_p1, .inr (1, [.ref a_p1_marks, .int p1_people, .int p1_living, .int p1_shown, .int p1_spent, .int p1_days])), (a_p1_marks, .inl (cI, 8, .inl p1_marks))] ++ xpl cI ra rm rk rp rl rs rn rd) s.heap := hP
  have hinX4 : ∀ w ∈ u_ws RX4 TX4 3, w ∈ wsX4_popInto := by decide +kernel
  have fl_17 := hts (.fieldLink RX4 17 "DoubleChain$Past" "next" "I") (by decide +kernel)
  have fl_21 := hts (.fieldLink RX4 21 "DoubleChain$Past" "count" "I") (by decide +kernel)
  clear B
  show W p l e xrm_X4_popInto s m args below meth c s.heap [] 0 0 Q (F0 m 0 ls [])
  unfold wp_X4_popInto at hw
  have tail : ∀ z : Int32, wj_X4_popInto_18 count next rk rp rl rs rn rd p1_people p1_living p1_shown p1_spent p1_days p1_marks Φ z → W p l e xrm_X4_popInto s m args below meth c s.heap [] 0 0 Q (F0 m 18 ls [.int z]) := by
    intro z hw
    unfold wj_X4_popInto_18 at hw
    refine lv_istore_n (lv' := [(2, .int z), (0, .ref a_this), (1, .ref a_p1)]) hx hb dX4_popInto_18 rfl hl (by decide) rfl (fun ls hl => ?_)
    refine lv_aload_n hx hb dX4_popInto_19 rfl (lv_at hl 1 rfl) ?_
    refine lv_iload_n hx hb dX4_popInto_20 rfl (lv_at hl 0 rfl) ?_
    refine xcVrR (q0 := 0) (ci := 4) (As := [.int z]) (rest := []) (wc := [(a_this, .inr (4, [.ref a_ring, .int next, .int count])), (a_ring, .inl (cO, 20, .inr (.inr (.inr (.inr (fun k => some (ra k)))))))]) ⟨hx, hb, hml, hown, hts⟩ (c_X4_ringAt l D cI cZ cO hw) (cwV 1 hts gX4_popInto_X4_ringAt rfl rfl rfl (by decide +kernel) ⟨Nat.le_of_ble_eq_true rfl, Nat.le_of_ble_eq_true rfl⟩) hKK hP [0, 1] rfl rfl rfl rfl hl.1 rfl (Nat.le_of_ble_eq_true rfl) dX4_popInto_21 ⟨Nat.zero_le _, Nat.zero_le _⟩ (fun k hk hw => ?_) (fun hw => ?_)
    · have hw := hw.2 hk
      refine lv_astore_n (lv' := [(3, .ref (ra k)), (2, .int z), (0, .ref a_this), (1, .ref a_p1)]) hx hb dX4_popInto_24 rfl hl (by decide) rfl (fun ls hl => ?_)
      refine lv_aload_n hx hb dX4_popInto_25 rfl (lv_at hl 0 rfl) ?_
      refine lv_ifnull hx hb dX4_popInto_26 ?_
      refine lv_aload_n hx hb dX4_popInto_29 rfl (lv_at hl 2 rfl) ?_
      refine va_get (D := D) (ci := 4) (v := .int count) (C := RX4) (T := TX4) (N := 3) hx hb hts hinX4 hown hKK.1 hP 0 rfl rfl 2 (by decide) fl_21 (fun _ h9 => h9) rfl dX4_popInto_30 ?_
      refine lv_if_ne (tgt := 37) hx hb dX4_popInto_33 (by decide) (fun c_33 => ?_) (fun c_33 => ?_)
      · have hw := hw.2 c_33
        refine lv_aload_n hx hb dX4_popInto_37 rfl (lv_at hl 3 rfl) ?_
        refine lv_aload_n hx hb dX4_popInto_38 rfl (lv_at hl 0 rfl) ?_
        have gX : ∀ (i j : Nat) (a b : Nat × va_E), ([(a_this, .inr (4, [.ref a_ring, .int next, .int count])), (a_ring, .inl (cO, 20, .inr (.inr (.inr (.inr (fun k => some (ra k))))))), (a_p1, .inr (1, [.ref a_p1_marks, .int p1_people, .int p1_living, .int p1_shown, .int p1_spent, .int p1_days])), (a_p1_marks, .inl (cI, 8, .inl p1_marks))] ++ xpl cI ra rm rk rp rl rs rn rd)[i]? = some a → ([(a_this, .inr (4, [.ref a_ring, .int next, .int count])), (a_ring, .inl (cO, 20, .inr (.inr (.inr (.inr (fun k => some (ra k))))))), (a_p1, .inr (1, [.ref a_p1_marks, .int p1_people, .int p1_living, .int p1_shown, .int p1_spent, .int p1_days])), (a_p1_marks, .inl (cI, 8, .inl p1_marks))] ++ xpl cI ra rm rk rp rl rs rn rd)[j]? = some b → i ≠ j → a.1 ≠ b.1 := fun i j a b h1 h2 h3 h4 => h3 (hD.1 i j a b h1 h2 h4)
        have go : ∀ j, j < 20 → ([(a_this, .inr (4, [.ref a_ring, .int next, .int count])), (a_ring, .inl (cO, 20, .inr (.inr (.inr (.inr (fun k => some (ra k))))))), (a_p1, .inr (1, [.ref a_p1_marks, .int p1_people, .int p1_living, .int p1_shown, .int p1_spent, .int p1_days])), (a_p1_marks, .inl (cI, 8, .inl p1_marks))] ++ xpl cI ra rm rk rp rl rs rn rd)[4 + j]? = some ((ra j, .inr (1, [.ref (rm j), .int (rp j), .int (rl j), .int (rs j), .int (rn j), .int (rd j)]))) := fun j hj => xpl_o hj
        have gm : ∀ j, j < 20 → ([(a_this, .inr (4, [.ref a_ring, .int next, .int count])), (a_ring, .inl (cO, 20, .inr (.inr (.inr (.inr (fun k => some (ra k))))))), (a_p1, .inr (1, [.ref a_p1_marks, .int p1_people, .int p1_living, .int p1_shown, .int p1_spent, .int p1_days])), (a_p1_marks, .inl (cI, 8, .inl p1_marks))] ++ xpl cI ra rm rk rp rl rs rn rd)[24 + j]? = some ((rm j, .inl (cI, 8, .inl (rk j)))) := fun j hj => xpl_m hj
        have g0 : ([(a_this, .inr (4, [.ref a_ring, .int next, .int count])), (a_ring, .inl (cO, 20, .inr (.inr (.inr (.inr (fun k => some (ra k))))))), (a_p1, .inr (1, [.ref a_p1_marks, .int p1_people, .int p1_living, .int p1_shown, .int p1_spent, .int p1_days])), (a_p1_marks, .inl (cI, 8, .inl p1_marks))] ++ xpl cI ra rm rk rp rl rs rn rd)[0]? = some ((a_this, .inr (4, [.ref a_ring, .int next, .int count]))) := rfl
        have g1 : ([(a_this, .inr (4, [.ref a_ring, .int next, .int count])), (a_ring, .inl (cO, 20, .inr (.inr (.inr (.inr (fun k => some (ra k))))))), (a_p1, .inr (1, [.ref a_p1_marks, .int p1_people, .int p1_living, .int p1_shown, .int p1_spent, .int p1_days])), (a_p1_marks, .inl (cI, 8, .inl p1_marks))] ++ xpl cI ra rm rk rp rl rs rn rd)[1]? = some ((a_ring, .inl (cO, 20, .inr (.inr (.inr (.inr (fun k => some (ra k)))))))) := rfl
        have g2 : ([(a_this, .inr (4, [.ref a_ring, .int next, .int count])), (a_ring, .inl (cO, 20, .inr (.inr (.inr (.inr (fun k => some (ra k))))))), (a_p1, .inr (1, [.ref a_p1_marks, .int p1_people, .int p1_living, .int p1_shown, .int p1_spent, .int p1_days])), (a_p1_marks, .inl (cI, 8, .inl p1_marks))] ++ xpl cI ra rm rk rp rl rs rn rd)[2]? = some ((a_p1, .inr (1, [.ref a_p1_marks, .int p1_people, .int p1_living, .int p1_shown, .int p1_spent, .int p1_days]))) := rfl
        have g3 : ([(a_this, .inr (4, [.ref a_ring, .int next, .int count])), (a_ring, .inl (cO, 20, .inr (.inr (.inr (.inr (fun k => some (ra k))))))), (a_p1, .inr (1, [.ref a_p1_marks, .int p1_people, .int p1_living, .int p1_shown, .int p1_spent, .int p1_days])), (a_p1_marks, .inl (cI, 8, .inl p1_marks))] ++ xpl cI ra rm rk rp rl rs rn rd)[3]? = some ((a_p1_marks, .inl (cI, 8, .inl p1_marks))) := rfl
        refine xwVvM (q0 := 2) (ci := 1) (As := [.ref (ra k)]) (rest := []) (wc := [(a_p1, .inr (1, [.ref a_p1_marks, .int p1_people, .int p1_living, .int p1_shown, .int p1_spent, .int p1_days])), (ra k, .inr (1, [.ref (rm k), .int (rp k), .int (rl k), .int (rs k), .int (rn k), .int (rd k)])), (rm k, .inl (cI, 8, .inl (rk k))), (a_p1_marks, .inl (cI, 8, .inl p1_marks))]) (fun u => ([(a_this, .inr (4, [.ref a_ring, .int next, .int count])), (a_ring, .inl (cO, 20, .inr (.inr (.inr (.inr (fun k => some (ra k))))))), (a_p1, .inr (1, [.ref a_p1_marks, .int u.2.1, .int u.2.2.1, .int u.2.2.2.1, .int u.2.2.2.2.1, .int u.2.2.2.2.2])), (a_p1_marks, .inl (cI, 8, .inl u.1))] ++ xpl cI ra rm rk rp rl rs rn rd)) ⟨hx, hb, hml, hown, hts⟩ (c_X1_become l D cI cZ cO hw) (cwV 1 hts gX4_popInto_X1_become rfl rfl rfl (by decide +kernel) ⟨Nat.le_of_ble_eq_true rfl, Nat.le_of_ble_eq_true rfl⟩) hKK hP hD hS hA [2, 4 + k, 24 + k, 3] ?_ ?_ ?_ ?_ rfl g2 rfl hl.1 rfl (Nat.le_of_ble_eq_true rfl) dX4_popInto_39 ⟨Nat.zero_le _, Nat.zero_le _⟩ (fun u_39 H locs hw hP hD hS => ?_)
        · simp only [List.map_cons, List.map_nil]
          rw [go k hk, gm k hk, g2, g3]
        · simp [va_nd]
          omega
        · intro u q hq
          simp only [xpl, List.mem_append, List.mem_cons, List.not_mem_nil, or_false, List.mem_map, List.mem_range] at hq
          rcases hq with (rfl | rfl | rfl | rfl) | ⟨j, hj, rfl⟩ | ⟨j, hj, rfl⟩
          · exact Or.inr ⟨List.mem_of_getElem? g0, fun r hr => by
          simp only [List.mem_cons, List.not_mem_nil, or_false] at hr
          rcases hr with rfl | rfl | rfl | rfl
          · exact (have hz := gX _ _ _ _ g2 g0 (by omega); hz)
          · exact (have hz := gX _ _ _ _ (go k hk) g0 (by omega); hz)
          · exact (have hz := gX _ _ _ _ (gm k hk) g0 (by omega); hz)
          · exact (have hz := gX _ _ _ _ g3 g0 (by omega); hz)⟩
          · exact Or.inr ⟨List.mem_of_getElem? g1, fun r hr => by
          simp only [List.mem_cons, List.not_mem_nil, or_false] at hr
          rcases hr with rfl | rfl | rfl | rfl
          · exact (have hz := gX _ _ _ _ g2 g1 (by omega); hz)
          · exact (have hz := gX _ _ _ _ (go k hk) g1 (by omega); hz)
          · exact (have hz := gX _ _ _ _ (gm k hk) g1 (by omega); hz)
          · exact (have hz := gX _ _ _ _ g3 g1 (by omega); hz)⟩
          · exact Or.inl (by simp)
          · exact Or.inl (by simp)
          · by_cases hjk : j = k
            · subst hjk
              exact Or.inl (by simp)
            · exact Or.inr ⟨List.mem_of_getElem? (go j hj), fun r hr => by
          simp only [List.mem_cons, List.not_mem_nil, or_false] at hr
          rcases hr with rfl | rfl | rfl | rfl
          · exact (have hz := gX _ _ _ _ g2 (go j hj) (by omega); hz)
          · exact (have hz := gX _ _ _ _ (go k hk) (go j hj) (by omega); hz)
          · exact (have hz := gX _ _ _ _ (gm k hk) (go j hj) (by omega); hz)
          · exact (have hz := gX _ _ _ _ g3 (go j hj) (by omega); hz)⟩
          · by_cases hjk : j = k
            · subst hjk
              exact Or.inl (by simp)
            · exact Or.inr ⟨List.mem_of_getElem? (gm j hj), fun r hr => by
          simp only [List.mem_cons, List.not_mem_nil, or_false] at hr
          rcases hr with rfl | rfl | rfl | rfl
          · exact (have hz := gX _ _ _ _ g2 (gm j hj) (by omega); hz)
          · exact (have hz := gX _ _ _ _ (go k hk) (gm j hj) (by omega); hz)
          · exact (have hz := gX _ _ _ _ (gm k hk) (gm j hj) (by omega); hz)
          · exact (have hz := gX _ _ _ _ g3 (gm j hj) (by omega); hz)⟩
        · intro u
          rw [List.map_append, List.map_append]
          rfl
        obtain ⟨marks, people, living, shown, spent, days⟩ := u_39
        try dsimp only at hw
        have hP : va_P D vwCl ([(a_this, .inr (4, [.ref a_ring, .int next, .int count])), (a_ring, .inl (cO, 20, .inr (.inr (.inr (.inr (fun k => some (ra k))))))), (a_p1, .inr (1, [.ref a_p1_marks, .int people, .int living, .int shown, .int spent, .int days])), (a_p1_marks, .inl (cI, 8, .inl marks))] ++ xpl cI ra rm rk rp rl rs rn rd) H := hP
        have hD : va_D A ([(a_this, .inr (4, [.ref a_ring, .int next, .int count])), (a_ring, .inl (cO, 20, .inr (.inr (.inr (.inr (fun k => some (ra k))))))), (a_p1, .inr (1, [.ref a_p1_marks, .int people, .int living, .int shown, .int spent, .int days])), (a_p1_marks, .inl (cI, 8, .inl marks))] ++ xpl cI ra rm rk rp rl rs rn rd) := hD
        clear gX go gm g0 g1 g2 g3
        refine lv_aload_n hx hb dX4_popInto_42 rfl (lv_at hl 2 rfl) ?_
        refine lv_iload_n hx hb dX4_popInto_43 rfl (lv_at hl 1 rfl) ?_
        refine va_put (D := D) (ci := 4) (v := .int z) (ty := .int) (C := RX4) (T := TX4) (N := 3) hx hb hts hinX4 tyX4 tyX4_ok nmX4 hown hKK.1 hP hD hS 0 rfl rfl 1 (by decide) fl_17 (fun _ h9 => h9) rfl (by decide +kernel) rfl rfl (Nat.le_of_ble_eq_true rfl) dX4_popInto_44 (fun H locs hP hD hS => ?_)
        have hP : va_P D vwCl ([(a_this, .inr (4, [.ref a_ring, .int z, .int count])), (a_ring, .inl (cO, 20, .inr (.inr (.inr (.inr (fun k => some (ra k))))))), (a_p1, .inr (1, [.ref a_p1_marks, .int people, .int living, .int shown, .int spent, .int days])), (a_p1_marks, .inl (cI, 8, .inl marks))] ++ xpl cI ra rm rk rp rl rs rn rd) H := hP
        have hD : va_D A ([(a_this, .inr (4, [.ref a_ring, .int z, .int count])), (a_ring, .inl (cO, 20, .inr (.inr (.inr (.inr (fun k => some (ra k))))))), (a_p1, .inr (1, [.ref a_p1_marks, .int people, .int living, .int shown, .int spent, .int days])), (a_p1_marks, .inl (cI, 8, .inl marks))] ++ xpl cI ra rm rk rp rl rs rn rd) := hD
        refine lv_aload_n hx hb dX4_popInto_47 rfl (lv_at hl 2 rfl) ?_
        refine lv_dup hx hb dX4_popInto_48 rfl ?_
        refine va_get (D := D) (ci := 4) (v := .int count) (C := RX4) (T := TX4) (N := 3) hx hb hts hinX4 hown hKK.1 hP 0 rfl rfl 2 (by decide) fl_21 (fun _ h9 => h9) rfl dX4_popInto_49 ?_
        refine lv_iconst (v := 1) hx hb dX4_popInto_52 (by decide) ?_
        refine lv_isub hx hb dX4_popInto_53 ?_
        refine va_put (D := D) (ci := 4) (v := .int (count - 1)) (ty := .int) (C := RX4) (T := TX4) (N := 3) hx hb hts hinX4 tyX4 tyX4_ok nmX4 hown hKK.1 hP hD hS 0 rfl rfl 2 (by decide) fl_21 (fun _ h9 => h9) rfl (by decide +kernel) rfl rfl (Nat.le_of_ble_eq_true rfl) dX4_popInto_54 (fun H locs hP hD hS => ?_)
        have hP : va_P D vwCl ([(a_this, .inr (4, [.ref a_ring, .int z, .int (count - 1)])), (a_ring, .inl (cO, 20, .inr (.inr (.inr (.inr (fun k => some (ra k))))))), (a_p1, .inr (1, [.ref a_p1_marks, .int people, .int living, .int shown, .int spent, .int days])), (a_p1_marks, .inl (cI, 8, .inl marks))] ++ xpl cI ra rm rk rp rl rs rn rd) H := hP
        have hD : va_D A ([(a_this, .inr (4, [.ref a_ring, .int z, .int (count - 1)])), (a_ring, .inl (cO, 20, .inr (.inr (.inr (.inr (fun k => some (ra k))))))), (a_p1, .inr (1, [.ref a_p1_marks, .int people, .int living, .int shown, .int spent, .int days])), (a_p1_marks, .inl (cI, 8, .inl marks))] ++ xpl cI ra rm rk rp rl rs rn rd) := hD
        rw [hQ]
        exact W.vret hx hb hr (fun t ht hW => ⟨⟨⟨z, (count - 1), marks, people, living, shown, spent, days⟩, rfl, hw, by rw [ht]; exact hP, hD⟩, hS.F ht⟩) hS.2.2 dX4_popInto_57
      · have hw := hw.1 c_33
        rw [hQ]
        exact W.vret hx hb hr (fun t ht hW => ⟨⟨⟨next, count, p1_marks, p1_people, p1_living, p1_shown, p1_spent, p1_days⟩, rfl, hw, by rw [ht]; exact hP, hD⟩, hS.F ht⟩) hS.2.2 dX4_popInto_36
    · have hw := hw.1 rfl
      refine lv_astore_nN (lv' := [(3, .null), (2, .int z), (0, .ref a_this), (1, .ref a_p1)]) hx hb dX4_popInto_24 rfl hl (by decide) rfl (fun ls hl => ?_)
      refine lv_aload_nN hx hb dX4_popInto_25 rfl (lv_at hl 0 rfl) ?_
      refine lv_ifnullN (tgt := 36) hx hb dX4_popInto_26 (by decide) ?_
      rw [hQ]
      exact W.vret hx hb hr (fun t ht hW => ⟨⟨⟨next, count, p1_marks, p1_people, p1_living, p1_shown, p1_spent, p1_days⟩, rfl, hw, by rw [ht]; exact hP, hD⟩, hS.F ht⟩) hS.2.2 dX4_popInto_36
  refine lv_aload_n hx hb dX4_popInto_0 rfl (lv_at hl 0 rfl) ?_
  refine va_get (D := D) (ci := 4) (v := .int next) (C := RX4) (T := TX4) (N := 3) hx hb hts hinX4 hown hKK.1 hP 0 rfl rfl 1 (by decide) fl_17 (fun _ h9 => h9) rfl dX4_popInto_1 ?_
  refine lv_if_le (tgt := 16) hx hb dX4_popInto_4 (by decide) (fun c_4 => ?_) (fun c_4 => ?_)
  · have hw := hw.1 c_4
    refine lv_bipush (v := 19) hx hb dX4_popInto_16 (by decide) ?_
    exact tail _ hw
  · have hw := hw.2 c_4
    refine lv_aload_n hx hb dX4_popInto_7 rfl (lv_at hl 0 rfl) ?_
    refine va_get (D := D) (ci := 4) (v := .int next) (C := RX4) (T := TX4) (N := 3) hx hb hts hinX4 hown hKK.1 hP 0 rfl rfl 1 (by decide) fl_17 (fun _ h9 => h9) rfl dX4_popInto_8 ?_
    refine lv_iconst (v := 1) hx hb dX4_popInto_11 (by decide) ?_
    refine lv_isub hx hb dX4_popInto_12 ?_
    refine lv_goto (tgt := 18) hx hb dX4_popInto_13 (by decide) ?_
    exact tail _ hw
