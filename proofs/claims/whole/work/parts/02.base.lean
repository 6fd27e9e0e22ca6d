/-! the base of the walks: what every contract asks of the tables, and calls in one row -/
/-- the nest links that the class's methods use, and the array class of the ring -/
def xNW (U : State) : Prop :=
  va_Nw (.methodLinkNest RX7 9 yX5_init RX7) U ∧ va_Nw (.methodLinkNest RX7 18 yX1_init RX7) U ∧ va_Nw (.methodLinkNest RX4 24 yX1_init RX7) U ∧ va_Nw (.methodLinkNest RX7 32 yX3_init RX7) U ∧ va_Nw (.methodLinkNest RX3 9 yX1_init RX7) U ∧ va_Nw (.methodLinkNest RX7 42 yX6_init RX7) U ∧ va_Nw (.methodLinkNest RX7 49 yX0_init RX7) U ∧ va_Nw (.methodLinkNest RX7 60 yX2_init RX7) U ∧ va_Nw (.methodLinkNest RX5 28 yX7_put RX7) U ∧ va_Nw (.methodLinkNest RX2 43 yX7_put RX7) U ∧ va_Nw (.methodLinkNest RX5 44 yX7_at RX7) U ∧ va_Nw (.methodLinkNest RX5 93 yX7_within RX7) U ∧ va_Nw (.methodLinkNest RX1 39 yX7_at RX7) U ∧ va_Nw (.methodLinkNest RX1 43 yX7_put RX7) U ∧ va_Nw (.methodLinkNest RX2 51 yX7_at RX7) U ∧ va_Nw (.methodLinkNest RX1 47 yX7_holds RX7) U ∧ va_Nw (.methodLinkNest RX2 54 yX7_holds RX7) U ∧ va_Nw (.methodLinkNest RX1 101 yX7_leastOf RX7) U ∧ va_Nw (.methodLinkNest RX0 22 yX7_put RX7) U ∧ va_Nw (.methodLinkNest RX0 26 yX7_at RX7) U ∧ va_Nw (.methodLinkNest RX6 22 yX7_put RX7) U ∧ va_Nw (.methodLinkNest RX6 26 yX7_at RX7) U ∧ va_Nw (.methodLinkNest RX6 36 yX7_holds RX7) U ∧ va_AO RX1 U
theorem xn_0 {U : State} (h : xNW U) : va_Nw (.methodLinkNest RX7 9 yX5_init RX7) U := h.1
theorem xn_1 {U : State} (h : xNW U) : va_Nw (.methodLinkNest RX7 18 yX1_init RX7) U := h.2.1
theorem xn_2 {U : State} (h : xNW U) : va_Nw (.methodLinkNest RX4 24 yX1_init RX7) U := h.2.2.1
theorem xn_3 {U : State} (h : xNW U) : va_Nw (.methodLinkNest RX7 32 yX3_init RX7) U := h.2.2.2.1
theorem xn_4 {U : State} (h : xNW U) : va_Nw (.methodLinkNest RX3 9 yX1_init RX7) U := h.2.2.2.2.1
theorem xn_5 {U : State} (h : xNW U) : va_Nw (.methodLinkNest RX7 42 yX6_init RX7) U := h.2.2.2.2.2.1
theorem xn_6 {U : State} (h : xNW U) : va_Nw (.methodLinkNest RX7 49 yX0_init RX7) U := h.2.2.2.2.2.2.1
theorem xn_7 {U : State} (h : xNW U) : va_Nw (.methodLinkNest RX7 60 yX2_init RX7) U := h.2.2.2.2.2.2.2.1
theorem xn_8 {U : State} (h : xNW U) : va_Nw (.methodLinkNest RX5 28 yX7_put RX7) U := h.2.2.2.2.2.2.2.2.1
theorem xn_9 {U : State} (h : xNW U) : va_Nw (.methodLinkNest RX2 43 yX7_put RX7) U := h.2.2.2.2.2.2.2.2.2.1
theorem xn_10 {U : State} (h : xNW U) : va_Nw (.methodLinkNest RX5 44 yX7_at RX7) U := h.2.2.2.2.2.2.2.2.2.2.1
theorem xn_11 {U : State} (h : xNW U) : va_Nw (.methodLinkNest RX5 93 yX7_within RX7) U := h.2.2.2.2.2.2.2.2.2.2.2.1
theorem xn_12 {U : State} (h : xNW U) : va_Nw (.methodLinkNest RX1 39 yX7_at RX7) U := h.2.2.2.2.2.2.2.2.2.2.2.2.1
theorem xn_13 {U : State} (h : xNW U) : va_Nw (.methodLinkNest RX1 43 yX7_put RX7) U := h.2.2.2.2.2.2.2.2.2.2.2.2.2.1
theorem xn_14 {U : State} (h : xNW U) : va_Nw (.methodLinkNest RX2 51 yX7_at RX7) U := h.2.2.2.2.2.2.2.2.2.2.2.2.2.2.1
theorem xn_15 {U : State} (h : xNW U) : va_Nw (.methodLinkNest RX1 47 yX7_holds RX7) U := h.2.2.2.2.2.2.2.2.2.2.2.2.2.2.2.1
theorem xn_16 {U : State} (h : xNW U) : va_Nw (.methodLinkNest RX2 54 yX7_holds RX7) U := h.2.2.2.2.2.2.2.2.2.2.2.2.2.2.2.2.1
theorem xn_17 {U : State} (h : xNW U) : va_Nw (.methodLinkNest RX1 101 yX7_leastOf RX7) U := h.2.2.2.2.2.2.2.2.2.2.2.2.2.2.2.2.2.1
theorem xn_18 {U : State} (h : xNW U) : va_Nw (.methodLinkNest RX0 22 yX7_put RX7) U := h.2.2.2.2.2.2.2.2.2.2.2.2.2.2.2.2.2.2.1
theorem xn_19 {U : State} (h : xNW U) : va_Nw (.methodLinkNest RX0 26 yX7_at RX7) U := h.2.2.2.2.2.2.2.2.2.2.2.2.2.2.2.2.2.2.2.1
theorem xn_20 {U : State} (h : xNW U) : va_Nw (.methodLinkNest RX6 22 yX7_put RX7) U := h.2.2.2.2.2.2.2.2.2.2.2.2.2.2.2.2.2.2.2.2.1
theorem xn_21 {U : State} (h : xNW U) : va_Nw (.methodLinkNest RX6 26 yX7_at RX7) U := h.2.2.2.2.2.2.2.2.2.2.2.2.2.2.2.2.2.2.2.2.2.1
theorem xn_22 {U : State} (h : xNW U) : va_Nw (.methodLinkNest RX6 36 yX7_holds RX7) U := h.2.2.2.2.2.2.2.2.2.2.2.2.2.2.2.2.2.2.2.2.2.2.1
theorem xn_AO {U : State} (h : xNW U) : va_AO RX1 U := h.2.2.2.2.2.2.2.2.2.2.2.2.2.2.2.2.2.2.2.2.2.2.2
theorem xNW.warm {s U : State} (hW : s.WarmedH U.vm) (h : xNW s) : xNW U := by
  obtain ⟨h0, h1, h2, h3, h4, h5, h6, h7, h8, h9, h10, h11, h12, h13, h14, h15, h16, h17, h18, h19, h20, h21, h22, h23⟩ := h
  exact ⟨va_Nw.warmM hW h0, va_Nw.warmM hW h1, va_Nw.warmM hW h2, va_Nw.warmM hW h3, va_Nw.warmM hW h4, va_Nw.warmM hW h5, va_Nw.warmM hW h6, va_Nw.warmM hW h7, va_Nw.warmM hW h8, va_Nw.warmM hW h9, va_Nw.warmM hW h10, va_Nw.warmM hW h11, va_Nw.warmM hW h12, va_Nw.warmM hW h13, va_Nw.warmM hW h14, va_Nw.warmM hW h15, va_Nw.warmM hW h16, va_Nw.warmM hW h17, va_Nw.warmM hW h18, va_Nw.warmM hW h19, va_Nw.warmM hW h20, va_Nw.warmM hW h21, va_Nw.warmM hW h22, va_AO.moved hW.alike h23⟩
theorem xNW.same {s U : State} (hW : s.vm = U.vm) (h : xNW s) : xNW U := by
  obtain ⟨h0, h1, h2, h3, h4, h5, h6, h7, h8, h9, h10, h11, h12, h13, h14, h15, h16, h17, h18, h19, h20, h21, h22, h23⟩ := h
  exact ⟨va_Nw.same rfl hW h0, va_Nw.same rfl hW h1, va_Nw.same rfl hW h2, va_Nw.same rfl hW h3, va_Nw.same rfl hW h4, va_Nw.same rfl hW h5, va_Nw.same rfl hW h6, va_Nw.same rfl hW h7, va_Nw.same rfl hW h8, va_Nw.same rfl hW h9, va_Nw.same rfl hW h10, va_Nw.same rfl hW h11, va_Nw.same rfl hW h12, va_Nw.same rfl hW h13, va_Nw.same rfl hW h14, va_Nw.same rfl hW h15, va_Nw.same rfl hW h16, va_Nw.same rfl hW h17, va_Nw.same rfl hW h18, va_Nw.same rfl hW h19, va_Nw.same rfl hW h20, va_Nw.same rfl hW h21, va_Nw.same rfl hW h22, va_AO.moved (by rw [hW]; exact Vm.Alike.refl _) h23⟩
abbrev xTy (cI cZ cO : ClassId) : List (ClassId × FieldType) := [(cI, .int), (cZ, .boolean), (cO, .object RX1)]
/-- what holds of the tables in every method: the classes, the arrays' classes, the nest links -/
def xKK (D : va_G) (cI cZ cO : ClassId) (U : State) : Prop := va_K D vwCl (xTy cI cZ cO) U ∧ xNW U
theorem xKK.warm {D : va_G} {cI cZ cO : ClassId} {s U : State} (hW : s.WarmedH U.vm) (h : xKK D cI cZ cO s) : xKK D cI cZ cO U := ⟨va_K.moved hW.alike h.1, h.2.warm hW⟩
theorem xKK.call {D : va_G} {cI cZ cO : ClassId} {U : State} {g : JFrame} {mk : MethodId} {a : Array Value} (h : xKK D cI cZ cO U) : xKK D cI cZ cO (U.calling g mk a) := ⟨va_K.moved (u := U) (U := U.calling g mk a) (Vm.Alike.refl U.vm) h.1, h.2.same rfl⟩
/-- a start: of a method that only reads; of one that writes -/
abbrev xPR (D : va_G) (cI cZ cO : ClassId) (av : List Value) (wc : va_W) : Array Value → State → Prop := va_Pc av (fun U => va_P D vwCl wc U.heap ∧ xKK D cI cZ cO U)
abbrev xPW (D : va_G) (cI cZ cO : ClassId) (av : List Value) (sz : Nat) (wc : va_W) : Array Value → State → Prop := va_Pc av (fun U => U.heap.size = sz ∧ va_P D vwCl wc U.heap ∧ xKK D cI cZ cO U ∧ va_D (fun _ => True) wc)
/-- an end of a method that writes: what its cells are then -/
abbrev xB {S : Type} (D : va_G) (A : Nat → Prop) (w1 : S → va_W) : S → State → Prop := fun u t => va_P D vwCl (w1 u) t.heap ∧ va_D A (w1 u)
theorem xPR.blind {D : va_G} {cI cZ cO : ClassId} {av : List Value} {wc : va_W} : FrameBlind (xPR D cI cZ cO av wc) := fun _ _ _ _ q => ⟨q.1, q.2.1, q.2.2.call⟩
theorem xPW.blind {D : va_G} {cI cZ cO : ClassId} {av : List Value} {sz : Nat} {wc : va_W} : FrameBlind (xPW D cI cZ cO av sz wc) := fun _ _ _ _ q => ⟨q.1, q.2.1, q.2.2.1, q.2.2.2.1.call, q.2.2.2.2⟩
section XC
variable {p : Program} {l : Launch} {e : Env} {R : Room} {s : State} {m : MethodId} {args : Array Value} {below : List Frame} {meth : Method} {c : Code} {H H0 : Heap} {locs : List Loc} {cells slots : Nat} {Q : State → Prop}
variable {cc : ByteArray} {pc : Nat} {ls : Array Slot} {rest st0 : List Value} {D : va_G} {cI cZ cO : ClassId} {A : Nat → Prop} {wsW wc wr : va_W} {b : Addr} {As : List Value}
variable {y : MethodName} {bytes : ByteArray} {maxL nL n index : Nat} {ret : Option FieldType} {ws Ts : List Cond} {rm : Room} {own C : String} {ci q0 : Nat} {q : vw_C} {fs : List Value}
/-- a call of a virtual method that only reads and answers a number -/
theorem xcVi {Φ : Int32 → Prop} (S : CallFix p m c cc nL s args Ts own) (hM : Met l y ws rm (xPR D cI cZ cO (.ref b :: As) wc) (vp_Si Φ) 0 0 (fun _ => False)) (cw : CallW R s args own q.1 index y bytes maxL ret ws rm 0 0 n) (hKK : xKK D cI cZ cO s) (hP : va_P D vwCl wsW H) (is : List Nat) (hC : is.filterMap (fun i => wsW[i]?) = wc) (hc : vwCl[ci]? = some q) (he : wsW[q0]? = some (b, .inr (ci, fs)))
    (hn : As.length = n) (hsz : ls.size = nL) (hst : st0 = As.reverse ++ .ref b :: rest) (hW8 : (rest.map fun v => v.category).sum ≤ 8) (hdg : decode cc pc = .ok (.invokevirtual index, 3)) (hcl : cells ≤ R.cells ∧ slots ≤ R.slots)
    (kk : ∀ r, Φ r → W p l e R s m args below meth c H locs cells slots Q (F0 m (pc + 3) ls (.int r :: rest))) : W p l e R s m args below meth c H locs cells slots Q (F0 m pc ls st0) := by
  subst hst
  exact vp_callSi (va_runV (C := q.1) (As := As) (b := b) (rest := rest) S hM cw ⟨xPR.blind, va_recv hKK.1 hP hc he, fun U hU hWm => ⟨rfl, by rw [hU]; exact hP.sub is hC, hKK.warm hWm⟩⟩ rfl hn hsz rfl (lv_room hW8) hdg hcl).run kk
/-- of a static one -/
theorem xcSi {Φ : Int32 → Prop} (S : CallFix p m c cc nL s args Ts own) (hM : Met l y ws rm (xPR D cI cZ cO As wc) (vp_Si Φ) 0 0 (fun _ => False)) (cw : CallB R s args own index y bytes maxL ret ws rm 0 0 n ∧ (Cond.static y).before args s = true) (hKK : xKK D cI cZ cO s) (hP : va_P D vwCl wsW H) (is : List Nat) (hC : is.filterMap (fun i => wsW[i]?) = wc)
    (hn : As.length = n) (hsz : ls.size = nL) (hst : st0 = As.reverse ++ rest) (hW8 : (rest.map fun v => v.category).sum ≤ 8) (hdg : decode cc pc = .ok (.invokestatic index, 3)) (hcl : cells ≤ R.cells ∧ slots ≤ R.slots)
    (kk : ∀ r, Φ r → W p l e R s m args below meth c H locs cells slots Q (F0 m (pc + 3) ls (.int r :: rest))) : W p l e R s m args below meth c H locs cells slots Q (F0 m pc ls st0) := by
  subst hst
  exact vp_callSi (va_runS (As := As) (rest := rest) S hM cw ⟨xPR.blind, fun U hU hWm => ⟨rfl, by rw [hU]; exact hP.sub is hC, hKK.warm hWm⟩⟩ rfl hn hsz rfl (lv_room hW8) hdg hcl).run kk
/-- of a private static one of the nest's host -/
theorem xcNi {Φ : Int32 → Prop} {host : String} (S : CallFix p m c cc nL s args Ts own) (hM : Met l y ws rm (xPR D cI cZ cO As wc) (vp_Si Φ) 0 0 (fun _ => False)) (cw : va_CN R s args own index y host bytes maxL ret ws rm 0 0 n ∧ (Cond.static y).before args s = true ∧ True) (hKK : xKK D cI cZ cO s) (hP : va_P D vwCl wsW H) (is : List Nat) (hC : is.filterMap (fun i => wsW[i]?) = wc)
    (hn : As.length = n) (hsz : ls.size = nL) (hst : st0 = As.reverse ++ rest) (hW8 : (rest.map fun v => v.category).sum ≤ 8) (hdg : decode cc pc = .ok (.invokestatic index, 3)) (hcl : cells ≤ R.cells ∧ slots ≤ R.slots)
    (kk : ∀ r, Φ r → W p l e R s m args below meth c H locs cells slots Q (F0 m (pc + 3) ls (.int r :: rest))) : W p l e R s m args below meth c H locs cells slots Q (F0 m pc ls st0) := by
  subst hst
  exact vp_callSi (va_runSN (As := As) (rest := rest) S hM cw ⟨xPR.blind, fun U hU hWm => ⟨rfl, by rw [hU]; exact hP.sub is hC, hKK.warm hWm⟩⟩ rfl hn hsz rfl (lv_room hW8) hdg hcl).run kk
theorem x_subP {wsN : va_W} {H : Heap} {wsX : va_W} (h : va_P D vwCl wsX H) (is : List Nat) (hs : is.map (fun i => wsX[i]?) = wsN.map some) : va_P D vwCl wsN H := by
  refine h.sub is ?_
  have h1 : is.filterMap (fun i => wsX[i]?) = (is.map (fun i => wsX[i]?)).filterMap id := by rw [List.filterMap_map]; rfl
  rw [h1, hs, List.filterMap_map]
  simp
/-- the world behind a call that writes -/
theorem x_joined {T : Type} {w1 wsN : T → va_W} {H1 : Heap} (hP : va_P D vwCl wsW H) (hD : va_D A wsW) (isC isR pm : List Nat) (hC : isC.map (fun i => wsW[i]?) = wc.map some) (hR : isR.map (fun i => wsW[i]?) = wr.map some) (hn1 : va_nd isR = true) (hn2 : va_nd pm = true) (hdis : ∀ i ∈ isR, i ∉ isC)
    (hpm : ∀ u : T, pm.map (fun i => (wr ++ w1 u)[i]?) = (wsN u).map some) (hk : ∀ q : Nat, q < H.size → ¬ va_A wc H.size q → H1[q]? = H[q]?) (hF : ∀ q, va_A wc H.size q → A q) (u : T) (h1 : va_P D vwCl (w1 u) H1) (h2 : va_D (va_A wc H.size) (w1 u)) : va_P D vwCl (wsN u) H1 ∧ va_D A (wsN u) := by
  obtain ⟨g1, g2⟩ := va_join hP hD isC isR hC hR hn1 hdis hk hF h1 h2
  exact ⟨x_subP g1 pm (hpm u), g2.sub pm hn2 (hpm u)⟩
/-- a call of a virtual method that writes and answers a number -/
theorem xwVi {T : Type} {Φ : Int32 → T → Prop} {w1 : T → va_W} (wsN : T → va_W) (S : CallFix p m c cc nL s args Ts own) (hM : Met l y ws rm (xPW D cI cZ cO (.ref b :: As) H.size wc) (va_Qi Φ (xB D (va_A wc H.size) w1) (va_A wc H.size)) 0 0 (va_A wc H.size)) (cw : CallW R s args own q.1 index y bytes maxL ret ws rm 0 0 n) (hKK : xKK D cI cZ cO s) (hP : va_P D vwCl wsW H) (hD : va_D A wsW) (hS : va_S A H0 H locs) (hA : ∀ q, H0.size ≤ q → A q) (isC isR pm : List Nat) (hC : isC.map (fun i => wsW[i]?) = wc.map some) (hR : isR.map (fun i => wsW[i]?) = wr.map some) (hn0 : va_nd isC = true) (hn1 : va_nd isR = true) (hn2 : va_nd pm = true) (hdis : ∀ i ∈ isR, i ∉ isC)
    (hpm : ∀ u : T, pm.map (fun i => (wr ++ w1 u)[i]?) = (wsN u).map some) (hc : vwCl[ci]? = some q) (he : wsW[q0]? = some (b, .inr (ci, fs)))
    (hn : As.length = n) (hsz : ls.size = nL) (hst : st0 = As.reverse ++ .ref b :: rest) (hW8 : (rest.map fun v => v.category).sum ≤ 8) (hdg : decode cc pc = .ok (.invokevirtual index, 3)) (hcl : cells ≤ R.cells ∧ slots ≤ R.slots)
    (kk : ∀ (r : Int32) (u : T) (H1 : Heap) (locs1 : List Loc), Φ r u → va_P D vwCl (wsN u) H1 → va_D A (wsN u) → va_S A H0 H1 locs1 → W p l e R s m args below meth c H1 locs1 cells slots Q (F0 m (pc + 3) ls (.int r :: rest))) : W p l e R s m args below meth c H locs cells slots Q (F0 m pc ls st0) := by
  subst hst
  have hFc := va_free hD hS hA isC hC
  have hPc := x_subP hP isC hC
  have hDc := hD.sub isC hn0 hC
  refine va_calli (va_runV (C := q.1) (As := As) (b := b) (rest := rest) S hM cw ⟨xPW.blind, va_recv hKK.1 hP hc he, fun U hU hWm => ⟨rfl, by rw [hU], by rw [hU]; exact hPc, hKK.warm hWm, hDc.weaken (fun _ _ _ _ => trivial)⟩⟩ rfl hn hsz rfl (lv_room hW8) hdg hcl) hS (fun q _ h => hFc q h) hFc (fun r u t H1 locs1 ht hvm hw hB hz1 hk1 hS1 => ?_)
  obtain ⟨hP1, hD1⟩ := hB
  rw [ht] at hP1
  obtain ⟨g1, g2⟩ := x_joined hP hD isC isR pm hC hR hn1 hn2 hdis hpm hk1 hFc u hP1 hD1
  exact kk r u H1 locs1 hw g1 g2 hS1
/-- and one that answers nothing -/
theorem xwVv {T : Type} {Φ : T → Prop} {w1 : T → va_W} (wsN : T → va_W) (S : CallFix p m c cc nL s args Ts own) (hM : Met l y ws rm (xPW D cI cZ cO (.ref b :: As) H.size wc) (va_Qv Φ (xB D (va_A wc H.size) w1) (va_A wc H.size)) 0 0 (va_A wc H.size)) (cw : CallW R s args own q.1 index y bytes maxL ret ws rm 0 0 n) (hKK : xKK D cI cZ cO s) (hP : va_P D vwCl wsW H) (hD : va_D A wsW) (hS : va_S A H0 H locs) (hA : ∀ q, H0.size ≤ q → A q) (isC isR pm : List Nat) (hC : isC.map (fun i => wsW[i]?) = wc.map some) (hR : isR.map (fun i => wsW[i]?) = wr.map some) (hn0 : va_nd isC = true) (hn1 : va_nd isR = true) (hn2 : va_nd pm = true) (hdis : ∀ i ∈ isR, i ∉ isC)
    (hpm : ∀ u : T, pm.map (fun i => (wr ++ w1 u)[i]?) = (wsN u).map some) (hc : vwCl[ci]? = some q) (he : wsW[q0]? = some (b, .inr (ci, fs)))
    (hn : As.length = n) (hsz : ls.size = nL) (hst : st0 = As.reverse ++ .ref b :: rest) (hW8 : (rest.map fun v => v.category).sum ≤ 8) (hdg : decode cc pc = .ok (.invokevirtual index, 3)) (hcl : cells ≤ R.cells ∧ slots ≤ R.slots)
    (kk : ∀ (u : T) (H1 : Heap) (locs1 : List Loc), Φ u → va_P D vwCl (wsN u) H1 → va_D A (wsN u) → va_S A H0 H1 locs1 → W p l e R s m args below meth c H1 locs1 cells slots Q (F0 m (pc + 3) ls rest)) : W p l e R s m args below meth c H locs cells slots Q (F0 m pc ls st0) := by
  subst hst
  have hFc := va_free hD hS hA isC hC
  have hPc := x_subP hP isC hC
  have hDc := hD.sub isC hn0 hC
  refine va_callv (va_runV (C := q.1) (As := As) (b := b) (rest := rest) S hM cw ⟨xPW.blind, va_recv hKK.1 hP hc he, fun U hU hWm => ⟨rfl, by rw [hU], by rw [hU]; exact hPc, hKK.warm hWm, hDc.weaken (fun _ _ _ _ => trivial)⟩⟩ rfl hn hsz rfl (lv_room hW8) hdg hcl) hS (fun q _ h => hFc q h) hFc (fun u t H1 locs1 ht hvm hw hB hz1 hk1 hS1 => ?_)
  obtain ⟨hP1, hD1⟩ := hB
  rw [ht] at hP1
  obtain ⟨g1, g2⟩ := x_joined hP hD isC isR pm hC hR hn1 hn2 hdis hpm hk1 hFc u hP1 hD1
  exact kk u H1 locs1 hw g1 g2 hS1
/-- a static method that writes and answers nothing -/
theorem xwSv {T : Type} {Φ : T → Prop} {w1 : T → va_W} (wsN : T → va_W) (S : CallFix p m c cc nL s args Ts own) (hM : Met l y ws rm (xPW D cI cZ cO As H.size wc) (va_Qv Φ (xB D (va_A wc H.size) w1) (va_A wc H.size)) 0 0 (va_A wc H.size)) (cw : CallB R s args own index y bytes maxL ret ws rm 0 0 n ∧ (Cond.static y).before args s = true) (hKK : xKK D cI cZ cO s) (hP : va_P D vwCl wsW H) (hD : va_D A wsW) (hS : va_S A H0 H locs) (hA : ∀ q, H0.size ≤ q → A q) (isC isR pm : List Nat) (hC : isC.map (fun i => wsW[i]?) = wc.map some) (hR : isR.map (fun i => wsW[i]?) = wr.map some) (hn0 : va_nd isC = true) (hn1 : va_nd isR = true) (hn2 : va_nd pm = true) (hdis : ∀ i ∈ isR, i ∉ isC)
    (hpm : ∀ u : T, pm.map (fun i => (wr ++ w1 u)[i]?) = (wsN u).map some)
    (hn : As.length = n) (hsz : ls.size = nL) (hst : st0 = As.reverse ++ rest) (hW8 : (rest.map fun v => v.category).sum ≤ 8) (hdg : decode cc pc = .ok (.invokestatic index, 3)) (hcl : cells ≤ R.cells ∧ slots ≤ R.slots)
    (kk : ∀ (u : T) (H1 : Heap) (locs1 : List Loc), Φ u → va_P D vwCl (wsN u) H1 → va_D A (wsN u) → va_S A H0 H1 locs1 → W p l e R s m args below meth c H1 locs1 cells slots Q (F0 m (pc + 3) ls rest)) : W p l e R s m args below meth c H locs cells slots Q (F0 m pc ls st0) := by
  subst hst
  have hFc := va_free hD hS hA isC hC
  have hPc := x_subP hP isC hC
  have hDc := hD.sub isC hn0 hC
  refine va_callv (va_runS (As := As) (rest := rest) S hM cw ⟨xPW.blind, fun U hU hWm => ⟨rfl, by rw [hU], by rw [hU]; exact hPc, hKK.warm hWm, hDc.weaken (fun _ _ _ _ => trivial)⟩⟩ rfl hn hsz rfl (lv_room hW8) hdg hcl) hS (fun q _ h => hFc q h) hFc (fun u t H1 locs1 ht hvm hw hB hz1 hk1 hS1 => ?_)
  obtain ⟨hP1, hD1⟩ := hB
  rw [ht] at hP1
  obtain ⟨g1, g2⟩ := x_joined hP hD isC isR pm hC hR hn1 hn2 hdis hpm hk1 hFc u hP1 hD1
  exact kk u H1 locs1 hw g1 g2 hS1
/-- a private static one of the nest's host -/
theorem xwNv {T : Type} {Φ : T → Prop} {w1 : T → va_W} {host : String} (wsN : T → va_W) (S : CallFix p m c cc nL s args Ts own) (hM : Met l y ws rm (xPW D cI cZ cO As H.size wc) (va_Qv Φ (xB D (va_A wc H.size) w1) (va_A wc H.size)) 0 0 (va_A wc H.size)) (cw : va_CN R s args own index y host bytes maxL ret ws rm 0 0 n ∧ (Cond.static y).before args s = true ∧ True) (hKK : xKK D cI cZ cO s) (hP : va_P D vwCl wsW H) (hD : va_D A wsW) (hS : va_S A H0 H locs) (hA : ∀ q, H0.size ≤ q → A q) (isC isR pm : List Nat) (hC : isC.map (fun i => wsW[i]?) = wc.map some) (hR : isR.map (fun i => wsW[i]?) = wr.map some) (hn0 : va_nd isC = true) (hn1 : va_nd isR = true) (hn2 : va_nd pm = true) (hdis : ∀ i ∈ isR, i ∉ isC)
    (hpm : ∀ u : T, pm.map (fun i => (wr ++ w1 u)[i]?) = (wsN u).map some)
    (hn : As.length = n) (hsz : ls.size = nL) (hst : st0 = As.reverse ++ rest) (hW8 : (rest.map fun v => v.category).sum ≤ 8) (hdg : decode cc pc = .ok (.invokestatic index, 3)) (hcl : cells ≤ R.cells ∧ slots ≤ R.slots)
    (kk : ∀ (u : T) (H1 : Heap) (locs1 : List Loc), Φ u → va_P D vwCl (wsN u) H1 → va_D A (wsN u) → va_S A H0 H1 locs1 → W p l e R s m args below meth c H1 locs1 cells slots Q (F0 m (pc + 3) ls rest)) : W p l e R s m args below meth c H locs cells slots Q (F0 m pc ls st0) := by
  subst hst
  have hFc := va_free hD hS hA isC hC
  have hPc := x_subP hP isC hC
  have hDc := hD.sub isC hn0 hC
  refine va_callv (va_runSN (As := As) (rest := rest) S hM cw ⟨xPW.blind, fun U hU hWm => ⟨rfl, by rw [hU], by rw [hU]; exact hPc, hKK.warm hWm, hDc.weaken (fun _ _ _ _ => trivial)⟩⟩ rfl hn hsz rfl (lv_room hW8) hdg hcl) hS (fun q _ h => hFc q h) hFc (fun u t H1 locs1 ht hvm hw hB hz1 hk1 hS1 => ?_)
  obtain ⟨hP1, hD1⟩ := hB
  rw [ht] at hP1
  obtain ⟨g1, g2⟩ := x_joined hP hD isC isR pm hC hR hn1 hn2 hdis hpm hk1 hFc u hP1 hD1
  exact kk u H1 locs1 hw g1 g2 hS1
end XC
/-- a number that a boolean's place can hold -/
def xvz (v : Int32) : Prop := narrow .boolean (.int v) = .int v
theorem xvz_0 : xvz 0 := rfl
theorem xvz_1 : xvz 1 := rfl
