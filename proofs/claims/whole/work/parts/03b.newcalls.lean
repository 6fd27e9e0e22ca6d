/-! calls of constructors -/
section XI
variable {p : Program} {l : Launch} {e : Env} {R : Room} {s : State} {m : MethodId} {args : Array Value} {below : List Frame} {meth : Method} {c : Code} {H H0 : Heap} {locs : List Loc} {cells slots : Nat} {Q : State → Prop}
variable {cc : ByteArray} {pc : Nat} {ls : Array Slot} {rest st0 : List Value} {D : va_G} {cI cZ cO : ClassId} {A : Nat → Prop} {wsW X pl wc wr : va_W} {b : Addr}
variable {y : MethodName} {bytes : ByteArray} {maxL nL index mc ms : Nat} {ws Ts : List Cond} {rm : Room} {own : String}
/-- a private constructor of a nest mate -/
theorem xwIn {T : Type} {Φ : T → Prop} {w1 : T → va_W} {host : String} (wsN : T → va_W) (S : CallFix p m c cc nL s args Ts own) (hM : Met l y ws rm (xPW D cI cZ cO [.ref b] H.size wc) (va_Qv Φ (xB D (va_A wc H.size) w1) (va_A wc H.size)) mc ms (va_A wc H.size)) (cw : va_CN R s args own index y host bytes maxL none ws rm mc ms 0 ∧ y.name = "<init>" ∧ (Cond.instanceMethod y).before args s = true) (hKK : xKK D cI cZ cO s) (hP : va_P D vwCl wsW H) (hD : va_D A wsW) (hS : va_S A H0 H locs) (hA : ∀ q, H0.size ≤ q → A q) (isC isR pm : List Nat) (hC : isC.map (fun i => wsW[i]?) = wc.map some) (hR : isR.map (fun i => wsW[i]?) = wr.map some) (hn0 : va_nd isC = true) (hn1 : va_nd isR = true) (hn2 : va_nd pm = true) (hdis : ∀ i ∈ isR, i ∉ isC)
    (hpm : ∀ u : T, pm.map (fun i => (wr ++ w1 u)[i]?) = (wsN u).map some)
    (hsz : ls.size = nL) (hW8 : (rest.map fun v => v.category).sum ≤ 8) (hdg : decode cc pc = .ok (.invokespecial index, 3)) (hcl : cells + mc ≤ R.cells ∧ slots + ms ≤ R.slots)
    (kk : ∀ (u : T) (H1 : Heap) (locs1 : List Loc), Φ u → va_P D vwCl (wsN u) H1 → va_D A (wsN u) → va_S A H0 H1 locs1 → W p l e R s m args below meth c H1 locs1 (cells + mc) (slots + ms) Q (F0 m (pc + 3) ls rest)) : W p l e R s m args below meth c H locs cells slots Q (F0 m pc ls (.ref b :: rest)) := by
  have hFc := va_free hD hS hA isC hC
  have hPc := x_subP hP isC hC
  have hDc := hD.sub isC hn0 hC
  refine va_callv (va_runIN (As := []) (rest := rest) S hM cw ⟨xPW.blind, fun U hU hWm => ⟨rfl, by rw [hU], by rw [hU]; exact hPc, hKK.warm hWm, hDc.weaken (fun _ _ _ _ => trivial)⟩⟩ rfl rfl hsz rfl (lv_room hW8) hdg hcl) hS (fun q _ h => hFc q h) hFc (fun u t H1 locs1 ht hvm hw hB hz1 hk1 hS1 => ?_)
  obtain ⟨hP1, hD1⟩ := hB
  rw [ht] at hP1
  obtain ⟨g1, g2⟩ := x_joined hP hD isC isR pm hC hR hn1 hn2 hdis hpm hk1 hFc u hP1 hD1
  exact kk u H1 locs1 hw g1 g2 hS1
/-- the same beside the pool -/
theorem xwInQ {T : Type} {Φ : T → Prop} {w1 : T → va_W} {host : String} (wsN : T → va_W) (S : CallFix p m c cc nL s args Ts own) (hM : Met l y ws rm (xPW D cI cZ cO [.ref b] H.size wc) (va_Qv Φ (xB D (va_A wc H.size) w1) (va_A wc H.size)) mc ms (va_A wc H.size)) (cw : va_CN R s args own index y host bytes maxL none ws rm mc ms 0 ∧ y.name = "<init>" ∧ (Cond.instanceMethod y).before args s = true) (hKK : xKK D cI cZ cO s) (hP : va_P D vwCl (X ++ pl) H) (hD : va_D A (X ++ pl)) (hS : va_S A H0 H locs) (hA : ∀ q, H0.size ≤ q → A q) (isC isR pm : List Nat) (hC : isC.map (fun i => X[i]?) = wc.map some) (hR : isR.map (fun i => X[i]?) = wr.map some) (hn0 : va_nd isC = true) (hn1 : va_nd isR = true) (hn2 : va_nd pm = true) (hdis : ∀ i ∈ isR, i ∉ isC)
    (hpm : ∀ u : T, pm.map (fun i => (wr ++ w1 u)[i]?) = (wsN u).map some)
    (hsz : ls.size = nL) (hW8 : (rest.map fun v => v.category).sum ≤ 8) (hdg : decode cc pc = .ok (.invokespecial index, 3)) (hcl : cells + mc ≤ R.cells ∧ slots + ms ≤ R.slots)
    (kk : ∀ (u : T) (H1 : Heap) (locs1 : List Loc), Φ u → va_P D vwCl (wsN u ++ pl) H1 → va_D A (wsN u ++ pl) → va_S A H0 H1 locs1 → W p l e R s m args below meth c H1 locs1 (cells + mc) (slots + ms) Q (F0 m (pc + 3) ls rest)) : W p l e R s m args below meth c H locs cells slots Q (F0 m pc ls (.ref b :: rest)) := by
  have hC' := x_mapapp (pl := pl) isC wc hC
  have hFc := va_free hD hS hA isC hC'
  have hPc := x_subP hP isC hC'
  have hDc := hD.sub isC hn0 hC'
  refine va_callv (va_runIN (As := []) (rest := rest) S hM cw ⟨xPW.blind, fun U hU hWm => ⟨rfl, by rw [hU], by rw [hU]; exact hPc, hKK.warm hWm, hDc.weaken (fun _ _ _ _ => trivial)⟩⟩ rfl rfl hsz rfl (lv_room hW8) hdg hcl) hS (fun q _ h => hFc q h) hFc (fun u t H1 locs1 ht hvm hw hB hz1 hk1 hS1 => ?_)
  obtain ⟨hP1, hD1⟩ := hB
  rw [ht] at hP1
  obtain ⟨g1, g2⟩ := x_joinedQ hP hD isC isR pm hC hR hn1 hn2 hdis hpm hk1 hFc u hP1 hD1
  exact kk u H1 locs1 hw g1 g2 hS1
/-- an open constructor that makes the pool -/
theorem xwIoP {T : Type} {Φ : T → Prop} {w1 pl1 : T → va_W} (wsN : T → va_W) (S : CallFix p m c cc nL s args Ts own) (hM : Met l y ws rm (xPW D cI cZ cO [.ref b] H.size wc) (va_Qv Φ (xB D (va_A wc H.size) (fun u => w1 u ++ pl1 u)) (va_A wc H.size)) mc ms (va_A wc H.size)) (cw : CallB R s args own index y bytes maxL none ws rm mc ms 0 ∧ y.name = "<init>" ∧ (Cond.instanceMethod y).before args s = true) (hKK : xKK D cI cZ cO s) (hP : va_P D vwCl wsW H) (hD : va_D A wsW) (hS : va_S A H0 H locs) (hA : ∀ q, H0.size ≤ q → A q) (isC isR pm : List Nat) (hC : isC.map (fun i => wsW[i]?) = wc.map some) (hR : isR.map (fun i => wsW[i]?) = wr.map some) (hn0 : va_nd isC = true) (hn1 : va_nd isR = true) (hn2 : va_nd pm = true) (hdis : ∀ i ∈ isR, i ∉ isC)
    (hpm : ∀ u : T, pm.map (fun i => (wr ++ w1 u)[i]?) = (wsN u).map some)
    (hsz : ls.size = nL) (hW8 : (rest.map fun v => v.category).sum ≤ 8) (hdg : decode cc pc = .ok (.invokespecial index, 3)) (hcl : cells + mc ≤ R.cells ∧ slots + ms ≤ R.slots)
    (kk : ∀ (u : T) (H1 : Heap) (locs1 : List Loc), Φ u → va_P D vwCl (wsN u ++ pl1 u) H1 → va_D A (wsN u ++ pl1 u) → va_S A H0 H1 locs1 → W p l e R s m args below meth c H1 locs1 (cells + mc) (slots + ms) Q (F0 m (pc + 3) ls rest)) : W p l e R s m args below meth c H locs cells slots Q (F0 m pc ls (.ref b :: rest)) := by
  have hFc := va_free hD hS hA isC hC
  have hPc := x_subP hP isC hC
  have hDc := hD.sub isC hn0 hC
  refine va_callv (va_runI (As := []) (rest := rest) S hM cw ⟨xPW.blind, fun U hU hWm => ⟨rfl, by rw [hU], by rw [hU]; exact hPc, hKK.warm hWm, hDc.weaken (fun _ _ _ _ => trivial)⟩⟩ rfl rfl hsz rfl (lv_room hW8) hdg hcl) hS (fun q _ h => hFc q h) hFc (fun u t H1 locs1 ht hvm hw hB hz1 hk1 hS1 => ?_)
  obtain ⟨hP1, hD1⟩ := hB
  rw [ht] at hP1
  obtain ⟨g1, g2⟩ := va_join hP hD isC isR hC hR hn1 hdis hk1 hFc hP1 hD1
  have g1 : va_P D vwCl ((wr ++ w1 u) ++ pl1 u) H1 := by rw [List.append_assoc]; exact g1
  have g2 : va_D A ((wr ++ w1 u) ++ pl1 u) := by rw [List.append_assoc]; exact g2
  exact kk u H1 locs1 hw (g1.part pm (hpm u)) (g2.part pm hn2 (hpm u)) hS1
end XI
