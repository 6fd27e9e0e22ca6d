/-! a virtual method that gets the pool, and answers a number -/
section XD
variable {p : Program} {l : Launch} {e : Env} {R : Room} {s : State} {m : MethodId} {args : Array Value} {below : List Frame} {meth : Method} {c : Code} {H H0 : Heap} {locs : List Loc} {cells slots : Nat} {Q : State → Prop}
variable {cc : ByteArray} {pc : Nat} {ls : Array Slot} {rest st0 : List Value} {D : va_G} {cI cZ cO : ClassId} {A : Nat → Prop} {wsW X pl wc cx wr : va_W} {b : Addr} {As : List Value}
variable {y : MethodName} {bytes : ByteArray} {maxL nL n index : Nat} {ret : Option FieldType} {ws Ts : List Cond} {rm : Room} {own C : String} {ci q0 : Nat} {q : vw_C} {fs : List Value}
theorem xwViP {T : Type} {Φ : Int32 → T → Prop} {w1 : T → va_W} (wsN pl1 : T → va_W) (S : CallFix p m c cc nL s args Ts own) (hM : Met l y ws rm (xPW D cI cZ cO (.ref b :: As) H.size (cx ++ pl)) (va_Qi Φ (xB D (va_A (cx ++ pl) H.size) (fun u => w1 u ++ pl1 u)) (va_A (cx ++ pl) H.size)) 0 0 (va_A (cx ++ pl) H.size)) (cw : CallW R s args own q.1 index y bytes maxL ret ws rm 0 0 n) (hKK : xKK D cI cZ cO s) (hP : va_P D vwCl (X ++ pl) H) (hD : va_D A (X ++ pl)) (hS : va_S A H0 H locs) (hA : ∀ q, H0.size ≤ q → A q) (isC isR pm : List Nat) (hC : isC.map (fun i => X[i]?) = cx.map some) (hR : isR.map (fun i => X[i]?) = wr.map some) (hn0 : va_nd isC = true) (hn1 : va_nd isR = true) (hn2 : va_nd pm = true) (hdis : ∀ i ∈ isR, i ∉ isC)
    (hpm : ∀ u : T, pm.map (fun i => (wr ++ w1 u)[i]?) = (wsN u).map some) (hc : vwCl[ci]? = some q) (he : (X ++ pl)[q0]? = some (b, .inr (ci, fs)))
    (hn : As.length = n) (hsz : ls.size = nL) (hst : st0 = As.reverse ++ .ref b :: rest) (hW8 : (rest.map fun v => v.category).sum ≤ 8) (hdg : decode cc pc = .ok (.invokevirtual index, 3)) (hcl : cells ≤ R.cells ∧ slots ≤ R.slots)
    (kk : ∀ (r : Int32) (u : T) (H1 : Heap) (locs1 : List Loc), Φ r u → va_P D vwCl (wsN u ++ pl1 u) H1 → va_D A (wsN u ++ pl1 u) → va_S A H0 H1 locs1 → W p l e R s m args below meth c H1 locs1 cells slots Q (F0 m (pc + 3) ls (.int r :: rest))) : W p l e R s m args below meth c H locs cells slots Q (F0 m pc ls st0) := by
  subst hst
  have hFc := va_freeP hD hS hA isC hC
  have hPc : va_P D vwCl (cx ++ pl) H := hP.part isC hC
  have hDc : va_D A (cx ++ pl) := hD.part isC hn0 hC
  refine va_calli (va_runV (C := q.1) (As := As) (b := b) (rest := rest) S hM cw ⟨xPW.blind, va_recv hKK.1 hP hc he, fun U hU hWm => ⟨rfl, by rw [hU], by rw [hU]; exact hPc, hKK.warm hWm, hDc.weaken (fun _ _ _ _ => trivial)⟩⟩ rfl hn hsz rfl (lv_room hW8) hdg hcl) hS (fun q _ h => hFc q h) hFc (fun r u t H1 locs1 ht hvm hw hB hz1 hk1 hS1 => ?_)
  obtain ⟨hP1, hD1⟩ := hB
  rw [ht] at hP1
  obtain ⟨g1, g2⟩ := x_joinedP hP hD isC isR pm hC hR hn1 hn2 hdis hpm hk1 hFc u hP1 hD1
  exact kk r u H1 locs1 hw g1 g2 hS1
end XD
