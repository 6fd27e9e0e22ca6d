/-! the ring of past chains as a pool of cells; calls beside it, calls that get it -/
def xpl (cI : ClassId) (ra rm : Nat → Nat) (rk : Nat → Nat → Int32) (rp rl rs rn rd : Nat → Int32) : va_W :=
  (List.range 20).map (fun k => (ra k, .inr (1, [.ref (rm k), .int (rp k), .int (rl k), .int (rs k), .int (rn k), .int (rd k)]))) ++ (List.range 20).map (fun k => (rm k, .inl (cI, 8, .inl (rk k))))
def x_ad (b0 b1 : Nat) : Nat → Value := fun k => match k with
  | 0 => .ref b0
  | 1 => .ref b1
  | _ => .null
theorem x_mapapp {X pl : va_W} (is : List Nat) : ∀ (wc : va_W), is.map (fun i => X[i]?) = wc.map some → is.map (fun i => (X ++ pl)[i]?) = wc.map some := by
  induction is with
  | nil => intro wc h; simpa using h
  | cons i is ih =>
    intro wc h
    cases wc with
    | nil => simp at h
    | cons q wc =>
      simp only [List.map_cons, List.cons.injEq] at h ⊢
      refine ⟨?_, ih wc h.2⟩
      have h1 := (List.getElem?_eq_some_iff.mp h.1).1
      rw [List.getElem?_append_left h1]
      exact h.1
section XD
variable {p : Program} {l : Launch} {e : Env} {R : Room} {s : State} {m : MethodId} {args : Array Value} {below : List Frame} {meth : Method} {c : Code} {H H0 : Heap} {locs : List Loc} {cells slots : Nat} {Q : State → Prop}
variable {cc : ByteArray} {pc : Nat} {ls : Array Slot} {rest st0 : List Value} {D : va_G} {cI cZ cO : ClassId} {A : Nat → Prop} {wsW X pl wc cx wr : va_W} {b : Addr} {As : List Value}
variable {y : MethodName} {bytes : ByteArray} {maxL nL n index : Nat} {ret : Option FieldType} {ws Ts : List Cond} {rm : Room} {own C : String} {ci q0 : Nat} {q : vw_C} {fs : List Value}
/-- a call of a method that only reads and answers one of two cells, or null -/
theorem xcVr3 {Φ : Nat → Prop} {b0 b1 : Nat} (S : CallFix p m c cc nL s args Ts own) (hM : Met l y ws rm (xPR D cI cZ cO (.ref b :: As) wc) (va_Sr (fun k => (k = 0 ∧ Φ 0) ∨ (k = 1 ∧ Φ 1) ∨ (k = 2 ∧ Φ 2)) (x_ad b0 b1)) 0 0 (fun _ => False)) (cw : CallW R s args own q.1 index y bytes maxL ret ws rm 0 0 n) (hKK : xKK D cI cZ cO s) (hP : va_P D vwCl wsW H) (is : List Nat) (hC : is.filterMap (fun i => wsW[i]?) = wc) (hc : vwCl[ci]? = some q) (he : wsW[q0]? = some (b, .inr (ci, fs)))
    (hn : As.length = n) (hsz : ls.size = nL) (hst : st0 = As.reverse ++ .ref b :: rest) (hW8 : (rest.map fun v => v.category).sum ≤ 8) (hdg : decode cc pc = .ok (.invokevirtual index, 3)) (hcl : cells ≤ R.cells ∧ slots ≤ R.slots)
    (k0 : Φ 0 → W p l e R s m args below meth c H locs cells slots Q (F0 m (pc + 3) ls (.ref b0 :: rest))) (k1 : Φ 1 → W p l e R s m args below meth c H locs cells slots Q (F0 m (pc + 3) ls (.ref b1 :: rest))) (k2 : Φ 2 → W p l e R s m args below meth c H locs cells slots Q (F0 m (pc + 3) ls (.null :: rest))) : W p l e R s m args below meth c H locs cells slots Q (F0 m pc ls st0) := by
  subst hst
  refine va_csr (va_runV (C := q.1) (As := As) (b := b) (rest := rest) S hM cw ⟨xPR.blind, va_recv hKK.1 hP hc he, fun U hU hWm => ⟨rfl, by rw [hU]; exact hP.sub is hC, hKK.warm hWm⟩⟩ rfl hn hsz rfl (lv_room hW8) hdg hcl).run (fun k hk => ?_)
  rcases hk with ⟨rfl, h⟩ | ⟨rfl, h⟩ | ⟨rfl, h⟩
  · exact k0 h
  · exact k1 h
  · exact k2 h
theorem x_joinedQ {T : Type} {w1 wsN : T → va_W} {H1 : Heap} (hP : va_P D vwCl (X ++ pl) H) (hD : va_D A (X ++ pl)) (isC isR pm : List Nat) (hC : isC.map (fun i => X[i]?) = wc.map some) (hR : isR.map (fun i => X[i]?) = wr.map some) (hn1 : va_nd isR = true) (hn2 : va_nd pm = true) (hdis : ∀ i ∈ isR, i ∉ isC)
    (hpm : ∀ u : T, pm.map (fun i => (wr ++ w1 u)[i]?) = (wsN u).map some) (hk : ∀ q : Nat, q < H.size → ¬ va_A wc H.size q → H1[q]? = H[q]?) (hF : ∀ q, va_A wc H.size q → A q) (u : T) (h1 : va_P D vwCl (w1 u) H1) (h2 : va_D (va_A wc H.size) (w1 u)) : va_P D vwCl (wsN u ++ pl) H1 ∧ va_D A (wsN u ++ pl) := by
  obtain ⟨g1, g2⟩ := va_joinQ hP hD isC isR hC hR hn1 hdis hk hF h1 h2
  exact ⟨g1.part pm (hpm u), g2.part pm hn2 (hpm u)⟩
theorem x_joinedP {T : Type} {w1 wsN pl1 : T → va_W} {H1 : Heap} (hP : va_P D vwCl (X ++ pl) H) (hD : va_D A (X ++ pl)) (isC isR pm : List Nat) (hC : isC.map (fun i => X[i]?) = cx.map some) (hR : isR.map (fun i => X[i]?) = wr.map some) (hn1 : va_nd isR = true) (hn2 : va_nd pm = true) (hdis : ∀ i ∈ isR, i ∉ isC)
    (hpm : ∀ u : T, pm.map (fun i => (wr ++ w1 u)[i]?) = (wsN u).map some) (hk : ∀ q : Nat, q < H.size → ¬ va_A (cx ++ pl) H.size q → H1[q]? = H[q]?) (hF : ∀ q, va_A (cx ++ pl) H.size q → A q) (u : T) (h1 : va_P D vwCl (w1 u ++ pl1 u) H1) (h2 : va_D (va_A (cx ++ pl) H.size) (w1 u ++ pl1 u)) : va_P D vwCl (wsN u ++ pl1 u) H1 ∧ va_D A (wsN u ++ pl1 u) := by
  obtain ⟨g1, g2⟩ := va_joinP hP hD isC isR hC hR hn1 hdis hk hF h1 h2
  exact ⟨g1.part pm (hpm u), g2.part pm hn2 (hpm u)⟩
/-- beside the pool: a virtual method that writes and answers a number -/
theorem xwViQ {T : Type} {Φ : Int32 → T → Prop} {w1 : T → va_W} (wsN : T → va_W) (S : CallFix p m c cc nL s args Ts own) (hM : Met l y ws rm (xPW D cI cZ cO (.ref b :: As) H.size wc) (va_Qi Φ (xB D (va_A wc H.size) w1) (va_A wc H.size)) 0 0 (va_A wc H.size)) (cw : CallW R s args own q.1 index y bytes maxL ret ws rm 0 0 n) (hKK : xKK D cI cZ cO s) (hP : va_P D vwCl (X ++ pl) H) (hD : va_D A (X ++ pl)) (hS : va_S A H0 H locs) (hA : ∀ q, H0.size ≤ q → A q) (isC isR pm : List Nat) (hC : isC.map (fun i => X[i]?) = wc.map some) (hR : isR.map (fun i => X[i]?) = wr.map some) (hn0 : va_nd isC = true) (hn1 : va_nd isR = true) (hn2 : va_nd pm = true) (hdis : ∀ i ∈ isR, i ∉ isC)
    (hpm : ∀ u : T, pm.map (fun i => (wr ++ w1 u)[i]?) = (wsN u).map some) (hc : vwCl[ci]? = some q) (he : (X ++ pl)[q0]? = some (b, .inr (ci, fs)))
    (hn : As.length = n) (hsz : ls.size = nL) (hst : st0 = As.reverse ++ .ref b :: rest) (hW8 : (rest.map fun v => v.category).sum ≤ 8) (hdg : decode cc pc = .ok (.invokevirtual index, 3)) (hcl : cells ≤ R.cells ∧ slots ≤ R.slots)
    (kk : ∀ (r : Int32) (u : T) (H1 : Heap) (locs1 : List Loc), Φ r u → va_P D vwCl (wsN u ++ pl) H1 → va_D A (wsN u ++ pl) → va_S A H0 H1 locs1 → W p l e R s m args below meth c H1 locs1 cells slots Q (F0 m (pc + 3) ls (.int r :: rest))) : W p l e R s m args below meth c H locs cells slots Q (F0 m pc ls st0) := by
  subst hst
  have hC' := x_mapapp (pl := pl) isC wc hC
  have hFc := va_free hD hS hA isC hC'
  have hPc := x_subP hP isC hC'
  have hDc := hD.sub isC hn0 hC'
  refine va_calli (va_runV (C := q.1) (As := As) (b := b) (rest := rest) S hM cw ⟨xPW.blind, va_recv hKK.1 hP hc he, fun U hU hWm => ⟨rfl, by rw [hU], by rw [hU]; exact hPc, hKK.warm hWm, hDc.weaken (fun _ _ _ _ => trivial)⟩⟩ rfl hn hsz rfl (lv_room hW8) hdg hcl) hS (fun q _ h => hFc q h) hFc (fun r u t H1 locs1 ht hvm hw hB hz1 hk1 hS1 => ?_)
  obtain ⟨hP1, hD1⟩ := hB
  rw [ht] at hP1
  obtain ⟨g1, g2⟩ := x_joinedQ hP hD isC isR pm hC hR hn1 hn2 hdis hpm hk1 hFc u hP1 hD1
  exact kk r u H1 locs1 hw g1 g2 hS1
/-- and one that answers nothing -/
theorem xwVvQ {T : Type} {Φ : T → Prop} {w1 : T → va_W} (wsN : T → va_W) (S : CallFix p m c cc nL s args Ts own) (hM : Met l y ws rm (xPW D cI cZ cO (.ref b :: As) H.size wc) (va_Qv Φ (xB D (va_A wc H.size) w1) (va_A wc H.size)) 0 0 (va_A wc H.size)) (cw : CallW R s args own q.1 index y bytes maxL ret ws rm 0 0 n) (hKK : xKK D cI cZ cO s) (hP : va_P D vwCl (X ++ pl) H) (hD : va_D A (X ++ pl)) (hS : va_S A H0 H locs) (hA : ∀ q, H0.size ≤ q → A q) (isC isR pm : List Nat) (hC : isC.map (fun i => X[i]?) = wc.map some) (hR : isR.map (fun i => X[i]?) = wr.map some) (hn0 : va_nd isC = true) (hn1 : va_nd isR = true) (hn2 : va_nd pm = true) (hdis : ∀ i ∈ isR, i ∉ isC)
    (hpm : ∀ u : T, pm.map (fun i => (wr ++ w1 u)[i]?) = (wsN u).map some) (hc : vwCl[ci]? = some q) (he : (X ++ pl)[q0]? = some (b, .inr (ci, fs)))
    (hn : As.length = n) (hsz : ls.size = nL) (hst : st0 = As.reverse ++ .ref b :: rest) (hW8 : (rest.map fun v => v.category).sum ≤ 8) (hdg : decode cc pc = .ok (.invokevirtual index, 3)) (hcl : cells ≤ R.cells ∧ slots ≤ R.slots)
    (kk : ∀ (u : T) (H1 : Heap) (locs1 : List Loc), Φ u → va_P D vwCl (wsN u ++ pl) H1 → va_D A (wsN u ++ pl) → va_S A H0 H1 locs1 → W p l e R s m args below meth c H1 locs1 cells slots Q (F0 m (pc + 3) ls rest)) : W p l e R s m args below meth c H locs cells slots Q (F0 m pc ls st0) := by
  subst hst
  have hC' := x_mapapp (pl := pl) isC wc hC
  have hFc := va_free hD hS hA isC hC'
  have hPc := x_subP hP isC hC'
  have hDc := hD.sub isC hn0 hC'
  refine va_callv (va_runV (C := q.1) (As := As) (b := b) (rest := rest) S hM cw ⟨xPW.blind, va_recv hKK.1 hP hc he, fun U hU hWm => ⟨rfl, by rw [hU], by rw [hU]; exact hPc, hKK.warm hWm, hDc.weaken (fun _ _ _ _ => trivial)⟩⟩ rfl hn hsz rfl (lv_room hW8) hdg hcl) hS (fun q _ h => hFc q h) hFc (fun u t H1 locs1 ht hvm hw hB hz1 hk1 hS1 => ?_)
  obtain ⟨hP1, hD1⟩ := hB
  rw [ht] at hP1
  obtain ⟨g1, g2⟩ := x_joinedQ hP hD isC isR pm hC hR hn1 hn2 hdis hpm hk1 hFc u hP1 hD1
  exact kk u H1 locs1 hw g1 g2 hS1
/-- a virtual method that gets the pool, and answers nothing -/
theorem xwVvP {T : Type} {Φ : T → Prop} {w1 : T → va_W} (wsN pl1 : T → va_W) (S : CallFix p m c cc nL s args Ts own) (hM : Met l y ws rm (xPW D cI cZ cO (.ref b :: As) H.size (cx ++ pl)) (va_Qv Φ (xB D (va_A (cx ++ pl) H.size) (fun u => w1 u ++ pl1 u)) (va_A (cx ++ pl) H.size)) 0 0 (va_A (cx ++ pl) H.size)) (cw : CallW R s args own q.1 index y bytes maxL ret ws rm 0 0 n) (hKK : xKK D cI cZ cO s) (hP : va_P D vwCl (X ++ pl) H) (hD : va_D A (X ++ pl)) (hS : va_S A H0 H locs) (hA : ∀ q, H0.size ≤ q → A q) (isC isR pm : List Nat) (hC : isC.map (fun i => X[i]?) = cx.map some) (hR : isR.map (fun i => X[i]?) = wr.map some) (hn0 : va_nd isC = true) (hn1 : va_nd isR = true) (hn2 : va_nd pm = true) (hdis : ∀ i ∈ isR, i ∉ isC)
    (hpm : ∀ u : T, pm.map (fun i => (wr ++ w1 u)[i]?) = (wsN u).map some) (hc : vwCl[ci]? = some q) (he : (X ++ pl)[q0]? = some (b, .inr (ci, fs)))
    (hn : As.length = n) (hsz : ls.size = nL) (hst : st0 = As.reverse ++ .ref b :: rest) (hW8 : (rest.map fun v => v.category).sum ≤ 8) (hdg : decode cc pc = .ok (.invokevirtual index, 3)) (hcl : cells ≤ R.cells ∧ slots ≤ R.slots)
    (kk : ∀ (u : T) (H1 : Heap) (locs1 : List Loc), Φ u → va_P D vwCl (wsN u ++ pl1 u) H1 → va_D A (wsN u ++ pl1 u) → va_S A H0 H1 locs1 → W p l e R s m args below meth c H1 locs1 cells slots Q (F0 m (pc + 3) ls rest)) : W p l e R s m args below meth c H locs cells slots Q (F0 m pc ls st0) := by
  subst hst
  have hFc := va_freeP hD hS hA isC hC
  have hPc : va_P D vwCl (cx ++ pl) H := hP.part isC hC
  have hDc : va_D A (cx ++ pl) := hD.part isC hn0 hC
  refine va_callv (va_runV (C := q.1) (As := As) (b := b) (rest := rest) S hM cw ⟨xPW.blind, va_recv hKK.1 hP hc he, fun U hU hWm => ⟨rfl, by rw [hU], by rw [hU]; exact hPc, hKK.warm hWm, hDc.weaken (fun _ _ _ _ => trivial)⟩⟩ rfl hn hsz rfl (lv_room hW8) hdg hcl) hS (fun q _ h => hFc q h) hFc (fun u t H1 locs1 ht hvm hw hB hz1 hk1 hS1 => ?_)
  obtain ⟨hP1, hD1⟩ := hB
  rw [ht] at hP1
  obtain ⟨g1, g2⟩ := x_joinedP hP hD isC isR pm hC hR hn1 hn2 hdis hpm hk1 hFc u hP1 hD1
  exact kk u H1 locs1 hw g1 g2 hS1
/-- the world behind a call, by what is in it: the callee's cells at known places of a world, the rest apart from them -/
theorem x_joinM {wsA w1 wsN : va_W} {H1 : Heap} (hP : va_P D vwCl wsA H) (hD : va_D A wsA) (hk : ∀ q : Nat, q < H.size → ¬ va_A wc H.size q → H1[q]? = H[q]?) (hP1 : va_P D vwCl w1 H1)
    (hN : ∀ q ∈ wsN, q ∈ w1 ∨ (q ∈ wsA ∧ ∀ r ∈ wc, r.1 ≠ q.1)) (hadr : wsN.map Prod.fst = wsA.map Prod.fst) : va_P D vwCl wsN H1 ∧ va_D A wsN := by
  have hat : ∀ (k : Nat) (q : Nat × va_E), wsN[k]? = some q → ∃ q', wsA[k]? = some q' ∧ q'.1 = q.1 := by
    intro k q h
    have h1 : (wsN.map Prod.fst)[k]? = some q.1 := by rw [List.getElem?_map, h]; rfl
    rw [hadr, List.getElem?_map] at h1
    cases hq : wsA[k]? with
    | none => rw [hq] at h1; cases h1
    | some q' => rw [hq] at h1; exact ⟨q', rfl, Option.some.inj h1⟩
  refine ⟨fun k q h => ?_, fun i j a b ha hb hab => ?_, fun k q h => ?_⟩
  · rcases hN q (List.mem_of_getElem? h) with h1 | ⟨h1, h2⟩
    · obtain ⟨i, hi⟩ := List.getElem?_of_mem h1
      exact hP1 i q hi
    · obtain ⟨i, hi⟩ := List.getElem?_of_mem h1
      have hq := hP i q hi
      refine hq.kept (hk q.1 hq.lt (fun hz => ?_))
      rcases hz with ⟨j, e, hj⟩ | hz
      · exact h2 _ (List.mem_of_getElem? hj) rfl
      · have := hq.lt
        omega
  · obtain ⟨a', h1, h2⟩ := hat i a ha
    obtain ⟨b', h3, h4⟩ := hat j b hb
    exact hD.1 i j a' b' h1 h3 (by rw [h2, h4]; exact hab)
  · obtain ⟨q', h1, h2⟩ := hat k q h
    rw [← h2]
    exact hD.2 k q' h1
end XD
