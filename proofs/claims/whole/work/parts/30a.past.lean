/-! Past(): the ring of twenty new chains -/
def xL (cI : ClassId) (ra rm : Nat → Nat) : Nat → va_W
  | 0 => []
  | n + 1 => xL cI ra rm n ++ [(ra n, .inr (1, [.ref (rm n), .int 0, .int 0, .int 0, .int 0, .int 0])), (rm n, .inl (cI, 8, .inl (fun _ => 0)))]
theorem xL_len (cI : ClassId) (ra rm : Nat → Nat) : ∀ n, (xL cI ra rm n).length = 2 * n
  | 0 => rfl
  | n + 1 => by simp only [xL, List.length_append, xL_len cI ra rm n, List.length_cons, List.length_nil]; omega
theorem xL_congr (cI : ClassId) (ra rm ra' rm' : Nat → Nat) : ∀ n, (∀ j, j < n → ra j = ra' j ∧ rm j = rm' j) → xL cI ra rm n = xL cI ra' rm' n
  | 0, _ => rfl
  | n + 1, h => by
    simp only [xL]
    rw [xL_congr cI ra rm ra' rm' n (fun j hj => h j (by omega)), (h n (by omega)).1, (h n (by omega)).2]
theorem xL_up (cI : ClassId) (ra rm : Nat → Nat) (n q a_m : Nat) : xL cI (va_up ra n q) (va_up rm n a_m) (n + 1) = xL cI ra rm n ++ [(q, .inr (1, [.ref a_m, .int 0, .int 0, .int 0, .int 0, .int 0])), (a_m, .inl (cI, 8, .inl (fun _ => 0)))] := by
  simp only [xL, va_up_self]
  rw [xL_congr cI (va_up ra n q) (va_up rm n a_m) ra rm n (fun j hj => ⟨va_up_ne _ _ (by omega), va_up_ne _ _ (by omega)⟩)]
theorem xL_get (cI : ClassId) (ra rm : Nat → Nat) : ∀ n j, j < n → (xL cI ra rm n)[2 * j]? = some ((ra j, .inr (1, [.ref (rm j), .int 0, .int 0, .int 0, .int 0, .int 0]))) ∧ (xL cI ra rm n)[2 * j + 1]? = some ((rm j, .inl (cI, 8, .inl (fun _ => 0))))
  | 0, j, h => absurd h (by omega)
  | n + 1, j, h => by
    simp only [xL]
    by_cases hj : j < n
    · obtain ⟨h1, h2⟩ := xL_get cI ra rm n j hj
      rw [List.getElem?_append_left (by rw [xL_len]; omega), List.getElem?_append_left (by rw [xL_len]; omega)]
      exact ⟨h1, h2⟩
    · have : j = n := by omega
      subst this
      rw [List.getElem?_append_right (by rw [xL_len]; omega), List.getElem?_append_right (by rw [xL_len]; omega), xL_len]
      rw [show 2 * j - 2 * j = 0 by omega, show 2 * j + 1 - 2 * j = 1 by omega]
      exact ⟨rfl, rfl⟩
theorem x_Dadr {A : Nat → Prop} {ws ws' : va_W} (h : ws'.map Prod.fst = ws.map Prod.fst) (hD : va_D A ws) : va_D A ws' := by
  have hat : ∀ (k : Nat) (q : Nat × va_E), ws'[k]? = some q → ∃ q', ws[k]? = some q' ∧ q'.1 = q.1 := by
    intro k q hk
    have h1 : (ws'.map Prod.fst)[k]? = some q.1 := by rw [List.getElem?_map, hk]; rfl
    rw [h, List.getElem?_map] at h1
    cases hq : ws[k]? with
    | none => rw [hq] at h1; cases h1
    | some q' => rw [hq] at h1; exact ⟨q', rfl, Option.some.inj h1⟩
  refine ⟨fun i j a b ha hb hab => ?_, fun k q hk => ?_⟩
  · obtain ⟨a', h1, h2⟩ := hat i a ha
    obtain ⟨b', h3, h4⟩ := hat j b hb
    exact hD.1 i j a' b' h1 h3 (by rw [h2, h4]; exact hab)
  · obtain ⟨q', h1, h2⟩ := hat k q hk
    rw [← h2]
    exact hD.2 k q' h1
theorem x_nd : ∀ (l : List Nat), l.Nodup → va_nd l = true
  | [], _ => rfl
  | a :: l, h => by
    rw [List.nodup_cons] at h
    simp only [va_nd, Bool.and_eq_true, decide_eq_true_eq]
    exact ⟨h.1, x_nd l h.2⟩
/-- the two orders of the ring's cells -/
def xg (k : Nat) : Nat := if k < 2 then k else if k < 22 then 2 + 2 * (k - 2) else 2 + (2 * (k - 22) + 1)
theorem x_poolG {x0 x1 : Nat × va_E} {cI : ClassId} {ra rm : Nat → Nat} (k : Nat) (q : Nat × va_E) (h : ([x0, x1] ++ xpl cI ra rm (fun _ _ => 0) (fun _ => 0) (fun _ => 0) (fun _ => 0) (fun _ => 0) (fun _ => 0))[k]? = some q) : ([x0, x1] ++ xL cI ra rm 20)[xg k]? = some q := by
  unfold xg
  by_cases h1 : k < 2
  · rw [if_pos h1]
    rw [List.getElem?_append_left (by exact h1)] at h ⊢
    exact h
  · rw [if_neg h1]
    have hlen : k < 42 := by
      have := (List.getElem?_eq_some_iff.mp h).1
      simp [xpl] at this
      omega
    rw [List.getElem?_append_right (by simp; omega)] at h
    by_cases h2 : k < 22
    · rw [if_pos h2, List.getElem?_append_right (by simp)]
      simp only [List.length_cons, List.length_nil, xpl] at h ⊢
      rw [show 2 + 2 * (k - 2) - (0 + 1 + 1) = 2 * (k - 2) by omega, (xL_get cI ra rm 20 (k - 2) (by omega)).1]
      rw [List.getElem?_append_left (by simp; omega), List.getElem?_map, List.getElem?_range (by omega)] at h
      exact h
    · rw [if_neg h2, List.getElem?_append_right (by simp)]
      simp only [List.length_cons, List.length_nil, xpl] at h ⊢
      rw [show 2 + (2 * (k - 22) + 1) - (0 + 1 + 1) = 2 * (k - 22) + 1 by omega, (xL_get cI ra rm 20 (k - 22) (by omega)).2]
      rw [List.getElem?_append_right (by simp; omega), List.getElem?_map, List.length_map, List.length_range, List.getElem?_range (by omega)] at h
      rw [show k - (0 + 1 + 1) - 20 = k - 22 by omega] at h
      exact h
theorem x_poolP {x0 x1 : Nat × va_E} {D : va_G} {H : Heap} {cI : ClassId} {ra rm : Nat → Nat} (h : va_P D vwCl ([x0, x1] ++ xL cI ra rm 20) H) : va_P D vwCl ([x0, x1] ++ xpl cI ra rm (fun _ _ => 0) (fun _ => 0) (fun _ => 0) (fun _ => 0) (fun _ => 0) (fun _ => 0)) H := h.by xg x_poolG
theorem x_poolD {x0 x1 : Nat × va_E} {A : Nat → Prop} {cI : ClassId} {ra rm : Nat → Nat} (h : va_D A ([x0, x1] ++ xL cI ra rm 20)) : va_D A ([x0, x1] ++ xpl cI ra rm (fun _ _ => 0) (fun _ => 0) (fun _ => 0) (fun _ => 0) (fun _ => 0) (fun _ => 0)) := by
  refine h.by xg x_poolG (fun i j hi hj e => ?_)
  simp [xpl] at hi hj
  unfold xg at e
  split at e <;> split at e <;> (try split at e) <;> (try split at e) <;> omega
section XL
variable {p : Program} {l : Launch} {e : Env} {R : Room} {s : State} {m : MethodId} {args : Array Value} {below : List Frame} {meth : Method} {c : Code} {H H0 : Heap} {locs : List Loc} {cells slots : Nat} {Q : State → Prop}
variable {cc : ByteArray} {pc : Nat} {ls : Array Slot} {rest : List Value} {D : va_G} {cI cZ cO : ClassId} {A : Nat → Prop} {ws : va_W} {b : Addr} {ob : va_E}
variable {y : MethodName} {bytes : ByteArray} {maxL nL index mc ms : Nat} {wsy Ts : List Cond} {rm : Room} {own : String}
/-- the constructor of the world's last cell -/
theorem xwInL {T : Type} {Φ : T → Prop} {w1 : T → va_W} {host : String} (S : CallFix p m c cc nL s args Ts own) (hM : Met l y wsy rm (xPW D cI cZ cO [.ref b] H.size [(b, ob)]) (va_Qv Φ (xB D (va_A [(b, ob)] H.size) w1) (va_A [(b, ob)] H.size)) mc ms (va_A [(b, ob)] H.size)) (cw : va_CN R s args own index y host bytes maxL none wsy rm mc ms 0 ∧ y.name = "<init>" ∧ (Cond.instanceMethod y).before args s = true) (hKK : xKK D cI cZ cO s) (hP : va_P D vwCl (ws ++ [(b, ob)]) H) (hD : va_D A (ws ++ [(b, ob)])) (hS : va_S A H0 H locs) (hA : ∀ q, H0.size ≤ q → A q)
    (hsz : ls.size = nL) (hW8 : (rest.map fun v => v.category).sum ≤ 8) (hdg : decode cc pc = .ok (.invokespecial index, 3)) (hcl : cells + mc ≤ R.cells ∧ slots + ms ≤ R.slots)
    (kk : ∀ (u : T) (H1 : Heap) (locs1 : List Loc), Φ u → va_P D vwCl (ws ++ w1 u) H1 → va_D A (ws ++ w1 u) → va_S A H0 H1 locs1 → W p l e R s m args below meth c H1 locs1 (cells + mc) (slots + ms) Q (F0 m (pc + 3) ls rest)) : W p l e R s m args below meth c H locs cells slots Q (F0 m pc ls (.ref b :: rest)) := by
  have hC : [ws.length].map (fun i => (ws ++ [(b, ob)])[i]?) = [(b, ob)].map some := by simp
  have hR : (List.range ws.length).map (fun i => (ws ++ [(b, ob)])[i]?) = ws.map some := by
    apply List.ext_getElem?
    intro i
    by_cases hi : i < ws.length
    · simp only [List.getElem?_map, List.getElem?_range hi, Option.map_some]
      rw [List.getElem?_append_left hi, List.getElem?_eq_getElem hi]
      rfl
    · rw [List.getElem?_eq_none (by simp; omega), List.getElem?_eq_none (by simp; omega)]
  have hFc := va_free hD hS hA [ws.length] hC
  have hPc := x_subP hP [ws.length] hC
  have hDc := hD.sub [ws.length] (by simp [va_nd]) hC
  refine va_callv (va_runIN (As := []) (rest := rest) S hM cw ⟨xPW.blind, fun U hU hWm => ⟨rfl, by rw [hU], by rw [hU]; exact hPc, hKK.warm hWm, hDc.weaken (fun _ _ _ _ => trivial)⟩⟩ rfl rfl hsz rfl (lv_room hW8) hdg hcl) hS (fun q _ h => hFc q h) hFc (fun u t H1 locs1 ht hvm hw hB hz1 hk1 hS1 => ?_)
  obtain ⟨hP1, hD1⟩ := hB
  rw [ht] at hP1
  obtain ⟨g1, g2⟩ := va_join hP hD [ws.length] (List.range ws.length) hC hR (x_nd _ List.nodup_range) (fun i hi h => by simp at hi h; omega) hk1 hFc hP1 hD1
  exact kk u H1 locs1 hw g1 g2 hS1
end XL
