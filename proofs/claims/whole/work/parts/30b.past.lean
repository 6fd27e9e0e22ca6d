abbrev xrm_X4_init : Room := { frames := 2, cells := 41, slots := 300, locals := 40 }
set_option maxRecDepth 100000 in
set_option maxHeartbeats 4000000 in
theorem c_X4_init (l : Launch) (D : va_G) (cI cZ cO : ClassId) {a_this sz : Nat} : Met l yX4_init wsX4_init xrm_X4_init (xPW D cI cZ cO [.ref a_this] sz [(a_this, .inr (4, [.null, .int 0, .int 0]))]) (va_Qv (fun (_ : Nat × (Nat → Nat) × (Nat → Nat)) => True) (xB D (va_A [(a_this, .inr (4, [.null, .int 0, .int 0]))] sz) (fun (u : Nat × (Nat → Nat) × (Nat → Nat)) => [(a_this, .inr (4, [.ref u.1, .int 0, .int 0])), (u.1, .inl (cO, 20, .inr (.inr (.inr (.inr (fun k => some (u.2.1 k)))))))] ++ xpl cI u.2.1 u.2.2 (fun _ _ => 0) (fun _ => 0) (fun _ => 0) (fun _ => 0) (fun _ => 0) (fun _ => 0))) (va_A [(a_this, .inr (4, [.null, .int 0, .int 0]))] sz)) 41 300 (va_A [(a_this, .inr (4, [.null, .int 0, .int 0]))] sz) := by
  refine Met.ofW (cc := cX4_init) (maxL := 2) (ret := none) (by decide) rfl ?_
  intro p e s m args below meth c s₁ B hml hv
  obtain ⟨rfl, hsz, hP, hKK, hD0⟩ := hv
  have hx := B.exec
  have hb := B.bytes
  have hr := B.returns
  have hts := atoms_spec (ws := wsX4_init) B.pre
  have hown : s.vm.findClass RX4 = some m.cls := findClass_of_methodNamed B.named
  have hlocks := B.notSynchronized
  have hin : meth.name = "<init>" := (name_of_methodNamed B.named B.method).1
  subst hsz
  have hD := hD0.self (sz := s.heap.size)
  obtain ⟨Q, hQ⟩ : ∃ Q, Q = MQ below (va_Qv (fun (_ : Nat × (Nat → Nat) × (Nat → Nat)) => True) (xB D (va_A [(a_this, .inr (4, [.null, .int 0, .int 0]))] s.heap.size) (fun (u : Nat × (Nat → Nat) × (Nat → Nat)) => [(a_this, .inr (4, [.ref u.1, .int 0, .int 0])), (u.1, .inl (cO, 20, .inr (.inr (.inr (.inr (fun k => some (u.2.1 k)))))))] ++ xpl cI u.2.1 u.2.2 (fun _ _ => 0) (fun _ => 0) (fun _ => 0) (fun _ => 0) (fun _ => 0) (fun _ => 0))) (va_A [(a_this, .inr (4, [.null, .int 0, .int 0]))] s.heap.size)) ([.ref a_this] : List Value).toArray s 41 300 (va_A [(a_this, .inr (4, [.null, .int 0, .int 0]))] s.heap.size) := ⟨_, rfl⟩
  rw [← hQ]
  generalize hAe : va_A [(a_this, .inr (4, [.null, .int 0, .int 0]))] s.heap.size = A at hD hQ
  have hA : ∀ q : Nat, s.heap.size ≤ q → A q := fun q h => by rw [← hAe]; exact Or.inr h
  have hS : va_S A s.heap s.heap [] := va_S.rf
  have hl := lv_entry ([.ref a_this]) (n := 2) (Nat.le_of_ble_eq_true rfl)
  rw [lg_entry_eq]
  generalize (lg_sl ([.ref a_this]) ++ List.replicate (2 - (lg_sl ([.ref a_this])).length) Slot.unset).toArray = ls at hl ⊢
  have hl : lv_has ls 2 [(0, .ref a_this)] := hl
  generalize ([.ref a_this] : List Value).toArray = args at hts hQ ⊢
  have hP : va_P D vwCl [(a_this, .inr (4, [.null, .int 0, .int 0]))] s.heap := hP
  have hinX4 : ∀ w ∈ u_ws RX4 TX4 3, w ∈ wsX4_init := by decide +kernel
  have hinX1 : ∀ w ∈ u_ws RX1 TX1 6, w ∈ wsX4_init := by decide +kernel
  have fl_11 := hts (.fieldLink RX4 11 "DoubleChain$Past" "ring" "[LDoubleChain$Chain;") (by decide +kernel)
  have fl_17 := hts (.fieldLink RX4 17 "DoubleChain$Past" "next" "I") (by decide +kernel)
  have fl_21 := hts (.fieldLink RX4 21 "DoubleChain$Past" "count" "I") (by decide +kernel)
  clear B
  have LP : ∀ (n i : Nat) (x : Int32) (a_ring : Nat) (f : Nat → Option Nat) (ra rm : Nat → Nat), i ≤ 20 → 20 - i < n → x = nI i → (∀ j, j < i → f j = some (ra j)) → ∀ (H : Heap) (locs : List Loc), va_P D vwCl ([(a_this, .inr (4, [.ref a_ring, .int 0, .int 0])), (a_ring, .inl (cO, 20, .inr (.inr (.inr (.inr f)))))] ++ xL cI ra rm i) H → va_D A ([(a_this, .inr (4, [.ref a_ring, .int 0, .int 0])), (a_ring, .inl (cO, 20, .inr (.inr (.inr (.inr f)))))] ++ xL cI ra rm i) → va_S A s.heap H locs → ∀ (ls : Array Slot), lv_has ls 2 [(0, .ref a_this), (1, .int x)] → W p l e xrm_X4_init s m args below meth c H locs (1 + 2 * i) (20 + 14 * i) Q (F0 m 25 ls []) := by
    intro n
    induction n with
    | zero => intro i x a_ring f ra rm h1 h2; exact absurd h2 (by omega)
    | succ n ih =>
      intro i x a_ring f ra rm hi hn hxi hf H locs hP hD hS ls hl
      refine lv_iload_n hx hb dX4_init_25 rfl (lv_at hl 1 rfl) ?_
      refine lv_aload_n hx hb dX4_init_26 rfl (lv_at hl 0 rfl) ?_
      refine va_get (D := D) (ci := 4) (v := .ref a_ring) (C := RX4) (T := TX4) (N := 3) hx hb hts hinX4 hown hKK.1 hP 0 rfl rfl 0 (by decide) fl_11 (fun _ h9 => h9) rfl dX4_init_27 ?_
      refine va_alen (v := 20) hx hb hKK.1 hP 1 2 rfl rfl rfl dX4_init_30 ?_
      refine lv_icmp_ge (tgt := 53) hx hb dX4_init_31 (by decide) (fun c_28 => ?_) (fun c_28 => ?_)
      · have hi20 : i = 20 := by
          rcases Nat.lt_or_ge i 20 with h | h
          · exact absurd c_28 (by rw [hxi]; exact (show ¬ nI 20 ≤ nI i from nI_ge h (by omega)))
          · omega
        subst hi20
        have hcell : vp_cell cO (20, .inr (.inr (.inr (.inr f)))) = vp_cell cO (20, .inr (.inr (.inr (.inr (fun k => some (ra k)))))) := by
          rw [vp_cell_q, vp_cell_q]
          unfold arrV
          congr 1
          apply congrArg
          funext j
          show va_rf (f j.val) = va_rf (some (ra j.val))
          rw [hf j.val j.isLt]
        have hP : va_P D vwCl ([(a_this, .inr (4, [.ref a_ring, .int 0, .int 0])), (a_ring, .inl (cO, 20, .inr (.inr (.inr (.inr (fun k => some (ra k)))))))] ++ xL cI ra rm 20) H := by
          intro k q hk
          match k, hk with
          | 0, hk => exact hP 0 q hk
          | 1, hk =>
            cases hk
            show H[a_ring]? = some (vp_cell cO (20, .inr (.inr (.inr (.inr (fun k => some (ra k)))))))
            rw [← hcell]
            exact hP 1 _ rfl
          | k + 2, hk => exact hP (k + 2) q hk
        have hD : va_D A ([(a_this, .inr (4, [.ref a_ring, .int 0, .int 0])), (a_ring, .inl (cO, 20, .inr (.inr (.inr (.inr (fun k => some (ra k)))))))] ++ xL cI ra rm 20) := x_Dadr (by simp) hD
        rw [hQ]
        exact W.vret hx hb hr (fun t ht hW => ⟨⟨⟨a_ring, ra, rm⟩, rfl, trivial, by rw [ht]; exact x_poolP hP, x_poolD hD⟩, hS.F ht⟩) hS.2.2 dX4_init_53
      · have hlt : i < 20 := by
          rcases Nat.lt_or_ge i 20 with h | h
          · exact h
          · exact absurd (show (20 : Int32) ≤ x by rw [hxi, show i = 20 by omega]; decide) c_28
        refine lv_aload_n hx hb dX4_init_34 rfl (lv_at hl 0 rfl) ?_
        refine va_get (D := D) (ci := 4) (v := .ref a_ring) (C := RX4) (T := TX4) (N := 3) hx hb hts hinX4 hown hKK.1 hP 0 rfl rfl 0 (by decide) fl_11 (fun _ h9 => h9) rfl dX4_init_35 ?_
        refine lv_iload_n hx hb dX4_init_38 rfl (lv_at hl 1 rfl) ?_
        refine va_new (ci := 1) (fs := [.null, .int 0, .int 0, .int 0, .int 0, .int 0]) (C := RX1) (T := TX1) (N := 6) hx hb hts hinX1 tyX1 tyX1_ok hown (hts (.classLink RX4 9 RX1) (by decide +kernel)) (hts (.instantiable RX1 6) (by decide +kernel)) (hts (.initialized RX1) (by decide +kernel)) hKK.1 hP hD hS hA rfl (fun j hj => by rcases (show j = 0 ∨ j = 1 ∨ j = 2 ∨ j = 3 ∨ j = 4 ∨ j = 5 by omega) with rfl | rfl | rfl | rfl | rfl | rfl <;> rfl) (by show 1 + 2 * i + 1 ≤ 41; omega) (by show 20 + 14 * i + 6 ≤ 300; omega) dX4_init_39 (fun q H hP hD hS => ?_)
        refine lv_dup hx hb dX4_init_42 rfl ?_
        refine xwInL (rest := [.ref q, .int x, .ref a_ring]) ⟨hx, hb, hml, hown, hts⟩ (c_X1_init l D cI cZ cO) ⟨va_cnB 0 hts gX4_init_X1_init_n24 rfl rfl rfl (xn_2 hKK.2) (hts (.initialized RX1) (by decide +kernel)) (by decide +kernel) ⟨Nat.le_of_ble_eq_true rfl, Nat.le_of_ble_eq_true rfl⟩, rfl, hts (.instanceMethod yX1_init) (by decide +kernel)⟩ hKK hP hD hS hA hl.1 (Nat.le_of_ble_eq_true rfl) dX4_init_43 ⟨(by show 1 + 2 * i + 1 + 1 ≤ 41; omega), (by show 20 + 14 * i + 6 + 8 ≤ 300; omega)⟩ (fun a_m H locs _ hP hD hS => ?_)
        have hP : va_P D vwCl (([(a_this, .inr (4, [.ref a_ring, .int 0, .int 0])), (a_ring, .inl (cO, 20, .inr (.inr (.inr (.inr f)))))] ++ xL cI ra rm i) ++ [(q, .inr (1, [.ref a_m, .int 0, .int 0, .int 0, .int 0, .int 0])), (a_m, .inl (cI, 8, .inl (fun _ => 0)))]) H := hP
        have hD : va_D A (([(a_this, .inr (4, [.ref a_ring, .int 0, .int 0])), (a_ring, .inl (cO, 20, .inr (.inr (.inr (.inr f)))))] ++ xL cI ra rm i) ++ [(q, .inr (1, [.ref a_m, .int 0, .int 0, .int 0, .int 0, .int 0])), (a_m, .inl (cI, 8, .inl (fun _ => 0)))]) := hD
        refine va_astq (r := (RX1, TX1, 6)) hx hb hKK.1 hP hD hS 1 2 (2 + 2 * i) 1 rfl rfl (show (([(a_this, .inr (4, [.ref a_ring, .int 0, .int 0])), (a_ring, .inl (cO, 20, .inr (.inr (.inr (.inr f)))))] ++ xL cI ra rm i) ++ [(q, .inr (1, [.ref a_m, .int 0, .int 0, .int 0, .int 0, .int 0])), (a_m, .inl (cI, 8, .inl (fun _ => 0)))])[2 + 2 * i]? = some ((q, .inr (1, [.ref a_m, .int 0, .int 0, .int 0, .int 0, .int 0]))) by rw [List.getElem?_append_right (by simp [xL_len]; omega)]; simp [xL_len]; rw [show 2 + 2 * i - (2 * i + 1 + 1) = 0 by omega]; rfl) rfl (show vp_in x 20 by rw [hxi]; exact vp_in_nI hlt (by omega)) dX4_init_46 (fun H locs hP hD hS => ?_)
        have hc : x.toNatClampNeg = i := by rw [hxi]; exact nI_clamp (by omega)
        rw [hc] at hP hD
        have hP : va_P D vwCl (([(a_this, .inr (4, [.ref a_ring, .int 0, .int 0])), (a_ring, .inl (cO, 20, .inr (.inr (.inr (.inr (va_up f i (some q)))))))] ++ xL cI ra rm i) ++ [(q, .inr (1, [.ref a_m, .int 0, .int 0, .int 0, .int 0, .int 0])), (a_m, .inl (cI, 8, .inl (fun _ => 0)))]) H := hP
        have hD : va_D A (([(a_this, .inr (4, [.ref a_ring, .int 0, .int 0])), (a_ring, .inl (cO, 20, .inr (.inr (.inr (.inr (va_up f i (some q)))))))] ++ xL cI ra rm i) ++ [(q, .inr (1, [.ref a_m, .int 0, .int 0, .int 0, .int 0, .int 0])), (a_m, .inl (cI, 8, .inl (fun _ => 0)))]) := hD
        rw [List.append_assoc, ← xL_up] at hP hD
        refine lv_iinc (v := x + 1) (lv' := [(1, .int (x + 1)), (0, .ref a_this)]) hx hb dX4_init_47 hl (k := 1) rfl (by rfl) (by decide) rfl (fun ls hl => ?_)
        refine lv_goto (tgt := 25) hx hb dX4_init_50 (by decide) ?_
        refine W.cs (cells' := 1 + 2 * (i + 1)) (slots' := 20 + 14 * (i + 1)) (by omega) (by omega) ?_
        exact ih (i + 1) (x + 1) a_ring (va_up f i (some q)) (va_up ra i q) (va_up rm i a_m) (by omega) (by omega) (by rw [hxi]; exact nI_1 i) (fun j hj => by
          by_cases h : j = i
          · subst h; rw [va_up_self, va_up_self]
          · rw [va_up_ne _ _ h, va_up_ne _ _ h]; exact hf j (by omega)) H locs hP hD hS ls (lv_sub hl [1, 0] rfl)
  show W p l e xrm_X4_init s m args below meth c s.heap [] 0 0 Q (F0 m 0 ls [])
  refine lv_aload_n hx hb dX4_init_0 rfl (lv_at hl 0 rfl) ?_
  refine W.objInit hx hb hown (hts (.methodLink RX4 3 objectInit) (by decide +kernel)) (hts (.instanceMethod objectInit) (by decide +kernel)) (hts (.code objectInit ⟨#[0xb1]⟩ 1 none) (by decide +kernel)) rfl (by rw [hml]; exact hl.1) rfl dX4_init_1 (Nat.le_of_ble_eq_true rfl) (Nat.le_of_ble_eq_true rfl) ?_
  refine W.eq (g2 := F0 m 4 ls []) rfl ?_
  refine lv_aload_n hx hb dX4_init_4 rfl (lv_at hl 0 rfl) ?_
  refine lv_bipush (v := 20) hx hb dX4_init_5 (by decide) ?_
  refine x_newO (N' := 20) hx hb hown (hts (.classLink RX4 9 RX1) (by decide +kernel)) hKK hP hD hS hA (by decide) (by decide +kernel) (Nat.le_of_ble_eq_true rfl) (Nat.le_of_ble_eq_true rfl) (Nat.le_of_ble_eq_true rfl) dX4_init_7 (fun a_ring H hP hD hS => ?_)
  have hP : va_P D vwCl [(a_this, .inr (4, [.null, .int 0, .int 0])), (a_ring, .inl (cO, 20, .inr (.inr (.inr (.inr (fun _ => none))))))] H := hP
  have hD : va_D A [(a_this, .inr (4, [.null, .int 0, .int 0])), (a_ring, .inl (cO, 20, .inr (.inr (.inr (.inr (fun _ => none))))))] := hD
  refine va_putF (D := D) (ci := 4) (v := .ref a_ring) (ty := (.array (.object "DoubleChain$Chain"))) (C := RX4) (T := TX4) (N := 3) hx hb hts hinX4 tyX4 tyX4_ok nmX4 hown hKK.1 hP hD hS 0 rfl rfl 0 (by decide) fl_11 (fun _ h9 => h9) rfl hin rfl (by decide +kernel) rfl rfl (Nat.le_of_ble_eq_true rfl) dX4_init_10 (fun H locs hP hD hS => ?_)
  have hP : va_P D vwCl [(a_this, .inr (4, [.ref a_ring, .int 0, .int 0])), (a_ring, .inl (cO, 20, .inr (.inr (.inr (.inr (fun _ => none))))))] H := hP
  have hD : va_D A [(a_this, .inr (4, [.ref a_ring, .int 0, .int 0])), (a_ring, .inl (cO, 20, .inr (.inr (.inr (.inr (fun _ => none))))))] := hD
  refine lv_aload_n hx hb dX4_init_13 rfl (lv_at hl 0 rfl) ?_
  refine lv_iconst (v := 0) hx hb dX4_init_14 (by decide) ?_
  refine va_put (D := D) (ci := 4) (v := .int 0) (ty := .int) (C := RX4) (T := TX4) (N := 3) hx hb hts hinX4 tyX4 tyX4_ok nmX4 hown hKK.1 hP hD hS 0 rfl rfl 1 (by decide) fl_17 (fun _ h9 => h9) rfl (by decide +kernel) rfl rfl (Nat.le_of_ble_eq_true rfl) dX4_init_15 (fun H locs hP hD hS => ?_)
  have hP : va_P D vwCl [(a_this, .inr (4, [.ref a_ring, .int 0, .int 0])), (a_ring, .inl (cO, 20, .inr (.inr (.inr (.inr (fun _ => none))))))] H := hP
  have hD : va_D A [(a_this, .inr (4, [.ref a_ring, .int 0, .int 0])), (a_ring, .inl (cO, 20, .inr (.inr (.inr (.inr (fun _ => none))))))] := hD
  refine lv_aload_n hx hb dX4_init_18 rfl (lv_at hl 0 rfl) ?_
  refine lv_iconst (v := 0) hx hb dX4_init_19 (by decide) ?_
  refine va_put (D := D) (ci := 4) (v := .int 0) (ty := .int) (C := RX4) (T := TX4) (N := 3) hx hb hts hinX4 tyX4 tyX4_ok nmX4 hown hKK.1 hP hD hS 0 rfl rfl 2 (by decide) fl_21 (fun _ h9 => h9) rfl (by decide +kernel) rfl rfl (Nat.le_of_ble_eq_true rfl) dX4_init_20 (fun H locs hP hD hS => ?_)
  refine lv_iconst (v := 0) hx hb dX4_init_23 (by decide) ?_
  refine lv_istore_n (lv' := [(1, .int 0), (0, .ref a_this)]) hx hb dX4_init_24 rfl hl (by decide) rfl (fun ls hl => ?_)
  exact LP 21 0 0 a_ring (fun _ => none) (fun _ => 0) (fun _ => 0) (by omega) (by omega) nI_0.symm (fun j hj => absurd hj (by omega)) H locs hP hD hS ls (lv_sub hl [1, 0] rfl)
