/-! The constructors. -/
set_option maxHeartbeats 4000000 in
set_option maxRecDepth 100000 in
theorem k_X6_store (l : Launch) (dC : Nat → ClassId) (dI : Nat → Nat → Nat) (cI cZ : ClassId) (a sz n : Nat) (f : Nat → Int32) (i x : Int32) (h0 : ¬ i < 0) (h1 : ¬ Int32.ofNat n ≤ i) (h2 : vp_in i n) : cs_Met l yX6_store wsX6_store { frames := 0, cells := 0, slots := 0, locals := 0 } (dC, dI) cI cZ sz [.ref a, .int i, .int x] [(a, .inl (cI, n, .inl f))] (fun w => w = [(a, .inl (cI, n, .inl (upd f (Int32.toNatClampNeg i) x)))]) 0 0 := by
  refine Met.ofW (cc := cX6_store) (maxL := 3) (ret := none) (by decide) rfl ?_
  intro p e s m args below meth c s₁ B hml hv
  obtain ⟨rfl, hsz, hP, hK, hD0⟩ := hv
  have hx := B.exec
  have hb := B.bytes
  have hr := B.returns
  have hlocks := B.notSynchronized
  subst hsz
  have hD := hD0.self (sz := s.heap.size)
  generalize hAe : va_A [(a, .inl (cI, n, .inl f))] s.heap.size = A at hD ⊢
  have hA : ∀ q : Nat, s.heap.size ≤ q → A q := fun q h => by rw [← hAe]; exact Or.inr h
  have hS : va_S A s.heap s.heap [] := va_S.rf
  have hP : va_P (dC, dI) vwCl [(a, .inl (cI, n, .inl f))] s.heap := hP
  have hl := lv_entry ([.ref a, .int i, .int x]) (n := 3) (Nat.le_of_ble_eq_true rfl)
  rw [lg_entry_eq]
  generalize (lg_sl ([.ref a, .int i, .int x]) ++ List.replicate (3 - (lg_sl ([.ref a, .int i, .int x])).length) Slot.unset).toArray = ls at hl ⊢
  have hl : lv_has ls 3 [(0, .ref a), (1, .int i), (2, .int x)] := hl
  refine lv_iload_n hx hb dX6_store_0 rfl (lv_at hl 1 rfl) ?_
  refine lv_if_lt (tgt := 14) hx hb dX6_store_1 (by decide) (fun c1 => absurd c1 h0) (fun _ => ?_)
  refine lv_iload_n hx hb dX6_store_4 rfl (lv_at hl 1 rfl) ?_
  refine lv_aload_n hx hb dX6_store_5 rfl (lv_at hl 0 rfl) ?_
  refine va_alen hx hb hK hP 0 0 rfl rfl (v := Int32.ofNat n) rfl dX6_store_6 ?_
  refine lv_icmp_ge (tgt := 14) hx hb dX6_store_7 (by decide) (fun c2 => absurd c2 h1) (fun _ => ?_)
  refine lv_aload_n hx hb dX6_store_10 rfl (lv_at hl 0 rfl) ?_
  refine lv_iload_n hx hb dX6_store_11 rfl (lv_at hl 1 rfl) ?_
  refine lv_iload_n hx hb dX6_store_12 rfl (lv_at hl 2 rfl) ?_
  refine va_iast hx hb hK hP hD hS 0 0 rfl rfl h2 dX6_store_13 (fun H locs hP hD hS => ?_)
  have hP : va_P (dC, dI) vwCl [(a, .inl (cI, n, .inl (upd f (Int32.toNatClampNeg i) x)))] H := hP
  have hD : va_D A [(a, .inl (cI, n, .inl (upd f (Int32.toNatClampNeg i) x)))] := hD
  exact W.vret hx hb hr (fun t ht hW => ⟨⟨(), rfl, trivial, _, rfl, by rw [ht]; exact hP, hD⟩, hS.F ht⟩) hS.2.2 dX6_store_14
set_option maxHeartbeats 4000000 in
set_option maxRecDepth 100000 in
theorem k_X4_init (l : Launch) (dC : Nat → ClassId) (dI : Nat → Nat → Nat) (cI cZ : ClassId) (h0 sz : Nat) : Met l yX4_init wsX4_init { frames := 1, cells := 4, slots := 30, locals := 30 } (va_Pc [.ref h0] (fun U => U.heap.size = sz ∧ va_P (dC, dI) vwCl [(h0, .inr (4, [.null, .null, .null, .null, .int 0]))] U.heap ∧ ob_K (dC, dI) vwCl cI cZ nwX U ∧ va_D (fun _ => True) [(h0, .inr (4, [.null, .null, .null, .null, .int 0]))])) (va_Qv (fun _ : Unit => True) (fun _ t => ∃ w1, (fun w => ∃ q1 q2 q3 q4 : Nat, w = [(h0, .inr (4, [.ref q1, .ref q2, .ref q3, .ref q4, .int 0])), (q1, .inl (cI, 10, .inl fun _ => 0)), (q2, .inl (cI, 10, .inl fun _ => 0)), (q3, .inl (cI, 5, .inl (upd ((upd ((upd ((upd ((upd (fun _ => 0) (Int32.toNatClampNeg 0) 63)) (Int32.toNatClampNeg 1) 63)) (Int32.toNatClampNeg 2) 63)) (Int32.toNatClampNeg 3) 63)) (Int32.toNatClampNeg 4) 63))), (q4, .inl (cI, 5, .inl (upd ((upd ((upd ((upd ((upd (fun _ => 0) (Int32.toNatClampNeg 0) 1023)) (Int32.toNatClampNeg 1) 1023)) (Int32.toNatClampNeg 2) 1023)) (Int32.toNatClampNeg 3) 1023)) (Int32.toNatClampNeg 4) 1023)))]) w1 ∧ va_P (dC, dI) vwCl w1 t.heap ∧ va_D (va_A [(h0, .inr (4, [.null, .null, .null, .null, .int 0]))] sz) w1) (va_A [(h0, .inr (4, [.null, .null, .null, .null, .int 0]))] sz)) 4 30 (va_A [(h0, .inr (4, [.null, .null, .null, .null, .int 0]))] sz) := by
  refine Met.ofW (cc := cX4_init) (maxL := 2) (ret := none) (by decide) rfl ?_
  intro p e s m args below meth c s₁ B hml hv
  obtain ⟨rfl, hsz, hP, hKK, hD0⟩ := hv
  have hK := hKK.1
  have hx := B.exec
  have hb := B.bytes
  have hr := B.returns
  have hts := atoms_spec (ws := wsX4_init) B.pre
  have hown : s.vm.findClass RX4 = some m.cls := findClass_of_methodNamed B.named
  have hlocks := B.notSynchronized
  have hin : meth.name = "<init>" := (name_of_methodNamed B.named B.method).1
  subst hsz
  have hD := hD0.self (sz := s.heap.size)
  generalize hAe : va_A [(h0, .inr (4, [.null, .null, .null, .null, .int 0]))] s.heap.size = A at hD ⊢
  have hA : ∀ q : Nat, s.heap.size ≤ q → A q := fun q h => by rw [← hAe]; exact Or.inr h
  have hS : va_S A s.heap s.heap [] := va_S.rf
  have hP : va_P (dC, dI) vwCl [(h0, .inr (4, [.null, .null, .null, .null, .int 0]))] s.heap := hP
  have hl := lv_entry ([.ref h0]) (n := 2) (Nat.le_of_ble_eq_true rfl)
  rw [lg_entry_eq]
  generalize (lg_sl ([.ref h0]) ++ List.replicate (2 - (lg_sl ([.ref h0])).length) Slot.unset).toArray = ls at hl ⊢
  have hl : lv_has ls 2 [(0, .ref h0)] := hl
  have in_own : ∀ w ∈ wsX40, w ∈ wsX4_init := fun w h => List.mem_cons_of_mem _ (List.mem_append_right _ h)
  have tt : ∀ (i : Nat) (w : Cond), wsX4_init[i]? = some w → w.before ([.ref h0] : List Value).toArray s = true := fun i w h => hts w (List.mem_of_getElem? h)
  refine lv_aload_n hx hb dX4_init_0 rfl (lv_at hl 0 rfl) ?_
  refine W.objInit hx hb hown (tt 1 _ rfl) (tt 2 _ rfl) (tt 3 _ rfl) rfl (by rw [hml]; exact hl.1) rfl dX4_init_1 (Nat.le_of_ble_eq_true rfl) (Nat.le_of_ble_eq_true rfl) ?_
  refine W.eq (g2 := F0 m 4 ls []) rfl ?_
  refine lv_aload_n hx hb dX4_init_4 rfl (lv_at hl 0 rfl) ?_
  refine lv_bipush (v := 10) hx hb dX4_init_5 (by decide) ?_
  refine cs_newI (N := 10) hx hb (tt 4 _ rfl) hK hP hD hS hA (by decide) (by decide) (by decide) (by decide) (by decide) dX4_init_7 (fun q1 H hP hD hS => ?_)
  have hP : va_P (dC, dI) vwCl [(h0, .inr (4, [.null, .null, .null, .null, .int 0])), (q1, .inl (cI, 10, .inl fun _ => 0))] H := hP
  have hD : va_D A [(h0, .inr (4, [.null, .null, .null, .null, .int 0])), (q1, .inl (cI, 10, .inl fun _ => 0))] := hD
  refine va_putF (D := (dC, dI)) (ci := 4) (v := .ref q1) (ty := .array .int) (C := RX4) (T := TX4) (N := 5) hx hb hts in_own tyX4 tyX4_ok nmX4 hown hK hP hD hS 0 rfl rfl 0 (by decide) (tt 5 _ rfl) (fun _ h9 => h9) rfl hin rfl (tyX4_ok 0 (by decide)) rfl rfl (Nat.le_of_ble_eq_true rfl) dX4_init_9 (fun H locs hP hD hS => ?_)
  have hP : va_P (dC, dI) vwCl [(h0, .inr (4, [.ref q1, .null, .null, .null, .int 0])), (q1, .inl (cI, 10, .inl fun _ => 0))] H := hP
  have hD : va_D A [(h0, .inr (4, [.ref q1, .null, .null, .null, .int 0])), (q1, .inl (cI, 10, .inl fun _ => 0))] := hD
  refine lv_aload_n hx hb dX4_init_12 rfl (lv_at hl 0 rfl) ?_
  refine lv_bipush (v := 10) hx hb dX4_init_13 (by decide) ?_
  refine cs_newI (N := 10) hx hb (tt 4 _ rfl) hK hP hD hS hA (by decide) (by decide) (by decide) (by decide) (by decide) dX4_init_15 (fun q2 H hP hD hS => ?_)
  have hP : va_P (dC, dI) vwCl [(h0, .inr (4, [.ref q1, .null, .null, .null, .int 0])), (q1, .inl (cI, 10, .inl fun _ => 0)), (q2, .inl (cI, 10, .inl fun _ => 0))] H := hP
  have hD : va_D A [(h0, .inr (4, [.ref q1, .null, .null, .null, .int 0])), (q1, .inl (cI, 10, .inl fun _ => 0)), (q2, .inl (cI, 10, .inl fun _ => 0))] := hD
  refine va_putF (D := (dC, dI)) (ci := 4) (v := .ref q2) (ty := .array .int) (C := RX4) (T := TX4) (N := 5) hx hb hts in_own tyX4 tyX4_ok nmX4 hown hK hP hD hS 0 rfl rfl 1 (by decide) (tt 6 _ rfl) (fun _ h9 => h9) rfl hin rfl (tyX4_ok 1 (by decide)) rfl rfl (Nat.le_of_ble_eq_true rfl) dX4_init_17 (fun H locs hP hD hS => ?_)
  have hP : va_P (dC, dI) vwCl [(h0, .inr (4, [.ref q1, .ref q2, .null, .null, .int 0])), (q1, .inl (cI, 10, .inl fun _ => 0)), (q2, .inl (cI, 10, .inl fun _ => 0))] H := hP
  have hD : va_D A [(h0, .inr (4, [.ref q1, .ref q2, .null, .null, .int 0])), (q1, .inl (cI, 10, .inl fun _ => 0)), (q2, .inl (cI, 10, .inl fun _ => 0))] := hD
  refine lv_aload_n hx hb dX4_init_20 rfl (lv_at hl 0 rfl) ?_
  refine lv_iconst (v := 5) hx hb dX4_init_21 (by decide) ?_
  refine cs_newI (N := 5) hx hb (tt 4 _ rfl) hK hP hD hS hA (by decide) (by decide) (by decide) (by decide) (by decide) dX4_init_22 (fun q3 H hP hD hS => ?_)
  have hP : va_P (dC, dI) vwCl [(h0, .inr (4, [.ref q1, .ref q2, .null, .null, .int 0])), (q1, .inl (cI, 10, .inl fun _ => 0)), (q2, .inl (cI, 10, .inl fun _ => 0)), (q3, .inl (cI, 5, .inl fun _ => 0))] H := hP
  have hD : va_D A [(h0, .inr (4, [.ref q1, .ref q2, .null, .null, .int 0])), (q1, .inl (cI, 10, .inl fun _ => 0)), (q2, .inl (cI, 10, .inl fun _ => 0)), (q3, .inl (cI, 5, .inl fun _ => 0))] := hD
  refine va_putF (D := (dC, dI)) (ci := 4) (v := .ref q3) (ty := .array .int) (C := RX4) (T := TX4) (N := 5) hx hb hts in_own tyX4 tyX4_ok nmX4 hown hK hP hD hS 0 rfl rfl 2 (by decide) (tt 7 _ rfl) (fun _ h9 => h9) rfl hin rfl (tyX4_ok 2 (by decide)) rfl rfl (Nat.le_of_ble_eq_true rfl) dX4_init_24 (fun H locs hP hD hS => ?_)
  have hP : va_P (dC, dI) vwCl [(h0, .inr (4, [.ref q1, .ref q2, .ref q3, .null, .int 0])), (q1, .inl (cI, 10, .inl fun _ => 0)), (q2, .inl (cI, 10, .inl fun _ => 0)), (q3, .inl (cI, 5, .inl fun _ => 0))] H := hP
  have hD : va_D A [(h0, .inr (4, [.ref q1, .ref q2, .ref q3, .null, .int 0])), (q1, .inl (cI, 10, .inl fun _ => 0)), (q2, .inl (cI, 10, .inl fun _ => 0)), (q3, .inl (cI, 5, .inl fun _ => 0))] := hD
  refine lv_aload_n hx hb dX4_init_27 rfl (lv_at hl 0 rfl) ?_
  refine lv_iconst (v := 5) hx hb dX4_init_28 (by decide) ?_
  refine cs_newI (N := 5) hx hb (tt 4 _ rfl) hK hP hD hS hA (by decide) (by decide) (by decide) (by decide) (by decide) dX4_init_29 (fun q4 H hP hD hS => ?_)
  have hP : va_P (dC, dI) vwCl [(h0, .inr (4, [.ref q1, .ref q2, .ref q3, .null, .int 0])), (q1, .inl (cI, 10, .inl fun _ => 0)), (q2, .inl (cI, 10, .inl fun _ => 0)), (q3, .inl (cI, 5, .inl fun _ => 0)), (q4, .inl (cI, 5, .inl fun _ => 0))] H := hP
  have hD : va_D A [(h0, .inr (4, [.ref q1, .ref q2, .ref q3, .null, .int 0])), (q1, .inl (cI, 10, .inl fun _ => 0)), (q2, .inl (cI, 10, .inl fun _ => 0)), (q3, .inl (cI, 5, .inl fun _ => 0)), (q4, .inl (cI, 5, .inl fun _ => 0))] := hD
  refine va_putF (D := (dC, dI)) (ci := 4) (v := .ref q4) (ty := .array .int) (C := RX4) (T := TX4) (N := 5) hx hb hts in_own tyX4 tyX4_ok nmX4 hown hK hP hD hS 0 rfl rfl 3 (by decide) (tt 8 _ rfl) (fun _ h9 => h9) rfl hin rfl (tyX4_ok 3 (by decide)) rfl rfl (Nat.le_of_ble_eq_true rfl) dX4_init_31 (fun H locs hP hD hS => ?_)
  have hP : va_P (dC, dI) vwCl [(h0, .inr (4, [.ref q1, .ref q2, .ref q3, .ref q4, .int 0])), (q1, .inl (cI, 10, .inl fun _ => 0)), (q2, .inl (cI, 10, .inl fun _ => 0)), (q3, .inl (cI, 5, .inl fun _ => 0)), (q4, .inl (cI, 5, .inl fun _ => 0))] H := hP
  have hD : va_D A [(h0, .inr (4, [.ref q1, .ref q2, .ref q3, .ref q4, .int 0])), (q1, .inl (cI, 10, .inl fun _ => 0)), (q2, .inl (cI, 10, .inl fun _ => 0)), (q3, .inl (cI, 5, .inl fun _ => 0)), (q4, .inl (cI, 5, .inl fun _ => 0))] := hD
  refine lv_aload_n hx hb dX4_init_34 rfl (lv_at hl 0 rfl) ?_
  refine lv_iconst (v := 0) hx hb dX4_init_35 (by decide) ?_
  refine va_put (D := (dC, dI)) (ci := 4) (v := .int 0) (ty := .boolean) (C := RX4) (T := TX4) (N := 5) hx hb hts in_own tyX4 tyX4_ok nmX4 hown hK hP hD hS 0 rfl rfl 4 (by decide) (tt 9 _ rfl) (fun _ h9 => h9) rfl (tyX4_ok 4 (by decide)) rfl rfl (Nat.le_of_ble_eq_true rfl) dX4_init_36 (fun H locs hP hD hS => ?_)
  have hP : va_P (dC, dI) vwCl [(h0, .inr (4, [.ref q1, .ref q2, .ref q3, .ref q4, .int 0])), (q1, .inl (cI, 10, .inl fun _ => 0)), (q2, .inl (cI, 10, .inl fun _ => 0)), (q3, .inl (cI, 5, .inl fun _ => 0)), (q4, .inl (cI, 5, .inl fun _ => 0))] H := hP
  have hD : va_D A [(h0, .inr (4, [.ref q1, .ref q2, .ref q3, .ref q4, .int 0])), (q1, .inl (cI, 10, .inl fun _ => 0)), (q2, .inl (cI, 10, .inl fun _ => 0)), (q3, .inl (cI, 5, .inl fun _ => 0)), (q4, .inl (cI, 5, .inl fun _ => 0))] := hD
  refine lv_iconst (v := 0) hx hb dX4_init_39 (by decide) ?_
  refine lv_istore_n (lv' := [(1, .int 0), (0, .ref h0)]) hx hb dX4_init_40 rfl hl (by decide) rfl (fun ls hl => ?_)
  refine lv_iload_n hx hb dX4_init_41 rfl (lv_at hl 0 rfl) ?_
  refine lv_iconst (v := 5) hx hb dX4_init_42 (by decide) ?_
  refine lv_icmp_ge (tgt := 73) hx hb dX4_init_43 (by decide) (fun c9 => absurd c9 (by decide)) (fun _ => ?_)
  refine lv_aload_n hx hb dX4_init_46 rfl (lv_at hl 1 rfl) ?_
  refine va_get (D := (dC, dI)) (ci := 4) (v := .ref q3) (C := RX4) (T := TX4) (N := 5) hx hb hts in_own hown hK hP 0 rfl rfl 2 (by decide) (tt 7 _ rfl) (fun _ h9 => h9) rfl dX4_init_47 ?_
  refine lv_iload_n hx hb dX4_init_50 rfl (lv_at hl 0 rfl) ?_
  refine lv_bipush (v := 63) hx hb dX4_init_51 (by decide) ?_
  have hPc := hP.sub (ws' := [(q3, .inl (cI, 5, .inl fun _ => 0))]) [3] rfl
  have hDc := hD.sub (ws' := [(q3, .inl (cI, 5, .inl fun _ => 0))]) [3] (by decide) rfl
  have hFc := va_free (wc := [(q3, .inl (cI, 5, .inl fun _ => 0))]) hD hS hA [3] rfl
  refine va_callv (va_runSN (As := [.ref q3, .int 0, .int 63]) (rest := []) ⟨hx, hb, hml, hown, hts⟩ (k_X6_store l dC dI cI cZ q3 H.size 5 (fun _ => 0) 0 63 (by decide) (by decide) (vp_in_iff.mpr (by decide))) ⟨va_cnB 3 hts gX4_init_X6_store_n28 rfl rfl rfl (ob_nl hKK nw_X4_28) (tt 11 _ rfl) hd_X6_store ⟨by decide, by decide⟩, tt 10 _ rfl, trivial⟩ ⟨fun a U g mk q => by obtain ⟨q0, q1, qP, qK, qD⟩ := q; exact ⟨q0, q1, qP, va_K.moved (u := U) (U := U.calling g mk a) (Vm.Alike.refl U.vm) qK, qD⟩, fun U hU hW => ⟨rfl, by rw [hU], by rw [hU]; exact hPc, va_K.moved hW.alike hK, hDc.weaken (fun _ _ _ _ => trivial)⟩⟩ rfl rfl hl.1 rfl (lv_room (Nat.le_of_ble_eq_true rfl)) dX4_init_53 ⟨by decide, by decide⟩) hS (fun q _ h => hFc q h) hFc (fun u t H1 locs ht hvm h5 hB hz1 hk1 hS => ?_)
  obtain ⟨w1, rfl, hP1, hD1⟩ := hB
  rw [ht] at hP1
  obtain ⟨hP, hD⟩ := va_join (wr := [(h0, .inr (4, [.ref q1, .ref q2, .ref q3, .ref q4, .int 0])), (q1, .inl (cI, 10, .inl fun _ => 0)), (q2, .inl (cI, 10, .inl fun _ => 0)), (q4, .inl (cI, 5, .inl fun _ => 0))]) (w1 := [(q3, .inl (cI, 5, .inl (upd (fun _ => 0) (Int32.toNatClampNeg 0) 63)))]) hP hD [3] [0, 1, 2, 4] rfl rfl (by decide) (by decide) hk1 hFc hP1 hD1
  generalize H1 = H at hP hS ⊢
  have hP := hP.sub (ws' := [(h0, .inr (4, [.ref q1, .ref q2, .ref q3, .ref q4, .int 0])), (q1, .inl (cI, 10, .inl fun _ => 0)), (q2, .inl (cI, 10, .inl fun _ => 0)), (q3, .inl (cI, 5, .inl (upd (fun _ => 0) (Int32.toNatClampNeg 0) 63))), (q4, .inl (cI, 5, .inl fun _ => 0))]) [0, 1, 2, 4, 3] rfl
  have hD := hD.sub (ws' := [(h0, .inr (4, [.ref q1, .ref q2, .ref q3, .ref q4, .int 0])), (q1, .inl (cI, 10, .inl fun _ => 0)), (q2, .inl (cI, 10, .inl fun _ => 0)), (q3, .inl (cI, 5, .inl (upd (fun _ => 0) (Int32.toNatClampNeg 0) 63))), (q4, .inl (cI, 5, .inl fun _ => 0))]) [0, 1, 2, 4, 3] (by decide) rfl
  refine lv_aload_n hx hb dX4_init_56 rfl (lv_at hl 1 rfl) ?_
  refine va_get (D := (dC, dI)) (ci := 4) (v := .ref q4) (C := RX4) (T := TX4) (N := 5) hx hb hts in_own hown hK hP 0 rfl rfl 3 (by decide) (tt 8 _ rfl) (fun _ h9 => h9) rfl dX4_init_57 ?_
  refine lv_iload_n hx hb dX4_init_60 rfl (lv_at hl 0 rfl) ?_
  refine lv_sipush (v := 1023) hx hb dX4_init_61 (by decide) ?_
  have hPc := hP.sub (ws' := [(q4, .inl (cI, 5, .inl fun _ => 0))]) [4] rfl
  have hDc := hD.sub (ws' := [(q4, .inl (cI, 5, .inl fun _ => 0))]) [4] (by decide) rfl
  have hFc := va_free (wc := [(q4, .inl (cI, 5, .inl fun _ => 0))]) hD hS hA [4] rfl
  refine va_callv (va_runSN (As := [.ref q4, .int 0, .int 1023]) (rest := []) ⟨hx, hb, hml, hown, hts⟩ (k_X6_store l dC dI cI cZ q4 H.size 5 (fun _ => 0) 0 1023 (by decide) (by decide) (vp_in_iff.mpr (by decide))) ⟨va_cnB 3 hts gX4_init_X6_store_n28 rfl rfl rfl (ob_nl hKK nw_X4_28) (tt 11 _ rfl) hd_X6_store ⟨by decide, by decide⟩, tt 10 _ rfl, trivial⟩ ⟨fun a U g mk q => by obtain ⟨q0, q1, qP, qK, qD⟩ := q; exact ⟨q0, q1, qP, va_K.moved (u := U) (U := U.calling g mk a) (Vm.Alike.refl U.vm) qK, qD⟩, fun U hU hW => ⟨rfl, by rw [hU], by rw [hU]; exact hPc, va_K.moved hW.alike hK, hDc.weaken (fun _ _ _ _ => trivial)⟩⟩ rfl rfl hl.1 rfl (lv_room (Nat.le_of_ble_eq_true rfl)) dX4_init_64 ⟨by decide, by decide⟩) hS (fun q _ h => hFc q h) hFc (fun u t H1 locs ht hvm h5 hB hz1 hk1 hS => ?_)
  obtain ⟨w1, rfl, hP1, hD1⟩ := hB
  rw [ht] at hP1
  obtain ⟨hP, hD⟩ := va_join (wr := [(h0, .inr (4, [.ref q1, .ref q2, .ref q3, .ref q4, .int 0])), (q1, .inl (cI, 10, .inl fun _ => 0)), (q2, .inl (cI, 10, .inl fun _ => 0)), (q3, .inl (cI, 5, .inl (upd (fun _ => 0) (Int32.toNatClampNeg 0) 63)))]) (w1 := [(q4, .inl (cI, 5, .inl (upd (fun _ => 0) (Int32.toNatClampNeg 0) 1023)))]) hP hD [4] [0, 1, 2, 3] rfl rfl (by decide) (by decide) hk1 hFc hP1 hD1
  generalize H1 = H at hP hS ⊢
  have hP := hP.sub (ws' := [(h0, .inr (4, [.ref q1, .ref q2, .ref q3, .ref q4, .int 0])), (q1, .inl (cI, 10, .inl fun _ => 0)), (q2, .inl (cI, 10, .inl fun _ => 0)), (q3, .inl (cI, 5, .inl (upd (fun _ => 0) (Int32.toNatClampNeg 0) 63))), (q4, .inl (cI, 5, .inl (upd (fun _ => 0) (Int32.toNatClampNeg 0) 1023)))]) [0, 1, 2, 3, 4] rfl
  have hD := hD.sub (ws' := [(h0, .inr (4, [.ref q1, .ref q2, .ref q3, .ref q4, .int 0])), (q1, .inl (cI, 10, .inl fun _ => 0)), (q2, .inl (cI, 10, .inl fun _ => 0)), (q3, .inl (cI, 5, .inl (upd (fun _ => 0) (Int32.toNatClampNeg 0) 63))), (q4, .inl (cI, 5, .inl (upd (fun _ => 0) (Int32.toNatClampNeg 0) 1023)))]) [0, 1, 2, 3, 4] (by decide) rfl
  refine lv_iinc (v := 1) (lv' := [(1, .int 1), (0, .ref h0)]) hx hb dX4_init_67 hl (k := 0) rfl (by decide) (by decide) rfl (fun ls hl => ?_)
  refine lv_goto (tgt := 41) hx hb dX4_init_70 (by decide) ?_
  refine lv_iload_n hx hb dX4_init_41 rfl (lv_at hl 0 rfl) ?_
  refine lv_iconst (v := 5) hx hb dX4_init_42 (by decide) ?_
  refine lv_icmp_ge (tgt := 73) hx hb dX4_init_43 (by decide) (fun c9 => absurd c9 (by decide)) (fun _ => ?_)
  refine lv_aload_n hx hb dX4_init_46 rfl (lv_at hl 1 rfl) ?_
  refine va_get (D := (dC, dI)) (ci := 4) (v := .ref q3) (C := RX4) (T := TX4) (N := 5) hx hb hts in_own hown hK hP 0 rfl rfl 2 (by decide) (tt 7 _ rfl) (fun _ h9 => h9) rfl dX4_init_47 ?_
  refine lv_iload_n hx hb dX4_init_50 rfl (lv_at hl 0 rfl) ?_
  refine lv_bipush (v := 63) hx hb dX4_init_51 (by decide) ?_
  have hPc := hP.sub (ws' := [(q3, .inl (cI, 5, .inl (upd (fun _ => 0) (Int32.toNatClampNeg 0) 63)))]) [3] rfl
  have hDc := hD.sub (ws' := [(q3, .inl (cI, 5, .inl (upd (fun _ => 0) (Int32.toNatClampNeg 0) 63)))]) [3] (by decide) rfl
  have hFc := va_free (wc := [(q3, .inl (cI, 5, .inl (upd (fun _ => 0) (Int32.toNatClampNeg 0) 63)))]) hD hS hA [3] rfl
  refine va_callv (va_runSN (As := [.ref q3, .int 1, .int 63]) (rest := []) ⟨hx, hb, hml, hown, hts⟩ (k_X6_store l dC dI cI cZ q3 H.size 5 ((upd (fun _ => 0) (Int32.toNatClampNeg 0) 63)) 1 63 (by decide) (by decide) (vp_in_iff.mpr (by decide))) ⟨va_cnB 3 hts gX4_init_X6_store_n28 rfl rfl rfl (ob_nl hKK nw_X4_28) (tt 11 _ rfl) hd_X6_store ⟨by decide, by decide⟩, tt 10 _ rfl, trivial⟩ ⟨fun a U g mk q => by obtain ⟨q0, q1, qP, qK, qD⟩ := q; exact ⟨q0, q1, qP, va_K.moved (u := U) (U := U.calling g mk a) (Vm.Alike.refl U.vm) qK, qD⟩, fun U hU hW => ⟨rfl, by rw [hU], by rw [hU]; exact hPc, va_K.moved hW.alike hK, hDc.weaken (fun _ _ _ _ => trivial)⟩⟩ rfl rfl hl.1 rfl (lv_room (Nat.le_of_ble_eq_true rfl)) dX4_init_53 ⟨by decide, by decide⟩) hS (fun q _ h => hFc q h) hFc (fun u t H1 locs ht hvm h5 hB hz1 hk1 hS => ?_)
  obtain ⟨w1, rfl, hP1, hD1⟩ := hB
  rw [ht] at hP1
  obtain ⟨hP, hD⟩ := va_join (wr := [(h0, .inr (4, [.ref q1, .ref q2, .ref q3, .ref q4, .int 0])), (q1, .inl (cI, 10, .inl fun _ => 0)), (q2, .inl (cI, 10, .inl fun _ => 0)), (q4, .inl (cI, 5, .inl (upd (fun _ => 0) (Int32.toNatClampNeg 0) 1023)))]) (w1 := [(q3, .inl (cI, 5, .inl (upd ((upd (fun _ => 0) (Int32.toNatClampNeg 0) 63)) (Int32.toNatClampNeg 1) 63)))]) hP hD [3] [0, 1, 2, 4] rfl rfl (by decide) (by decide) hk1 hFc hP1 hD1
  generalize H1 = H at hP hS ⊢
  have hP := hP.sub (ws' := [(h0, .inr (4, [.ref q1, .ref q2, .ref q3, .ref q4, .int 0])), (q1, .inl (cI, 10, .inl fun _ => 0)), (q2, .inl (cI, 10, .inl fun _ => 0)), (q3, .inl (cI, 5, .inl (upd ((upd (fun _ => 0) (Int32.toNatClampNeg 0) 63)) (Int32.toNatClampNeg 1) 63))), (q4, .inl (cI, 5, .inl (upd (fun _ => 0) (Int32.toNatClampNeg 0) 1023)))]) [0, 1, 2, 4, 3] rfl
  have hD := hD.sub (ws' := [(h0, .inr (4, [.ref q1, .ref q2, .ref q3, .ref q4, .int 0])), (q1, .inl (cI, 10, .inl fun _ => 0)), (q2, .inl (cI, 10, .inl fun _ => 0)), (q3, .inl (cI, 5, .inl (upd ((upd (fun _ => 0) (Int32.toNatClampNeg 0) 63)) (Int32.toNatClampNeg 1) 63))), (q4, .inl (cI, 5, .inl (upd (fun _ => 0) (Int32.toNatClampNeg 0) 1023)))]) [0, 1, 2, 4, 3] (by decide) rfl
  refine lv_aload_n hx hb dX4_init_56 rfl (lv_at hl 1 rfl) ?_
  refine va_get (D := (dC, dI)) (ci := 4) (v := .ref q4) (C := RX4) (T := TX4) (N := 5) hx hb hts in_own hown hK hP 0 rfl rfl 3 (by decide) (tt 8 _ rfl) (fun _ h9 => h9) rfl dX4_init_57 ?_
  refine lv_iload_n hx hb dX4_init_60 rfl (lv_at hl 0 rfl) ?_
  refine lv_sipush (v := 1023) hx hb dX4_init_61 (by decide) ?_
  have hPc := hP.sub (ws' := [(q4, .inl (cI, 5, .inl (upd (fun _ => 0) (Int32.toNatClampNeg 0) 1023)))]) [4] rfl
  have hDc := hD.sub (ws' := [(q4, .inl (cI, 5, .inl (upd (fun _ => 0) (Int32.toNatClampNeg 0) 1023)))]) [4] (by decide) rfl
  have hFc := va_free (wc := [(q4, .inl (cI, 5, .inl (upd (fun _ => 0) (Int32.toNatClampNeg 0) 1023)))]) hD hS hA [4] rfl
  refine va_callv (va_runSN (As := [.ref q4, .int 1, .int 1023]) (rest := []) ⟨hx, hb, hml, hown, hts⟩ (k_X6_store l dC dI cI cZ q4 H.size 5 ((upd (fun _ => 0) (Int32.toNatClampNeg 0) 1023)) 1 1023 (by decide) (by decide) (vp_in_iff.mpr (by decide))) ⟨va_cnB 3 hts gX4_init_X6_store_n28 rfl rfl rfl (ob_nl hKK nw_X4_28) (tt 11 _ rfl) hd_X6_store ⟨by decide, by decide⟩, tt 10 _ rfl, trivial⟩ ⟨fun a U g mk q => by obtain ⟨q0, q1, qP, qK, qD⟩ := q; exact ⟨q0, q1, qP, va_K.moved (u := U) (U := U.calling g mk a) (Vm.Alike.refl U.vm) qK, qD⟩, fun U hU hW => ⟨rfl, by rw [hU], by rw [hU]; exact hPc, va_K.moved hW.alike hK, hDc.weaken (fun _ _ _ _ => trivial)⟩⟩ rfl rfl hl.1 rfl (lv_room (Nat.le_of_ble_eq_true rfl)) dX4_init_64 ⟨by decide, by decide⟩) hS (fun q _ h => hFc q h) hFc (fun u t H1 locs ht hvm h5 hB hz1 hk1 hS => ?_)
  obtain ⟨w1, rfl, hP1, hD1⟩ := hB
  rw [ht] at hP1
  obtain ⟨hP, hD⟩ := va_join (wr := [(h0, .inr (4, [.ref q1, .ref q2, .ref q3, .ref q4, .int 0])), (q1, .inl (cI, 10, .inl fun _ => 0)), (q2, .inl (cI, 10, .inl fun _ => 0)), (q3, .inl (cI, 5, .inl (upd ((upd (fun _ => 0) (Int32.toNatClampNeg 0) 63)) (Int32.toNatClampNeg 1) 63)))]) (w1 := [(q4, .inl (cI, 5, .inl (upd ((upd (fun _ => 0) (Int32.toNatClampNeg 0) 1023)) (Int32.toNatClampNeg 1) 1023)))]) hP hD [4] [0, 1, 2, 3] rfl rfl (by decide) (by decide) hk1 hFc hP1 hD1
  generalize H1 = H at hP hS ⊢
  have hP := hP.sub (ws' := [(h0, .inr (4, [.ref q1, .ref q2, .ref q3, .ref q4, .int 0])), (q1, .inl (cI, 10, .inl fun _ => 0)), (q2, .inl (cI, 10, .inl fun _ => 0)), (q3, .inl (cI, 5, .inl (upd ((upd (fun _ => 0) (Int32.toNatClampNeg 0) 63)) (Int32.toNatClampNeg 1) 63))), (q4, .inl (cI, 5, .inl (upd ((upd (fun _ => 0) (Int32.toNatClampNeg 0) 1023)) (Int32.toNatClampNeg 1) 1023)))]) [0, 1, 2, 3, 4] rfl
  have hD := hD.sub (ws' := [(h0, .inr (4, [.ref q1, .ref q2, .ref q3, .ref q4, .int 0])), (q1, .inl (cI, 10, .inl fun _ => 0)), (q2, .inl (cI, 10, .inl fun _ => 0)), (q3, .inl (cI, 5, .inl (upd ((upd (fun _ => 0) (Int32.toNatClampNeg 0) 63)) (Int32.toNatClampNeg 1) 63))), (q4, .inl (cI, 5, .inl (upd ((upd (fun _ => 0) (Int32.toNatClampNeg 0) 1023)) (Int32.toNatClampNeg 1) 1023)))]) [0, 1, 2, 3, 4] (by decide) rfl
  refine lv_iinc (v := 2) (lv' := [(1, .int 2), (0, .ref h0)]) hx hb dX4_init_67 hl (k := 0) rfl (by decide) (by decide) rfl (fun ls hl => ?_)
  refine lv_goto (tgt := 41) hx hb dX4_init_70 (by decide) ?_
  refine lv_iload_n hx hb dX4_init_41 rfl (lv_at hl 0 rfl) ?_
  refine lv_iconst (v := 5) hx hb dX4_init_42 (by decide) ?_
  refine lv_icmp_ge (tgt := 73) hx hb dX4_init_43 (by decide) (fun c9 => absurd c9 (by decide)) (fun _ => ?_)
  refine lv_aload_n hx hb dX4_init_46 rfl (lv_at hl 1 rfl) ?_
  refine va_get (D := (dC, dI)) (ci := 4) (v := .ref q3) (C := RX4) (T := TX4) (N := 5) hx hb hts in_own hown hK hP 0 rfl rfl 2 (by decide) (tt 7 _ rfl) (fun _ h9 => h9) rfl dX4_init_47 ?_
  refine lv_iload_n hx hb dX4_init_50 rfl (lv_at hl 0 rfl) ?_
  refine lv_bipush (v := 63) hx hb dX4_init_51 (by decide) ?_
  have hPc := hP.sub (ws' := [(q3, .inl (cI, 5, .inl (upd ((upd (fun _ => 0) (Int32.toNatClampNeg 0) 63)) (Int32.toNatClampNeg 1) 63)))]) [3] rfl
  have hDc := hD.sub (ws' := [(q3, .inl (cI, 5, .inl (upd ((upd (fun _ => 0) (Int32.toNatClampNeg 0) 63)) (Int32.toNatClampNeg 1) 63)))]) [3] (by decide) rfl
  have hFc := va_free (wc := [(q3, .inl (cI, 5, .inl (upd ((upd (fun _ => 0) (Int32.toNatClampNeg 0) 63)) (Int32.toNatClampNeg 1) 63)))]) hD hS hA [3] rfl
  refine va_callv (va_runSN (As := [.ref q3, .int 2, .int 63]) (rest := []) ⟨hx, hb, hml, hown, hts⟩ (k_X6_store l dC dI cI cZ q3 H.size 5 ((upd ((upd (fun _ => 0) (Int32.toNatClampNeg 0) 63)) (Int32.toNatClampNeg 1) 63)) 2 63 (by decide) (by decide) (vp_in_iff.mpr (by decide))) ⟨va_cnB 3 hts gX4_init_X6_store_n28 rfl rfl rfl (ob_nl hKK nw_X4_28) (tt 11 _ rfl) hd_X6_store ⟨by decide, by decide⟩, tt 10 _ rfl, trivial⟩ ⟨fun a U g mk q => by obtain ⟨q0, q1, qP, qK, qD⟩ := q; exact ⟨q0, q1, qP, va_K.moved (u := U) (U := U.calling g mk a) (Vm.Alike.refl U.vm) qK, qD⟩, fun U hU hW => ⟨rfl, by rw [hU], by rw [hU]; exact hPc, va_K.moved hW.alike hK, hDc.weaken (fun _ _ _ _ => trivial)⟩⟩ rfl rfl hl.1 rfl (lv_room (Nat.le_of_ble_eq_true rfl)) dX4_init_53 ⟨by decide, by decide⟩) hS (fun q _ h => hFc q h) hFc (fun u t H1 locs ht hvm h5 hB hz1 hk1 hS => ?_)
  obtain ⟨w1, rfl, hP1, hD1⟩ := hB
  rw [ht] at hP1
  obtain ⟨hP, hD⟩ := va_join (wr := [(h0, .inr (4, [.ref q1, .ref q2, .ref q3, .ref q4, .int 0])), (q1, .inl (cI, 10, .inl fun _ => 0)), (q2, .inl (cI, 10, .inl fun _ => 0)), (q4, .inl (cI, 5, .inl (upd ((upd (fun _ => 0) (Int32.toNatClampNeg 0) 1023)) (Int32.toNatClampNeg 1) 1023)))]) (w1 := [(q3, .inl (cI, 5, .inl (upd ((upd ((upd (fun _ => 0) (Int32.toNatClampNeg 0) 63)) (Int32.toNatClampNeg 1) 63)) (Int32.toNatClampNeg 2) 63)))]) hP hD [3] [0, 1, 2, 4] rfl rfl (by decide) (by decide) hk1 hFc hP1 hD1
  generalize H1 = H at hP hS ⊢
  have hP := hP.sub (ws' := [(h0, .inr (4, [.ref q1, .ref q2, .ref q3, .ref q4, .int 0])), (q1, .inl (cI, 10, .inl fun _ => 0)), (q2, .inl (cI, 10, .inl fun _ => 0)), (q3, .inl (cI, 5, .inl (upd ((upd ((upd (fun _ => 0) (Int32.toNatClampNeg 0) 63)) (Int32.toNatClampNeg 1) 63)) (Int32.toNatClampNeg 2) 63))), (q4, .inl (cI, 5, .inl (upd ((upd (fun _ => 0) (Int32.toNatClampNeg 0) 1023)) (Int32.toNatClampNeg 1) 1023)))]) [0, 1, 2, 4, 3] rfl
  have hD := hD.sub (ws' := [(h0, .inr (4, [.ref q1, .ref q2, .ref q3, .ref q4, .int 0])), (q1, .inl (cI, 10, .inl fun _ => 0)), (q2, .inl (cI, 10, .inl fun _ => 0)), (q3, .inl (cI, 5, .inl (upd ((upd ((upd (fun _ => 0) (Int32.toNatClampNeg 0) 63)) (Int32.toNatClampNeg 1) 63)) (Int32.toNatClampNeg 2) 63))), (q4, .inl (cI, 5, .inl (upd ((upd (fun _ => 0) (Int32.toNatClampNeg 0) 1023)) (Int32.toNatClampNeg 1) 1023)))]) [0, 1, 2, 4, 3] (by decide) rfl
  refine lv_aload_n hx hb dX4_init_56 rfl (lv_at hl 1 rfl) ?_
  refine va_get (D := (dC, dI)) (ci := 4) (v := .ref q4) (C := RX4) (T := TX4) (N := 5) hx hb hts in_own hown hK hP 0 rfl rfl 3 (by decide) (tt 8 _ rfl) (fun _ h9 => h9) rfl dX4_init_57 ?_
  refine lv_iload_n hx hb dX4_init_60 rfl (lv_at hl 0 rfl) ?_
  refine lv_sipush (v := 1023) hx hb dX4_init_61 (by decide) ?_
  have hPc := hP.sub (ws' := [(q4, .inl (cI, 5, .inl (upd ((upd (fun _ => 0) (Int32.toNatClampNeg 0) 1023)) (Int32.toNatClampNeg 1) 1023)))]) [4] rfl
  have hDc := hD.sub (ws' := [(q4, .inl (cI, 5, .inl (upd ((upd (fun _ => 0) (Int32.toNatClampNeg 0) 1023)) (Int32.toNatClampNeg 1) 1023)))]) [4] (by decide) rfl
  have hFc := va_free (wc := [(q4, .inl (cI, 5, .inl (upd ((upd (fun _ => 0) (Int32.toNatClampNeg 0) 1023)) (Int32.toNatClampNeg 1) 1023)))]) hD hS hA [4] rfl
  refine va_callv (va_runSN (As := [.ref q4, .int 2, .int 1023]) (rest := []) ⟨hx, hb, hml, hown, hts⟩ (k_X6_store l dC dI cI cZ q4 H.size 5 ((upd ((upd (fun _ => 0) (Int32.toNatClampNeg 0) 1023)) (Int32.toNatClampNeg 1) 1023)) 2 1023 (by decide) (by decide) (vp_in_iff.mpr (by decide))) ⟨va_cnB 3 hts gX4_init_X6_store_n28 rfl rfl rfl (ob_nl hKK nw_X4_28) (tt 11 _ rfl) hd_X6_store ⟨by decide, by decide⟩, tt 10 _ rfl, trivial⟩ ⟨fun a U g mk q => by obtain ⟨q0, q1, qP, qK, qD⟩ := q; exact ⟨q0, q1, qP, va_K.moved (u := U) (U := U.calling g mk a) (Vm.Alike.refl U.vm) qK, qD⟩, fun U hU hW => ⟨rfl, by rw [hU], by rw [hU]; exact hPc, va_K.moved hW.alike hK, hDc.weaken (fun _ _ _ _ => trivial)⟩⟩ rfl rfl hl.1 rfl (lv_room (Nat.le_of_ble_eq_true rfl)) dX4_init_64 ⟨by decide, by decide⟩) hS (fun q _ h => hFc q h) hFc (fun u t H1 locs ht hvm h5 hB hz1 hk1 hS => ?_)
  obtain ⟨w1, rfl, hP1, hD1⟩ := hB
  rw [ht] at hP1
  obtain ⟨hP, hD⟩ := va_join (wr := [(h0, .inr (4, [.ref q1, .ref q2, .ref q3, .ref q4, .int 0])), (q1, .inl (cI, 10, .inl fun _ => 0)), (q2, .inl (cI, 10, .inl fun _ => 0)), (q3, .inl (cI, 5, .inl (upd ((upd ((upd (fun _ => 0) (Int32.toNatClampNeg 0) 63)) (Int32.toNatClampNeg 1) 63)) (Int32.toNatClampNeg 2) 63)))]) (w1 := [(q4, .inl (cI, 5, .inl (upd ((upd ((upd (fun _ => 0) (Int32.toNatClampNeg 0) 1023)) (Int32.toNatClampNeg 1) 1023)) (Int32.toNatClampNeg 2) 1023)))]) hP hD [4] [0, 1, 2, 3] rfl rfl (by decide) (by decide) hk1 hFc hP1 hD1
  generalize H1 = H at hP hS ⊢
  have hP := hP.sub (ws' := [(h0, .inr (4, [.ref q1, .ref q2, .ref q3, .ref q4, .int 0])), (q1, .inl (cI, 10, .inl fun _ => 0)), (q2, .inl (cI, 10, .inl fun _ => 0)), (q3, .inl (cI, 5, .inl (upd ((upd ((upd (fun _ => 0) (Int32.toNatClampNeg 0) 63)) (Int32.toNatClampNeg 1) 63)) (Int32.toNatClampNeg 2) 63))), (q4, .inl (cI, 5, .inl (upd ((upd ((upd (fun _ => 0) (Int32.toNatClampNeg 0) 1023)) (Int32.toNatClampNeg 1) 1023)) (Int32.toNatClampNeg 2) 1023)))]) [0, 1, 2, 3, 4] rfl
  have hD := hD.sub (ws' := [(h0, .inr (4, [.ref q1, .ref q2, .ref q3, .ref q4, .int 0])), (q1, .inl (cI, 10, .inl fun _ => 0)), (q2, .inl (cI, 10, .inl fun _ => 0)), (q3, .inl (cI, 5, .inl (upd ((upd ((upd (fun _ => 0) (Int32.toNatClampNeg 0) 63)) (Int32.toNatClampNeg 1) 63)) (Int32.toNatClampNeg 2) 63))), (q4, .inl (cI, 5, .inl (upd ((upd ((upd (fun _ => 0) (Int32.toNatClampNeg 0) 1023)) (Int32.toNatClampNeg 1) 1023)) (Int32.toNatClampNeg 2) 1023)))]) [0, 1, 2, 3, 4] (by decide) rfl
  refine lv_iinc (v := 3) (lv' := [(1, .int 3), (0, .ref h0)]) hx hb dX4_init_67 hl (k := 0) rfl (by decide) (by decide) rfl (fun ls hl => ?_)
  refine lv_goto (tgt := 41) hx hb dX4_init_70 (by decide) ?_
  refine lv_iload_n hx hb dX4_init_41 rfl (lv_at hl 0 rfl) ?_
  refine lv_iconst (v := 5) hx hb dX4_init_42 (by decide) ?_
  refine lv_icmp_ge (tgt := 73) hx hb dX4_init_43 (by decide) (fun c9 => absurd c9 (by decide)) (fun _ => ?_)
  refine lv_aload_n hx hb dX4_init_46 rfl (lv_at hl 1 rfl) ?_
  refine va_get (D := (dC, dI)) (ci := 4) (v := .ref q3) (C := RX4) (T := TX4) (N := 5) hx hb hts in_own hown hK hP 0 rfl rfl 2 (by decide) (tt 7 _ rfl) (fun _ h9 => h9) rfl dX4_init_47 ?_
  refine lv_iload_n hx hb dX4_init_50 rfl (lv_at hl 0 rfl) ?_
  refine lv_bipush (v := 63) hx hb dX4_init_51 (by decide) ?_
  have hPc := hP.sub (ws' := [(q3, .inl (cI, 5, .inl (upd ((upd ((upd (fun _ => 0) (Int32.toNatClampNeg 0) 63)) (Int32.toNatClampNeg 1) 63)) (Int32.toNatClampNeg 2) 63)))]) [3] rfl
  have hDc := hD.sub (ws' := [(q3, .inl (cI, 5, .inl (upd ((upd ((upd (fun _ => 0) (Int32.toNatClampNeg 0) 63)) (Int32.toNatClampNeg 1) 63)) (Int32.toNatClampNeg 2) 63)))]) [3] (by decide) rfl
  have hFc := va_free (wc := [(q3, .inl (cI, 5, .inl (upd ((upd ((upd (fun _ => 0) (Int32.toNatClampNeg 0) 63)) (Int32.toNatClampNeg 1) 63)) (Int32.toNatClampNeg 2) 63)))]) hD hS hA [3] rfl
  refine va_callv (va_runSN (As := [.ref q3, .int 3, .int 63]) (rest := []) ⟨hx, hb, hml, hown, hts⟩ (k_X6_store l dC dI cI cZ q3 H.size 5 ((upd ((upd ((upd (fun _ => 0) (Int32.toNatClampNeg 0) 63)) (Int32.toNatClampNeg 1) 63)) (Int32.toNatClampNeg 2) 63)) 3 63 (by decide) (by decide) (vp_in_iff.mpr (by decide))) ⟨va_cnB 3 hts gX4_init_X6_store_n28 rfl rfl rfl (ob_nl hKK nw_X4_28) (tt 11 _ rfl) hd_X6_store ⟨by decide, by decide⟩, tt 10 _ rfl, trivial⟩ ⟨fun a U g mk q => by obtain ⟨q0, q1, qP, qK, qD⟩ := q; exact ⟨q0, q1, qP, va_K.moved (u := U) (U := U.calling g mk a) (Vm.Alike.refl U.vm) qK, qD⟩, fun U hU hW => ⟨rfl, by rw [hU], by rw [hU]; exact hPc, va_K.moved hW.alike hK, hDc.weaken (fun _ _ _ _ => trivial)⟩⟩ rfl rfl hl.1 rfl (lv_room (Nat.le_of_ble_eq_true rfl)) dX4_init_53 ⟨by decide, by decide⟩) hS (fun q _ h => hFc q h) hFc (fun u t H1 locs ht hvm h5 hB hz1 hk1 hS => ?_)
  obtain ⟨w1, rfl, hP1, hD1⟩ := hB
  rw [ht] at hP1
  obtain ⟨hP, hD⟩ := va_join (wr := [(h0, .inr (4, [.ref q1, .ref q2, .ref q3, .ref q4, .int 0])), (q1, .inl (cI, 10, .inl fun _ => 0)), (q2, .inl (cI, 10, .inl fun _ => 0)), (q4, .inl (cI, 5, .inl (upd ((upd ((upd (fun _ => 0) (Int32.toNatClampNeg 0) 1023)) (Int32.toNatClampNeg 1) 1023)) (Int32.toNatClampNeg 2) 1023)))]) (w1 := [(q3, .inl (cI, 5, .inl (upd ((upd ((upd ((upd (fun _ => 0) (Int32.toNatClampNeg 0) 63)) (Int32.toNatClampNeg 1) 63)) (Int32.toNatClampNeg 2) 63)) (Int32.toNatClampNeg 3) 63)))]) hP hD [3] [0, 1, 2, 4] rfl rfl (by decide) (by decide) hk1 hFc hP1 hD1
  generalize H1 = H at hP hS ⊢
  have hP := hP.sub (ws' := [(h0, .inr (4, [.ref q1, .ref q2, .ref q3, .ref q4, .int 0])), (q1, .inl (cI, 10, .inl fun _ => 0)), (q2, .inl (cI, 10, .inl fun _ => 0)), (q3, .inl (cI, 5, .inl (upd ((upd ((upd ((upd (fun _ => 0) (Int32.toNatClampNeg 0) 63)) (Int32.toNatClampNeg 1) 63)) (Int32.toNatClampNeg 2) 63)) (Int32.toNatClampNeg 3) 63))), (q4, .inl (cI, 5, .inl (upd ((upd ((upd (fun _ => 0) (Int32.toNatClampNeg 0) 1023)) (Int32.toNatClampNeg 1) 1023)) (Int32.toNatClampNeg 2) 1023)))]) [0, 1, 2, 4, 3] rfl
  have hD := hD.sub (ws' := [(h0, .inr (4, [.ref q1, .ref q2, .ref q3, .ref q4, .int 0])), (q1, .inl (cI, 10, .inl fun _ => 0)), (q2, .inl (cI, 10, .inl fun _ => 0)), (q3, .inl (cI, 5, .inl (upd ((upd ((upd ((upd (fun _ => 0) (Int32.toNatClampNeg 0) 63)) (Int32.toNatClampNeg 1) 63)) (Int32.toNatClampNeg 2) 63)) (Int32.toNatClampNeg 3) 63))), (q4, .inl (cI, 5, .inl (upd ((upd ((upd (fun _ => 0) (Int32.toNatClampNeg 0) 1023)) (Int32.toNatClampNeg 1) 1023)) (Int32.toNatClampNeg 2) 1023)))]) [0, 1, 2, 4, 3] (by decide) rfl
  refine lv_aload_n hx hb dX4_init_56 rfl (lv_at hl 1 rfl) ?_
  refine va_get (D := (dC, dI)) (ci := 4) (v := .ref q4) (C := RX4) (T := TX4) (N := 5) hx hb hts in_own hown hK hP 0 rfl rfl 3 (by decide) (tt 8 _ rfl) (fun _ h9 => h9) rfl dX4_init_57 ?_
  refine lv_iload_n hx hb dX4_init_60 rfl (lv_at hl 0 rfl) ?_
  refine lv_sipush (v := 1023) hx hb dX4_init_61 (by decide) ?_
  have hPc := hP.sub (ws' := [(q4, .inl (cI, 5, .inl (upd ((upd ((upd (fun _ => 0) (Int32.toNatClampNeg 0) 1023)) (Int32.toNatClampNeg 1) 1023)) (Int32.toNatClampNeg 2) 1023)))]) [4] rfl
  have hDc := hD.sub (ws' := [(q4, .inl (cI, 5, .inl (upd ((upd ((upd (fun _ => 0) (Int32.toNatClampNeg 0) 1023)) (Int32.toNatClampNeg 1) 1023)) (Int32.toNatClampNeg 2) 1023)))]) [4] (by decide) rfl
  have hFc := va_free (wc := [(q4, .inl (cI, 5, .inl (upd ((upd ((upd (fun _ => 0) (Int32.toNatClampNeg 0) 1023)) (Int32.toNatClampNeg 1) 1023)) (Int32.toNatClampNeg 2) 1023)))]) hD hS hA [4] rfl
  refine va_callv (va_runSN (As := [.ref q4, .int 3, .int 1023]) (rest := []) ⟨hx, hb, hml, hown, hts⟩ (k_X6_store l dC dI cI cZ q4 H.size 5 ((upd ((upd ((upd (fun _ => 0) (Int32.toNatClampNeg 0) 1023)) (Int32.toNatClampNeg 1) 1023)) (Int32.toNatClampNeg 2) 1023)) 3 1023 (by decide) (by decide) (vp_in_iff.mpr (by decide))) ⟨va_cnB 3 hts gX4_init_X6_store_n28 rfl rfl rfl (ob_nl hKK nw_X4_28) (tt 11 _ rfl) hd_X6_store ⟨by decide, by decide⟩, tt 10 _ rfl, trivial⟩ ⟨fun a U g mk q => by obtain ⟨q0, q1, qP, qK, qD⟩ := q; exact ⟨q0, q1, qP, va_K.moved (u := U) (U := U.calling g mk a) (Vm.Alike.refl U.vm) qK, qD⟩, fun U hU hW => ⟨rfl, by rw [hU], by rw [hU]; exact hPc, va_K.moved hW.alike hK, hDc.weaken (fun _ _ _ _ => trivial)⟩⟩ rfl rfl hl.1 rfl (lv_room (Nat.le_of_ble_eq_true rfl)) dX4_init_64 ⟨by decide, by decide⟩) hS (fun q _ h => hFc q h) hFc (fun u t H1 locs ht hvm h5 hB hz1 hk1 hS => ?_)
  obtain ⟨w1, rfl, hP1, hD1⟩ := hB
  rw [ht] at hP1
  obtain ⟨hP, hD⟩ := va_join (wr := [(h0, .inr (4, [.ref q1, .ref q2, .ref q3, .ref q4, .int 0])), (q1, .inl (cI, 10, .inl fun _ => 0)), (q2, .inl (cI, 10, .inl fun _ => 0)), (q3, .inl (cI, 5, .inl (upd ((upd ((upd ((upd (fun _ => 0) (Int32.toNatClampNeg 0) 63)) (Int32.toNatClampNeg 1) 63)) (Int32.toNatClampNeg 2) 63)) (Int32.toNatClampNeg 3) 63)))]) (w1 := [(q4, .inl (cI, 5, .inl (upd ((upd ((upd ((upd (fun _ => 0) (Int32.toNatClampNeg 0) 1023)) (Int32.toNatClampNeg 1) 1023)) (Int32.toNatClampNeg 2) 1023)) (Int32.toNatClampNeg 3) 1023)))]) hP hD [4] [0, 1, 2, 3] rfl rfl (by decide) (by decide) hk1 hFc hP1 hD1
  generalize H1 = H at hP hS ⊢
  have hP := hP.sub (ws' := [(h0, .inr (4, [.ref q1, .ref q2, .ref q3, .ref q4, .int 0])), (q1, .inl (cI, 10, .inl fun _ => 0)), (q2, .inl (cI, 10, .inl fun _ => 0)), (q3, .inl (cI, 5, .inl (upd ((upd ((upd ((upd (fun _ => 0) (Int32.toNatClampNeg 0) 63)) (Int32.toNatClampNeg 1) 63)) (Int32.toNatClampNeg 2) 63)) (Int32.toNatClampNeg 3) 63))), (q4, .inl (cI, 5, .inl (upd ((upd ((upd ((upd (fun _ => 0) (Int32.toNatClampNeg 0) 1023)) (Int32.toNatClampNeg 1) 1023)) (Int32.toNatClampNeg 2) 1023)) (Int32.toNatClampNeg 3) 1023)))]) [0, 1, 2, 3, 4] rfl
  have hD := hD.sub (ws' := [(h0, .inr (4, [.ref q1, .ref q2, .ref q3, .ref q4, .int 0])), (q1, .inl (cI, 10, .inl fun _ => 0)), (q2, .inl (cI, 10, .inl fun _ => 0)), (q3, .inl (cI, 5, .inl (upd ((upd ((upd ((upd (fun _ => 0) (Int32.toNatClampNeg 0) 63)) (Int32.toNatClampNeg 1) 63)) (Int32.toNatClampNeg 2) 63)) (Int32.toNatClampNeg 3) 63))), (q4, .inl (cI, 5, .inl (upd ((upd ((upd ((upd (fun _ => 0) (Int32.toNatClampNeg 0) 1023)) (Int32.toNatClampNeg 1) 1023)) (Int32.toNatClampNeg 2) 1023)) (Int32.toNatClampNeg 3) 1023)))]) [0, 1, 2, 3, 4] (by decide) rfl
  refine lv_iinc (v := 4) (lv' := [(1, .int 4), (0, .ref h0)]) hx hb dX4_init_67 hl (k := 0) rfl (by decide) (by decide) rfl (fun ls hl => ?_)
  refine lv_goto (tgt := 41) hx hb dX4_init_70 (by decide) ?_
  refine lv_iload_n hx hb dX4_init_41 rfl (lv_at hl 0 rfl) ?_
  refine lv_iconst (v := 5) hx hb dX4_init_42 (by decide) ?_
  refine lv_icmp_ge (tgt := 73) hx hb dX4_init_43 (by decide) (fun c9 => absurd c9 (by decide)) (fun _ => ?_)
  refine lv_aload_n hx hb dX4_init_46 rfl (lv_at hl 1 rfl) ?_
  refine va_get (D := (dC, dI)) (ci := 4) (v := .ref q3) (C := RX4) (T := TX4) (N := 5) hx hb hts in_own hown hK hP 0 rfl rfl 2 (by decide) (tt 7 _ rfl) (fun _ h9 => h9) rfl dX4_init_47 ?_
  refine lv_iload_n hx hb dX4_init_50 rfl (lv_at hl 0 rfl) ?_
  refine lv_bipush (v := 63) hx hb dX4_init_51 (by decide) ?_
  have hPc := hP.sub (ws' := [(q3, .inl (cI, 5, .inl (upd ((upd ((upd ((upd (fun _ => 0) (Int32.toNatClampNeg 0) 63)) (Int32.toNatClampNeg 1) 63)) (Int32.toNatClampNeg 2) 63)) (Int32.toNatClampNeg 3) 63)))]) [3] rfl
  have hDc := hD.sub (ws' := [(q3, .inl (cI, 5, .inl (upd ((upd ((upd ((upd (fun _ => 0) (Int32.toNatClampNeg 0) 63)) (Int32.toNatClampNeg 1) 63)) (Int32.toNatClampNeg 2) 63)) (Int32.toNatClampNeg 3) 63)))]) [3] (by decide) rfl
  have hFc := va_free (wc := [(q3, .inl (cI, 5, .inl (upd ((upd ((upd ((upd (fun _ => 0) (Int32.toNatClampNeg 0) 63)) (Int32.toNatClampNeg 1) 63)) (Int32.toNatClampNeg 2) 63)) (Int32.toNatClampNeg 3) 63)))]) hD hS hA [3] rfl
  refine va_callv (va_runSN (As := [.ref q3, .int 4, .int 63]) (rest := []) ⟨hx, hb, hml, hown, hts⟩ (k_X6_store l dC dI cI cZ q3 H.size 5 ((upd ((upd ((upd ((upd (fun _ => 0) (Int32.toNatClampNeg 0) 63)) (Int32.toNatClampNeg 1) 63)) (Int32.toNatClampNeg 2) 63)) (Int32.toNatClampNeg 3) 63)) 4 63 (by decide) (by decide) (vp_in_iff.mpr (by decide))) ⟨va_cnB 3 hts gX4_init_X6_store_n28 rfl rfl rfl (ob_nl hKK nw_X4_28) (tt 11 _ rfl) hd_X6_store ⟨by decide, by decide⟩, tt 10 _ rfl, trivial⟩ ⟨fun a U g mk q => by obtain ⟨q0, q1, qP, qK, qD⟩ := q; exact ⟨q0, q1, qP, va_K.moved (u := U) (U := U.calling g mk a) (Vm.Alike.refl U.vm) qK, qD⟩, fun U hU hW => ⟨rfl, by rw [hU], by rw [hU]; exact hPc, va_K.moved hW.alike hK, hDc.weaken (fun _ _ _ _ => trivial)⟩⟩ rfl rfl hl.1 rfl (lv_room (Nat.le_of_ble_eq_true rfl)) dX4_init_53 ⟨by decide, by decide⟩) hS (fun q _ h => hFc q h) hFc (fun u t H1 locs ht hvm h5 hB hz1 hk1 hS => ?_)
  obtain ⟨w1, rfl, hP1, hD1⟩ := hB
  rw [ht] at hP1
  obtain ⟨hP, hD⟩ := va_join (wr := [(h0, .inr (4, [.ref q1, .ref q2, .ref q3, .ref q4, .int 0])), (q1, .inl (cI, 10, .inl fun _ => 0)), (q2, .inl (cI, 10, .inl fun _ => 0)), (q4, .inl (cI, 5, .inl (upd ((upd ((upd ((upd (fun _ => 0) (Int32.toNatClampNeg 0) 1023)) (Int32.toNatClampNeg 1) 1023)) (Int32.toNatClampNeg 2) 1023)) (Int32.toNatClampNeg 3) 1023)))]) (w1 := [(q3, .inl (cI, 5, .inl (upd ((upd ((upd ((upd ((upd (fun _ => 0) (Int32.toNatClampNeg 0) 63)) (Int32.toNatClampNeg 1) 63)) (Int32.toNatClampNeg 2) 63)) (Int32.toNatClampNeg 3) 63)) (Int32.toNatClampNeg 4) 63)))]) hP hD [3] [0, 1, 2, 4] rfl rfl (by decide) (by decide) hk1 hFc hP1 hD1
  generalize H1 = H at hP hS ⊢
  have hP := hP.sub (ws' := [(h0, .inr (4, [.ref q1, .ref q2, .ref q3, .ref q4, .int 0])), (q1, .inl (cI, 10, .inl fun _ => 0)), (q2, .inl (cI, 10, .inl fun _ => 0)), (q3, .inl (cI, 5, .inl (upd ((upd ((upd ((upd ((upd (fun _ => 0) (Int32.toNatClampNeg 0) 63)) (Int32.toNatClampNeg 1) 63)) (Int32.toNatClampNeg 2) 63)) (Int32.toNatClampNeg 3) 63)) (Int32.toNatClampNeg 4) 63))), (q4, .inl (cI, 5, .inl (upd ((upd ((upd ((upd (fun _ => 0) (Int32.toNatClampNeg 0) 1023)) (Int32.toNatClampNeg 1) 1023)) (Int32.toNatClampNeg 2) 1023)) (Int32.toNatClampNeg 3) 1023)))]) [0, 1, 2, 4, 3] rfl
  have hD := hD.sub (ws' := [(h0, .inr (4, [.ref q1, .ref q2, .ref q3, .ref q4, .int 0])), (q1, .inl (cI, 10, .inl fun _ => 0)), (q2, .inl (cI, 10, .inl fun _ => 0)), (q3, .inl (cI, 5, .inl (upd ((upd ((upd ((upd ((upd (fun _ => 0) (Int32.toNatClampNeg 0) 63)) (Int32.toNatClampNeg 1) 63)) (Int32.toNatClampNeg 2) 63)) (Int32.toNatClampNeg 3) 63)) (Int32.toNatClampNeg 4) 63))), (q4, .inl (cI, 5, .inl (upd ((upd ((upd ((upd (fun _ => 0) (Int32.toNatClampNeg 0) 1023)) (Int32.toNatClampNeg 1) 1023)) (Int32.toNatClampNeg 2) 1023)) (Int32.toNatClampNeg 3) 1023)))]) [0, 1, 2, 4, 3] (by decide) rfl
  refine lv_aload_n hx hb dX4_init_56 rfl (lv_at hl 1 rfl) ?_
  refine va_get (D := (dC, dI)) (ci := 4) (v := .ref q4) (C := RX4) (T := TX4) (N := 5) hx hb hts in_own hown hK hP 0 rfl rfl 3 (by decide) (tt 8 _ rfl) (fun _ h9 => h9) rfl dX4_init_57 ?_
  refine lv_iload_n hx hb dX4_init_60 rfl (lv_at hl 0 rfl) ?_
  refine lv_sipush (v := 1023) hx hb dX4_init_61 (by decide) ?_
  have hPc := hP.sub (ws' := [(q4, .inl (cI, 5, .inl (upd ((upd ((upd ((upd (fun _ => 0) (Int32.toNatClampNeg 0) 1023)) (Int32.toNatClampNeg 1) 1023)) (Int32.toNatClampNeg 2) 1023)) (Int32.toNatClampNeg 3) 1023)))]) [4] rfl
  have hDc := hD.sub (ws' := [(q4, .inl (cI, 5, .inl (upd ((upd ((upd ((upd (fun _ => 0) (Int32.toNatClampNeg 0) 1023)) (Int32.toNatClampNeg 1) 1023)) (Int32.toNatClampNeg 2) 1023)) (Int32.toNatClampNeg 3) 1023)))]) [4] (by decide) rfl
  have hFc := va_free (wc := [(q4, .inl (cI, 5, .inl (upd ((upd ((upd ((upd (fun _ => 0) (Int32.toNatClampNeg 0) 1023)) (Int32.toNatClampNeg 1) 1023)) (Int32.toNatClampNeg 2) 1023)) (Int32.toNatClampNeg 3) 1023)))]) hD hS hA [4] rfl
  refine va_callv (va_runSN (As := [.ref q4, .int 4, .int 1023]) (rest := []) ⟨hx, hb, hml, hown, hts⟩ (k_X6_store l dC dI cI cZ q4 H.size 5 ((upd ((upd ((upd ((upd (fun _ => 0) (Int32.toNatClampNeg 0) 1023)) (Int32.toNatClampNeg 1) 1023)) (Int32.toNatClampNeg 2) 1023)) (Int32.toNatClampNeg 3) 1023)) 4 1023 (by decide) (by decide) (vp_in_iff.mpr (by decide))) ⟨va_cnB 3 hts gX4_init_X6_store_n28 rfl rfl rfl (ob_nl hKK nw_X4_28) (tt 11 _ rfl) hd_X6_store ⟨by decide, by decide⟩, tt 10 _ rfl, trivial⟩ ⟨fun a U g mk q => by obtain ⟨q0, q1, qP, qK, qD⟩ := q; exact ⟨q0, q1, qP, va_K.moved (u := U) (U := U.calling g mk a) (Vm.Alike.refl U.vm) qK, qD⟩, fun U hU hW => ⟨rfl, by rw [hU], by rw [hU]; exact hPc, va_K.moved hW.alike hK, hDc.weaken (fun _ _ _ _ => trivial)⟩⟩ rfl rfl hl.1 rfl (lv_room (Nat.le_of_ble_eq_true rfl)) dX4_init_64 ⟨by decide, by decide⟩) hS (fun q _ h => hFc q h) hFc (fun u t H1 locs ht hvm h5 hB hz1 hk1 hS => ?_)
  obtain ⟨w1, rfl, hP1, hD1⟩ := hB
  rw [ht] at hP1
  obtain ⟨hP, hD⟩ := va_join (wr := [(h0, .inr (4, [.ref q1, .ref q2, .ref q3, .ref q4, .int 0])), (q1, .inl (cI, 10, .inl fun _ => 0)), (q2, .inl (cI, 10, .inl fun _ => 0)), (q3, .inl (cI, 5, .inl (upd ((upd ((upd ((upd ((upd (fun _ => 0) (Int32.toNatClampNeg 0) 63)) (Int32.toNatClampNeg 1) 63)) (Int32.toNatClampNeg 2) 63)) (Int32.toNatClampNeg 3) 63)) (Int32.toNatClampNeg 4) 63)))]) (w1 := [(q4, .inl (cI, 5, .inl (upd ((upd ((upd ((upd ((upd (fun _ => 0) (Int32.toNatClampNeg 0) 1023)) (Int32.toNatClampNeg 1) 1023)) (Int32.toNatClampNeg 2) 1023)) (Int32.toNatClampNeg 3) 1023)) (Int32.toNatClampNeg 4) 1023)))]) hP hD [4] [0, 1, 2, 3] rfl rfl (by decide) (by decide) hk1 hFc hP1 hD1
  generalize H1 = H at hP hS ⊢
  have hP := hP.sub (ws' := [(h0, .inr (4, [.ref q1, .ref q2, .ref q3, .ref q4, .int 0])), (q1, .inl (cI, 10, .inl fun _ => 0)), (q2, .inl (cI, 10, .inl fun _ => 0)), (q3, .inl (cI, 5, .inl (upd ((upd ((upd ((upd ((upd (fun _ => 0) (Int32.toNatClampNeg 0) 63)) (Int32.toNatClampNeg 1) 63)) (Int32.toNatClampNeg 2) 63)) (Int32.toNatClampNeg 3) 63)) (Int32.toNatClampNeg 4) 63))), (q4, .inl (cI, 5, .inl (upd ((upd ((upd ((upd ((upd (fun _ => 0) (Int32.toNatClampNeg 0) 1023)) (Int32.toNatClampNeg 1) 1023)) (Int32.toNatClampNeg 2) 1023)) (Int32.toNatClampNeg 3) 1023)) (Int32.toNatClampNeg 4) 1023)))]) [0, 1, 2, 3, 4] rfl
  have hD := hD.sub (ws' := [(h0, .inr (4, [.ref q1, .ref q2, .ref q3, .ref q4, .int 0])), (q1, .inl (cI, 10, .inl fun _ => 0)), (q2, .inl (cI, 10, .inl fun _ => 0)), (q3, .inl (cI, 5, .inl (upd ((upd ((upd ((upd ((upd (fun _ => 0) (Int32.toNatClampNeg 0) 63)) (Int32.toNatClampNeg 1) 63)) (Int32.toNatClampNeg 2) 63)) (Int32.toNatClampNeg 3) 63)) (Int32.toNatClampNeg 4) 63))), (q4, .inl (cI, 5, .inl (upd ((upd ((upd ((upd ((upd (fun _ => 0) (Int32.toNatClampNeg 0) 1023)) (Int32.toNatClampNeg 1) 1023)) (Int32.toNatClampNeg 2) 1023)) (Int32.toNatClampNeg 3) 1023)) (Int32.toNatClampNeg 4) 1023)))]) [0, 1, 2, 3, 4] (by decide) rfl
  refine lv_iinc (v := 5) (lv' := [(1, .int 5), (0, .ref h0)]) hx hb dX4_init_67 hl (k := 0) rfl (by decide) (by decide) rfl (fun ls hl => ?_)
  refine lv_goto (tgt := 41) hx hb dX4_init_70 (by decide) ?_
  refine lv_iload_n hx hb dX4_init_41 rfl (lv_at hl 0 rfl) ?_
  refine lv_iconst (v := 5) hx hb dX4_init_42 (by decide) ?_
  refine lv_icmp_ge (tgt := 73) hx hb dX4_init_43 (by decide) (fun _ => ?_) (fun c9 => absurd (by decide) c9)
  exact W.vret hx hb hr (fun t ht hW => ⟨⟨(), rfl, trivial, _, ⟨q1, q2, q3, q4, rfl⟩, by rw [ht]; exact hP, hD⟩, hS.F ht⟩) hS.2.2 dX4_init_73
set_option maxHeartbeats 4000000 in
set_option maxRecDepth 100000 in
theorem k_X0_init (l : Launch) (dC : Nat → ClassId) (dI : Nat → Nat → Nat) (cI cZ : ClassId) (h0 tw sz : Nat) : cs_Met l yX0_init wsX0_init { frames := 1, cells := 1, slots := 10240, locals := 12 } (dC, dI) cI cZ sz [.ref h0, .ref tw] [(h0, .inr (0, [.null, .null, .int 0, .int 0, .int 0, .int 0, .int 0]))] (fun w => ∃ q1 : Nat, w = [(h0, .inr (0, [.ref tw, .ref q1, .int 0, .int 0, .int 0, .int 0, .int (-6)])), (q1, .inl (cI, 10240, .inl fun _ => 0))]) 1 10240 := by
  refine Met.ofW (cc := cX0_init) (maxL := 2) (ret := none) (by decide) rfl ?_
  intro p e s m args below meth c s₁ B hml hv
  obtain ⟨rfl, hsz, hP, hK, hD0⟩ := hv
  have hx := B.exec
  have hb := B.bytes
  have hr := B.returns
  have hts := atoms_spec (ws := wsX0_init) B.pre
  have hown : s.vm.findClass RX0 = some m.cls := findClass_of_methodNamed B.named
  have hlocks := B.notSynchronized
  have hin : meth.name = "<init>" := (name_of_methodNamed B.named B.method).1
  subst hsz
  have hD := hD0.self (sz := s.heap.size)
  generalize hAe : va_A [(h0, .inr (0, [.null, .null, .int 0, .int 0, .int 0, .int 0, .int 0]))] s.heap.size = A at hD ⊢
  have hA : ∀ q : Nat, s.heap.size ≤ q → A q := fun q h => by rw [← hAe]; exact Or.inr h
  have hS : va_S A s.heap s.heap [] := va_S.rf
  have hP : va_P (dC, dI) vwCl [(h0, .inr (0, [.null, .null, .int 0, .int 0, .int 0, .int 0, .int 0]))] s.heap := hP
  have hl := lv_entry ([.ref h0, .ref tw]) (n := 2) (Nat.le_of_ble_eq_true rfl)
  rw [lg_entry_eq]
  generalize (lg_sl ([.ref h0, .ref tw]) ++ List.replicate (2 - (lg_sl ([.ref h0, .ref tw])).length) Slot.unset).toArray = ls at hl ⊢
  have hl : lv_has ls 2 [(0, .ref h0), (1, .ref tw)] := hl
  have in_own : ∀ w ∈ wsX00, w ∈ wsX0_init := fun w h => List.mem_cons_of_mem _ (List.mem_append_right _ h)
  have tt : ∀ (i : Nat) (w : Cond), wsX0_init[i]? = some w → w.before ([.ref h0, .ref tw] : List Value).toArray s = true := fun i w h => hts w (List.mem_of_getElem? h)
  refine lv_aload_n hx hb dX0_init_0 rfl (lv_at hl 0 rfl) ?_
  refine W.objInit hx hb hown (tt 1 _ rfl) (tt 2 _ rfl) (tt 3 _ rfl) rfl (by rw [hml]; exact hl.1) rfl dX0_init_1 (Nat.le_of_ble_eq_true rfl) (Nat.le_of_ble_eq_true rfl) ?_
  refine W.eq (g2 := F0 m 4 ls []) rfl ?_
  refine lv_aload_n hx hb dX0_init_4 rfl (lv_at hl 0 rfl) ?_
  refine lv_sipush (v := 10240) hx hb dX0_init_5 (by decide) ?_
  refine cs_newI (N := 10240) hx hb (tt 4 _ rfl) hK hP hD hS hA (by decide) (by decide) (by decide) (by decide) (by decide) dX0_init_8 (fun q1 H hP hD hS => ?_)
  have hP : va_P (dC, dI) vwCl [(h0, .inr (0, [.null, .null, .int 0, .int 0, .int 0, .int 0, .int 0])), (q1, .inl (cI, 10240, .inl fun _ => 0))] H := hP
  have hD : va_D A [(h0, .inr (0, [.null, .null, .int 0, .int 0, .int 0, .int 0, .int 0])), (q1, .inl (cI, 10240, .inl fun _ => 0))] := hD
  refine va_putF (D := (dC, dI)) (ci := 0) (v := .ref q1) (ty := .array .int) (C := RX0) (T := TX0) (N := 7) hx hb hts in_own tyX0 tyX0_ok nmX0 hown hK hP hD hS 0 rfl rfl 1 (by decide) (tt 5 _ rfl) (fun _ h9 => h9) rfl hin rfl (tyX0_ok 1 (by decide)) rfl rfl (Nat.le_of_ble_eq_true rfl) dX0_init_10 (fun H locs hP hD hS => ?_)
  have hP : va_P (dC, dI) vwCl [(h0, .inr (0, [.null, .ref q1, .int 0, .int 0, .int 0, .int 0, .int 0])), (q1, .inl (cI, 10240, .inl fun _ => 0))] H := hP
  have hD : va_D A [(h0, .inr (0, [.null, .ref q1, .int 0, .int 0, .int 0, .int 0, .int 0])), (q1, .inl (cI, 10240, .inl fun _ => 0))] := hD
  refine lv_aload_n hx hb dX0_init_13 rfl (lv_at hl 0 rfl) ?_
  refine lv_iconst (v := 0) hx hb dX0_init_14 (by decide) ?_
  refine va_put (D := (dC, dI)) (ci := 0) (v := .int 0) (ty := .int) (C := RX0) (T := TX0) (N := 7) hx hb hts in_own tyX0 tyX0_ok nmX0 hown hK hP hD hS 0 rfl rfl 2 (by decide) (tt 6 _ rfl) (fun _ h9 => h9) rfl (tyX0_ok 2 (by decide)) rfl rfl (Nat.le_of_ble_eq_true rfl) dX0_init_15 (fun H locs hP hD hS => ?_)
  have hP : va_P (dC, dI) vwCl [(h0, .inr (0, [.null, .ref q1, .int 0, .int 0, .int 0, .int 0, .int 0])), (q1, .inl (cI, 10240, .inl fun _ => 0))] H := hP
  have hD : va_D A [(h0, .inr (0, [.null, .ref q1, .int 0, .int 0, .int 0, .int 0, .int 0])), (q1, .inl (cI, 10240, .inl fun _ => 0))] := hD
  refine lv_aload_n hx hb dX0_init_18 rfl (lv_at hl 0 rfl) ?_
  refine lv_iconst (v := 0) hx hb dX0_init_19 (by decide) ?_
  refine va_put (D := (dC, dI)) (ci := 0) (v := .int 0) (ty := .boolean) (C := RX0) (T := TX0) (N := 7) hx hb hts in_own tyX0 tyX0_ok nmX0 hown hK hP hD hS 0 rfl rfl 3 (by decide) (tt 7 _ rfl) (fun _ h9 => h9) rfl (tyX0_ok 3 (by decide)) rfl rfl (Nat.le_of_ble_eq_true rfl) dX0_init_20 (fun H locs hP hD hS => ?_)
  have hP : va_P (dC, dI) vwCl [(h0, .inr (0, [.null, .ref q1, .int 0, .int 0, .int 0, .int 0, .int 0])), (q1, .inl (cI, 10240, .inl fun _ => 0))] H := hP
  have hD : va_D A [(h0, .inr (0, [.null, .ref q1, .int 0, .int 0, .int 0, .int 0, .int 0])), (q1, .inl (cI, 10240, .inl fun _ => 0))] := hD
  refine lv_aload_n hx hb dX0_init_23 rfl (lv_at hl 0 rfl) ?_
  refine lv_iconst (v := 0) hx hb dX0_init_24 (by decide) ?_
  refine va_put (D := (dC, dI)) (ci := 0) (v := .int 0) (ty := .int) (C := RX0) (T := TX0) (N := 7) hx hb hts in_own tyX0 tyX0_ok nmX0 hown hK hP hD hS 0 rfl rfl 4 (by decide) (tt 8 _ rfl) (fun _ h9 => h9) rfl (tyX0_ok 4 (by decide)) rfl rfl (Nat.le_of_ble_eq_true rfl) dX0_init_25 (fun H locs hP hD hS => ?_)
  have hP : va_P (dC, dI) vwCl [(h0, .inr (0, [.null, .ref q1, .int 0, .int 0, .int 0, .int 0, .int 0])), (q1, .inl (cI, 10240, .inl fun _ => 0))] H := hP
  have hD : va_D A [(h0, .inr (0, [.null, .ref q1, .int 0, .int 0, .int 0, .int 0, .int 0])), (q1, .inl (cI, 10240, .inl fun _ => 0))] := hD
  refine lv_aload_n hx hb dX0_init_28 rfl (lv_at hl 0 rfl) ?_
  refine lv_iconst (v := 0) hx hb dX0_init_29 (by decide) ?_
  refine va_put (D := (dC, dI)) (ci := 0) (v := .int 0) (ty := .int) (C := RX0) (T := TX0) (N := 7) hx hb hts in_own tyX0 tyX0_ok nmX0 hown hK hP hD hS 0 rfl rfl 5 (by decide) (tt 9 _ rfl) (fun _ h9 => h9) rfl (tyX0_ok 5 (by decide)) rfl rfl (Nat.le_of_ble_eq_true rfl) dX0_init_30 (fun H locs hP hD hS => ?_)
  have hP : va_P (dC, dI) vwCl [(h0, .inr (0, [.null, .ref q1, .int 0, .int 0, .int 0, .int 0, .int 0])), (q1, .inl (cI, 10240, .inl fun _ => 0))] H := hP
  have hD : va_D A [(h0, .inr (0, [.null, .ref q1, .int 0, .int 0, .int 0, .int 0, .int 0])), (q1, .inl (cI, 10240, .inl fun _ => 0))] := hD
  refine lv_aload_n hx hb dX0_init_33 rfl (lv_at hl 0 rfl) ?_
  refine lv_bipush (v := (-6)) hx hb dX0_init_34 (by decide) ?_
  refine va_put (D := (dC, dI)) (ci := 0) (v := .int (-6)) (ty := .int) (C := RX0) (T := TX0) (N := 7) hx hb hts in_own tyX0 tyX0_ok nmX0 hown hK hP hD hS 0 rfl rfl 6 (by decide) (tt 10 _ rfl) (fun _ h9 => h9) rfl (tyX0_ok 6 (by decide)) rfl rfl (Nat.le_of_ble_eq_true rfl) dX0_init_36 (fun H locs hP hD hS => ?_)
  have hP : va_P (dC, dI) vwCl [(h0, .inr (0, [.null, .ref q1, .int 0, .int 0, .int 0, .int 0, .int (-6)])), (q1, .inl (cI, 10240, .inl fun _ => 0))] H := hP
  have hD : va_D A [(h0, .inr (0, [.null, .ref q1, .int 0, .int 0, .int 0, .int 0, .int (-6)])), (q1, .inl (cI, 10240, .inl fun _ => 0))] := hD
  refine lv_aload_n hx hb dX0_init_39 rfl (lv_at hl 0 rfl) ?_
  refine lv_aload_n hx hb dX0_init_40 rfl (lv_at hl 1 rfl) ?_
  refine va_putF (D := (dC, dI)) (ci := 0) (v := .ref tw) (ty := .object "OneWorse$Town") (C := RX0) (T := TX0) (N := 7) hx hb hts in_own tyX0 tyX0_ok nmX0 hown hK hP hD hS 0 rfl rfl 0 (by decide) (tt 11 _ rfl) (fun _ h9 => h9) rfl hin rfl (tyX0_ok 0 (by decide)) rfl rfl (Nat.le_of_ble_eq_true rfl) dX0_init_41 (fun H locs hP hD hS => ?_)
  have hP : va_P (dC, dI) vwCl [(h0, .inr (0, [.ref tw, .ref q1, .int 0, .int 0, .int 0, .int 0, .int (-6)])), (q1, .inl (cI, 10240, .inl fun _ => 0))] H := hP
  have hD : va_D A [(h0, .inr (0, [.ref tw, .ref q1, .int 0, .int 0, .int 0, .int 0, .int (-6)])), (q1, .inl (cI, 10240, .inl fun _ => 0))] := hD
  exact W.vret hx hb hr (fun t ht hW => ⟨⟨(), rfl, trivial, _, ⟨q1, rfl⟩, by rw [ht]; exact hP, hD⟩, hS.F ht⟩) hS.2.2 dX0_init_44
set_option maxHeartbeats 4000000 in
set_option maxRecDepth 100000 in
theorem k_X1_init (l : Launch) (dC : Nat → ClassId) (dI : Nat → Nat → Nat) (cI cZ : ClassId) (h0 tw sz : Nat) : cs_Met l yX1_init wsX1_init { frames := 1, cells := 4, slots := 229, locals := 12 } (dC, dI) cI cZ sz [.ref h0, .ref tw] [(h0, .inr (1, [.null, .null, .null, .null, .null]))] (fun w => ∃ q1 q2 q3 q4 : Nat, w = [(h0, .inr (1, [.ref tw, .ref q1, .ref q2, .ref q3, .ref q4])), (q1, .inl (cI, 5, .inl fun _ => 0)), (q2, .inl (cI, 160, .inl fun _ => 0)), (q3, .inl (cZ, 32, .inl fun _ => 0)), (q4, .inl (cI, 32, .inl fun _ => 0))]) 4 229 := by
  refine Met.ofW (cc := cX1_init) (maxL := 2) (ret := none) (by decide) rfl ?_
  intro p e s m args below meth c s₁ B hml hv
  obtain ⟨rfl, hsz, hP, hK, hD0⟩ := hv
  have hx := B.exec
  have hb := B.bytes
  have hr := B.returns
  have hts := atoms_spec (ws := wsX1_init) B.pre
  have hown : s.vm.findClass RX1 = some m.cls := findClass_of_methodNamed B.named
  have hlocks := B.notSynchronized
  have hin : meth.name = "<init>" := (name_of_methodNamed B.named B.method).1
  subst hsz
  have hD := hD0.self (sz := s.heap.size)
  generalize hAe : va_A [(h0, .inr (1, [.null, .null, .null, .null, .null]))] s.heap.size = A at hD ⊢
  have hA : ∀ q : Nat, s.heap.size ≤ q → A q := fun q h => by rw [← hAe]; exact Or.inr h
  have hS : va_S A s.heap s.heap [] := va_S.rf
  have hP : va_P (dC, dI) vwCl [(h0, .inr (1, [.null, .null, .null, .null, .null]))] s.heap := hP
  have hl := lv_entry ([.ref h0, .ref tw]) (n := 2) (Nat.le_of_ble_eq_true rfl)
  rw [lg_entry_eq]
  generalize (lg_sl ([.ref h0, .ref tw]) ++ List.replicate (2 - (lg_sl ([.ref h0, .ref tw])).length) Slot.unset).toArray = ls at hl ⊢
  have hl : lv_has ls 2 [(0, .ref h0), (1, .ref tw)] := hl
  have in_own : ∀ w ∈ wsX10, w ∈ wsX1_init := fun w h => List.mem_cons_of_mem _ (List.mem_append_right _ h)
  have tt : ∀ (i : Nat) (w : Cond), wsX1_init[i]? = some w → w.before ([.ref h0, .ref tw] : List Value).toArray s = true := fun i w h => hts w (List.mem_of_getElem? h)
  refine lv_aload_n hx hb dX1_init_0 rfl (lv_at hl 0 rfl) ?_
  refine W.objInit hx hb hown (tt 1 _ rfl) (tt 2 _ rfl) (tt 3 _ rfl) rfl (by rw [hml]; exact hl.1) rfl dX1_init_1 (Nat.le_of_ble_eq_true rfl) (Nat.le_of_ble_eq_true rfl) ?_
  refine W.eq (g2 := F0 m 4 ls []) rfl ?_
  refine lv_aload_n hx hb dX1_init_4 rfl (lv_at hl 0 rfl) ?_
  refine lv_iconst (v := 5) hx hb dX1_init_5 (by decide) ?_
  refine cs_newI (N := 5) hx hb (tt 4 _ rfl) hK hP hD hS hA (by decide) (by decide) (by decide) (by decide) (by decide) dX1_init_6 (fun q1 H hP hD hS => ?_)
  have hP : va_P (dC, dI) vwCl [(h0, .inr (1, [.null, .null, .null, .null, .null])), (q1, .inl (cI, 5, .inl fun _ => 0))] H := hP
  have hD : va_D A [(h0, .inr (1, [.null, .null, .null, .null, .null])), (q1, .inl (cI, 5, .inl fun _ => 0))] := hD
  refine va_putF (D := (dC, dI)) (ci := 1) (v := .ref q1) (ty := .array .int) (C := RX1) (T := TX1) (N := 5) hx hb hts in_own tyX1 tyX1_ok nmX1 hown hK hP hD hS 0 rfl rfl 1 (by decide) (tt 5 _ rfl) (fun _ h9 => h9) rfl hin rfl (tyX1_ok 1 (by decide)) rfl rfl (Nat.le_of_ble_eq_true rfl) dX1_init_8 (fun H locs hP hD hS => ?_)
  have hP : va_P (dC, dI) vwCl [(h0, .inr (1, [.null, .ref q1, .null, .null, .null])), (q1, .inl (cI, 5, .inl fun _ => 0))] H := hP
  have hD : va_D A [(h0, .inr (1, [.null, .ref q1, .null, .null, .null])), (q1, .inl (cI, 5, .inl fun _ => 0))] := hD
  refine lv_aload_n hx hb dX1_init_11 rfl (lv_at hl 0 rfl) ?_
  refine lv_sipush (v := 160) hx hb dX1_init_12 (by decide) ?_
  refine cs_newI (N := 160) hx hb (tt 4 _ rfl) hK hP hD hS hA (by decide) (by decide) (by decide) (by decide) (by decide) dX1_init_15 (fun q2 H hP hD hS => ?_)
  have hP : va_P (dC, dI) vwCl [(h0, .inr (1, [.null, .ref q1, .null, .null, .null])), (q1, .inl (cI, 5, .inl fun _ => 0)), (q2, .inl (cI, 160, .inl fun _ => 0))] H := hP
  have hD : va_D A [(h0, .inr (1, [.null, .ref q1, .null, .null, .null])), (q1, .inl (cI, 5, .inl fun _ => 0)), (q2, .inl (cI, 160, .inl fun _ => 0))] := hD
  refine va_putF (D := (dC, dI)) (ci := 1) (v := .ref q2) (ty := .array .int) (C := RX1) (T := TX1) (N := 5) hx hb hts in_own tyX1 tyX1_ok nmX1 hown hK hP hD hS 0 rfl rfl 2 (by decide) (tt 6 _ rfl) (fun _ h9 => h9) rfl hin rfl (tyX1_ok 2 (by decide)) rfl rfl (Nat.le_of_ble_eq_true rfl) dX1_init_17 (fun H locs hP hD hS => ?_)
  have hP : va_P (dC, dI) vwCl [(h0, .inr (1, [.null, .ref q1, .ref q2, .null, .null])), (q1, .inl (cI, 5, .inl fun _ => 0)), (q2, .inl (cI, 160, .inl fun _ => 0))] H := hP
  have hD : va_D A [(h0, .inr (1, [.null, .ref q1, .ref q2, .null, .null])), (q1, .inl (cI, 5, .inl fun _ => 0)), (q2, .inl (cI, 160, .inl fun _ => 0))] := hD
  refine lv_aload_n hx hb dX1_init_20 rfl (lv_at hl 0 rfl) ?_
  refine lv_bipush (v := 32) hx hb dX1_init_21 (by decide) ?_
  refine cs_newZ (N := 32) hx hb (tt 7 _ rfl) hK hP hD hS hA (by decide) (by decide) (by decide) (by decide) (by decide) dX1_init_23 (fun q3 H hP hD hS => ?_)
  have hP : va_P (dC, dI) vwCl [(h0, .inr (1, [.null, .ref q1, .ref q2, .null, .null])), (q1, .inl (cI, 5, .inl fun _ => 0)), (q2, .inl (cI, 160, .inl fun _ => 0)), (q3, .inl (cZ, 32, .inl fun _ => 0))] H := hP
  have hD : va_D A [(h0, .inr (1, [.null, .ref q1, .ref q2, .null, .null])), (q1, .inl (cI, 5, .inl fun _ => 0)), (q2, .inl (cI, 160, .inl fun _ => 0)), (q3, .inl (cZ, 32, .inl fun _ => 0))] := hD
  refine va_putF (D := (dC, dI)) (ci := 1) (v := .ref q3) (ty := .array .boolean) (C := RX1) (T := TX1) (N := 5) hx hb hts in_own tyX1 tyX1_ok nmX1 hown hK hP hD hS 0 rfl rfl 3 (by decide) (tt 8 _ rfl) (fun _ h9 => h9) rfl hin rfl (tyX1_ok 3 (by decide)) rfl rfl (Nat.le_of_ble_eq_true rfl) dX1_init_25 (fun H locs hP hD hS => ?_)
  have hP : va_P (dC, dI) vwCl [(h0, .inr (1, [.null, .ref q1, .ref q2, .ref q3, .null])), (q1, .inl (cI, 5, .inl fun _ => 0)), (q2, .inl (cI, 160, .inl fun _ => 0)), (q3, .inl (cZ, 32, .inl fun _ => 0))] H := hP
  have hD : va_D A [(h0, .inr (1, [.null, .ref q1, .ref q2, .ref q3, .null])), (q1, .inl (cI, 5, .inl fun _ => 0)), (q2, .inl (cI, 160, .inl fun _ => 0)), (q3, .inl (cZ, 32, .inl fun _ => 0))] := hD
  refine lv_aload_n hx hb dX1_init_28 rfl (lv_at hl 0 rfl) ?_
  refine lv_bipush (v := 32) hx hb dX1_init_29 (by decide) ?_
  refine cs_newI (N := 32) hx hb (tt 4 _ rfl) hK hP hD hS hA (by decide) (by decide) (by decide) (by decide) (by decide) dX1_init_31 (fun q4 H hP hD hS => ?_)
  have hP : va_P (dC, dI) vwCl [(h0, .inr (1, [.null, .ref q1, .ref q2, .ref q3, .null])), (q1, .inl (cI, 5, .inl fun _ => 0)), (q2, .inl (cI, 160, .inl fun _ => 0)), (q3, .inl (cZ, 32, .inl fun _ => 0)), (q4, .inl (cI, 32, .inl fun _ => 0))] H := hP
  have hD : va_D A [(h0, .inr (1, [.null, .ref q1, .ref q2, .ref q3, .null])), (q1, .inl (cI, 5, .inl fun _ => 0)), (q2, .inl (cI, 160, .inl fun _ => 0)), (q3, .inl (cZ, 32, .inl fun _ => 0)), (q4, .inl (cI, 32, .inl fun _ => 0))] := hD
  refine va_putF (D := (dC, dI)) (ci := 1) (v := .ref q4) (ty := .array .int) (C := RX1) (T := TX1) (N := 5) hx hb hts in_own tyX1 tyX1_ok nmX1 hown hK hP hD hS 0 rfl rfl 4 (by decide) (tt 9 _ rfl) (fun _ h9 => h9) rfl hin rfl (tyX1_ok 4 (by decide)) rfl rfl (Nat.le_of_ble_eq_true rfl) dX1_init_33 (fun H locs hP hD hS => ?_)
  have hP : va_P (dC, dI) vwCl [(h0, .inr (1, [.null, .ref q1, .ref q2, .ref q3, .ref q4])), (q1, .inl (cI, 5, .inl fun _ => 0)), (q2, .inl (cI, 160, .inl fun _ => 0)), (q3, .inl (cZ, 32, .inl fun _ => 0)), (q4, .inl (cI, 32, .inl fun _ => 0))] H := hP
  have hD : va_D A [(h0, .inr (1, [.null, .ref q1, .ref q2, .ref q3, .ref q4])), (q1, .inl (cI, 5, .inl fun _ => 0)), (q2, .inl (cI, 160, .inl fun _ => 0)), (q3, .inl (cZ, 32, .inl fun _ => 0)), (q4, .inl (cI, 32, .inl fun _ => 0))] := hD
  refine lv_aload_n hx hb dX1_init_36 rfl (lv_at hl 0 rfl) ?_
  refine lv_aload_n hx hb dX1_init_37 rfl (lv_at hl 1 rfl) ?_
  refine va_putF (D := (dC, dI)) (ci := 1) (v := .ref tw) (ty := .object "OneWorse$Town") (C := RX1) (T := TX1) (N := 5) hx hb hts in_own tyX1 tyX1_ok nmX1 hown hK hP hD hS 0 rfl rfl 0 (by decide) (tt 10 _ rfl) (fun _ h9 => h9) rfl hin rfl (tyX1_ok 0 (by decide)) rfl rfl (Nat.le_of_ble_eq_true rfl) dX1_init_38 (fun H locs hP hD hS => ?_)
  have hP : va_P (dC, dI) vwCl [(h0, .inr (1, [.ref tw, .ref q1, .ref q2, .ref q3, .ref q4])), (q1, .inl (cI, 5, .inl fun _ => 0)), (q2, .inl (cI, 160, .inl fun _ => 0)), (q3, .inl (cZ, 32, .inl fun _ => 0)), (q4, .inl (cI, 32, .inl fun _ => 0))] H := hP
  have hD : va_D A [(h0, .inr (1, [.ref tw, .ref q1, .ref q2, .ref q3, .ref q4])), (q1, .inl (cI, 5, .inl fun _ => 0)), (q2, .inl (cI, 160, .inl fun _ => 0)), (q3, .inl (cZ, 32, .inl fun _ => 0)), (q4, .inl (cI, 32, .inl fun _ => 0))] := hD
  exact W.vret hx hb hr (fun t ht hW => ⟨⟨(), rfl, trivial, _, ⟨q1, q2, q3, q4, rfl⟩, by rw [ht]; exact hP, hD⟩, hS.F ht⟩) hS.2.2 dX1_init_41
set_option maxHeartbeats 4000000 in
set_option maxRecDepth 100000 in
theorem k_X2_init (l : Launch) (dC : Nat → ClassId) (dI : Nat → Nat → Nat) (cI cZ : ClassId) (h0 tw sz : Nat) : cs_Met l yX2_init wsX2_init { frames := 1, cells := 4, slots := 1054, locals := 12 } (dC, dI) cI cZ sz [.ref h0, .ref tw] [(h0, .inr (2, [.null, .null, .null, .null, .null, .int 0]))] (fun w => ∃ q1 q2 q3 q4 : Nat, w = [(h0, .inr (2, [.ref tw, .ref q1, .ref q2, .ref q3, .ref q4, .int 0])), (q1, .inl (cI, 10, .inl fun _ => 0)), (q2, .inl (cI, 1024, .inl fun _ => 0)), (q3, .inl (cI, 10, .inl fun _ => 0)), (q4, .inl (cI, 10, .inl fun _ => 0))]) 4 1054 := by
  refine Met.ofW (cc := cX2_init) (maxL := 2) (ret := none) (by decide) rfl ?_
  intro p e s m args below meth c s₁ B hml hv
  obtain ⟨rfl, hsz, hP, hK, hD0⟩ := hv
  have hx := B.exec
  have hb := B.bytes
  have hr := B.returns
  have hts := atoms_spec (ws := wsX2_init) B.pre
  have hown : s.vm.findClass RX2 = some m.cls := findClass_of_methodNamed B.named
  have hlocks := B.notSynchronized
  have hin : meth.name = "<init>" := (name_of_methodNamed B.named B.method).1
  subst hsz
  have hD := hD0.self (sz := s.heap.size)
  generalize hAe : va_A [(h0, .inr (2, [.null, .null, .null, .null, .null, .int 0]))] s.heap.size = A at hD ⊢
  have hA : ∀ q : Nat, s.heap.size ≤ q → A q := fun q h => by rw [← hAe]; exact Or.inr h
  have hS : va_S A s.heap s.heap [] := va_S.rf
  have hP : va_P (dC, dI) vwCl [(h0, .inr (2, [.null, .null, .null, .null, .null, .int 0]))] s.heap := hP
  have hl := lv_entry ([.ref h0, .ref tw]) (n := 2) (Nat.le_of_ble_eq_true rfl)
  rw [lg_entry_eq]
  generalize (lg_sl ([.ref h0, .ref tw]) ++ List.replicate (2 - (lg_sl ([.ref h0, .ref tw])).length) Slot.unset).toArray = ls at hl ⊢
  have hl : lv_has ls 2 [(0, .ref h0), (1, .ref tw)] := hl
  have in_own : ∀ w ∈ wsX20, w ∈ wsX2_init := fun w h => List.mem_cons_of_mem _ (List.mem_append_right _ h)
  have tt : ∀ (i : Nat) (w : Cond), wsX2_init[i]? = some w → w.before ([.ref h0, .ref tw] : List Value).toArray s = true := fun i w h => hts w (List.mem_of_getElem? h)
  refine lv_aload_n hx hb dX2_init_0 rfl (lv_at hl 0 rfl) ?_
  refine W.objInit hx hb hown (tt 1 _ rfl) (tt 2 _ rfl) (tt 3 _ rfl) rfl (by rw [hml]; exact hl.1) rfl dX2_init_1 (Nat.le_of_ble_eq_true rfl) (Nat.le_of_ble_eq_true rfl) ?_
  refine W.eq (g2 := F0 m 4 ls []) rfl ?_
  refine lv_aload_n hx hb dX2_init_4 rfl (lv_at hl 0 rfl) ?_
  refine lv_bipush (v := 10) hx hb dX2_init_5 (by decide) ?_
  refine cs_newI (N := 10) hx hb (tt 4 _ rfl) hK hP hD hS hA (by decide) (by decide) (by decide) (by decide) (by decide) dX2_init_7 (fun q1 H hP hD hS => ?_)
  have hP : va_P (dC, dI) vwCl [(h0, .inr (2, [.null, .null, .null, .null, .null, .int 0])), (q1, .inl (cI, 10, .inl fun _ => 0))] H := hP
  have hD : va_D A [(h0, .inr (2, [.null, .null, .null, .null, .null, .int 0])), (q1, .inl (cI, 10, .inl fun _ => 0))] := hD
  refine va_putF (D := (dC, dI)) (ci := 2) (v := .ref q1) (ty := .array .int) (C := RX2) (T := TX2) (N := 6) hx hb hts in_own tyX2 tyX2_ok nmX2 hown hK hP hD hS 0 rfl rfl 1 (by decide) (tt 5 _ rfl) (fun _ h9 => h9) rfl hin rfl (tyX2_ok 1 (by decide)) rfl rfl (Nat.le_of_ble_eq_true rfl) dX2_init_9 (fun H locs hP hD hS => ?_)
  have hP : va_P (dC, dI) vwCl [(h0, .inr (2, [.null, .ref q1, .null, .null, .null, .int 0])), (q1, .inl (cI, 10, .inl fun _ => 0))] H := hP
  have hD : va_D A [(h0, .inr (2, [.null, .ref q1, .null, .null, .null, .int 0])), (q1, .inl (cI, 10, .inl fun _ => 0))] := hD
  refine lv_aload_n hx hb dX2_init_12 rfl (lv_at hl 0 rfl) ?_
  refine lv_sipush (v := 1024) hx hb dX2_init_13 (by decide) ?_
  refine cs_newI (N := 1024) hx hb (tt 4 _ rfl) hK hP hD hS hA (by decide) (by decide) (by decide) (by decide) (by decide) dX2_init_16 (fun q2 H hP hD hS => ?_)
  have hP : va_P (dC, dI) vwCl [(h0, .inr (2, [.null, .ref q1, .null, .null, .null, .int 0])), (q1, .inl (cI, 10, .inl fun _ => 0)), (q2, .inl (cI, 1024, .inl fun _ => 0))] H := hP
  have hD : va_D A [(h0, .inr (2, [.null, .ref q1, .null, .null, .null, .int 0])), (q1, .inl (cI, 10, .inl fun _ => 0)), (q2, .inl (cI, 1024, .inl fun _ => 0))] := hD
  refine va_putF (D := (dC, dI)) (ci := 2) (v := .ref q2) (ty := .array .int) (C := RX2) (T := TX2) (N := 6) hx hb hts in_own tyX2 tyX2_ok nmX2 hown hK hP hD hS 0 rfl rfl 2 (by decide) (tt 6 _ rfl) (fun _ h9 => h9) rfl hin rfl (tyX2_ok 2 (by decide)) rfl rfl (Nat.le_of_ble_eq_true rfl) dX2_init_18 (fun H locs hP hD hS => ?_)
  have hP : va_P (dC, dI) vwCl [(h0, .inr (2, [.null, .ref q1, .ref q2, .null, .null, .int 0])), (q1, .inl (cI, 10, .inl fun _ => 0)), (q2, .inl (cI, 1024, .inl fun _ => 0))] H := hP
  have hD : va_D A [(h0, .inr (2, [.null, .ref q1, .ref q2, .null, .null, .int 0])), (q1, .inl (cI, 10, .inl fun _ => 0)), (q2, .inl (cI, 1024, .inl fun _ => 0))] := hD
  refine lv_aload_n hx hb dX2_init_21 rfl (lv_at hl 0 rfl) ?_
  refine lv_bipush (v := 10) hx hb dX2_init_22 (by decide) ?_
  refine cs_newI (N := 10) hx hb (tt 4 _ rfl) hK hP hD hS hA (by decide) (by decide) (by decide) (by decide) (by decide) dX2_init_24 (fun q3 H hP hD hS => ?_)
  have hP : va_P (dC, dI) vwCl [(h0, .inr (2, [.null, .ref q1, .ref q2, .null, .null, .int 0])), (q1, .inl (cI, 10, .inl fun _ => 0)), (q2, .inl (cI, 1024, .inl fun _ => 0)), (q3, .inl (cI, 10, .inl fun _ => 0))] H := hP
  have hD : va_D A [(h0, .inr (2, [.null, .ref q1, .ref q2, .null, .null, .int 0])), (q1, .inl (cI, 10, .inl fun _ => 0)), (q2, .inl (cI, 1024, .inl fun _ => 0)), (q3, .inl (cI, 10, .inl fun _ => 0))] := hD
  refine va_putF (D := (dC, dI)) (ci := 2) (v := .ref q3) (ty := .array .int) (C := RX2) (T := TX2) (N := 6) hx hb hts in_own tyX2 tyX2_ok nmX2 hown hK hP hD hS 0 rfl rfl 3 (by decide) (tt 7 _ rfl) (fun _ h9 => h9) rfl hin rfl (tyX2_ok 3 (by decide)) rfl rfl (Nat.le_of_ble_eq_true rfl) dX2_init_26 (fun H locs hP hD hS => ?_)
  have hP : va_P (dC, dI) vwCl [(h0, .inr (2, [.null, .ref q1, .ref q2, .ref q3, .null, .int 0])), (q1, .inl (cI, 10, .inl fun _ => 0)), (q2, .inl (cI, 1024, .inl fun _ => 0)), (q3, .inl (cI, 10, .inl fun _ => 0))] H := hP
  have hD : va_D A [(h0, .inr (2, [.null, .ref q1, .ref q2, .ref q3, .null, .int 0])), (q1, .inl (cI, 10, .inl fun _ => 0)), (q2, .inl (cI, 1024, .inl fun _ => 0)), (q3, .inl (cI, 10, .inl fun _ => 0))] := hD
  refine lv_aload_n hx hb dX2_init_29 rfl (lv_at hl 0 rfl) ?_
  refine lv_bipush (v := 10) hx hb dX2_init_30 (by decide) ?_
  refine cs_newI (N := 10) hx hb (tt 4 _ rfl) hK hP hD hS hA (by decide) (by decide) (by decide) (by decide) (by decide) dX2_init_32 (fun q4 H hP hD hS => ?_)
  have hP : va_P (dC, dI) vwCl [(h0, .inr (2, [.null, .ref q1, .ref q2, .ref q3, .null, .int 0])), (q1, .inl (cI, 10, .inl fun _ => 0)), (q2, .inl (cI, 1024, .inl fun _ => 0)), (q3, .inl (cI, 10, .inl fun _ => 0)), (q4, .inl (cI, 10, .inl fun _ => 0))] H := hP
  have hD : va_D A [(h0, .inr (2, [.null, .ref q1, .ref q2, .ref q3, .null, .int 0])), (q1, .inl (cI, 10, .inl fun _ => 0)), (q2, .inl (cI, 1024, .inl fun _ => 0)), (q3, .inl (cI, 10, .inl fun _ => 0)), (q4, .inl (cI, 10, .inl fun _ => 0))] := hD
  refine va_putF (D := (dC, dI)) (ci := 2) (v := .ref q4) (ty := .array .int) (C := RX2) (T := TX2) (N := 6) hx hb hts in_own tyX2 tyX2_ok nmX2 hown hK hP hD hS 0 rfl rfl 4 (by decide) (tt 8 _ rfl) (fun _ h9 => h9) rfl hin rfl (tyX2_ok 4 (by decide)) rfl rfl (Nat.le_of_ble_eq_true rfl) dX2_init_34 (fun H locs hP hD hS => ?_)
  have hP : va_P (dC, dI) vwCl [(h0, .inr (2, [.null, .ref q1, .ref q2, .ref q3, .ref q4, .int 0])), (q1, .inl (cI, 10, .inl fun _ => 0)), (q2, .inl (cI, 1024, .inl fun _ => 0)), (q3, .inl (cI, 10, .inl fun _ => 0)), (q4, .inl (cI, 10, .inl fun _ => 0))] H := hP
  have hD : va_D A [(h0, .inr (2, [.null, .ref q1, .ref q2, .ref q3, .ref q4, .int 0])), (q1, .inl (cI, 10, .inl fun _ => 0)), (q2, .inl (cI, 1024, .inl fun _ => 0)), (q3, .inl (cI, 10, .inl fun _ => 0)), (q4, .inl (cI, 10, .inl fun _ => 0))] := hD
  refine lv_aload_n hx hb dX2_init_37 rfl (lv_at hl 0 rfl) ?_
  refine lv_iconst (v := 0) hx hb dX2_init_38 (by decide) ?_
  refine va_put (D := (dC, dI)) (ci := 2) (v := .int 0) (ty := .boolean) (C := RX2) (T := TX2) (N := 6) hx hb hts in_own tyX2 tyX2_ok nmX2 hown hK hP hD hS 0 rfl rfl 5 (by decide) (tt 9 _ rfl) (fun _ h9 => h9) rfl (tyX2_ok 5 (by decide)) rfl rfl (Nat.le_of_ble_eq_true rfl) dX2_init_39 (fun H locs hP hD hS => ?_)
  have hP : va_P (dC, dI) vwCl [(h0, .inr (2, [.null, .ref q1, .ref q2, .ref q3, .ref q4, .int 0])), (q1, .inl (cI, 10, .inl fun _ => 0)), (q2, .inl (cI, 1024, .inl fun _ => 0)), (q3, .inl (cI, 10, .inl fun _ => 0)), (q4, .inl (cI, 10, .inl fun _ => 0))] H := hP
  have hD : va_D A [(h0, .inr (2, [.null, .ref q1, .ref q2, .ref q3, .ref q4, .int 0])), (q1, .inl (cI, 10, .inl fun _ => 0)), (q2, .inl (cI, 1024, .inl fun _ => 0)), (q3, .inl (cI, 10, .inl fun _ => 0)), (q4, .inl (cI, 10, .inl fun _ => 0))] := hD
  refine lv_aload_n hx hb dX2_init_42 rfl (lv_at hl 0 rfl) ?_
  refine lv_aload_n hx hb dX2_init_43 rfl (lv_at hl 1 rfl) ?_
  refine va_putF (D := (dC, dI)) (ci := 2) (v := .ref tw) (ty := .object "OneWorse$Town") (C := RX2) (T := TX2) (N := 6) hx hb hts in_own tyX2 tyX2_ok nmX2 hown hK hP hD hS 0 rfl rfl 0 (by decide) (tt 10 _ rfl) (fun _ h9 => h9) rfl hin rfl (tyX2_ok 0 (by decide)) rfl rfl (Nat.le_of_ble_eq_true rfl) dX2_init_44 (fun H locs hP hD hS => ?_)
  have hP : va_P (dC, dI) vwCl [(h0, .inr (2, [.ref tw, .ref q1, .ref q2, .ref q3, .ref q4, .int 0])), (q1, .inl (cI, 10, .inl fun _ => 0)), (q2, .inl (cI, 1024, .inl fun _ => 0)), (q3, .inl (cI, 10, .inl fun _ => 0)), (q4, .inl (cI, 10, .inl fun _ => 0))] H := hP
  have hD : va_D A [(h0, .inr (2, [.ref tw, .ref q1, .ref q2, .ref q3, .ref q4, .int 0])), (q1, .inl (cI, 10, .inl fun _ => 0)), (q2, .inl (cI, 1024, .inl fun _ => 0)), (q3, .inl (cI, 10, .inl fun _ => 0)), (q4, .inl (cI, 10, .inl fun _ => 0))] := hD
  exact W.vret hx hb hr (fun t ht hW => ⟨⟨(), rfl, trivial, _, ⟨q1, q2, q3, q4, rfl⟩, by rw [ht]; exact hP, hD⟩, hS.F ht⟩) hS.2.2 dX2_init_47
set_option maxHeartbeats 4000000 in
set_option maxRecDepth 100000 in
theorem k_X5_init (l : Launch) (dC : Nat → ClassId) (dI : Nat → Nat → Nat) (cI cZ : ClassId) (h0 tw sz : Nat) : cs_Met l yX5_init wsX5_init { frames := 1, cells := 0, slots := 0, locals := 12 } (dC, dI) cI cZ sz [.ref h0, .ref tw] [(h0, .inr (5, [.null, .int 0, .int 0, .int 0, .int 0]))] (fun w => w = [(h0, .inr (5, [.ref tw, .int 0, .int 0, .int 0, .int (-6)]))]) 0 0 := by
  refine Met.ofW (cc := cX5_init) (maxL := 2) (ret := none) (by decide) rfl ?_
  intro p e s m args below meth c s₁ B hml hv
  obtain ⟨rfl, hsz, hP, hK, hD0⟩ := hv
  have hx := B.exec
  have hb := B.bytes
  have hr := B.returns
  have hts := atoms_spec (ws := wsX5_init) B.pre
  have hown : s.vm.findClass RX5 = some m.cls := findClass_of_methodNamed B.named
  have hlocks := B.notSynchronized
  have hin : meth.name = "<init>" := (name_of_methodNamed B.named B.method).1
  subst hsz
  have hD := hD0.self (sz := s.heap.size)
  generalize hAe : va_A [(h0, .inr (5, [.null, .int 0, .int 0, .int 0, .int 0]))] s.heap.size = A at hD ⊢
  have hA : ∀ q : Nat, s.heap.size ≤ q → A q := fun q h => by rw [← hAe]; exact Or.inr h
  have hS : va_S A s.heap s.heap [] := va_S.rf
  have hP : va_P (dC, dI) vwCl [(h0, .inr (5, [.null, .int 0, .int 0, .int 0, .int 0]))] s.heap := hP
  have hl := lv_entry ([.ref h0, .ref tw]) (n := 2) (Nat.le_of_ble_eq_true rfl)
  rw [lg_entry_eq]
  generalize (lg_sl ([.ref h0, .ref tw]) ++ List.replicate (2 - (lg_sl ([.ref h0, .ref tw])).length) Slot.unset).toArray = ls at hl ⊢
  have hl : lv_has ls 2 [(0, .ref h0), (1, .ref tw)] := hl
  have in_own : ∀ w ∈ wsX50, w ∈ wsX5_init := fun w h => List.mem_cons_of_mem _ (List.mem_append_right _ h)
  have tt : ∀ (i : Nat) (w : Cond), wsX5_init[i]? = some w → w.before ([.ref h0, .ref tw] : List Value).toArray s = true := fun i w h => hts w (List.mem_of_getElem? h)
  refine lv_aload_n hx hb dX5_init_0 rfl (lv_at hl 0 rfl) ?_
  refine W.objInit hx hb hown (tt 1 _ rfl) (tt 2 _ rfl) (tt 3 _ rfl) rfl (by rw [hml]; exact hl.1) rfl dX5_init_1 (Nat.le_of_ble_eq_true rfl) (Nat.le_of_ble_eq_true rfl) ?_
  refine W.eq (g2 := F0 m 4 ls []) rfl ?_
  refine lv_aload_n hx hb dX5_init_4 rfl (lv_at hl 0 rfl) ?_
  refine lv_iconst (v := 0) hx hb dX5_init_5 (by decide) ?_
  refine va_put (D := (dC, dI)) (ci := 5) (v := .int 0) (ty := .int) (C := RX5) (T := TX5) (N := 5) hx hb hts in_own tyX5 tyX5_ok nmX5 hown hK hP hD hS 0 rfl rfl 1 (by decide) (tt 4 _ rfl) (fun _ h9 => h9) rfl (tyX5_ok 1 (by decide)) rfl rfl (Nat.le_of_ble_eq_true rfl) dX5_init_6 (fun H locs hP hD hS => ?_)
  have hP : va_P (dC, dI) vwCl [(h0, .inr (5, [.null, .int 0, .int 0, .int 0, .int 0]))] H := hP
  have hD : va_D A [(h0, .inr (5, [.null, .int 0, .int 0, .int 0, .int 0]))] := hD
  refine lv_aload_n hx hb dX5_init_9 rfl (lv_at hl 0 rfl) ?_
  refine lv_iconst (v := 0) hx hb dX5_init_10 (by decide) ?_
  refine va_put (D := (dC, dI)) (ci := 5) (v := .int 0) (ty := .int) (C := RX5) (T := TX5) (N := 5) hx hb hts in_own tyX5 tyX5_ok nmX5 hown hK hP hD hS 0 rfl rfl 2 (by decide) (tt 5 _ rfl) (fun _ h9 => h9) rfl (tyX5_ok 2 (by decide)) rfl rfl (Nat.le_of_ble_eq_true rfl) dX5_init_11 (fun H locs hP hD hS => ?_)
  have hP : va_P (dC, dI) vwCl [(h0, .inr (5, [.null, .int 0, .int 0, .int 0, .int 0]))] H := hP
  have hD : va_D A [(h0, .inr (5, [.null, .int 0, .int 0, .int 0, .int 0]))] := hD
  refine lv_aload_n hx hb dX5_init_14 rfl (lv_at hl 0 rfl) ?_
  refine lv_iconst (v := 0) hx hb dX5_init_15 (by decide) ?_
  refine va_put (D := (dC, dI)) (ci := 5) (v := .int 0) (ty := .int) (C := RX5) (T := TX5) (N := 5) hx hb hts in_own tyX5 tyX5_ok nmX5 hown hK hP hD hS 0 rfl rfl 3 (by decide) (tt 6 _ rfl) (fun _ h9 => h9) rfl (tyX5_ok 3 (by decide)) rfl rfl (Nat.le_of_ble_eq_true rfl) dX5_init_16 (fun H locs hP hD hS => ?_)
  have hP : va_P (dC, dI) vwCl [(h0, .inr (5, [.null, .int 0, .int 0, .int 0, .int 0]))] H := hP
  have hD : va_D A [(h0, .inr (5, [.null, .int 0, .int 0, .int 0, .int 0]))] := hD
  refine lv_aload_n hx hb dX5_init_19 rfl (lv_at hl 0 rfl) ?_
  refine lv_bipush (v := (-6)) hx hb dX5_init_20 (by decide) ?_
  refine va_put (D := (dC, dI)) (ci := 5) (v := .int (-6)) (ty := .int) (C := RX5) (T := TX5) (N := 5) hx hb hts in_own tyX5 tyX5_ok nmX5 hown hK hP hD hS 0 rfl rfl 4 (by decide) (tt 7 _ rfl) (fun _ h9 => h9) rfl (tyX5_ok 4 (by decide)) rfl rfl (Nat.le_of_ble_eq_true rfl) dX5_init_22 (fun H locs hP hD hS => ?_)
  have hP : va_P (dC, dI) vwCl [(h0, .inr (5, [.null, .int 0, .int 0, .int 0, .int (-6)]))] H := hP
  have hD : va_D A [(h0, .inr (5, [.null, .int 0, .int 0, .int 0, .int (-6)]))] := hD
  refine lv_aload_n hx hb dX5_init_25 rfl (lv_at hl 0 rfl) ?_
  refine lv_aload_n hx hb dX5_init_26 rfl (lv_at hl 1 rfl) ?_
  refine va_putF (D := (dC, dI)) (ci := 5) (v := .ref tw) (ty := .object "OneWorse$Town") (C := RX5) (T := TX5) (N := 5) hx hb hts in_own tyX5 tyX5_ok nmX5 hown hK hP hD hS 0 rfl rfl 0 (by decide) (tt 8 _ rfl) (fun _ h9 => h9) rfl hin rfl (tyX5_ok 0 (by decide)) rfl rfl (Nat.le_of_ble_eq_true rfl) dX5_init_27 (fun H locs hP hD hS => ?_)
  have hP : va_P (dC, dI) vwCl [(h0, .inr (5, [.ref tw, .int 0, .int 0, .int 0, .int (-6)]))] H := hP
  have hD : va_D A [(h0, .inr (5, [.ref tw, .int 0, .int 0, .int 0, .int (-6)]))] := hD
  exact W.vret hx hb hr (fun t ht hW => ⟨⟨(), rfl, trivial, _, rfl, by rw [ht]; exact hP, hD⟩, hS.F ht⟩) hS.2.2 dX5_init_30
set_option maxHeartbeats 4000000 in
set_option maxRecDepth 100000 in
theorem k_X7_init (l : Launch) (dC : Nat → ClassId) (dI : Nat → Nat → Nat) (cI cZ : ClassId) (h0 sz : Nat) : cs_Met l yX7_init wsX7_init { frames := 1, cells := 16, slots := 31962, locals := 12 } (dC, dI) cI cZ sz [.ref h0] [(h0, .inr (7, [.int 0, .null, .null, .null, .null, .null, .null, .null, .int 0, .null, .null, .null, .null, .null, .null, .null, .null, .null]))] (fun w => ∃ q1 q2 q3 q4 q5 q6 q7 q8 q9 q10 q11 q12 q13 q14 q15 q16 : Nat, w = [(h0, .inr (7, [.int 0, .ref q1, .ref q2, .ref q3, .ref q4, .ref q5, .ref q6, .ref q7, .int 0, .ref q8, .ref q9, .ref q10, .ref q11, .ref q12, .ref q13, .ref q14, .ref q15, .ref q16])), (q1, .inl (cI, 40, .inl fun _ => 0)), (q2, .inl (cI, 10, .inl fun _ => 0)), (q3, .inl (cI, 10, .inl fun _ => 0)), (q4, .inl (cI, 5, .inl (upd ((upd ((upd ((upd ((upd (fun _ => 0) (Int32.toNatClampNeg 0) 63)) (Int32.toNatClampNeg 1) 63)) (Int32.toNatClampNeg 2) 63)) (Int32.toNatClampNeg 3) 63)) (Int32.toNatClampNeg 4) 63))), (q5, .inl (cI, 5, .inl (upd ((upd ((upd ((upd ((upd (fun _ => 0) (Int32.toNatClampNeg 0) 1023)) (Int32.toNatClampNeg 1) 1023)) (Int32.toNatClampNeg 2) 1023)) (Int32.toNatClampNeg 3) 1023)) (Int32.toNatClampNeg 4) 1023))), (q6, .inl (cI, 20480, .inl fun _ => 0)), (q7, .inl (cI, 2, .inl fun _ => 0)), (q8, .inl (cI, 5, .inl fun _ => 0)), (q9, .inl (cI, 5, .inl fun _ => 0)), (q10, .inl (cZ, 32, .inl fun _ => 0)), (q11, .inl (cI, 32, .inl fun _ => 0)), (q12, .inl (cI, 1024, .inl fun _ => 0)), (q13, .inl (cI, 10, .inl fun _ => 0)), (q14, .inl (cI, 10240, .inl fun _ => 0)), (q15, .inl (cI, 60, .inl fun _ => 0)), (q16, .inl (cZ, 2, .inl fun _ => 0))]) 16 31962 := by
  refine Met.ofW (cc := cX7_init) (maxL := 2) (ret := none) (by decide) rfl ?_
  intro p e s m args below meth c s₁ B hml hv
  obtain ⟨rfl, hsz, hP, hK, hD0⟩ := hv
  have hx := B.exec
  have hb := B.bytes
  have hr := B.returns
  have hts := atoms_spec (ws := wsX7_init) B.pre
  have hown : s.vm.findClass RX7 = some m.cls := findClass_of_methodNamed B.named
  have hlocks := B.notSynchronized
  have hin : meth.name = "<init>" := (name_of_methodNamed B.named B.method).1
  subst hsz
  have hD := hD0.self (sz := s.heap.size)
  generalize hAe : va_A [(h0, .inr (7, [.int 0, .null, .null, .null, .null, .null, .null, .null, .int 0, .null, .null, .null, .null, .null, .null, .null, .null, .null]))] s.heap.size = A at hD ⊢
  have hA : ∀ q : Nat, s.heap.size ≤ q → A q := fun q h => by rw [← hAe]; exact Or.inr h
  have hS : va_S A s.heap s.heap [] := va_S.rf
  have hP : va_P (dC, dI) vwCl [(h0, .inr (7, [.int 0, .null, .null, .null, .null, .null, .null, .null, .int 0, .null, .null, .null, .null, .null, .null, .null, .null, .null]))] s.heap := hP
  have hl := lv_entry ([.ref h0]) (n := 2) (Nat.le_of_ble_eq_true rfl)
  rw [lg_entry_eq]
  generalize (lg_sl ([.ref h0]) ++ List.replicate (2 - (lg_sl ([.ref h0])).length) Slot.unset).toArray = ls at hl ⊢
  have hl : lv_has ls 2 [(0, .ref h0)] := hl
  have in_own : ∀ w ∈ wsX70, w ∈ wsX7_init := fun w h => List.mem_cons_of_mem _ (List.mem_append_right _ h)
  have tt : ∀ (i : Nat) (w : Cond), wsX7_init[i]? = some w → w.before ([.ref h0] : List Value).toArray s = true := fun i w h => hts w (List.mem_of_getElem? h)
  refine lv_aload_n hx hb dX7_init_0 rfl (lv_at hl 0 rfl) ?_
  refine W.objInit hx hb hown (tt 1 _ rfl) (tt 2 _ rfl) (tt 3 _ rfl) rfl (by rw [hml]; exact hl.1) rfl dX7_init_1 (Nat.le_of_ble_eq_true rfl) (Nat.le_of_ble_eq_true rfl) ?_
  refine W.eq (g2 := F0 m 4 ls []) rfl ?_
  refine lv_aload_n hx hb dX7_init_4 rfl (lv_at hl 0 rfl) ?_
  refine lv_bipush (v := 40) hx hb dX7_init_5 (by decide) ?_
  refine cs_newI (N := 40) hx hb (tt 4 _ rfl) hK hP hD hS hA (by decide) (by decide) (by decide) (by decide) (by decide) dX7_init_7 (fun q1 H hP hD hS => ?_)
  have hP : va_P (dC, dI) vwCl [(h0, .inr (7, [.int 0, .null, .null, .null, .null, .null, .null, .null, .int 0, .null, .null, .null, .null, .null, .null, .null, .null, .null])), (q1, .inl (cI, 40, .inl fun _ => 0))] H := hP
  have hD : va_D A [(h0, .inr (7, [.int 0, .null, .null, .null, .null, .null, .null, .null, .int 0, .null, .null, .null, .null, .null, .null, .null, .null, .null])), (q1, .inl (cI, 40, .inl fun _ => 0))] := hD
  refine va_putF (D := (dC, dI)) (ci := 7) (v := .ref q1) (ty := .array .int) (C := RX7) (T := TX7) (N := 18) hx hb hts in_own tyX7 tyX7_ok nmX7 hown hK hP hD hS 0 rfl rfl 1 (by decide) (tt 5 _ rfl) (fun _ h9 => h9) rfl hin rfl (tyX7_ok 1 (by decide)) rfl rfl (Nat.le_of_ble_eq_true rfl) dX7_init_9 (fun H locs hP hD hS => ?_)
  have hP : va_P (dC, dI) vwCl [(h0, .inr (7, [.int 0, .ref q1, .null, .null, .null, .null, .null, .null, .int 0, .null, .null, .null, .null, .null, .null, .null, .null, .null])), (q1, .inl (cI, 40, .inl fun _ => 0))] H := hP
  have hD : va_D A [(h0, .inr (7, [.int 0, .ref q1, .null, .null, .null, .null, .null, .null, .int 0, .null, .null, .null, .null, .null, .null, .null, .null, .null])), (q1, .inl (cI, 40, .inl fun _ => 0))] := hD
  refine lv_aload_n hx hb dX7_init_12 rfl (lv_at hl 0 rfl) ?_
  refine lv_bipush (v := 10) hx hb dX7_init_13 (by decide) ?_
  refine cs_newI (N := 10) hx hb (tt 4 _ rfl) hK hP hD hS hA (by decide) (by decide) (by decide) (by decide) (by decide) dX7_init_15 (fun q2 H hP hD hS => ?_)
  have hP : va_P (dC, dI) vwCl [(h0, .inr (7, [.int 0, .ref q1, .null, .null, .null, .null, .null, .null, .int 0, .null, .null, .null, .null, .null, .null, .null, .null, .null])), (q1, .inl (cI, 40, .inl fun _ => 0)), (q2, .inl (cI, 10, .inl fun _ => 0))] H := hP
  have hD : va_D A [(h0, .inr (7, [.int 0, .ref q1, .null, .null, .null, .null, .null, .null, .int 0, .null, .null, .null, .null, .null, .null, .null, .null, .null])), (q1, .inl (cI, 40, .inl fun _ => 0)), (q2, .inl (cI, 10, .inl fun _ => 0))] := hD
  refine va_putF (D := (dC, dI)) (ci := 7) (v := .ref q2) (ty := .array .int) (C := RX7) (T := TX7) (N := 18) hx hb hts in_own tyX7 tyX7_ok nmX7 hown hK hP hD hS 0 rfl rfl 2 (by decide) (tt 6 _ rfl) (fun _ h9 => h9) rfl hin rfl (tyX7_ok 2 (by decide)) rfl rfl (Nat.le_of_ble_eq_true rfl) dX7_init_17 (fun H locs hP hD hS => ?_)
  have hP : va_P (dC, dI) vwCl [(h0, .inr (7, [.int 0, .ref q1, .ref q2, .null, .null, .null, .null, .null, .int 0, .null, .null, .null, .null, .null, .null, .null, .null, .null])), (q1, .inl (cI, 40, .inl fun _ => 0)), (q2, .inl (cI, 10, .inl fun _ => 0))] H := hP
  have hD : va_D A [(h0, .inr (7, [.int 0, .ref q1, .ref q2, .null, .null, .null, .null, .null, .int 0, .null, .null, .null, .null, .null, .null, .null, .null, .null])), (q1, .inl (cI, 40, .inl fun _ => 0)), (q2, .inl (cI, 10, .inl fun _ => 0))] := hD
  refine lv_aload_n hx hb dX7_init_20 rfl (lv_at hl 0 rfl) ?_
  refine lv_bipush (v := 10) hx hb dX7_init_21 (by decide) ?_
  refine cs_newI (N := 10) hx hb (tt 4 _ rfl) hK hP hD hS hA (by decide) (by decide) (by decide) (by decide) (by decide) dX7_init_23 (fun q3 H hP hD hS => ?_)
  have hP : va_P (dC, dI) vwCl [(h0, .inr (7, [.int 0, .ref q1, .ref q2, .null, .null, .null, .null, .null, .int 0, .null, .null, .null, .null, .null, .null, .null, .null, .null])), (q1, .inl (cI, 40, .inl fun _ => 0)), (q2, .inl (cI, 10, .inl fun _ => 0)), (q3, .inl (cI, 10, .inl fun _ => 0))] H := hP
  have hD : va_D A [(h0, .inr (7, [.int 0, .ref q1, .ref q2, .null, .null, .null, .null, .null, .int 0, .null, .null, .null, .null, .null, .null, .null, .null, .null])), (q1, .inl (cI, 40, .inl fun _ => 0)), (q2, .inl (cI, 10, .inl fun _ => 0)), (q3, .inl (cI, 10, .inl fun _ => 0))] := hD
  refine va_putF (D := (dC, dI)) (ci := 7) (v := .ref q3) (ty := .array .int) (C := RX7) (T := TX7) (N := 18) hx hb hts in_own tyX7 tyX7_ok nmX7 hown hK hP hD hS 0 rfl rfl 3 (by decide) (tt 7 _ rfl) (fun _ h9 => h9) rfl hin rfl (tyX7_ok 3 (by decide)) rfl rfl (Nat.le_of_ble_eq_true rfl) dX7_init_25 (fun H locs hP hD hS => ?_)
  have hP : va_P (dC, dI) vwCl [(h0, .inr (7, [.int 0, .ref q1, .ref q2, .ref q3, .null, .null, .null, .null, .int 0, .null, .null, .null, .null, .null, .null, .null, .null, .null])), (q1, .inl (cI, 40, .inl fun _ => 0)), (q2, .inl (cI, 10, .inl fun _ => 0)), (q3, .inl (cI, 10, .inl fun _ => 0))] H := hP
  have hD : va_D A [(h0, .inr (7, [.int 0, .ref q1, .ref q2, .ref q3, .null, .null, .null, .null, .int 0, .null, .null, .null, .null, .null, .null, .null, .null, .null])), (q1, .inl (cI, 40, .inl fun _ => 0)), (q2, .inl (cI, 10, .inl fun _ => 0)), (q3, .inl (cI, 10, .inl fun _ => 0))] := hD
  refine lv_aload_n hx hb dX7_init_28 rfl (lv_at hl 0 rfl) ?_
  refine lv_iconst (v := 5) hx hb dX7_init_29 (by decide) ?_
  refine cs_newI (N := 5) hx hb (tt 4 _ rfl) hK hP hD hS hA (by decide) (by decide) (by decide) (by decide) (by decide) dX7_init_30 (fun q4 H hP hD hS => ?_)
  have hP : va_P (dC, dI) vwCl [(h0, .inr (7, [.int 0, .ref q1, .ref q2, .ref q3, .null, .null, .null, .null, .int 0, .null, .null, .null, .null, .null, .null, .null, .null, .null])), (q1, .inl (cI, 40, .inl fun _ => 0)), (q2, .inl (cI, 10, .inl fun _ => 0)), (q3, .inl (cI, 10, .inl fun _ => 0)), (q4, .inl (cI, 5, .inl fun _ => 0))] H := hP
  have hD : va_D A [(h0, .inr (7, [.int 0, .ref q1, .ref q2, .ref q3, .null, .null, .null, .null, .int 0, .null, .null, .null, .null, .null, .null, .null, .null, .null])), (q1, .inl (cI, 40, .inl fun _ => 0)), (q2, .inl (cI, 10, .inl fun _ => 0)), (q3, .inl (cI, 10, .inl fun _ => 0)), (q4, .inl (cI, 5, .inl fun _ => 0))] := hD
  refine va_putF (D := (dC, dI)) (ci := 7) (v := .ref q4) (ty := .array .int) (C := RX7) (T := TX7) (N := 18) hx hb hts in_own tyX7 tyX7_ok nmX7 hown hK hP hD hS 0 rfl rfl 4 (by decide) (tt 8 _ rfl) (fun _ h9 => h9) rfl hin rfl (tyX7_ok 4 (by decide)) rfl rfl (Nat.le_of_ble_eq_true rfl) dX7_init_32 (fun H locs hP hD hS => ?_)
  have hP : va_P (dC, dI) vwCl [(h0, .inr (7, [.int 0, .ref q1, .ref q2, .ref q3, .ref q4, .null, .null, .null, .int 0, .null, .null, .null, .null, .null, .null, .null, .null, .null])), (q1, .inl (cI, 40, .inl fun _ => 0)), (q2, .inl (cI, 10, .inl fun _ => 0)), (q3, .inl (cI, 10, .inl fun _ => 0)), (q4, .inl (cI, 5, .inl fun _ => 0))] H := hP
  have hD : va_D A [(h0, .inr (7, [.int 0, .ref q1, .ref q2, .ref q3, .ref q4, .null, .null, .null, .int 0, .null, .null, .null, .null, .null, .null, .null, .null, .null])), (q1, .inl (cI, 40, .inl fun _ => 0)), (q2, .inl (cI, 10, .inl fun _ => 0)), (q3, .inl (cI, 10, .inl fun _ => 0)), (q4, .inl (cI, 5, .inl fun _ => 0))] := hD
  refine lv_aload_n hx hb dX7_init_35 rfl (lv_at hl 0 rfl) ?_
  refine lv_iconst (v := 5) hx hb dX7_init_36 (by decide) ?_
  refine cs_newI (N := 5) hx hb (tt 4 _ rfl) hK hP hD hS hA (by decide) (by decide) (by decide) (by decide) (by decide) dX7_init_37 (fun q5 H hP hD hS => ?_)
  have hP : va_P (dC, dI) vwCl [(h0, .inr (7, [.int 0, .ref q1, .ref q2, .ref q3, .ref q4, .null, .null, .null, .int 0, .null, .null, .null, .null, .null, .null, .null, .null, .null])), (q1, .inl (cI, 40, .inl fun _ => 0)), (q2, .inl (cI, 10, .inl fun _ => 0)), (q3, .inl (cI, 10, .inl fun _ => 0)), (q4, .inl (cI, 5, .inl fun _ => 0)), (q5, .inl (cI, 5, .inl fun _ => 0))] H := hP
  have hD : va_D A [(h0, .inr (7, [.int 0, .ref q1, .ref q2, .ref q3, .ref q4, .null, .null, .null, .int 0, .null, .null, .null, .null, .null, .null, .null, .null, .null])), (q1, .inl (cI, 40, .inl fun _ => 0)), (q2, .inl (cI, 10, .inl fun _ => 0)), (q3, .inl (cI, 10, .inl fun _ => 0)), (q4, .inl (cI, 5, .inl fun _ => 0)), (q5, .inl (cI, 5, .inl fun _ => 0))] := hD
  refine va_putF (D := (dC, dI)) (ci := 7) (v := .ref q5) (ty := .array .int) (C := RX7) (T := TX7) (N := 18) hx hb hts in_own tyX7 tyX7_ok nmX7 hown hK hP hD hS 0 rfl rfl 5 (by decide) (tt 9 _ rfl) (fun _ h9 => h9) rfl hin rfl (tyX7_ok 5 (by decide)) rfl rfl (Nat.le_of_ble_eq_true rfl) dX7_init_39 (fun H locs hP hD hS => ?_)
  have hP : va_P (dC, dI) vwCl [(h0, .inr (7, [.int 0, .ref q1, .ref q2, .ref q3, .ref q4, .ref q5, .null, .null, .int 0, .null, .null, .null, .null, .null, .null, .null, .null, .null])), (q1, .inl (cI, 40, .inl fun _ => 0)), (q2, .inl (cI, 10, .inl fun _ => 0)), (q3, .inl (cI, 10, .inl fun _ => 0)), (q4, .inl (cI, 5, .inl fun _ => 0)), (q5, .inl (cI, 5, .inl fun _ => 0))] H := hP
  have hD : va_D A [(h0, .inr (7, [.int 0, .ref q1, .ref q2, .ref q3, .ref q4, .ref q5, .null, .null, .int 0, .null, .null, .null, .null, .null, .null, .null, .null, .null])), (q1, .inl (cI, 40, .inl fun _ => 0)), (q2, .inl (cI, 10, .inl fun _ => 0)), (q3, .inl (cI, 10, .inl fun _ => 0)), (q4, .inl (cI, 5, .inl fun _ => 0)), (q5, .inl (cI, 5, .inl fun _ => 0))] := hD
  refine lv_aload_n hx hb dX7_init_42 rfl (lv_at hl 0 rfl) ?_
  refine lv_sipush (v := 20480) hx hb dX7_init_43 (by decide) ?_
  refine cs_newI (N := 20480) hx hb (tt 4 _ rfl) hK hP hD hS hA (by decide) (by decide) (by decide) (by decide) (by decide) dX7_init_46 (fun q6 H hP hD hS => ?_)
  have hP : va_P (dC, dI) vwCl [(h0, .inr (7, [.int 0, .ref q1, .ref q2, .ref q3, .ref q4, .ref q5, .null, .null, .int 0, .null, .null, .null, .null, .null, .null, .null, .null, .null])), (q1, .inl (cI, 40, .inl fun _ => 0)), (q2, .inl (cI, 10, .inl fun _ => 0)), (q3, .inl (cI, 10, .inl fun _ => 0)), (q4, .inl (cI, 5, .inl fun _ => 0)), (q5, .inl (cI, 5, .inl fun _ => 0)), (q6, .inl (cI, 20480, .inl fun _ => 0))] H := hP
  have hD : va_D A [(h0, .inr (7, [.int 0, .ref q1, .ref q2, .ref q3, .ref q4, .ref q5, .null, .null, .int 0, .null, .null, .null, .null, .null, .null, .null, .null, .null])), (q1, .inl (cI, 40, .inl fun _ => 0)), (q2, .inl (cI, 10, .inl fun _ => 0)), (q3, .inl (cI, 10, .inl fun _ => 0)), (q4, .inl (cI, 5, .inl fun _ => 0)), (q5, .inl (cI, 5, .inl fun _ => 0)), (q6, .inl (cI, 20480, .inl fun _ => 0))] := hD
  refine va_putF (D := (dC, dI)) (ci := 7) (v := .ref q6) (ty := .array .int) (C := RX7) (T := TX7) (N := 18) hx hb hts in_own tyX7 tyX7_ok nmX7 hown hK hP hD hS 0 rfl rfl 6 (by decide) (tt 10 _ rfl) (fun _ h9 => h9) rfl hin rfl (tyX7_ok 6 (by decide)) rfl rfl (Nat.le_of_ble_eq_true rfl) dX7_init_48 (fun H locs hP hD hS => ?_)
  have hP : va_P (dC, dI) vwCl [(h0, .inr (7, [.int 0, .ref q1, .ref q2, .ref q3, .ref q4, .ref q5, .ref q6, .null, .int 0, .null, .null, .null, .null, .null, .null, .null, .null, .null])), (q1, .inl (cI, 40, .inl fun _ => 0)), (q2, .inl (cI, 10, .inl fun _ => 0)), (q3, .inl (cI, 10, .inl fun _ => 0)), (q4, .inl (cI, 5, .inl fun _ => 0)), (q5, .inl (cI, 5, .inl fun _ => 0)), (q6, .inl (cI, 20480, .inl fun _ => 0))] H := hP
  have hD : va_D A [(h0, .inr (7, [.int 0, .ref q1, .ref q2, .ref q3, .ref q4, .ref q5, .ref q6, .null, .int 0, .null, .null, .null, .null, .null, .null, .null, .null, .null])), (q1, .inl (cI, 40, .inl fun _ => 0)), (q2, .inl (cI, 10, .inl fun _ => 0)), (q3, .inl (cI, 10, .inl fun _ => 0)), (q4, .inl (cI, 5, .inl fun _ => 0)), (q5, .inl (cI, 5, .inl fun _ => 0)), (q6, .inl (cI, 20480, .inl fun _ => 0))] := hD
  refine lv_aload_n hx hb dX7_init_51 rfl (lv_at hl 0 rfl) ?_
  refine lv_iconst (v := 2) hx hb dX7_init_52 (by decide) ?_
  refine cs_newI (N := 2) hx hb (tt 4 _ rfl) hK hP hD hS hA (by decide) (by decide) (by decide) (by decide) (by decide) dX7_init_53 (fun q7 H hP hD hS => ?_)
  have hP : va_P (dC, dI) vwCl [(h0, .inr (7, [.int 0, .ref q1, .ref q2, .ref q3, .ref q4, .ref q5, .ref q6, .null, .int 0, .null, .null, .null, .null, .null, .null, .null, .null, .null])), (q1, .inl (cI, 40, .inl fun _ => 0)), (q2, .inl (cI, 10, .inl fun _ => 0)), (q3, .inl (cI, 10, .inl fun _ => 0)), (q4, .inl (cI, 5, .inl fun _ => 0)), (q5, .inl (cI, 5, .inl fun _ => 0)), (q6, .inl (cI, 20480, .inl fun _ => 0)), (q7, .inl (cI, 2, .inl fun _ => 0))] H := hP
  have hD : va_D A [(h0, .inr (7, [.int 0, .ref q1, .ref q2, .ref q3, .ref q4, .ref q5, .ref q6, .null, .int 0, .null, .null, .null, .null, .null, .null, .null, .null, .null])), (q1, .inl (cI, 40, .inl fun _ => 0)), (q2, .inl (cI, 10, .inl fun _ => 0)), (q3, .inl (cI, 10, .inl fun _ => 0)), (q4, .inl (cI, 5, .inl fun _ => 0)), (q5, .inl (cI, 5, .inl fun _ => 0)), (q6, .inl (cI, 20480, .inl fun _ => 0)), (q7, .inl (cI, 2, .inl fun _ => 0))] := hD
  refine va_putF (D := (dC, dI)) (ci := 7) (v := .ref q7) (ty := .array .int) (C := RX7) (T := TX7) (N := 18) hx hb hts in_own tyX7 tyX7_ok nmX7 hown hK hP hD hS 0 rfl rfl 7 (by decide) (tt 11 _ rfl) (fun _ h9 => h9) rfl hin rfl (tyX7_ok 7 (by decide)) rfl rfl (Nat.le_of_ble_eq_true rfl) dX7_init_55 (fun H locs hP hD hS => ?_)
  have hP : va_P (dC, dI) vwCl [(h0, .inr (7, [.int 0, .ref q1, .ref q2, .ref q3, .ref q4, .ref q5, .ref q6, .ref q7, .int 0, .null, .null, .null, .null, .null, .null, .null, .null, .null])), (q1, .inl (cI, 40, .inl fun _ => 0)), (q2, .inl (cI, 10, .inl fun _ => 0)), (q3, .inl (cI, 10, .inl fun _ => 0)), (q4, .inl (cI, 5, .inl fun _ => 0)), (q5, .inl (cI, 5, .inl fun _ => 0)), (q6, .inl (cI, 20480, .inl fun _ => 0)), (q7, .inl (cI, 2, .inl fun _ => 0))] H := hP
  have hD : va_D A [(h0, .inr (7, [.int 0, .ref q1, .ref q2, .ref q3, .ref q4, .ref q5, .ref q6, .ref q7, .int 0, .null, .null, .null, .null, .null, .null, .null, .null, .null])), (q1, .inl (cI, 40, .inl fun _ => 0)), (q2, .inl (cI, 10, .inl fun _ => 0)), (q3, .inl (cI, 10, .inl fun _ => 0)), (q4, .inl (cI, 5, .inl fun _ => 0)), (q5, .inl (cI, 5, .inl fun _ => 0)), (q6, .inl (cI, 20480, .inl fun _ => 0)), (q7, .inl (cI, 2, .inl fun _ => 0))] := hD
  refine lv_aload_n hx hb dX7_init_58 rfl (lv_at hl 0 rfl) ?_
  refine lv_iconst (v := 5) hx hb dX7_init_59 (by decide) ?_
  refine cs_newI (N := 5) hx hb (tt 4 _ rfl) hK hP hD hS hA (by decide) (by decide) (by decide) (by decide) (by decide) dX7_init_60 (fun q8 H hP hD hS => ?_)
  have hP : va_P (dC, dI) vwCl [(h0, .inr (7, [.int 0, .ref q1, .ref q2, .ref q3, .ref q4, .ref q5, .ref q6, .ref q7, .int 0, .null, .null, .null, .null, .null, .null, .null, .null, .null])), (q1, .inl (cI, 40, .inl fun _ => 0)), (q2, .inl (cI, 10, .inl fun _ => 0)), (q3, .inl (cI, 10, .inl fun _ => 0)), (q4, .inl (cI, 5, .inl fun _ => 0)), (q5, .inl (cI, 5, .inl fun _ => 0)), (q6, .inl (cI, 20480, .inl fun _ => 0)), (q7, .inl (cI, 2, .inl fun _ => 0)), (q8, .inl (cI, 5, .inl fun _ => 0))] H := hP
  have hD : va_D A [(h0, .inr (7, [.int 0, .ref q1, .ref q2, .ref q3, .ref q4, .ref q5, .ref q6, .ref q7, .int 0, .null, .null, .null, .null, .null, .null, .null, .null, .null])), (q1, .inl (cI, 40, .inl fun _ => 0)), (q2, .inl (cI, 10, .inl fun _ => 0)), (q3, .inl (cI, 10, .inl fun _ => 0)), (q4, .inl (cI, 5, .inl fun _ => 0)), (q5, .inl (cI, 5, .inl fun _ => 0)), (q6, .inl (cI, 20480, .inl fun _ => 0)), (q7, .inl (cI, 2, .inl fun _ => 0)), (q8, .inl (cI, 5, .inl fun _ => 0))] := hD
  refine va_putF (D := (dC, dI)) (ci := 7) (v := .ref q8) (ty := .array .int) (C := RX7) (T := TX7) (N := 18) hx hb hts in_own tyX7 tyX7_ok nmX7 hown hK hP hD hS 0 rfl rfl 9 (by decide) (tt 12 _ rfl) (fun _ h9 => h9) rfl hin rfl (tyX7_ok 9 (by decide)) rfl rfl (Nat.le_of_ble_eq_true rfl) dX7_init_62 (fun H locs hP hD hS => ?_)
  have hP : va_P (dC, dI) vwCl [(h0, .inr (7, [.int 0, .ref q1, .ref q2, .ref q3, .ref q4, .ref q5, .ref q6, .ref q7, .int 0, .ref q8, .null, .null, .null, .null, .null, .null, .null, .null])), (q1, .inl (cI, 40, .inl fun _ => 0)), (q2, .inl (cI, 10, .inl fun _ => 0)), (q3, .inl (cI, 10, .inl fun _ => 0)), (q4, .inl (cI, 5, .inl fun _ => 0)), (q5, .inl (cI, 5, .inl fun _ => 0)), (q6, .inl (cI, 20480, .inl fun _ => 0)), (q7, .inl (cI, 2, .inl fun _ => 0)), (q8, .inl (cI, 5, .inl fun _ => 0))] H := hP
  have hD : va_D A [(h0, .inr (7, [.int 0, .ref q1, .ref q2, .ref q3, .ref q4, .ref q5, .ref q6, .ref q7, .int 0, .ref q8, .null, .null, .null, .null, .null, .null, .null, .null])), (q1, .inl (cI, 40, .inl fun _ => 0)), (q2, .inl (cI, 10, .inl fun _ => 0)), (q3, .inl (cI, 10, .inl fun _ => 0)), (q4, .inl (cI, 5, .inl fun _ => 0)), (q5, .inl (cI, 5, .inl fun _ => 0)), (q6, .inl (cI, 20480, .inl fun _ => 0)), (q7, .inl (cI, 2, .inl fun _ => 0)), (q8, .inl (cI, 5, .inl fun _ => 0))] := hD
  refine lv_aload_n hx hb dX7_init_65 rfl (lv_at hl 0 rfl) ?_
  refine lv_iconst (v := 5) hx hb dX7_init_66 (by decide) ?_
  refine cs_newI (N := 5) hx hb (tt 4 _ rfl) hK hP hD hS hA (by decide) (by decide) (by decide) (by decide) (by decide) dX7_init_67 (fun q9 H hP hD hS => ?_)
  have hP : va_P (dC, dI) vwCl [(h0, .inr (7, [.int 0, .ref q1, .ref q2, .ref q3, .ref q4, .ref q5, .ref q6, .ref q7, .int 0, .ref q8, .null, .null, .null, .null, .null, .null, .null, .null])), (q1, .inl (cI, 40, .inl fun _ => 0)), (q2, .inl (cI, 10, .inl fun _ => 0)), (q3, .inl (cI, 10, .inl fun _ => 0)), (q4, .inl (cI, 5, .inl fun _ => 0)), (q5, .inl (cI, 5, .inl fun _ => 0)), (q6, .inl (cI, 20480, .inl fun _ => 0)), (q7, .inl (cI, 2, .inl fun _ => 0)), (q8, .inl (cI, 5, .inl fun _ => 0)), (q9, .inl (cI, 5, .inl fun _ => 0))] H := hP
  have hD : va_D A [(h0, .inr (7, [.int 0, .ref q1, .ref q2, .ref q3, .ref q4, .ref q5, .ref q6, .ref q7, .int 0, .ref q8, .null, .null, .null, .null, .null, .null, .null, .null])), (q1, .inl (cI, 40, .inl fun _ => 0)), (q2, .inl (cI, 10, .inl fun _ => 0)), (q3, .inl (cI, 10, .inl fun _ => 0)), (q4, .inl (cI, 5, .inl fun _ => 0)), (q5, .inl (cI, 5, .inl fun _ => 0)), (q6, .inl (cI, 20480, .inl fun _ => 0)), (q7, .inl (cI, 2, .inl fun _ => 0)), (q8, .inl (cI, 5, .inl fun _ => 0)), (q9, .inl (cI, 5, .inl fun _ => 0))] := hD
  refine va_putF (D := (dC, dI)) (ci := 7) (v := .ref q9) (ty := .array .int) (C := RX7) (T := TX7) (N := 18) hx hb hts in_own tyX7 tyX7_ok nmX7 hown hK hP hD hS 0 rfl rfl 10 (by decide) (tt 13 _ rfl) (fun _ h9 => h9) rfl hin rfl (tyX7_ok 10 (by decide)) rfl rfl (Nat.le_of_ble_eq_true rfl) dX7_init_69 (fun H locs hP hD hS => ?_)
  have hP : va_P (dC, dI) vwCl [(h0, .inr (7, [.int 0, .ref q1, .ref q2, .ref q3, .ref q4, .ref q5, .ref q6, .ref q7, .int 0, .ref q8, .ref q9, .null, .null, .null, .null, .null, .null, .null])), (q1, .inl (cI, 40, .inl fun _ => 0)), (q2, .inl (cI, 10, .inl fun _ => 0)), (q3, .inl (cI, 10, .inl fun _ => 0)), (q4, .inl (cI, 5, .inl fun _ => 0)), (q5, .inl (cI, 5, .inl fun _ => 0)), (q6, .inl (cI, 20480, .inl fun _ => 0)), (q7, .inl (cI, 2, .inl fun _ => 0)), (q8, .inl (cI, 5, .inl fun _ => 0)), (q9, .inl (cI, 5, .inl fun _ => 0))] H := hP
  have hD : va_D A [(h0, .inr (7, [.int 0, .ref q1, .ref q2, .ref q3, .ref q4, .ref q5, .ref q6, .ref q7, .int 0, .ref q8, .ref q9, .null, .null, .null, .null, .null, .null, .null])), (q1, .inl (cI, 40, .inl fun _ => 0)), (q2, .inl (cI, 10, .inl fun _ => 0)), (q3, .inl (cI, 10, .inl fun _ => 0)), (q4, .inl (cI, 5, .inl fun _ => 0)), (q5, .inl (cI, 5, .inl fun _ => 0)), (q6, .inl (cI, 20480, .inl fun _ => 0)), (q7, .inl (cI, 2, .inl fun _ => 0)), (q8, .inl (cI, 5, .inl fun _ => 0)), (q9, .inl (cI, 5, .inl fun _ => 0))] := hD
  refine lv_aload_n hx hb dX7_init_72 rfl (lv_at hl 0 rfl) ?_
  refine lv_bipush (v := 32) hx hb dX7_init_73 (by decide) ?_
  refine cs_newZ (N := 32) hx hb (tt 14 _ rfl) hK hP hD hS hA (by decide) (by decide) (by decide) (by decide) (by decide) dX7_init_75 (fun q10 H hP hD hS => ?_)
  have hP : va_P (dC, dI) vwCl [(h0, .inr (7, [.int 0, .ref q1, .ref q2, .ref q3, .ref q4, .ref q5, .ref q6, .ref q7, .int 0, .ref q8, .ref q9, .null, .null, .null, .null, .null, .null, .null])), (q1, .inl (cI, 40, .inl fun _ => 0)), (q2, .inl (cI, 10, .inl fun _ => 0)), (q3, .inl (cI, 10, .inl fun _ => 0)), (q4, .inl (cI, 5, .inl fun _ => 0)), (q5, .inl (cI, 5, .inl fun _ => 0)), (q6, .inl (cI, 20480, .inl fun _ => 0)), (q7, .inl (cI, 2, .inl fun _ => 0)), (q8, .inl (cI, 5, .inl fun _ => 0)), (q9, .inl (cI, 5, .inl fun _ => 0)), (q10, .inl (cZ, 32, .inl fun _ => 0))] H := hP
  have hD : va_D A [(h0, .inr (7, [.int 0, .ref q1, .ref q2, .ref q3, .ref q4, .ref q5, .ref q6, .ref q7, .int 0, .ref q8, .ref q9, .null, .null, .null, .null, .null, .null, .null])), (q1, .inl (cI, 40, .inl fun _ => 0)), (q2, .inl (cI, 10, .inl fun _ => 0)), (q3, .inl (cI, 10, .inl fun _ => 0)), (q4, .inl (cI, 5, .inl fun _ => 0)), (q5, .inl (cI, 5, .inl fun _ => 0)), (q6, .inl (cI, 20480, .inl fun _ => 0)), (q7, .inl (cI, 2, .inl fun _ => 0)), (q8, .inl (cI, 5, .inl fun _ => 0)), (q9, .inl (cI, 5, .inl fun _ => 0)), (q10, .inl (cZ, 32, .inl fun _ => 0))] := hD
  refine va_putF (D := (dC, dI)) (ci := 7) (v := .ref q10) (ty := .array .boolean) (C := RX7) (T := TX7) (N := 18) hx hb hts in_own tyX7 tyX7_ok nmX7 hown hK hP hD hS 0 rfl rfl 11 (by decide) (tt 15 _ rfl) (fun _ h9 => h9) rfl hin rfl (tyX7_ok 11 (by decide)) rfl rfl (Nat.le_of_ble_eq_true rfl) dX7_init_77 (fun H locs hP hD hS => ?_)
  have hP : va_P (dC, dI) vwCl [(h0, .inr (7, [.int 0, .ref q1, .ref q2, .ref q3, .ref q4, .ref q5, .ref q6, .ref q7, .int 0, .ref q8, .ref q9, .ref q10, .null, .null, .null, .null, .null, .null])), (q1, .inl (cI, 40, .inl fun _ => 0)), (q2, .inl (cI, 10, .inl fun _ => 0)), (q3, .inl (cI, 10, .inl fun _ => 0)), (q4, .inl (cI, 5, .inl fun _ => 0)), (q5, .inl (cI, 5, .inl fun _ => 0)), (q6, .inl (cI, 20480, .inl fun _ => 0)), (q7, .inl (cI, 2, .inl fun _ => 0)), (q8, .inl (cI, 5, .inl fun _ => 0)), (q9, .inl (cI, 5, .inl fun _ => 0)), (q10, .inl (cZ, 32, .inl fun _ => 0))] H := hP
  have hD : va_D A [(h0, .inr (7, [.int 0, .ref q1, .ref q2, .ref q3, .ref q4, .ref q5, .ref q6, .ref q7, .int 0, .ref q8, .ref q9, .ref q10, .null, .null, .null, .null, .null, .null])), (q1, .inl (cI, 40, .inl fun _ => 0)), (q2, .inl (cI, 10, .inl fun _ => 0)), (q3, .inl (cI, 10, .inl fun _ => 0)), (q4, .inl (cI, 5, .inl fun _ => 0)), (q5, .inl (cI, 5, .inl fun _ => 0)), (q6, .inl (cI, 20480, .inl fun _ => 0)), (q7, .inl (cI, 2, .inl fun _ => 0)), (q8, .inl (cI, 5, .inl fun _ => 0)), (q9, .inl (cI, 5, .inl fun _ => 0)), (q10, .inl (cZ, 32, .inl fun _ => 0))] := hD
  refine lv_aload_n hx hb dX7_init_80 rfl (lv_at hl 0 rfl) ?_
  refine lv_bipush (v := 32) hx hb dX7_init_81 (by decide) ?_
  refine cs_newI (N := 32) hx hb (tt 4 _ rfl) hK hP hD hS hA (by decide) (by decide) (by decide) (by decide) (by decide) dX7_init_83 (fun q11 H hP hD hS => ?_)
  have hP : va_P (dC, dI) vwCl [(h0, .inr (7, [.int 0, .ref q1, .ref q2, .ref q3, .ref q4, .ref q5, .ref q6, .ref q7, .int 0, .ref q8, .ref q9, .ref q10, .null, .null, .null, .null, .null, .null])), (q1, .inl (cI, 40, .inl fun _ => 0)), (q2, .inl (cI, 10, .inl fun _ => 0)), (q3, .inl (cI, 10, .inl fun _ => 0)), (q4, .inl (cI, 5, .inl fun _ => 0)), (q5, .inl (cI, 5, .inl fun _ => 0)), (q6, .inl (cI, 20480, .inl fun _ => 0)), (q7, .inl (cI, 2, .inl fun _ => 0)), (q8, .inl (cI, 5, .inl fun _ => 0)), (q9, .inl (cI, 5, .inl fun _ => 0)), (q10, .inl (cZ, 32, .inl fun _ => 0)), (q11, .inl (cI, 32, .inl fun _ => 0))] H := hP
  have hD : va_D A [(h0, .inr (7, [.int 0, .ref q1, .ref q2, .ref q3, .ref q4, .ref q5, .ref q6, .ref q7, .int 0, .ref q8, .ref q9, .ref q10, .null, .null, .null, .null, .null, .null])), (q1, .inl (cI, 40, .inl fun _ => 0)), (q2, .inl (cI, 10, .inl fun _ => 0)), (q3, .inl (cI, 10, .inl fun _ => 0)), (q4, .inl (cI, 5, .inl fun _ => 0)), (q5, .inl (cI, 5, .inl fun _ => 0)), (q6, .inl (cI, 20480, .inl fun _ => 0)), (q7, .inl (cI, 2, .inl fun _ => 0)), (q8, .inl (cI, 5, .inl fun _ => 0)), (q9, .inl (cI, 5, .inl fun _ => 0)), (q10, .inl (cZ, 32, .inl fun _ => 0)), (q11, .inl (cI, 32, .inl fun _ => 0))] := hD
  refine va_putF (D := (dC, dI)) (ci := 7) (v := .ref q11) (ty := .array .int) (C := RX7) (T := TX7) (N := 18) hx hb hts in_own tyX7 tyX7_ok nmX7 hown hK hP hD hS 0 rfl rfl 12 (by decide) (tt 16 _ rfl) (fun _ h9 => h9) rfl hin rfl (tyX7_ok 12 (by decide)) rfl rfl (Nat.le_of_ble_eq_true rfl) dX7_init_85 (fun H locs hP hD hS => ?_)
  have hP : va_P (dC, dI) vwCl [(h0, .inr (7, [.int 0, .ref q1, .ref q2, .ref q3, .ref q4, .ref q5, .ref q6, .ref q7, .int 0, .ref q8, .ref q9, .ref q10, .ref q11, .null, .null, .null, .null, .null])), (q1, .inl (cI, 40, .inl fun _ => 0)), (q2, .inl (cI, 10, .inl fun _ => 0)), (q3, .inl (cI, 10, .inl fun _ => 0)), (q4, .inl (cI, 5, .inl fun _ => 0)), (q5, .inl (cI, 5, .inl fun _ => 0)), (q6, .inl (cI, 20480, .inl fun _ => 0)), (q7, .inl (cI, 2, .inl fun _ => 0)), (q8, .inl (cI, 5, .inl fun _ => 0)), (q9, .inl (cI, 5, .inl fun _ => 0)), (q10, .inl (cZ, 32, .inl fun _ => 0)), (q11, .inl (cI, 32, .inl fun _ => 0))] H := hP
  have hD : va_D A [(h0, .inr (7, [.int 0, .ref q1, .ref q2, .ref q3, .ref q4, .ref q5, .ref q6, .ref q7, .int 0, .ref q8, .ref q9, .ref q10, .ref q11, .null, .null, .null, .null, .null])), (q1, .inl (cI, 40, .inl fun _ => 0)), (q2, .inl (cI, 10, .inl fun _ => 0)), (q3, .inl (cI, 10, .inl fun _ => 0)), (q4, .inl (cI, 5, .inl fun _ => 0)), (q5, .inl (cI, 5, .inl fun _ => 0)), (q6, .inl (cI, 20480, .inl fun _ => 0)), (q7, .inl (cI, 2, .inl fun _ => 0)), (q8, .inl (cI, 5, .inl fun _ => 0)), (q9, .inl (cI, 5, .inl fun _ => 0)), (q10, .inl (cZ, 32, .inl fun _ => 0)), (q11, .inl (cI, 32, .inl fun _ => 0))] := hD
  refine lv_aload_n hx hb dX7_init_88 rfl (lv_at hl 0 rfl) ?_
  refine lv_sipush (v := 1024) hx hb dX7_init_89 (by decide) ?_
  refine cs_newI (N := 1024) hx hb (tt 4 _ rfl) hK hP hD hS hA (by decide) (by decide) (by decide) (by decide) (by decide) dX7_init_92 (fun q12 H hP hD hS => ?_)
  have hP : va_P (dC, dI) vwCl [(h0, .inr (7, [.int 0, .ref q1, .ref q2, .ref q3, .ref q4, .ref q5, .ref q6, .ref q7, .int 0, .ref q8, .ref q9, .ref q10, .ref q11, .null, .null, .null, .null, .null])), (q1, .inl (cI, 40, .inl fun _ => 0)), (q2, .inl (cI, 10, .inl fun _ => 0)), (q3, .inl (cI, 10, .inl fun _ => 0)), (q4, .inl (cI, 5, .inl fun _ => 0)), (q5, .inl (cI, 5, .inl fun _ => 0)), (q6, .inl (cI, 20480, .inl fun _ => 0)), (q7, .inl (cI, 2, .inl fun _ => 0)), (q8, .inl (cI, 5, .inl fun _ => 0)), (q9, .inl (cI, 5, .inl fun _ => 0)), (q10, .inl (cZ, 32, .inl fun _ => 0)), (q11, .inl (cI, 32, .inl fun _ => 0)), (q12, .inl (cI, 1024, .inl fun _ => 0))] H := hP
  have hD : va_D A [(h0, .inr (7, [.int 0, .ref q1, .ref q2, .ref q3, .ref q4, .ref q5, .ref q6, .ref q7, .int 0, .ref q8, .ref q9, .ref q10, .ref q11, .null, .null, .null, .null, .null])), (q1, .inl (cI, 40, .inl fun _ => 0)), (q2, .inl (cI, 10, .inl fun _ => 0)), (q3, .inl (cI, 10, .inl fun _ => 0)), (q4, .inl (cI, 5, .inl fun _ => 0)), (q5, .inl (cI, 5, .inl fun _ => 0)), (q6, .inl (cI, 20480, .inl fun _ => 0)), (q7, .inl (cI, 2, .inl fun _ => 0)), (q8, .inl (cI, 5, .inl fun _ => 0)), (q9, .inl (cI, 5, .inl fun _ => 0)), (q10, .inl (cZ, 32, .inl fun _ => 0)), (q11, .inl (cI, 32, .inl fun _ => 0)), (q12, .inl (cI, 1024, .inl fun _ => 0))] := hD
  refine va_putF (D := (dC, dI)) (ci := 7) (v := .ref q12) (ty := .array .int) (C := RX7) (T := TX7) (N := 18) hx hb hts in_own tyX7 tyX7_ok nmX7 hown hK hP hD hS 0 rfl rfl 13 (by decide) (tt 17 _ rfl) (fun _ h9 => h9) rfl hin rfl (tyX7_ok 13 (by decide)) rfl rfl (Nat.le_of_ble_eq_true rfl) dX7_init_94 (fun H locs hP hD hS => ?_)
  have hP : va_P (dC, dI) vwCl [(h0, .inr (7, [.int 0, .ref q1, .ref q2, .ref q3, .ref q4, .ref q5, .ref q6, .ref q7, .int 0, .ref q8, .ref q9, .ref q10, .ref q11, .ref q12, .null, .null, .null, .null])), (q1, .inl (cI, 40, .inl fun _ => 0)), (q2, .inl (cI, 10, .inl fun _ => 0)), (q3, .inl (cI, 10, .inl fun _ => 0)), (q4, .inl (cI, 5, .inl fun _ => 0)), (q5, .inl (cI, 5, .inl fun _ => 0)), (q6, .inl (cI, 20480, .inl fun _ => 0)), (q7, .inl (cI, 2, .inl fun _ => 0)), (q8, .inl (cI, 5, .inl fun _ => 0)), (q9, .inl (cI, 5, .inl fun _ => 0)), (q10, .inl (cZ, 32, .inl fun _ => 0)), (q11, .inl (cI, 32, .inl fun _ => 0)), (q12, .inl (cI, 1024, .inl fun _ => 0))] H := hP
  have hD : va_D A [(h0, .inr (7, [.int 0, .ref q1, .ref q2, .ref q3, .ref q4, .ref q5, .ref q6, .ref q7, .int 0, .ref q8, .ref q9, .ref q10, .ref q11, .ref q12, .null, .null, .null, .null])), (q1, .inl (cI, 40, .inl fun _ => 0)), (q2, .inl (cI, 10, .inl fun _ => 0)), (q3, .inl (cI, 10, .inl fun _ => 0)), (q4, .inl (cI, 5, .inl fun _ => 0)), (q5, .inl (cI, 5, .inl fun _ => 0)), (q6, .inl (cI, 20480, .inl fun _ => 0)), (q7, .inl (cI, 2, .inl fun _ => 0)), (q8, .inl (cI, 5, .inl fun _ => 0)), (q9, .inl (cI, 5, .inl fun _ => 0)), (q10, .inl (cZ, 32, .inl fun _ => 0)), (q11, .inl (cI, 32, .inl fun _ => 0)), (q12, .inl (cI, 1024, .inl fun _ => 0))] := hD
  refine lv_aload_n hx hb dX7_init_97 rfl (lv_at hl 0 rfl) ?_
  refine lv_bipush (v := 10) hx hb dX7_init_98 (by decide) ?_
  refine cs_newI (N := 10) hx hb (tt 4 _ rfl) hK hP hD hS hA (by decide) (by decide) (by decide) (by decide) (by decide) dX7_init_100 (fun q13 H hP hD hS => ?_)
  have hP : va_P (dC, dI) vwCl [(h0, .inr (7, [.int 0, .ref q1, .ref q2, .ref q3, .ref q4, .ref q5, .ref q6, .ref q7, .int 0, .ref q8, .ref q9, .ref q10, .ref q11, .ref q12, .null, .null, .null, .null])), (q1, .inl (cI, 40, .inl fun _ => 0)), (q2, .inl (cI, 10, .inl fun _ => 0)), (q3, .inl (cI, 10, .inl fun _ => 0)), (q4, .inl (cI, 5, .inl fun _ => 0)), (q5, .inl (cI, 5, .inl fun _ => 0)), (q6, .inl (cI, 20480, .inl fun _ => 0)), (q7, .inl (cI, 2, .inl fun _ => 0)), (q8, .inl (cI, 5, .inl fun _ => 0)), (q9, .inl (cI, 5, .inl fun _ => 0)), (q10, .inl (cZ, 32, .inl fun _ => 0)), (q11, .inl (cI, 32, .inl fun _ => 0)), (q12, .inl (cI, 1024, .inl fun _ => 0)), (q13, .inl (cI, 10, .inl fun _ => 0))] H := hP
  have hD : va_D A [(h0, .inr (7, [.int 0, .ref q1, .ref q2, .ref q3, .ref q4, .ref q5, .ref q6, .ref q7, .int 0, .ref q8, .ref q9, .ref q10, .ref q11, .ref q12, .null, .null, .null, .null])), (q1, .inl (cI, 40, .inl fun _ => 0)), (q2, .inl (cI, 10, .inl fun _ => 0)), (q3, .inl (cI, 10, .inl fun _ => 0)), (q4, .inl (cI, 5, .inl fun _ => 0)), (q5, .inl (cI, 5, .inl fun _ => 0)), (q6, .inl (cI, 20480, .inl fun _ => 0)), (q7, .inl (cI, 2, .inl fun _ => 0)), (q8, .inl (cI, 5, .inl fun _ => 0)), (q9, .inl (cI, 5, .inl fun _ => 0)), (q10, .inl (cZ, 32, .inl fun _ => 0)), (q11, .inl (cI, 32, .inl fun _ => 0)), (q12, .inl (cI, 1024, .inl fun _ => 0)), (q13, .inl (cI, 10, .inl fun _ => 0))] := hD
  refine va_putF (D := (dC, dI)) (ci := 7) (v := .ref q13) (ty := .array .int) (C := RX7) (T := TX7) (N := 18) hx hb hts in_own tyX7 tyX7_ok nmX7 hown hK hP hD hS 0 rfl rfl 14 (by decide) (tt 18 _ rfl) (fun _ h9 => h9) rfl hin rfl (tyX7_ok 14 (by decide)) rfl rfl (Nat.le_of_ble_eq_true rfl) dX7_init_102 (fun H locs hP hD hS => ?_)
  have hP : va_P (dC, dI) vwCl [(h0, .inr (7, [.int 0, .ref q1, .ref q2, .ref q3, .ref q4, .ref q5, .ref q6, .ref q7, .int 0, .ref q8, .ref q9, .ref q10, .ref q11, .ref q12, .ref q13, .null, .null, .null])), (q1, .inl (cI, 40, .inl fun _ => 0)), (q2, .inl (cI, 10, .inl fun _ => 0)), (q3, .inl (cI, 10, .inl fun _ => 0)), (q4, .inl (cI, 5, .inl fun _ => 0)), (q5, .inl (cI, 5, .inl fun _ => 0)), (q6, .inl (cI, 20480, .inl fun _ => 0)), (q7, .inl (cI, 2, .inl fun _ => 0)), (q8, .inl (cI, 5, .inl fun _ => 0)), (q9, .inl (cI, 5, .inl fun _ => 0)), (q10, .inl (cZ, 32, .inl fun _ => 0)), (q11, .inl (cI, 32, .inl fun _ => 0)), (q12, .inl (cI, 1024, .inl fun _ => 0)), (q13, .inl (cI, 10, .inl fun _ => 0))] H := hP
  have hD : va_D A [(h0, .inr (7, [.int 0, .ref q1, .ref q2, .ref q3, .ref q4, .ref q5, .ref q6, .ref q7, .int 0, .ref q8, .ref q9, .ref q10, .ref q11, .ref q12, .ref q13, .null, .null, .null])), (q1, .inl (cI, 40, .inl fun _ => 0)), (q2, .inl (cI, 10, .inl fun _ => 0)), (q3, .inl (cI, 10, .inl fun _ => 0)), (q4, .inl (cI, 5, .inl fun _ => 0)), (q5, .inl (cI, 5, .inl fun _ => 0)), (q6, .inl (cI, 20480, .inl fun _ => 0)), (q7, .inl (cI, 2, .inl fun _ => 0)), (q8, .inl (cI, 5, .inl fun _ => 0)), (q9, .inl (cI, 5, .inl fun _ => 0)), (q10, .inl (cZ, 32, .inl fun _ => 0)), (q11, .inl (cI, 32, .inl fun _ => 0)), (q12, .inl (cI, 1024, .inl fun _ => 0)), (q13, .inl (cI, 10, .inl fun _ => 0))] := hD
  refine lv_aload_n hx hb dX7_init_105 rfl (lv_at hl 0 rfl) ?_
  refine lv_sipush (v := 10240) hx hb dX7_init_106 (by decide) ?_
  refine cs_newI (N := 10240) hx hb (tt 4 _ rfl) hK hP hD hS hA (by decide) (by decide) (by decide) (by decide) (by decide) dX7_init_109 (fun q14 H hP hD hS => ?_)
  have hP : va_P (dC, dI) vwCl [(h0, .inr (7, [.int 0, .ref q1, .ref q2, .ref q3, .ref q4, .ref q5, .ref q6, .ref q7, .int 0, .ref q8, .ref q9, .ref q10, .ref q11, .ref q12, .ref q13, .null, .null, .null])), (q1, .inl (cI, 40, .inl fun _ => 0)), (q2, .inl (cI, 10, .inl fun _ => 0)), (q3, .inl (cI, 10, .inl fun _ => 0)), (q4, .inl (cI, 5, .inl fun _ => 0)), (q5, .inl (cI, 5, .inl fun _ => 0)), (q6, .inl (cI, 20480, .inl fun _ => 0)), (q7, .inl (cI, 2, .inl fun _ => 0)), (q8, .inl (cI, 5, .inl fun _ => 0)), (q9, .inl (cI, 5, .inl fun _ => 0)), (q10, .inl (cZ, 32, .inl fun _ => 0)), (q11, .inl (cI, 32, .inl fun _ => 0)), (q12, .inl (cI, 1024, .inl fun _ => 0)), (q13, .inl (cI, 10, .inl fun _ => 0)), (q14, .inl (cI, 10240, .inl fun _ => 0))] H := hP
  have hD : va_D A [(h0, .inr (7, [.int 0, .ref q1, .ref q2, .ref q3, .ref q4, .ref q5, .ref q6, .ref q7, .int 0, .ref q8, .ref q9, .ref q10, .ref q11, .ref q12, .ref q13, .null, .null, .null])), (q1, .inl (cI, 40, .inl fun _ => 0)), (q2, .inl (cI, 10, .inl fun _ => 0)), (q3, .inl (cI, 10, .inl fun _ => 0)), (q4, .inl (cI, 5, .inl fun _ => 0)), (q5, .inl (cI, 5, .inl fun _ => 0)), (q6, .inl (cI, 20480, .inl fun _ => 0)), (q7, .inl (cI, 2, .inl fun _ => 0)), (q8, .inl (cI, 5, .inl fun _ => 0)), (q9, .inl (cI, 5, .inl fun _ => 0)), (q10, .inl (cZ, 32, .inl fun _ => 0)), (q11, .inl (cI, 32, .inl fun _ => 0)), (q12, .inl (cI, 1024, .inl fun _ => 0)), (q13, .inl (cI, 10, .inl fun _ => 0)), (q14, .inl (cI, 10240, .inl fun _ => 0))] := hD
  refine va_putF (D := (dC, dI)) (ci := 7) (v := .ref q14) (ty := .array .int) (C := RX7) (T := TX7) (N := 18) hx hb hts in_own tyX7 tyX7_ok nmX7 hown hK hP hD hS 0 rfl rfl 15 (by decide) (tt 19 _ rfl) (fun _ h9 => h9) rfl hin rfl (tyX7_ok 15 (by decide)) rfl rfl (Nat.le_of_ble_eq_true rfl) dX7_init_111 (fun H locs hP hD hS => ?_)
  have hP : va_P (dC, dI) vwCl [(h0, .inr (7, [.int 0, .ref q1, .ref q2, .ref q3, .ref q4, .ref q5, .ref q6, .ref q7, .int 0, .ref q8, .ref q9, .ref q10, .ref q11, .ref q12, .ref q13, .ref q14, .null, .null])), (q1, .inl (cI, 40, .inl fun _ => 0)), (q2, .inl (cI, 10, .inl fun _ => 0)), (q3, .inl (cI, 10, .inl fun _ => 0)), (q4, .inl (cI, 5, .inl fun _ => 0)), (q5, .inl (cI, 5, .inl fun _ => 0)), (q6, .inl (cI, 20480, .inl fun _ => 0)), (q7, .inl (cI, 2, .inl fun _ => 0)), (q8, .inl (cI, 5, .inl fun _ => 0)), (q9, .inl (cI, 5, .inl fun _ => 0)), (q10, .inl (cZ, 32, .inl fun _ => 0)), (q11, .inl (cI, 32, .inl fun _ => 0)), (q12, .inl (cI, 1024, .inl fun _ => 0)), (q13, .inl (cI, 10, .inl fun _ => 0)), (q14, .inl (cI, 10240, .inl fun _ => 0))] H := hP
  have hD : va_D A [(h0, .inr (7, [.int 0, .ref q1, .ref q2, .ref q3, .ref q4, .ref q5, .ref q6, .ref q7, .int 0, .ref q8, .ref q9, .ref q10, .ref q11, .ref q12, .ref q13, .ref q14, .null, .null])), (q1, .inl (cI, 40, .inl fun _ => 0)), (q2, .inl (cI, 10, .inl fun _ => 0)), (q3, .inl (cI, 10, .inl fun _ => 0)), (q4, .inl (cI, 5, .inl fun _ => 0)), (q5, .inl (cI, 5, .inl fun _ => 0)), (q6, .inl (cI, 20480, .inl fun _ => 0)), (q7, .inl (cI, 2, .inl fun _ => 0)), (q8, .inl (cI, 5, .inl fun _ => 0)), (q9, .inl (cI, 5, .inl fun _ => 0)), (q10, .inl (cZ, 32, .inl fun _ => 0)), (q11, .inl (cI, 32, .inl fun _ => 0)), (q12, .inl (cI, 1024, .inl fun _ => 0)), (q13, .inl (cI, 10, .inl fun _ => 0)), (q14, .inl (cI, 10240, .inl fun _ => 0))] := hD
  refine lv_aload_n hx hb dX7_init_114 rfl (lv_at hl 0 rfl) ?_
  refine lv_bipush (v := 60) hx hb dX7_init_115 (by decide) ?_
  refine cs_newI (N := 60) hx hb (tt 4 _ rfl) hK hP hD hS hA (by decide) (by decide) (by decide) (by decide) (by decide) dX7_init_117 (fun q15 H hP hD hS => ?_)
  have hP : va_P (dC, dI) vwCl [(h0, .inr (7, [.int 0, .ref q1, .ref q2, .ref q3, .ref q4, .ref q5, .ref q6, .ref q7, .int 0, .ref q8, .ref q9, .ref q10, .ref q11, .ref q12, .ref q13, .ref q14, .null, .null])), (q1, .inl (cI, 40, .inl fun _ => 0)), (q2, .inl (cI, 10, .inl fun _ => 0)), (q3, .inl (cI, 10, .inl fun _ => 0)), (q4, .inl (cI, 5, .inl fun _ => 0)), (q5, .inl (cI, 5, .inl fun _ => 0)), (q6, .inl (cI, 20480, .inl fun _ => 0)), (q7, .inl (cI, 2, .inl fun _ => 0)), (q8, .inl (cI, 5, .inl fun _ => 0)), (q9, .inl (cI, 5, .inl fun _ => 0)), (q10, .inl (cZ, 32, .inl fun _ => 0)), (q11, .inl (cI, 32, .inl fun _ => 0)), (q12, .inl (cI, 1024, .inl fun _ => 0)), (q13, .inl (cI, 10, .inl fun _ => 0)), (q14, .inl (cI, 10240, .inl fun _ => 0)), (q15, .inl (cI, 60, .inl fun _ => 0))] H := hP
  have hD : va_D A [(h0, .inr (7, [.int 0, .ref q1, .ref q2, .ref q3, .ref q4, .ref q5, .ref q6, .ref q7, .int 0, .ref q8, .ref q9, .ref q10, .ref q11, .ref q12, .ref q13, .ref q14, .null, .null])), (q1, .inl (cI, 40, .inl fun _ => 0)), (q2, .inl (cI, 10, .inl fun _ => 0)), (q3, .inl (cI, 10, .inl fun _ => 0)), (q4, .inl (cI, 5, .inl fun _ => 0)), (q5, .inl (cI, 5, .inl fun _ => 0)), (q6, .inl (cI, 20480, .inl fun _ => 0)), (q7, .inl (cI, 2, .inl fun _ => 0)), (q8, .inl (cI, 5, .inl fun _ => 0)), (q9, .inl (cI, 5, .inl fun _ => 0)), (q10, .inl (cZ, 32, .inl fun _ => 0)), (q11, .inl (cI, 32, .inl fun _ => 0)), (q12, .inl (cI, 1024, .inl fun _ => 0)), (q13, .inl (cI, 10, .inl fun _ => 0)), (q14, .inl (cI, 10240, .inl fun _ => 0)), (q15, .inl (cI, 60, .inl fun _ => 0))] := hD
  refine va_putF (D := (dC, dI)) (ci := 7) (v := .ref q15) (ty := .array .int) (C := RX7) (T := TX7) (N := 18) hx hb hts in_own tyX7 tyX7_ok nmX7 hown hK hP hD hS 0 rfl rfl 16 (by decide) (tt 20 _ rfl) (fun _ h9 => h9) rfl hin rfl (tyX7_ok 16 (by decide)) rfl rfl (Nat.le_of_ble_eq_true rfl) dX7_init_119 (fun H locs hP hD hS => ?_)
  have hP : va_P (dC, dI) vwCl [(h0, .inr (7, [.int 0, .ref q1, .ref q2, .ref q3, .ref q4, .ref q5, .ref q6, .ref q7, .int 0, .ref q8, .ref q9, .ref q10, .ref q11, .ref q12, .ref q13, .ref q14, .ref q15, .null])), (q1, .inl (cI, 40, .inl fun _ => 0)), (q2, .inl (cI, 10, .inl fun _ => 0)), (q3, .inl (cI, 10, .inl fun _ => 0)), (q4, .inl (cI, 5, .inl fun _ => 0)), (q5, .inl (cI, 5, .inl fun _ => 0)), (q6, .inl (cI, 20480, .inl fun _ => 0)), (q7, .inl (cI, 2, .inl fun _ => 0)), (q8, .inl (cI, 5, .inl fun _ => 0)), (q9, .inl (cI, 5, .inl fun _ => 0)), (q10, .inl (cZ, 32, .inl fun _ => 0)), (q11, .inl (cI, 32, .inl fun _ => 0)), (q12, .inl (cI, 1024, .inl fun _ => 0)), (q13, .inl (cI, 10, .inl fun _ => 0)), (q14, .inl (cI, 10240, .inl fun _ => 0)), (q15, .inl (cI, 60, .inl fun _ => 0))] H := hP
  have hD : va_D A [(h0, .inr (7, [.int 0, .ref q1, .ref q2, .ref q3, .ref q4, .ref q5, .ref q6, .ref q7, .int 0, .ref q8, .ref q9, .ref q10, .ref q11, .ref q12, .ref q13, .ref q14, .ref q15, .null])), (q1, .inl (cI, 40, .inl fun _ => 0)), (q2, .inl (cI, 10, .inl fun _ => 0)), (q3, .inl (cI, 10, .inl fun _ => 0)), (q4, .inl (cI, 5, .inl fun _ => 0)), (q5, .inl (cI, 5, .inl fun _ => 0)), (q6, .inl (cI, 20480, .inl fun _ => 0)), (q7, .inl (cI, 2, .inl fun _ => 0)), (q8, .inl (cI, 5, .inl fun _ => 0)), (q9, .inl (cI, 5, .inl fun _ => 0)), (q10, .inl (cZ, 32, .inl fun _ => 0)), (q11, .inl (cI, 32, .inl fun _ => 0)), (q12, .inl (cI, 1024, .inl fun _ => 0)), (q13, .inl (cI, 10, .inl fun _ => 0)), (q14, .inl (cI, 10240, .inl fun _ => 0)), (q15, .inl (cI, 60, .inl fun _ => 0))] := hD
  refine lv_aload_n hx hb dX7_init_122 rfl (lv_at hl 0 rfl) ?_
  refine lv_iconst (v := 2) hx hb dX7_init_123 (by decide) ?_
  refine cs_newZ (N := 2) hx hb (tt 14 _ rfl) hK hP hD hS hA (by decide) (by decide) (by decide) (by decide) (by decide) dX7_init_124 (fun q16 H hP hD hS => ?_)
  have hP : va_P (dC, dI) vwCl [(h0, .inr (7, [.int 0, .ref q1, .ref q2, .ref q3, .ref q4, .ref q5, .ref q6, .ref q7, .int 0, .ref q8, .ref q9, .ref q10, .ref q11, .ref q12, .ref q13, .ref q14, .ref q15, .null])), (q1, .inl (cI, 40, .inl fun _ => 0)), (q2, .inl (cI, 10, .inl fun _ => 0)), (q3, .inl (cI, 10, .inl fun _ => 0)), (q4, .inl (cI, 5, .inl fun _ => 0)), (q5, .inl (cI, 5, .inl fun _ => 0)), (q6, .inl (cI, 20480, .inl fun _ => 0)), (q7, .inl (cI, 2, .inl fun _ => 0)), (q8, .inl (cI, 5, .inl fun _ => 0)), (q9, .inl (cI, 5, .inl fun _ => 0)), (q10, .inl (cZ, 32, .inl fun _ => 0)), (q11, .inl (cI, 32, .inl fun _ => 0)), (q12, .inl (cI, 1024, .inl fun _ => 0)), (q13, .inl (cI, 10, .inl fun _ => 0)), (q14, .inl (cI, 10240, .inl fun _ => 0)), (q15, .inl (cI, 60, .inl fun _ => 0)), (q16, .inl (cZ, 2, .inl fun _ => 0))] H := hP
  have hD : va_D A [(h0, .inr (7, [.int 0, .ref q1, .ref q2, .ref q3, .ref q4, .ref q5, .ref q6, .ref q7, .int 0, .ref q8, .ref q9, .ref q10, .ref q11, .ref q12, .ref q13, .ref q14, .ref q15, .null])), (q1, .inl (cI, 40, .inl fun _ => 0)), (q2, .inl (cI, 10, .inl fun _ => 0)), (q3, .inl (cI, 10, .inl fun _ => 0)), (q4, .inl (cI, 5, .inl fun _ => 0)), (q5, .inl (cI, 5, .inl fun _ => 0)), (q6, .inl (cI, 20480, .inl fun _ => 0)), (q7, .inl (cI, 2, .inl fun _ => 0)), (q8, .inl (cI, 5, .inl fun _ => 0)), (q9, .inl (cI, 5, .inl fun _ => 0)), (q10, .inl (cZ, 32, .inl fun _ => 0)), (q11, .inl (cI, 32, .inl fun _ => 0)), (q12, .inl (cI, 1024, .inl fun _ => 0)), (q13, .inl (cI, 10, .inl fun _ => 0)), (q14, .inl (cI, 10240, .inl fun _ => 0)), (q15, .inl (cI, 60, .inl fun _ => 0)), (q16, .inl (cZ, 2, .inl fun _ => 0))] := hD
  refine va_putF (D := (dC, dI)) (ci := 7) (v := .ref q16) (ty := .array .boolean) (C := RX7) (T := TX7) (N := 18) hx hb hts in_own tyX7 tyX7_ok nmX7 hown hK hP hD hS 0 rfl rfl 17 (by decide) (tt 21 _ rfl) (fun _ h9 => h9) rfl hin rfl (tyX7_ok 17 (by decide)) rfl rfl (Nat.le_of_ble_eq_true rfl) dX7_init_126 (fun H locs hP hD hS => ?_)
  have hP : va_P (dC, dI) vwCl [(h0, .inr (7, [.int 0, .ref q1, .ref q2, .ref q3, .ref q4, .ref q5, .ref q6, .ref q7, .int 0, .ref q8, .ref q9, .ref q10, .ref q11, .ref q12, .ref q13, .ref q14, .ref q15, .ref q16])), (q1, .inl (cI, 40, .inl fun _ => 0)), (q2, .inl (cI, 10, .inl fun _ => 0)), (q3, .inl (cI, 10, .inl fun _ => 0)), (q4, .inl (cI, 5, .inl fun _ => 0)), (q5, .inl (cI, 5, .inl fun _ => 0)), (q6, .inl (cI, 20480, .inl fun _ => 0)), (q7, .inl (cI, 2, .inl fun _ => 0)), (q8, .inl (cI, 5, .inl fun _ => 0)), (q9, .inl (cI, 5, .inl fun _ => 0)), (q10, .inl (cZ, 32, .inl fun _ => 0)), (q11, .inl (cI, 32, .inl fun _ => 0)), (q12, .inl (cI, 1024, .inl fun _ => 0)), (q13, .inl (cI, 10, .inl fun _ => 0)), (q14, .inl (cI, 10240, .inl fun _ => 0)), (q15, .inl (cI, 60, .inl fun _ => 0)), (q16, .inl (cZ, 2, .inl fun _ => 0))] H := hP
  have hD : va_D A [(h0, .inr (7, [.int 0, .ref q1, .ref q2, .ref q3, .ref q4, .ref q5, .ref q6, .ref q7, .int 0, .ref q8, .ref q9, .ref q10, .ref q11, .ref q12, .ref q13, .ref q14, .ref q15, .ref q16])), (q1, .inl (cI, 40, .inl fun _ => 0)), (q2, .inl (cI, 10, .inl fun _ => 0)), (q3, .inl (cI, 10, .inl fun _ => 0)), (q4, .inl (cI, 5, .inl fun _ => 0)), (q5, .inl (cI, 5, .inl fun _ => 0)), (q6, .inl (cI, 20480, .inl fun _ => 0)), (q7, .inl (cI, 2, .inl fun _ => 0)), (q8, .inl (cI, 5, .inl fun _ => 0)), (q9, .inl (cI, 5, .inl fun _ => 0)), (q10, .inl (cZ, 32, .inl fun _ => 0)), (q11, .inl (cI, 32, .inl fun _ => 0)), (q12, .inl (cI, 1024, .inl fun _ => 0)), (q13, .inl (cI, 10, .inl fun _ => 0)), (q14, .inl (cI, 10240, .inl fun _ => 0)), (q15, .inl (cI, 60, .inl fun _ => 0)), (q16, .inl (cZ, 2, .inl fun _ => 0))] := hD
  refine lv_iconst (v := 0) hx hb dX7_init_129 (by decide) ?_
  refine lv_istore_n (lv' := [(1, .int 0), (0, .ref h0)]) hx hb dX7_init_130 rfl hl (by decide) rfl (fun ls hl => ?_)
  refine lv_iload_n hx hb dX7_init_131 rfl (lv_at hl 0 rfl) ?_
  refine lv_iconst (v := 5) hx hb dX7_init_132 (by decide) ?_
  refine lv_icmp_ge (tgt := 159) hx hb dX7_init_133 (by decide) (fun c9 => absurd c9 (by decide)) (fun _ => ?_)
  refine lv_aload_n hx hb dX7_init_136 rfl (lv_at hl 1 rfl) ?_
  refine va_get (D := (dC, dI)) (ci := 7) (v := .ref q4) (C := RX7) (T := TX7) (N := 18) hx hb hts in_own hown hK hP 0 rfl rfl 4 (by decide) (tt 8 _ rfl) (fun _ h9 => h9) rfl dX7_init_137 ?_
  refine lv_iload_n hx hb dX7_init_140 rfl (lv_at hl 0 rfl) ?_
  refine lv_bipush (v := 63) hx hb dX7_init_141 (by decide) ?_
  refine va_iast hx hb hK hP hD hS 4 0 rfl rfl (vp_in_iff.mpr (by decide)) dX7_init_143 (fun H locs hP hD hS => ?_)
  have hP : va_P (dC, dI) vwCl [(h0, .inr (7, [.int 0, .ref q1, .ref q2, .ref q3, .ref q4, .ref q5, .ref q6, .ref q7, .int 0, .ref q8, .ref q9, .ref q10, .ref q11, .ref q12, .ref q13, .ref q14, .ref q15, .ref q16])), (q1, .inl (cI, 40, .inl fun _ => 0)), (q2, .inl (cI, 10, .inl fun _ => 0)), (q3, .inl (cI, 10, .inl fun _ => 0)), (q4, .inl (cI, 5, .inl (upd (fun _ => 0) (Int32.toNatClampNeg 0) 63))), (q5, .inl (cI, 5, .inl fun _ => 0)), (q6, .inl (cI, 20480, .inl fun _ => 0)), (q7, .inl (cI, 2, .inl fun _ => 0)), (q8, .inl (cI, 5, .inl fun _ => 0)), (q9, .inl (cI, 5, .inl fun _ => 0)), (q10, .inl (cZ, 32, .inl fun _ => 0)), (q11, .inl (cI, 32, .inl fun _ => 0)), (q12, .inl (cI, 1024, .inl fun _ => 0)), (q13, .inl (cI, 10, .inl fun _ => 0)), (q14, .inl (cI, 10240, .inl fun _ => 0)), (q15, .inl (cI, 60, .inl fun _ => 0)), (q16, .inl (cZ, 2, .inl fun _ => 0))] H := hP
  have hD : va_D A [(h0, .inr (7, [.int 0, .ref q1, .ref q2, .ref q3, .ref q4, .ref q5, .ref q6, .ref q7, .int 0, .ref q8, .ref q9, .ref q10, .ref q11, .ref q12, .ref q13, .ref q14, .ref q15, .ref q16])), (q1, .inl (cI, 40, .inl fun _ => 0)), (q2, .inl (cI, 10, .inl fun _ => 0)), (q3, .inl (cI, 10, .inl fun _ => 0)), (q4, .inl (cI, 5, .inl (upd (fun _ => 0) (Int32.toNatClampNeg 0) 63))), (q5, .inl (cI, 5, .inl fun _ => 0)), (q6, .inl (cI, 20480, .inl fun _ => 0)), (q7, .inl (cI, 2, .inl fun _ => 0)), (q8, .inl (cI, 5, .inl fun _ => 0)), (q9, .inl (cI, 5, .inl fun _ => 0)), (q10, .inl (cZ, 32, .inl fun _ => 0)), (q11, .inl (cI, 32, .inl fun _ => 0)), (q12, .inl (cI, 1024, .inl fun _ => 0)), (q13, .inl (cI, 10, .inl fun _ => 0)), (q14, .inl (cI, 10240, .inl fun _ => 0)), (q15, .inl (cI, 60, .inl fun _ => 0)), (q16, .inl (cZ, 2, .inl fun _ => 0))] := hD
  refine lv_aload_n hx hb dX7_init_144 rfl (lv_at hl 1 rfl) ?_
  refine va_get (D := (dC, dI)) (ci := 7) (v := .ref q5) (C := RX7) (T := TX7) (N := 18) hx hb hts in_own hown hK hP 0 rfl rfl 5 (by decide) (tt 9 _ rfl) (fun _ h9 => h9) rfl dX7_init_145 ?_
  refine lv_iload_n hx hb dX7_init_148 rfl (lv_at hl 0 rfl) ?_
  refine lv_sipush (v := 1023) hx hb dX7_init_149 (by decide) ?_
  refine va_iast hx hb hK hP hD hS 5 0 rfl rfl (vp_in_iff.mpr (by decide)) dX7_init_152 (fun H locs hP hD hS => ?_)
  have hP : va_P (dC, dI) vwCl [(h0, .inr (7, [.int 0, .ref q1, .ref q2, .ref q3, .ref q4, .ref q5, .ref q6, .ref q7, .int 0, .ref q8, .ref q9, .ref q10, .ref q11, .ref q12, .ref q13, .ref q14, .ref q15, .ref q16])), (q1, .inl (cI, 40, .inl fun _ => 0)), (q2, .inl (cI, 10, .inl fun _ => 0)), (q3, .inl (cI, 10, .inl fun _ => 0)), (q4, .inl (cI, 5, .inl (upd (fun _ => 0) (Int32.toNatClampNeg 0) 63))), (q5, .inl (cI, 5, .inl (upd (fun _ => 0) (Int32.toNatClampNeg 0) 1023))), (q6, .inl (cI, 20480, .inl fun _ => 0)), (q7, .inl (cI, 2, .inl fun _ => 0)), (q8, .inl (cI, 5, .inl fun _ => 0)), (q9, .inl (cI, 5, .inl fun _ => 0)), (q10, .inl (cZ, 32, .inl fun _ => 0)), (q11, .inl (cI, 32, .inl fun _ => 0)), (q12, .inl (cI, 1024, .inl fun _ => 0)), (q13, .inl (cI, 10, .inl fun _ => 0)), (q14, .inl (cI, 10240, .inl fun _ => 0)), (q15, .inl (cI, 60, .inl fun _ => 0)), (q16, .inl (cZ, 2, .inl fun _ => 0))] H := hP
  have hD : va_D A [(h0, .inr (7, [.int 0, .ref q1, .ref q2, .ref q3, .ref q4, .ref q5, .ref q6, .ref q7, .int 0, .ref q8, .ref q9, .ref q10, .ref q11, .ref q12, .ref q13, .ref q14, .ref q15, .ref q16])), (q1, .inl (cI, 40, .inl fun _ => 0)), (q2, .inl (cI, 10, .inl fun _ => 0)), (q3, .inl (cI, 10, .inl fun _ => 0)), (q4, .inl (cI, 5, .inl (upd (fun _ => 0) (Int32.toNatClampNeg 0) 63))), (q5, .inl (cI, 5, .inl (upd (fun _ => 0) (Int32.toNatClampNeg 0) 1023))), (q6, .inl (cI, 20480, .inl fun _ => 0)), (q7, .inl (cI, 2, .inl fun _ => 0)), (q8, .inl (cI, 5, .inl fun _ => 0)), (q9, .inl (cI, 5, .inl fun _ => 0)), (q10, .inl (cZ, 32, .inl fun _ => 0)), (q11, .inl (cI, 32, .inl fun _ => 0)), (q12, .inl (cI, 1024, .inl fun _ => 0)), (q13, .inl (cI, 10, .inl fun _ => 0)), (q14, .inl (cI, 10240, .inl fun _ => 0)), (q15, .inl (cI, 60, .inl fun _ => 0)), (q16, .inl (cZ, 2, .inl fun _ => 0))] := hD
  refine lv_iinc (v := 1) (lv' := [(1, .int 1), (0, .ref h0)]) hx hb dX7_init_153 hl (k := 0) rfl (by decide) (by decide) rfl (fun ls hl => ?_)
  refine lv_goto (tgt := 131) hx hb dX7_init_156 (by decide) ?_
  refine lv_iload_n hx hb dX7_init_131 rfl (lv_at hl 0 rfl) ?_
  refine lv_iconst (v := 5) hx hb dX7_init_132 (by decide) ?_
  refine lv_icmp_ge (tgt := 159) hx hb dX7_init_133 (by decide) (fun c9 => absurd c9 (by decide)) (fun _ => ?_)
  refine lv_aload_n hx hb dX7_init_136 rfl (lv_at hl 1 rfl) ?_
  refine va_get (D := (dC, dI)) (ci := 7) (v := .ref q4) (C := RX7) (T := TX7) (N := 18) hx hb hts in_own hown hK hP 0 rfl rfl 4 (by decide) (tt 8 _ rfl) (fun _ h9 => h9) rfl dX7_init_137 ?_
  refine lv_iload_n hx hb dX7_init_140 rfl (lv_at hl 0 rfl) ?_
  refine lv_bipush (v := 63) hx hb dX7_init_141 (by decide) ?_
  refine va_iast hx hb hK hP hD hS 4 0 rfl rfl (vp_in_iff.mpr (by decide)) dX7_init_143 (fun H locs hP hD hS => ?_)
  have hP : va_P (dC, dI) vwCl [(h0, .inr (7, [.int 0, .ref q1, .ref q2, .ref q3, .ref q4, .ref q5, .ref q6, .ref q7, .int 0, .ref q8, .ref q9, .ref q10, .ref q11, .ref q12, .ref q13, .ref q14, .ref q15, .ref q16])), (q1, .inl (cI, 40, .inl fun _ => 0)), (q2, .inl (cI, 10, .inl fun _ => 0)), (q3, .inl (cI, 10, .inl fun _ => 0)), (q4, .inl (cI, 5, .inl (upd ((upd (fun _ => 0) (Int32.toNatClampNeg 0) 63)) (Int32.toNatClampNeg 1) 63))), (q5, .inl (cI, 5, .inl (upd (fun _ => 0) (Int32.toNatClampNeg 0) 1023))), (q6, .inl (cI, 20480, .inl fun _ => 0)), (q7, .inl (cI, 2, .inl fun _ => 0)), (q8, .inl (cI, 5, .inl fun _ => 0)), (q9, .inl (cI, 5, .inl fun _ => 0)), (q10, .inl (cZ, 32, .inl fun _ => 0)), (q11, .inl (cI, 32, .inl fun _ => 0)), (q12, .inl (cI, 1024, .inl fun _ => 0)), (q13, .inl (cI, 10, .inl fun _ => 0)), (q14, .inl (cI, 10240, .inl fun _ => 0)), (q15, .inl (cI, 60, .inl fun _ => 0)), (q16, .inl (cZ, 2, .inl fun _ => 0))] H := hP
  have hD : va_D A [(h0, .inr (7, [.int 0, .ref q1, .ref q2, .ref q3, .ref q4, .ref q5, .ref q6, .ref q7, .int 0, .ref q8, .ref q9, .ref q10, .ref q11, .ref q12, .ref q13, .ref q14, .ref q15, .ref q16])), (q1, .inl (cI, 40, .inl fun _ => 0)), (q2, .inl (cI, 10, .inl fun _ => 0)), (q3, .inl (cI, 10, .inl fun _ => 0)), (q4, .inl (cI, 5, .inl (upd ((upd (fun _ => 0) (Int32.toNatClampNeg 0) 63)) (Int32.toNatClampNeg 1) 63))), (q5, .inl (cI, 5, .inl (upd (fun _ => 0) (Int32.toNatClampNeg 0) 1023))), (q6, .inl (cI, 20480, .inl fun _ => 0)), (q7, .inl (cI, 2, .inl fun _ => 0)), (q8, .inl (cI, 5, .inl fun _ => 0)), (q9, .inl (cI, 5, .inl fun _ => 0)), (q10, .inl (cZ, 32, .inl fun _ => 0)), (q11, .inl (cI, 32, .inl fun _ => 0)), (q12, .inl (cI, 1024, .inl fun _ => 0)), (q13, .inl (cI, 10, .inl fun _ => 0)), (q14, .inl (cI, 10240, .inl fun _ => 0)), (q15, .inl (cI, 60, .inl fun _ => 0)), (q16, .inl (cZ, 2, .inl fun _ => 0))] := hD
  refine lv_aload_n hx hb dX7_init_144 rfl (lv_at hl 1 rfl) ?_
  refine va_get (D := (dC, dI)) (ci := 7) (v := .ref q5) (C := RX7) (T := TX7) (N := 18) hx hb hts in_own hown hK hP 0 rfl rfl 5 (by decide) (tt 9 _ rfl) (fun _ h9 => h9) rfl dX7_init_145 ?_
  refine lv_iload_n hx hb dX7_init_148 rfl (lv_at hl 0 rfl) ?_
  refine lv_sipush (v := 1023) hx hb dX7_init_149 (by decide) ?_
  refine va_iast hx hb hK hP hD hS 5 0 rfl rfl (vp_in_iff.mpr (by decide)) dX7_init_152 (fun H locs hP hD hS => ?_)
  have hP : va_P (dC, dI) vwCl [(h0, .inr (7, [.int 0, .ref q1, .ref q2, .ref q3, .ref q4, .ref q5, .ref q6, .ref q7, .int 0, .ref q8, .ref q9, .ref q10, .ref q11, .ref q12, .ref q13, .ref q14, .ref q15, .ref q16])), (q1, .inl (cI, 40, .inl fun _ => 0)), (q2, .inl (cI, 10, .inl fun _ => 0)), (q3, .inl (cI, 10, .inl fun _ => 0)), (q4, .inl (cI, 5, .inl (upd ((upd (fun _ => 0) (Int32.toNatClampNeg 0) 63)) (Int32.toNatClampNeg 1) 63))), (q5, .inl (cI, 5, .inl (upd ((upd (fun _ => 0) (Int32.toNatClampNeg 0) 1023)) (Int32.toNatClampNeg 1) 1023))), (q6, .inl (cI, 20480, .inl fun _ => 0)), (q7, .inl (cI, 2, .inl fun _ => 0)), (q8, .inl (cI, 5, .inl fun _ => 0)), (q9, .inl (cI, 5, .inl fun _ => 0)), (q10, .inl (cZ, 32, .inl fun _ => 0)), (q11, .inl (cI, 32, .inl fun _ => 0)), (q12, .inl (cI, 1024, .inl fun _ => 0)), (q13, .inl (cI, 10, .inl fun _ => 0)), (q14, .inl (cI, 10240, .inl fun _ => 0)), (q15, .inl (cI, 60, .inl fun _ => 0)), (q16, .inl (cZ, 2, .inl fun _ => 0))] H := hP
  have hD : va_D A [(h0, .inr (7, [.int 0, .ref q1, .ref q2, .ref q3, .ref q4, .ref q5, .ref q6, .ref q7, .int 0, .ref q8, .ref q9, .ref q10, .ref q11, .ref q12, .ref q13, .ref q14, .ref q15, .ref q16])), (q1, .inl (cI, 40, .inl fun _ => 0)), (q2, .inl (cI, 10, .inl fun _ => 0)), (q3, .inl (cI, 10, .inl fun _ => 0)), (q4, .inl (cI, 5, .inl (upd ((upd (fun _ => 0) (Int32.toNatClampNeg 0) 63)) (Int32.toNatClampNeg 1) 63))), (q5, .inl (cI, 5, .inl (upd ((upd (fun _ => 0) (Int32.toNatClampNeg 0) 1023)) (Int32.toNatClampNeg 1) 1023))), (q6, .inl (cI, 20480, .inl fun _ => 0)), (q7, .inl (cI, 2, .inl fun _ => 0)), (q8, .inl (cI, 5, .inl fun _ => 0)), (q9, .inl (cI, 5, .inl fun _ => 0)), (q10, .inl (cZ, 32, .inl fun _ => 0)), (q11, .inl (cI, 32, .inl fun _ => 0)), (q12, .inl (cI, 1024, .inl fun _ => 0)), (q13, .inl (cI, 10, .inl fun _ => 0)), (q14, .inl (cI, 10240, .inl fun _ => 0)), (q15, .inl (cI, 60, .inl fun _ => 0)), (q16, .inl (cZ, 2, .inl fun _ => 0))] := hD
  refine lv_iinc (v := 2) (lv' := [(1, .int 2), (0, .ref h0)]) hx hb dX7_init_153 hl (k := 0) rfl (by decide) (by decide) rfl (fun ls hl => ?_)
  refine lv_goto (tgt := 131) hx hb dX7_init_156 (by decide) ?_
  refine lv_iload_n hx hb dX7_init_131 rfl (lv_at hl 0 rfl) ?_
  refine lv_iconst (v := 5) hx hb dX7_init_132 (by decide) ?_
  refine lv_icmp_ge (tgt := 159) hx hb dX7_init_133 (by decide) (fun c9 => absurd c9 (by decide)) (fun _ => ?_)
  refine lv_aload_n hx hb dX7_init_136 rfl (lv_at hl 1 rfl) ?_
  refine va_get (D := (dC, dI)) (ci := 7) (v := .ref q4) (C := RX7) (T := TX7) (N := 18) hx hb hts in_own hown hK hP 0 rfl rfl 4 (by decide) (tt 8 _ rfl) (fun _ h9 => h9) rfl dX7_init_137 ?_
  refine lv_iload_n hx hb dX7_init_140 rfl (lv_at hl 0 rfl) ?_
  refine lv_bipush (v := 63) hx hb dX7_init_141 (by decide) ?_
  refine va_iast hx hb hK hP hD hS 4 0 rfl rfl (vp_in_iff.mpr (by decide)) dX7_init_143 (fun H locs hP hD hS => ?_)
  have hP : va_P (dC, dI) vwCl [(h0, .inr (7, [.int 0, .ref q1, .ref q2, .ref q3, .ref q4, .ref q5, .ref q6, .ref q7, .int 0, .ref q8, .ref q9, .ref q10, .ref q11, .ref q12, .ref q13, .ref q14, .ref q15, .ref q16])), (q1, .inl (cI, 40, .inl fun _ => 0)), (q2, .inl (cI, 10, .inl fun _ => 0)), (q3, .inl (cI, 10, .inl fun _ => 0)), (q4, .inl (cI, 5, .inl (upd ((upd ((upd (fun _ => 0) (Int32.toNatClampNeg 0) 63)) (Int32.toNatClampNeg 1) 63)) (Int32.toNatClampNeg 2) 63))), (q5, .inl (cI, 5, .inl (upd ((upd (fun _ => 0) (Int32.toNatClampNeg 0) 1023)) (Int32.toNatClampNeg 1) 1023))), (q6, .inl (cI, 20480, .inl fun _ => 0)), (q7, .inl (cI, 2, .inl fun _ => 0)), (q8, .inl (cI, 5, .inl fun _ => 0)), (q9, .inl (cI, 5, .inl fun _ => 0)), (q10, .inl (cZ, 32, .inl fun _ => 0)), (q11, .inl (cI, 32, .inl fun _ => 0)), (q12, .inl (cI, 1024, .inl fun _ => 0)), (q13, .inl (cI, 10, .inl fun _ => 0)), (q14, .inl (cI, 10240, .inl fun _ => 0)), (q15, .inl (cI, 60, .inl fun _ => 0)), (q16, .inl (cZ, 2, .inl fun _ => 0))] H := hP
  have hD : va_D A [(h0, .inr (7, [.int 0, .ref q1, .ref q2, .ref q3, .ref q4, .ref q5, .ref q6, .ref q7, .int 0, .ref q8, .ref q9, .ref q10, .ref q11, .ref q12, .ref q13, .ref q14, .ref q15, .ref q16])), (q1, .inl (cI, 40, .inl fun _ => 0)), (q2, .inl (cI, 10, .inl fun _ => 0)), (q3, .inl (cI, 10, .inl fun _ => 0)), (q4, .inl (cI, 5, .inl (upd ((upd ((upd (fun _ => 0) (Int32.toNatClampNeg 0) 63)) (Int32.toNatClampNeg 1) 63)) (Int32.toNatClampNeg 2) 63))), (q5, .inl (cI, 5, .inl (upd ((upd (fun _ => 0) (Int32.toNatClampNeg 0) 1023)) (Int32.toNatClampNeg 1) 1023))), (q6, .inl (cI, 20480, .inl fun _ => 0)), (q7, .inl (cI, 2, .inl fun _ => 0)), (q8, .inl (cI, 5, .inl fun _ => 0)), (q9, .inl (cI, 5, .inl fun _ => 0)), (q10, .inl (cZ, 32, .inl fun _ => 0)), (q11, .inl (cI, 32, .inl fun _ => 0)), (q12, .inl (cI, 1024, .inl fun _ => 0)), (q13, .inl (cI, 10, .inl fun _ => 0)), (q14, .inl (cI, 10240, .inl fun _ => 0)), (q15, .inl (cI, 60, .inl fun _ => 0)), (q16, .inl (cZ, 2, .inl fun _ => 0))] := hD
  refine lv_aload_n hx hb dX7_init_144 rfl (lv_at hl 1 rfl) ?_
  refine va_get (D := (dC, dI)) (ci := 7) (v := .ref q5) (C := RX7) (T := TX7) (N := 18) hx hb hts in_own hown hK hP 0 rfl rfl 5 (by decide) (tt 9 _ rfl) (fun _ h9 => h9) rfl dX7_init_145 ?_
  refine lv_iload_n hx hb dX7_init_148 rfl (lv_at hl 0 rfl) ?_
  refine lv_sipush (v := 1023) hx hb dX7_init_149 (by decide) ?_
  refine va_iast hx hb hK hP hD hS 5 0 rfl rfl (vp_in_iff.mpr (by decide)) dX7_init_152 (fun H locs hP hD hS => ?_)
  have hP : va_P (dC, dI) vwCl [(h0, .inr (7, [.int 0, .ref q1, .ref q2, .ref q3, .ref q4, .ref q5, .ref q6, .ref q7, .int 0, .ref q8, .ref q9, .ref q10, .ref q11, .ref q12, .ref q13, .ref q14, .ref q15, .ref q16])), (q1, .inl (cI, 40, .inl fun _ => 0)), (q2, .inl (cI, 10, .inl fun _ => 0)), (q3, .inl (cI, 10, .inl fun _ => 0)), (q4, .inl (cI, 5, .inl (upd ((upd ((upd (fun _ => 0) (Int32.toNatClampNeg 0) 63)) (Int32.toNatClampNeg 1) 63)) (Int32.toNatClampNeg 2) 63))), (q5, .inl (cI, 5, .inl (upd ((upd ((upd (fun _ => 0) (Int32.toNatClampNeg 0) 1023)) (Int32.toNatClampNeg 1) 1023)) (Int32.toNatClampNeg 2) 1023))), (q6, .inl (cI, 20480, .inl fun _ => 0)), (q7, .inl (cI, 2, .inl fun _ => 0)), (q8, .inl (cI, 5, .inl fun _ => 0)), (q9, .inl (cI, 5, .inl fun _ => 0)), (q10, .inl (cZ, 32, .inl fun _ => 0)), (q11, .inl (cI, 32, .inl fun _ => 0)), (q12, .inl (cI, 1024, .inl fun _ => 0)), (q13, .inl (cI, 10, .inl fun _ => 0)), (q14, .inl (cI, 10240, .inl fun _ => 0)), (q15, .inl (cI, 60, .inl fun _ => 0)), (q16, .inl (cZ, 2, .inl fun _ => 0))] H := hP
  have hD : va_D A [(h0, .inr (7, [.int 0, .ref q1, .ref q2, .ref q3, .ref q4, .ref q5, .ref q6, .ref q7, .int 0, .ref q8, .ref q9, .ref q10, .ref q11, .ref q12, .ref q13, .ref q14, .ref q15, .ref q16])), (q1, .inl (cI, 40, .inl fun _ => 0)), (q2, .inl (cI, 10, .inl fun _ => 0)), (q3, .inl (cI, 10, .inl fun _ => 0)), (q4, .inl (cI, 5, .inl (upd ((upd ((upd (fun _ => 0) (Int32.toNatClampNeg 0) 63)) (Int32.toNatClampNeg 1) 63)) (Int32.toNatClampNeg 2) 63))), (q5, .inl (cI, 5, .inl (upd ((upd ((upd (fun _ => 0) (Int32.toNatClampNeg 0) 1023)) (Int32.toNatClampNeg 1) 1023)) (Int32.toNatClampNeg 2) 1023))), (q6, .inl (cI, 20480, .inl fun _ => 0)), (q7, .inl (cI, 2, .inl fun _ => 0)), (q8, .inl (cI, 5, .inl fun _ => 0)), (q9, .inl (cI, 5, .inl fun _ => 0)), (q10, .inl (cZ, 32, .inl fun _ => 0)), (q11, .inl (cI, 32, .inl fun _ => 0)), (q12, .inl (cI, 1024, .inl fun _ => 0)), (q13, .inl (cI, 10, .inl fun _ => 0)), (q14, .inl (cI, 10240, .inl fun _ => 0)), (q15, .inl (cI, 60, .inl fun _ => 0)), (q16, .inl (cZ, 2, .inl fun _ => 0))] := hD
  refine lv_iinc (v := 3) (lv' := [(1, .int 3), (0, .ref h0)]) hx hb dX7_init_153 hl (k := 0) rfl (by decide) (by decide) rfl (fun ls hl => ?_)
  refine lv_goto (tgt := 131) hx hb dX7_init_156 (by decide) ?_
  refine lv_iload_n hx hb dX7_init_131 rfl (lv_at hl 0 rfl) ?_
  refine lv_iconst (v := 5) hx hb dX7_init_132 (by decide) ?_
  refine lv_icmp_ge (tgt := 159) hx hb dX7_init_133 (by decide) (fun c9 => absurd c9 (by decide)) (fun _ => ?_)
  refine lv_aload_n hx hb dX7_init_136 rfl (lv_at hl 1 rfl) ?_
  refine va_get (D := (dC, dI)) (ci := 7) (v := .ref q4) (C := RX7) (T := TX7) (N := 18) hx hb hts in_own hown hK hP 0 rfl rfl 4 (by decide) (tt 8 _ rfl) (fun _ h9 => h9) rfl dX7_init_137 ?_
  refine lv_iload_n hx hb dX7_init_140 rfl (lv_at hl 0 rfl) ?_
  refine lv_bipush (v := 63) hx hb dX7_init_141 (by decide) ?_
  refine va_iast hx hb hK hP hD hS 4 0 rfl rfl (vp_in_iff.mpr (by decide)) dX7_init_143 (fun H locs hP hD hS => ?_)
  have hP : va_P (dC, dI) vwCl [(h0, .inr (7, [.int 0, .ref q1, .ref q2, .ref q3, .ref q4, .ref q5, .ref q6, .ref q7, .int 0, .ref q8, .ref q9, .ref q10, .ref q11, .ref q12, .ref q13, .ref q14, .ref q15, .ref q16])), (q1, .inl (cI, 40, .inl fun _ => 0)), (q2, .inl (cI, 10, .inl fun _ => 0)), (q3, .inl (cI, 10, .inl fun _ => 0)), (q4, .inl (cI, 5, .inl (upd ((upd ((upd ((upd (fun _ => 0) (Int32.toNatClampNeg 0) 63)) (Int32.toNatClampNeg 1) 63)) (Int32.toNatClampNeg 2) 63)) (Int32.toNatClampNeg 3) 63))), (q5, .inl (cI, 5, .inl (upd ((upd ((upd (fun _ => 0) (Int32.toNatClampNeg 0) 1023)) (Int32.toNatClampNeg 1) 1023)) (Int32.toNatClampNeg 2) 1023))), (q6, .inl (cI, 20480, .inl fun _ => 0)), (q7, .inl (cI, 2, .inl fun _ => 0)), (q8, .inl (cI, 5, .inl fun _ => 0)), (q9, .inl (cI, 5, .inl fun _ => 0)), (q10, .inl (cZ, 32, .inl fun _ => 0)), (q11, .inl (cI, 32, .inl fun _ => 0)), (q12, .inl (cI, 1024, .inl fun _ => 0)), (q13, .inl (cI, 10, .inl fun _ => 0)), (q14, .inl (cI, 10240, .inl fun _ => 0)), (q15, .inl (cI, 60, .inl fun _ => 0)), (q16, .inl (cZ, 2, .inl fun _ => 0))] H := hP
  have hD : va_D A [(h0, .inr (7, [.int 0, .ref q1, .ref q2, .ref q3, .ref q4, .ref q5, .ref q6, .ref q7, .int 0, .ref q8, .ref q9, .ref q10, .ref q11, .ref q12, .ref q13, .ref q14, .ref q15, .ref q16])), (q1, .inl (cI, 40, .inl fun _ => 0)), (q2, .inl (cI, 10, .inl fun _ => 0)), (q3, .inl (cI, 10, .inl fun _ => 0)), (q4, .inl (cI, 5, .inl (upd ((upd ((upd ((upd (fun _ => 0) (Int32.toNatClampNeg 0) 63)) (Int32.toNatClampNeg 1) 63)) (Int32.toNatClampNeg 2) 63)) (Int32.toNatClampNeg 3) 63))), (q5, .inl (cI, 5, .inl (upd ((upd ((upd (fun _ => 0) (Int32.toNatClampNeg 0) 1023)) (Int32.toNatClampNeg 1) 1023)) (Int32.toNatClampNeg 2) 1023))), (q6, .inl (cI, 20480, .inl fun _ => 0)), (q7, .inl (cI, 2, .inl fun _ => 0)), (q8, .inl (cI, 5, .inl fun _ => 0)), (q9, .inl (cI, 5, .inl fun _ => 0)), (q10, .inl (cZ, 32, .inl fun _ => 0)), (q11, .inl (cI, 32, .inl fun _ => 0)), (q12, .inl (cI, 1024, .inl fun _ => 0)), (q13, .inl (cI, 10, .inl fun _ => 0)), (q14, .inl (cI, 10240, .inl fun _ => 0)), (q15, .inl (cI, 60, .inl fun _ => 0)), (q16, .inl (cZ, 2, .inl fun _ => 0))] := hD
  refine lv_aload_n hx hb dX7_init_144 rfl (lv_at hl 1 rfl) ?_
  refine va_get (D := (dC, dI)) (ci := 7) (v := .ref q5) (C := RX7) (T := TX7) (N := 18) hx hb hts in_own hown hK hP 0 rfl rfl 5 (by decide) (tt 9 _ rfl) (fun _ h9 => h9) rfl dX7_init_145 ?_
  refine lv_iload_n hx hb dX7_init_148 rfl (lv_at hl 0 rfl) ?_
  refine lv_sipush (v := 1023) hx hb dX7_init_149 (by decide) ?_
  refine va_iast hx hb hK hP hD hS 5 0 rfl rfl (vp_in_iff.mpr (by decide)) dX7_init_152 (fun H locs hP hD hS => ?_)
  have hP : va_P (dC, dI) vwCl [(h0, .inr (7, [.int 0, .ref q1, .ref q2, .ref q3, .ref q4, .ref q5, .ref q6, .ref q7, .int 0, .ref q8, .ref q9, .ref q10, .ref q11, .ref q12, .ref q13, .ref q14, .ref q15, .ref q16])), (q1, .inl (cI, 40, .inl fun _ => 0)), (q2, .inl (cI, 10, .inl fun _ => 0)), (q3, .inl (cI, 10, .inl fun _ => 0)), (q4, .inl (cI, 5, .inl (upd ((upd ((upd ((upd (fun _ => 0) (Int32.toNatClampNeg 0) 63)) (Int32.toNatClampNeg 1) 63)) (Int32.toNatClampNeg 2) 63)) (Int32.toNatClampNeg 3) 63))), (q5, .inl (cI, 5, .inl (upd ((upd ((upd ((upd (fun _ => 0) (Int32.toNatClampNeg 0) 1023)) (Int32.toNatClampNeg 1) 1023)) (Int32.toNatClampNeg 2) 1023)) (Int32.toNatClampNeg 3) 1023))), (q6, .inl (cI, 20480, .inl fun _ => 0)), (q7, .inl (cI, 2, .inl fun _ => 0)), (q8, .inl (cI, 5, .inl fun _ => 0)), (q9, .inl (cI, 5, .inl fun _ => 0)), (q10, .inl (cZ, 32, .inl fun _ => 0)), (q11, .inl (cI, 32, .inl fun _ => 0)), (q12, .inl (cI, 1024, .inl fun _ => 0)), (q13, .inl (cI, 10, .inl fun _ => 0)), (q14, .inl (cI, 10240, .inl fun _ => 0)), (q15, .inl (cI, 60, .inl fun _ => 0)), (q16, .inl (cZ, 2, .inl fun _ => 0))] H := hP
  have hD : va_D A [(h0, .inr (7, [.int 0, .ref q1, .ref q2, .ref q3, .ref q4, .ref q5, .ref q6, .ref q7, .int 0, .ref q8, .ref q9, .ref q10, .ref q11, .ref q12, .ref q13, .ref q14, .ref q15, .ref q16])), (q1, .inl (cI, 40, .inl fun _ => 0)), (q2, .inl (cI, 10, .inl fun _ => 0)), (q3, .inl (cI, 10, .inl fun _ => 0)), (q4, .inl (cI, 5, .inl (upd ((upd ((upd ((upd (fun _ => 0) (Int32.toNatClampNeg 0) 63)) (Int32.toNatClampNeg 1) 63)) (Int32.toNatClampNeg 2) 63)) (Int32.toNatClampNeg 3) 63))), (q5, .inl (cI, 5, .inl (upd ((upd ((upd ((upd (fun _ => 0) (Int32.toNatClampNeg 0) 1023)) (Int32.toNatClampNeg 1) 1023)) (Int32.toNatClampNeg 2) 1023)) (Int32.toNatClampNeg 3) 1023))), (q6, .inl (cI, 20480, .inl fun _ => 0)), (q7, .inl (cI, 2, .inl fun _ => 0)), (q8, .inl (cI, 5, .inl fun _ => 0)), (q9, .inl (cI, 5, .inl fun _ => 0)), (q10, .inl (cZ, 32, .inl fun _ => 0)), (q11, .inl (cI, 32, .inl fun _ => 0)), (q12, .inl (cI, 1024, .inl fun _ => 0)), (q13, .inl (cI, 10, .inl fun _ => 0)), (q14, .inl (cI, 10240, .inl fun _ => 0)), (q15, .inl (cI, 60, .inl fun _ => 0)), (q16, .inl (cZ, 2, .inl fun _ => 0))] := hD
  refine lv_iinc (v := 4) (lv' := [(1, .int 4), (0, .ref h0)]) hx hb dX7_init_153 hl (k := 0) rfl (by decide) (by decide) rfl (fun ls hl => ?_)
  refine lv_goto (tgt := 131) hx hb dX7_init_156 (by decide) ?_
  refine lv_iload_n hx hb dX7_init_131 rfl (lv_at hl 0 rfl) ?_
  refine lv_iconst (v := 5) hx hb dX7_init_132 (by decide) ?_
  refine lv_icmp_ge (tgt := 159) hx hb dX7_init_133 (by decide) (fun c9 => absurd c9 (by decide)) (fun _ => ?_)
  refine lv_aload_n hx hb dX7_init_136 rfl (lv_at hl 1 rfl) ?_
  refine va_get (D := (dC, dI)) (ci := 7) (v := .ref q4) (C := RX7) (T := TX7) (N := 18) hx hb hts in_own hown hK hP 0 rfl rfl 4 (by decide) (tt 8 _ rfl) (fun _ h9 => h9) rfl dX7_init_137 ?_
  refine lv_iload_n hx hb dX7_init_140 rfl (lv_at hl 0 rfl) ?_
  refine lv_bipush (v := 63) hx hb dX7_init_141 (by decide) ?_
  refine va_iast hx hb hK hP hD hS 4 0 rfl rfl (vp_in_iff.mpr (by decide)) dX7_init_143 (fun H locs hP hD hS => ?_)
  have hP : va_P (dC, dI) vwCl [(h0, .inr (7, [.int 0, .ref q1, .ref q2, .ref q3, .ref q4, .ref q5, .ref q6, .ref q7, .int 0, .ref q8, .ref q9, .ref q10, .ref q11, .ref q12, .ref q13, .ref q14, .ref q15, .ref q16])), (q1, .inl (cI, 40, .inl fun _ => 0)), (q2, .inl (cI, 10, .inl fun _ => 0)), (q3, .inl (cI, 10, .inl fun _ => 0)), (q4, .inl (cI, 5, .inl (upd ((upd ((upd ((upd ((upd (fun _ => 0) (Int32.toNatClampNeg 0) 63)) (Int32.toNatClampNeg 1) 63)) (Int32.toNatClampNeg 2) 63)) (Int32.toNatClampNeg 3) 63)) (Int32.toNatClampNeg 4) 63))), (q5, .inl (cI, 5, .inl (upd ((upd ((upd ((upd (fun _ => 0) (Int32.toNatClampNeg 0) 1023)) (Int32.toNatClampNeg 1) 1023)) (Int32.toNatClampNeg 2) 1023)) (Int32.toNatClampNeg 3) 1023))), (q6, .inl (cI, 20480, .inl fun _ => 0)), (q7, .inl (cI, 2, .inl fun _ => 0)), (q8, .inl (cI, 5, .inl fun _ => 0)), (q9, .inl (cI, 5, .inl fun _ => 0)), (q10, .inl (cZ, 32, .inl fun _ => 0)), (q11, .inl (cI, 32, .inl fun _ => 0)), (q12, .inl (cI, 1024, .inl fun _ => 0)), (q13, .inl (cI, 10, .inl fun _ => 0)), (q14, .inl (cI, 10240, .inl fun _ => 0)), (q15, .inl (cI, 60, .inl fun _ => 0)), (q16, .inl (cZ, 2, .inl fun _ => 0))] H := hP
  have hD : va_D A [(h0, .inr (7, [.int 0, .ref q1, .ref q2, .ref q3, .ref q4, .ref q5, .ref q6, .ref q7, .int 0, .ref q8, .ref q9, .ref q10, .ref q11, .ref q12, .ref q13, .ref q14, .ref q15, .ref q16])), (q1, .inl (cI, 40, .inl fun _ => 0)), (q2, .inl (cI, 10, .inl fun _ => 0)), (q3, .inl (cI, 10, .inl fun _ => 0)), (q4, .inl (cI, 5, .inl (upd ((upd ((upd ((upd ((upd (fun _ => 0) (Int32.toNatClampNeg 0) 63)) (Int32.toNatClampNeg 1) 63)) (Int32.toNatClampNeg 2) 63)) (Int32.toNatClampNeg 3) 63)) (Int32.toNatClampNeg 4) 63))), (q5, .inl (cI, 5, .inl (upd ((upd ((upd ((upd (fun _ => 0) (Int32.toNatClampNeg 0) 1023)) (Int32.toNatClampNeg 1) 1023)) (Int32.toNatClampNeg 2) 1023)) (Int32.toNatClampNeg 3) 1023))), (q6, .inl (cI, 20480, .inl fun _ => 0)), (q7, .inl (cI, 2, .inl fun _ => 0)), (q8, .inl (cI, 5, .inl fun _ => 0)), (q9, .inl (cI, 5, .inl fun _ => 0)), (q10, .inl (cZ, 32, .inl fun _ => 0)), (q11, .inl (cI, 32, .inl fun _ => 0)), (q12, .inl (cI, 1024, .inl fun _ => 0)), (q13, .inl (cI, 10, .inl fun _ => 0)), (q14, .inl (cI, 10240, .inl fun _ => 0)), (q15, .inl (cI, 60, .inl fun _ => 0)), (q16, .inl (cZ, 2, .inl fun _ => 0))] := hD
  refine lv_aload_n hx hb dX7_init_144 rfl (lv_at hl 1 rfl) ?_
  refine va_get (D := (dC, dI)) (ci := 7) (v := .ref q5) (C := RX7) (T := TX7) (N := 18) hx hb hts in_own hown hK hP 0 rfl rfl 5 (by decide) (tt 9 _ rfl) (fun _ h9 => h9) rfl dX7_init_145 ?_
  refine lv_iload_n hx hb dX7_init_148 rfl (lv_at hl 0 rfl) ?_
  refine lv_sipush (v := 1023) hx hb dX7_init_149 (by decide) ?_
  refine va_iast hx hb hK hP hD hS 5 0 rfl rfl (vp_in_iff.mpr (by decide)) dX7_init_152 (fun H locs hP hD hS => ?_)
  have hP : va_P (dC, dI) vwCl [(h0, .inr (7, [.int 0, .ref q1, .ref q2, .ref q3, .ref q4, .ref q5, .ref q6, .ref q7, .int 0, .ref q8, .ref q9, .ref q10, .ref q11, .ref q12, .ref q13, .ref q14, .ref q15, .ref q16])), (q1, .inl (cI, 40, .inl fun _ => 0)), (q2, .inl (cI, 10, .inl fun _ => 0)), (q3, .inl (cI, 10, .inl fun _ => 0)), (q4, .inl (cI, 5, .inl (upd ((upd ((upd ((upd ((upd (fun _ => 0) (Int32.toNatClampNeg 0) 63)) (Int32.toNatClampNeg 1) 63)) (Int32.toNatClampNeg 2) 63)) (Int32.toNatClampNeg 3) 63)) (Int32.toNatClampNeg 4) 63))), (q5, .inl (cI, 5, .inl (upd ((upd ((upd ((upd ((upd (fun _ => 0) (Int32.toNatClampNeg 0) 1023)) (Int32.toNatClampNeg 1) 1023)) (Int32.toNatClampNeg 2) 1023)) (Int32.toNatClampNeg 3) 1023)) (Int32.toNatClampNeg 4) 1023))), (q6, .inl (cI, 20480, .inl fun _ => 0)), (q7, .inl (cI, 2, .inl fun _ => 0)), (q8, .inl (cI, 5, .inl fun _ => 0)), (q9, .inl (cI, 5, .inl fun _ => 0)), (q10, .inl (cZ, 32, .inl fun _ => 0)), (q11, .inl (cI, 32, .inl fun _ => 0)), (q12, .inl (cI, 1024, .inl fun _ => 0)), (q13, .inl (cI, 10, .inl fun _ => 0)), (q14, .inl (cI, 10240, .inl fun _ => 0)), (q15, .inl (cI, 60, .inl fun _ => 0)), (q16, .inl (cZ, 2, .inl fun _ => 0))] H := hP
  have hD : va_D A [(h0, .inr (7, [.int 0, .ref q1, .ref q2, .ref q3, .ref q4, .ref q5, .ref q6, .ref q7, .int 0, .ref q8, .ref q9, .ref q10, .ref q11, .ref q12, .ref q13, .ref q14, .ref q15, .ref q16])), (q1, .inl (cI, 40, .inl fun _ => 0)), (q2, .inl (cI, 10, .inl fun _ => 0)), (q3, .inl (cI, 10, .inl fun _ => 0)), (q4, .inl (cI, 5, .inl (upd ((upd ((upd ((upd ((upd (fun _ => 0) (Int32.toNatClampNeg 0) 63)) (Int32.toNatClampNeg 1) 63)) (Int32.toNatClampNeg 2) 63)) (Int32.toNatClampNeg 3) 63)) (Int32.toNatClampNeg 4) 63))), (q5, .inl (cI, 5, .inl (upd ((upd ((upd ((upd ((upd (fun _ => 0) (Int32.toNatClampNeg 0) 1023)) (Int32.toNatClampNeg 1) 1023)) (Int32.toNatClampNeg 2) 1023)) (Int32.toNatClampNeg 3) 1023)) (Int32.toNatClampNeg 4) 1023))), (q6, .inl (cI, 20480, .inl fun _ => 0)), (q7, .inl (cI, 2, .inl fun _ => 0)), (q8, .inl (cI, 5, .inl fun _ => 0)), (q9, .inl (cI, 5, .inl fun _ => 0)), (q10, .inl (cZ, 32, .inl fun _ => 0)), (q11, .inl (cI, 32, .inl fun _ => 0)), (q12, .inl (cI, 1024, .inl fun _ => 0)), (q13, .inl (cI, 10, .inl fun _ => 0)), (q14, .inl (cI, 10240, .inl fun _ => 0)), (q15, .inl (cI, 60, .inl fun _ => 0)), (q16, .inl (cZ, 2, .inl fun _ => 0))] := hD
  refine lv_iinc (v := 5) (lv' := [(1, .int 5), (0, .ref h0)]) hx hb dX7_init_153 hl (k := 0) rfl (by decide) (by decide) rfl (fun ls hl => ?_)
  refine lv_goto (tgt := 131) hx hb dX7_init_156 (by decide) ?_
  refine lv_iload_n hx hb dX7_init_131 rfl (lv_at hl 0 rfl) ?_
  refine lv_iconst (v := 5) hx hb dX7_init_132 (by decide) ?_
  refine lv_icmp_ge (tgt := 159) hx hb dX7_init_133 (by decide) (fun _ => ?_) (fun c9 => absurd (by decide) c9)
  exact W.vret hx hb hr (fun t ht hW => ⟨⟨(), rfl, trivial, _, ⟨q1, q2, q3, q4, q5, q6, q7, q8, q9, q10, q11, q12, q13, q14, q15, q16, rfl⟩, by rw [ht]; exact hP, hD⟩, hS.F ht⟩) hS.2.2 dX7_init_159
