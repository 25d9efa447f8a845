set_option maxHeartbeats 4000000 in
set_option maxRecDepth 100000 in
theorem c_X6_has (l : Launch) (dC : Nat → ClassId) (dI : Nat → Nat → Nat) (ad : Nat → Nat) (cI cZ : ClassId) (hI : ob_inj shX ad) (d : Nat) (hd : 0 ≤ d) (g : Mm) (x0 x1 : Int32) (r : Int32) (hf : f_X6_has x0 x1 = some r) : ob_Mi l yX6_has wsX6_has d (dC, dI) vwCl shX ad cI cZ nwX [.int x0, .int x1] g r g := by
  refine ob_ofW (cc := cX6_has) (maxL := 2) (ret := (some .boolean)) (by decide) rfl ?_
  intro p e s m args below meth c ha hx hb hr hml hts hown hlocks hM0 hK hS0
  have hown : s.vm.findClass RX6 = some m.cls := hown
  subst ha
  have hl := lv_entry ([.int x0, .int x1]) (n := 2) (Nat.le_of_ble_eq_true rfl)
  rw [lg_entry_eq]
  generalize (lg_sl ([.int x0, .int x1]) ++ List.replicate (2 - (lg_sl ([.int x0, .int x1])).length) Slot.unset).toArray = ls at hl ⊢
  have hl : lv_has ls 2 [(0, .int x0), (1, .int x1)] := hl
  have hM := hM0
  have hS := hS0
  unfold f_X6_has at hf
  refine lv_iload_n hx hb dX6_has_0 rfl (lv_at hl 0 rfl) ?_
  refine lv_iload_n hx hb dX6_has_1 rfl (lv_at hl 1 rfl) ?_
  refine lv_ishr hx hb dX6_has_2 ?_
  refine lv_iconst (v := 1) hx hb dX6_has_3 (by decide) ?_
  refine lv_iand hx hb dX6_has_4 ?_
  refine lv_iconst (v := 1) hx hb dX6_has_5 (by decide) ?_
  refine lv_icmp_ne (tgt := 13) hx hb dX6_has_6 (by decide) (fun c1 => ?_) (fun c1 => ?_)
  · rw [if_neg c1] at hf
    refine lv_iconst (v := 0) hx hb dX6_has_13 (by decide) ?_
    exact ob_iretR hx hb hr hlocks hM hS (v := 0) rfl hf dX6_has_14
  · rw [if_pos c1] at hf
    refine lv_iconst (v := 1) hx hb dX6_has_9 (by decide) ?_
    refine lv_goto (tgt := 14) hx hb dX6_has_10 (by decide) ?_
    exact ob_iretR hx hb hr hlocks hM hS (v := 1) rfl hf dX6_has_14
set_option maxHeartbeats 4000000 in
set_option maxRecDepth 100000 in
theorem c_X6_step (l : Launch) (dC : Nat → ClassId) (dI : Nat → Nat → Nat) (ad : Nat → Nat) (cI cZ : ClassId) (hI : ob_inj shX ad) (d : Nat) (hd : 3 ≤ d) (g : Mm) (x1 x2 x3 : Int32) (r : Int32) (t : Mm) (hf : f_X6_step g x1 x2 x3 = some (r, t)) : ob_Mi l yX6_step wsX6_step d (dC, dI) vwCl shX ad cI cZ nwX [.ref (ad 0), .int x1, .int x2, .int x3] g r t := by
  refine ob_ofW (cc := cX6_step) (maxL := 5) (ret := (some .int)) (by decide) rfl ?_
  intro p e s m args below meth c ha hx hb hr hml hts hown hlocks hM0 hK hS0
  have hown : s.vm.findClass RX6 = some m.cls := hown
  have in_own : ∀ w ∈ wsX60, w ∈ wsX6_step := fun w h => (List.mem_cons_of_mem _ (List.mem_append_left _ (List.mem_append_right _ h)))
  have hf_19 := hts (.fieldLink RX6 19 "OneWorse" "town" "LOneWorse$Town;") (List.mem_cons_of_mem _ (List.mem_append_left _ (List.mem_append_left _ (List.mem_of_getElem? (i := 0) rfl))))
  have hi_X4 := hts (.initialized RX4) (List.mem_cons_of_mem _ (List.mem_append_left _ (List.mem_append_left _ (List.mem_of_getElem? (i := 9) rfl))))
  have hin_X4_worseThan := hts (.instanceMethod yX4_worseThan) (List.mem_cons_of_mem _ (List.mem_append_left _ (List.mem_append_left _ (List.mem_of_getElem? (i := 8) rfl))))
  have hse_X4_worseThan := hts (.selects RX4 yX4_worseThan yX4_worseThan) (List.mem_cons_of_mem _ (List.mem_append_left _ (List.mem_append_left _ (List.mem_of_getElem? (i := 10) rfl))))
  have hin_X4_setStep := hts (.instanceMethod yX4_setStep) (List.mem_cons_of_mem _ (List.mem_append_left _ (List.mem_append_left _ (List.mem_of_getElem? (i := 18) rfl))))
  have hse_X4_setStep := hts (.selects RX4 yX4_setStep yX4_setStep) (List.mem_cons_of_mem _ (List.mem_append_left _ (List.mem_append_left _ (List.mem_of_getElem? (i := 19) rfl))))
  have w_41 : ∀ (g : Mm) (x1 x2 x3 s0 : Int32) (H : Heap) (locs : List Loc), va_P (dC, dI) vwCl (ob_ws shX ad cI cZ g) H → va_S (ob_A shX ad) s.heap H locs → ∀ (ls : Array Slot), lv_has ls 5 [(0, .ref (ad 0)), (1, .int x1), (2, .int x2), (3, .int x3)] → f_X6_step_J41 g x1 x2 x3 s0 = some (r, t) → W p l e (rmN d) s m args below meth c H locs 0 0 (MQ below (ob_Qi (dC, dI) vwCl shX ad cI cZ r t) args s 0 0 (ob_A shX ad)) (F0 m 41 ls [.int s0]) := by
    intro g x1 x2 x3 s0 H locs hM hS ls hl hf
    unfold f_X6_step_J41 at hf
    refine lv_istore (lv' := [(4, .int s0), (0, .ref (ad 0)), (1, .int x1), (2, .int x2), (3, .int x3)]) hx hb dX6_step_41 hl (by decide) rfl (fun ls hl => ?_)
    refine lv_aload_n hx hb dX6_step_43 rfl (lv_at hl 1 rfl) ?_
    refine ob_gr (j := 2) hx hb hts in_own hown hK hM (q := 0) shX_0 (C := RX6) (T := TX6) (N := 8) rfl 1 (by decide) hf_19 rfl dX6_step_44 ?_
    refine lv_iload_n hx hb dX6_step_47 rfl (lv_at hl 2 rfl) ?_
    refine lv_iload_n hx hb dX6_step_48 rfl (lv_at hl 3 rfl) ?_
    refine lv_iload_n hx hb dX6_step_49 rfl (lv_at hl 4 rfl) ?_
    obtain ⟨g9, e9, hf⟩ := ob_e1 hf
    refine ob_callv (va_runVN (As := [.int x1, .int x2, .int x3]) (rest := []) ⟨hx, hb, hml, hown, hts⟩ (c_X4_setStep l dC dI ad cI cZ hI 2 (Nat.le_refl _) 2 isTown_2 g x1 x2 x3  g9 e9) ⟨va_cnB 3 hts gX6_step_X4_setStep_n91 rfl rfl rfl (ob_nl hK nw_X6_91) hi_X4 hd_X4_setStep (ob_R (Nat.le_trans (by decide) hd) (by decide)), hin_X4_setStep, hse_X4_setStep⟩ (ob_preV hK hM (q := 2) shX_2 rfl) rfl rfl hl.1 rfl (lv_room (Nat.le_of_ble_eq_true rfl)) dX6_step_50 ⟨Nat.le_refl _, Nat.le_refl _⟩) hS (fun H locs hM hS => ?_)
    refine lv_iload hx hb dX6_step_53 (lv_at hl 0 rfl) ?_
    exact ob_iret hx hb hr hlocks hM hS (v := s0) rfl hf dX6_step_55
  subst ha
  have hl := lv_entry ([.ref (ad 0), .int x1, .int x2, .int x3]) (n := 5) (Nat.le_of_ble_eq_true rfl)
  rw [lg_entry_eq]
  generalize (lg_sl ([.ref (ad 0), .int x1, .int x2, .int x3]) ++ List.replicate (5 - (lg_sl ([.ref (ad 0), .int x1, .int x2, .int x3])).length) Slot.unset).toArray = ls at hl ⊢
  have hl : lv_has ls 5 [(0, .ref (ad 0)), (1, .int x1), (2, .int x2), (3, .int x3)] := hl
  have hM := hM0
  have hS := hS0
  unfold f_X6_step at hf
  refine lv_iload_n hx hb dX6_step_0 rfl (lv_at hl 1 rfl) ?_
  obtain ⟨v1, e1, hf⟩ := ob_e1 hf
  refine ob_calli (va_runS (As := [.int x1]) (rest := []) ⟨hx, hb, hml, hown, hts⟩ (c_X6_isInsult l dC dI ad cI cZ hI 1 (Nat.le_refl _) g x1  v1 e1) (va_cwS 1 hts gX6_step_X6_isInsult rfl rfl rfl hd_X6_isInsult (ob_R (Nat.le_trans (by decide) hd) (by decide))) (ob_preS hK hM) rfl rfl hl.1 rfl (lv_room (Nat.le_of_ble_eq_true rfl)) dX6_step_1 ⟨Nat.le_refl _, Nat.le_refl _⟩) hS (fun H locs hM hS => ?_)
  refine lv_if_eq (tgt := 19) hx hb dX6_step_4 (by decide) (fun c2 => ?_) (fun c2 => ?_)
  · rw [if_pos c2] at hf
    refine lv_iconst (v := (-1)) hx hb dX6_step_19 (by decide) ?_
    exact ob_iret hx hb hr hlocks hM hS (v := (-1)) rfl hf dX6_step_20
  · rw [if_neg c2] at hf
    refine lv_iload_n hx hb dX6_step_7 rfl (lv_at hl 2 rfl) ?_
    obtain ⟨v3, e3, hf⟩ := ob_e1 hf
    refine ob_calli (va_runS (As := [.int x2]) (rest := []) ⟨hx, hb, hml, hown, hts⟩ (c_X6_isInsult l dC dI ad cI cZ hI 1 (Nat.le_refl _) g x2  v3 e3) (va_cwS 1 hts gX6_step_X6_isInsult rfl rfl rfl hd_X6_isInsult (ob_R (Nat.le_trans (by decide) hd) (by decide))) (ob_preS hK hM) rfl rfl hl.1 rfl (lv_room (Nat.le_of_ble_eq_true rfl)) dX6_step_8 ⟨Nat.le_refl _, Nat.le_refl _⟩) hS (fun H locs hM hS => ?_)
    refine lv_if_eq (tgt := 19) hx hb dX6_step_11 (by decide) (fun c4 => ?_) (fun c4 => ?_)
    · rw [if_pos c4] at hf
      refine lv_iconst (v := (-1)) hx hb dX6_step_19 (by decide) ?_
      exact ob_iret hx hb hr hlocks hM hS (v := (-1)) rfl hf dX6_step_20
    · rw [if_neg c4] at hf
      refine lv_iload_n hx hb dX6_step_14 rfl (lv_at hl 1 rfl) ?_
      refine lv_iload_n hx hb dX6_step_15 rfl (lv_at hl 2 rfl) ?_
      refine lv_icmp_ne (tgt := 21) hx hb dX6_step_16 (by decide) (fun c5 => ?_) (fun c5 => ?_)
      · rw [if_neg c5] at hf
        refine lv_aload_n hx hb dX6_step_21 rfl (lv_at hl 0 rfl) ?_
        refine ob_gr (j := 2) hx hb hts in_own hown hK hM (q := 0) shX_0 (C := RX6) (T := TX6) (N := 8) rfl 1 (by decide) hf_19 rfl dX6_step_22 ?_
        refine lv_iload_n hx hb dX6_step_25 rfl (lv_at hl 1 rfl) ?_
        obtain ⟨v6, e6, hf⟩ := ob_e1 hf
        refine ob_calli (va_runVN (As := [.int x1]) (rest := []) ⟨hx, hb, hml, hown, hts⟩ (c_X4_worseThan l dC dI ad cI cZ hI 1 (Nat.le_refl _) 2 isTown_2 g x1  v6 e6) ⟨va_cnB 1 hts gX6_step_X4_worseThan_n102 rfl rfl rfl (ob_nl hK nw_X6_102) hi_X4 hd_X4_worseThan (ob_R (Nat.le_trans (by decide) hd) (by decide)), hin_X4_worseThan, hse_X4_worseThan⟩ (ob_preV hK hM (q := 2) shX_2 rfl) rfl rfl hl.1 rfl (lv_room (Nat.le_of_ble_eq_true rfl)) dX6_step_26 ⟨Nat.le_refl _, Nat.le_refl _⟩) hS (fun H locs hM hS => ?_)
        refine lv_iload_n hx hb dX6_step_29 rfl (lv_at hl 2 rfl) ?_
        obtain ⟨v7, e7, hf⟩ := ob_e1 hf
        refine ob_calli (va_runS (As := [.int v6, .int x2]) (rest := []) ⟨hx, hb, hml, hown, hts⟩ (c_X6_has l dC dI ad cI cZ hI 0 (Nat.le_refl _) g v6 x2  v7 e7) (va_cwS 2 hts gX6_step_X6_has rfl rfl rfl hd_X6_has (ob_R (Nat.le_trans (by decide) hd) (by decide))) (ob_preS hK hM) rfl rfl hl.1 rfl (lv_room (Nat.le_of_ble_eq_true rfl)) dX6_step_30 ⟨Nat.le_refl _, Nat.le_refl _⟩) hS (fun H locs hM hS => ?_)
        refine lv_if_eq (tgt := 40) hx hb dX6_step_33 (by decide) (fun c8 => ?_) (fun c8 => ?_)
        · rw [if_pos c8] at hf
          refine lv_iconst (v := 0) hx hb dX6_step_40 (by decide) ?_
          exact w_41 g x1 x2 x3 0 _ _ hM hS _ (lv_sub hl [0, 1, 2, 3] rfl) hf
        · rw [if_neg c8] at hf
          refine lv_iconst (v := 1) hx hb dX6_step_36 (by decide) ?_
          refine lv_goto (tgt := 41) hx hb dX6_step_37 (by decide) ?_
          exact w_41 g x1 x2 x3 1 _ _ hM hS _ (lv_sub hl [0, 1, 2, 3] rfl) hf
      · rw [if_pos c5] at hf
        refine lv_iconst (v := (-1)) hx hb dX6_step_19 (by decide) ?_
        exact ob_iret hx hb hr hlocks hM hS (v := (-1)) rfl hf dX6_step_20
set_option maxHeartbeats 4000000 in
set_option maxRecDepth 100000 in
theorem c_X4_neededBy (l : Launch) (dC : Nat → ClassId) (dI : Nat → Nat → Nat) (ad : Nat → Nat) (cI cZ : ClassId) (hI : ob_inj shX ad) (d : Nat) (hd : 1 ≤ d) (b : Nat) (hT : isTown b) (g : Mm) (x1 : Int32) (r : Int32) (hf : f_X4_neededBy b g x1 = some r) : ob_Mi l yX4_neededBy wsX4_neededBy d (dC, dI) vwCl shX ad cI cZ nwX [.ref (ad b), .int x1] g r g := by
  refine ob_ofW (cc := cX4_neededBy) (maxL := 2) (ret := (some .int)) (by decide) rfl ?_
  intro p e s m args below meth c ha hx hb hr hml hts hown hlocks hM0 hK hS0
  have hown : s.vm.findClass RX4 = some m.cls := hown
  have in_own : ∀ w ∈ wsX40, w ∈ wsX4_neededBy := fun w h => (List.mem_cons_of_mem _ (List.mem_append_right _ h))
  have hf_15 := hts (.fieldLink RX4 15 "OneWorse$Town" "needed" "[I") (List.mem_cons_of_mem _ (List.mem_append_left _ (List.mem_of_getElem? (i := 0) rfl)))
  have hi_X6 := hts (.initialized RX6) (List.mem_cons_of_mem _ (List.mem_append_left _ (List.mem_of_getElem? (i := 2) rfl)))
  have hst_X6_at := hts (.static yX6_at) (List.mem_cons_of_mem _ (List.mem_append_left _ (List.mem_of_getElem? (i := 1) rfl)))
  subst ha
  have hl := lv_entry ([.ref (ad b), .int x1]) (n := 2) (Nat.le_of_ble_eq_true rfl)
  rw [lg_entry_eq]
  generalize (lg_sl ([.ref (ad b), .int x1]) ++ List.replicate (2 - (lg_sl ([.ref (ad b), .int x1])).length) Slot.unset).toArray = ls at hl ⊢
  have hl : lv_has ls 2 [(0, .ref (ad b)), (1, .int x1)] := hl
  have hM := hM0
  have hS := hS0
  unfold f_X4_neededBy at hf
  refine lv_aload_n hx hb dX4_neededBy_0 rfl (lv_at hl 0 rfl) ?_
  refine ob_gr (j := b + 2) hx hb hts in_own hown hK hM (q := b) (shT_0 hT) (C := RX4) (T := TX4) (N := 5) rfl 1 (by decide) hf_15 rfl dX4_neededBy_1 ?_
  refine lv_iload_n hx hb dX4_neededBy_4 rfl (lv_at hl 1 rfl) ?_
  obtain ⟨v1, e1, hf⟩ := ob_e1 hf
  refine ob_calli (va_runSN (As := [.ref (ad (b + 2)), .int x1]) (rest := []) ⟨hx, hb, hml, hown, hts⟩ (c_X6_at l dC dI ad cI cZ hI 0 (Nat.le_refl _) g (b + 2) 10 (shT_2 hT) x1  v1 e1) ⟨va_cnB 2 hts gX4_neededBy_X6_at_n32 rfl rfl rfl (ob_nl hK nw_X4_32) hi_X6 hd_X6_at (ob_R (Nat.le_trans (by decide) hd) (by decide)), hst_X6_at, trivial⟩ (ob_preS hK hM) rfl rfl hl.1 rfl (lv_room (Nat.le_of_ble_eq_true rfl)) dX4_neededBy_5 ⟨Nat.le_refl _, Nat.le_refl _⟩) hS (fun H locs hM hS => ?_)
  exact ob_iretR hx hb hr hlocks hM hS (v := v1) rfl hf dX4_neededBy_8
set_option maxHeartbeats 4000000 in
set_option maxRecDepth 100000 in
theorem c_X4_setNeeded (l : Launch) (dC : Nat → ClassId) (dI : Nat → Nat → Nat) (ad : Nat → Nat) (cI cZ : ClassId) (hI : ob_inj shX ad) (d : Nat) (hd : 1 ≤ d) (b : Nat) (hT : isTown b) (g : Mm) (x1 x2 : Int32) (t : Mm) (hf : f_X4_setNeeded b g x1 x2 = some t) : ob_Mv l yX4_setNeeded wsX4_setNeeded d (dC, dI) vwCl shX ad cI cZ nwX [.ref (ad b), .int x1, .int x2] g t := by
  refine ob_ofW (cc := cX4_setNeeded) (maxL := 3) (ret := none) (by decide) rfl ?_
  intro p e s m args below meth c ha hx hb hr hml hts hown hlocks hM0 hK hS0
  have hown : s.vm.findClass RX4 = some m.cls := hown
  have in_own : ∀ w ∈ wsX40, w ∈ wsX4_setNeeded := fun w h => (List.mem_cons_of_mem _ (List.mem_append_right _ h))
  have hf_15 := hts (.fieldLink RX4 15 "OneWorse$Town" "needed" "[I") (List.mem_cons_of_mem _ (List.mem_append_left _ (List.mem_of_getElem? (i := 0) rfl)))
  have hi_X6 := hts (.initialized RX6) (List.mem_cons_of_mem _ (List.mem_append_left _ (List.mem_of_getElem? (i := 2) rfl)))
  have hst_X6_store := hts (.static yX6_store) (List.mem_cons_of_mem _ (List.mem_append_left _ (List.mem_of_getElem? (i := 1) rfl)))
  subst ha
  have hl := lv_entry ([.ref (ad b), .int x1, .int x2]) (n := 3) (Nat.le_of_ble_eq_true rfl)
  rw [lg_entry_eq]
  generalize (lg_sl ([.ref (ad b), .int x1, .int x2]) ++ List.replicate (3 - (lg_sl ([.ref (ad b), .int x1, .int x2])).length) Slot.unset).toArray = ls at hl ⊢
  have hl : lv_has ls 3 [(0, .ref (ad b)), (1, .int x1), (2, .int x2)] := hl
  have hM := hM0
  have hS := hS0
  unfold f_X4_setNeeded at hf
  refine lv_aload_n hx hb dX4_setNeeded_0 rfl (lv_at hl 0 rfl) ?_
  refine ob_gr (j := b + 2) hx hb hts in_own hown hK hM (q := b) (shT_0 hT) (C := RX4) (T := TX4) (N := 5) rfl 1 (by decide) hf_15 rfl dX4_setNeeded_1 ?_
  refine lv_iload_n hx hb dX4_setNeeded_4 rfl (lv_at hl 1 rfl) ?_
  refine lv_iload_n hx hb dX4_setNeeded_5 rfl (lv_at hl 2 rfl) ?_
  obtain ⟨g1, e1, hf⟩ := ob_e1 hf
  refine ob_callv (va_runSN (As := [.ref (ad (b + 2)), .int x1, .int x2]) (rest := []) ⟨hx, hb, hml, hown, hts⟩ (c_X6_store l dC dI ad cI cZ hI 0 (Nat.le_refl _) g (b + 2) 10 (shT_2 hT) x1 x2  g1 e1) ⟨va_cnB 3 hts gX4_setNeeded_X6_store_n28 rfl rfl rfl (ob_nl hK nw_X4_28) hi_X6 hd_X6_store (ob_R (Nat.le_trans (by decide) hd) (by decide)), hst_X6_store, trivial⟩ (ob_preS hK hM) rfl rfl hl.1 rfl (lv_room (Nat.le_of_ble_eq_true rfl)) dX4_setNeeded_6 ⟨Nat.le_refl _, Nat.le_refl _⟩) hS (fun H locs hM hS => ?_)
  exact ob_vret hx hb hr hlocks hM hS hf dX4_setNeeded_9
set_option maxHeartbeats 4000000 in
set_option maxRecDepth 100000 in
theorem c_X6_needs (l : Launch) (dC : Nat → ClassId) (dI : Nat → Nat → Nat) (ad : Nat → Nat) (cI cZ : ClassId) (hI : ob_inj shX ad) (d : Nat) (hd : 2 ≤ d) (g : Mm) (x1 x2 : Int32) (r : Int32) (t : Mm) (hf : f_X6_needs g x1 x2 = some (r, t)) : ob_Mi l yX6_needs wsX6_needs d (dC, dI) vwCl shX ad cI cZ nwX [.ref (ad 0), .int x1, .int x2] g r t := by
  refine ob_ofW (cc := cX6_needs) (maxL := 4) (ret := (some .int)) (by decide) rfl ?_
  intro p e s m args below meth c ha hx hb hr hml hts hown hlocks hM0 hK hS0
  have hown : s.vm.findClass RX6 = some m.cls := hown
  have in_own : ∀ w ∈ wsX60, w ∈ wsX6_needs := fun w h => (List.mem_cons_of_mem _ (List.mem_append_left _ (List.mem_append_right _ h)))
  have hf_19 := hts (.fieldLink RX6 19 "OneWorse" "town" "LOneWorse$Town;") (List.mem_cons_of_mem _ (List.mem_append_left _ (List.mem_append_left _ (List.mem_of_getElem? (i := 0) rfl))))
  have hi_X4 := hts (.initialized RX4) (List.mem_cons_of_mem _ (List.mem_append_left _ (List.mem_append_left _ (List.mem_of_getElem? (i := 9) rfl))))
  have hin_X4_neededBy := hts (.instanceMethod yX4_neededBy) (List.mem_cons_of_mem _ (List.mem_append_left _ (List.mem_append_left _ (List.mem_of_getElem? (i := 8) rfl))))
  have hse_X4_neededBy := hts (.selects RX4 yX4_neededBy yX4_neededBy) (List.mem_cons_of_mem _ (List.mem_append_left _ (List.mem_append_left _ (List.mem_of_getElem? (i := 10) rfl))))
  have hin_X4_setNeeded := hts (.instanceMethod yX4_setNeeded) (List.mem_cons_of_mem _ (List.mem_append_left _ (List.mem_append_left _ (List.mem_of_getElem? (i := 15) rfl))))
  have hse_X4_setNeeded := hts (.selects RX4 yX4_setNeeded yX4_setNeeded) (List.mem_cons_of_mem _ (List.mem_append_left _ (List.mem_append_left _ (List.mem_of_getElem? (i := 16) rfl))))
  subst ha
  have hl := lv_entry ([.ref (ad 0), .int x1, .int x2]) (n := 4) (Nat.le_of_ble_eq_true rfl)
  rw [lg_entry_eq]
  generalize (lg_sl ([.ref (ad 0), .int x1, .int x2]) ++ List.replicate (4 - (lg_sl ([.ref (ad 0), .int x1, .int x2])).length) Slot.unset).toArray = ls at hl ⊢
  have hl : lv_has ls 4 [(0, .ref (ad 0)), (1, .int x1), (2, .int x2)] := hl
  have hM := hM0
  have hS := hS0
  unfold f_X6_needs at hf
  refine lv_iload_n hx hb dX6_needs_0 rfl (lv_at hl 1 rfl) ?_
  obtain ⟨v1, e1, hf⟩ := ob_e1 hf
  refine ob_calli (va_runS (As := [.int x1]) (rest := []) ⟨hx, hb, hml, hown, hts⟩ (c_X6_isInsult l dC dI ad cI cZ hI 1 (Nat.le_refl _) g x1  v1 e1) (va_cwS 1 hts gX6_needs_X6_isInsult rfl rfl rfl hd_X6_isInsult (ob_R (Nat.le_trans (by decide) hd) (by decide))) (ob_preS hK hM) rfl rfl hl.1 rfl (lv_room (Nat.le_of_ble_eq_true rfl)) dX6_needs_1 ⟨Nat.le_refl _, Nat.le_refl _⟩) hS (fun H locs hM hS => ?_)
  refine lv_if_ne (tgt := 9) hx hb dX6_needs_4 (by decide) (fun c2 => ?_) (fun c2 => ?_)
  · rw [if_neg c2] at hf
    refine lv_iload_n hx hb dX6_needs_9 rfl (lv_at hl 2 rfl) ?_
    refine lv_iconst (v := 0) hx hb dX6_needs_10 (by decide) ?_
    refine lv_bipush (v := 63) hx hb dX6_needs_11 (by decide) ?_
    obtain ⟨v3, e3, hf⟩ := ob_e1 hf
    refine ob_calli (va_runS (As := [.int x2, .int 0, .int 63]) (rest := []) ⟨hx, hb, hml, hown, hts⟩ (c_X6_within l dC dI ad cI cZ hI 0 (Nat.le_refl _) g x2 0 63  v3 e3) (va_cwS 3 hts gX6_needs_X6_within rfl rfl rfl hd_X6_within (ob_R (Nat.le_trans (by decide) hd) (by decide))) (ob_preS hK hM) rfl rfl hl.1 rfl (lv_room (Nat.le_of_ble_eq_true rfl)) dX6_needs_13 ⟨Nat.le_refl _, Nat.le_refl _⟩) hS (fun H locs hM hS => ?_)
    refine lv_if_ne (tgt := 22) hx hb dX6_needs_16 (by decide) (fun c4 => ?_) (fun c4 => ?_)
    · rw [if_neg c4] at hf
      refine lv_aload_n hx hb dX6_needs_22 rfl (lv_at hl 0 rfl) ?_
      refine ob_gr (j := 2) hx hb hts in_own hown hK hM (q := 0) shX_0 (C := RX6) (T := TX6) (N := 8) rfl 1 (by decide) hf_19 rfl dX6_needs_23 ?_
      refine lv_iload_n hx hb dX6_needs_26 rfl (lv_at hl 1 rfl) ?_
      obtain ⟨v5, e5, hf⟩ := ob_e1 hf
      refine ob_calli (va_runVN (As := [.int x1]) (rest := []) ⟨hx, hb, hml, hown, hts⟩ (c_X4_neededBy l dC dI ad cI cZ hI 1 (Nat.le_refl _) 2 isTown_2 g x1  v5 e5) ⟨va_cnB 1 hts gX6_needs_X4_neededBy_n109 rfl rfl rfl (ob_nl hK nw_X6_109) hi_X4 hd_X4_neededBy (ob_R (Nat.le_trans (by decide) hd) (by decide)), hin_X4_neededBy, hse_X4_neededBy⟩ (ob_preV hK hM (q := 2) shX_2 rfl) rfl rfl hl.1 rfl (lv_room (Nat.le_of_ble_eq_true rfl)) dX6_needs_27 ⟨Nat.le_refl _, Nat.le_refl _⟩) hS (fun H locs hM hS => ?_)
      refine lv_istore_n (lv' := [(3, .int v5), (0, .ref (ad 0)), (1, .int x1), (2, .int x2)]) hx hb dX6_needs_30 rfl hl (by decide) rfl (fun ls hl => ?_)
      refine lv_aload_n hx hb dX6_needs_31 rfl (lv_at hl 1 rfl) ?_
      refine ob_gr (j := 2) hx hb hts in_own hown hK hM (q := 0) shX_0 (C := RX6) (T := TX6) (N := 8) rfl 1 (by decide) hf_19 rfl dX6_needs_32 ?_
      refine lv_iload_n hx hb dX6_needs_35 rfl (lv_at hl 2 rfl) ?_
      refine lv_iload_n hx hb dX6_needs_36 rfl (lv_at hl 3 rfl) ?_
      obtain ⟨g6, e6, hf⟩ := ob_e1 hf
      refine ob_callv (va_runVN (As := [.int x1, .int x2]) (rest := []) ⟨hx, hb, hml, hown, hts⟩ (c_X4_setNeeded l dC dI ad cI cZ hI 1 (Nat.le_refl _) 2 isTown_2 g x1 x2  g6 e6) ⟨va_cnB 2 hts gX6_needs_X4_setNeeded_n112 rfl rfl rfl (ob_nl hK nw_X6_112) hi_X4 hd_X4_setNeeded (ob_R (Nat.le_trans (by decide) hd) (by decide)), hin_X4_setNeeded, hse_X4_setNeeded⟩ (ob_preV hK hM (q := 2) shX_2 rfl) rfl rfl hl.1 rfl (lv_room (Nat.le_of_ble_eq_true rfl)) dX6_needs_37 ⟨Nat.le_refl _, Nat.le_refl _⟩) hS (fun H locs hM hS => ?_)
      refine lv_iload_n hx hb dX6_needs_40 rfl (lv_at hl 0 rfl) ?_
      exact ob_iret hx hb hr hlocks hM hS (v := v5) rfl hf dX6_needs_41
    · rw [if_pos c4] at hf
      refine lv_bipush (v := (-2)) hx hb dX6_needs_19 (by decide) ?_
      exact ob_iret hx hb hr hlocks hM hS (v := (-2)) rfl hf dX6_needs_21
  · rw [if_pos c2] at hf
    refine lv_iconst (v := (-1)) hx hb dX6_needs_7 (by decide) ?_
    exact ob_iret hx hb hr hlocks hM hS (v := (-1)) rfl hf dX6_needs_8
set_option maxHeartbeats 4000000 in
set_option maxRecDepth 100000 in
theorem c_X4_traitsOf (l : Launch) (dC : Nat → ClassId) (dI : Nat → Nat → Nat) (ad : Nat → Nat) (cI cZ : ClassId) (hI : ob_inj shX ad) (d : Nat) (hd : 1 ≤ d) (b : Nat) (hT : isTown b) (g : Mm) (x1 : Int32) (r : Int32) (hf : f_X4_traitsOf b g x1 = some r) : ob_Mi l yX4_traitsOf wsX4_traitsOf d (dC, dI) vwCl shX ad cI cZ nwX [.ref (ad b), .int x1] g r g := by
  refine ob_ofW (cc := cX4_traitsOf) (maxL := 2) (ret := (some .int)) (by decide) rfl ?_
  intro p e s m args below meth c ha hx hb hr hml hts hown hlocks hM0 hK hS0
  have hown : s.vm.findClass RX4 = some m.cls := hown
  have in_own : ∀ w ∈ wsX40, w ∈ wsX4_traitsOf := fun w h => (List.mem_cons_of_mem _ (List.mem_append_right _ h))
  have hf_18 := hts (.fieldLink RX4 18 "OneWorse$Town" "traits" "[I") (List.mem_cons_of_mem _ (List.mem_append_left _ (List.mem_of_getElem? (i := 0) rfl)))
  have hi_X6 := hts (.initialized RX6) (List.mem_cons_of_mem _ (List.mem_append_left _ (List.mem_of_getElem? (i := 2) rfl)))
  have hst_X6_at := hts (.static yX6_at) (List.mem_cons_of_mem _ (List.mem_append_left _ (List.mem_of_getElem? (i := 1) rfl)))
  subst ha
  have hl := lv_entry ([.ref (ad b), .int x1]) (n := 2) (Nat.le_of_ble_eq_true rfl)
  rw [lg_entry_eq]
  generalize (lg_sl ([.ref (ad b), .int x1]) ++ List.replicate (2 - (lg_sl ([.ref (ad b), .int x1])).length) Slot.unset).toArray = ls at hl ⊢
  have hl : lv_has ls 2 [(0, .ref (ad b)), (1, .int x1)] := hl
  have hM := hM0
  have hS := hS0
  unfold f_X4_traitsOf at hf
  refine lv_aload_n hx hb dX4_traitsOf_0 rfl (lv_at hl 0 rfl) ?_
  refine ob_gr (j := b + 3) hx hb hts in_own hown hK hM (q := b) (shT_0 hT) (C := RX4) (T := TX4) (N := 5) rfl 2 (by decide) hf_18 rfl dX4_traitsOf_1 ?_
  refine lv_iload_n hx hb dX4_traitsOf_4 rfl (lv_at hl 1 rfl) ?_
  obtain ⟨v1, e1, hf⟩ := ob_e1 hf
  refine ob_calli (va_runSN (As := [.ref (ad (b + 3)), .int x1]) (rest := []) ⟨hx, hb, hml, hown, hts⟩ (c_X6_at l dC dI ad cI cZ hI 0 (Nat.le_refl _) g (b + 3) 5 (shT_3 hT) x1  v1 e1) ⟨va_cnB 2 hts gX4_traitsOf_X6_at_n32 rfl rfl rfl (ob_nl hK nw_X4_32) hi_X6 hd_X6_at (ob_R (Nat.le_trans (by decide) hd) (by decide)), hst_X6_at, trivial⟩ (ob_preS hK hM) rfl rfl hl.1 rfl (lv_room (Nat.le_of_ble_eq_true rfl)) dX4_traitsOf_5 ⟨Nat.le_refl _, Nat.le_refl _⟩) hS (fun H locs hM hS => ?_)
  exact ob_iretR hx hb hr hlocks hM hS (v := v1) rfl hf dX4_traitsOf_8
set_option maxHeartbeats 4000000 in
set_option maxRecDepth 100000 in
theorem c_X4_setTraits (l : Launch) (dC : Nat → ClassId) (dI : Nat → Nat → Nat) (ad : Nat → Nat) (cI cZ : ClassId) (hI : ob_inj shX ad) (d : Nat) (hd : 1 ≤ d) (b : Nat) (hT : isTown b) (g : Mm) (x1 x2 : Int32) (t : Mm) (hf : f_X4_setTraits b g x1 x2 = some t) : ob_Mv l yX4_setTraits wsX4_setTraits d (dC, dI) vwCl shX ad cI cZ nwX [.ref (ad b), .int x1, .int x2] g t := by
  refine ob_ofW (cc := cX4_setTraits) (maxL := 3) (ret := none) (by decide) rfl ?_
  intro p e s m args below meth c ha hx hb hr hml hts hown hlocks hM0 hK hS0
  have hown : s.vm.findClass RX4 = some m.cls := hown
  have in_own : ∀ w ∈ wsX40, w ∈ wsX4_setTraits := fun w h => (List.mem_cons_of_mem _ (List.mem_append_right _ h))
  have hf_18 := hts (.fieldLink RX4 18 "OneWorse$Town" "traits" "[I") (List.mem_cons_of_mem _ (List.mem_append_left _ (List.mem_of_getElem? (i := 0) rfl)))
  have hi_X6 := hts (.initialized RX6) (List.mem_cons_of_mem _ (List.mem_append_left _ (List.mem_of_getElem? (i := 2) rfl)))
  have hst_X6_store := hts (.static yX6_store) (List.mem_cons_of_mem _ (List.mem_append_left _ (List.mem_of_getElem? (i := 1) rfl)))
  subst ha
  have hl := lv_entry ([.ref (ad b), .int x1, .int x2]) (n := 3) (Nat.le_of_ble_eq_true rfl)
  rw [lg_entry_eq]
  generalize (lg_sl ([.ref (ad b), .int x1, .int x2]) ++ List.replicate (3 - (lg_sl ([.ref (ad b), .int x1, .int x2])).length) Slot.unset).toArray = ls at hl ⊢
  have hl : lv_has ls 3 [(0, .ref (ad b)), (1, .int x1), (2, .int x2)] := hl
  have hM := hM0
  have hS := hS0
  unfold f_X4_setTraits at hf
  refine lv_aload_n hx hb dX4_setTraits_0 rfl (lv_at hl 0 rfl) ?_
  refine ob_gr (j := b + 3) hx hb hts in_own hown hK hM (q := b) (shT_0 hT) (C := RX4) (T := TX4) (N := 5) rfl 2 (by decide) hf_18 rfl dX4_setTraits_1 ?_
  refine lv_iload_n hx hb dX4_setTraits_4 rfl (lv_at hl 1 rfl) ?_
  refine lv_iload_n hx hb dX4_setTraits_5 rfl (lv_at hl 2 rfl) ?_
  obtain ⟨g1, e1, hf⟩ := ob_e1 hf
  refine ob_callv (va_runSN (As := [.ref (ad (b + 3)), .int x1, .int x2]) (rest := []) ⟨hx, hb, hml, hown, hts⟩ (c_X6_store l dC dI ad cI cZ hI 0 (Nat.le_refl _) g (b + 3) 5 (shT_3 hT) x1 x2  g1 e1) ⟨va_cnB 3 hts gX4_setTraits_X6_store_n28 rfl rfl rfl (ob_nl hK nw_X4_28) hi_X6 hd_X6_store (ob_R (Nat.le_trans (by decide) hd) (by decide)), hst_X6_store, trivial⟩ (ob_preS hK hM) rfl rfl hl.1 rfl (lv_room (Nat.le_of_ble_eq_true rfl)) dX4_setTraits_6 ⟨Nat.le_refl _, Nat.le_refl _⟩) hS (fun H locs hM hS => ?_)
  exact ob_vret hx hb hr hlocks hM hS hf dX4_setTraits_9
set_option maxHeartbeats 4000000 in
set_option maxRecDepth 100000 in
theorem c_X4_knownTo (l : Launch) (dC : Nat → ClassId) (dI : Nat → Nat → Nat) (ad : Nat → Nat) (cI cZ : ClassId) (hI : ob_inj shX ad) (d : Nat) (hd : 1 ≤ d) (b : Nat) (hT : isTown b) (g : Mm) (x1 : Int32) (r : Int32) (hf : f_X4_knownTo b g x1 = some r) : ob_Mi l yX4_knownTo wsX4_knownTo d (dC, dI) vwCl shX ad cI cZ nwX [.ref (ad b), .int x1] g r g := by
  refine ob_ofW (cc := cX4_knownTo) (maxL := 2) (ret := (some .int)) (by decide) rfl ?_
  intro p e s m args below meth c ha hx hb hr hml hts hown hlocks hM0 hK hS0
  have hown : s.vm.findClass RX4 = some m.cls := hown
  have in_own : ∀ w ∈ wsX40, w ∈ wsX4_knownTo := fun w h => (List.mem_cons_of_mem _ (List.mem_append_right _ h))
  have hf_21 := hts (.fieldLink RX4 21 "OneWorse$Town" "known" "[I") (List.mem_cons_of_mem _ (List.mem_append_left _ (List.mem_of_getElem? (i := 0) rfl)))
  have hi_X6 := hts (.initialized RX6) (List.mem_cons_of_mem _ (List.mem_append_left _ (List.mem_of_getElem? (i := 2) rfl)))
  have hst_X6_at := hts (.static yX6_at) (List.mem_cons_of_mem _ (List.mem_append_left _ (List.mem_of_getElem? (i := 1) rfl)))
  subst ha
  have hl := lv_entry ([.ref (ad b), .int x1]) (n := 2) (Nat.le_of_ble_eq_true rfl)
  rw [lg_entry_eq]
  generalize (lg_sl ([.ref (ad b), .int x1]) ++ List.replicate (2 - (lg_sl ([.ref (ad b), .int x1])).length) Slot.unset).toArray = ls at hl ⊢
  have hl : lv_has ls 2 [(0, .ref (ad b)), (1, .int x1)] := hl
  have hM := hM0
  have hS := hS0
  unfold f_X4_knownTo at hf
  refine lv_aload_n hx hb dX4_knownTo_0 rfl (lv_at hl 0 rfl) ?_
  refine ob_gr (j := b + 4) hx hb hts in_own hown hK hM (q := b) (shT_0 hT) (C := RX4) (T := TX4) (N := 5) rfl 3 (by decide) hf_21 rfl dX4_knownTo_1 ?_
  refine lv_iload_n hx hb dX4_knownTo_4 rfl (lv_at hl 1 rfl) ?_
  obtain ⟨v1, e1, hf⟩ := ob_e1 hf
  refine ob_calli (va_runSN (As := [.ref (ad (b + 4)), .int x1]) (rest := []) ⟨hx, hb, hml, hown, hts⟩ (c_X6_at l dC dI ad cI cZ hI 0 (Nat.le_refl _) g (b + 4) 5 (shT_4 hT) x1  v1 e1) ⟨va_cnB 2 hts gX4_knownTo_X6_at_n32 rfl rfl rfl (ob_nl hK nw_X4_32) hi_X6 hd_X6_at (ob_R (Nat.le_trans (by decide) hd) (by decide)), hst_X6_at, trivial⟩ (ob_preS hK hM) rfl rfl hl.1 rfl (lv_room (Nat.le_of_ble_eq_true rfl)) dX4_knownTo_5 ⟨Nat.le_refl _, Nat.le_refl _⟩) hS (fun H locs hM hS => ?_)
  exact ob_iretR hx hb hr hlocks hM hS (v := v1) rfl hf dX4_knownTo_8
set_option maxHeartbeats 4000000 in
set_option maxRecDepth 100000 in
theorem c_X4_setKnown (l : Launch) (dC : Nat → ClassId) (dI : Nat → Nat → Nat) (ad : Nat → Nat) (cI cZ : ClassId) (hI : ob_inj shX ad) (d : Nat) (hd : 1 ≤ d) (b : Nat) (hT : isTown b) (g : Mm) (x1 x2 : Int32) (t : Mm) (hf : f_X4_setKnown b g x1 x2 = some t) : ob_Mv l yX4_setKnown wsX4_setKnown d (dC, dI) vwCl shX ad cI cZ nwX [.ref (ad b), .int x1, .int x2] g t := by
  refine ob_ofW (cc := cX4_setKnown) (maxL := 3) (ret := none) (by decide) rfl ?_
  intro p e s m args below meth c ha hx hb hr hml hts hown hlocks hM0 hK hS0
  have hown : s.vm.findClass RX4 = some m.cls := hown
  have in_own : ∀ w ∈ wsX40, w ∈ wsX4_setKnown := fun w h => (List.mem_cons_of_mem _ (List.mem_append_right _ h))
  have hf_21 := hts (.fieldLink RX4 21 "OneWorse$Town" "known" "[I") (List.mem_cons_of_mem _ (List.mem_append_left _ (List.mem_of_getElem? (i := 0) rfl)))
  have hi_X6 := hts (.initialized RX6) (List.mem_cons_of_mem _ (List.mem_append_left _ (List.mem_of_getElem? (i := 2) rfl)))
  have hst_X6_store := hts (.static yX6_store) (List.mem_cons_of_mem _ (List.mem_append_left _ (List.mem_of_getElem? (i := 1) rfl)))
  subst ha
  have hl := lv_entry ([.ref (ad b), .int x1, .int x2]) (n := 3) (Nat.le_of_ble_eq_true rfl)
  rw [lg_entry_eq]
  generalize (lg_sl ([.ref (ad b), .int x1, .int x2]) ++ List.replicate (3 - (lg_sl ([.ref (ad b), .int x1, .int x2])).length) Slot.unset).toArray = ls at hl ⊢
  have hl : lv_has ls 3 [(0, .ref (ad b)), (1, .int x1), (2, .int x2)] := hl
  have hM := hM0
  have hS := hS0
  unfold f_X4_setKnown at hf
  refine lv_aload_n hx hb dX4_setKnown_0 rfl (lv_at hl 0 rfl) ?_
  refine ob_gr (j := b + 4) hx hb hts in_own hown hK hM (q := b) (shT_0 hT) (C := RX4) (T := TX4) (N := 5) rfl 3 (by decide) hf_21 rfl dX4_setKnown_1 ?_
  refine lv_iload_n hx hb dX4_setKnown_4 rfl (lv_at hl 1 rfl) ?_
  refine lv_iload_n hx hb dX4_setKnown_5 rfl (lv_at hl 2 rfl) ?_
  obtain ⟨g1, e1, hf⟩ := ob_e1 hf
  refine ob_callv (va_runSN (As := [.ref (ad (b + 4)), .int x1, .int x2]) (rest := []) ⟨hx, hb, hml, hown, hts⟩ (c_X6_store l dC dI ad cI cZ hI 0 (Nat.le_refl _) g (b + 4) 5 (shT_4 hT) x1 x2  g1 e1) ⟨va_cnB 3 hts gX4_setKnown_X6_store_n28 rfl rfl rfl (ob_nl hK nw_X4_28) hi_X6 hd_X6_store (ob_R (Nat.le_trans (by decide) hd) (by decide)), hst_X6_store, trivial⟩ (ob_preS hK hM) rfl rfl hl.1 rfl (lv_room (Nat.le_of_ble_eq_true rfl)) dX4_setKnown_6 ⟨Nat.le_refl _, Nat.le_refl _⟩) hS (fun H locs hM hS => ?_)
  exact ob_vret hx hb hr hlocks hM hS hf dX4_setKnown_9
set_option maxHeartbeats 4000000 in
set_option maxRecDepth 100000 in
theorem c_X6_man (l : Launch) (dC : Nat → ClassId) (dI : Nat → Nat → Nat) (ad : Nat → Nat) (cI cZ : ClassId) (hI : ob_inj shX ad) (d : Nat) (hd : 2 ≤ d) (g : Mm) (x1 x2 x3 : Int32) (r : Int32) (t : Mm) (hf : f_X6_man g x1 x2 x3 = some (r, t)) : ob_Mi l yX6_man wsX6_man d (dC, dI) vwCl shX ad cI cZ nwX [.ref (ad 0), .int x1, .int x2, .int x3] g r t := by
  refine ob_ofW (cc := cX6_man) (maxL := 5) (ret := (some .int)) (by decide) rfl ?_
  intro p e s m args below meth c ha hx hb hr hml hts hown hlocks hM0 hK hS0
  have hown : s.vm.findClass RX6 = some m.cls := hown
  have in_own : ∀ w ∈ wsX60, w ∈ wsX6_man := fun w h => (List.mem_cons_of_mem _ (List.mem_append_left _ (List.mem_append_right _ h)))
  have hf_19 := hts (.fieldLink RX6 19 "OneWorse" "town" "LOneWorse$Town;") (List.mem_cons_of_mem _ (List.mem_append_left _ (List.mem_append_left _ (List.mem_append_left _ (List.mem_of_getElem? (i := 0) rfl)))))
  have hi_X4 := hts (.initialized RX4) (List.mem_cons_of_mem _ (List.mem_append_left _ (List.mem_append_left _ (List.mem_append_left _ (List.mem_of_getElem? (i := 9) rfl)))))
  have hin_X4_knownTo := hts (.instanceMethod yX4_knownTo) (List.mem_cons_of_mem _ (List.mem_append_left _ (List.mem_append_left _ (List.mem_append_left _ (List.mem_of_getElem? (i := 20) rfl)))))
  have hse_X4_knownTo := hts (.selects RX4 yX4_knownTo yX4_knownTo) (List.mem_cons_of_mem _ (List.mem_append_left _ (List.mem_append_left _ (List.mem_append_left _ (List.mem_of_getElem? (i := 21) rfl)))))
  have hin_X4_setKnown := hts (.instanceMethod yX4_setKnown) (List.mem_cons_of_mem _ (List.mem_append_left _ (List.mem_append_left _ (List.mem_append_right _ (List.mem_of_getElem? (i := 0) rfl)))))
  have hse_X4_setKnown := hts (.selects RX4 yX4_setKnown yX4_setKnown) (List.mem_cons_of_mem _ (List.mem_append_left _ (List.mem_append_left _ (List.mem_append_right _ (List.mem_of_getElem? (i := 1) rfl)))))
  have hin_X4_traitsOf := hts (.instanceMethod yX4_traitsOf) (List.mem_cons_of_mem _ (List.mem_append_left _ (List.mem_append_left _ (List.mem_append_left _ (List.mem_of_getElem? (i := 8) rfl)))))
  have hse_X4_traitsOf := hts (.selects RX4 yX4_traitsOf yX4_traitsOf) (List.mem_cons_of_mem _ (List.mem_append_left _ (List.mem_append_left _ (List.mem_append_left _ (List.mem_of_getElem? (i := 10) rfl)))))
  have hin_X4_setTraits := hts (.instanceMethod yX4_setTraits) (List.mem_cons_of_mem _ (List.mem_append_left _ (List.mem_append_left _ (List.mem_append_left _ (List.mem_of_getElem? (i := 15) rfl)))))
  have hse_X4_setTraits := hts (.selects RX4 yX4_setTraits yX4_setTraits) (List.mem_cons_of_mem _ (List.mem_append_left _ (List.mem_append_left _ (List.mem_append_left _ (List.mem_of_getElem? (i := 16) rfl)))))
  have w_35 : ∀ (g : Mm) (x1 x2 x3 s0 s1 s2 : Int32) (H : Heap) (locs : List Loc), va_P (dC, dI) vwCl (ob_ws shX ad cI cZ g) H → va_S (ob_A shX ad) s.heap H locs → ∀ (ls : Array Slot), lv_has ls 5 [(0, .ref (ad 0)), (1, .int x1), (2, .int x2), (3, .int x3)] → f_X6_man_J35 g x1 x2 x3 s0 s1 s2 = some (r, t) → W p l e (rmN d) s m args below meth c H locs 0 0 (MQ below (ob_Qi (dC, dI) vwCl shX ad cI cZ r t) args s 0 0 (ob_A shX ad)) (F0 m 35 ls [.int s0, .int s1, .int s2]) := by
    intro g x1 x2 x3 s0 s1 s2 H locs hM hS ls hl hf
    unfold f_X6_man_J35 at hf
    obtain ⟨v6, e6, hf⟩ := ob_e1 hf
    refine ob_calli (va_runS (As := [.int s2, .int s1, .int s0]) (rest := []) ⟨hx, hb, hml, hown, hts⟩ (c_X6_within l dC dI ad cI cZ hI 0 (Nat.le_refl _) g s2 s1 s0  v6 e6) (va_cwS 3 hts gX6_man_X6_within rfl rfl rfl hd_X6_within (ob_R (Nat.le_trans (by decide) hd) (by decide))) (ob_preS hK hM) rfl rfl hl.1 rfl (lv_room (Nat.le_of_ble_eq_true rfl)) dX6_man_35 ⟨Nat.le_refl _, Nat.le_refl _⟩) hS (fun H locs hM hS => ?_)
    refine lv_if_ne (tgt := 44) hx hb dX6_man_38 (by decide) (fun c7 => ?_) (fun c7 => ?_)
    · rw [if_neg c7] at hf
      refine lv_iload_n hx hb dX6_man_44 rfl (lv_at hl 2 rfl) ?_
      refine lv_if_ne (tgt := 70) hx hb dX6_man_45 (by decide) (fun c8 => ?_) (fun c8 => ?_)
      · rw [if_neg c8] at hf
        refine lv_aload_n hx hb dX6_man_70 rfl (lv_at hl 0 rfl) ?_
        refine ob_gr (j := 2) hx hb hts in_own hown hK hM (q := 0) shX_0 (C := RX6) (T := TX6) (N := 8) rfl 1 (by decide) hf_19 rfl dX6_man_71 ?_
        refine lv_iload_n hx hb dX6_man_74 rfl (lv_at hl 1 rfl) ?_
        obtain ⟨v9, e9, hf⟩ := ob_e1 hf
        refine ob_calli (va_runVN (As := [.int x1]) (rest := []) ⟨hx, hb, hml, hown, hts⟩ (c_X4_knownTo l dC dI ad cI cZ hI 1 (Nat.le_refl _) 2 isTown_2 g x1  v9 e9) ⟨va_cnB 1 hts gX6_man_X4_knownTo_n125 rfl rfl rfl (ob_nl hK nw_X6_125) hi_X4 hd_X4_knownTo (ob_R (Nat.le_trans (by decide) hd) (by decide)), hin_X4_knownTo, hse_X4_knownTo⟩ (ob_preV hK hM (q := 2) shX_2 rfl) rfl rfl hl.1 rfl (lv_room (Nat.le_of_ble_eq_true rfl)) dX6_man_75 ⟨Nat.le_refl _, Nat.le_refl _⟩) hS (fun H locs hM hS => ?_)
        refine lv_istore (lv' := [(4, .int v9), (0, .ref (ad 0)), (1, .int x1), (2, .int x2), (3, .int x3)]) hx hb dX6_man_78 hl (by decide) rfl (fun ls hl => ?_)
        refine lv_aload_n hx hb dX6_man_80 rfl (lv_at hl 1 rfl) ?_
        refine ob_gr (j := 2) hx hb hts in_own hown hK hM (q := 0) shX_0 (C := RX6) (T := TX6) (N := 8) rfl 1 (by decide) hf_19 rfl dX6_man_81 ?_
        refine lv_iload_n hx hb dX6_man_84 rfl (lv_at hl 2 rfl) ?_
        refine lv_iload_n hx hb dX6_man_85 rfl (lv_at hl 4 rfl) ?_
        obtain ⟨g10, e10, hf⟩ := ob_e1 hf
        refine ob_callv (va_runVN (As := [.int x1, .int x3]) (rest := []) ⟨hx, hb, hml, hown, hts⟩ (c_X4_setKnown l dC dI ad cI cZ hI 1 (Nat.le_refl _) 2 isTown_2 g x1 x3  g10 e10) ⟨va_cnB 2 hts gX6_man_X4_setKnown_n128 rfl rfl rfl (ob_nl hK nw_X6_128) hi_X4 hd_X4_setKnown (ob_R (Nat.le_trans (by decide) hd) (by decide)), hin_X4_setKnown, hse_X4_setKnown⟩ (ob_preV hK hM (q := 2) shX_2 rfl) rfl rfl hl.1 rfl (lv_room (Nat.le_of_ble_eq_true rfl)) dX6_man_86 ⟨Nat.le_refl _, Nat.le_refl _⟩) hS (fun H locs hM hS => ?_)
        refine lv_iload hx hb dX6_man_89 (lv_at hl 0 rfl) ?_
        exact ob_iret hx hb hr hlocks hM hS (v := v9) rfl hf dX6_man_91
      · rw [if_pos c8] at hf
        refine lv_aload_n hx hb dX6_man_48 rfl (lv_at hl 0 rfl) ?_
        refine ob_gr (j := 2) hx hb hts in_own hown hK hM (q := 0) shX_0 (C := RX6) (T := TX6) (N := 8) rfl 1 (by decide) hf_19 rfl dX6_man_49 ?_
        refine lv_iload_n hx hb dX6_man_52 rfl (lv_at hl 1 rfl) ?_
        obtain ⟨v11, e11, hf⟩ := ob_e1 hf
        refine ob_calli (va_runVN (As := [.int x1]) (rest := []) ⟨hx, hb, hml, hown, hts⟩ (c_X4_traitsOf l dC dI ad cI cZ hI 1 (Nat.le_refl _) 2 isTown_2 g x1  v11 e11) ⟨va_cnB 1 hts gX6_man_X4_traitsOf_n119 rfl rfl rfl (ob_nl hK nw_X6_119) hi_X4 hd_X4_traitsOf (ob_R (Nat.le_trans (by decide) hd) (by decide)), hin_X4_traitsOf, hse_X4_traitsOf⟩ (ob_preV hK hM (q := 2) shX_2 rfl) rfl rfl hl.1 rfl (lv_room (Nat.le_of_ble_eq_true rfl)) dX6_man_53 ⟨Nat.le_refl _, Nat.le_refl _⟩) hS (fun H locs hM hS => ?_)
        refine lv_istore (lv' := [(4, .int v11), (0, .ref (ad 0)), (1, .int x1), (2, .int x2), (3, .int x3)]) hx hb dX6_man_56 hl (by decide) rfl (fun ls hl => ?_)
        refine lv_aload_n hx hb dX6_man_58 rfl (lv_at hl 1 rfl) ?_
        refine ob_gr (j := 2) hx hb hts in_own hown hK hM (q := 0) shX_0 (C := RX6) (T := TX6) (N := 8) rfl 1 (by decide) hf_19 rfl dX6_man_59 ?_
        refine lv_iload_n hx hb dX6_man_62 rfl (lv_at hl 2 rfl) ?_
        refine lv_iload_n hx hb dX6_man_63 rfl (lv_at hl 4 rfl) ?_
        obtain ⟨g12, e12, hf⟩ := ob_e1 hf
        refine ob_callv (va_runVN (As := [.int x1, .int x3]) (rest := []) ⟨hx, hb, hml, hown, hts⟩ (c_X4_setTraits l dC dI ad cI cZ hI 1 (Nat.le_refl _) 2 isTown_2 g x1 x3  g12 e12) ⟨va_cnB 2 hts gX6_man_X4_setTraits_n122 rfl rfl rfl (ob_nl hK nw_X6_122) hi_X4 hd_X4_setTraits (ob_R (Nat.le_trans (by decide) hd) (by decide)), hin_X4_setTraits, hse_X4_setTraits⟩ (ob_preV hK hM (q := 2) shX_2 rfl) rfl rfl hl.1 rfl (lv_room (Nat.le_of_ble_eq_true rfl)) dX6_man_64 ⟨Nat.le_refl _, Nat.le_refl _⟩) hS (fun H locs hM hS => ?_)
        refine lv_goto (tgt := 89) hx hb dX6_man_67 (by decide) ?_
        refine lv_iload hx hb dX6_man_89 (lv_at hl 0 rfl) ?_
        exact ob_iret hx hb hr hlocks hM hS (v := v11) rfl hf dX6_man_91
    · rw [if_pos c7] at hf
      refine lv_bipush (v := (-2)) hx hb dX6_man_41 (by decide) ?_
      exact ob_iret hx hb hr hlocks hM hS (v := (-2)) rfl hf dX6_man_43
  subst ha
  have hl := lv_entry ([.ref (ad 0), .int x1, .int x2, .int x3]) (n := 5) (Nat.le_of_ble_eq_true rfl)
  rw [lg_entry_eq]
  generalize (lg_sl ([.ref (ad 0), .int x1, .int x2, .int x3]) ++ List.replicate (5 - (lg_sl ([.ref (ad 0), .int x1, .int x2, .int x3])).length) Slot.unset).toArray = ls at hl ⊢
  have hl : lv_has ls 5 [(0, .ref (ad 0)), (1, .int x1), (2, .int x2), (3, .int x3)] := hl
  have hM := hM0
  have hS := hS0
  unfold f_X6_man at hf
  refine lv_iload_n hx hb dX6_man_0 rfl (lv_at hl 1 rfl) ?_
  obtain ⟨v1, e1, hf⟩ := ob_e1 hf
  refine ob_calli (va_runS (As := [.int x1]) (rest := []) ⟨hx, hb, hml, hown, hts⟩ (c_X6_isMan l dC dI ad cI cZ hI 1 (Nat.le_refl _) g x1  v1 e1) (va_cwS 1 hts gX6_man_X6_isMan rfl rfl rfl hd_X6_isMan (ob_R (Nat.le_trans (by decide) hd) (by decide))) (ob_preS hK hM) rfl rfl hl.1 rfl (lv_room (Nat.le_of_ble_eq_true rfl)) dX6_man_1 ⟨Nat.le_refl _, Nat.le_refl _⟩) hS (fun H locs hM hS => ?_)
  refine lv_if_ne (tgt := 9) hx hb dX6_man_4 (by decide) (fun c2 => ?_) (fun c2 => ?_)
  · rw [if_neg c2] at hf
    refine lv_iload_n hx hb dX6_man_9 rfl (lv_at hl 2 rfl) ?_
    refine lv_iconst (v := 0) hx hb dX6_man_10 (by decide) ?_
    refine lv_iconst (v := 1) hx hb dX6_man_11 (by decide) ?_
    obtain ⟨v3, e3, hf⟩ := ob_e1 hf
    refine ob_calli (va_runS (As := [.int x2, .int 0, .int 1]) (rest := []) ⟨hx, hb, hml, hown, hts⟩ (c_X6_within l dC dI ad cI cZ hI 0 (Nat.le_refl _) g x2 0 1  v3 e3) (va_cwS 3 hts gX6_man_X6_within rfl rfl rfl hd_X6_within (ob_R (Nat.le_trans (by decide) hd) (by decide))) (ob_preS hK hM) rfl rfl hl.1 rfl (lv_room (Nat.le_of_ble_eq_true rfl)) dX6_man_12 ⟨Nat.le_refl _, Nat.le_refl _⟩) hS (fun H locs hM hS => ?_)
    refine lv_if_ne (tgt := 21) hx hb dX6_man_15 (by decide) (fun c4 => ?_) (fun c4 => ?_)
    · rw [if_neg c4] at hf
      refine lv_iload_n hx hb dX6_man_21 rfl (lv_at hl 3 rfl) ?_
      refine lv_iconst (v := 0) hx hb dX6_man_22 (by decide) ?_
      refine lv_iload_n hx hb dX6_man_23 rfl (lv_at hl 2 rfl) ?_
      refine lv_if_ne (tgt := 32) hx hb dX6_man_24 (by decide) (fun c5 => ?_) (fun c5 => ?_)
      · rw [if_neg c5] at hf
        refine lv_sipush (v := 1023) hx hb dX6_man_32 (by decide) ?_
        exact w_35 g x1 x2 x3 1023 0 x3 _ _ hM hS _ (lv_sub hl [0, 1, 2, 3] rfl) hf
      · rw [if_pos c5] at hf
        refine lv_bipush (v := 63) hx hb dX6_man_27 (by decide) ?_
        refine lv_goto (tgt := 35) hx hb dX6_man_29 (by decide) ?_
        exact w_35 g x1 x2 x3 63 0 x3 _ _ hM hS _ (lv_sub hl [0, 1, 2, 3] rfl) hf
    · rw [if_pos c4] at hf
      refine lv_bipush (v := (-2)) hx hb dX6_man_18 (by decide) ?_
      exact ob_iret hx hb hr hlocks hM hS (v := (-2)) rfl hf dX6_man_20
  · rw [if_pos c2] at hf
    refine lv_iconst (v := (-1)) hx hb dX6_man_7 (by decide) ?_
    exact ob_iret hx hb hr hlocks hM hS (v := (-1)) rfl hf dX6_man_8
set_option maxHeartbeats 4000000 in
set_option maxRecDepth 100000 in
theorem c_X4_fitting (l : Launch) (dC : Nat → ClassId) (dI : Nat → Nat → Nat) (ad : Nat → Nat) (cI cZ : ClassId) (hI : ob_inj shX ad) (d : Nat) (hd : 2 ≤ d) (b : Nat) (hT : isTown b) (g : Mm) (x1 : Int32) (r : Int32) (hf : f_X4_fitting b g x1 = some r) : ob_Mi l yX4_fitting wsX4_fitting d (dC, dI) vwCl shX ad cI cZ nwX [.ref (ad b), .int x1] g r g := by
  refine ob_ofW (cc := cX4_fitting) (maxL := 5) (ret := (some .int)) (by decide) rfl ?_
  intro p e s m args below meth c ha hx hb hr hml hts hown hlocks hM0 hK hS0
  have hown : s.vm.findClass RX4 = some m.cls := hown
  have w_38 : ∀ (k11 : Int32 → Int32 → Int32 → Option (Int32)) (hk11 : ∀ (x2 x3 x4 : Int32) (H : Heap) (locs : List Loc), va_P (dC, dI) vwCl (ob_ws shX ad cI cZ g) H → va_S (ob_A shX ad) s.heap H locs → ∀ (ls : Array Slot), lv_has ls 5 [(0, .ref (ad b)), (2, .int x2), (3, .int x3), (4, .int x4)] → k11 x2 x3 x4 = some r → W p l e (rmN d) s m args below meth c H locs 0 0 (MQ below (ob_Qi (dC, dI) vwCl shX ad cI cZ r g) args s 0 0 (ob_A shX ad)) (F0 m 11 ls [])), ∀ (x2 x3 x4 : Int32) (H : Heap) (locs : List Loc), va_P (dC, dI) vwCl (ob_ws shX ad cI cZ g) H → va_S (ob_A shX ad) s.heap H locs → ∀ (ls : Array Slot), lv_has ls 5 [(0, .ref (ad b)), (2, .int x2), (3, .int x3), (4, .int x4)] → f_X4_fitting_J38 b g k11 x2 x3 x4 = some r → W p l e (rmN d) s m args below meth c H locs 0 0 (MQ below (ob_Qi (dC, dI) vwCl shX ad cI cZ r g) args s 0 0 (ob_A shX ad)) (F0 m 38 ls []) := by
    intro k11 hk11 x2 x3 x4 H locs hM hS ls hl hf
    unfold f_X4_fitting_J38 at hf
    refine lv_iinc (v := (x4 + 1)) (lv' := [(4, .int (x4 + 1)), (0, .ref (ad b)), (2, .int x2), (3, .int x3)]) hx hb dX4_fitting_38 hl (k := 3) rfl rfl (by decide) rfl (fun ls hl => ?_)
    refine lv_goto (tgt := 11) hx hb dX4_fitting_41 (by decide) ?_
    exact hk11 x2 x3 (x4 + 1) _ _ hM hS _ (lv_sub hl [1, 2, 3, 0] rfl) hf
  have w_11 : ∀ (n : Nat), ∀ (x2 x3 x4 : Int32) (H : Heap) (locs : List Loc), va_P (dC, dI) vwCl (ob_ws shX ad cI cZ g) H → va_S (ob_A shX ad) s.heap H locs → ∀ (ls : Array Slot), lv_has ls 5 [(0, .ref (ad b)), (2, .int x2), (3, .int x3), (4, .int x4)] → f_X4_fitting_L11 b g n x2 x3 x4 = some r → W p l e (rmN d) s m args below meth c H locs 0 0 (MQ below (ob_Qi (dC, dI) vwCl shX ad cI cZ r g) args s 0 0 (ob_A shX ad)) (F0 m 11 ls []) := by
    intro n
    induction n with
    | zero =>
      intro x2 x3 x4 H locs hM hS ls hl hf
      cases hf
    | succ n ih =>
      intro x2 x3 x4 H locs hM hS ls hl hf
      unfold f_X4_fitting_L11 at hf
      refine lv_iload hx hb dX4_fitting_11 (lv_at hl 3 rfl) ?_
      refine lv_bipush (v := 10) hx hb dX4_fitting_13 (by decide) ?_
      refine lv_icmp_ge (tgt := 44) hx hb dX4_fitting_15 (by decide) (fun c2 => ?_) (fun c2 => ?_)
      · rw [if_pos c2] at hf
        refine lv_iload_n hx hb dX4_fitting_44 rfl (lv_at hl 2 rfl) ?_
        exact ob_iretR hx hb hr hlocks hM hS (v := x3) rfl hf dX4_fitting_45
      · rw [if_neg c2] at hf
        refine lv_aload_n hx hb dX4_fitting_18 rfl (lv_at hl 0 rfl) ?_
        refine lv_iload hx hb dX4_fitting_19 (lv_at hl 3 rfl) ?_
        obtain ⟨v3, e3, hf⟩ := ob_e1 hf
        refine ob_calli (va_runV (As := [.int x4]) (rest := []) ⟨hx, hb, hml, hown, hts⟩ (c_X4_neededBy l dC dI ad cI cZ hI 1 (Nat.le_refl _) b hT g x4  v3 e3) (cwV 1 hts gX4_fitting_X4_neededBy rfl rfl rfl ⟨rfl, hd_X4_neededBy⟩ (ob_R (Nat.le_trans (by decide) hd) (by decide))) (ob_preV hK hM (q := b) (shT_0 hT) rfl) rfl rfl hl.1 rfl (lv_room (Nat.le_of_ble_eq_true rfl)) dX4_fitting_21 ⟨Nat.le_refl _, Nat.le_refl _⟩) hS (fun H locs hM hS => ?_)
        refine lv_iload_n hx hb dX4_fitting_24 rfl (lv_at hl 1 rfl) ?_
        refine lv_iconst (v := (-1)) hx hb dX4_fitting_25 (by decide) ?_
        refine lv_ixor hx hb dX4_fitting_26 ?_
        refine lv_iand hx hb dX4_fitting_27 ?_
        refine lv_if_ne (tgt := 38) hx hb dX4_fitting_28 (by decide) (fun c4 => ?_) (fun c4 => ?_)
        · rw [if_neg c4] at hf
          exact w_38 (f_X4_fitting_L11 b g n) ih x2 x3 x4 _ _ hM hS _ (lv_sub hl [0, 1, 2, 3] rfl) hf
        · rw [if_pos c4] at hf
          refine lv_iload_n hx hb dX4_fitting_31 rfl (lv_at hl 2 rfl) ?_
          refine lv_iconst (v := 1) hx hb dX4_fitting_32 (by decide) ?_
          refine lv_iload hx hb dX4_fitting_33 (lv_at hl 3 rfl) ?_
          refine lv_ishl hx hb dX4_fitting_35 ?_
          refine lv_ior hx hb dX4_fitting_36 ?_
          refine lv_istore_n (lv' := [(3, .int (x3 ||| ((1 : Int32) <<< (x4 &&& 31)))), (0, .ref (ad b)), (2, .int x2), (4, .int x4)]) hx hb dX4_fitting_37 rfl hl (by decide) rfl (fun ls hl => ?_)
          exact w_38 (f_X4_fitting_L11 b g n) ih x2 (x3 ||| ((1 : Int32) <<< (x4 &&& 31))) x4 _ _ hM hS _ (lv_sub hl [1, 2, 0, 3] rfl) hf
  subst ha
  have hl := lv_entry ([.ref (ad b), .int x1]) (n := 5) (Nat.le_of_ble_eq_true rfl)
  rw [lg_entry_eq]
  generalize (lg_sl ([.ref (ad b), .int x1]) ++ List.replicate (5 - (lg_sl ([.ref (ad b), .int x1])).length) Slot.unset).toArray = ls at hl ⊢
  have hl : lv_has ls 5 [(0, .ref (ad b)), (1, .int x1)] := hl
  have hM := hM0
  have hS := hS0
  unfold f_X4_fitting at hf
  refine lv_aload_n hx hb dX4_fitting_0 rfl (lv_at hl 0 rfl) ?_
  refine lv_iload_n hx hb dX4_fitting_1 rfl (lv_at hl 1 rfl) ?_
  obtain ⟨v1, e1, hf⟩ := ob_e1 hf
  refine ob_calli (va_runV (As := [.int x1]) (rest := []) ⟨hx, hb, hml, hown, hts⟩ (c_X4_traitsOf l dC dI ad cI cZ hI 1 (Nat.le_refl _) b hT g x1  v1 e1) (cwV 1 hts gX4_fitting_X4_traitsOf rfl rfl rfl ⟨rfl, hd_X4_traitsOf⟩ (ob_R (Nat.le_trans (by decide) hd) (by decide))) (ob_preV hK hM (q := b) (shT_0 hT) rfl) rfl rfl hl.1 rfl (lv_room (Nat.le_of_ble_eq_true rfl)) dX4_fitting_2 ⟨Nat.le_refl _, Nat.le_refl _⟩) hS (fun H locs hM hS => ?_)
  refine lv_istore_n (lv' := [(2, .int v1), (0, .ref (ad b)), (1, .int x1)]) hx hb dX4_fitting_5 rfl hl (by decide) rfl (fun ls hl => ?_)
  refine lv_iconst (v := 0) hx hb dX4_fitting_6 (by decide) ?_
  refine lv_istore_n (lv' := [(3, .int 0), (2, .int v1), (0, .ref (ad b)), (1, .int x1)]) hx hb dX4_fitting_7 rfl hl (by decide) rfl (fun ls hl => ?_)
  refine lv_iconst (v := 0) hx hb dX4_fitting_8 (by decide) ?_
  refine lv_istore (lv' := [(4, .int 0), (3, .int 0), (2, .int v1), (0, .ref (ad b)), (1, .int x1)]) hx hb dX4_fitting_9 hl (by decide) rfl (fun ls hl => ?_)
  exact w_11 FU v1 0 0 _ _ hM hS _ (lv_sub hl [3, 2, 1, 0] rfl) hf
set_option maxHeartbeats 4000000 in
set_option maxRecDepth 100000 in
theorem c_X6_fit (l : Launch) (dC : Nat → ClassId) (dI : Nat → Nat → Nat) (ad : Nat → Nat) (cI cZ : ClassId) (hI : ob_inj shX ad) (d : Nat) (hd : 3 ≤ d) (g : Mm) (x1 : Int32) (r : Int32) (hf : f_X6_fit g x1 = some r) : ob_Mi l yX6_fit wsX6_fit d (dC, dI) vwCl shX ad cI cZ nwX [.ref (ad 0), .int x1] g r g := by
  refine ob_ofW (cc := cX6_fit) (maxL := 2) (ret := (some .int)) (by decide) rfl ?_
  intro p e s m args below meth c ha hx hb hr hml hts hown hlocks hM0 hK hS0
  have hown : s.vm.findClass RX6 = some m.cls := hown
  have in_own : ∀ w ∈ wsX60, w ∈ wsX6_fit := fun w h => (List.mem_cons_of_mem _ (List.mem_append_left _ (List.mem_append_right _ h)))
  have hf_19 := hts (.fieldLink RX6 19 "OneWorse" "town" "LOneWorse$Town;") (List.mem_cons_of_mem _ (List.mem_append_left _ (List.mem_append_left _ (List.mem_of_getElem? (i := 0) rfl))))
  have hi_X4 := hts (.initialized RX4) (List.mem_cons_of_mem _ (List.mem_append_left _ (List.mem_append_left _ (List.mem_of_getElem? (i := 9) rfl))))
  have hin_X4_fitting := hts (.instanceMethod yX4_fitting) (List.mem_cons_of_mem _ (List.mem_append_left _ (List.mem_append_left _ (List.mem_of_getElem? (i := 8) rfl))))
  have hse_X4_fitting := hts (.selects RX4 yX4_fitting yX4_fitting) (List.mem_cons_of_mem _ (List.mem_append_left _ (List.mem_append_left _ (List.mem_of_getElem? (i := 10) rfl))))
  subst ha
  have hl := lv_entry ([.ref (ad 0), .int x1]) (n := 2) (Nat.le_of_ble_eq_true rfl)
  rw [lg_entry_eq]
  generalize (lg_sl ([.ref (ad 0), .int x1]) ++ List.replicate (2 - (lg_sl ([.ref (ad 0), .int x1])).length) Slot.unset).toArray = ls at hl ⊢
  have hl : lv_has ls 2 [(0, .ref (ad 0)), (1, .int x1)] := hl
  have hM := hM0
  have hS := hS0
  unfold f_X6_fit at hf
  refine lv_iload_n hx hb dX6_fit_0 rfl (lv_at hl 1 rfl) ?_
  obtain ⟨v1, e1, hf⟩ := ob_e1 hf
  refine ob_calli (va_runS (As := [.int x1]) (rest := []) ⟨hx, hb, hml, hown, hts⟩ (c_X6_isMan l dC dI ad cI cZ hI 1 (Nat.le_refl _) g x1  v1 e1) (va_cwS 1 hts gX6_fit_X6_isMan rfl rfl rfl hd_X6_isMan (ob_R (Nat.le_trans (by decide) hd) (by decide))) (ob_preS hK hM) rfl rfl hl.1 rfl (lv_room (Nat.le_of_ble_eq_true rfl)) dX6_fit_1 ⟨Nat.le_refl _, Nat.le_refl _⟩) hS (fun H locs hM hS => ?_)
  refine lv_if_ne (tgt := 9) hx hb dX6_fit_4 (by decide) (fun c2 => ?_) (fun c2 => ?_)
  · rw [if_neg c2] at hf
    refine lv_aload_n hx hb dX6_fit_9 rfl (lv_at hl 0 rfl) ?_
    refine ob_gr (j := 2) hx hb hts in_own hown hK hM (q := 0) shX_0 (C := RX6) (T := TX6) (N := 8) rfl 1 (by decide) hf_19 rfl dX6_fit_10 ?_
    refine lv_iload_n hx hb dX6_fit_13 rfl (lv_at hl 1 rfl) ?_
    obtain ⟨v3, e3, hf⟩ := ob_e1 hf
    refine ob_calli (va_runVN (As := [.int x1]) (rest := []) ⟨hx, hb, hml, hown, hts⟩ (c_X4_fitting l dC dI ad cI cZ hI 2 (Nat.le_refl _) 2 isTown_2 g x1  v3 e3) ⟨va_cnB 1 hts gX6_fit_X4_fitting_n131 rfl rfl rfl (ob_nl hK nw_X6_131) hi_X4 hd_X4_fitting (ob_R (Nat.le_trans (by decide) hd) (by decide)), hin_X4_fitting, hse_X4_fitting⟩ (ob_preV hK hM (q := 2) shX_2 rfl) rfl rfl hl.1 rfl (lv_room (Nat.le_of_ble_eq_true rfl)) dX6_fit_14 ⟨Nat.le_refl _, Nat.le_refl _⟩) hS (fun H locs hM hS => ?_)
    exact ob_iretR hx hb hr hlocks hM hS (v := v3) rfl hf dX6_fit_17
  · rw [if_pos c2] at hf
    refine lv_iconst (v := (-1)) hx hb dX6_fit_7 (by decide) ?_
    exact ob_iretR hx hb hr hlocks hM hS (v := (-1)) rfl hf dX6_fit_8
set_option maxHeartbeats 4000000 in
set_option maxRecDepth 100000 in
theorem c_X6_whyNone (l : Launch) (dC : Nat → ClassId) (dI : Nat → Nat → Nat) (ad : Nat → Nat) (cI cZ : ClassId) (hI : ob_inj shX ad) (d : Nat) (hd : 3 ≤ d) (g : Mm) (x1 : Int32) (r : Int32) (hf : f_X6_whyNone g x1 = some r) : ob_Mi l yX6_whyNone wsX6_whyNone d (dC, dI) vwCl shX ad cI cZ nwX [.ref (ad 0), .int x1] g r g := by
  refine ob_ofW (cc := cX6_whyNone) (maxL := 5) (ret := (some .int)) (by decide) rfl ?_
  intro p e s m args below meth c ha hx hb hr hml hts hown hlocks hM0 hK hS0
  have hown : s.vm.findClass RX6 = some m.cls := hown
  have in_own : ∀ w ∈ wsX60, w ∈ wsX6_whyNone := fun w h => (List.mem_cons_of_mem _ (List.mem_append_left _ (List.mem_append_left _ (List.mem_append_right _ h))))
  have hf_10 := hts (.fieldLink RX6 10 "OneWorse" "pad" "LOneWorse$Pad;") (List.mem_cons_of_mem _ (List.mem_append_left _ (List.mem_append_left _ (List.mem_append_left _ (List.mem_append_left _ (List.mem_of_getElem? (i := 0) rfl))))))
  have hi_X3 := hts (.initialized RX3) (List.mem_cons_of_mem _ (List.mem_append_left _ (List.mem_append_left _ (List.mem_append_left _ (List.mem_append_left _ (List.mem_of_getElem? (i := 3) rfl))))))
  have hin_X3_manAt := hts (.instanceMethod yX3_manAt) (List.mem_cons_of_mem _ (List.mem_append_left _ (List.mem_append_left _ (List.mem_append_left _ (List.mem_append_left _ (List.mem_of_getElem? (i := 2) rfl))))))
  have hse_X3_manAt := hts (.selects RX3 yX3_manAt yX3_manAt) (List.mem_cons_of_mem _ (List.mem_append_left _ (List.mem_append_left _ (List.mem_append_left _ (List.mem_append_left _ (List.mem_of_getElem? (i := 4) rfl))))))
  have hin_X3_insultAt := hts (.instanceMethod yX3_insultAt) (List.mem_cons_of_mem _ (List.mem_append_left _ (List.mem_append_left _ (List.mem_append_left _ (List.mem_append_left _ (List.mem_of_getElem? (i := 20) rfl))))))
  have hse_X3_insultAt := hts (.selects RX3 yX3_insultAt yX3_insultAt) (List.mem_cons_of_mem _ (List.mem_append_left _ (List.mem_append_left _ (List.mem_append_left _ (List.mem_append_left _ (List.mem_of_getElem? (i := 21) rfl))))))
  have hf_19 := hts (.fieldLink RX6 19 "OneWorse" "town" "LOneWorse$Town;") (List.mem_cons_of_mem _ (List.mem_append_left _ (List.mem_append_left _ (List.mem_append_left _ (List.mem_append_left _ (List.mem_of_getElem? (i := 1) rfl))))))
  have hi_X4 := hts (.initialized RX4) (List.mem_cons_of_mem _ (List.mem_append_left _ (List.mem_append_left _ (List.mem_append_left _ (List.mem_append_right _ (List.mem_append_left _ (List.mem_of_getElem? (i := 2) rfl)))))))
  have hin_X4_worseThan := hts (.instanceMethod yX4_worseThan) (List.mem_cons_of_mem _ (List.mem_append_left _ (List.mem_append_left _ (List.mem_append_left _ (List.mem_append_right _ (List.mem_append_left _ (List.mem_of_getElem? (i := 1) rfl)))))))
  have hse_X4_worseThan := hts (.selects RX4 yX4_worseThan yX4_worseThan) (List.mem_cons_of_mem _ (List.mem_append_left _ (List.mem_append_left _ (List.mem_append_left _ (List.mem_append_right _ (List.mem_append_left _ (List.mem_of_getElem? (i := 3) rfl)))))))
  have hin_X4_fitting := hts (.instanceMethod yX4_fitting) (List.mem_cons_of_mem _ (List.mem_append_left _ (List.mem_append_left _ (List.mem_append_left _ (List.mem_append_right _ (List.mem_append_left _ (List.mem_of_getElem? (i := 10) rfl)))))))
  have hse_X4_fitting := hts (.selects RX4 yX4_fitting yX4_fitting) (List.mem_cons_of_mem _ (List.mem_append_left _ (List.mem_append_left _ (List.mem_append_left _ (List.mem_append_right _ (List.mem_append_left _ (List.mem_of_getElem? (i := 11) rfl)))))))
  have hin_X4_knownTo := hts (.instanceMethod yX4_knownTo) (List.mem_cons_of_mem _ (List.mem_append_left _ (List.mem_append_left _ (List.mem_append_left _ (List.mem_append_right _ (List.mem_append_left _ (List.mem_of_getElem? (i := 23) rfl)))))))
  have hse_X4_knownTo := hts (.selects RX4 yX4_knownTo yX4_knownTo) (List.mem_cons_of_mem _ (List.mem_append_left _ (List.mem_append_left _ (List.mem_append_left _ (List.mem_append_right _ (List.mem_append_right _ (List.mem_of_getElem? (i := 0) rfl)))))))
  have w_59 : ∀ (k117 : Int32 → Int32 → Int32 → Option (Int32)) (hk117 : ∀ (x2 x3 s0 : Int32) (H : Heap) (locs : List Loc), va_P (dC, dI) vwCl (ob_ws shX ad cI cZ g) H → va_S (ob_A shX ad) s.heap H locs → ∀ (ls : Array Slot), lv_has ls 5 [(0, .ref (ad 0)), (2, .int x2), (3, .int x3)] → k117 x2 x3 s0 = some r → W p l e (rmN d) s m args below meth c H locs 0 0 (MQ below (ob_Qi (dC, dI) vwCl shX ad cI cZ r g) args s 0 0 (ob_A shX ad)) (F0 m 117 ls [.int s0])) (n : Nat), ∀ (x1 x2 x3 x4 : Int32) (H : Heap) (locs : List Loc), va_P (dC, dI) vwCl (ob_ws shX ad cI cZ g) H → va_S (ob_A shX ad) s.heap H locs → ∀ (ls : Array Slot), lv_has ls 5 [(0, .ref (ad 0)), (1, .int x1), (2, .int x2), (3, .int x3), (4, .int x4)] → f_X6_whyNone_L59 g k117 n x1 x2 x3 x4 = some r → W p l e (rmN d) s m args below meth c H locs 0 0 (MQ below (ob_Qi (dC, dI) vwCl shX ad cI cZ r g) args s 0 0 (ob_A shX ad)) (F0 m 59 ls []) := by
    intro k117 hk117 n
    induction n with
    | zero =>
      intro x1 x2 x3 x4 H locs hM hS ls hl hf
      cases hf
    | succ n ih =>
      intro x1 x2 x3 x4 H locs hM hS ls hl hf
      unfold f_X6_whyNone_L59 at hf
      refine lv_iload hx hb dX6_whyNone_59 (lv_at hl 4 rfl) ?_
      refine lv_iload_n hx hb dX6_whyNone_61 rfl (lv_at hl 1 rfl) ?_
      refine lv_icmp_ge (tgt := 90) hx hb dX6_whyNone_62 (by decide) (fun c8 => ?_) (fun c8 => ?_)
      · rw [if_pos c8] at hf
        refine lv_iload_n hx hb dX6_whyNone_90 rfl (lv_at hl 1 rfl) ?_
        refine lv_if_le (tgt := 109) hx hb dX6_whyNone_91 (by decide) (fun c9 => ?_) (fun c9 => ?_)
        · rw [if_pos c9] at hf
          refine lv_aload_n hx hb dX6_whyNone_109 rfl (lv_at hl 0 rfl) ?_
          refine ob_gr (j := 1) hx hb hts in_own hown hK hM (q := 0) shX_0 (C := RX6) (T := TX6) (N := 8) rfl 0 (by decide) hf_10 rfl dX6_whyNone_110 ?_
          refine lv_iconst (v := 2) hx hb dX6_whyNone_113 (by decide) ?_
          obtain ⟨v10, e10, hf⟩ := ob_e1 hf
          refine ob_calli (va_runVN (As := [.int 2]) (rest := []) ⟨hx, hb, hml, hown, hts⟩ (c_X3_manAt l dC dI ad cI cZ hI 2 (Nat.le_refl _) g 2  v10 e10) ⟨va_cnB 1 hts gX6_whyNone_X3_manAt_n215 rfl rfl rfl (ob_nl hK nw_X6_215) hi_X3 hd_X3_manAt (ob_R (Nat.le_trans (by decide) hd) (by decide)), hin_X3_manAt, hse_X3_manAt⟩ (ob_preV hK hM (q := 1) shX_1 rfl) rfl rfl hl.1 rfl (lv_room (Nat.le_of_ble_eq_true rfl)) dX6_whyNone_114 ⟨Nat.le_refl _, Nat.le_refl _⟩) hS (fun H locs hM hS => ?_)
          exact hk117 x2 x3 v10 _ _ hM hS _ (lv_sub hl [0, 2, 3] rfl) hf
        · rw [if_neg c9] at hf
          refine lv_aload_n hx hb dX6_whyNone_94 rfl (lv_at hl 0 rfl) ?_
          refine ob_gr (j := 1) hx hb hts in_own hown hK hM (q := 0) shX_0 (C := RX6) (T := TX6) (N := 8) rfl 0 (by decide) hf_10 rfl dX6_whyNone_95 ?_
          refine lv_iconst (v := 2) hx hb dX6_whyNone_98 (by decide) ?_
          refine lv_iload_n hx hb dX6_whyNone_99 rfl (lv_at hl 1 rfl) ?_
          refine lv_imul hx hb dX6_whyNone_100 ?_
          refine lv_iconst (v := 2) hx hb dX6_whyNone_101 (by decide) ?_
          refine lv_isub hx hb dX6_whyNone_102 ?_
          obtain ⟨v11, e11, hf⟩ := ob_e1 hf
          refine ob_calli (va_runVN (As := [.int ((2 * x1) - 2)]) (rest := []) ⟨hx, hb, hml, hown, hts⟩ (c_X3_manAt l dC dI ad cI cZ hI 2 (Nat.le_refl _) g ((2 * x1) - 2)  v11 e11) ⟨va_cnB 1 hts gX6_whyNone_X3_manAt_n215 rfl rfl rfl (ob_nl hK nw_X6_215) hi_X3 hd_X3_manAt (ob_R (Nat.le_trans (by decide) hd) (by decide)), hin_X3_manAt, hse_X3_manAt⟩ (ob_preV hK hM (q := 1) shX_1 rfl) rfl rfl hl.1 rfl (lv_room (Nat.le_of_ble_eq_true rfl)) dX6_whyNone_103 ⟨Nat.le_refl _, Nat.le_refl _⟩) hS (fun H locs hM hS => ?_)
          refine lv_goto (tgt := 117) hx hb dX6_whyNone_106 (by decide) ?_
          exact hk117 x2 x3 v11 _ _ hM hS _ (lv_sub hl [0, 2, 3] rfl) hf
      · rw [if_neg c8] at hf
        refine lv_aload_n hx hb dX6_whyNone_65 rfl (lv_at hl 0 rfl) ?_
        refine ob_gr (j := 1) hx hb hts in_own hown hK hM (q := 0) shX_0 (C := RX6) (T := TX6) (N := 8) rfl 0 (by decide) hf_10 rfl dX6_whyNone_66 ?_
        refine lv_iconst (v := 2) hx hb dX6_whyNone_69 (by decide) ?_
        refine lv_iload hx hb dX6_whyNone_70 (lv_at hl 4 rfl) ?_
        refine lv_imul hx hb dX6_whyNone_72 ?_
        refine lv_iconst (v := 1) hx hb dX6_whyNone_73 (by decide) ?_
        refine lv_iadd hx hb dX6_whyNone_74 ?_
        obtain ⟨v12, e12, hf⟩ := ob_e1 hf
        refine ob_calli (va_runVN (As := [.int ((2 * x4) + 1)]) (rest := []) ⟨hx, hb, hml, hown, hts⟩ (c_X3_insultAt l dC dI ad cI cZ hI 2 (Nat.le_refl _) g ((2 * x4) + 1)  v12 e12) ⟨va_cnB 1 hts gX6_whyNone_X3_insultAt_n88 rfl rfl rfl (ob_nl hK nw_X6_88) hi_X3 hd_X3_insultAt (ob_R (Nat.le_trans (by decide) hd) (by decide)), hin_X3_insultAt, hse_X3_insultAt⟩ (ob_preV hK hM (q := 1) shX_1 rfl) rfl rfl hl.1 rfl (lv_room (Nat.le_of_ble_eq_true rfl)) dX6_whyNone_75 ⟨Nat.le_refl _, Nat.le_refl _⟩) hS (fun H locs hM hS => ?_)
        refine lv_iload_n hx hb dX6_whyNone_78 rfl (lv_at hl 3 rfl) ?_
        refine lv_icmp_ne (tgt := 84) hx hb dX6_whyNone_79 (by decide) (fun c13 => ?_) (fun c13 => ?_)
        · rw [if_neg c13] at hf
          refine lv_iinc (v := (x4 + 1)) (lv' := [(4, .int (x4 + 1)), (0, .ref (ad 0)), (1, .int x1), (2, .int x2), (3, .int x3)]) hx hb dX6_whyNone_84 hl (k := 4) rfl rfl (by decide) rfl (fun ls hl => ?_)
          refine lv_goto (tgt := 59) hx hb dX6_whyNone_87 (by decide) ?_
          exact ih x1 x2 x3 (x4 + 1) _ _ hM hS _ (lv_sub hl [1, 2, 3, 4, 0] rfl) hf
        · rw [if_pos c13] at hf
          refine lv_iconst (v := 2) hx hb dX6_whyNone_82 (by decide) ?_
          exact ob_iretR hx hb hr hlocks hM hS (v := 2) rfl hf dX6_whyNone_83
  have w_145 : ∀ (x2 x3 : Int32) (H : Heap) (locs : List Loc), va_P (dC, dI) vwCl (ob_ws shX ad cI cZ g) H → va_S (ob_A shX ad) s.heap H locs → ∀ (ls : Array Slot), lv_has ls 5 [(0, .ref (ad 0)), (2, .int x2), (3, .int x3)] → f_X6_whyNone_J145 g x2 x3 = some r → W p l e (rmN d) s m args below meth c H locs 0 0 (MQ below (ob_Qi (dC, dI) vwCl shX ad cI cZ r g) args s 0 0 (ob_A shX ad)) (F0 m 145 ls []) := by
    intro x2 x3 H locs hM hS ls hl hf
    unfold f_X6_whyNone_J145 at hf
    refine lv_aload_n hx hb dX6_whyNone_145 rfl (lv_at hl 0 rfl) ?_
    refine ob_gr (j := 2) hx hb hts in_own hown hK hM (q := 0) shX_0 (C := RX6) (T := TX6) (N := 8) rfl 1 (by decide) hf_19 rfl dX6_whyNone_146 ?_
    refine lv_iload_n hx hb dX6_whyNone_149 rfl (lv_at hl 1 rfl) ?_
    obtain ⟨v19, e19, hf⟩ := ob_e1 hf
    refine ob_calli (va_runVN (As := [.int x2]) (rest := []) ⟨hx, hb, hml, hown, hts⟩ (c_X4_knownTo l dC dI ad cI cZ hI 1 (Nat.le_refl _) 2 isTown_2 g x2  v19 e19) ⟨va_cnB 1 hts gX6_whyNone_X4_knownTo_n125 rfl rfl rfl (ob_nl hK nw_X6_125) hi_X4 hd_X4_knownTo (ob_R (Nat.le_trans (by decide) hd) (by decide)), hin_X4_knownTo, hse_X4_knownTo⟩ (ob_preV hK hM (q := 2) shX_2 rfl) rfl rfl hl.1 rfl (lv_room (Nat.le_of_ble_eq_true rfl)) dX6_whyNone_150 ⟨Nat.le_refl _, Nat.le_refl _⟩) hS (fun H locs hM hS => ?_)
    refine lv_iload_n hx hb dX6_whyNone_153 rfl (lv_at hl 2 rfl) ?_
    obtain ⟨v20, e20, hf⟩ := ob_e1 hf
    refine ob_calli (va_runS (As := [.int v19, .int x3]) (rest := []) ⟨hx, hb, hml, hown, hts⟩ (c_X6_has l dC dI ad cI cZ hI 0 (Nat.le_refl _) g v19 x3  v20 e20) (va_cwS 2 hts gX6_whyNone_X6_has rfl rfl rfl hd_X6_has (ob_R (Nat.le_trans (by decide) hd) (by decide))) (ob_preS hK hM) rfl rfl hl.1 rfl (lv_room (Nat.le_of_ble_eq_true rfl)) dX6_whyNone_154 ⟨Nat.le_refl _, Nat.le_refl _⟩) hS (fun H locs hM hS => ?_)
    refine lv_if_eq (tgt := 164) hx hb dX6_whyNone_157 (by decide) (fun c21 => ?_) (fun c21 => ?_)
    · rw [if_pos c21] at hf
      refine lv_iconst (v := 4) hx hb dX6_whyNone_164 (by decide) ?_
      exact ob_iretR hx hb hr hlocks hM hS (v := 4) rfl hf dX6_whyNone_165
    · rw [if_neg c21] at hf
      refine lv_iconst (v := 0) hx hb dX6_whyNone_160 (by decide) ?_
      refine lv_goto (tgt := 165) hx hb dX6_whyNone_161 (by decide) ?_
      exact ob_iretR hx hb hr hlocks hM hS (v := 0) rfl hf dX6_whyNone_165
  have w_117 : ∀ (x2 x3 s0 : Int32) (H : Heap) (locs : List Loc), va_P (dC, dI) vwCl (ob_ws shX ad cI cZ g) H → va_S (ob_A shX ad) s.heap H locs → ∀ (ls : Array Slot), lv_has ls 5 [(0, .ref (ad 0)), (2, .int x2), (3, .int x3)] → f_X6_whyNone_J117 g x2 x3 s0 = some r → W p l e (rmN d) s m args below meth c H locs 0 0 (MQ below (ob_Qi (dC, dI) vwCl shX ad cI cZ r g) args s 0 0 (ob_A shX ad)) (F0 m 117 ls [.int s0]) := by
    intro x2 x3 s0 H locs hM hS ls hl hf
    unfold f_X6_whyNone_J117 at hf
    refine lv_istore (lv' := [(4, .int s0), (0, .ref (ad 0)), (2, .int x2), (3, .int x3)]) hx hb dX6_whyNone_117 hl (by decide) rfl (fun ls hl => ?_)
    refine lv_iload hx hb dX6_whyNone_119 (lv_at hl 0 rfl) ?_
    obtain ⟨v14, e14, hf⟩ := ob_e1 hf
    refine ob_calli (va_runS (As := [.int s0]) (rest := []) ⟨hx, hb, hml, hown, hts⟩ (c_X6_isMan l dC dI ad cI cZ hI 1 (Nat.le_refl _) g s0  v14 e14) (va_cwS 1 hts gX6_whyNone_X6_isMan rfl rfl rfl hd_X6_isMan (ob_R (Nat.le_trans (by decide) hd) (by decide))) (ob_preS hK hM) rfl rfl hl.1 rfl (lv_room (Nat.le_of_ble_eq_true rfl)) dX6_whyNone_121 ⟨Nat.le_refl _, Nat.le_refl _⟩) hS (fun H locs hM hS => ?_)
    refine lv_if_eq (tgt := 145) hx hb dX6_whyNone_124 (by decide) (fun c15 => ?_) (fun c15 => ?_)
    · rw [if_pos c15] at hf
      exact w_145 x2 x3 _ _ hM hS _ (lv_sub hl [1, 2, 3] rfl) hf
    · rw [if_neg c15] at hf
      refine lv_aload_n hx hb dX6_whyNone_127 rfl (lv_at hl 1 rfl) ?_
      refine ob_gr (j := 2) hx hb hts in_own hown hK hM (q := 0) shX_0 (C := RX6) (T := TX6) (N := 8) rfl 1 (by decide) hf_19 rfl dX6_whyNone_128 ?_
      refine lv_iload hx hb dX6_whyNone_131 (lv_at hl 0 rfl) ?_
      obtain ⟨v16, e16, hf⟩ := ob_e1 hf
      refine ob_calli (va_runVN (As := [.int s0]) (rest := []) ⟨hx, hb, hml, hown, hts⟩ (c_X4_fitting l dC dI ad cI cZ hI 2 (Nat.le_refl _) 2 isTown_2 g s0  v16 e16) ⟨va_cnB 1 hts gX6_whyNone_X4_fitting_n131 rfl rfl rfl (ob_nl hK nw_X6_131) hi_X4 hd_X4_fitting (ob_R (Nat.le_trans (by decide) hd) (by decide)), hin_X4_fitting, hse_X4_fitting⟩ (ob_preV hK hM (q := 2) shX_2 rfl) rfl rfl hl.1 rfl (lv_room (Nat.le_of_ble_eq_true rfl)) dX6_whyNone_133 ⟨Nat.le_refl _, Nat.le_refl _⟩) hS (fun H locs hM hS => ?_)
      refine lv_iload_n hx hb dX6_whyNone_136 rfl (lv_at hl 3 rfl) ?_
      obtain ⟨v17, e17, hf⟩ := ob_e1 hf
      refine ob_calli (va_runS (As := [.int v16, .int x3]) (rest := []) ⟨hx, hb, hml, hown, hts⟩ (c_X6_has l dC dI ad cI cZ hI 0 (Nat.le_refl _) g v16 x3  v17 e17) (va_cwS 2 hts gX6_whyNone_X6_has rfl rfl rfl hd_X6_has (ob_R (Nat.le_trans (by decide) hd) (by decide))) (ob_preS hK hM) rfl rfl hl.1 rfl (lv_room (Nat.le_of_ble_eq_true rfl)) dX6_whyNone_137 ⟨Nat.le_refl _, Nat.le_refl _⟩) hS (fun H locs hM hS => ?_)
      refine lv_if_ne (tgt := 145) hx hb dX6_whyNone_140 (by decide) (fun c18 => ?_) (fun c18 => ?_)
      · rw [if_neg c18] at hf
        exact w_145 x2 x3 _ _ hM hS _ (lv_sub hl [1, 2, 3] rfl) hf
      · rw [if_pos c18] at hf
        refine lv_iconst (v := 3) hx hb dX6_whyNone_143 (by decide) ?_
        exact ob_iretR hx hb hr hlocks hM hS (v := 3) rfl hf dX6_whyNone_144
  have w_56 : ∀ (x1 x2 x3 : Int32) (H : Heap) (locs : List Loc), va_P (dC, dI) vwCl (ob_ws shX ad cI cZ g) H → va_S (ob_A shX ad) s.heap H locs → ∀ (ls : Array Slot), lv_has ls 5 [(0, .ref (ad 0)), (1, .int x1), (2, .int x2), (3, .int x3)] → f_X6_whyNone_J56 g x1 x2 x3 = some r → W p l e (rmN d) s m args below meth c H locs 0 0 (MQ below (ob_Qi (dC, dI) vwCl shX ad cI cZ r g) args s 0 0 (ob_A shX ad)) (F0 m 56 ls []) := by
    intro x1 x2 x3 H locs hM hS ls hl hf
    unfold f_X6_whyNone_J56 at hf
    refine lv_iconst (v := 0) hx hb dX6_whyNone_56 (by decide) ?_
    refine lv_istore (lv' := [(4, .int 0), (0, .ref (ad 0)), (1, .int x1), (2, .int x2), (3, .int x3)]) hx hb dX6_whyNone_57 hl (by decide) rfl (fun ls hl => ?_)
    exact w_59 (f_X6_whyNone_J117 g) (w_117) FU x1 x2 x3 0 _ _ hM hS _ (lv_sub hl [1, 2, 3, 4, 0] rfl) hf
  subst ha
  have hl := lv_entry ([.ref (ad 0), .int x1]) (n := 5) (Nat.le_of_ble_eq_true rfl)
  rw [lg_entry_eq]
  generalize (lg_sl ([.ref (ad 0), .int x1]) ++ List.replicate (5 - (lg_sl ([.ref (ad 0), .int x1])).length) Slot.unset).toArray = ls at hl ⊢
  have hl : lv_has ls 5 [(0, .ref (ad 0)), (1, .int x1)] := hl
  have hM := hM0
  have hS := hS0
  unfold f_X6_whyNone at hf
  refine lv_aload_n hx hb dX6_whyNone_0 rfl (lv_at hl 0 rfl) ?_
  refine ob_gr (j := 1) hx hb hts in_own hown hK hM (q := 0) shX_0 (C := RX6) (T := TX6) (N := 8) rfl 0 (by decide) hf_10 rfl dX6_whyNone_1 ?_
  refine lv_iconst (v := 2) hx hb dX6_whyNone_4 (by decide) ?_
  refine lv_iload_n hx hb dX6_whyNone_5 rfl (lv_at hl 1 rfl) ?_
  refine lv_imul hx hb dX6_whyNone_6 ?_
  obtain ⟨v1, e1, hf⟩ := ob_e1 hf
  refine ob_calli (va_runVN (As := [.int (2 * x1)]) (rest := []) ⟨hx, hb, hml, hown, hts⟩ (c_X3_manAt l dC dI ad cI cZ hI 2 (Nat.le_refl _) g (2 * x1)  v1 e1) ⟨va_cnB 1 hts gX6_whyNone_X3_manAt_n215 rfl rfl rfl (ob_nl hK nw_X6_215) hi_X3 hd_X3_manAt (ob_R (Nat.le_trans (by decide) hd) (by decide)), hin_X3_manAt, hse_X3_manAt⟩ (ob_preV hK hM (q := 1) shX_1 rfl) rfl rfl hl.1 rfl (lv_room (Nat.le_of_ble_eq_true rfl)) dX6_whyNone_7 ⟨Nat.le_refl _, Nat.le_refl _⟩) hS (fun H locs hM hS => ?_)
  refine lv_istore_n (lv' := [(2, .int v1), (0, .ref (ad 0)), (1, .int x1)]) hx hb dX6_whyNone_10 rfl hl (by decide) rfl (fun ls hl => ?_)
  refine lv_aload_n hx hb dX6_whyNone_11 rfl (lv_at hl 1 rfl) ?_
  refine ob_gr (j := 1) hx hb hts in_own hown hK hM (q := 0) shX_0 (C := RX6) (T := TX6) (N := 8) rfl 0 (by decide) hf_10 rfl dX6_whyNone_12 ?_
  refine lv_iconst (v := 2) hx hb dX6_whyNone_15 (by decide) ?_
  refine lv_iload_n hx hb dX6_whyNone_16 rfl (lv_at hl 2 rfl) ?_
  refine lv_imul hx hb dX6_whyNone_17 ?_
  refine lv_iconst (v := 1) hx hb dX6_whyNone_18 (by decide) ?_
  refine lv_iadd hx hb dX6_whyNone_19 ?_
  obtain ⟨v2, e2, hf⟩ := ob_e1 hf
  refine ob_calli (va_runVN (As := [.int ((2 * x1) + 1)]) (rest := []) ⟨hx, hb, hml, hown, hts⟩ (c_X3_insultAt l dC dI ad cI cZ hI 2 (Nat.le_refl _) g ((2 * x1) + 1)  v2 e2) ⟨va_cnB 1 hts gX6_whyNone_X3_insultAt_n88 rfl rfl rfl (ob_nl hK nw_X6_88) hi_X3 hd_X3_insultAt (ob_R (Nat.le_trans (by decide) hd) (by decide)), hin_X3_insultAt, hse_X3_insultAt⟩ (ob_preV hK hM (q := 1) shX_1 rfl) rfl rfl hl.1 rfl (lv_room (Nat.le_of_ble_eq_true rfl)) dX6_whyNone_20 ⟨Nat.le_refl _, Nat.le_refl _⟩) hS (fun H locs hM hS => ?_)
  refine lv_istore_n (lv' := [(3, .int v2), (2, .int v1), (0, .ref (ad 0)), (1, .int x1)]) hx hb dX6_whyNone_23 rfl hl (by decide) rfl (fun ls hl => ?_)
  refine lv_iload_n hx hb dX6_whyNone_24 rfl (lv_at hl 3 rfl) ?_
  refine lv_if_le (tgt := 56) hx hb dX6_whyNone_25 (by decide) (fun c3 => ?_) (fun c3 => ?_)
  · rw [if_pos c3] at hf
    exact w_56 x1 v1 v2 _ _ hM hS _ (lv_sub hl [2, 3, 1, 0] rfl) hf
  · rw [if_neg c3] at hf
    refine lv_aload_n hx hb dX6_whyNone_28 rfl (lv_at hl 2 rfl) ?_
    refine ob_gr (j := 2) hx hb hts in_own hown hK hM (q := 0) shX_0 (C := RX6) (T := TX6) (N := 8) rfl 1 (by decide) hf_19 rfl dX6_whyNone_29 ?_
    refine lv_aload_n hx hb dX6_whyNone_32 rfl (lv_at hl 2 rfl) ?_
    refine ob_gr (j := 1) hx hb hts in_own hown hK hM (q := 0) shX_0 (C := RX6) (T := TX6) (N := 8) rfl 0 (by decide) hf_10 rfl dX6_whyNone_33 ?_
    refine lv_iconst (v := 2) hx hb dX6_whyNone_36 (by decide) ?_
    refine lv_iload_n hx hb dX6_whyNone_37 rfl (lv_at hl 3 rfl) ?_
    refine lv_imul hx hb dX6_whyNone_38 ?_
    refine lv_iconst (v := 1) hx hb dX6_whyNone_39 (by decide) ?_
    refine lv_isub hx hb dX6_whyNone_40 ?_
    obtain ⟨v4, e4, hf⟩ := ob_e1 hf
    refine ob_calli (va_runVN (As := [.int ((2 * x1) - 1)]) (rest := [.ref (ad 2)]) ⟨hx, hb, hml, hown, hts⟩ (c_X3_insultAt l dC dI ad cI cZ hI 2 (Nat.le_refl _) g ((2 * x1) - 1)  v4 e4) ⟨va_cnB 1 hts gX6_whyNone_X3_insultAt_n88 rfl rfl rfl (ob_nl hK nw_X6_88) hi_X3 hd_X3_insultAt (ob_R (Nat.le_trans (by decide) hd) (by decide)), hin_X3_insultAt, hse_X3_insultAt⟩ (ob_preV hK hM (q := 1) shX_1 rfl) rfl rfl hl.1 rfl (lv_room (Nat.le_of_ble_eq_true rfl)) dX6_whyNone_41 ⟨Nat.le_refl _, Nat.le_refl _⟩) hS (fun H locs hM hS => ?_)
    obtain ⟨v5, e5, hf⟩ := ob_e1 hf
    refine ob_calli (va_runVN (As := [.int v4]) (rest := []) ⟨hx, hb, hml, hown, hts⟩ (c_X4_worseThan l dC dI ad cI cZ hI 1 (Nat.le_refl _) 2 isTown_2 g v4  v5 e5) ⟨va_cnB 1 hts gX6_whyNone_X4_worseThan_n102 rfl rfl rfl (ob_nl hK nw_X6_102) hi_X4 hd_X4_worseThan (ob_R (Nat.le_trans (by decide) hd) (by decide)), hin_X4_worseThan, hse_X4_worseThan⟩ (ob_preV hK hM (q := 2) shX_2 rfl) rfl rfl hl.1 rfl (lv_room (Nat.le_of_ble_eq_true rfl)) dX6_whyNone_44 ⟨Nat.le_refl _, Nat.le_refl _⟩) hS (fun H locs hM hS => ?_)
    refine lv_iload_n hx hb dX6_whyNone_47 rfl (lv_at hl 0 rfl) ?_
    obtain ⟨v6, e6, hf⟩ := ob_e1 hf
    refine ob_calli (va_runS (As := [.int v5, .int v2]) (rest := []) ⟨hx, hb, hml, hown, hts⟩ (c_X6_has l dC dI ad cI cZ hI 0 (Nat.le_refl _) g v5 v2  v6 e6) (va_cwS 2 hts gX6_whyNone_X6_has rfl rfl rfl hd_X6_has (ob_R (Nat.le_trans (by decide) hd) (by decide))) (ob_preS hK hM) rfl rfl hl.1 rfl (lv_room (Nat.le_of_ble_eq_true rfl)) dX6_whyNone_48 ⟨Nat.le_refl _, Nat.le_refl _⟩) hS (fun H locs hM hS => ?_)
    refine lv_if_ne (tgt := 56) hx hb dX6_whyNone_51 (by decide) (fun c7 => ?_) (fun c7 => ?_)
    · rw [if_neg c7] at hf
      exact w_56 x1 v1 v2 _ _ hM hS _ (lv_sub hl [2, 3, 1, 0] rfl) hf
    · rw [if_pos c7] at hf
      refine lv_iconst (v := 1) hx hb dX6_whyNone_54 (by decide) ?_
      exact ob_iretR hx hb hr hlocks hM hS (v := 1) rfl hf dX6_whyNone_55
set_option maxHeartbeats 4000000 in
set_option maxRecDepth 100000 in
theorem c_X6_judge (l : Launch) (dC : Nat → ClassId) (dI : Nat → Nat → Nat) (ad : Nat → Nat) (cI cZ : ClassId) (hI : ob_inj shX ad) (d : Nat) (hd : 5 ≤ d) (g : Mm) (x1 : Int32) (r : Int32) (hf : f_X6_judge g x1 = some r) : ob_Mi l yX6_judge wsX6_judge d (dC, dI) vwCl shX ad cI cZ nwX [.ref (ad 0), .int x1] g r g := by
  refine ob_ofW (cc := cX6_judge) (maxL := 5) (ret := (some .int)) (by decide) rfl ?_
  intro p e s m args below meth c ha hx hb hr hml hts hown hlocks hM0 hK hS0
  have hown : s.vm.findClass RX6 = some m.cls := hown
  have in_own : ∀ w ∈ wsX60, w ∈ wsX6_judge := fun w h => (List.mem_cons_of_mem _ (List.mem_append_left _ (List.mem_append_left _ (List.mem_append_right _ h))))
  have hf_10 := hts (.fieldLink RX6 10 "OneWorse" "pad" "LOneWorse$Pad;") (List.mem_cons_of_mem _ (List.mem_append_left _ (List.mem_append_left _ (List.mem_append_left _ (List.mem_append_left _ (List.mem_of_getElem? (i := 0) rfl))))))
  have hi_X3 := hts (.initialized RX3) (List.mem_cons_of_mem _ (List.mem_append_left _ (List.mem_append_left _ (List.mem_append_left _ (List.mem_append_left _ (List.mem_of_getElem? (i := 6) rfl))))))
  have hin_X3_faultAsQuarrel := hts (.instanceMethod yX3_faultAsQuarrel) (List.mem_cons_of_mem _ (List.mem_append_left _ (List.mem_append_left _ (List.mem_append_left _ (List.mem_append_left _ (List.mem_of_getElem? (i := 5) rfl))))))
  have hse_X3_faultAsQuarrel := hts (.selects RX3 yX3_faultAsQuarrel yX3_faultAsQuarrel) (List.mem_cons_of_mem _ (List.mem_append_left _ (List.mem_append_left _ (List.mem_append_left _ (List.mem_append_left _ (List.mem_of_getElem? (i := 7) rfl))))))
  have hin_X3_size := hts (.instanceMethod yX3_size) (List.mem_cons_of_mem _ (List.mem_append_left _ (List.mem_append_left _ (List.mem_append_left _ (List.mem_append_right _ (List.mem_append_left _ (List.mem_of_getElem? (i := 9) rfl)))))))
  have hse_X3_size := hts (.selects RX3 yX3_size yX3_size) (List.mem_cons_of_mem _ (List.mem_append_left _ (List.mem_append_left _ (List.mem_append_left _ (List.mem_append_right _ (List.mem_append_left _ (List.mem_of_getElem? (i := 10) rfl)))))))
  have w_39 : ∀ (n : Nat), ∀ (x1 x2 x3 : Int32) (H : Heap) (locs : List Loc), va_P (dC, dI) vwCl (ob_ws shX ad cI cZ g) H → va_S (ob_A shX ad) s.heap H locs → ∀ (ls : Array Slot), lv_has ls 5 [(0, .ref (ad 0)), (1, .int x1), (2, .int x2), (3, .int x3)] → f_X6_judge_L39 g n x1 x2 x3 = some r → W p l e (rmN d) s m args below meth c H locs 0 0 (MQ below (ob_Qi (dC, dI) vwCl shX ad cI cZ r g) args s 0 0 (ob_A shX ad)) (F0 m 39 ls []) := by
    intro n
    induction n with
    | zero =>
      intro x1 x2 x3 H locs hM hS ls hl hf
      cases hf
    | succ n ih =>
      intro x1 x2 x3 H locs hM hS ls hl hf
      unfold f_X6_judge_L39 at hf
      refine lv_iload_n hx hb dX6_judge_39 rfl (lv_at hl 3 rfl) ?_
      refine lv_iload_n hx hb dX6_judge_40 rfl (lv_at hl 2 rfl) ?_
      refine lv_icmp_ge (tgt := 73) hx hb dX6_judge_41 (by decide) (fun c6 => ?_) (fun c6 => ?_)
      · rw [if_pos c6] at hf
        refine lv_bipush (v := (-6)) hx hb dX6_judge_73 (by decide) ?_
        exact ob_iretR hx hb hr hlocks hM hS (v := (-6)) rfl hf dX6_judge_75
      · rw [if_neg c6] at hf
        refine lv_aload_n hx hb dX6_judge_44 rfl (lv_at hl 0 rfl) ?_
        refine lv_iload_n hx hb dX6_judge_45 rfl (lv_at hl 3 rfl) ?_
        obtain ⟨v7, e7, hf⟩ := ob_e1 hf
        refine ob_calli (va_runV (As := [.int x3]) (rest := []) ⟨hx, hb, hml, hown, hts⟩ (c_X6_whyNone l dC dI ad cI cZ hI 3 (Nat.le_refl _) g x3  v7 e7) (cwV 1 hts gX6_judge_X6_whyNone rfl rfl rfl ⟨rfl, hd_X6_whyNone⟩ (ob_R (Nat.le_trans (by decide) hd) (by decide))) (ob_preV hK hM (q := 0) shX_0 rfl) rfl rfl hl.1 rfl (lv_room (Nat.le_of_ble_eq_true rfl)) dX6_judge_46 ⟨Nat.le_refl _, Nat.le_refl _⟩) hS (fun H locs hM hS => ?_)
        refine lv_istore (lv' := [(4, .int v7), (0, .ref (ad 0)), (1, .int x1), (2, .int x2), (3, .int x3)]) hx hb dX6_judge_49 hl (by decide) rfl (fun ls hl => ?_)
        refine lv_iload hx hb dX6_judge_51 (lv_at hl 0 rfl) ?_
        refine lv_if_eq (tgt := 67) hx hb dX6_judge_53 (by decide) (fun c8 => ?_) (fun c8 => ?_)
        · rw [if_pos c8] at hf
          refine lv_iinc (v := (x3 + 1)) (lv' := [(3, .int (x3 + 1)), (4, .int v7), (0, .ref (ad 0)), (1, .int x1), (2, .int x2)]) hx hb dX6_judge_67 hl (k := 4) rfl rfl (by decide) rfl (fun ls hl => ?_)
          refine lv_goto (tgt := 39) hx hb dX6_judge_70 (by decide) ?_
          exact ih x1 x2 (x3 + 1) _ _ hM hS _ (lv_sub hl [2, 3, 4, 0] rfl) hf
        · rw [if_neg c8] at hf
          refine lv_iload_n hx hb dX6_judge_56 rfl (lv_at hl 2 rfl) ?_
          refine lv_if_ne (tgt := 64) hx hb dX6_judge_57 (by decide) (fun c9 => ?_) (fun c9 => ?_)
          · rw [if_neg c9] at hf
            refine lv_iload hx hb dX6_judge_64 (lv_at hl 0 rfl) ?_
            exact ob_iretR hx hb hr hlocks hM hS (v := v7) rfl hf dX6_judge_66
          · rw [if_pos c9] at hf
            refine lv_iload_n hx hb dX6_judge_60 rfl (lv_at hl 4 rfl) ?_
            refine lv_goto (tgt := 66) hx hb dX6_judge_61 (by decide) ?_
            exact ob_iretR hx hb hr hlocks hM hS (v := x3) rfl hf dX6_judge_66
  subst ha
  have hl := lv_entry ([.ref (ad 0), .int x1]) (n := 5) (Nat.le_of_ble_eq_true rfl)
  rw [lg_entry_eq]
  generalize (lg_sl ([.ref (ad 0), .int x1]) ++ List.replicate (5 - (lg_sl ([.ref (ad 0), .int x1])).length) Slot.unset).toArray = ls at hl ⊢
  have hl : lv_has ls 5 [(0, .ref (ad 0)), (1, .int x1)] := hl
  have hM := hM0
  have hS := hS0
  unfold f_X6_judge at hf
  refine lv_iload_n hx hb dX6_judge_0 rfl (lv_at hl 1 rfl) ?_
  refine lv_iconst (v := 0) hx hb dX6_judge_1 (by decide) ?_
  refine lv_iconst (v := 1) hx hb dX6_judge_2 (by decide) ?_
  obtain ⟨v1, e1, hf⟩ := ob_e1 hf
  refine ob_calli (va_runS (As := [.int x1, .int 0, .int 1]) (rest := []) ⟨hx, hb, hml, hown, hts⟩ (c_X6_within l dC dI ad cI cZ hI 0 (Nat.le_refl _) g x1 0 1  v1 e1) (va_cwS 3 hts gX6_judge_X6_within rfl rfl rfl hd_X6_within (ob_R (Nat.le_trans (by decide) hd) (by decide))) (ob_preS hK hM) rfl rfl hl.1 rfl (lv_room (Nat.le_of_ble_eq_true rfl)) dX6_judge_3 ⟨Nat.le_refl _, Nat.le_refl _⟩) hS (fun H locs hM hS => ?_)
  refine lv_if_ne (tgt := 12) hx hb dX6_judge_6 (by decide) (fun c2 => ?_) (fun c2 => ?_)
  · rw [if_neg c2] at hf
    refine lv_aload_n hx hb dX6_judge_12 rfl (lv_at hl 0 rfl) ?_
    refine ob_gr (j := 1) hx hb hts in_own hown hK hM (q := 0) shX_0 (C := RX6) (T := TX6) (N := 8) rfl 0 (by decide) hf_10 rfl dX6_judge_13 ?_
    obtain ⟨v3, e3, hf⟩ := ob_e1 hf
    refine ob_calli (va_runVN (As := []) (rest := []) ⟨hx, hb, hml, hown, hts⟩ (c_X3_faultAsQuarrel l dC dI ad cI cZ hI 4 (Nat.le_refl _) g  v3 e3) ⟨va_cnB 0 hts gX6_judge_X3_faultAsQuarrel_n81 rfl rfl rfl (ob_nl hK nw_X6_81) hi_X3 hd_X3_faultAsQuarrel (ob_R (Nat.le_trans (by decide) hd) (by decide)), hin_X3_faultAsQuarrel, hse_X3_faultAsQuarrel⟩ (ob_preV hK hM (q := 1) shX_1 rfl) rfl rfl hl.1 rfl (lv_room (Nat.le_of_ble_eq_true rfl)) dX6_judge_16 ⟨Nat.le_refl _, Nat.le_refl _⟩) hS (fun H locs hM hS => ?_)
    refine lv_bipush (v := (-6)) hx hb dX6_judge_19 (by decide) ?_
    refine lv_icmp_eq (tgt := 27) hx hb dX6_judge_21 (by decide) (fun c4 => ?_) (fun c4 => ?_)
    · rw [if_pos c4] at hf
      refine lv_aload_n hx hb dX6_judge_27 rfl (lv_at hl 0 rfl) ?_
      refine ob_gr (j := 1) hx hb hts in_own hown hK hM (q := 0) shX_0 (C := RX6) (T := TX6) (N := 8) rfl 0 (by decide) hf_10 rfl dX6_judge_28 ?_
      obtain ⟨v5, e5, hf⟩ := ob_e1 hf
      refine ob_calli (va_runVN (As := []) (rest := []) ⟨hx, hb, hml, hown, hts⟩ (c_X3_size l dC dI ad cI cZ hI 0 (Nat.le_refl _) g  v5 e5) ⟨va_cnB 0 hts gX6_judge_X3_size_n71 rfl rfl rfl (ob_nl hK nw_X6_71) hi_X3 hd_X3_size (ob_R (Nat.le_trans (by decide) hd) (by decide)), hin_X3_size, hse_X3_size⟩ (ob_preV hK hM (q := 1) shX_1 rfl) rfl rfl hl.1 rfl (lv_room (Nat.le_of_ble_eq_true rfl)) dX6_judge_31 ⟨Nat.le_refl _, Nat.le_refl _⟩) hS (fun H locs hM hS => ?_)
      refine lv_iconst (v := 2) hx hb dX6_judge_34 (by decide) ?_
      refine lv_idiv hx hb dX6_judge_35 (by decide) ?_
      refine lv_istore_n (lv' := [(2, .int (v5 / 2)), (0, .ref (ad 0)), (1, .int x1)]) hx hb dX6_judge_36 rfl hl (by decide) rfl (fun ls hl => ?_)
      refine lv_iconst (v := 0) hx hb dX6_judge_37 (by decide) ?_
      refine lv_istore_n (lv' := [(3, .int 0), (2, .int (v5 / 2)), (0, .ref (ad 0)), (1, .int x1)]) hx hb dX6_judge_38 rfl hl (by decide) rfl (fun ls hl => ?_)
      exact w_39 FU x1 (v5 / 2) 0 _ _ hM hS _ (lv_sub hl [2, 3, 1, 0] rfl) hf
    · rw [if_neg c4] at hf
      refine lv_bipush (v := (-5)) hx hb dX6_judge_24 (by decide) ?_
      exact ob_iretR hx hb hr hlocks hM hS (v := (-5)) rfl hf dX6_judge_26
  · rw [if_pos c2] at hf
    refine lv_bipush (v := (-2)) hx hb dX6_judge_9 (by decide) ?_
    exact ob_iretR hx hb hr hlocks hM hS (v := (-2)) rfl hf dX6_judge_11
set_option maxHeartbeats 4000000 in
set_option maxRecDepth 100000 in
theorem c_X6_areTwo (l : Launch) (dC : Nat → ClassId) (dI : Nat → Nat → Nat) (ad : Nat → Nat) (cI cZ : ClassId) (hI : ob_inj shX ad) (d : Nat) (hd : 2 ≤ d) (g : Mm) (x0 x1 : Int32) (r : Int32) (hf : f_X6_areTwo x0 x1 = some r) : ob_Mi l yX6_areTwo wsX6_areTwo d (dC, dI) vwCl shX ad cI cZ nwX [.int x0, .int x1] g r g := by
  refine ob_ofW (cc := cX6_areTwo) (maxL := 2) (ret := (some .boolean)) (by decide) rfl ?_
  intro p e s m args below meth c ha hx hb hr hml hts hown hlocks hM0 hK hS0
  have hown : s.vm.findClass RX6 = some m.cls := hown
  subst ha
  have hl := lv_entry ([.int x0, .int x1]) (n := 2) (Nat.le_of_ble_eq_true rfl)
  rw [lg_entry_eq]
  generalize (lg_sl ([.int x0, .int x1]) ++ List.replicate (2 - (lg_sl ([.int x0, .int x1])).length) Slot.unset).toArray = ls at hl ⊢
  have hl : lv_has ls 2 [(0, .int x0), (1, .int x1)] := hl
  have hM := hM0
  have hS := hS0
  unfold f_X6_areTwo at hf
  refine lv_iload_n hx hb dX6_areTwo_0 rfl (lv_at hl 0 rfl) ?_
  obtain ⟨v1, e1, hf⟩ := ob_e1 hf
  refine ob_calli (va_runS (As := [.int x0]) (rest := []) ⟨hx, hb, hml, hown, hts⟩ (c_X6_isMan l dC dI ad cI cZ hI 1 (Nat.le_refl _) g x0  v1 e1) (va_cwS 1 hts gX6_areTwo_X6_isMan rfl rfl rfl hd_X6_isMan (ob_R (Nat.le_trans (by decide) hd) (by decide))) (ob_preS hK hM) rfl rfl hl.1 rfl (lv_room (Nat.le_of_ble_eq_true rfl)) dX6_areTwo_1 ⟨Nat.le_refl _, Nat.le_refl _⟩) hS (fun H locs hM hS => ?_)
  refine lv_if_eq (tgt := 23) hx hb dX6_areTwo_4 (by decide) (fun c2 => ?_) (fun c2 => ?_)
  · rw [if_pos c2] at hf
    refine lv_iconst (v := 0) hx hb dX6_areTwo_23 (by decide) ?_
    exact ob_iretR hx hb hr hlocks hM hS (v := 0) rfl hf dX6_areTwo_24
  · rw [if_neg c2] at hf
    refine lv_iload_n hx hb dX6_areTwo_7 rfl (lv_at hl 1 rfl) ?_
    obtain ⟨v3, e3, hf⟩ := ob_e1 hf
    refine ob_calli (va_runS (As := [.int x1]) (rest := []) ⟨hx, hb, hml, hown, hts⟩ (c_X6_isMan l dC dI ad cI cZ hI 1 (Nat.le_refl _) g x1  v3 e3) (va_cwS 1 hts gX6_areTwo_X6_isMan rfl rfl rfl hd_X6_isMan (ob_R (Nat.le_trans (by decide) hd) (by decide))) (ob_preS hK hM) rfl rfl hl.1 rfl (lv_room (Nat.le_of_ble_eq_true rfl)) dX6_areTwo_8 ⟨Nat.le_refl _, Nat.le_refl _⟩) hS (fun H locs hM hS => ?_)
    refine lv_if_eq (tgt := 23) hx hb dX6_areTwo_11 (by decide) (fun c4 => ?_) (fun c4 => ?_)
    · rw [if_pos c4] at hf
      refine lv_iconst (v := 0) hx hb dX6_areTwo_23 (by decide) ?_
      exact ob_iretR hx hb hr hlocks hM hS (v := 0) rfl hf dX6_areTwo_24
    · rw [if_neg c4] at hf
      refine lv_iload_n hx hb dX6_areTwo_14 rfl (lv_at hl 0 rfl) ?_
      refine lv_iload_n hx hb dX6_areTwo_15 rfl (lv_at hl 1 rfl) ?_
      refine lv_icmp_eq (tgt := 23) hx hb dX6_areTwo_16 (by decide) (fun c5 => ?_) (fun c5 => ?_)
      · rw [if_pos c5] at hf
        refine lv_iconst (v := 0) hx hb dX6_areTwo_23 (by decide) ?_
        exact ob_iretR hx hb hr hlocks hM hS (v := 0) rfl hf dX6_areTwo_24
      · rw [if_neg c5] at hf
        refine lv_iconst (v := 1) hx hb dX6_areTwo_19 (by decide) ?_
        refine lv_goto (tgt := 24) hx hb dX6_areTwo_20 (by decide) ?_
        exact ob_iretR hx hb hr hlocks hM hS (v := 1) rfl hf dX6_areTwo_24
set_option maxHeartbeats 4000000 in
set_option maxRecDepth 100000 in
theorem c_X4_sayable (l : Launch) (dC : Nat → ClassId) (dI : Nat → Nat → Nat) (ad : Nat → Nat) (cI cZ : ClassId) (hI : ob_inj shX ad) (d : Nat) (hd : 3 ≤ d) (b : Nat) (hT : isTown b) (g : Mm) (x1 x2 : Int32) (r : Int32) (hf : f_X4_sayable b g x1 x2 = some r) : ob_Mi l yX4_sayable wsX4_sayable d (dC, dI) vwCl shX ad cI cZ nwX [.ref (ad b), .int x1, .int x2] g r g := by
  refine ob_ofW (cc := cX4_sayable) (maxL := 3) (ret := (some .int)) (by decide) rfl ?_
  intro p e s m args below meth c ha hx hb hr hml hts hown hlocks hM0 hK hS0
  have hown : s.vm.findClass RX4 = some m.cls := hown
  subst ha
  have hl := lv_entry ([.ref (ad b), .int x1, .int x2]) (n := 3) (Nat.le_of_ble_eq_true rfl)
  rw [lg_entry_eq]
  generalize (lg_sl ([.ref (ad b), .int x1, .int x2]) ++ List.replicate (3 - (lg_sl ([.ref (ad b), .int x1, .int x2])).length) Slot.unset).toArray = ls at hl ⊢
  have hl : lv_has ls 3 [(0, .ref (ad b)), (1, .int x1), (2, .int x2)] := hl
  have hM := hM0
  have hS := hS0
  unfold f_X4_sayable at hf
  refine lv_aload_n hx hb dX4_sayable_0 rfl (lv_at hl 0 rfl) ?_
  refine lv_iload_n hx hb dX4_sayable_1 rfl (lv_at hl 1 rfl) ?_
  obtain ⟨v1, e1, hf⟩ := ob_e1 hf
  refine ob_calli (va_runV (As := [.int x1]) (rest := []) ⟨hx, hb, hml, hown, hts⟩ (c_X4_knownTo l dC dI ad cI cZ hI 1 (Nat.le_refl _) b hT g x1  v1 e1) (cwV 1 hts gX4_sayable_X4_knownTo rfl rfl rfl ⟨rfl, hd_X4_knownTo⟩ (ob_R (Nat.le_trans (by decide) hd) (by decide))) (ob_preV hK hM (q := b) (shT_0 hT) rfl) rfl rfl hl.1 rfl (lv_room (Nat.le_of_ble_eq_true rfl)) dX4_sayable_2 ⟨Nat.le_refl _, Nat.le_refl _⟩) hS (fun H locs hM hS => ?_)
  refine lv_aload_n hx hb dX4_sayable_5 rfl (lv_at hl 0 rfl) ?_
  refine lv_iload_n hx hb dX4_sayable_6 rfl (lv_at hl 2 rfl) ?_
  obtain ⟨v2, e2, hf⟩ := ob_e1 hf
  refine ob_calli (va_runV (As := [.int x2]) (rest := [.int v1]) ⟨hx, hb, hml, hown, hts⟩ (c_X4_fitting l dC dI ad cI cZ hI 2 (Nat.le_refl _) b hT g x2  v2 e2) (cwV 1 hts gX4_sayable_X4_fitting rfl rfl rfl ⟨rfl, hd_X4_fitting⟩ (ob_R (Nat.le_trans (by decide) hd) (by decide))) (ob_preV hK hM (q := b) (shT_0 hT) rfl) rfl rfl hl.1 rfl (lv_room (Nat.le_of_ble_eq_true rfl)) dX4_sayable_7 ⟨Nat.le_refl _, Nat.le_refl _⟩) hS (fun H locs hM hS => ?_)
  refine lv_iand hx hb dX4_sayable_10 ?_
  exact ob_iretR hx hb hr hlocks hM hS (v := (v1 &&& v2)) rfl hf dX4_sayable_11
set_option maxHeartbeats 4000000 in
set_option maxRecDepth 100000 in
theorem c_X0_forget (l : Launch) (dC : Nat → ClassId) (dI : Nat → Nat → Nat) (ad : Nat → Nat) (cI cZ : ClassId) (hI : ob_inj shX ad) (d : Nat) (hd : 0 ≤ d) (g : Mm) (t : Mm) (hf : f_X0_forget g = some t) : ob_Mv l yX0_forget wsX0_forget d (dC, dI) vwCl shX ad cI cZ nwX [.ref (ad 17)] g t := by
  refine ob_ofW (cc := cX0_forget) (maxL := 1) (ret := none) (by decide) rfl ?_
  intro p e s m args below meth c ha hx hb hr hml hts hown hlocks hM0 hK hS0
  have hown : s.vm.findClass RX0 = some m.cls := hown
  have in_own : ∀ w ∈ wsX00, w ∈ wsX0_forget := fun w h => (List.mem_cons_of_mem _ (List.mem_append_right _ h))
  have hf_15 := hts (.fieldLink RX0 15 "OneWorse$Contest" "run" "I") (List.mem_cons_of_mem _ (List.mem_append_left _ (List.mem_of_getElem? (i := 0) rfl)))
  have hf_29 := hts (.fieldLink RX0 29 "OneWorse$Contest" "chosen" "I") (List.mem_cons_of_mem _ (List.mem_append_left _ (List.mem_of_getElem? (i := 1) rfl)))
  subst ha
  have hl := lv_entry ([.ref (ad 17)]) (n := 1) (Nat.le_of_ble_eq_true rfl)
  rw [lg_entry_eq]
  generalize (lg_sl ([.ref (ad 17)]) ++ List.replicate (1 - (lg_sl ([.ref (ad 17)])).length) Slot.unset).toArray = ls at hl ⊢
  have hl : lv_has ls 1 [(0, .ref (ad 17))] := hl
  have hM := hM0
  have hS := hS0
  unfold f_X0_forget at hf
  refine lv_aload_n hx hb dX0_forget_0 rfl (lv_at hl 0 rfl) ?_
  refine lv_dup hx hb dX0_forget_1 rfl ?_
  refine ob_gi hx hb hts in_own hown hK hM (q := 17) shX_17 (C := RX0) (T := TX0) (N := 7) rfl 2 (by decide) hf_15 rfl dX0_forget_2 ?_
  refine lv_iconst (v := 1) hx hb dX0_forget_5 (by decide) ?_
  refine lv_iadd hx hb dX0_forget_6 ?_
  refine ob_pi hx hb hts in_own tyX0 tyX0_ok nmX0 hown hK hM hI hS (q := 17) shX_17 (C := RX0) (T := TX0) (N := 7) rfl 2 (by decide) hf_15 rfl rfl (ty := .int) (v := ((g 17 2) + 1)) (tyX0_ok 2 (by decide)) rfl rfl dX0_forget_7 (fun H locs hM hS => ?_)
  refine lv_aload_n hx hb dX0_forget_10 rfl (lv_at hl 0 rfl) ?_
  refine lv_bipush (v := (-6)) hx hb dX0_forget_11 (by decide) ?_
  refine ob_pi hx hb hts in_own tyX0 tyX0_ok nmX0 hown hK hM hI hS (q := 17) shX_17 (C := RX0) (T := TX0) (N := 7) rfl 6 (by decide) hf_29 rfl rfl (ty := .int) (v := (-6)) (tyX0_ok 6 (by decide)) rfl rfl dX0_forget_13 (fun H locs hM hS => ?_)
  exact ob_vret hx hb hr hlocks hM hS hf dX0_forget_16
set_option maxHeartbeats 4000000 in
set_option maxRecDepth 100000 in
theorem c_X0_afterwards (l : Launch) (dC : Nat → ClassId) (dI : Nat → Nat → Nat) (ad : Nat → Nat) (cI cZ : ClassId) (hI : ob_inj shX ad) (d : Nat) (hd : 2 ≤ d) (d9 : Nat) (hd9 : d9 + 1 ≤ d) (rc_best : Mm → Int32 → Int32 → Int32 → Int32 → Int32 → Option (Int32 × Mm)) (hrc_best : ∀ (g : Mm) (x1 x2 x3 x4 x5 : Int32) (r : Int32) (t : Mm), rc_best g x1 x2 x3 x4 x5 = some (r, t) → ob_Mi l yX0_best wsX0_best d9 (dC, dI) vwCl shX ad cI cZ nwX [.ref (ad 17), .int x1, .int x2, .int x3, .int x4, .int x5] g r t) (g : Mm) (x1 x2 x3 x4 x5 : Int32) (r : Int32) (t : Mm) (hf : f_X0_afterwards rc_best g x1 x2 x3 x4 x5 = some (r, t)) : ob_Mi l yX0_afterwards wsX0_afterwards d (dC, dI) vwCl shX ad cI cZ nwX [.ref (ad 17), .int x1, .int x2, .int x3, .int x4, .int x5] g r t := by
  refine ob_ofW (cc := cX0_afterwards) (maxL := 10) (ret := (some .int)) (by decide) rfl ?_
  intro p e s m args below meth c ha hx hb hr hml hts hown hlocks hM0 hK hS0
  have hown : s.vm.findClass RX0 = some m.cls := hown
  have in_own : ∀ w ∈ wsX00, w ∈ wsX0_afterwards := fun w h => (List.mem_cons_of_mem _ (List.mem_append_left _ (List.mem_append_right _ h)))
  have hf_9 := hts (.fieldLink RX0 9 "OneWorse$Contest" "memo" "[I") (List.mem_cons_of_mem _ (List.mem_append_left _ (List.mem_append_left _ (List.mem_append_left _ (List.mem_of_getElem? (i := 0) rfl)))))
  have hi_X6 := hts (.initialized RX6) (List.mem_cons_of_mem _ (List.mem_append_left _ (List.mem_append_left _ (List.mem_append_left _ (List.mem_of_getElem? (i := 4) rfl)))))
  have hst_X6_at := hts (.static yX6_at) (List.mem_cons_of_mem _ (List.mem_append_left _ (List.mem_append_left _ (List.mem_append_left _ (List.mem_of_getElem? (i := 3) rfl)))))
  have hf_15 := hts (.fieldLink RX0 15 "OneWorse$Contest" "run" "I") (List.mem_cons_of_mem _ (List.mem_append_left _ (List.mem_append_left _ (List.mem_append_left _ (List.mem_of_getElem? (i := 1) rfl)))))
  have hf_32 := hts (.fieldLink RX0 32 "OneWorse$Contest" "town" "LOneWorse$Town;") (List.mem_cons_of_mem _ (List.mem_append_left _ (List.mem_append_left _ (List.mem_append_left _ (List.mem_of_getElem? (i := 2) rfl)))))
  have hi_X4 := hts (.initialized RX4) (List.mem_cons_of_mem _ (List.mem_append_left _ (List.mem_append_left _ (List.mem_append_left _ (List.mem_of_getElem? (i := 7) rfl)))))
  have hin_X4_worseThan := hts (.instanceMethod yX4_worseThan) (List.mem_cons_of_mem _ (List.mem_append_left _ (List.mem_append_left _ (List.mem_append_left _ (List.mem_of_getElem? (i := 6) rfl)))))
  have hse_X4_worseThan := hts (.selects RX4 yX4_worseThan yX4_worseThan) (List.mem_cons_of_mem _ (List.mem_append_left _ (List.mem_append_left _ (List.mem_append_left _ (List.mem_of_getElem? (i := 8) rfl)))))
  have hst_X6_store := hts (.static yX6_store) (List.mem_cons_of_mem _ (List.mem_append_left _ (List.mem_append_left _ (List.mem_append_left _ (List.mem_of_getElem? (i := 15) rfl)))))
  subst ha
  have hl := lv_entry ([.ref (ad 17), .int x1, .int x2, .int x3, .int x4, .int x5]) (n := 10) (Nat.le_of_ble_eq_true rfl)
  rw [lg_entry_eq]
  generalize (lg_sl ([.ref (ad 17), .int x1, .int x2, .int x3, .int x4, .int x5]) ++ List.replicate (10 - (lg_sl ([.ref (ad 17), .int x1, .int x2, .int x3, .int x4, .int x5])).length) Slot.unset).toArray = ls at hl ⊢
  have hl : lv_has ls 10 [(0, .ref (ad 17)), (1, .int x1), (2, .int x2), (3, .int x3), (4, .int x4), (5, .int x5)] := hl
  have hM := hM0
  have hS := hS0
  unfold f_X0_afterwards at hf
  refine lv_iload_n hx hb dX0_afterwards_0 rfl (lv_at hl 1 rfl) ?_
  refine lv_bipush (v := 10) hx hb dX0_afterwards_1 (by decide) ?_
  refine lv_imul hx hb dX0_afterwards_3 ?_
  refine lv_iload_n hx hb dX0_afterwards_4 rfl (lv_at hl 2 rfl) ?_
  refine lv_iadd hx hb dX0_afterwards_5 ?_
  refine lv_istore (lv' := [(6, .int ((x1 * 10) + x2)), (0, .ref (ad 17)), (1, .int x1), (2, .int x2), (3, .int x3), (4, .int x4), (5, .int x5)]) hx hb dX0_afterwards_6 hl (by decide) rfl (fun ls hl => ?_)
  refine lv_aload_n hx hb dX0_afterwards_8 rfl (lv_at hl 1 rfl) ?_
  refine ob_gr (j := 18) hx hb hts in_own hown hK hM (q := 17) shX_17 (C := RX0) (T := TX0) (N := 7) rfl 1 (by decide) hf_9 rfl dX0_afterwards_9 ?_
  refine lv_iload hx hb dX0_afterwards_12 (lv_at hl 0 rfl) ?_
  obtain ⟨v1, e1, hf⟩ := ob_e1 hf
  refine ob_calli (va_runSN (As := [.ref (ad 18), .int ((x1 * 10) + x2)]) (rest := []) ⟨hx, hb, hml, hown, hts⟩ (c_X6_at l dC dI ad cI cZ hI 0 (Nat.le_refl _) g 18 10240 shX_18 ((x1 * 10) + x2)  v1 e1) ⟨va_cnB 2 hts gX0_afterwards_X6_at_n59 rfl rfl rfl (ob_nl hK nw_X0_59) hi_X6 hd_X6_at (ob_R (Nat.le_trans (by decide) hd) (by decide)), hst_X6_at, trivial⟩ (ob_preS hK hM) rfl rfl hl.1 rfl (lv_room (Nat.le_of_ble_eq_true rfl)) dX0_afterwards_14 ⟨Nat.le_refl _, Nat.le_refl _⟩) hS (fun H locs hM hS => ?_)
  refine lv_istore (lv' := [(7, .int v1), (6, .int ((x1 * 10) + x2)), (0, .ref (ad 17)), (1, .int x1), (2, .int x2), (3, .int x3), (4, .int x4), (5, .int x5)]) hx hb dX0_afterwards_17 hl (by decide) rfl (fun ls hl => ?_)
  refine lv_iload hx hb dX0_afterwards_19 (lv_at hl 0 rfl) ?_
  refine lv_bipush (v := 64) hx hb dX0_afterwards_21 (by decide) ?_
  refine lv_idiv hx hb dX0_afterwards_23 (by decide) ?_
  refine lv_aload_n hx hb dX0_afterwards_24 rfl (lv_at hl 2 rfl) ?_
  refine ob_gi hx hb hts in_own hown hK hM (q := 17) shX_17 (C := RX0) (T := TX0) (N := 7) rfl 2 (by decide) hf_15 rfl dX0_afterwards_25 ?_
  refine lv_icmp_ne (tgt := 37) hx hb dX0_afterwards_28 (by decide) (fun c2 => ?_) (fun c2 => ?_)
  · rw [if_neg c2] at hf
    refine lv_aload_n hx hb dX0_afterwards_37 rfl (lv_at hl 2 rfl) ?_
    refine ob_gr (j := 2) hx hb hts in_own hown hK hM (q := 17) shX_17 (C := RX0) (T := TX0) (N := 7) rfl 0 (by decide) hf_32 rfl dX0_afterwards_38 ?_
    refine lv_iload_n hx hb dX0_afterwards_41 rfl (lv_at hl 4 rfl) ?_
    obtain ⟨v3, e3, hf⟩ := ob_e1 hf
    refine ob_calli (va_runVN (As := [.int x2]) (rest := []) ⟨hx, hb, hml, hown, hts⟩ (c_X4_worseThan l dC dI ad cI cZ hI 1 (Nat.le_refl _) 2 isTown_2 g x2  v3 e3) ⟨va_cnB 1 hts gX0_afterwards_X4_worseThan_n63 rfl rfl rfl (ob_nl hK nw_X0_63) hi_X4 hd_X4_worseThan (ob_R (Nat.le_trans (by decide) hd) (by decide)), hin_X4_worseThan, hse_X4_worseThan⟩ (ob_preV hK hM (q := 2) shX_2 rfl) rfl rfl hl.1 rfl (lv_room (Nat.le_of_ble_eq_true rfl)) dX0_afterwards_42 ⟨Nat.le_refl _, Nat.le_refl _⟩) hS (fun H locs hM hS => ?_)
    refine lv_iload_n hx hb dX0_afterwards_45 rfl (lv_at hl 5 rfl) ?_
    refine lv_iand hx hb dX0_afterwards_46 ?_
    refine lv_iload_n hx hb dX0_afterwards_47 rfl (lv_at hl 3 rfl) ?_
    refine lv_iconst (v := (-1)) hx hb dX0_afterwards_48 (by decide) ?_
    refine lv_ixor hx hb dX0_afterwards_49 ?_
    refine lv_iand hx hb dX0_afterwards_50 ?_
    refine lv_istore (lv' := [(8, .int ((v3 &&& x3) &&& (x1 ^^^ (-1)))), (7, .int v1), (6, .int ((x1 * 10) + x2)), (0, .ref (ad 17)), (1, .int x1), (2, .int x2), (3, .int x3), (4, .int x4), (5, .int x5)]) hx hb dX0_afterwards_51 hl (by decide) rfl (fun ls hl => ?_)
    refine lv_aload_n hx hb dX0_afterwards_53 rfl (lv_at hl 3 rfl) ?_
    refine lv_iload hx hb dX0_afterwards_54 (lv_at hl 0 rfl) ?_
    refine lv_iload_n hx hb dX0_afterwards_56 rfl (lv_at hl 4 rfl) ?_
    refine lv_iload_n hx hb dX0_afterwards_57 rfl (lv_at hl 6 rfl) ?_
    refine lv_iload hx hb dX0_afterwards_58 (lv_at hl 7 rfl) ?_
    refine lv_iload hx hb dX0_afterwards_60 (lv_at hl 8 rfl) ?_
    obtain ⟨v4, g4, e4, hf⟩ := ob_e2 hf
    refine ob_calli (va_runV (As := [.int ((v3 &&& x3) &&& (x1 ^^^ (-1))), .int x1, .int x3, .int x4, .int x5]) (rest := []) ⟨hx, hb, hml, hown, hts⟩ (hrc_best g ((v3 &&& x3) &&& (x1 ^^^ (-1))) x1 x3 x4 x5 v4 g4  e4) (cwV 5 hts gX0_afterwards_X0_best rfl rfl rfl ⟨rfl, hd_X0_best⟩ (ob_R hd9 (by decide))) (ob_preV hK hM (q := 17) shX_17 rfl) rfl rfl hl.1 rfl (lv_room (Nat.le_of_ble_eq_true rfl)) dX0_afterwards_62 ⟨Nat.le_refl _, Nat.le_refl _⟩) hS (fun H locs hM hS => ?_)
    refine lv_istore (lv' := [(9, .int v4), (8, .int ((v3 &&& x3) &&& (x1 ^^^ (-1)))), (7, .int v1), (6, .int ((x1 * 10) + x2)), (0, .ref (ad 17)), (1, .int x1), (2, .int x2), (3, .int x3), (4, .int x4), (5, .int x5)]) hx hb dX0_afterwards_65 hl (by decide) rfl (fun ls hl => ?_)
    refine lv_aload_n hx hb dX0_afterwards_67 rfl (lv_at hl 4 rfl) ?_
    refine ob_gr (j := 18) hx hb hts in_own hown hK hM (q := 17) shX_17 (C := RX0) (T := TX0) (N := 7) rfl 1 (by decide) hf_9 rfl dX0_afterwards_68 ?_
    refine lv_iload hx hb dX0_afterwards_71 (lv_at hl 3 rfl) ?_
    refine lv_aload_n hx hb dX0_afterwards_73 rfl (lv_at hl 4 rfl) ?_
    refine ob_gi hx hb hts in_own hown hK hM (q := 17) shX_17 (C := RX0) (T := TX0) (N := 7) rfl 2 (by decide) hf_15 rfl dX0_afterwards_74 ?_
    refine lv_bipush (v := 64) hx hb dX0_afterwards_77 (by decide) ?_
    refine lv_imul hx hb dX0_afterwards_79 ?_
    refine lv_iload hx hb dX0_afterwards_80 (lv_at hl 0 rfl) ?_
    refine lv_iadd hx hb dX0_afterwards_82 ?_
    obtain ⟨g5, e5, hf⟩ := ob_e1 hf
    refine ob_callv (va_runSN (As := [.ref (ad 18), .int ((x1 * 10) + x2), .int (((g4 17 2) * 64) + v4)]) (rest := []) ⟨hx, hb, hml, hown, hts⟩ (c_X6_store l dC dI ad cI cZ hI 0 (Nat.le_refl _) g4 18 10240 shX_18 ((x1 * 10) + x2) (((g4 17 2) * 64) + v4)  g5 e5) ⟨va_cnB 3 hts gX0_afterwards_X6_store_n68 rfl rfl rfl (ob_nl hK nw_X0_68) hi_X6 hd_X6_store (ob_R (Nat.le_trans (by decide) hd) (by decide)), hst_X6_store, trivial⟩ (ob_preS hK hM) rfl rfl hl.1 rfl (lv_room (Nat.le_of_ble_eq_true rfl)) dX0_afterwards_83 ⟨Nat.le_refl _, Nat.le_refl _⟩) hS (fun H locs hM hS => ?_)
    refine lv_iload hx hb dX0_afterwards_86 (lv_at hl 0 rfl) ?_
    exact ob_iret hx hb hr hlocks hM hS (v := v4) rfl hf dX0_afterwards_88
  · rw [if_pos c2] at hf
    refine lv_iload hx hb dX0_afterwards_31 (lv_at hl 0 rfl) ?_
    refine lv_bipush (v := 64) hx hb dX0_afterwards_33 (by decide) ?_
    refine lv_irem hx hb dX0_afterwards_35 (by decide) ?_
    exact ob_iret hx hb hr hlocks hM hS (v := (v1 - v1 / 64 * 64)) rfl hf dX0_afterwards_36
set_option maxHeartbeats 4000000 in
set_option maxRecDepth 100000 in
theorem c_X0_turned (l : Launch) (dC : Nat → ClassId) (dI : Nat → Nat → Nat) (ad : Nat → Nat) (cI cZ : ClassId) (hI : ob_inj shX ad) (d : Nat) (hd : 0 ≤ d) (g : Mm) (x1 : Int32) (r : Int32) (hf : f_X0_turned g x1 = some r) : ob_Mi l yX0_turned wsX0_turned d (dC, dI) vwCl shX ad cI cZ nwX [.ref (ad 17), .int x1] g r g := by
  refine ob_ofW (cc := cX0_turned) (maxL := 2) (ret := (some .int)) (by decide) rfl ?_
  intro p e s m args below meth c ha hx hb hr hml hts hown hlocks hM0 hK hS0
  have hown : s.vm.findClass RX0 = some m.cls := hown
  have in_own : ∀ w ∈ wsX00, w ∈ wsX0_turned := fun w h => (List.mem_cons_of_mem _ (List.mem_append_right _ h))
  have hf_19 := hts (.fieldLink RX0 19 "OneWorse$Contest" "spinning" "Z") (List.mem_cons_of_mem _ (List.mem_append_left _ (List.mem_of_getElem? (i := 0) rfl)))
  subst ha
  have hl := lv_entry ([.ref (ad 17), .int x1]) (n := 2) (Nat.le_of_ble_eq_true rfl)
  rw [lg_entry_eq]
  generalize (lg_sl ([.ref (ad 17), .int x1]) ++ List.replicate (2 - (lg_sl ([.ref (ad 17), .int x1])).length) Slot.unset).toArray = ls at hl ⊢
  have hl : lv_has ls 2 [(0, .ref (ad 17)), (1, .int x1)] := hl
  have hM := hM0
  have hS := hS0
  unfold f_X0_turned at hf
  refine lv_aload_n hx hb dX0_turned_0 rfl (lv_at hl 0 rfl) ?_
  refine ob_gi hx hb hts in_own hown hK hM (q := 17) shX_17 (C := RX0) (T := TX0) (N := 7) rfl 3 (by decide) hf_19 rfl dX0_turned_1 ?_
  refine lv_if_eq (tgt := 11) hx hb dX0_turned_4 (by decide) (fun c1 => ?_) (fun c1 => ?_)
  · rw [if_pos c1] at hf
    refine lv_iload_n hx hb dX0_turned_11 rfl (lv_at hl 1 rfl) ?_
    refine lv_bipush (v := 20) hx hb dX0_turned_12 (by decide) ?_
    refine lv_icmp_ge (tgt := 24) hx hb dX0_turned_14 (by decide) (fun c2 => ?_) (fun c2 => ?_)
    · rw [if_pos c2] at hf
      refine lv_bipush (v := 40) hx hb dX0_turned_24 (by decide) ?_
      refine lv_iload_n hx hb dX0_turned_26 rfl (lv_at hl 1 rfl) ?_
      refine lv_isub hx hb dX0_turned_27 ?_
      refine lv_iconst (v := 1) hx hb dX0_turned_28 (by decide) ?_
      refine lv_iadd hx hb dX0_turned_29 ?_
      exact ob_iretR hx hb hr hlocks hM hS (v := ((40 - x1) + 1)) rfl hf dX0_turned_30
    · rw [if_neg c2] at hf
      refine lv_bipush (v := 40) hx hb dX0_turned_17 (by decide) ?_
      refine lv_iload_n hx hb dX0_turned_19 rfl (lv_at hl 1 rfl) ?_
      refine lv_iconst (v := 1) hx hb dX0_turned_20 (by decide) ?_
      refine lv_iadd hx hb dX0_turned_21 ?_
      refine lv_isub hx hb dX0_turned_22 ?_
      exact ob_iretR hx hb hr hlocks hM hS (v := (40 - (x1 + 1))) rfl hf dX0_turned_23
  · rw [if_neg c1] at hf
    refine lv_iload_n hx hb dX0_turned_7 rfl (lv_at hl 1 rfl) ?_
    refine lv_iconst (v := 1) hx hb dX0_turned_8 (by decide) ?_
    refine lv_iadd hx hb dX0_turned_9 ?_
    exact ob_iretR hx hb hr hlocks hM hS (v := (x1 + 1)) rfl hf dX0_turned_10
set_option maxHeartbeats 4000000 in
set_option maxRecDepth 100000 in
theorem c_X0_best (l : Launch) (dC : Nat → ClassId) (dI : Nat → Nat → Nat) (ad : Nat → Nat) (cI cZ : ClassId) (hI : ob_inj shX ad) (d : Nat) (hd : 1 ≤ d) (d9 : Nat) (hd9 : d9 + 1 ≤ d) (rc_afterwards : Mm → Int32 → Int32 → Int32 → Int32 → Int32 → Option (Int32 × Mm)) (hrc_afterwards : ∀ (g : Mm) (x1 x2 x3 x4 x5 : Int32) (r : Int32) (t : Mm), rc_afterwards g x1 x2 x3 x4 x5 = some (r, t) → ob_Mi l yX0_afterwards wsX0_afterwards d9 (dC, dI) vwCl shX ad cI cZ nwX [.ref (ad 17), .int x1, .int x2, .int x3, .int x4, .int x5] g r t) (g : Mm) (x1 x2 x3 x4 x5 : Int32) (r : Int32) (t : Mm) (hf : f_X0_best rc_afterwards g x1 x2 x3 x4 x5 = some (r, t)) : ob_Mi l yX0_best wsX0_best d (dC, dI) vwCl shX ad cI cZ nwX [.ref (ad 17), .int x1, .int x2, .int x3, .int x4, .int x5] g r t := by
  refine ob_ofW (cc := cX0_best) (maxL := 10) (ret := (some .int)) (by decide) rfl ?_
  intro p e s m args below meth c ha hx hb hr hml hts hown hlocks hM0 hK hS0
  have hown : s.vm.findClass RX0 = some m.cls := hown
  have in_own : ∀ w ∈ wsX00, w ∈ wsX0_best := fun w h => (List.mem_cons_of_mem _ (List.mem_append_left _ (List.mem_append_right _ h)))
  have hf_19 := hts (.fieldLink RX0 19 "OneWorse$Contest" "spinning" "Z") (List.mem_cons_of_mem _ (List.mem_append_left _ (List.mem_append_left _ (List.mem_append_left _ (List.mem_of_getElem? (i := 0) rfl)))))
  have hf_23 := hts (.fieldLink RX0 23 "OneWorse$Contest" "enough" "I") (List.mem_cons_of_mem _ (List.mem_append_left _ (List.mem_append_left _ (List.mem_append_left _ (List.mem_of_getElem? (i := 1) rfl)))))
  have hi_X6 := hts (.initialized RX6) (List.mem_cons_of_mem _ (List.mem_append_left _ (List.mem_append_left _ (List.mem_append_left _ (List.mem_of_getElem? (i := 11) rfl)))))
  have hst_X6_has := hts (.static yX6_has) (List.mem_cons_of_mem _ (List.mem_append_left _ (List.mem_append_left _ (List.mem_append_left _ (List.mem_of_getElem? (i := 10) rfl)))))
  have hf_29 := hts (.fieldLink RX0 29 "OneWorse$Contest" "chosen" "I") (List.mem_cons_of_mem _ (List.mem_append_left _ (List.mem_append_left _ (List.mem_append_left _ (List.mem_of_getElem? (i := 2) rfl)))))
  have w_120 : ∀ (k47 : Mm → Int32 → Int32 → Int32 → Int32 → Int32 → Int32 → Int32 → Int32 → Option (Int32 × Mm)) (hk47 : ∀ (g : Mm) (x1 x2 x3 x4 x5 x6 x7 x8 : Int32) (H : Heap) (locs : List Loc), va_P (dC, dI) vwCl (ob_ws shX ad cI cZ g) H → va_S (ob_A shX ad) s.heap H locs → ∀ (ls : Array Slot), lv_has ls 10 [(0, .ref (ad 17)), (1, .int x1), (2, .int x2), (3, .int x3), (4, .int x4), (5, .int x5), (6, .int x6), (7, .int x7), (8, .int x8)] → k47 g x1 x2 x3 x4 x5 x6 x7 x8 = some (r, t) → W p l e (rmN d) s m args below meth c H locs 0 0 (MQ below (ob_Qi (dC, dI) vwCl shX ad cI cZ r t) args s 0 0 (ob_A shX ad)) (F0 m 47 ls [])), ∀ (g : Mm) (x1 x2 x3 x4 x5 x6 x7 x8 : Int32) (H : Heap) (locs : List Loc), va_P (dC, dI) vwCl (ob_ws shX ad cI cZ g) H → va_S (ob_A shX ad) s.heap H locs → ∀ (ls : Array Slot), lv_has ls 10 [(0, .ref (ad 17)), (1, .int x1), (2, .int x2), (3, .int x3), (4, .int x4), (5, .int x5), (6, .int x6), (7, .int x7), (8, .int x8)] → f_X0_best_J120 rc_afterwards k47 g x1 x2 x3 x4 x5 x6 x7 x8 = some (r, t) → W p l e (rmN d) s m args below meth c H locs 0 0 (MQ below (ob_Qi (dC, dI) vwCl shX ad cI cZ r t) args s 0 0 (ob_A shX ad)) (F0 m 120 ls []) := by
    intro k47 hk47 g x1 x2 x3 x4 x5 x6 x7 x8 H locs hM hS ls hl hf
    unfold f_X0_best_J120 at hf
    refine lv_iinc (v := (x8 + 1)) (lv' := [(8, .int (x8 + 1)), (0, .ref (ad 17)), (1, .int x1), (2, .int x2), (3, .int x3), (4, .int x4), (5, .int x5), (6, .int x6), (7, .int x7)]) hx hb dX0_best_120 hl (k := 8) rfl rfl (by decide) rfl (fun ls hl => ?_)
    refine lv_goto (tgt := 47) hx hb dX0_best_123 (by decide) ?_
    exact hk47 g x1 x2 x3 x4 x5 x6 x7 (x8 + 1) _ _ hM hS _ (lv_sub hl [1, 2, 3, 4, 5, 6, 7, 8, 0] rfl) hf
  have w_47 : ∀ (n : Nat), ∀ (g : Mm) (x1 x2 x3 x4 x5 x6 x7 x8 : Int32) (H : Heap) (locs : List Loc), va_P (dC, dI) vwCl (ob_ws shX ad cI cZ g) H → va_S (ob_A shX ad) s.heap H locs → ∀ (ls : Array Slot), lv_has ls 10 [(0, .ref (ad 17)), (1, .int x1), (2, .int x2), (3, .int x3), (4, .int x4), (5, .int x5), (6, .int x6), (7, .int x7), (8, .int x8)] → f_X0_best_L47 rc_afterwards n g x1 x2 x3 x4 x5 x6 x7 x8 = some (r, t) → W p l e (rmN d) s m args below meth c H locs 0 0 (MQ below (ob_Qi (dC, dI) vwCl shX ad cI cZ r t) args s 0 0 (ob_A shX ad)) (F0 m 47 ls []) := by
    intro n
    induction n with
    | zero =>
      intro g x1 x2 x3 x4 x5 x6 x7 x8 H locs hM hS ls hl hf
      cases hf
    | succ n ih =>
      intro g x1 x2 x3 x4 x5 x6 x7 x8 H locs hM hS ls hl hf
      unfold f_X0_best_L47 at hf
      refine lv_iload hx hb dX0_best_47 (lv_at hl 8 rfl) ?_
      refine lv_bipush (v := 10) hx hb dX0_best_49 (by decide) ?_
      refine lv_icmp_ge (tgt := 126) hx hb dX0_best_51 (by decide) (fun c5 => ?_) (fun c5 => ?_)
      · rw [if_pos c5] at hf
        refine lv_iload hx hb dX0_best_126 (lv_at hl 6 rfl) ?_
        exact ob_iret hx hb hr hlocks hM hS (v := x6) rfl hf dX0_best_128
      · rw [if_neg c5] at hf
        refine lv_iload hx hb dX0_best_54 (lv_at hl 6 rfl) ?_
        refine lv_iload hx hb dX0_best_56 (lv_at hl 7 rfl) ?_
        refine lv_icmp_ge (tgt := 126) hx hb dX0_best_58 (by decide) (fun c6 => ?_) (fun c6 => ?_)
        · rw [if_pos c6] at hf
          refine lv_iload hx hb dX0_best_126 (lv_at hl 6 rfl) ?_
          exact ob_iret hx hb hr hlocks hM hS (v := x6) rfl hf dX0_best_128
        · rw [if_neg c6] at hf
          refine lv_iload_n hx hb dX0_best_61 rfl (lv_at hl 1 rfl) ?_
          refine lv_iload hx hb dX0_best_62 (lv_at hl 8 rfl) ?_
          obtain ⟨v7, e7, hf⟩ := ob_e1 hf
          refine ob_calli (va_runSN (As := [.int x1, .int x8]) (rest := []) ⟨hx, hb, hml, hown, hts⟩ (c_X6_has l dC dI ad cI cZ hI 0 (Nat.le_refl _) g x1 x8  v7 e7) ⟨va_cnB 2 hts gX0_best_X6_has_n49 rfl rfl rfl (ob_nl hK nw_X0_49) hi_X6 hd_X6_has (ob_R (Nat.le_trans (by decide) hd) (by decide)), hst_X6_has, trivial⟩ (ob_preS hK hM) rfl rfl hl.1 rfl (lv_room (Nat.le_of_ble_eq_true rfl)) dX0_best_64 ⟨Nat.le_refl _, Nat.le_refl _⟩) hS (fun H locs hM hS => ?_)
          refine lv_if_ne (tgt := 73) hx hb dX0_best_67 (by decide) (fun c8 => ?_) (fun c8 => ?_)
          · rw [if_neg c8] at hf
            refine lv_aload_n hx hb dX0_best_73 rfl (lv_at hl 0 rfl) ?_
            refine lv_aload_n hx hb dX0_best_74 rfl (lv_at hl 0 rfl) ?_
            refine lv_iload_n hx hb dX0_best_75 rfl (lv_at hl 2 rfl) ?_
            refine lv_iconst (v := 1) hx hb dX0_best_76 (by decide) ?_
            refine lv_iload hx hb dX0_best_77 (lv_at hl 8 rfl) ?_
            refine lv_ishl hx hb dX0_best_79 ?_
            refine lv_ior hx hb dX0_best_80 ?_
            refine lv_iload hx hb dX0_best_81 (lv_at hl 8 rfl) ?_
            refine lv_iload hx hb dX0_best_83 (lv_at hl 4 rfl) ?_
            refine lv_iload_n hx hb dX0_best_85 rfl (lv_at hl 3 rfl) ?_
            refine lv_iload hx hb dX0_best_86 (lv_at hl 5 rfl) ?_
            refine lv_iconst (v := 1) hx hb dX0_best_88 (by decide) ?_
            refine lv_iadd hx hb dX0_best_89 ?_
            obtain ⟨v9, g9, e9, hf⟩ := ob_e2 hf
            refine ob_calli (va_runV (As := [.int (x2 ||| ((1 : Int32) <<< (x8 &&& 31))), .int x8, .int x4, .int x3, .int (x5 + 1)]) (rest := [.ref (ad 17)]) ⟨hx, hb, hml, hown, hts⟩ (hrc_afterwards g (x2 ||| ((1 : Int32) <<< (x8 &&& 31))) x8 x4 x3 (x5 + 1) v9 g9  e9) (cwV 5 hts gX0_best_X0_afterwards rfl rfl rfl ⟨rfl, hd_X0_afterwards⟩ (ob_R hd9 (by decide))) (ob_preV hK hM (q := 17) shX_17 rfl) rfl rfl hl.1 rfl (lv_room (Nat.le_of_ble_eq_true rfl)) dX0_best_90 ⟨Nat.le_refl _, Nat.le_refl _⟩) hS (fun H locs hM hS => ?_)
            obtain ⟨v10, e10, hf⟩ := ob_e1 hf
            refine ob_calli (va_runV (As := [.int v9]) (rest := []) ⟨hx, hb, hml, hown, hts⟩ (c_X0_turned l dC dI ad cI cZ hI 0 (Nat.le_refl _) g9 v9  v10 e10) (cwV 1 hts gX0_best_X0_turned rfl rfl rfl ⟨rfl, hd_X0_turned⟩ (ob_R (Nat.le_trans (by decide) hd) (by decide))) (ob_preV hK hM (q := 17) shX_17 rfl) rfl rfl hl.1 rfl (lv_room (Nat.le_of_ble_eq_true rfl)) dX0_best_93 ⟨Nat.le_refl _, Nat.le_refl _⟩) hS (fun H locs hM hS => ?_)
            refine lv_istore (lv' := [(9, .int v10), (0, .ref (ad 17)), (1, .int x1), (2, .int x2), (3, .int x3), (4, .int x4), (5, .int x5), (6, .int x6), (7, .int x7), (8, .int x8)]) hx hb dX0_best_96 hl (by decide) rfl (fun ls hl => ?_)
            refine lv_iload hx hb dX0_best_98 (lv_at hl 0 rfl) ?_
            refine lv_iload hx hb dX0_best_100 (lv_at hl 7 rfl) ?_
            refine lv_icmp_le (tgt := 120) hx hb dX0_best_102 (by decide) (fun c11 => ?_) (fun c11 => ?_)
            · rw [if_pos c11] at hf
              exact w_120 (f_X0_best_L47 rc_afterwards n) ih g9 x1 x2 x3 x4 x5 x6 x7 x8 _ _ hM hS _ (lv_sub hl [1, 2, 3, 4, 5, 6, 7, 8, 9] rfl) hf
            · rw [if_neg c11] at hf
              refine lv_iload hx hb dX0_best_105 (lv_at hl 0 rfl) ?_
              refine lv_istore (lv' := [(6, .int v10), (9, .int v10), (0, .ref (ad 17)), (1, .int x1), (2, .int x2), (3, .int x3), (4, .int x4), (5, .int x5), (7, .int x7), (8, .int x8)]) hx hb dX0_best_107 hl (by decide) rfl (fun ls hl => ?_)
              refine lv_iload hx hb dX0_best_109 (lv_at hl 7 rfl) ?_
              refine lv_if_ne (tgt := 120) hx hb dX0_best_111 (by decide) (fun c12 => ?_) (fun c12 => ?_)
              · rw [if_neg c12] at hf
                exact w_120 (f_X0_best_L47 rc_afterwards n) ih g9 x1 x2 x3 x4 x5 v10 x7 x8 _ _ hM hS _ (lv_sub hl [2, 3, 4, 5, 6, 7, 0, 8, 9] rfl) hf
              · rw [if_pos c12] at hf
                refine lv_aload_n hx hb dX0_best_114 rfl (lv_at hl 2 rfl) ?_
                refine lv_iload hx hb dX0_best_115 (lv_at hl 9 rfl) ?_
                refine ob_pi hx hb hts in_own tyX0 tyX0_ok nmX0 hown hK hM hI hS (q := 17) shX_17 (C := RX0) (T := TX0) (N := 7) rfl 6 (by decide) hf_29 rfl rfl (ty := .int) (v := x8) (tyX0_ok 6 (by decide)) rfl rfl dX0_best_117 (fun H locs hM hS => ?_)
                exact w_120 (f_X0_best_L47 rc_afterwards n) ih (ob_up g9 17 6 x8) x1 x2 x3 x4 x5 v10 x7 x8 _ _ hM hS _ (lv_sub hl [2, 3, 4, 5, 6, 7, 0, 8, 9] rfl) hf
          · rw [if_pos c8] at hf
            refine lv_goto (tgt := 120) hx hb dX0_best_70 (by decide) ?_
            exact w_120 (f_X0_best_L47 rc_afterwards n) ih g x1 x2 x3 x4 x5 x6 x7 x8 _ _ hM hS _ (lv_sub hl [0, 1, 2, 3, 4, 5, 6, 7, 8] rfl) hf
  have w_42 : ∀ (g : Mm) (x1 x2 x3 x4 x5 x6 s0 : Int32) (H : Heap) (locs : List Loc), va_P (dC, dI) vwCl (ob_ws shX ad cI cZ g) H → va_S (ob_A shX ad) s.heap H locs → ∀ (ls : Array Slot), lv_has ls 10 [(0, .ref (ad 17)), (1, .int x1), (2, .int x2), (3, .int x3), (4, .int x4), (5, .int x5), (6, .int x6)] → f_X0_best_J42 rc_afterwards g x1 x2 x3 x4 x5 x6 s0 = some (r, t) → W p l e (rmN d) s m args below meth c H locs 0 0 (MQ below (ob_Qi (dC, dI) vwCl shX ad cI cZ r t) args s 0 0 (ob_A shX ad)) (F0 m 42 ls [.int s0]) := by
    intro g x1 x2 x3 x4 x5 x6 s0 H locs hM hS ls hl hf
    unfold f_X0_best_J42 at hf
    refine lv_istore (lv' := [(7, .int s0), (0, .ref (ad 17)), (1, .int x1), (2, .int x2), (3, .int x3), (4, .int x4), (5, .int x5), (6, .int x6)]) hx hb dX0_best_42 hl (by decide) rfl (fun ls hl => ?_)
    refine lv_iconst (v := 0) hx hb dX0_best_44 (by decide) ?_
    refine lv_istore (lv' := [(8, .int 0), (7, .int s0), (0, .ref (ad 17)), (1, .int x1), (2, .int x2), (3, .int x3), (4, .int x4), (5, .int x5), (6, .int x6)]) hx hb dX0_best_45 hl (by decide) rfl (fun ls hl => ?_)
    exact w_47 FU g x1 x2 x3 x4 x5 x6 s0 0 _ _ hM hS _ (lv_sub hl [2, 3, 4, 5, 6, 7, 8, 1, 0] rfl) hf
  subst ha
  have hl := lv_entry ([.ref (ad 17), .int x1, .int x2, .int x3, .int x4, .int x5]) (n := 10) (Nat.le_of_ble_eq_true rfl)
  rw [lg_entry_eq]
  generalize (lg_sl ([.ref (ad 17), .int x1, .int x2, .int x3, .int x4, .int x5]) ++ List.replicate (10 - (lg_sl ([.ref (ad 17), .int x1, .int x2, .int x3, .int x4, .int x5])).length) Slot.unset).toArray = ls at hl ⊢
  have hl : lv_has ls 10 [(0, .ref (ad 17)), (1, .int x1), (2, .int x2), (3, .int x3), (4, .int x4), (5, .int x5)] := hl
  have hM := hM0
  have hS := hS0
  unfold f_X0_best at hf
  refine lv_iconst (v := 0) hx hb dX0_best_0 (by decide) ?_
  refine lv_istore (lv' := [(6, .int 0), (0, .ref (ad 17)), (1, .int x1), (2, .int x2), (3, .int x3), (4, .int x4), (5, .int x5)]) hx hb dX0_best_1 hl (by decide) rfl (fun ls hl => ?_)
  refine lv_iload_n hx hb dX0_best_3 rfl (lv_at hl 2 rfl) ?_
  refine lv_if_eq (tgt := 14) hx hb dX0_best_4 (by decide) (fun c1 => ?_) (fun c1 => ?_)
  · rw [if_pos c1] at hf
    refine lv_iload hx hb dX0_best_14 (lv_at hl 0 rfl) ?_
    exact ob_iret hx hb hr hlocks hM hS (v := 0) rfl hf dX0_best_16
  · rw [if_neg c1] at hf
    refine lv_iload hx hb dX0_best_7 (lv_at hl 6 rfl) ?_
    refine lv_bipush (v := 10) hx hb dX0_best_9 (by decide) ?_
    refine lv_icmp_lt (tgt := 17) hx hb dX0_best_11 (by decide) (fun c2 => ?_) (fun c2 => ?_)
    · rw [if_pos c2] at hf
      refine lv_aload_n hx hb dX0_best_17 rfl (lv_at hl 1 rfl) ?_
      refine ob_gi hx hb hts in_own hown hK hM (q := 17) shX_17 (C := RX0) (T := TX0) (N := 7) rfl 3 (by decide) hf_19 rfl dX0_best_18 ?_
      refine lv_if_eq (tgt := 38) hx hb dX0_best_21 (by decide) (fun c3 => ?_) (fun c3 => ?_)
      · rw [if_pos c3] at hf
        refine lv_aload_n hx hb dX0_best_38 rfl (lv_at hl 1 rfl) ?_
        refine ob_gi hx hb hts in_own hown hK hM (q := 17) shX_17 (C := RX0) (T := TX0) (N := 7) rfl 4 (by decide) hf_23 rfl dX0_best_39 ?_
        exact w_42 g x1 x2 x3 x4 x5 0 (g 17 4) _ _ hM hS _ (lv_sub hl [1, 2, 3, 4, 5, 6, 0] rfl) hf
      · rw [if_neg c3] at hf
        refine lv_iload_n hx hb dX0_best_24 rfl (lv_at hl 4 rfl) ?_
        refine lv_iload hx hb dX0_best_25 (lv_at hl 5 rfl) ?_
        refine lv_ior hx hb dX0_best_27 ?_
        refine lv_iload_n hx hb dX0_best_28 rfl (lv_at hl 3 rfl) ?_
        refine lv_iconst (v := (-1)) hx hb dX0_best_29 (by decide) ?_
        refine lv_ixor hx hb dX0_best_30 ?_
        refine lv_iand hx hb dX0_best_31 ?_
        obtain ⟨v4, e4, hf⟩ := ob_e1 hf
        refine ob_calli (va_runS (As := [.int ((x3 ||| x4) &&& (x2 ^^^ (-1)))]) (rest := []) ⟨hx, hb, hml, hown, hts⟩ (c_J6_bitCount_0f7a4 l dC dI ad cI cZ hI 0 (Nat.le_refl _) g ((x3 ||| x4) &&& (x2 ^^^ (-1)))  v4 e4) (va_cwS 1 hts gX0_best_J6_bitCount_0f7a4 rfl rfl rfl hd_J6_bitCount_0f7a4 (ob_R (Nat.le_trans (by decide) hd) (by decide))) (ob_preS hK hM) rfl rfl hl.1 rfl (lv_room (Nat.le_of_ble_eq_true rfl)) dX0_best_32 ⟨Nat.le_refl _, Nat.le_refl _⟩) hS (fun H locs hM hS => ?_)
        refine lv_goto (tgt := 42) hx hb dX0_best_35 (by decide) ?_
        exact w_42 g x1 x2 x3 x4 x5 0 v4 _ _ hM hS _ (lv_sub hl [1, 2, 3, 4, 5, 6, 0] rfl) hf
    · rw [if_neg c2] at hf
      refine lv_iload hx hb dX0_best_14 (lv_at hl 0 rfl) ?_
      exact ob_iret hx hb hr hlocks hM hS (v := 0) rfl hf dX0_best_16
set_option maxHeartbeats 4000000 in
theorem cN_X0_best (l : Launch) (dC : Nat → ClassId) (dI : Nat → Nat → Nat) (ad : Nat → Nat) (cI cZ : ClassId) (hI : ob_inj shX ad) : ∀ (n : Nat) (g : Mm) (x1 x2 x3 x4 x5 : Int32) (r : Int32) (t : Mm), fN_X0_best n g x1 x2 x3 x4 x5 = some (r, t) → ob_Mi l yX0_best wsX0_best (2 + 2 * n) (dC, dI) vwCl shX ad cI cZ nwX [.ref (ad 17), .int x1, .int x2, .int x3, .int x4, .int x5] g r t := by
  intro n
  induction n with
  | zero =>
    intro g x1 x2 x3 x4 x5 r t h
    cases h
  | succ n ih =>
    intro g x1 x2 x3 x4 x5 r t h
    exact c_X0_best l dC dI ad cI cZ hI (2 + 2 * (n + 1)) (by omega) (2 + 2 * n + 1) (by omega) _ (fun g x1 x2 x3 x4 x5 r t h => c_X0_afterwards l dC dI ad cI cZ hI (2 + 2 * n + 1) (by omega) (2 + 2 * n) (by omega) _ (ih) g x1 x2 x3 x4 x5 r t h) g x1 x2 x3 x4 x5 r t h
