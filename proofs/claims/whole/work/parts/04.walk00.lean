set_option maxHeartbeats 4000000 in
set_option maxRecDepth 100000 in
theorem c_X6_within (l : Launch) (dC : Nat → ClassId) (dI : Nat → Nat → Nat) (ad : Nat → Nat) (cI cZ : ClassId) (hI : ob_inj shX ad) (d : Nat) (hd : 0 ≤ d) (g : Mm) (x0 x1 x2 : Int32) (r : Int32) (hf : f_X6_within x0 x1 x2 = some r) : ob_Mi l yX6_within wsX6_within d (dC, dI) vwCl shX ad cI cZ nwX [.int x0, .int x1, .int x2] g r g := by
  refine ob_ofW (cc := cX6_within) (maxL := 3) (ret := (some .boolean)) (by decide) rfl ?_
  intro p e s m args below meth c ha hx hb hr hml hts hown hlocks hM0 hK hS0
  have hown : s.vm.findClass RX6 = some m.cls := hown
  subst ha
  have hl := lv_entry ([.int x0, .int x1, .int x2]) (n := 3) (Nat.le_of_ble_eq_true rfl)
  rw [lg_entry_eq]
  generalize (lg_sl ([.int x0, .int x1, .int x2]) ++ List.replicate (3 - (lg_sl ([.int x0, .int x1, .int x2])).length) Slot.unset).toArray = ls at hl ⊢
  have hl : lv_has ls 3 [(0, .int x0), (1, .int x1), (2, .int x2)] := hl
  have hM := hM0
  have hS := hS0
  unfold f_X6_within at hf
  refine lv_iload_n hx hb dX6_within_0 rfl (lv_at hl 0 rfl) ?_
  refine lv_iload_n hx hb dX6_within_1 rfl (lv_at hl 1 rfl) ?_
  refine lv_icmp_lt (tgt := 14) hx hb dX6_within_2 (by decide) (fun c1 => ?_) (fun c1 => ?_)
  · rw [if_pos c1] at hf
    refine lv_iconst (v := 0) hx hb dX6_within_14 (by decide) ?_
    exact ob_iretR hx hb hr hlocks hM hS (v := 0) rfl hf dX6_within_15
  · rw [if_neg c1] at hf
    refine lv_iload_n hx hb dX6_within_5 rfl (lv_at hl 0 rfl) ?_
    refine lv_iload_n hx hb dX6_within_6 rfl (lv_at hl 2 rfl) ?_
    refine lv_icmp_gt (tgt := 14) hx hb dX6_within_7 (by decide) (fun c2 => ?_) (fun c2 => ?_)
    · rw [if_pos c2] at hf
      refine lv_iconst (v := 0) hx hb dX6_within_14 (by decide) ?_
      exact ob_iretR hx hb hr hlocks hM hS (v := 0) rfl hf dX6_within_15
    · rw [if_neg c2] at hf
      refine lv_iconst (v := 1) hx hb dX6_within_10 (by decide) ?_
      refine lv_goto (tgt := 15) hx hb dX6_within_11 (by decide) ?_
      exact ob_iretR hx hb hr hlocks hM hS (v := 1) rfl hf dX6_within_15
set_option maxHeartbeats 4000000 in
set_option maxRecDepth 100000 in
theorem c_X3_isFull (l : Launch) (dC : Nat → ClassId) (dI : Nat → Nat → Nat) (ad : Nat → Nat) (cI cZ : ClassId) (hI : ob_inj shX ad) (d : Nat) (hd : 0 ≤ d) (g : Mm) (r : Int32) (hf : f_X3_isFull g = some r) : ob_Mi l yX3_isFull wsX3_isFull d (dC, dI) vwCl shX ad cI cZ nwX [.ref (ad 1)] g r g := by
  refine ob_ofW (cc := cX3_isFull) (maxL := 1) (ret := (some .boolean)) (by decide) rfl ?_
  intro p e s m args below meth c ha hx hb hr hml hts hown hlocks hM0 hK hS0
  have hown : s.vm.findClass RX3 = some m.cls := hown
  have in_own : ∀ w ∈ wsX30, w ∈ wsX3_isFull := fun w h => (List.mem_cons_of_mem _ (List.mem_append_right _ h))
  have hf_15 := hts (.fieldLink RX3 15 "OneWorse$Pad" "size" "I") (List.mem_cons_of_mem _ (List.mem_append_left _ (List.mem_of_getElem? (i := 0) rfl)))
  subst ha
  have hl := lv_entry ([.ref (ad 1)]) (n := 1) (Nat.le_of_ble_eq_true rfl)
  rw [lg_entry_eq]
  generalize (lg_sl ([.ref (ad 1)]) ++ List.replicate (1 - (lg_sl ([.ref (ad 1)])).length) Slot.unset).toArray = ls at hl ⊢
  have hl : lv_has ls 1 [(0, .ref (ad 1))] := hl
  have hM := hM0
  have hS := hS0
  unfold f_X3_isFull at hf
  refine lv_aload_n hx hb dX3_isFull_0 rfl (lv_at hl 0 rfl) ?_
  refine ob_gi hx hb hts in_own hown hK hM (q := 1) shX_1 (C := RX3) (T := TX3) (N := 2) rfl 1 (by decide) hf_15 rfl dX3_isFull_1 ?_
  refine lv_bipush (v := 40) hx hb dX3_isFull_4 (by decide) ?_
  refine lv_icmp_lt (tgt := 13) hx hb dX3_isFull_6 (by decide) (fun c1 => ?_) (fun c1 => ?_)
  · rw [if_pos c1] at hf
    refine lv_iconst (v := 0) hx hb dX3_isFull_13 (by decide) ?_
    exact ob_iretR hx hb hr hlocks hM hS (v := 0) rfl hf dX3_isFull_14
  · rw [if_neg c1] at hf
    refine lv_iconst (v := 1) hx hb dX3_isFull_9 (by decide) ?_
    refine lv_goto (tgt := 14) hx hb dX3_isFull_10 (by decide) ?_
    exact ob_iretR hx hb hr hlocks hM hS (v := 1) rfl hf dX3_isFull_14
set_option maxHeartbeats 4000000 in
set_option maxRecDepth 100000 in
theorem c_X3_put (l : Launch) (dC : Nat → ClassId) (dI : Nat → Nat → Nat) (ad : Nat → Nat) (cI cZ : ClassId) (hI : ob_inj shX ad) (d : Nat) (hd : 0 ≤ d) (g : Mm) (x1 : Int32) (t : Mm) (hf : f_X3_put g x1 = some t) : ob_Mv l yX3_put wsX3_put d (dC, dI) vwCl shX ad cI cZ nwX [.ref (ad 1), .int x1] g t := by
  refine ob_ofW (cc := cX3_put) (maxL := 2) (ret := none) (by decide) rfl ?_
  intro p e s m args below meth c ha hx hb hr hml hts hown hlocks hM0 hK hS0
  have hown : s.vm.findClass RX3 = some m.cls := hown
  have in_own : ∀ w ∈ wsX30, w ∈ wsX3_put := fun w h => (List.mem_cons_of_mem _ (List.mem_append_right _ h))
  have hf_15 := hts (.fieldLink RX3 15 "OneWorse$Pad" "size" "I") (List.mem_cons_of_mem _ (List.mem_append_left _ (List.mem_of_getElem? (i := 0) rfl)))
  have hf_11 := hts (.fieldLink RX3 11 "OneWorse$Pad" "signs" "[I") (List.mem_cons_of_mem _ (List.mem_append_left _ (List.mem_of_getElem? (i := 1) rfl)))
  subst ha
  have hl := lv_entry ([.ref (ad 1), .int x1]) (n := 2) (Nat.le_of_ble_eq_true rfl)
  rw [lg_entry_eq]
  generalize (lg_sl ([.ref (ad 1), .int x1]) ++ List.replicate (2 - (lg_sl ([.ref (ad 1), .int x1])).length) Slot.unset).toArray = ls at hl ⊢
  have hl : lv_has ls 2 [(0, .ref (ad 1)), (1, .int x1)] := hl
  have hM := hM0
  have hS := hS0
  unfold f_X3_put at hf
  refine lv_aload_n hx hb dX3_put_0 rfl (lv_at hl 0 rfl) ?_
  refine ob_gi hx hb hts in_own hown hK hM (q := 1) shX_1 (C := RX3) (T := TX3) (N := 2) rfl 1 (by decide) hf_15 rfl dX3_put_1 ?_
  refine lv_if_lt (tgt := 19) hx hb dX3_put_4 (by decide) (fun c1 => ?_) (fun c1 => ?_)
  · rw [if_pos c1] at hf
    exact ob_vret hx hb hr hlocks hM hS hf dX3_put_19
  · rw [if_neg c1] at hf
    refine lv_aload_n hx hb dX3_put_7 rfl (lv_at hl 0 rfl) ?_
    refine ob_gi hx hb hts in_own hown hK hM (q := 1) shX_1 (C := RX3) (T := TX3) (N := 2) rfl 1 (by decide) hf_15 rfl dX3_put_8 ?_
    refine lv_aload_n hx hb dX3_put_11 rfl (lv_at hl 0 rfl) ?_
    refine ob_gr (j := 30) hx hb hts in_own hown hK hM (q := 1) shX_1 (C := RX3) (T := TX3) (N := 2) rfl 0 (by decide) hf_11 rfl dX3_put_12 ?_
    refine ob_alen hx hb hK hM (q := 30) (n := 40) shX_30 (v := 40) rfl dX3_put_15 ?_
    refine lv_icmp_lt (tgt := 20) hx hb dX3_put_16 (by decide) (fun c2 => ?_) (fun c2 => ?_)
    · rw [if_pos c2] at hf
      refine lv_aload_n hx hb dX3_put_20 rfl (lv_at hl 0 rfl) ?_
      refine ob_gr (j := 30) hx hb hts in_own hown hK hM (q := 1) shX_1 (C := RX3) (T := TX3) (N := 2) rfl 0 (by decide) hf_11 rfl dX3_put_21 ?_
      refine lv_aload_n hx hb dX3_put_24 rfl (lv_at hl 0 rfl) ?_
      refine ob_gi hx hb hts in_own hown hK hM (q := 1) shX_1 (C := RX3) (T := TX3) (N := 2) rfl 1 (by decide) hf_15 rfl dX3_put_25 ?_
      refine lv_iload_n hx hb dX3_put_28 rfl (lv_at hl 1 rfl) ?_
      obtain ⟨g3, e3, hf⟩ := ob_e1 hf
      refine ob_iast hx hb hK hM hI hS (q := 30) (n := 40) shX_30 e3 dX3_put_29 (fun H locs hM hS => ?_)
      refine lv_aload_n hx hb dX3_put_30 rfl (lv_at hl 0 rfl) ?_
      refine lv_dup hx hb dX3_put_31 rfl ?_
      refine ob_gi hx hb hts in_own hown hK hM (q := 1) shX_1 (C := RX3) (T := TX3) (N := 2) rfl 1 (by decide) hf_15 rfl dX3_put_32 ?_
      refine lv_iconst (v := 1) hx hb dX3_put_35 (by decide) ?_
      refine lv_iadd hx hb dX3_put_36 ?_
      refine ob_pi hx hb hts in_own tyX3 tyX3_ok nmX3 hown hK hM hI hS (q := 1) shX_1 (C := RX3) (T := TX3) (N := 2) rfl 1 (by decide) hf_15 rfl rfl (ty := .int) (v := ((g3 1 1) + 1)) (tyX3_ok 1 (by decide)) rfl rfl dX3_put_37 (fun H locs hM hS => ?_)
      exact ob_vret hx hb hr hlocks hM hS hf dX3_put_40
    · rw [if_neg c2] at hf
      exact ob_vret hx hb hr hlocks hM hS hf dX3_put_19
set_option maxHeartbeats 4000000 in
set_option maxRecDepth 100000 in
theorem c_X3_size (l : Launch) (dC : Nat → ClassId) (dI : Nat → Nat → Nat) (ad : Nat → Nat) (cI cZ : ClassId) (hI : ob_inj shX ad) (d : Nat) (hd : 0 ≤ d) (g : Mm) (r : Int32) (hf : f_X3_size g = some r) : ob_Mi l yX3_size wsX3_size d (dC, dI) vwCl shX ad cI cZ nwX [.ref (ad 1)] g r g := by
  refine ob_ofW (cc := cX3_size) (maxL := 1) (ret := (some .int)) (by decide) rfl ?_
  intro p e s m args below meth c ha hx hb hr hml hts hown hlocks hM0 hK hS0
  have hown : s.vm.findClass RX3 = some m.cls := hown
  have in_own : ∀ w ∈ wsX30, w ∈ wsX3_size := fun w h => (List.mem_cons_of_mem _ (List.mem_append_right _ h))
  have hf_15 := hts (.fieldLink RX3 15 "OneWorse$Pad" "size" "I") (List.mem_cons_of_mem _ (List.mem_append_left _ (List.mem_of_getElem? (i := 0) rfl)))
  subst ha
  have hl := lv_entry ([.ref (ad 1)]) (n := 1) (Nat.le_of_ble_eq_true rfl)
  rw [lg_entry_eq]
  generalize (lg_sl ([.ref (ad 1)]) ++ List.replicate (1 - (lg_sl ([.ref (ad 1)])).length) Slot.unset).toArray = ls at hl ⊢
  have hl : lv_has ls 1 [(0, .ref (ad 1))] := hl
  have hM := hM0
  have hS := hS0
  unfold f_X3_size at hf
  refine lv_aload_n hx hb dX3_size_0 rfl (lv_at hl 0 rfl) ?_
  refine ob_gi hx hb hts in_own hown hK hM (q := 1) shX_1 (C := RX3) (T := TX3) (N := 2) rfl 1 (by decide) hf_15 rfl dX3_size_1 ?_
  exact ob_iretR hx hb hr hlocks hM hS (v := (g 1 1)) rfl hf dX3_size_4
set_option maxHeartbeats 4000000 in
set_option maxRecDepth 100000 in
theorem c_X6_say (l : Launch) (dC : Nat → ClassId) (dI : Nat → Nat → Nat) (ad : Nat → Nat) (cI cZ : ClassId) (hI : ob_inj shX ad) (d : Nat) (hd : 1 ≤ d) (g : Mm) (x1 : Int32) (r : Int32) (t : Mm) (hf : f_X6_say g x1 = some (r, t)) : ob_Mi l yX6_say wsX6_say d (dC, dI) vwCl shX ad cI cZ nwX [.ref (ad 0), .int x1] g r t := by
  refine ob_ofW (cc := cX6_say) (maxL := 2) (ret := (some .int)) (by decide) rfl ?_
  intro p e s m args below meth c ha hx hb hr hml hts hown hlocks hM0 hK hS0
  have hown : s.vm.findClass RX6 = some m.cls := hown
  have in_own : ∀ w ∈ wsX60, w ∈ wsX6_say := fun w h => (List.mem_cons_of_mem _ (List.mem_append_left _ (List.mem_append_right _ h)))
  have hf_10 := hts (.fieldLink RX6 10 "OneWorse" "pad" "LOneWorse$Pad;") (List.mem_cons_of_mem _ (List.mem_append_left _ (List.mem_append_left _ (List.mem_of_getElem? (i := 0) rfl))))
  have hi_X3 := hts (.initialized RX3) (List.mem_cons_of_mem _ (List.mem_append_left _ (List.mem_append_left _ (List.mem_of_getElem? (i := 6) rfl))))
  have hin_X3_isFull := hts (.instanceMethod yX3_isFull) (List.mem_cons_of_mem _ (List.mem_append_left _ (List.mem_append_left _ (List.mem_of_getElem? (i := 5) rfl))))
  have hse_X3_isFull := hts (.selects RX3 yX3_isFull yX3_isFull) (List.mem_cons_of_mem _ (List.mem_append_left _ (List.mem_append_left _ (List.mem_of_getElem? (i := 7) rfl))))
  have hin_X3_put := hts (.instanceMethod yX3_put) (List.mem_cons_of_mem _ (List.mem_append_left _ (List.mem_append_left _ (List.mem_of_getElem? (i := 10) rfl))))
  have hse_X3_put := hts (.selects RX3 yX3_put yX3_put) (List.mem_cons_of_mem _ (List.mem_append_left _ (List.mem_append_left _ (List.mem_of_getElem? (i := 11) rfl))))
  have hin_X3_size := hts (.instanceMethod yX3_size) (List.mem_cons_of_mem _ (List.mem_append_left _ (List.mem_append_left _ (List.mem_of_getElem? (i := 14) rfl))))
  have hse_X3_size := hts (.selects RX3 yX3_size yX3_size) (List.mem_cons_of_mem _ (List.mem_append_left _ (List.mem_append_left _ (List.mem_of_getElem? (i := 15) rfl))))
  subst ha
  have hl := lv_entry ([.ref (ad 0), .int x1]) (n := 2) (Nat.le_of_ble_eq_true rfl)
  rw [lg_entry_eq]
  generalize (lg_sl ([.ref (ad 0), .int x1]) ++ List.replicate (2 - (lg_sl ([.ref (ad 0), .int x1])).length) Slot.unset).toArray = ls at hl ⊢
  have hl : lv_has ls 2 [(0, .ref (ad 0)), (1, .int x1)] := hl
  have hM := hM0
  have hS := hS0
  unfold f_X6_say at hf
  refine lv_iload_n hx hb dX6_say_0 rfl (lv_at hl 1 rfl) ?_
  refine lv_bipush (v := 33) hx hb dX6_say_1 (by decide) ?_
  refine lv_bipush (v := 126) hx hb dX6_say_3 (by decide) ?_
  obtain ⟨v1, e1, hf⟩ := ob_e1 hf
  refine ob_calli (va_runS (As := [.int x1, .int 33, .int 126]) (rest := []) ⟨hx, hb, hml, hown, hts⟩ (c_X6_within l dC dI ad cI cZ hI 0 (Nat.le_refl _) g x1 33 126  v1 e1) (va_cwS 3 hts gX6_say_X6_within rfl rfl rfl hd_X6_within (ob_R (Nat.le_trans (by decide) hd) (by decide))) (ob_preS hK hM) rfl rfl hl.1 rfl (lv_room (Nat.le_of_ble_eq_true rfl)) dX6_say_5 ⟨Nat.le_refl _, Nat.le_refl _⟩) hS (fun H locs hM hS => ?_)
  refine lv_if_ne (tgt := 14) hx hb dX6_say_8 (by decide) (fun c2 => ?_) (fun c2 => ?_)
  · rw [if_neg c2] at hf
    refine lv_aload_n hx hb dX6_say_14 rfl (lv_at hl 0 rfl) ?_
    refine ob_gr (j := 1) hx hb hts in_own hown hK hM (q := 0) shX_0 (C := RX6) (T := TX6) (N := 8) rfl 0 (by decide) hf_10 rfl dX6_say_15 ?_
    obtain ⟨v3, e3, hf⟩ := ob_e1 hf
    refine ob_calli (va_runVN (As := []) (rest := []) ⟨hx, hb, hml, hown, hts⟩ (c_X3_isFull l dC dI ad cI cZ hI 0 (Nat.le_refl _) g  v3 e3) ⟨va_cnB 0 hts gX6_say_X3_isFull_n63 rfl rfl rfl (ob_nl hK nw_X6_63) hi_X3 hd_X3_isFull (ob_R (Nat.le_trans (by decide) hd) (by decide)), hin_X3_isFull, hse_X3_isFull⟩ (ob_preV hK hM (q := 1) shX_1 rfl) rfl rfl hl.1 rfl (lv_room (Nat.le_of_ble_eq_true rfl)) dX6_say_18 ⟨Nat.le_refl _, Nat.le_refl _⟩) hS (fun H locs hM hS => ?_)
    refine lv_if_eq (tgt := 27) hx hb dX6_say_21 (by decide) (fun c4 => ?_) (fun c4 => ?_)
    · rw [if_pos c4] at hf
      refine lv_aload_n hx hb dX6_say_27 rfl (lv_at hl 0 rfl) ?_
      refine ob_gr (j := 1) hx hb hts in_own hown hK hM (q := 0) shX_0 (C := RX6) (T := TX6) (N := 8) rfl 0 (by decide) hf_10 rfl dX6_say_28 ?_
      refine lv_iload_n hx hb dX6_say_31 rfl (lv_at hl 1 rfl) ?_
      obtain ⟨g5, e5, hf⟩ := ob_e1 hf
      refine ob_callv (va_runVN (As := [.int x1]) (rest := []) ⟨hx, hb, hml, hown, hts⟩ (c_X3_put l dC dI ad cI cZ hI 0 (Nat.le_refl _) g x1  g5 e5) ⟨va_cnB 1 hts gX6_say_X3_put_n67 rfl rfl rfl (ob_nl hK nw_X6_67) hi_X3 hd_X3_put (ob_R (Nat.le_trans (by decide) hd) (by decide)), hin_X3_put, hse_X3_put⟩ (ob_preV hK hM (q := 1) shX_1 rfl) rfl rfl hl.1 rfl (lv_room (Nat.le_of_ble_eq_true rfl)) dX6_say_32 ⟨Nat.le_refl _, Nat.le_refl _⟩) hS (fun H locs hM hS => ?_)
      refine lv_aload_n hx hb dX6_say_35 rfl (lv_at hl 0 rfl) ?_
      refine ob_gr (j := 1) hx hb hts in_own hown hK hM (q := 0) shX_0 (C := RX6) (T := TX6) (N := 8) rfl 0 (by decide) hf_10 rfl dX6_say_36 ?_
      obtain ⟨v6, e6, hf⟩ := ob_e1 hf
      refine ob_calli (va_runVN (As := []) (rest := []) ⟨hx, hb, hml, hown, hts⟩ (c_X3_size l dC dI ad cI cZ hI 0 (Nat.le_refl _) g5  v6 e6) ⟨va_cnB 0 hts gX6_say_X3_size_n71 rfl rfl rfl (ob_nl hK nw_X6_71) hi_X3 hd_X3_size (ob_R (Nat.le_trans (by decide) hd) (by decide)), hin_X3_size, hse_X3_size⟩ (ob_preV hK hM (q := 1) shX_1 rfl) rfl rfl hl.1 rfl (lv_room (Nat.le_of_ble_eq_true rfl)) dX6_say_39 ⟨Nat.le_refl _, Nat.le_refl _⟩) hS (fun H locs hM hS => ?_)
      exact ob_iret hx hb hr hlocks hM hS (v := v6) rfl hf dX6_say_42
    · rw [if_neg c4] at hf
      refine lv_bipush (v := (-4)) hx hb dX6_say_24 (by decide) ?_
      exact ob_iret hx hb hr hlocks hM hS (v := (-4)) rfl hf dX6_say_26
  · rw [if_pos c2] at hf
    refine lv_bipush (v := (-2)) hx hb dX6_say_11 (by decide) ?_
    exact ob_iret hx hb hr hlocks hM hS (v := (-2)) rfl hf dX6_say_13
set_option maxHeartbeats 4000000 in
set_option maxRecDepth 100000 in
theorem c_X3_clear (l : Launch) (dC : Nat → ClassId) (dI : Nat → Nat → Nat) (ad : Nat → Nat) (cI cZ : ClassId) (hI : ob_inj shX ad) (d : Nat) (hd : 0 ≤ d) (g : Mm) (t : Mm) (hf : f_X3_clear g = some t) : ob_Mv l yX3_clear wsX3_clear d (dC, dI) vwCl shX ad cI cZ nwX [.ref (ad 1)] g t := by
  refine ob_ofW (cc := cX3_clear) (maxL := 1) (ret := none) (by decide) rfl ?_
  intro p e s m args below meth c ha hx hb hr hml hts hown hlocks hM0 hK hS0
  have hown : s.vm.findClass RX3 = some m.cls := hown
  have in_own : ∀ w ∈ wsX30, w ∈ wsX3_clear := fun w h => (List.mem_cons_of_mem _ (List.mem_append_right _ h))
  have hf_15 := hts (.fieldLink RX3 15 "OneWorse$Pad" "size" "I") (List.mem_cons_of_mem _ (List.mem_append_left _ (List.mem_of_getElem? (i := 0) rfl)))
  subst ha
  have hl := lv_entry ([.ref (ad 1)]) (n := 1) (Nat.le_of_ble_eq_true rfl)
  rw [lg_entry_eq]
  generalize (lg_sl ([.ref (ad 1)]) ++ List.replicate (1 - (lg_sl ([.ref (ad 1)])).length) Slot.unset).toArray = ls at hl ⊢
  have hl : lv_has ls 1 [(0, .ref (ad 1))] := hl
  have hM := hM0
  have hS := hS0
  unfold f_X3_clear at hf
  refine lv_aload_n hx hb dX3_clear_0 rfl (lv_at hl 0 rfl) ?_
  refine lv_iconst (v := 0) hx hb dX3_clear_1 (by decide) ?_
  refine ob_pi hx hb hts in_own tyX3 tyX3_ok nmX3 hown hK hM hI hS (q := 1) shX_1 (C := RX3) (T := TX3) (N := 2) rfl 1 (by decide) hf_15 rfl rfl (ty := .int) (v := 0) (tyX3_ok 1 (by decide)) rfl rfl dX3_clear_2 (fun H locs hM hS => ?_)
  exact ob_vret hx hb hr hlocks hM hS hf dX3_clear_5
set_option maxHeartbeats 4000000 in
set_option maxRecDepth 100000 in
theorem c_X6_wipe (l : Launch) (dC : Nat → ClassId) (dI : Nat → Nat → Nat) (ad : Nat → Nat) (cI cZ : ClassId) (hI : ob_inj shX ad) (d : Nat) (hd : 1 ≤ d) (g : Mm) (r : Int32) (t : Mm) (hf : f_X6_wipe g = some (r, t)) : ob_Mi l yX6_wipe wsX6_wipe d (dC, dI) vwCl shX ad cI cZ nwX [.ref (ad 0)] g r t := by
  refine ob_ofW (cc := cX6_wipe) (maxL := 2) (ret := (some .int)) (by decide) rfl ?_
  intro p e s m args below meth c ha hx hb hr hml hts hown hlocks hM0 hK hS0
  have hown : s.vm.findClass RX6 = some m.cls := hown
  have in_own : ∀ w ∈ wsX60, w ∈ wsX6_wipe := fun w h => (List.mem_cons_of_mem _ (List.mem_append_left _ (List.mem_append_right _ h)))
  have hf_10 := hts (.fieldLink RX6 10 "OneWorse" "pad" "LOneWorse$Pad;") (List.mem_cons_of_mem _ (List.mem_append_left _ (List.mem_append_left _ (List.mem_of_getElem? (i := 0) rfl))))
  have hi_X3 := hts (.initialized RX3) (List.mem_cons_of_mem _ (List.mem_append_left _ (List.mem_append_left _ (List.mem_of_getElem? (i := 2) rfl))))
  have hin_X3_size := hts (.instanceMethod yX3_size) (List.mem_cons_of_mem _ (List.mem_append_left _ (List.mem_append_left _ (List.mem_of_getElem? (i := 1) rfl))))
  have hse_X3_size := hts (.selects RX3 yX3_size yX3_size) (List.mem_cons_of_mem _ (List.mem_append_left _ (List.mem_append_left _ (List.mem_of_getElem? (i := 3) rfl))))
  have hin_X3_clear := hts (.instanceMethod yX3_clear) (List.mem_cons_of_mem _ (List.mem_append_left _ (List.mem_append_left _ (List.mem_of_getElem? (i := 6) rfl))))
  have hse_X3_clear := hts (.selects RX3 yX3_clear yX3_clear) (List.mem_cons_of_mem _ (List.mem_append_left _ (List.mem_append_left _ (List.mem_of_getElem? (i := 7) rfl))))
  subst ha
  have hl := lv_entry ([.ref (ad 0)]) (n := 2) (Nat.le_of_ble_eq_true rfl)
  rw [lg_entry_eq]
  generalize (lg_sl ([.ref (ad 0)]) ++ List.replicate (2 - (lg_sl ([.ref (ad 0)])).length) Slot.unset).toArray = ls at hl ⊢
  have hl : lv_has ls 2 [(0, .ref (ad 0))] := hl
  have hM := hM0
  have hS := hS0
  unfold f_X6_wipe at hf
  refine lv_aload_n hx hb dX6_wipe_0 rfl (lv_at hl 0 rfl) ?_
  refine ob_gr (j := 1) hx hb hts in_own hown hK hM (q := 0) shX_0 (C := RX6) (T := TX6) (N := 8) rfl 0 (by decide) hf_10 rfl dX6_wipe_1 ?_
  obtain ⟨v1, e1, hf⟩ := ob_e1 hf
  refine ob_calli (va_runVN (As := []) (rest := []) ⟨hx, hb, hml, hown, hts⟩ (c_X3_size l dC dI ad cI cZ hI 0 (Nat.le_refl _) g  v1 e1) ⟨va_cnB 0 hts gX6_wipe_X3_size_n71 rfl rfl rfl (ob_nl hK nw_X6_71) hi_X3 hd_X3_size (ob_R (Nat.le_trans (by decide) hd) (by decide)), hin_X3_size, hse_X3_size⟩ (ob_preV hK hM (q := 1) shX_1 rfl) rfl rfl hl.1 rfl (lv_room (Nat.le_of_ble_eq_true rfl)) dX6_wipe_4 ⟨Nat.le_refl _, Nat.le_refl _⟩) hS (fun H locs hM hS => ?_)
  refine lv_istore_n (lv' := [(1, .int v1), (0, .ref (ad 0))]) hx hb dX6_wipe_7 rfl hl (by decide) rfl (fun ls hl => ?_)
  refine lv_aload_n hx hb dX6_wipe_8 rfl (lv_at hl 1 rfl) ?_
  refine ob_gr (j := 1) hx hb hts in_own hown hK hM (q := 0) shX_0 (C := RX6) (T := TX6) (N := 8) rfl 0 (by decide) hf_10 rfl dX6_wipe_9 ?_
  obtain ⟨g2, e2, hf⟩ := ob_e1 hf
  refine ob_callv (va_runVN (As := []) (rest := []) ⟨hx, hb, hml, hown, hts⟩ (c_X3_clear l dC dI ad cI cZ hI 0 (Nat.le_refl _) g  g2 e2) ⟨va_cnB 0 hts gX6_wipe_X3_clear_n75 rfl rfl rfl (ob_nl hK nw_X6_75) hi_X3 hd_X3_clear (ob_R (Nat.le_trans (by decide) hd) (by decide)), hin_X3_clear, hse_X3_clear⟩ (ob_preV hK hM (q := 1) shX_1 rfl) rfl rfl hl.1 rfl (lv_room (Nat.le_of_ble_eq_true rfl)) dX6_wipe_12 ⟨Nat.le_refl _, Nat.le_refl _⟩) hS (fun H locs hM hS => ?_)
  refine lv_iload_n hx hb dX6_wipe_15 rfl (lv_at hl 0 rfl) ?_
  exact ob_iret hx hb hr hlocks hM hS (v := v1) rfl hf dX6_wipe_16
set_option maxHeartbeats 4000000 in
set_option maxRecDepth 100000 in
theorem c_X6_at (l : Launch) (dC : Nat → ClassId) (dI : Nat → Nat → Nat) (ad : Nat → Nat) (cI cZ : ClassId) (hI : ob_inj shX ad) (d : Nat) (hd : 0 ≤ d) (g : Mm) (q0 n0 : Nat) (hq0 : shX[q0]? = some (.inl (false, n0))) (x1 : Int32) (r : Int32) (hf : f_X6_at g q0 n0 x1 = some r) : ob_Mi l yX6_at wsX6_at d (dC, dI) vwCl shX ad cI cZ nwX [.ref (ad q0), .int x1] g r g := by
  refine ob_ofW (cc := cX6_at) (maxL := 2) (ret := (some .int)) (by decide) rfl ?_
  intro p e s m args below meth c ha hx hb hr hml hts hown hlocks hM0 hK hS0
  have hown : s.vm.findClass RX6 = some m.cls := hown
  subst ha
  have hl := lv_entry ([.ref (ad q0), .int x1]) (n := 2) (Nat.le_of_ble_eq_true rfl)
  rw [lg_entry_eq]
  generalize (lg_sl ([.ref (ad q0), .int x1]) ++ List.replicate (2 - (lg_sl ([.ref (ad q0), .int x1])).length) Slot.unset).toArray = ls at hl ⊢
  have hl : lv_has ls 2 [(0, .ref (ad q0)), (1, .int x1)] := hl
  have hM := hM0
  have hS := hS0
  unfold f_X6_at at hf
  refine lv_iload_n hx hb dX6_at_0 rfl (lv_at hl 1 rfl) ?_
  refine lv_if_lt (tgt := 16) hx hb dX6_at_1 (by decide) (fun c1 => ?_) (fun c1 => ?_)
  · rw [if_pos c1] at hf
    refine lv_iconst (v := 0) hx hb dX6_at_16 (by decide) ?_
    exact ob_iretR hx hb hr hlocks hM hS (v := 0) rfl hf dX6_at_17
  · rw [if_neg c1] at hf
    refine lv_iload_n hx hb dX6_at_4 rfl (lv_at hl 1 rfl) ?_
    refine lv_aload_n hx hb dX6_at_5 rfl (lv_at hl 0 rfl) ?_
    refine ob_alen hx hb hK hM (q := q0) (n := n0) hq0 (v := (Int32.ofNat n0)) rfl dX6_at_6 ?_
    refine lv_icmp_ge (tgt := 16) hx hb dX6_at_7 (by decide) (fun c2 => ?_) (fun c2 => ?_)
    · rw [if_pos c2] at hf
      refine lv_iconst (v := 0) hx hb dX6_at_16 (by decide) ?_
      exact ob_iretR hx hb hr hlocks hM hS (v := 0) rfl hf dX6_at_17
    · rw [if_neg c2] at hf
      refine lv_aload_n hx hb dX6_at_10 rfl (lv_at hl 0 rfl) ?_
      refine lv_iload_n hx hb dX6_at_11 rfl (lv_at hl 1 rfl) ?_
      obtain ⟨v3, e3, hf⟩ := ob_e1 hf
      refine ob_iald hx hb hK hM (q := q0) (n := n0) hq0 e3 dX6_at_12 ?_
      refine lv_goto (tgt := 17) hx hb dX6_at_13 (by decide) ?_
      exact ob_iretR hx hb hr hlocks hM hS (v := v3) rfl hf dX6_at_17
set_option maxHeartbeats 4000000 in
set_option maxRecDepth 100000 in
theorem c_X3_signAt (l : Launch) (dC : Nat → ClassId) (dI : Nat → Nat → Nat) (ad : Nat → Nat) (cI cZ : ClassId) (hI : ob_inj shX ad) (d : Nat) (hd : 1 ≤ d) (g : Mm) (x1 : Int32) (r : Int32) (hf : f_X3_signAt g x1 = some r) : ob_Mi l yX3_signAt wsX3_signAt d (dC, dI) vwCl shX ad cI cZ nwX [.ref (ad 1), .int x1] g r g := by
  refine ob_ofW (cc := cX3_signAt) (maxL := 2) (ret := (some .int)) (by decide) rfl ?_
  intro p e s m args below meth c ha hx hb hr hml hts hown hlocks hM0 hK hS0
  have hown : s.vm.findClass RX3 = some m.cls := hown
  have in_own : ∀ w ∈ wsX30, w ∈ wsX3_signAt := fun w h => (List.mem_cons_of_mem _ (List.mem_append_right _ h))
  have hf_15 := hts (.fieldLink RX3 15 "OneWorse$Pad" "size" "I") (List.mem_cons_of_mem _ (List.mem_append_left _ (List.mem_of_getElem? (i := 0) rfl)))
  have hf_11 := hts (.fieldLink RX3 11 "OneWorse$Pad" "signs" "[I") (List.mem_cons_of_mem _ (List.mem_append_left _ (List.mem_of_getElem? (i := 1) rfl)))
  have hi_X6 := hts (.initialized RX6) (List.mem_cons_of_mem _ (List.mem_append_left _ (List.mem_of_getElem? (i := 3) rfl)))
  have hst_X6_at := hts (.static yX6_at) (List.mem_cons_of_mem _ (List.mem_append_left _ (List.mem_of_getElem? (i := 2) rfl)))
  subst ha
  have hl := lv_entry ([.ref (ad 1), .int x1]) (n := 2) (Nat.le_of_ble_eq_true rfl)
  rw [lg_entry_eq]
  generalize (lg_sl ([.ref (ad 1), .int x1]) ++ List.replicate (2 - (lg_sl ([.ref (ad 1), .int x1])).length) Slot.unset).toArray = ls at hl ⊢
  have hl : lv_has ls 2 [(0, .ref (ad 1)), (1, .int x1)] := hl
  have hM := hM0
  have hS := hS0
  unfold f_X3_signAt at hf
  refine lv_iload_n hx hb dX3_signAt_0 rfl (lv_at hl 1 rfl) ?_
  refine lv_aload_n hx hb dX3_signAt_1 rfl (lv_at hl 0 rfl) ?_
  refine ob_gi hx hb hts in_own hown hK hM (q := 1) shX_1 (C := RX3) (T := TX3) (N := 2) rfl 1 (by decide) hf_15 rfl dX3_signAt_2 ?_
  refine lv_icmp_ge (tgt := 19) hx hb dX3_signAt_5 (by decide) (fun c1 => ?_) (fun c1 => ?_)
  · rw [if_pos c1] at hf
    refine lv_iconst (v := 0) hx hb dX3_signAt_19 (by decide) ?_
    exact ob_iretR hx hb hr hlocks hM hS (v := 0) rfl hf dX3_signAt_20
  · rw [if_neg c1] at hf
    refine lv_aload_n hx hb dX3_signAt_8 rfl (lv_at hl 0 rfl) ?_
    refine ob_gr (j := 30) hx hb hts in_own hown hK hM (q := 1) shX_1 (C := RX3) (T := TX3) (N := 2) rfl 0 (by decide) hf_11 rfl dX3_signAt_9 ?_
    refine lv_iload_n hx hb dX3_signAt_12 rfl (lv_at hl 1 rfl) ?_
    obtain ⟨v2, e2, hf⟩ := ob_e1 hf
    refine ob_calli (va_runSN (As := [.ref (ad 30), .int x1]) (rest := []) ⟨hx, hb, hml, hown, hts⟩ (c_X6_at l dC dI ad cI cZ hI 0 (Nat.le_refl _) g 30 40 shX_30 x1  v2 e2) ⟨va_cnB 2 hts gX3_signAt_X6_at_n19 rfl rfl rfl (ob_nl hK nw_X3_19) hi_X6 hd_X6_at (ob_R (Nat.le_trans (by decide) hd) (by decide)), hst_X6_at, trivial⟩ (ob_preS hK hM) rfl rfl hl.1 rfl (lv_room (Nat.le_of_ble_eq_true rfl)) dX3_signAt_13 ⟨Nat.le_refl _, Nat.le_refl _⟩) hS (fun H locs hM hS => ?_)
    refine lv_goto (tgt := 20) hx hb dX3_signAt_16 (by decide) ?_
    exact ob_iretR hx hb hr hlocks hM hS (v := v2) rfl hf dX3_signAt_20
set_option maxHeartbeats 4000000 in
set_option maxRecDepth 100000 in
theorem c_X6_isInsult (l : Launch) (dC : Nat → ClassId) (dI : Nat → Nat → Nat) (ad : Nat → Nat) (cI cZ : ClassId) (hI : ob_inj shX ad) (d : Nat) (hd : 1 ≤ d) (g : Mm) (x0 : Int32) (r : Int32) (hf : f_X6_isInsult x0 = some r) : ob_Mi l yX6_isInsult wsX6_isInsult d (dC, dI) vwCl shX ad cI cZ nwX [.int x0] g r g := by
  refine ob_ofW (cc := cX6_isInsult) (maxL := 1) (ret := (some .boolean)) (by decide) rfl ?_
  intro p e s m args below meth c ha hx hb hr hml hts hown hlocks hM0 hK hS0
  have hown : s.vm.findClass RX6 = some m.cls := hown
  subst ha
  have hl := lv_entry ([.int x0]) (n := 1) (Nat.le_of_ble_eq_true rfl)
  rw [lg_entry_eq]
  generalize (lg_sl ([.int x0]) ++ List.replicate (1 - (lg_sl ([.int x0])).length) Slot.unset).toArray = ls at hl ⊢
  have hl : lv_has ls 1 [(0, .int x0)] := hl
  have hM := hM0
  have hS := hS0
  unfold f_X6_isInsult at hf
  refine lv_iload_n hx hb dX6_isInsult_0 rfl (lv_at hl 0 rfl) ?_
  refine lv_iconst (v := 0) hx hb dX6_isInsult_1 (by decide) ?_
  refine lv_bipush (v := 9) hx hb dX6_isInsult_2 (by decide) ?_
  obtain ⟨v1, e1, hf⟩ := ob_e1 hf
  refine ob_calli (va_runS (As := [.int x0, .int 0, .int 9]) (rest := []) ⟨hx, hb, hml, hown, hts⟩ (c_X6_within l dC dI ad cI cZ hI 0 (Nat.le_refl _) g x0 0 9  v1 e1) (va_cwS 3 hts gX6_isInsult_X6_within rfl rfl rfl hd_X6_within (ob_R (Nat.le_trans (by decide) hd) (by decide))) (ob_preS hK hM) rfl rfl hl.1 rfl (lv_room (Nat.le_of_ble_eq_true rfl)) dX6_isInsult_4 ⟨Nat.le_refl _, Nat.le_refl _⟩) hS (fun H locs hM hS => ?_)
  obtain ⟨u2, e2, hf⟩ := ob_e1 hf
  exact ob_iretR hx hb hr hlocks hM hS (v := v1) (ob_zb_in e2) hf dX6_isInsult_7
set_option maxHeartbeats 4000000 in
set_option maxRecDepth 100000 in
theorem c_X3_insultAt (l : Launch) (dC : Nat → ClassId) (dI : Nat → Nat → Nat) (ad : Nat → Nat) (cI cZ : ClassId) (hI : ob_inj shX ad) (d : Nat) (hd : 2 ≤ d) (g : Mm) (x1 : Int32) (r : Int32) (hf : f_X3_insultAt g x1 = some r) : ob_Mi l yX3_insultAt wsX3_insultAt d (dC, dI) vwCl shX ad cI cZ nwX [.ref (ad 1), .int x1] g r g := by
  refine ob_ofW (cc := cX3_insultAt) (maxL := 3) (ret := (some .int)) (by decide) rfl ?_
  intro p e s m args below meth c ha hx hb hr hml hts hown hlocks hM0 hK hS0
  have hown : s.vm.findClass RX3 = some m.cls := hown
  have hi_X6 := hts (.initialized RX6) (List.mem_cons_of_mem _ (List.mem_append_left _ (List.mem_of_getElem? (i := 8) rfl)))
  have hst_X6_isInsult := hts (.static yX6_isInsult) (List.mem_cons_of_mem _ (List.mem_append_left _ (List.mem_of_getElem? (i := 10) rfl)))
  subst ha
  have hl := lv_entry ([.ref (ad 1), .int x1]) (n := 3) (Nat.le_of_ble_eq_true rfl)
  rw [lg_entry_eq]
  generalize (lg_sl ([.ref (ad 1), .int x1]) ++ List.replicate (3 - (lg_sl ([.ref (ad 1), .int x1])).length) Slot.unset).toArray = ls at hl ⊢
  have hl : lv_has ls 3 [(0, .ref (ad 1)), (1, .int x1)] := hl
  have hM := hM0
  have hS := hS0
  unfold f_X3_insultAt at hf
  refine lv_aload_n hx hb dX3_insultAt_0 rfl (lv_at hl 0 rfl) ?_
  refine lv_iload_n hx hb dX3_insultAt_1 rfl (lv_at hl 1 rfl) ?_
  obtain ⟨v1, e1, hf⟩ := ob_e1 hf
  refine ob_calli (va_runV (As := [.int x1]) (rest := []) ⟨hx, hb, hml, hown, hts⟩ (c_X3_signAt l dC dI ad cI cZ hI 1 (Nat.le_refl _) g x1  v1 e1) (cwV 1 hts gX3_insultAt_X3_signAt rfl rfl rfl ⟨rfl, hd_X3_signAt⟩ (ob_R (Nat.le_trans (by decide) hd) (by decide))) (ob_preV hK hM (q := 1) shX_1 rfl) rfl rfl hl.1 rfl (lv_room (Nat.le_of_ble_eq_true rfl)) dX3_insultAt_2 ⟨Nat.le_refl _, Nat.le_refl _⟩) hS (fun H locs hM hS => ?_)
  refine lv_bipush (v := 97) hx hb dX3_insultAt_5 (by decide) ?_
  refine lv_isub hx hb dX3_insultAt_7 ?_
  refine lv_istore_n (lv' := [(2, .int (v1 - 97)), (0, .ref (ad 1)), (1, .int x1)]) hx hb dX3_insultAt_8 rfl hl (by decide) rfl (fun ls hl => ?_)
  refine lv_iload_n hx hb dX3_insultAt_9 rfl (lv_at hl 0 rfl) ?_
  obtain ⟨v2, e2, hf⟩ := ob_e1 hf
  refine ob_calli (va_runSN (As := [.int (v1 - 97)]) (rest := []) ⟨hx, hb, hml, hown, hts⟩ (c_X6_isInsult l dC dI ad cI cZ hI 1 (Nat.le_refl _) g (v1 - 97)  v2 e2) ⟨va_cnB 1 hts gX3_insultAt_X6_isInsult_n27 rfl rfl rfl (ob_nl hK nw_X3_27) hi_X6 hd_X6_isInsult (ob_R (Nat.le_trans (by decide) hd) (by decide)), hst_X6_isInsult, trivial⟩ (ob_preS hK hM) rfl rfl hl.1 rfl (lv_room (Nat.le_of_ble_eq_true rfl)) dX3_insultAt_10 ⟨Nat.le_refl _, Nat.le_refl _⟩) hS (fun H locs hM hS => ?_)
  refine lv_if_eq (tgt := 20) hx hb dX3_insultAt_13 (by decide) (fun c3 => ?_) (fun c3 => ?_)
  · rw [if_pos c3] at hf
    refine lv_iconst (v := (-1)) hx hb dX3_insultAt_20 (by decide) ?_
    exact ob_iretR hx hb hr hlocks hM hS (v := (-1)) rfl hf dX3_insultAt_21
  · rw [if_neg c3] at hf
    refine lv_iload_n hx hb dX3_insultAt_16 rfl (lv_at hl 0 rfl) ?_
    refine lv_goto (tgt := 21) hx hb dX3_insultAt_17 (by decide) ?_
    exact ob_iretR hx hb hr hlocks hM hS (v := (v1 - 97)) rfl hf dX3_insultAt_21
set_option maxHeartbeats 4000000 in
set_option maxRecDepth 100000 in
theorem c_X3_standsInSteps (l : Launch) (dC : Nat → ClassId) (dI : Nat → Nat → Nat) (ad : Nat → Nat) (cI cZ : ClassId) (hI : ob_inj shX ad) (d : Nat) (hd : 3 ≤ d) (g : Mm) (x1 : Int32) (r : Int32) (hf : f_X3_standsInSteps g x1 = some r) : ob_Mi l yX3_standsInSteps wsX3_standsInSteps d (dC, dI) vwCl shX ad cI cZ nwX [.ref (ad 1), .int x1] g r g := by
  refine ob_ofW (cc := cX3_standsInSteps) (maxL := 4) (ret := (some .boolean)) (by decide) rfl ?_
  intro p e s m args below meth c ha hx hb hr hml hts hown hlocks hM0 hK hS0
  have hown : s.vm.findClass RX3 = some m.cls := hown
  have w_49 : ∀ (H : Heap) (locs : List Loc), va_P (dC, dI) vwCl (ob_ws shX ad cI cZ g) H → va_S (ob_A shX ad) s.heap H locs → ∀ (ls : Array Slot), lv_has ls 4 [] → f_X3_standsInSteps_J49 g = some r → W p l e (rmN d) s m args below meth c H locs 0 0 (MQ below (ob_Qi (dC, dI) vwCl shX ad cI cZ r g) args s 0 0 (ob_A shX ad)) (F0 m 49 ls []) := by
    intro H locs hM hS ls hl hf
    unfold f_X3_standsInSteps_J49 at hf
    refine lv_iconst (v := 1) hx hb dX3_standsInSteps_49 (by decide) ?_
    refine lv_goto (tgt := 54) hx hb dX3_standsInSteps_50 (by decide) ?_
    exact ob_iretR hx hb hr hlocks hM hS (v := 1) rfl hf dX3_standsInSteps_54
  have w_29 : ∀ (x1 x2 s0 : Int32) (H : Heap) (locs : List Loc), va_P (dC, dI) vwCl (ob_ws shX ad cI cZ g) H → va_S (ob_A shX ad) s.heap H locs → ∀ (ls : Array Slot), lv_has ls 4 [(0, .ref (ad 1)), (1, .int x1), (2, .int x2)] → f_X3_standsInSteps_J29 g x1 x2 s0 = some r → W p l e (rmN d) s m args below meth c H locs 0 0 (MQ below (ob_Qi (dC, dI) vwCl shX ad cI cZ r g) args s 0 0 (ob_A shX ad)) (F0 m 29 ls [.int s0]) := by
    intro x1 x2 s0 H locs hM hS ls hl hf
    unfold f_X3_standsInSteps_J29 at hf
    refine lv_istore_n (lv' := [(3, .int s0), (0, .ref (ad 1)), (1, .int x1), (2, .int x2)]) hx hb dX3_standsInSteps_29 rfl hl (by decide) rfl (fun ls hl => ?_)
    refine lv_iload_n hx hb dX3_standsInSteps_30 rfl (lv_at hl 3 rfl) ?_
    refine lv_if_lt (tgt := 53) hx hb dX3_standsInSteps_31 (by decide) (fun c11 => ?_) (fun c11 => ?_)
    · rw [if_pos c11] at hf
      refine lv_iconst (v := 0) hx hb dX3_standsInSteps_53 (by decide) ?_
      exact ob_iretR hx hb hr hlocks hM hS (v := 0) rfl hf dX3_standsInSteps_54
    · rw [if_neg c11] at hf
      refine lv_iload_n hx hb dX3_standsInSteps_34 rfl (lv_at hl 0 rfl) ?_
      refine lv_if_eq (tgt := 49) hx hb dX3_standsInSteps_35 (by decide) (fun c12 => ?_) (fun c12 => ?_)
      · rw [if_pos c12] at hf
        exact w_49  _ _ hM hS _ (lv_sub hl [] rfl) hf
      · rw [if_neg c12] at hf
        refine lv_aload_n hx hb dX3_standsInSteps_38 rfl (lv_at hl 1 rfl) ?_
        refine lv_iload_n hx hb dX3_standsInSteps_39 rfl (lv_at hl 2 rfl) ?_
        refine lv_iconst (v := 2) hx hb dX3_standsInSteps_40 (by decide) ?_
        refine lv_isub hx hb dX3_standsInSteps_41 ?_
        obtain ⟨v13, e13, hf⟩ := ob_e1 hf
        refine ob_calli (va_runV (As := [.int (x1 - 2)]) (rest := []) ⟨hx, hb, hml, hown, hts⟩ (c_X3_insultAt l dC dI ad cI cZ hI 2 (Nat.le_refl _) g (x1 - 2)  v13 e13) (cwV 1 hts gX3_standsInSteps_X3_insultAt rfl rfl rfl ⟨rfl, hd_X3_insultAt⟩ (ob_R (Nat.le_trans (by decide) hd) (by decide))) (ob_preV hK hM (q := 1) shX_1 rfl) rfl rfl hl.1 rfl (lv_room (Nat.le_of_ble_eq_true rfl)) dX3_standsInSteps_42 ⟨Nat.le_refl _, Nat.le_refl _⟩) hS (fun H locs hM hS => ?_)
        refine lv_iload_n hx hb dX3_standsInSteps_45 rfl (lv_at hl 3 rfl) ?_
        refine lv_icmp_eq (tgt := 53) hx hb dX3_standsInSteps_46 (by decide) (fun c14 => ?_) (fun c14 => ?_)
        · rw [if_pos c14] at hf
          refine lv_iconst (v := 0) hx hb dX3_standsInSteps_53 (by decide) ?_
          exact ob_iretR hx hb hr hlocks hM hS (v := 0) rfl hf dX3_standsInSteps_54
        · rw [if_neg c14] at hf
          exact w_49  _ _ hM hS _ (lv_sub hl [] rfl) hf
  subst ha
  have hl := lv_entry ([.ref (ad 1), .int x1]) (n := 4) (Nat.le_of_ble_eq_true rfl)
  rw [lg_entry_eq]
  generalize (lg_sl ([.ref (ad 1), .int x1]) ++ List.replicate (4 - (lg_sl ([.ref (ad 1), .int x1])).length) Slot.unset).toArray = ls at hl ⊢
  have hl : lv_has ls 4 [(0, .ref (ad 1)), (1, .int x1)] := hl
  have hM := hM0
  have hS := hS0
  unfold f_X3_standsInSteps at hf
  refine lv_iload_n hx hb dX3_standsInSteps_0 rfl (lv_at hl 1 rfl) ?_
  refine lv_iconst (v := 2) hx hb dX3_standsInSteps_1 (by decide) ?_
  refine lv_irem hx hb dX3_standsInSteps_2 (by decide) ?_
  refine lv_if_ne (tgt := 55) hx hb dX3_standsInSteps_3 (by decide) (fun c1 => ?_) (fun c1 => ?_)
  · rw [if_neg c1] at hf
    refine lv_aload_n hx hb dX3_standsInSteps_55 rfl (lv_at hl 0 rfl) ?_
    refine lv_iload_n hx hb dX3_standsInSteps_56 rfl (lv_at hl 1 rfl) ?_
    obtain ⟨v2, e2, hf⟩ := ob_e1 hf
    refine ob_calli (va_runV (As := [.int x1]) (rest := []) ⟨hx, hb, hml, hown, hts⟩ (c_X3_signAt l dC dI ad cI cZ hI 1 (Nat.le_refl _) g x1  v2 e2) (cwV 1 hts gX3_standsInSteps_X3_signAt rfl rfl rfl ⟨rfl, hd_X3_signAt⟩ (ob_R (Nat.le_trans (by decide) hd) (by decide))) (ob_preV hK hM (q := 1) shX_1 rfl) rfl rfl hl.1 rfl (lv_room (Nat.le_of_ble_eq_true rfl)) dX3_standsInSteps_57 ⟨Nat.le_refl _, Nat.le_refl _⟩) hS (fun H locs hM hS => ?_)
    refine lv_bipush (v := 62) hx hb dX3_standsInSteps_60 (by decide) ?_
    refine lv_icmp_ne (tgt := 67) hx hb dX3_standsInSteps_62 (by decide) (fun c3 => ?_) (fun c3 => ?_)
    · rw [if_neg c3] at hf
      refine lv_aload_n hx hb dX3_standsInSteps_67 rfl (lv_at hl 0 rfl) ?_
      refine lv_iload_n hx hb dX3_standsInSteps_68 rfl (lv_at hl 1 rfl) ?_
      obtain ⟨v4, e4, hf⟩ := ob_e1 hf
      refine ob_calli (va_runV (As := [.int x1]) (rest := []) ⟨hx, hb, hml, hown, hts⟩ (c_X3_signAt l dC dI ad cI cZ hI 1 (Nat.le_refl _) g x1  v4 e4) (cwV 1 hts gX3_standsInSteps_X3_signAt rfl rfl rfl ⟨rfl, hd_X3_signAt⟩ (ob_R (Nat.le_trans (by decide) hd) (by decide))) (ob_preV hK hM (q := 1) shX_1 rfl) rfl rfl hl.1 rfl (lv_room (Nat.le_of_ble_eq_true rfl)) dX3_standsInSteps_69 ⟨Nat.le_refl _, Nat.le_refl _⟩) hS (fun H locs hM hS => ?_)
      refine lv_bipush (v := 44) hx hb dX3_standsInSteps_72 (by decide) ?_
      refine lv_icmp_ne (tgt := 93) hx hb dX3_standsInSteps_74 (by decide) (fun c5 => ?_) (fun c5 => ?_)
      · rw [if_neg c5] at hf
        refine lv_iconst (v := 0) hx hb dX3_standsInSteps_93 (by decide) ?_
        exact ob_iretR hx hb hr hlocks hM hS (v := 0) rfl hf dX3_standsInSteps_94
      · rw [if_pos c5] at hf
        refine lv_aload_n hx hb dX3_standsInSteps_77 rfl (lv_at hl 0 rfl) ?_
        refine lv_iload_n hx hb dX3_standsInSteps_78 rfl (lv_at hl 1 rfl) ?_
        refine lv_iconst (v := 2) hx hb dX3_standsInSteps_79 (by decide) ?_
        refine lv_isub hx hb dX3_standsInSteps_80 ?_
        obtain ⟨v6, e6, hf⟩ := ob_e1 hf
        refine ob_calli (va_runV (As := [.int (x1 - 2)]) (rest := []) ⟨hx, hb, hml, hown, hts⟩ (c_X3_signAt l dC dI ad cI cZ hI 1 (Nat.le_refl _) g (x1 - 2)  v6 e6) (cwV 1 hts gX3_standsInSteps_X3_signAt rfl rfl rfl ⟨rfl, hd_X3_signAt⟩ (ob_R (Nat.le_trans (by decide) hd) (by decide))) (ob_preV hK hM (q := 1) shX_1 rfl) rfl rfl hl.1 rfl (lv_room (Nat.le_of_ble_eq_true rfl)) dX3_standsInSteps_81 ⟨Nat.le_refl _, Nat.le_refl _⟩) hS (fun H locs hM hS => ?_)
        refine lv_bipush (v := 62) hx hb dX3_standsInSteps_84 (by decide) ?_
        refine lv_icmp_ne (tgt := 93) hx hb dX3_standsInSteps_86 (by decide) (fun c7 => ?_) (fun c7 => ?_)
        · rw [if_neg c7] at hf
          refine lv_iconst (v := 0) hx hb dX3_standsInSteps_93 (by decide) ?_
          exact ob_iretR hx hb hr hlocks hM hS (v := 0) rfl hf dX3_standsInSteps_94
        · rw [if_pos c7] at hf
          refine lv_iconst (v := 1) hx hb dX3_standsInSteps_89 (by decide) ?_
          refine lv_goto (tgt := 94) hx hb dX3_standsInSteps_90 (by decide) ?_
          exact ob_iretR hx hb hr hlocks hM hS (v := 1) rfl hf dX3_standsInSteps_94
    · rw [if_pos c3] at hf
      refine lv_iconst (v := 1) hx hb dX3_standsInSteps_65 (by decide) ?_
      exact ob_iretR hx hb hr hlocks hM hS (v := 1) rfl hf dX3_standsInSteps_66
  · rw [if_pos c1] at hf
    refine lv_aload_n hx hb dX3_standsInSteps_6 rfl (lv_at hl 0 rfl) ?_
    refine lv_iload_n hx hb dX3_standsInSteps_7 rfl (lv_at hl 1 rfl) ?_
    obtain ⟨v8, e8, hf⟩ := ob_e1 hf
    refine ob_calli (va_runV (As := [.int x1]) (rest := []) ⟨hx, hb, hml, hown, hts⟩ (c_X3_insultAt l dC dI ad cI cZ hI 2 (Nat.le_refl _) g x1  v8 e8) (cwV 1 hts gX3_standsInSteps_X3_insultAt rfl rfl rfl ⟨rfl, hd_X3_insultAt⟩ (ob_R (Nat.le_trans (by decide) hd) (by decide))) (ob_preV hK hM (q := 1) shX_1 rfl) rfl rfl hl.1 rfl (lv_room (Nat.le_of_ble_eq_true rfl)) dX3_standsInSteps_8 ⟨Nat.le_refl _, Nat.le_refl _⟩) hS (fun H locs hM hS => ?_)
    refine lv_istore_n (lv' := [(2, .int v8), (0, .ref (ad 1)), (1, .int x1)]) hx hb dX3_standsInSteps_11 rfl hl (by decide) rfl (fun ls hl => ?_)
    refine lv_aload_n hx hb dX3_standsInSteps_12 rfl (lv_at hl 1 rfl) ?_
    refine lv_iload_n hx hb dX3_standsInSteps_13 rfl (lv_at hl 2 rfl) ?_
    refine lv_iconst (v := 1) hx hb dX3_standsInSteps_14 (by decide) ?_
    refine lv_isub hx hb dX3_standsInSteps_15 ?_
    obtain ⟨v9, e9, hf⟩ := ob_e1 hf
    refine ob_calli (va_runV (As := [.int (x1 - 1)]) (rest := []) ⟨hx, hb, hml, hown, hts⟩ (c_X3_signAt l dC dI ad cI cZ hI 1 (Nat.le_refl _) g (x1 - 1)  v9 e9) (cwV 1 hts gX3_standsInSteps_X3_signAt rfl rfl rfl ⟨rfl, hd_X3_signAt⟩ (ob_R (Nat.le_trans (by decide) hd) (by decide))) (ob_preV hK hM (q := 1) shX_1 rfl) rfl rfl hl.1 rfl (lv_room (Nat.le_of_ble_eq_true rfl)) dX3_standsInSteps_16 ⟨Nat.le_refl _, Nat.le_refl _⟩) hS (fun H locs hM hS => ?_)
    refine lv_bipush (v := 62) hx hb dX3_standsInSteps_19 (by decide) ?_
    refine lv_icmp_ne (tgt := 28) hx hb dX3_standsInSteps_21 (by decide) (fun c10 => ?_) (fun c10 => ?_)
    · rw [if_neg c10] at hf
      refine lv_iconst (v := 0) hx hb dX3_standsInSteps_28 (by decide) ?_
      exact w_29 x1 v8 0 _ _ hM hS _ (lv_sub hl [1, 2, 0] rfl) hf
    · rw [if_pos c10] at hf
      refine lv_iconst (v := 1) hx hb dX3_standsInSteps_24 (by decide) ?_
      refine lv_goto (tgt := 29) hx hb dX3_standsInSteps_25 (by decide) ?_
      exact w_29 x1 v8 1 _ _ hM hS _ (lv_sub hl [1, 2, 0] rfl) hf
set_option maxHeartbeats 4000000 in
set_option maxRecDepth 100000 in
theorem c_X3_faultAsSteps (l : Launch) (dC : Nat → ClassId) (dI : Nat → Nat → Nat) (ad : Nat → Nat) (cI cZ : ClassId) (hI : ob_inj shX ad) (d : Nat) (hd : 4 ≤ d) (g : Mm) (r : Int32) (hf : f_X3_faultAsSteps g = some r) : ob_Mi l yX3_faultAsSteps wsX3_faultAsSteps d (dC, dI) vwCl shX ad cI cZ nwX [.ref (ad 1)] g r g := by
  refine ob_ofW (cc := cX3_faultAsSteps) (maxL := 2) (ret := (some .int)) (by decide) rfl ?_
  intro p e s m args below meth c ha hx hb hr hml hts hown hlocks hM0 hK hS0
  have hown : s.vm.findClass RX3 = some m.cls := hown
  have in_own : ∀ w ∈ wsX30, w ∈ wsX3_faultAsSteps := fun w h => (List.mem_cons_of_mem _ (List.mem_append_right _ h))
  have hf_15 := hts (.fieldLink RX3 15 "OneWorse$Pad" "size" "I") (List.mem_cons_of_mem _ (List.mem_append_left _ (List.mem_of_getElem? (i := 0) rfl)))
  have w_2 : ∀ (k55 : Option (Int32)) (hk55 : ∀ (H : Heap) (locs : List Loc), va_P (dC, dI) vwCl (ob_ws shX ad cI cZ g) H → va_S (ob_A shX ad) s.heap H locs → ∀ (ls : Array Slot), lv_has ls 2 [(0, .ref (ad 1))] → k55 = some r → W p l e (rmN d) s m args below meth c H locs 0 0 (MQ below (ob_Qi (dC, dI) vwCl shX ad cI cZ r g) args s 0 0 (ob_A shX ad)) (F0 m 55 ls [])) (k56 : Int32 → Option (Int32)) (hk56 : ∀ (s0 : Int32) (H : Heap) (locs : List Loc), va_P (dC, dI) vwCl (ob_ws shX ad cI cZ g) H → va_S (ob_A shX ad) s.heap H locs → ∀ (ls : Array Slot), lv_has ls 2 [(0, .ref (ad 1))] → k56 s0 = some r → W p l e (rmN d) s m args below meth c H locs 0 0 (MQ below (ob_Qi (dC, dI) vwCl shX ad cI cZ r g) args s 0 0 (ob_A shX ad)) (F0 m 56 ls [.int s0])) (n : Nat), ∀ (x1 : Int32) (H : Heap) (locs : List Loc), va_P (dC, dI) vwCl (ob_ws shX ad cI cZ g) H → va_S (ob_A shX ad) s.heap H locs → ∀ (ls : Array Slot), lv_has ls 2 [(0, .ref (ad 1)), (1, .int x1)] → f_X3_faultAsSteps_L2 g k55 k56 n x1 = some r → W p l e (rmN d) s m args below meth c H locs 0 0 (MQ below (ob_Qi (dC, dI) vwCl shX ad cI cZ r g) args s 0 0 (ob_A shX ad)) (F0 m 2 ls []) := by
    intro k55 hk55 k56 hk56 n
    induction n with
    | zero =>
      intro x1 H locs hM hS ls hl hf
      cases hf
    | succ n ih =>
      intro x1 H locs hM hS ls hl hf
      unfold f_X3_faultAsSteps_L2 at hf
      refine lv_iload_n hx hb dX3_faultAsSteps_2 rfl (lv_at hl 1 rfl) ?_
      refine lv_aload_n hx hb dX3_faultAsSteps_3 rfl (lv_at hl 0 rfl) ?_
      refine ob_gi hx hb hts in_own hown hK hM (q := 1) shX_1 (C := RX3) (T := TX3) (N := 2) rfl 1 (by decide) hf_15 rfl dX3_faultAsSteps_4 ?_
      refine lv_icmp_ge (tgt := 26) hx hb dX3_faultAsSteps_7 (by decide) (fun c1 => ?_) (fun c1 => ?_)
      · rw [if_pos c1] at hf
        refine lv_aload_n hx hb dX3_faultAsSteps_26 rfl (lv_at hl 0 rfl) ?_
        refine ob_gi hx hb hts in_own hown hK hM (q := 1) shX_1 (C := RX3) (T := TX3) (N := 2) rfl 1 (by decide) hf_15 rfl dX3_faultAsSteps_27 ?_
        refine lv_iconst (v := 2) hx hb dX3_faultAsSteps_30 (by decide) ?_
        refine lv_irem hx hb dX3_faultAsSteps_31 (by decide) ?_
        refine lv_iconst (v := 1) hx hb dX3_faultAsSteps_32 (by decide) ?_
        refine lv_icmp_ne (tgt := 55) hx hb dX3_faultAsSteps_33 (by decide) (fun c2 => ?_) (fun c2 => ?_)
        · rw [if_neg c2] at hf
          exact hk55  _ _ hM hS _ (lv_sub hl [0] rfl) hf
        · rw [if_pos c2] at hf
          refine lv_aload_n hx hb dX3_faultAsSteps_36 rfl (lv_at hl 0 rfl) ?_
          refine lv_aload_n hx hb dX3_faultAsSteps_37 rfl (lv_at hl 0 rfl) ?_
          refine ob_gi hx hb hts in_own hown hK hM (q := 1) shX_1 (C := RX3) (T := TX3) (N := 2) rfl 1 (by decide) hf_15 rfl dX3_faultAsSteps_38 ?_
          refine lv_iconst (v := 2) hx hb dX3_faultAsSteps_41 (by decide) ?_
          refine lv_isub hx hb dX3_faultAsSteps_42 ?_
          obtain ⟨v3, e3, hf⟩ := ob_e1 hf
          refine ob_calli (va_runV (As := [.int ((g 1 1) - 2)]) (rest := []) ⟨hx, hb, hml, hown, hts⟩ (c_X3_signAt l dC dI ad cI cZ hI 1 (Nat.le_refl _) g ((g 1 1) - 2)  v3 e3) (cwV 1 hts gX3_faultAsSteps_X3_signAt rfl rfl rfl ⟨rfl, hd_X3_signAt⟩ (ob_R (Nat.le_trans (by decide) hd) (by decide))) (ob_preV hK hM (q := 1) shX_1 rfl) rfl rfl hl.1 rfl (lv_room (Nat.le_of_ble_eq_true rfl)) dX3_faultAsSteps_43 ⟨Nat.le_refl _, Nat.le_refl _⟩) hS (fun H locs hM hS => ?_)
          refine lv_bipush (v := 62) hx hb dX3_faultAsSteps_46 (by decide) ?_
          refine lv_icmp_ne (tgt := 55) hx hb dX3_faultAsSteps_48 (by decide) (fun c4 => ?_) (fun c4 => ?_)
          · rw [if_neg c4] at hf
            exact hk55  _ _ hM hS _ (lv_sub hl [0] rfl) hf
          · rw [if_pos c4] at hf
            refine lv_iconst (v := 1) hx hb dX3_faultAsSteps_51 (by decide) ?_
            refine lv_goto (tgt := 56) hx hb dX3_faultAsSteps_52 (by decide) ?_
            exact hk56 1 _ _ hM hS _ (lv_sub hl [0] rfl) hf
      · rw [if_neg c1] at hf
        refine lv_aload_n hx hb dX3_faultAsSteps_10 rfl (lv_at hl 0 rfl) ?_
        refine lv_iload_n hx hb dX3_faultAsSteps_11 rfl (lv_at hl 1 rfl) ?_
        obtain ⟨v5, e5, hf⟩ := ob_e1 hf
        refine ob_calli (va_runV (As := [.int x1]) (rest := []) ⟨hx, hb, hml, hown, hts⟩ (c_X3_standsInSteps l dC dI ad cI cZ hI 3 (Nat.le_refl _) g x1  v5 e5) (cwV 1 hts gX3_faultAsSteps_X3_standsInSteps rfl rfl rfl ⟨rfl, hd_X3_standsInSteps⟩ (ob_R (Nat.le_trans (by decide) hd) (by decide))) (ob_preV hK hM (q := 1) shX_1 rfl) rfl rfl hl.1 rfl (lv_room (Nat.le_of_ble_eq_true rfl)) dX3_faultAsSteps_12 ⟨Nat.le_refl _, Nat.le_refl _⟩) hS (fun H locs hM hS => ?_)
        refine lv_if_ne (tgt := 20) hx hb dX3_faultAsSteps_15 (by decide) (fun c6 => ?_) (fun c6 => ?_)
        · rw [if_neg c6] at hf
          refine lv_iinc (v := (x1 + 1)) (lv' := [(1, .int (x1 + 1)), (0, .ref (ad 1))]) hx hb dX3_faultAsSteps_20 hl (k := 1) rfl rfl (by decide) rfl (fun ls hl => ?_)
          refine lv_goto (tgt := 2) hx hb dX3_faultAsSteps_23 (by decide) ?_
          exact ih (x1 + 1) _ _ hM hS _ (lv_sub hl [1, 0] rfl) hf
        · rw [if_pos c6] at hf
          refine lv_iload_n hx hb dX3_faultAsSteps_18 rfl (lv_at hl 1 rfl) ?_
          exact ob_iretR hx hb hr hlocks hM hS (v := x1) rfl hf dX3_faultAsSteps_19
  have w_56 : ∀ (s0 : Int32) (H : Heap) (locs : List Loc), va_P (dC, dI) vwCl (ob_ws shX ad cI cZ g) H → va_S (ob_A shX ad) s.heap H locs → ∀ (ls : Array Slot), lv_has ls 2 [(0, .ref (ad 1))] → f_X3_faultAsSteps_J56 g s0 = some r → W p l e (rmN d) s m args below meth c H locs 0 0 (MQ below (ob_Qi (dC, dI) vwCl shX ad cI cZ r g) args s 0 0 (ob_A shX ad)) (F0 m 56 ls [.int s0]) := by
    intro s0 H locs hM hS ls hl hf
    unfold f_X3_faultAsSteps_J56 at hf
    refine lv_istore_n (lv' := [(1, .int s0), (0, .ref (ad 1))]) hx hb dX3_faultAsSteps_56 rfl hl (by decide) rfl (fun ls hl => ?_)
    refine lv_iload_n hx hb dX3_faultAsSteps_57 rfl (lv_at hl 0 rfl) ?_
    refine lv_if_eq (tgt := 66) hx hb dX3_faultAsSteps_58 (by decide) (fun c7 => ?_) (fun c7 => ?_)
    · rw [if_pos c7] at hf
      refine lv_aload_n hx hb dX3_faultAsSteps_66 rfl (lv_at hl 1 rfl) ?_
      refine ob_gi hx hb hts in_own hown hK hM (q := 1) shX_1 (C := RX3) (T := TX3) (N := 2) rfl 1 (by decide) hf_15 rfl dX3_faultAsSteps_67 ?_
      exact ob_iretR hx hb hr hlocks hM hS (v := (g 1 1)) rfl hf dX3_faultAsSteps_70
    · rw [if_neg c7] at hf
      refine lv_bipush (v := (-6)) hx hb dX3_faultAsSteps_61 (by decide) ?_
      refine lv_goto (tgt := 70) hx hb dX3_faultAsSteps_63 (by decide) ?_
      exact ob_iretR hx hb hr hlocks hM hS (v := (-6)) rfl hf dX3_faultAsSteps_70
  have w_55 : ∀ (H : Heap) (locs : List Loc), va_P (dC, dI) vwCl (ob_ws shX ad cI cZ g) H → va_S (ob_A shX ad) s.heap H locs → ∀ (ls : Array Slot), lv_has ls 2 [(0, .ref (ad 1))] → f_X3_faultAsSteps_J55 g = some r → W p l e (rmN d) s m args below meth c H locs 0 0 (MQ below (ob_Qi (dC, dI) vwCl shX ad cI cZ r g) args s 0 0 (ob_A shX ad)) (F0 m 55 ls []) := by
    intro H locs hM hS ls hl hf
    unfold f_X3_faultAsSteps_J55 at hf
    refine lv_iconst (v := 0) hx hb dX3_faultAsSteps_55 (by decide) ?_
    exact w_56 0 _ _ hM hS _ (lv_sub hl [0] rfl) hf
  subst ha
  have hl := lv_entry ([.ref (ad 1)]) (n := 2) (Nat.le_of_ble_eq_true rfl)
  rw [lg_entry_eq]
  generalize (lg_sl ([.ref (ad 1)]) ++ List.replicate (2 - (lg_sl ([.ref (ad 1)])).length) Slot.unset).toArray = ls at hl ⊢
  have hl : lv_has ls 2 [(0, .ref (ad 1))] := hl
  have hM := hM0
  have hS := hS0
  unfold f_X3_faultAsSteps at hf
  refine lv_iconst (v := 0) hx hb dX3_faultAsSteps_0 (by decide) ?_
  refine lv_istore_n (lv' := [(1, .int 0), (0, .ref (ad 1))]) hx hb dX3_faultAsSteps_1 rfl hl (by decide) rfl (fun ls hl => ?_)
  exact w_2 (f_X3_faultAsSteps_J55 g) (w_55) (f_X3_faultAsSteps_J56 g) (w_56) FU 0 _ _ hM hS _ (lv_sub hl [1, 0] rfl) hf
set_option maxHeartbeats 4000000 in
set_option maxRecDepth 100000 in
theorem c_X6_isMan (l : Launch) (dC : Nat → ClassId) (dI : Nat → Nat → Nat) (ad : Nat → Nat) (cI cZ : ClassId) (hI : ob_inj shX ad) (d : Nat) (hd : 1 ≤ d) (g : Mm) (x0 : Int32) (r : Int32) (hf : f_X6_isMan x0 = some r) : ob_Mi l yX6_isMan wsX6_isMan d (dC, dI) vwCl shX ad cI cZ nwX [.int x0] g r g := by
  refine ob_ofW (cc := cX6_isMan) (maxL := 1) (ret := (some .boolean)) (by decide) rfl ?_
  intro p e s m args below meth c ha hx hb hr hml hts hown hlocks hM0 hK hS0
  have hown : s.vm.findClass RX6 = some m.cls := hown
  subst ha
  have hl := lv_entry ([.int x0]) (n := 1) (Nat.le_of_ble_eq_true rfl)
  rw [lg_entry_eq]
  generalize (lg_sl ([.int x0]) ++ List.replicate (1 - (lg_sl ([.int x0])).length) Slot.unset).toArray = ls at hl ⊢
  have hl : lv_has ls 1 [(0, .int x0)] := hl
  have hM := hM0
  have hS := hS0
  unfold f_X6_isMan at hf
  refine lv_iload_n hx hb dX6_isMan_0 rfl (lv_at hl 0 rfl) ?_
  refine lv_iconst (v := 0) hx hb dX6_isMan_1 (by decide) ?_
  refine lv_iconst (v := 4) hx hb dX6_isMan_2 (by decide) ?_
  obtain ⟨v1, e1, hf⟩ := ob_e1 hf
  refine ob_calli (va_runS (As := [.int x0, .int 0, .int 4]) (rest := []) ⟨hx, hb, hml, hown, hts⟩ (c_X6_within l dC dI ad cI cZ hI 0 (Nat.le_refl _) g x0 0 4  v1 e1) (va_cwS 3 hts gX6_isMan_X6_within rfl rfl rfl hd_X6_within (ob_R (Nat.le_trans (by decide) hd) (by decide))) (ob_preS hK hM) rfl rfl hl.1 rfl (lv_room (Nat.le_of_ble_eq_true rfl)) dX6_isMan_3 ⟨Nat.le_refl _, Nat.le_refl _⟩) hS (fun H locs hM hS => ?_)
  obtain ⟨u2, e2, hf⟩ := ob_e1 hf
  exact ob_iretR hx hb hr hlocks hM hS (v := v1) (ob_zb_in e2) hf dX6_isMan_6
set_option maxHeartbeats 4000000 in
set_option maxRecDepth 100000 in
theorem c_X3_manAt (l : Launch) (dC : Nat → ClassId) (dI : Nat → Nat → Nat) (ad : Nat → Nat) (cI cZ : ClassId) (hI : ob_inj shX ad) (d : Nat) (hd : 2 ≤ d) (g : Mm) (x1 : Int32) (r : Int32) (hf : f_X3_manAt g x1 = some r) : ob_Mi l yX3_manAt wsX3_manAt d (dC, dI) vwCl shX ad cI cZ nwX [.ref (ad 1), .int x1] g r g := by
  refine ob_ofW (cc := cX3_manAt) (maxL := 3) (ret := (some .int)) (by decide) rfl ?_
  intro p e s m args below meth c ha hx hb hr hml hts hown hlocks hM0 hK hS0
  have hown : s.vm.findClass RX3 = some m.cls := hown
  have hi_X6 := hts (.initialized RX6) (List.mem_cons_of_mem _ (List.mem_append_left _ (List.mem_of_getElem? (i := 8) rfl)))
  have hst_X6_isMan := hts (.static yX6_isMan) (List.mem_cons_of_mem _ (List.mem_append_left _ (List.mem_of_getElem? (i := 10) rfl)))
  subst ha
  have hl := lv_entry ([.ref (ad 1), .int x1]) (n := 3) (Nat.le_of_ble_eq_true rfl)
  rw [lg_entry_eq]
  generalize (lg_sl ([.ref (ad 1), .int x1]) ++ List.replicate (3 - (lg_sl ([.ref (ad 1), .int x1])).length) Slot.unset).toArray = ls at hl ⊢
  have hl : lv_has ls 3 [(0, .ref (ad 1)), (1, .int x1)] := hl
  have hM := hM0
  have hS := hS0
  unfold f_X3_manAt at hf
  refine lv_aload_n hx hb dX3_manAt_0 rfl (lv_at hl 0 rfl) ?_
  refine lv_iload_n hx hb dX3_manAt_1 rfl (lv_at hl 1 rfl) ?_
  obtain ⟨v1, e1, hf⟩ := ob_e1 hf
  refine ob_calli (va_runV (As := [.int x1]) (rest := []) ⟨hx, hb, hml, hown, hts⟩ (c_X3_signAt l dC dI ad cI cZ hI 1 (Nat.le_refl _) g x1  v1 e1) (cwV 1 hts gX3_manAt_X3_signAt rfl rfl rfl ⟨rfl, hd_X3_signAt⟩ (ob_R (Nat.le_trans (by decide) hd) (by decide))) (ob_preV hK hM (q := 1) shX_1 rfl) rfl rfl hl.1 rfl (lv_room (Nat.le_of_ble_eq_true rfl)) dX3_manAt_2 ⟨Nat.le_refl _, Nat.le_refl _⟩) hS (fun H locs hM hS => ?_)
  refine lv_bipush (v := 48) hx hb dX3_manAt_5 (by decide) ?_
  refine lv_isub hx hb dX3_manAt_7 ?_
  refine lv_istore_n (lv' := [(2, .int (v1 - 48)), (0, .ref (ad 1)), (1, .int x1)]) hx hb dX3_manAt_8 rfl hl (by decide) rfl (fun ls hl => ?_)
  refine lv_iload_n hx hb dX3_manAt_9 rfl (lv_at hl 0 rfl) ?_
  obtain ⟨v2, e2, hf⟩ := ob_e1 hf
  refine ob_calli (va_runSN (As := [.int (v1 - 48)]) (rest := []) ⟨hx, hb, hml, hown, hts⟩ (c_X6_isMan l dC dI ad cI cZ hI 1 (Nat.le_refl _) g (v1 - 48)  v2 e2) ⟨va_cnB 1 hts gX3_manAt_X6_isMan_n31 rfl rfl rfl (ob_nl hK nw_X3_31) hi_X6 hd_X6_isMan (ob_R (Nat.le_trans (by decide) hd) (by decide)), hst_X6_isMan, trivial⟩ (ob_preS hK hM) rfl rfl hl.1 rfl (lv_room (Nat.le_of_ble_eq_true rfl)) dX3_manAt_10 ⟨Nat.le_refl _, Nat.le_refl _⟩) hS (fun H locs hM hS => ?_)
  refine lv_if_eq (tgt := 20) hx hb dX3_manAt_13 (by decide) (fun c3 => ?_) (fun c3 => ?_)
  · rw [if_pos c3] at hf
    refine lv_iconst (v := (-1)) hx hb dX3_manAt_20 (by decide) ?_
    exact ob_iretR hx hb hr hlocks hM hS (v := (-1)) rfl hf dX3_manAt_21
  · rw [if_neg c3] at hf
    refine lv_iload_n hx hb dX3_manAt_16 rfl (lv_at hl 0 rfl) ?_
    refine lv_goto (tgt := 21) hx hb dX3_manAt_17 (by decide) ?_
    exact ob_iretR hx hb hr hlocks hM hS (v := (v1 - 48)) rfl hf dX3_manAt_21
set_option maxHeartbeats 4000000 in
set_option maxRecDepth 100000 in
theorem c_X3_standsInQuarrel (l : Launch) (dC : Nat → ClassId) (dI : Nat → Nat → Nat) (ad : Nat → Nat) (cI cZ : ClassId) (hI : ob_inj shX ad) (d : Nat) (hd : 3 ≤ d) (g : Mm) (x1 : Int32) (r : Int32) (hf : f_X3_standsInQuarrel g x1 = some r) : ob_Mi l yX3_standsInQuarrel wsX3_standsInQuarrel d (dC, dI) vwCl shX ad cI cZ nwX [.ref (ad 1), .int x1] g r g := by
  refine ob_ofW (cc := cX3_standsInQuarrel) (maxL := 2) (ret := (some .boolean)) (by decide) rfl ?_
  intro p e s m args below meth c ha hx hb hr hml hts hown hlocks hM0 hK hS0
  have hown : s.vm.findClass RX3 = some m.cls := hown
  subst ha
  have hl := lv_entry ([.ref (ad 1), .int x1]) (n := 2) (Nat.le_of_ble_eq_true rfl)
  rw [lg_entry_eq]
  generalize (lg_sl ([.ref (ad 1), .int x1]) ++ List.replicate (2 - (lg_sl ([.ref (ad 1), .int x1])).length) Slot.unset).toArray = ls at hl ⊢
  have hl : lv_has ls 2 [(0, .ref (ad 1)), (1, .int x1)] := hl
  have hM := hM0
  have hS := hS0
  unfold f_X3_standsInQuarrel at hf
  refine lv_iload_n hx hb dX3_standsInQuarrel_0 rfl (lv_at hl 1 rfl) ?_
  refine lv_iconst (v := 2) hx hb dX3_standsInQuarrel_1 (by decide) ?_
  refine lv_irem hx hb dX3_standsInQuarrel_2 (by decide) ?_
  refine lv_iconst (v := 1) hx hb dX3_standsInQuarrel_3 (by decide) ?_
  refine lv_icmp_ne (tgt := 21) hx hb dX3_standsInQuarrel_4 (by decide) (fun c1 => ?_) (fun c1 => ?_)
  · rw [if_neg c1] at hf
    refine lv_aload_n hx hb dX3_standsInQuarrel_21 rfl (lv_at hl 0 rfl) ?_
    refine lv_iload_n hx hb dX3_standsInQuarrel_22 rfl (lv_at hl 1 rfl) ?_
    obtain ⟨v2, e2, hf⟩ := ob_e1 hf
    refine ob_calli (va_runV (As := [.int x1]) (rest := []) ⟨hx, hb, hml, hown, hts⟩ (c_X3_manAt l dC dI ad cI cZ hI 2 (Nat.le_refl _) g x1  v2 e2) (cwV 1 hts gX3_standsInQuarrel_X3_manAt rfl rfl rfl ⟨rfl, hd_X3_manAt⟩ (ob_R (Nat.le_trans (by decide) hd) (by decide))) (ob_preV hK hM (q := 1) shX_1 rfl) rfl rfl hl.1 rfl (lv_room (Nat.le_of_ble_eq_true rfl)) dX3_standsInQuarrel_23 ⟨Nat.le_refl _, Nat.le_refl _⟩) hS (fun H locs hM hS => ?_)
    refine lv_if_lt (tgt := 48) hx hb dX3_standsInQuarrel_26 (by decide) (fun c3 => ?_) (fun c3 => ?_)
    · rw [if_pos c3] at hf
      refine lv_iconst (v := 0) hx hb dX3_standsInQuarrel_48 (by decide) ?_
      exact ob_iretR hx hb hr hlocks hM hS (v := 0) rfl hf dX3_standsInQuarrel_49
    · rw [if_neg c3] at hf
      refine lv_aload_n hx hb dX3_standsInQuarrel_29 rfl (lv_at hl 0 rfl) ?_
      refine lv_iload_n hx hb dX3_standsInQuarrel_30 rfl (lv_at hl 1 rfl) ?_
      obtain ⟨v4, e4, hf⟩ := ob_e1 hf
      refine ob_calli (va_runV (As := [.int x1]) (rest := []) ⟨hx, hb, hml, hown, hts⟩ (c_X3_manAt l dC dI ad cI cZ hI 2 (Nat.le_refl _) g x1  v4 e4) (cwV 1 hts gX3_standsInQuarrel_X3_manAt rfl rfl rfl ⟨rfl, hd_X3_manAt⟩ (ob_R (Nat.le_trans (by decide) hd) (by decide))) (ob_preV hK hM (q := 1) shX_1 rfl) rfl rfl hl.1 rfl (lv_room (Nat.le_of_ble_eq_true rfl)) dX3_standsInQuarrel_31 ⟨Nat.le_refl _, Nat.le_refl _⟩) hS (fun H locs hM hS => ?_)
      refine lv_aload_n hx hb dX3_standsInQuarrel_34 rfl (lv_at hl 0 rfl) ?_
      refine lv_iload_n hx hb dX3_standsInQuarrel_35 rfl (lv_at hl 1 rfl) ?_
      refine lv_iconst (v := 2) hx hb dX3_standsInQuarrel_36 (by decide) ?_
      refine lv_isub hx hb dX3_standsInQuarrel_37 ?_
      obtain ⟨v5, e5, hf⟩ := ob_e1 hf
      refine ob_calli (va_runV (As := [.int (x1 - 2)]) (rest := [.int v4]) ⟨hx, hb, hml, hown, hts⟩ (c_X3_manAt l dC dI ad cI cZ hI 2 (Nat.le_refl _) g (x1 - 2)  v5 e5) (cwV 1 hts gX3_standsInQuarrel_X3_manAt rfl rfl rfl ⟨rfl, hd_X3_manAt⟩ (ob_R (Nat.le_trans (by decide) hd) (by decide))) (ob_preV hK hM (q := 1) shX_1 rfl) rfl rfl hl.1 rfl (lv_room (Nat.le_of_ble_eq_true rfl)) dX3_standsInQuarrel_38 ⟨Nat.le_refl _, Nat.le_refl _⟩) hS (fun H locs hM hS => ?_)
      refine lv_icmp_eq (tgt := 48) hx hb dX3_standsInQuarrel_41 (by decide) (fun c6 => ?_) (fun c6 => ?_)
      · rw [if_pos c6] at hf
        refine lv_iconst (v := 0) hx hb dX3_standsInQuarrel_48 (by decide) ?_
        exact ob_iretR hx hb hr hlocks hM hS (v := 0) rfl hf dX3_standsInQuarrel_49
      · rw [if_neg c6] at hf
        refine lv_iconst (v := 1) hx hb dX3_standsInQuarrel_44 (by decide) ?_
        refine lv_goto (tgt := 49) hx hb dX3_standsInQuarrel_45 (by decide) ?_
        exact ob_iretR hx hb hr hlocks hM hS (v := 1) rfl hf dX3_standsInQuarrel_49
  · rw [if_pos c1] at hf
    refine lv_aload_n hx hb dX3_standsInQuarrel_7 rfl (lv_at hl 0 rfl) ?_
    refine lv_iload_n hx hb dX3_standsInQuarrel_8 rfl (lv_at hl 1 rfl) ?_
    obtain ⟨v7, e7, hf⟩ := ob_e1 hf
    refine ob_calli (va_runV (As := [.int x1]) (rest := []) ⟨hx, hb, hml, hown, hts⟩ (c_X3_insultAt l dC dI ad cI cZ hI 2 (Nat.le_refl _) g x1  v7 e7) (cwV 1 hts gX3_standsInQuarrel_X3_insultAt rfl rfl rfl ⟨rfl, hd_X3_insultAt⟩ (ob_R (Nat.le_trans (by decide) hd) (by decide))) (ob_preV hK hM (q := 1) shX_1 rfl) rfl rfl hl.1 rfl (lv_room (Nat.le_of_ble_eq_true rfl)) dX3_standsInQuarrel_9 ⟨Nat.le_refl _, Nat.le_refl _⟩) hS (fun H locs hM hS => ?_)
    refine lv_if_lt (tgt := 19) hx hb dX3_standsInQuarrel_12 (by decide) (fun c8 => ?_) (fun c8 => ?_)
    · rw [if_pos c8] at hf
      refine lv_iconst (v := 0) hx hb dX3_standsInQuarrel_19 (by decide) ?_
      exact ob_iretR hx hb hr hlocks hM hS (v := 0) rfl hf dX3_standsInQuarrel_20
    · rw [if_neg c8] at hf
      refine lv_iconst (v := 1) hx hb dX3_standsInQuarrel_15 (by decide) ?_
      refine lv_goto (tgt := 20) hx hb dX3_standsInQuarrel_16 (by decide) ?_
      exact ob_iretR hx hb hr hlocks hM hS (v := 1) rfl hf dX3_standsInQuarrel_20
set_option maxHeartbeats 4000000 in
set_option maxRecDepth 100000 in
theorem c_X3_faultAsQuarrel (l : Launch) (dC : Nat → ClassId) (dI : Nat → Nat → Nat) (ad : Nat → Nat) (cI cZ : ClassId) (hI : ob_inj shX ad) (d : Nat) (hd : 4 ≤ d) (g : Mm) (r : Int32) (hf : f_X3_faultAsQuarrel g = some r) : ob_Mi l yX3_faultAsQuarrel wsX3_faultAsQuarrel d (dC, dI) vwCl shX ad cI cZ nwX [.ref (ad 1)] g r g := by
  refine ob_ofW (cc := cX3_faultAsQuarrel) (maxL := 2) (ret := (some .int)) (by decide) rfl ?_
  intro p e s m args below meth c ha hx hb hr hml hts hown hlocks hM0 hK hS0
  have hown : s.vm.findClass RX3 = some m.cls := hown
  have in_own : ∀ w ∈ wsX30, w ∈ wsX3_faultAsQuarrel := fun w h => (List.mem_cons_of_mem _ (List.mem_append_right _ h))
  have hf_15 := hts (.fieldLink RX3 15 "OneWorse$Pad" "size" "I") (List.mem_cons_of_mem _ (List.mem_append_left _ (List.mem_append_left _ (List.mem_of_getElem? (i := 0) rfl))))
  have w_2 : ∀ (k46 : Option (Int32)) (hk46 : ∀ (H : Heap) (locs : List Loc), va_P (dC, dI) vwCl (ob_ws shX ad cI cZ g) H → va_S (ob_A shX ad) s.heap H locs → ∀ (ls : Array Slot), lv_has ls 2 [(0, .ref (ad 1))] → k46 = some r → W p l e (rmN d) s m args below meth c H locs 0 0 (MQ below (ob_Qi (dC, dI) vwCl shX ad cI cZ r g) args s 0 0 (ob_A shX ad)) (F0 m 46 ls [])) (k47 : Int32 → Option (Int32)) (hk47 : ∀ (s0 : Int32) (H : Heap) (locs : List Loc), va_P (dC, dI) vwCl (ob_ws shX ad cI cZ g) H → va_S (ob_A shX ad) s.heap H locs → ∀ (ls : Array Slot), lv_has ls 2 [(0, .ref (ad 1))] → k47 s0 = some r → W p l e (rmN d) s m args below meth c H locs 0 0 (MQ below (ob_Qi (dC, dI) vwCl shX ad cI cZ r g) args s 0 0 (ob_A shX ad)) (F0 m 47 ls [.int s0])) (n : Nat), ∀ (x1 : Int32) (H : Heap) (locs : List Loc), va_P (dC, dI) vwCl (ob_ws shX ad cI cZ g) H → va_S (ob_A shX ad) s.heap H locs → ∀ (ls : Array Slot), lv_has ls 2 [(0, .ref (ad 1)), (1, .int x1)] → f_X3_faultAsQuarrel_L2 g k46 k47 n x1 = some r → W p l e (rmN d) s m args below meth c H locs 0 0 (MQ below (ob_Qi (dC, dI) vwCl shX ad cI cZ r g) args s 0 0 (ob_A shX ad)) (F0 m 2 ls []) := by
    intro k46 hk46 k47 hk47 n
    induction n with
    | zero =>
      intro x1 H locs hM hS ls hl hf
      cases hf
    | succ n ih =>
      intro x1 H locs hM hS ls hl hf
      unfold f_X3_faultAsQuarrel_L2 at hf
      refine lv_iload_n hx hb dX3_faultAsQuarrel_2 rfl (lv_at hl 1 rfl) ?_
      refine lv_aload_n hx hb dX3_faultAsQuarrel_3 rfl (lv_at hl 0 rfl) ?_
      refine ob_gi hx hb hts in_own hown hK hM (q := 1) shX_1 (C := RX3) (T := TX3) (N := 2) rfl 1 (by decide) hf_15 rfl dX3_faultAsQuarrel_4 ?_
      refine lv_icmp_ge (tgt := 26) hx hb dX3_faultAsQuarrel_7 (by decide) (fun c1 => ?_) (fun c1 => ?_)
      · rw [if_pos c1] at hf
        refine lv_aload_n hx hb dX3_faultAsQuarrel_26 rfl (lv_at hl 0 rfl) ?_
        refine ob_gi hx hb hts in_own hown hK hM (q := 1) shX_1 (C := RX3) (T := TX3) (N := 2) rfl 1 (by decide) hf_15 rfl dX3_faultAsQuarrel_27 ?_
        refine lv_if_le (tgt := 46) hx hb dX3_faultAsQuarrel_30 (by decide) (fun c2 => ?_) (fun c2 => ?_)
        · rw [if_pos c2] at hf
          exact hk46  _ _ hM hS _ (lv_sub hl [0] rfl) hf
        · rw [if_neg c2] at hf
          refine lv_aload_n hx hb dX3_faultAsQuarrel_33 rfl (lv_at hl 0 rfl) ?_
          refine ob_gi hx hb hts in_own hown hK hM (q := 1) shX_1 (C := RX3) (T := TX3) (N := 2) rfl 1 (by decide) hf_15 rfl dX3_faultAsQuarrel_34 ?_
          refine lv_iconst (v := 2) hx hb dX3_faultAsQuarrel_37 (by decide) ?_
          refine lv_irem hx hb dX3_faultAsQuarrel_38 (by decide) ?_
          refine lv_if_ne (tgt := 46) hx hb dX3_faultAsQuarrel_39 (by decide) (fun c3 => ?_) (fun c3 => ?_)
          · rw [if_neg c3] at hf
            exact hk46  _ _ hM hS _ (lv_sub hl [0] rfl) hf
          · rw [if_pos c3] at hf
            refine lv_iconst (v := 1) hx hb dX3_faultAsQuarrel_42 (by decide) ?_
            refine lv_goto (tgt := 47) hx hb dX3_faultAsQuarrel_43 (by decide) ?_
            exact hk47 1 _ _ hM hS _ (lv_sub hl [0] rfl) hf
      · rw [if_neg c1] at hf
        refine lv_aload_n hx hb dX3_faultAsQuarrel_10 rfl (lv_at hl 0 rfl) ?_
        refine lv_iload_n hx hb dX3_faultAsQuarrel_11 rfl (lv_at hl 1 rfl) ?_
        obtain ⟨v4, e4, hf⟩ := ob_e1 hf
        refine ob_calli (va_runV (As := [.int x1]) (rest := []) ⟨hx, hb, hml, hown, hts⟩ (c_X3_standsInQuarrel l dC dI ad cI cZ hI 3 (Nat.le_refl _) g x1  v4 e4) (cwV 1 hts gX3_faultAsQuarrel_X3_standsInQuarrel rfl rfl rfl ⟨rfl, hd_X3_standsInQuarrel⟩ (ob_R (Nat.le_trans (by decide) hd) (by decide))) (ob_preV hK hM (q := 1) shX_1 rfl) rfl rfl hl.1 rfl (lv_room (Nat.le_of_ble_eq_true rfl)) dX3_faultAsQuarrel_12 ⟨Nat.le_refl _, Nat.le_refl _⟩) hS (fun H locs hM hS => ?_)
        refine lv_if_ne (tgt := 20) hx hb dX3_faultAsQuarrel_15 (by decide) (fun c5 => ?_) (fun c5 => ?_)
        · rw [if_neg c5] at hf
          refine lv_iinc (v := (x1 + 1)) (lv' := [(1, .int (x1 + 1)), (0, .ref (ad 1))]) hx hb dX3_faultAsQuarrel_20 hl (k := 1) rfl rfl (by decide) rfl (fun ls hl => ?_)
          refine lv_goto (tgt := 2) hx hb dX3_faultAsQuarrel_23 (by decide) ?_
          exact ih (x1 + 1) _ _ hM hS _ (lv_sub hl [1, 0] rfl) hf
        · rw [if_pos c5] at hf
          refine lv_iload_n hx hb dX3_faultAsQuarrel_18 rfl (lv_at hl 1 rfl) ?_
          exact ob_iretR hx hb hr hlocks hM hS (v := x1) rfl hf dX3_faultAsQuarrel_19
  have w_47 : ∀ (s0 : Int32) (H : Heap) (locs : List Loc), va_P (dC, dI) vwCl (ob_ws shX ad cI cZ g) H → va_S (ob_A shX ad) s.heap H locs → ∀ (ls : Array Slot), lv_has ls 2 [(0, .ref (ad 1))] → f_X3_faultAsQuarrel_J47 g s0 = some r → W p l e (rmN d) s m args below meth c H locs 0 0 (MQ below (ob_Qi (dC, dI) vwCl shX ad cI cZ r g) args s 0 0 (ob_A shX ad)) (F0 m 47 ls [.int s0]) := by
    intro s0 H locs hM hS ls hl hf
    unfold f_X3_faultAsQuarrel_J47 at hf
    refine lv_istore_n (lv' := [(1, .int s0), (0, .ref (ad 1))]) hx hb dX3_faultAsQuarrel_47 rfl hl (by decide) rfl (fun ls hl => ?_)
    refine lv_iload_n hx hb dX3_faultAsQuarrel_48 rfl (lv_at hl 0 rfl) ?_
    refine lv_if_eq (tgt := 57) hx hb dX3_faultAsQuarrel_49 (by decide) (fun c6 => ?_) (fun c6 => ?_)
    · rw [if_pos c6] at hf
      refine lv_aload_n hx hb dX3_faultAsQuarrel_57 rfl (lv_at hl 1 rfl) ?_
      refine ob_gi hx hb hts in_own hown hK hM (q := 1) shX_1 (C := RX3) (T := TX3) (N := 2) rfl 1 (by decide) hf_15 rfl dX3_faultAsQuarrel_58 ?_
      exact ob_iretR hx hb hr hlocks hM hS (v := (g 1 1)) rfl hf dX3_faultAsQuarrel_61
    · rw [if_neg c6] at hf
      refine lv_bipush (v := (-6)) hx hb dX3_faultAsQuarrel_52 (by decide) ?_
      refine lv_goto (tgt := 61) hx hb dX3_faultAsQuarrel_54 (by decide) ?_
      exact ob_iretR hx hb hr hlocks hM hS (v := (-6)) rfl hf dX3_faultAsQuarrel_61
  have w_46 : ∀ (H : Heap) (locs : List Loc), va_P (dC, dI) vwCl (ob_ws shX ad cI cZ g) H → va_S (ob_A shX ad) s.heap H locs → ∀ (ls : Array Slot), lv_has ls 2 [(0, .ref (ad 1))] → f_X3_faultAsQuarrel_J46 g = some r → W p l e (rmN d) s m args below meth c H locs 0 0 (MQ below (ob_Qi (dC, dI) vwCl shX ad cI cZ r g) args s 0 0 (ob_A shX ad)) (F0 m 46 ls []) := by
    intro H locs hM hS ls hl hf
    unfold f_X3_faultAsQuarrel_J46 at hf
    refine lv_iconst (v := 0) hx hb dX3_faultAsQuarrel_46 (by decide) ?_
    exact w_47 0 _ _ hM hS _ (lv_sub hl [0] rfl) hf
  subst ha
  have hl := lv_entry ([.ref (ad 1)]) (n := 2) (Nat.le_of_ble_eq_true rfl)
  rw [lg_entry_eq]
  generalize (lg_sl ([.ref (ad 1)]) ++ List.replicate (2 - (lg_sl ([.ref (ad 1)])).length) Slot.unset).toArray = ls at hl ⊢
  have hl : lv_has ls 2 [(0, .ref (ad 1))] := hl
  have hM := hM0
  have hS := hS0
  unfold f_X3_faultAsQuarrel at hf
  refine lv_iconst (v := 0) hx hb dX3_faultAsQuarrel_0 (by decide) ?_
  refine lv_istore_n (lv' := [(1, .int 0), (0, .ref (ad 1))]) hx hb dX3_faultAsQuarrel_1 rfl hl (by decide) rfl (fun ls hl => ?_)
  exact w_2 (f_X3_faultAsQuarrel_J46 g) (w_46) (f_X3_faultAsQuarrel_J47 g) (w_47) FU 0 _ _ hM hS _ (lv_sub hl [1, 0] rfl) hf
set_option maxHeartbeats 4000000 in
set_option maxRecDepth 100000 in
theorem c_X6_fault (l : Launch) (dC : Nat → ClassId) (dI : Nat → Nat → Nat) (ad : Nat → Nat) (cI cZ : ClassId) (hI : ob_inj shX ad) (d : Nat) (hd : 5 ≤ d) (g : Mm) (x1 : Int32) (r : Int32) (hf : f_X6_fault g x1 = some r) : ob_Mi l yX6_fault wsX6_fault d (dC, dI) vwCl shX ad cI cZ nwX [.ref (ad 0), .int x1] g r g := by
  refine ob_ofW (cc := cX6_fault) (maxL := 2) (ret := (some .int)) (by decide) rfl ?_
  intro p e s m args below meth c ha hx hb hr hml hts hown hlocks hM0 hK hS0
  have hown : s.vm.findClass RX6 = some m.cls := hown
  have in_own : ∀ w ∈ wsX60, w ∈ wsX6_fault := fun w h => (List.mem_cons_of_mem _ (List.mem_append_left _ (List.mem_append_right _ h)))
  have hf_10 := hts (.fieldLink RX6 10 "OneWorse" "pad" "LOneWorse$Pad;") (List.mem_cons_of_mem _ (List.mem_append_left _ (List.mem_append_left _ (List.mem_append_left _ (List.mem_of_getElem? (i := 0) rfl)))))
  have hi_X3 := hts (.initialized RX3) (List.mem_cons_of_mem _ (List.mem_append_left _ (List.mem_append_left _ (List.mem_append_left _ (List.mem_of_getElem? (i := 6) rfl)))))
  have hin_X3_faultAsQuarrel := hts (.instanceMethod yX3_faultAsQuarrel) (List.mem_cons_of_mem _ (List.mem_append_left _ (List.mem_append_left _ (List.mem_append_right _ (List.mem_of_getElem? (i := 3) rfl)))))
  have hse_X3_faultAsQuarrel := hts (.selects RX3 yX3_faultAsQuarrel yX3_faultAsQuarrel) (List.mem_cons_of_mem _ (List.mem_append_left _ (List.mem_append_left _ (List.mem_append_right _ (List.mem_of_getElem? (i := 4) rfl)))))
  have hin_X3_faultAsSteps := hts (.instanceMethod yX3_faultAsSteps) (List.mem_cons_of_mem _ (List.mem_append_left _ (List.mem_append_left _ (List.mem_append_left _ (List.mem_of_getElem? (i := 5) rfl)))))
  have hse_X3_faultAsSteps := hts (.selects RX3 yX3_faultAsSteps yX3_faultAsSteps) (List.mem_cons_of_mem _ (List.mem_append_left _ (List.mem_append_left _ (List.mem_append_left _ (List.mem_of_getElem? (i := 7) rfl)))))
  subst ha
  have hl := lv_entry ([.ref (ad 0), .int x1]) (n := 2) (Nat.le_of_ble_eq_true rfl)
  rw [lg_entry_eq]
  generalize (lg_sl ([.ref (ad 0), .int x1]) ++ List.replicate (2 - (lg_sl ([.ref (ad 0), .int x1])).length) Slot.unset).toArray = ls at hl ⊢
  have hl : lv_has ls 2 [(0, .ref (ad 0)), (1, .int x1)] := hl
  have hM := hM0
  have hS := hS0
  unfold f_X6_fault at hf
  refine lv_iload_n hx hb dX6_fault_0 rfl (lv_at hl 1 rfl) ?_
  refine lv_iconst (v := 0) hx hb dX6_fault_1 (by decide) ?_
  refine lv_iconst (v := 1) hx hb dX6_fault_2 (by decide) ?_
  obtain ⟨v1, e1, hf⟩ := ob_e1 hf
  refine ob_calli (va_runS (As := [.int x1, .int 0, .int 1]) (rest := []) ⟨hx, hb, hml, hown, hts⟩ (c_X6_within l dC dI ad cI cZ hI 0 (Nat.le_refl _) g x1 0 1  v1 e1) (va_cwS 3 hts gX6_fault_X6_within rfl rfl rfl hd_X6_within (ob_R (Nat.le_trans (by decide) hd) (by decide))) (ob_preS hK hM) rfl rfl hl.1 rfl (lv_room (Nat.le_of_ble_eq_true rfl)) dX6_fault_3 ⟨Nat.le_refl _, Nat.le_refl _⟩) hS (fun H locs hM hS => ?_)
  refine lv_if_ne (tgt := 12) hx hb dX6_fault_6 (by decide) (fun c2 => ?_) (fun c2 => ?_)
  · rw [if_neg c2] at hf
    refine lv_iload_n hx hb dX6_fault_12 rfl (lv_at hl 1 rfl) ?_
    refine lv_if_ne (tgt := 26) hx hb dX6_fault_13 (by decide) (fun c3 => ?_) (fun c3 => ?_)
    · rw [if_neg c3] at hf
      refine lv_aload_n hx hb dX6_fault_26 rfl (lv_at hl 0 rfl) ?_
      refine ob_gr (j := 1) hx hb hts in_own hown hK hM (q := 0) shX_0 (C := RX6) (T := TX6) (N := 8) rfl 0 (by decide) hf_10 rfl dX6_fault_27 ?_
      obtain ⟨v4, e4, hf⟩ := ob_e1 hf
      refine ob_calli (va_runVN (As := []) (rest := []) ⟨hx, hb, hml, hown, hts⟩ (c_X3_faultAsQuarrel l dC dI ad cI cZ hI 4 (Nat.le_refl _) g  v4 e4) ⟨va_cnB 0 hts gX6_fault_X3_faultAsQuarrel_n81 rfl rfl rfl (ob_nl hK nw_X6_81) hi_X3 hd_X3_faultAsQuarrel (ob_R (Nat.le_trans (by decide) hd) (by decide)), hin_X3_faultAsQuarrel, hse_X3_faultAsQuarrel⟩ (ob_preV hK hM (q := 1) shX_1 rfl) rfl rfl hl.1 rfl (lv_room (Nat.le_of_ble_eq_true rfl)) dX6_fault_30 ⟨Nat.le_refl _, Nat.le_refl _⟩) hS (fun H locs hM hS => ?_)
      exact ob_iretR hx hb hr hlocks hM hS (v := v4) rfl hf dX6_fault_33
    · rw [if_pos c3] at hf
      refine lv_aload_n hx hb dX6_fault_16 rfl (lv_at hl 0 rfl) ?_
      refine ob_gr (j := 1) hx hb hts in_own hown hK hM (q := 0) shX_0 (C := RX6) (T := TX6) (N := 8) rfl 0 (by decide) hf_10 rfl dX6_fault_17 ?_
      obtain ⟨v5, e5, hf⟩ := ob_e1 hf
      refine ob_calli (va_runVN (As := []) (rest := []) ⟨hx, hb, hml, hown, hts⟩ (c_X3_faultAsSteps l dC dI ad cI cZ hI 4 (Nat.le_refl _) g  v5 e5) ⟨va_cnB 0 hts gX6_fault_X3_faultAsSteps_n78 rfl rfl rfl (ob_nl hK nw_X6_78) hi_X3 hd_X3_faultAsSteps (ob_R (Nat.le_trans (by decide) hd) (by decide)), hin_X3_faultAsSteps, hse_X3_faultAsSteps⟩ (ob_preV hK hM (q := 1) shX_1 rfl) rfl rfl hl.1 rfl (lv_room (Nat.le_of_ble_eq_true rfl)) dX6_fault_20 ⟨Nat.le_refl _, Nat.le_refl _⟩) hS (fun H locs hM hS => ?_)
      refine lv_goto (tgt := 33) hx hb dX6_fault_23 (by decide) ?_
      exact ob_iretR hx hb hr hlocks hM hS (v := v5) rfl hf dX6_fault_33
  · rw [if_pos c2] at hf
    refine lv_bipush (v := (-2)) hx hb dX6_fault_9 (by decide) ?_
    exact ob_iretR hx hb hr hlocks hM hS (v := (-2)) rfl hf dX6_fault_11
set_option maxHeartbeats 4000000 in
set_option maxRecDepth 100000 in
theorem c_X4_worseThan (l : Launch) (dC : Nat → ClassId) (dI : Nat → Nat → Nat) (ad : Nat → Nat) (cI cZ : ClassId) (hI : ob_inj shX ad) (d : Nat) (hd : 1 ≤ d) (b : Nat) (hT : isTown b) (g : Mm) (x1 : Int32) (r : Int32) (hf : f_X4_worseThan b g x1 = some r) : ob_Mi l yX4_worseThan wsX4_worseThan d (dC, dI) vwCl shX ad cI cZ nwX [.ref (ad b), .int x1] g r g := by
  refine ob_ofW (cc := cX4_worseThan) (maxL := 2) (ret := (some .int)) (by decide) rfl ?_
  intro p e s m args below meth c ha hx hb hr hml hts hown hlocks hM0 hK hS0
  have hown : s.vm.findClass RX4 = some m.cls := hown
  have in_own : ∀ w ∈ wsX40, w ∈ wsX4_worseThan := fun w h => (List.mem_cons_of_mem _ (List.mem_append_right _ h))
  have hf_9 := hts (.fieldLink RX4 9 "OneWorse$Town" "worse" "[I") (List.mem_cons_of_mem _ (List.mem_append_left _ (List.mem_of_getElem? (i := 0) rfl)))
  have hi_X6 := hts (.initialized RX6) (List.mem_cons_of_mem _ (List.mem_append_left _ (List.mem_of_getElem? (i := 2) rfl)))
  have hst_X6_at := hts (.static yX6_at) (List.mem_cons_of_mem _ (List.mem_append_left _ (List.mem_of_getElem? (i := 1) rfl)))
  subst ha
  have hl := lv_entry ([.ref (ad b), .int x1]) (n := 2) (Nat.le_of_ble_eq_true rfl)
  rw [lg_entry_eq]
  generalize (lg_sl ([.ref (ad b), .int x1]) ++ List.replicate (2 - (lg_sl ([.ref (ad b), .int x1])).length) Slot.unset).toArray = ls at hl ⊢
  have hl : lv_has ls 2 [(0, .ref (ad b)), (1, .int x1)] := hl
  have hM := hM0
  have hS := hS0
  unfold f_X4_worseThan at hf
  refine lv_aload_n hx hb dX4_worseThan_0 rfl (lv_at hl 0 rfl) ?_
  refine ob_gr (j := b + 1) hx hb hts in_own hown hK hM (q := b) (shT_0 hT) (C := RX4) (T := TX4) (N := 5) rfl 0 (by decide) hf_9 rfl dX4_worseThan_1 ?_
  refine lv_iload_n hx hb dX4_worseThan_4 rfl (lv_at hl 1 rfl) ?_
  obtain ⟨v1, e1, hf⟩ := ob_e1 hf
  refine ob_calli (va_runSN (As := [.ref (ad (b + 1)), .int x1]) (rest := []) ⟨hx, hb, hml, hown, hts⟩ (c_X6_at l dC dI ad cI cZ hI 0 (Nat.le_refl _) g (b + 1) 10 (shT_1 hT) x1  v1 e1) ⟨va_cnB 2 hts gX4_worseThan_X6_at_n32 rfl rfl rfl (ob_nl hK nw_X4_32) hi_X6 hd_X6_at (ob_R (Nat.le_trans (by decide) hd) (by decide)), hst_X6_at, trivial⟩ (ob_preS hK hM) rfl rfl hl.1 rfl (lv_room (Nat.le_of_ble_eq_true rfl)) dX4_worseThan_5 ⟨Nat.le_refl _, Nat.le_refl _⟩) hS (fun H locs hM hS => ?_)
  exact ob_iretR hx hb hr hlocks hM hS (v := v1) rfl hf dX4_worseThan_8
set_option maxHeartbeats 4000000 in
set_option maxRecDepth 100000 in
theorem c_X6_store (l : Launch) (dC : Nat → ClassId) (dI : Nat → Nat → Nat) (ad : Nat → Nat) (cI cZ : ClassId) (hI : ob_inj shX ad) (d : Nat) (hd : 0 ≤ d) (g : Mm) (q0 n0 : Nat) (hq0 : shX[q0]? = some (.inl (false, n0))) (x1 x2 : Int32) (t : Mm) (hf : f_X6_store q0 n0 g x1 x2 = some t) : ob_Mv l yX6_store wsX6_store d (dC, dI) vwCl shX ad cI cZ nwX [.ref (ad q0), .int x1, .int x2] g t := by
  refine ob_ofW (cc := cX6_store) (maxL := 3) (ret := none) (by decide) rfl ?_
  intro p e s m args below meth c ha hx hb hr hml hts hown hlocks hM0 hK hS0
  have hown : s.vm.findClass RX6 = some m.cls := hown
  subst ha
  have hl := lv_entry ([.ref (ad q0), .int x1, .int x2]) (n := 3) (Nat.le_of_ble_eq_true rfl)
  rw [lg_entry_eq]
  generalize (lg_sl ([.ref (ad q0), .int x1, .int x2]) ++ List.replicate (3 - (lg_sl ([.ref (ad q0), .int x1, .int x2])).length) Slot.unset).toArray = ls at hl ⊢
  have hl : lv_has ls 3 [(0, .ref (ad q0)), (1, .int x1), (2, .int x2)] := hl
  have hM := hM0
  have hS := hS0
  unfold f_X6_store at hf
  refine lv_iload_n hx hb dX6_store_0 rfl (lv_at hl 1 rfl) ?_
  refine lv_if_lt (tgt := 14) hx hb dX6_store_1 (by decide) (fun c1 => ?_) (fun c1 => ?_)
  · rw [if_pos c1] at hf
    exact ob_vret hx hb hr hlocks hM hS hf dX6_store_14
  · rw [if_neg c1] at hf
    refine lv_iload_n hx hb dX6_store_4 rfl (lv_at hl 1 rfl) ?_
    refine lv_aload_n hx hb dX6_store_5 rfl (lv_at hl 0 rfl) ?_
    refine ob_alen hx hb hK hM (q := q0) (n := n0) hq0 (v := (Int32.ofNat n0)) rfl dX6_store_6 ?_
    refine lv_icmp_ge (tgt := 14) hx hb dX6_store_7 (by decide) (fun c2 => ?_) (fun c2 => ?_)
    · rw [if_pos c2] at hf
      exact ob_vret hx hb hr hlocks hM hS hf dX6_store_14
    · rw [if_neg c2] at hf
      refine lv_aload_n hx hb dX6_store_10 rfl (lv_at hl 0 rfl) ?_
      refine lv_iload_n hx hb dX6_store_11 rfl (lv_at hl 1 rfl) ?_
      refine lv_iload_n hx hb dX6_store_12 rfl (lv_at hl 2 rfl) ?_
      obtain ⟨g3, e3, hf⟩ := ob_e1 hf
      refine ob_iast hx hb hK hM hI hS (q := q0) (n := n0) hq0 e3 dX6_store_13 (fun H locs hM hS => ?_)
      exact ob_vret hx hb hr hlocks hM hS hf dX6_store_14
set_option maxHeartbeats 4000000 in
set_option maxRecDepth 100000 in
theorem c_X4_setStep (l : Launch) (dC : Nat → ClassId) (dI : Nat → Nat → Nat) (ad : Nat → Nat) (cI cZ : ClassId) (hI : ob_inj shX ad) (d : Nat) (hd : 2 ≤ d) (b : Nat) (hT : isTown b) (g : Mm) (x1 x2 x3 : Int32) (t : Mm) (hf : f_X4_setStep b g x1 x2 x3 = some t) : ob_Mv l yX4_setStep wsX4_setStep d (dC, dI) vwCl shX ad cI cZ nwX [.ref (ad b), .int x1, .int x2, .int x3] g t := by
  refine ob_ofW (cc := cX4_setStep) (maxL := 5) (ret := none) (by decide) rfl ?_
  intro p e s m args below meth c ha hx hb hr hml hts hown hlocks hM0 hK hS0
  have hown : s.vm.findClass RX4 = some m.cls := hown
  have in_own : ∀ w ∈ wsX40, w ∈ wsX4_setStep := fun w h => (List.mem_cons_of_mem _ (List.mem_append_right _ h))
  have hi_X6 := hts (.initialized RX6) (List.mem_cons_of_mem _ (List.mem_append_left _ (List.mem_of_getElem? (i := 2) rfl)))
  have hst_X6_isInsult := hts (.static yX6_isInsult) (List.mem_cons_of_mem _ (List.mem_append_left _ (List.mem_of_getElem? (i := 1) rfl)))
  have hf_9 := hts (.fieldLink RX4 9 "OneWorse$Town" "worse" "[I") (List.mem_cons_of_mem _ (List.mem_append_left _ (List.mem_of_getElem? (i := 0) rfl)))
  have hst_X6_store := hts (.static yX6_store) (List.mem_cons_of_mem _ (List.mem_append_left _ (List.mem_of_getElem? (i := 14) rfl)))
  have w_48 : ∀ (g : Mm) (s0 s1 : Int32) (H : Heap) (locs : List Loc), va_P (dC, dI) vwCl (ob_ws shX ad cI cZ g) H → va_S (ob_A shX ad) s.heap H locs → ∀ (ls : Array Slot), lv_has ls 5 [] → f_X4_setStep_J48 b g s0 s1 = some t → W p l e (rmN d) s m args below meth c H locs 0 0 (MQ below (ob_Qv (dC, dI) vwCl shX ad cI cZ t) args s 0 0 (ob_A shX ad)) (F0 m 48 ls [.int s0, .int s1, .ref (ad (b + 1))]) := by
    intro g s0 s1 H locs hM hS ls hl hf
    unfold f_X4_setStep_J48 at hf
    obtain ⟨g7, e7, hf⟩ := ob_e1 hf
    refine ob_callv (va_runSN (As := [.ref (ad (b + 1)), .int s1, .int s0]) (rest := []) ⟨hx, hb, hml, hown, hts⟩ (c_X6_store l dC dI ad cI cZ hI 0 (Nat.le_refl _) g (b + 1) 10 (shT_1 hT) s1 s0  g7 e7) ⟨va_cnB 3 hts gX4_setStep_X6_store_n28 rfl rfl rfl (ob_nl hK nw_X4_28) hi_X6 hd_X6_store (ob_R (Nat.le_trans (by decide) hd) (by decide)), hst_X6_store, trivial⟩ (ob_preS hK hM) rfl rfl hl.1 rfl (lv_room (Nat.le_of_ble_eq_true rfl)) dX4_setStep_48 ⟨Nat.le_refl _, Nat.le_refl _⟩) hS (fun H locs hM hS => ?_)
    exact ob_vret hx hb hr hlocks hM hS hf dX4_setStep_51
  subst ha
  have hl := lv_entry ([.ref (ad b), .int x1, .int x2, .int x3]) (n := 5) (Nat.le_of_ble_eq_true rfl)
  rw [lg_entry_eq]
  generalize (lg_sl ([.ref (ad b), .int x1, .int x2, .int x3]) ++ List.replicate (5 - (lg_sl ([.ref (ad b), .int x1, .int x2, .int x3])).length) Slot.unset).toArray = ls at hl ⊢
  have hl : lv_has ls 5 [(0, .ref (ad b)), (1, .int x1), (2, .int x2), (3, .int x3)] := hl
  have hM := hM0
  have hS := hS0
  unfold f_X4_setStep at hf
  refine lv_iload_n hx hb dX4_setStep_0 rfl (lv_at hl 1 rfl) ?_
  obtain ⟨v1, e1, hf⟩ := ob_e1 hf
  refine ob_calli (va_runSN (As := [.int x1]) (rest := []) ⟨hx, hb, hml, hown, hts⟩ (c_X6_isInsult l dC dI ad cI cZ hI 1 (Nat.le_refl _) g x1  v1 e1) ⟨va_cnB 1 hts gX4_setStep_X6_isInsult_n36 rfl rfl rfl (ob_nl hK nw_X4_36) hi_X6 hd_X6_isInsult (ob_R (Nat.le_trans (by decide) hd) (by decide)), hst_X6_isInsult, trivial⟩ (ob_preS hK hM) rfl rfl hl.1 rfl (lv_room (Nat.le_of_ble_eq_true rfl)) dX4_setStep_1 ⟨Nat.le_refl _, Nat.le_refl _⟩) hS (fun H locs hM hS => ?_)
  refine lv_if_eq (tgt := 14) hx hb dX4_setStep_4 (by decide) (fun c2 => ?_) (fun c2 => ?_)
  · rw [if_pos c2] at hf
    exact ob_vret hx hb hr hlocks hM hS hf dX4_setStep_14
  · rw [if_neg c2] at hf
    refine lv_iload_n hx hb dX4_setStep_7 rfl (lv_at hl 2 rfl) ?_
    obtain ⟨v3, e3, hf⟩ := ob_e1 hf
    refine ob_calli (va_runSN (As := [.int x2]) (rest := []) ⟨hx, hb, hml, hown, hts⟩ (c_X6_isInsult l dC dI ad cI cZ hI 1 (Nat.le_refl _) g x2  v3 e3) ⟨va_cnB 1 hts gX4_setStep_X6_isInsult_n36 rfl rfl rfl (ob_nl hK nw_X4_36) hi_X6 hd_X6_isInsult (ob_R (Nat.le_trans (by decide) hd) (by decide)), hst_X6_isInsult, trivial⟩ (ob_preS hK hM) rfl rfl hl.1 rfl (lv_room (Nat.le_of_ble_eq_true rfl)) dX4_setStep_8 ⟨Nat.le_refl _, Nat.le_refl _⟩) hS (fun H locs hM hS => ?_)
    refine lv_if_ne (tgt := 15) hx hb dX4_setStep_11 (by decide) (fun c4 => ?_) (fun c4 => ?_)
    · rw [if_neg c4] at hf
      refine lv_aload_n hx hb dX4_setStep_15 rfl (lv_at hl 0 rfl) ?_
      refine lv_iload_n hx hb dX4_setStep_16 rfl (lv_at hl 1 rfl) ?_
      obtain ⟨v5, e5, hf⟩ := ob_e1 hf
      refine ob_calli (va_runV (As := [.int x1]) (rest := []) ⟨hx, hb, hml, hown, hts⟩ (c_X4_worseThan l dC dI ad cI cZ hI 1 (Nat.le_refl _) b hT g x1  v5 e5) (cwV 1 hts gX4_setStep_X4_worseThan rfl rfl rfl ⟨rfl, hd_X4_worseThan⟩ (ob_R (Nat.le_trans (by decide) hd) (by decide))) (ob_preV hK hM (q := b) (shT_0 hT) rfl) rfl rfl hl.1 rfl (lv_room (Nat.le_of_ble_eq_true rfl)) dX4_setStep_17 ⟨Nat.le_refl _, Nat.le_refl _⟩) hS (fun H locs hM hS => ?_)
      refine lv_iconst (v := 1) hx hb dX4_setStep_20 (by decide) ?_
      refine lv_iload_n hx hb dX4_setStep_21 rfl (lv_at hl 2 rfl) ?_
      refine lv_ishl hx hb dX4_setStep_22 ?_
      refine lv_iconst (v := (-1)) hx hb dX4_setStep_23 (by decide) ?_
      refine lv_ixor hx hb dX4_setStep_24 ?_
      refine lv_iand hx hb dX4_setStep_25 ?_
      refine lv_istore (lv' := [(4, .int (v5 &&& (((1 : Int32) <<< (x2 &&& 31)) ^^^ (-1)))), (0, .ref (ad b)), (1, .int x1), (2, .int x2), (3, .int x3)]) hx hb dX4_setStep_26 hl (by decide) rfl (fun ls hl => ?_)
      refine lv_aload_n hx hb dX4_setStep_28 rfl (lv_at hl 1 rfl) ?_
      refine ob_gr (j := b + 1) hx hb hts in_own hown hK hM (q := b) (shT_0 hT) (C := RX4) (T := TX4) (N := 5) rfl 0 (by decide) hf_9 rfl dX4_setStep_29 ?_
      refine lv_iload_n hx hb dX4_setStep_32 rfl (lv_at hl 2 rfl) ?_
      refine lv_iload_n hx hb dX4_setStep_33 rfl (lv_at hl 4 rfl) ?_
      refine lv_if_eq (tgt := 46) hx hb dX4_setStep_34 (by decide) (fun c6 => ?_) (fun c6 => ?_)
      · rw [if_pos c6] at hf
        refine lv_iload hx hb dX4_setStep_46 (lv_at hl 0 rfl) ?_
        exact w_48 g (v5 &&& (((1 : Int32) <<< (x2 &&& 31)) ^^^ (-1))) x1 _ _ hM hS _ (lv_sub hl [] rfl) hf
      · rw [if_neg c6] at hf
        refine lv_iload hx hb dX4_setStep_37 (lv_at hl 0 rfl) ?_
        refine lv_iconst (v := 1) hx hb dX4_setStep_39 (by decide) ?_
        refine lv_iload_n hx hb dX4_setStep_40 rfl (lv_at hl 3 rfl) ?_
        refine lv_ishl hx hb dX4_setStep_41 ?_
        refine lv_ior hx hb dX4_setStep_42 ?_
        refine lv_goto (tgt := 48) hx hb dX4_setStep_43 (by decide) ?_
        exact w_48 g ((v5 &&& (((1 : Int32) <<< (x2 &&& 31)) ^^^ (-1))) ||| ((1 : Int32) <<< (x2 &&& 31))) x1 _ _ hM hS _ (lv_sub hl [] rfl) hf
    · rw [if_pos c4] at hf
      exact ob_vret hx hb hr hlocks hM hS hf dX4_setStep_14
set_option maxHeartbeats 4000000 in
set_option maxRecDepth 100000 in
theorem c_J6_bitCount_0f7a4 (l : Launch) (dC : Nat → ClassId) (dI : Nat → Nat → Nat) (ad : Nat → Nat) (cI cZ : ClassId) (hI : ob_inj shX ad) (d : Nat) (hd : 0 ≤ d) (g : Mm) (x0 : Int32) (r : Int32) (hf : f_J6_bitCount_0f7a4 x0 = some r) : ob_Mi l yJ6_bitCount_0f7a4 wsJ6_bitCount_0f7a4 d (dC, dI) vwCl shX ad cI cZ nwX [.int x0] g r g := by
  refine ob_ofW (cc := cJ6_bitCount_0f7a4) (maxL := 1) (ret := (some .int)) (by decide) rfl ?_
  intro p e s m args below meth c ha hx hb hr hml hts hown hlocks hM0 hK hS0
  have hown : s.vm.findClass RJ6 = some m.cls := hown
  have hc_265 := hts (.constant RJ6 265 (1431655765)) (List.mem_cons_of_mem _ (List.mem_of_getElem? (i := 0) rfl))
  have hc_266 := hts (.constant RJ6 266 (858993459)) (List.mem_cons_of_mem _ (List.mem_of_getElem? (i := 1) rfl))
  have hc_267 := hts (.constant RJ6 267 (252645135)) (List.mem_cons_of_mem _ (List.mem_of_getElem? (i := 2) rfl))
  subst ha
  have hl := lv_entry ([.int x0]) (n := 1) (Nat.le_of_ble_eq_true rfl)
  rw [lg_entry_eq]
  generalize (lg_sl ([.int x0]) ++ List.replicate (1 - (lg_sl ([.int x0])).length) Slot.unset).toArray = ls at hl ⊢
  have hl : lv_has ls 1 [(0, .int x0)] := hl
  have hM := hM0
  have hS := hS0
  unfold f_J6_bitCount_0f7a4 at hf
  refine lv_iload_n hx hb dJ6_bitCount_0f7a4_0 rfl (lv_at hl 0 rfl) ?_
  refine lv_iload_n hx hb dJ6_bitCount_0f7a4_1 rfl (lv_at hl 0 rfl) ?_
  refine lv_iconst (v := 1) hx hb dJ6_bitCount_0f7a4_2 (by decide) ?_
  refine lv_iushr (v := ((x0).toUInt32 >>> (((1 : Int32)).toUInt32 &&& Int32.toUInt32 31)).toInt32) hx hb dJ6_bitCount_0f7a4_3 rfl ?_
  refine lv_ldcw (v := 1431655765) hx hb hown hc_265 dJ6_bitCount_0f7a4_4 ?_
  refine lv_iand hx hb dJ6_bitCount_0f7a4_7 ?_
  refine lv_isub hx hb dJ6_bitCount_0f7a4_8 ?_
  refine lv_topi (fun v1 e1 => ?_)
  have hf := ob_let hf e1
  refine lv_istore_n (lv' := [(0, .int v1)]) hx hb dJ6_bitCount_0f7a4_9 rfl hl (by decide) rfl (fun ls hl => ?_)
  refine lv_iload_n hx hb dJ6_bitCount_0f7a4_10 rfl (lv_at hl 0 rfl) ?_
  refine lv_ldcw (v := 858993459) hx hb hown hc_266 dJ6_bitCount_0f7a4_11 ?_
  refine lv_iand hx hb dJ6_bitCount_0f7a4_14 ?_
  refine lv_iload_n hx hb dJ6_bitCount_0f7a4_15 rfl (lv_at hl 0 rfl) ?_
  refine lv_iconst (v := 2) hx hb dJ6_bitCount_0f7a4_16 (by decide) ?_
  refine lv_iushr (v := ((v1).toUInt32 >>> (((2 : Int32)).toUInt32 &&& Int32.toUInt32 31)).toInt32) hx hb dJ6_bitCount_0f7a4_17 rfl ?_
  refine lv_ldcw (v := 858993459) hx hb hown hc_266 dJ6_bitCount_0f7a4_18 ?_
  refine lv_iand hx hb dJ6_bitCount_0f7a4_21 ?_
  refine lv_iadd hx hb dJ6_bitCount_0f7a4_22 ?_
  refine lv_topi (fun v2 e2 => ?_)
  have hf := ob_let hf e2
  refine lv_istore_n (lv' := [(0, .int v2)]) hx hb dJ6_bitCount_0f7a4_23 rfl hl (by decide) rfl (fun ls hl => ?_)
  refine lv_iload_n hx hb dJ6_bitCount_0f7a4_24 rfl (lv_at hl 0 rfl) ?_
  refine lv_iload_n hx hb dJ6_bitCount_0f7a4_25 rfl (lv_at hl 0 rfl) ?_
  refine lv_iconst (v := 4) hx hb dJ6_bitCount_0f7a4_26 (by decide) ?_
  refine lv_iushr (v := ((v2).toUInt32 >>> (((4 : Int32)).toUInt32 &&& Int32.toUInt32 31)).toInt32) hx hb dJ6_bitCount_0f7a4_27 rfl ?_
  refine lv_iadd hx hb dJ6_bitCount_0f7a4_28 ?_
  refine lv_ldcw (v := 252645135) hx hb hown hc_267 dJ6_bitCount_0f7a4_29 ?_
  refine lv_iand hx hb dJ6_bitCount_0f7a4_32 ?_
  refine lv_topi (fun v3 e3 => ?_)
  have hf := ob_let hf e3
  refine lv_istore_n (lv' := [(0, .int v3)]) hx hb dJ6_bitCount_0f7a4_33 rfl hl (by decide) rfl (fun ls hl => ?_)
  refine lv_iload_n hx hb dJ6_bitCount_0f7a4_34 rfl (lv_at hl 0 rfl) ?_
  refine lv_iload_n hx hb dJ6_bitCount_0f7a4_35 rfl (lv_at hl 0 rfl) ?_
  refine lv_bipush (v := 8) hx hb dJ6_bitCount_0f7a4_36 (by decide) ?_
  refine lv_iushr (v := ((v3).toUInt32 >>> (((8 : Int32)).toUInt32 &&& Int32.toUInt32 31)).toInt32) hx hb dJ6_bitCount_0f7a4_38 rfl ?_
  refine lv_iadd hx hb dJ6_bitCount_0f7a4_39 ?_
  refine lv_topi (fun v4 e4 => ?_)
  have hf := ob_let hf e4
  refine lv_istore_n (lv' := [(0, .int v4)]) hx hb dJ6_bitCount_0f7a4_40 rfl hl (by decide) rfl (fun ls hl => ?_)
  refine lv_iload_n hx hb dJ6_bitCount_0f7a4_41 rfl (lv_at hl 0 rfl) ?_
  refine lv_iload_n hx hb dJ6_bitCount_0f7a4_42 rfl (lv_at hl 0 rfl) ?_
  refine lv_bipush (v := 16) hx hb dJ6_bitCount_0f7a4_43 (by decide) ?_
  refine lv_iushr (v := ((v4).toUInt32 >>> (((16 : Int32)).toUInt32 &&& Int32.toUInt32 31)).toInt32) hx hb dJ6_bitCount_0f7a4_45 rfl ?_
  refine lv_iadd hx hb dJ6_bitCount_0f7a4_46 ?_
  refine lv_topi (fun v5 e5 => ?_)
  have hf := ob_let hf e5
  refine lv_istore_n (lv' := [(0, .int v5)]) hx hb dJ6_bitCount_0f7a4_47 rfl hl (by decide) rfl (fun ls hl => ?_)
  refine lv_iload_n hx hb dJ6_bitCount_0f7a4_48 rfl (lv_at hl 0 rfl) ?_
  refine lv_bipush (v := 63) hx hb dJ6_bitCount_0f7a4_49 (by decide) ?_
  refine lv_iand hx hb dJ6_bitCount_0f7a4_51 ?_
  exact ob_iretR hx hb hr hlocks hM hS (v := (v5 &&& 63)) rfl hf dJ6_bitCount_0f7a4_52
set_option maxHeartbeats 4000000 in
set_option maxRecDepth 100000 in
theorem c_X4_countSteps (l : Launch) (dC : Nat → ClassId) (dI : Nat → Nat → Nat) (ad : Nat → Nat) (cI cZ : ClassId) (hI : ob_inj shX ad) (d : Nat) (hd : 2 ≤ d) (b : Nat) (hT : isTown b) (g : Mm) (r : Int32) (hf : f_X4_countSteps b g = some r) : ob_Mi l yX4_countSteps wsX4_countSteps d (dC, dI) vwCl shX ad cI cZ nwX [.ref (ad b)] g r g := by
  refine ob_ofW (cc := cX4_countSteps) (maxL := 3) (ret := (some .int)) (by decide) rfl ?_
  intro p e s m args below meth c ha hx hb hr hml hts hown hlocks hM0 hK hS0
  have hown : s.vm.findClass RX4 = some m.cls := hown
  have w_4 : ∀ (n : Nat), ∀ (x1 x2 : Int32) (H : Heap) (locs : List Loc), va_P (dC, dI) vwCl (ob_ws shX ad cI cZ g) H → va_S (ob_A shX ad) s.heap H locs → ∀ (ls : Array Slot), lv_has ls 3 [(0, .ref (ad b)), (1, .int x1), (2, .int x2)] → f_X4_countSteps_L4 b g n x1 x2 = some r → W p l e (rmN d) s m args below meth c H locs 0 0 (MQ below (ob_Qi (dC, dI) vwCl shX ad cI cZ r g) args s 0 0 (ob_A shX ad)) (F0 m 4 ls []) := by
    intro n
    induction n with
    | zero =>
      intro x1 x2 H locs hM hS ls hl hf
      cases hf
    | succ n ih =>
      intro x1 x2 H locs hM hS ls hl hf
      unfold f_X4_countSteps_L4 at hf
      refine lv_iload_n hx hb dX4_countSteps_4 rfl (lv_at hl 2 rfl) ?_
      refine lv_bipush (v := 10) hx hb dX4_countSteps_5 (by decide) ?_
      refine lv_icmp_ge (tgt := 27) hx hb dX4_countSteps_7 (by decide) (fun c1 => ?_) (fun c1 => ?_)
      · rw [if_pos c1] at hf
        refine lv_iload_n hx hb dX4_countSteps_27 rfl (lv_at hl 1 rfl) ?_
        exact ob_iretR hx hb hr hlocks hM hS (v := x1) rfl hf dX4_countSteps_28
      · rw [if_neg c1] at hf
        refine lv_iload_n hx hb dX4_countSteps_10 rfl (lv_at hl 1 rfl) ?_
        refine lv_aload_n hx hb dX4_countSteps_11 rfl (lv_at hl 0 rfl) ?_
        refine lv_iload_n hx hb dX4_countSteps_12 rfl (lv_at hl 2 rfl) ?_
        obtain ⟨v2, e2, hf⟩ := ob_e1 hf
        refine ob_calli (va_runV (As := [.int x2]) (rest := [.int x1]) ⟨hx, hb, hml, hown, hts⟩ (c_X4_worseThan l dC dI ad cI cZ hI 1 (Nat.le_refl _) b hT g x2  v2 e2) (cwV 1 hts gX4_countSteps_X4_worseThan rfl rfl rfl ⟨rfl, hd_X4_worseThan⟩ (ob_R (Nat.le_trans (by decide) hd) (by decide))) (ob_preV hK hM (q := b) (shT_0 hT) rfl) rfl rfl hl.1 rfl (lv_room (Nat.le_of_ble_eq_true rfl)) dX4_countSteps_13 ⟨Nat.le_refl _, Nat.le_refl _⟩) hS (fun H locs hM hS => ?_)
        obtain ⟨v3, e3, hf⟩ := ob_e1 hf
        refine ob_calli (va_runS (As := [.int v2]) (rest := [.int x1]) ⟨hx, hb, hml, hown, hts⟩ (c_J6_bitCount_0f7a4 l dC dI ad cI cZ hI 0 (Nat.le_refl _) g v2  v3 e3) (va_cwS 1 hts gX4_countSteps_J6_bitCount_0f7a4 rfl rfl rfl hd_J6_bitCount_0f7a4 (ob_R (Nat.le_trans (by decide) hd) (by decide))) (ob_preS hK hM) rfl rfl hl.1 rfl (lv_room (Nat.le_of_ble_eq_true rfl)) dX4_countSteps_16 ⟨Nat.le_refl _, Nat.le_refl _⟩) hS (fun H locs hM hS => ?_)
        refine lv_iadd hx hb dX4_countSteps_19 ?_
        refine lv_istore_n (lv' := [(1, .int (x1 + v3)), (0, .ref (ad b)), (2, .int x2)]) hx hb dX4_countSteps_20 rfl hl (by decide) rfl (fun ls hl => ?_)
        refine lv_iinc (v := (x2 + 1)) (lv' := [(2, .int (x2 + 1)), (1, .int (x1 + v3)), (0, .ref (ad b))]) hx hb dX4_countSteps_21 hl (k := 2) rfl rfl (by decide) rfl (fun ls hl => ?_)
        refine lv_goto (tgt := 4) hx hb dX4_countSteps_24 (by decide) ?_
        exact ih (x1 + v3) (x2 + 1) _ _ hM hS _ (lv_sub hl [2, 1, 0] rfl) hf
  subst ha
  have hl := lv_entry ([.ref (ad b)]) (n := 3) (Nat.le_of_ble_eq_true rfl)
  rw [lg_entry_eq]
  generalize (lg_sl ([.ref (ad b)]) ++ List.replicate (3 - (lg_sl ([.ref (ad b)])).length) Slot.unset).toArray = ls at hl ⊢
  have hl : lv_has ls 3 [(0, .ref (ad b))] := hl
  have hM := hM0
  have hS := hS0
  unfold f_X4_countSteps at hf
  refine lv_iconst (v := 0) hx hb dX4_countSteps_0 (by decide) ?_
  refine lv_istore_n (lv' := [(1, .int 0), (0, .ref (ad b))]) hx hb dX4_countSteps_1 rfl hl (by decide) rfl (fun ls hl => ?_)
  refine lv_iconst (v := 0) hx hb dX4_countSteps_2 (by decide) ?_
  refine lv_istore_n (lv' := [(2, .int 0), (1, .int 0), (0, .ref (ad b))]) hx hb dX4_countSteps_3 rfl hl (by decide) rfl (fun ls hl => ?_)
  exact w_4 FU 0 0 _ _ hM hS _ (lv_sub hl [2, 1, 0] rfl) hf
set_option maxHeartbeats 4000000 in
set_option maxRecDepth 100000 in
theorem c_X6_steps (l : Launch) (dC : Nat → ClassId) (dI : Nat → Nat → Nat) (ad : Nat → Nat) (cI cZ : ClassId) (hI : ob_inj shX ad) (d : Nat) (hd : 5 ≤ d) (g : Mm) (r : Int32) (t : Mm) (hf : f_X6_steps g = some (r, t)) : ob_Mi l yX6_steps wsX6_steps d (dC, dI) vwCl shX ad cI cZ nwX [.ref (ad 0)] g r t := by
  refine ob_ofW (cc := cX6_steps) (maxL := 2) (ret := (some .int)) (by decide) rfl ?_
  intro p e s m args below meth c ha hx hb hr hml hts hown hlocks hM0 hK hS0
  have hown : s.vm.findClass RX6 = some m.cls := hown
  have in_own : ∀ w ∈ wsX60, w ∈ wsX6_steps := fun w h => (List.mem_cons_of_mem _ (List.mem_append_left _ (List.mem_append_left _ (List.mem_append_right _ h))))
  have hf_10 := hts (.fieldLink RX6 10 "OneWorse" "pad" "LOneWorse$Pad;") (List.mem_cons_of_mem _ (List.mem_append_left _ (List.mem_append_left _ (List.mem_append_left _ (List.mem_append_left _ (List.mem_of_getElem? (i := 0) rfl))))))
  have hi_X3 := hts (.initialized RX3) (List.mem_cons_of_mem _ (List.mem_append_left _ (List.mem_append_left _ (List.mem_append_left _ (List.mem_append_left _ (List.mem_of_getElem? (i := 3) rfl))))))
  have hin_X3_faultAsSteps := hts (.instanceMethod yX3_faultAsSteps) (List.mem_cons_of_mem _ (List.mem_append_left _ (List.mem_append_left _ (List.mem_append_left _ (List.mem_append_left _ (List.mem_of_getElem? (i := 2) rfl))))))
  have hse_X3_faultAsSteps := hts (.selects RX3 yX3_faultAsSteps yX3_faultAsSteps) (List.mem_cons_of_mem _ (List.mem_append_left _ (List.mem_append_left _ (List.mem_append_left _ (List.mem_append_left _ (List.mem_of_getElem? (i := 4) rfl))))))
  have hin_X3_size := hts (.instanceMethod yX3_size) (List.mem_cons_of_mem _ (List.mem_append_left _ (List.mem_append_left _ (List.mem_append_left _ (List.mem_append_right _ (List.mem_append_left _ (List.mem_of_getElem? (i := 4) rfl)))))))
  have hse_X3_size := hts (.selects RX3 yX3_size yX3_size) (List.mem_cons_of_mem _ (List.mem_append_left _ (List.mem_append_left _ (List.mem_append_left _ (List.mem_append_right _ (List.mem_append_left _ (List.mem_of_getElem? (i := 5) rfl)))))))
  have hin_X3_clear := hts (.instanceMethod yX3_clear) (List.mem_cons_of_mem _ (List.mem_append_left _ (List.mem_append_left _ (List.mem_append_left _ (List.mem_append_right _ (List.mem_append_left _ (List.mem_of_getElem? (i := 18) rfl)))))))
  have hse_X3_clear := hts (.selects RX3 yX3_clear yX3_clear) (List.mem_cons_of_mem _ (List.mem_append_left _ (List.mem_append_left _ (List.mem_append_left _ (List.mem_append_right _ (List.mem_append_left _ (List.mem_of_getElem? (i := 19) rfl)))))))
  have hf_19 := hts (.fieldLink RX6 19 "OneWorse" "town" "LOneWorse$Town;") (List.mem_cons_of_mem _ (List.mem_append_left _ (List.mem_append_left _ (List.mem_append_left _ (List.mem_append_left _ (List.mem_of_getElem? (i := 1) rfl))))))
  have hi_X4 := hts (.initialized RX4) (List.mem_cons_of_mem _ (List.mem_append_left _ (List.mem_append_left _ (List.mem_append_left _ (List.mem_append_right _ (List.mem_append_left _ (List.mem_of_getElem? (i := 8) rfl)))))))
  have hin_X4_countSteps := hts (.instanceMethod yX4_countSteps) (List.mem_cons_of_mem _ (List.mem_append_left _ (List.mem_append_left _ (List.mem_append_left _ (List.mem_append_right _ (List.mem_append_left _ (List.mem_of_getElem? (i := 21) rfl)))))))
  have hse_X4_countSteps := hts (.selects RX4 yX4_countSteps yX4_countSteps) (List.mem_cons_of_mem _ (List.mem_append_left _ (List.mem_append_left _ (List.mem_append_left _ (List.mem_append_right _ (List.mem_append_left _ (List.mem_of_getElem? (i := 22) rfl)))))))
  have hin_X3_signAt := hts (.instanceMethod yX3_signAt) (List.mem_cons_of_mem _ (List.mem_append_left _ (List.mem_append_left _ (List.mem_append_left _ (List.mem_append_left _ (List.mem_of_getElem? (i := 16) rfl))))))
  have hse_X3_signAt := hts (.selects RX3 yX3_signAt yX3_signAt) (List.mem_cons_of_mem _ (List.mem_append_left _ (List.mem_append_left _ (List.mem_append_left _ (List.mem_append_left _ (List.mem_of_getElem? (i := 17) rfl))))))
  have hin_X3_insultAt := hts (.instanceMethod yX3_insultAt) (List.mem_cons_of_mem _ (List.mem_append_left _ (List.mem_append_left _ (List.mem_append_left _ (List.mem_append_left _ (List.mem_of_getElem? (i := 12) rfl))))))
  have hse_X3_insultAt := hts (.selects RX3 yX3_insultAt yX3_insultAt) (List.mem_cons_of_mem _ (List.mem_append_left _ (List.mem_append_left _ (List.mem_append_left _ (List.mem_append_left _ (List.mem_of_getElem? (i := 13) rfl))))))
  have hin_X4_setStep := hts (.instanceMethod yX4_setStep) (List.mem_cons_of_mem _ (List.mem_append_left _ (List.mem_append_left _ (List.mem_append_left _ (List.mem_append_right _ (List.mem_append_left _ (List.mem_of_getElem? (i := 7) rfl)))))))
  have hse_X4_setStep := hts (.selects RX4 yX4_setStep yX4_setStep) (List.mem_cons_of_mem _ (List.mem_append_left _ (List.mem_append_left _ (List.mem_append_left _ (List.mem_append_right _ (List.mem_append_left _ (List.mem_of_getElem? (i := 9) rfl)))))))
  have w_69 : ∀ (k17 : Mm → Int32 → Option (Int32 × Mm)) (hk17 : ∀ (g : Mm) (x1 : Int32) (H : Heap) (locs : List Loc), va_P (dC, dI) vwCl (ob_ws shX ad cI cZ g) H → va_S (ob_A shX ad) s.heap H locs → ∀ (ls : Array Slot), lv_has ls 2 [(0, .ref (ad 0)), (1, .int x1)] → k17 g x1 = some (r, t) → W p l e (rmN d) s m args below meth c H locs 0 0 (MQ below (ob_Qi (dC, dI) vwCl shX ad cI cZ r t) args s 0 0 (ob_A shX ad)) (F0 m 17 ls [])), ∀ (g : Mm) (x1 : Int32) (H : Heap) (locs : List Loc), va_P (dC, dI) vwCl (ob_ws shX ad cI cZ g) H → va_S (ob_A shX ad) s.heap H locs → ∀ (ls : Array Slot), lv_has ls 2 [(0, .ref (ad 0)), (1, .int x1)] → f_X6_steps_J69 k17 g x1 = some (r, t) → W p l e (rmN d) s m args below meth c H locs 0 0 (MQ below (ob_Qi (dC, dI) vwCl shX ad cI cZ r t) args s 0 0 (ob_A shX ad)) (F0 m 69 ls []) := by
    intro k17 hk17 g x1 H locs hM hS ls hl hf
    unfold f_X6_steps_J69 at hf
    refine lv_iinc (v := (x1 + 2)) (lv' := [(1, .int (x1 + 2)), (0, .ref (ad 0))]) hx hb dX6_steps_69 hl (k := 1) rfl rfl (by decide) rfl (fun ls hl => ?_)
    refine lv_goto (tgt := 17) hx hb dX6_steps_72 (by decide) ?_
    exact hk17 g (x1 + 2) _ _ hM hS _ (lv_sub hl [1, 0] rfl) hf
  have w_17 : ∀ (n : Nat), ∀ (g : Mm) (x1 : Int32) (H : Heap) (locs : List Loc), va_P (dC, dI) vwCl (ob_ws shX ad cI cZ g) H → va_S (ob_A shX ad) s.heap H locs → ∀ (ls : Array Slot), lv_has ls 2 [(0, .ref (ad 0)), (1, .int x1)] → f_X6_steps_L17 n g x1 = some (r, t) → W p l e (rmN d) s m args below meth c H locs 0 0 (MQ below (ob_Qi (dC, dI) vwCl shX ad cI cZ r t) args s 0 0 (ob_A shX ad)) (F0 m 17 ls []) := by
    intro n
    induction n with
    | zero =>
      intro g x1 H locs hM hS ls hl hf
      cases hf
    | succ n ih =>
      intro g x1 H locs hM hS ls hl hf
      unfold f_X6_steps_L17 at hf
      refine lv_iload_n hx hb dX6_steps_17 rfl (lv_at hl 1 rfl) ?_
      refine lv_aload_n hx hb dX6_steps_18 rfl (lv_at hl 0 rfl) ?_
      refine ob_gr (j := 1) hx hb hts in_own hown hK hM (q := 0) shX_0 (C := RX6) (T := TX6) (N := 8) rfl 0 (by decide) hf_10 rfl dX6_steps_19 ?_
      obtain ⟨v3, e3, hf⟩ := ob_e1 hf
      refine ob_calli (va_runVN (As := []) (rest := [.int x1]) ⟨hx, hb, hml, hown, hts⟩ (c_X3_size l dC dI ad cI cZ hI 0 (Nat.le_refl _) g  v3 e3) ⟨va_cnB 0 hts gX6_steps_X3_size_n71 rfl rfl rfl (ob_nl hK nw_X6_71) hi_X3 hd_X3_size (ob_R (Nat.le_trans (by decide) hd) (by decide)), hin_X3_size, hse_X3_size⟩ (ob_preV hK hM (q := 1) shX_1 rfl) rfl rfl hl.1 rfl (lv_room (Nat.le_of_ble_eq_true rfl)) dX6_steps_22 ⟨Nat.le_refl _, Nat.le_refl _⟩) hS (fun H locs hM hS => ?_)
      refine lv_icmp_ge (tgt := 75) hx hb dX6_steps_25 (by decide) (fun c4 => ?_) (fun c4 => ?_)
      · rw [if_pos c4] at hf
        refine lv_aload_n hx hb dX6_steps_75 rfl (lv_at hl 0 rfl) ?_
        refine ob_gr (j := 1) hx hb hts in_own hown hK hM (q := 0) shX_0 (C := RX6) (T := TX6) (N := 8) rfl 0 (by decide) hf_10 rfl dX6_steps_76 ?_
        obtain ⟨g5, e5, hf⟩ := ob_e1 hf
        refine ob_callv (va_runVN (As := []) (rest := []) ⟨hx, hb, hml, hown, hts⟩ (c_X3_clear l dC dI ad cI cZ hI 0 (Nat.le_refl _) g  g5 e5) ⟨va_cnB 0 hts gX6_steps_X3_clear_n75 rfl rfl rfl (ob_nl hK nw_X6_75) hi_X3 hd_X3_clear (ob_R (Nat.le_trans (by decide) hd) (by decide)), hin_X3_clear, hse_X3_clear⟩ (ob_preV hK hM (q := 1) shX_1 rfl) rfl rfl hl.1 rfl (lv_room (Nat.le_of_ble_eq_true rfl)) dX6_steps_79 ⟨Nat.le_refl _, Nat.le_refl _⟩) hS (fun H locs hM hS => ?_)
        refine lv_aload_n hx hb dX6_steps_82 rfl (lv_at hl 0 rfl) ?_
        refine ob_gr (j := 2) hx hb hts in_own hown hK hM (q := 0) shX_0 (C := RX6) (T := TX6) (N := 8) rfl 1 (by decide) hf_19 rfl dX6_steps_83 ?_
        obtain ⟨v6, e6, hf⟩ := ob_e1 hf
        refine ob_calli (va_runVN (As := []) (rest := []) ⟨hx, hb, hml, hown, hts⟩ (c_X4_countSteps l dC dI ad cI cZ hI 2 (Nat.le_refl _) 2 isTown_2 g5  v6 e6) ⟨va_cnB 0 hts gX6_steps_X4_countSteps_n95 rfl rfl rfl (ob_nl hK nw_X6_95) hi_X4 hd_X4_countSteps (ob_R (Nat.le_trans (by decide) hd) (by decide)), hin_X4_countSteps, hse_X4_countSteps⟩ (ob_preV hK hM (q := 2) shX_2 rfl) rfl rfl hl.1 rfl (lv_room (Nat.le_of_ble_eq_true rfl)) dX6_steps_86 ⟨Nat.le_refl _, Nat.le_refl _⟩) hS (fun H locs hM hS => ?_)
        exact ob_iret hx hb hr hlocks hM hS (v := v6) rfl hf dX6_steps_89
      · rw [if_neg c4] at hf
        refine lv_aload_n hx hb dX6_steps_28 rfl (lv_at hl 0 rfl) ?_
        refine ob_gr (j := 1) hx hb hts in_own hown hK hM (q := 0) shX_0 (C := RX6) (T := TX6) (N := 8) rfl 0 (by decide) hf_10 rfl dX6_steps_29 ?_
        refine lv_iload_n hx hb dX6_steps_32 rfl (lv_at hl 1 rfl) ?_
        refine lv_iconst (v := 1) hx hb dX6_steps_33 (by decide) ?_
        refine lv_isub hx hb dX6_steps_34 ?_
        obtain ⟨v7, e7, hf⟩ := ob_e1 hf
        refine ob_calli (va_runVN (As := [.int (x1 - 1)]) (rest := []) ⟨hx, hb, hml, hown, hts⟩ (c_X3_signAt l dC dI ad cI cZ hI 1 (Nat.le_refl _) g (x1 - 1)  v7 e7) ⟨va_cnB 1 hts gX6_steps_X3_signAt_n84 rfl rfl rfl (ob_nl hK nw_X6_84) hi_X3 hd_X3_signAt (ob_R (Nat.le_trans (by decide) hd) (by decide)), hin_X3_signAt, hse_X3_signAt⟩ (ob_preV hK hM (q := 1) shX_1 rfl) rfl rfl hl.1 rfl (lv_room (Nat.le_of_ble_eq_true rfl)) dX6_steps_35 ⟨Nat.le_refl _, Nat.le_refl _⟩) hS (fun H locs hM hS => ?_)
        refine lv_bipush (v := 62) hx hb dX6_steps_38 (by decide) ?_
        refine lv_icmp_ne (tgt := 69) hx hb dX6_steps_40 (by decide) (fun c8 => ?_) (fun c8 => ?_)
        · rw [if_neg c8] at hf
          exact w_69 (f_X6_steps_L17 n) ih g x1 _ _ hM hS _ (lv_sub hl [0, 1] rfl) hf
        · rw [if_pos c8] at hf
          refine lv_aload_n hx hb dX6_steps_43 rfl (lv_at hl 0 rfl) ?_
          refine ob_gr (j := 2) hx hb hts in_own hown hK hM (q := 0) shX_0 (C := RX6) (T := TX6) (N := 8) rfl 1 (by decide) hf_19 rfl dX6_steps_44 ?_
          refine lv_aload_n hx hb dX6_steps_47 rfl (lv_at hl 0 rfl) ?_
          refine ob_gr (j := 1) hx hb hts in_own hown hK hM (q := 0) shX_0 (C := RX6) (T := TX6) (N := 8) rfl 0 (by decide) hf_10 rfl dX6_steps_48 ?_
          refine lv_iload_n hx hb dX6_steps_51 rfl (lv_at hl 1 rfl) ?_
          refine lv_iconst (v := 2) hx hb dX6_steps_52 (by decide) ?_
          refine lv_isub hx hb dX6_steps_53 ?_
          obtain ⟨v9, e9, hf⟩ := ob_e1 hf
          refine ob_calli (va_runVN (As := [.int (x1 - 2)]) (rest := [.ref (ad 2)]) ⟨hx, hb, hml, hown, hts⟩ (c_X3_insultAt l dC dI ad cI cZ hI 2 (Nat.le_refl _) g (x1 - 2)  v9 e9) ⟨va_cnB 1 hts gX6_steps_X3_insultAt_n88 rfl rfl rfl (ob_nl hK nw_X6_88) hi_X3 hd_X3_insultAt (ob_R (Nat.le_trans (by decide) hd) (by decide)), hin_X3_insultAt, hse_X3_insultAt⟩ (ob_preV hK hM (q := 1) shX_1 rfl) rfl rfl hl.1 rfl (lv_room (Nat.le_of_ble_eq_true rfl)) dX6_steps_54 ⟨Nat.le_refl _, Nat.le_refl _⟩) hS (fun H locs hM hS => ?_)
          refine lv_aload_n hx hb dX6_steps_57 rfl (lv_at hl 0 rfl) ?_
          refine ob_gr (j := 1) hx hb hts in_own hown hK hM (q := 0) shX_0 (C := RX6) (T := TX6) (N := 8) rfl 0 (by decide) hf_10 rfl dX6_steps_58 ?_
          refine lv_iload_n hx hb dX6_steps_61 rfl (lv_at hl 1 rfl) ?_
          obtain ⟨v10, e10, hf⟩ := ob_e1 hf
          refine ob_calli (va_runVN (As := [.int x1]) (rest := [.int v9, .ref (ad 2)]) ⟨hx, hb, hml, hown, hts⟩ (c_X3_insultAt l dC dI ad cI cZ hI 2 (Nat.le_refl _) g x1  v10 e10) ⟨va_cnB 1 hts gX6_steps_X3_insultAt_n88 rfl rfl rfl (ob_nl hK nw_X6_88) hi_X3 hd_X3_insultAt (ob_R (Nat.le_trans (by decide) hd) (by decide)), hin_X3_insultAt, hse_X3_insultAt⟩ (ob_preV hK hM (q := 1) shX_1 rfl) rfl rfl hl.1 rfl (lv_room (Nat.le_of_ble_eq_true rfl)) dX6_steps_62 ⟨Nat.le_refl _, Nat.le_refl _⟩) hS (fun H locs hM hS => ?_)
          refine lv_iconst (v := 1) hx hb dX6_steps_65 (by decide) ?_
          obtain ⟨g11, e11, hf⟩ := ob_e1 hf
          refine ob_callv (va_runVN (As := [.int v9, .int v10, .int 1]) (rest := []) ⟨hx, hb, hml, hown, hts⟩ (c_X4_setStep l dC dI ad cI cZ hI 2 (Nat.le_refl _) 2 isTown_2 g v9 v10 1  g11 e11) ⟨va_cnB 3 hts gX6_steps_X4_setStep_n91 rfl rfl rfl (ob_nl hK nw_X6_91) hi_X4 hd_X4_setStep (ob_R (Nat.le_trans (by decide) hd) (by decide)), hin_X4_setStep, hse_X4_setStep⟩ (ob_preV hK hM (q := 2) shX_2 rfl) rfl rfl hl.1 rfl (lv_room (Nat.le_of_ble_eq_true rfl)) dX6_steps_66 ⟨Nat.le_refl _, Nat.le_refl _⟩) hS (fun H locs hM hS => ?_)
          exact w_69 (f_X6_steps_L17 n) ih g11 x1 _ _ hM hS _ (lv_sub hl [0, 1] rfl) hf
  subst ha
  have hl := lv_entry ([.ref (ad 0)]) (n := 2) (Nat.le_of_ble_eq_true rfl)
  rw [lg_entry_eq]
  generalize (lg_sl ([.ref (ad 0)]) ++ List.replicate (2 - (lg_sl ([.ref (ad 0)])).length) Slot.unset).toArray = ls at hl ⊢
  have hl : lv_has ls 2 [(0, .ref (ad 0))] := hl
  have hM := hM0
  have hS := hS0
  unfold f_X6_steps at hf
  refine lv_aload_n hx hb dX6_steps_0 rfl (lv_at hl 0 rfl) ?_
  refine ob_gr (j := 1) hx hb hts in_own hown hK hM (q := 0) shX_0 (C := RX6) (T := TX6) (N := 8) rfl 0 (by decide) hf_10 rfl dX6_steps_1 ?_
  obtain ⟨v1, e1, hf⟩ := ob_e1 hf
  refine ob_calli (va_runVN (As := []) (rest := []) ⟨hx, hb, hml, hown, hts⟩ (c_X3_faultAsSteps l dC dI ad cI cZ hI 4 (Nat.le_refl _) g  v1 e1) ⟨va_cnB 0 hts gX6_steps_X3_faultAsSteps_n78 rfl rfl rfl (ob_nl hK nw_X6_78) hi_X3 hd_X3_faultAsSteps (ob_R (Nat.le_trans (by decide) hd) (by decide)), hin_X3_faultAsSteps, hse_X3_faultAsSteps⟩ (ob_preV hK hM (q := 1) shX_1 rfl) rfl rfl hl.1 rfl (lv_room (Nat.le_of_ble_eq_true rfl)) dX6_steps_4 ⟨Nat.le_refl _, Nat.le_refl _⟩) hS (fun H locs hM hS => ?_)
  refine lv_bipush (v := (-6)) hx hb dX6_steps_7 (by decide) ?_
  refine lv_icmp_eq (tgt := 15) hx hb dX6_steps_9 (by decide) (fun c2 => ?_) (fun c2 => ?_)
  · rw [if_pos c2] at hf
    refine lv_iconst (v := 2) hx hb dX6_steps_15 (by decide) ?_
    refine lv_istore_n (lv' := [(1, .int 2), (0, .ref (ad 0))]) hx hb dX6_steps_16 rfl hl (by decide) rfl (fun ls hl => ?_)
    exact w_17 FU g 2 _ _ hM hS _ (lv_sub hl [1, 0] rfl) hf
  · rw [if_neg c2] at hf
    refine lv_bipush (v := (-5)) hx hb dX6_steps_12 (by decide) ?_
    exact ob_iret hx hb hr hlocks hM hS (v := (-5)) rfl hf dX6_steps_14
