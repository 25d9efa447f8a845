set_option maxHeartbeats 4000000 in
set_option maxRecDepth 100000 in
theorem c_X7_in (l : Launch) (dC : Nat → ClassId) (dI : Nat → Nat → Nat) (ad : Nat → Nat) (cI cZ : ClassId) (hI : ob_inj shM ad) (d : Nat) (hd : 0 ≤ d) (g : Mm) (x0 x1 x2 : Int32) (r : Int32) (hf : f_X7_in x0 x1 x2 = some r) : ob_Mi l yX7_in wsX7_in d (dC, dI) vwCl shM ad cI cZ nwM [.int x0, .int x1, .int x2] g r g := by
  refine ob_ofW (cc := cX7_in) (maxL := 3) (ret := (some .boolean)) (by decide) rfl ?_
  intro p e s m args below meth c ha hx hb hr hml hts hown hlocks hM0 hK hS0
  have hown : s.vm.findClass RX7 = some m.cls := hown
  subst ha
  have hl := lv_entry ([.int x0, .int x1, .int x2]) (n := 3) (Nat.le_of_ble_eq_true rfl)
  rw [lg_entry_eq]
  generalize (lg_sl ([.int x0, .int x1, .int x2]) ++ List.replicate (3 - (lg_sl ([.int x0, .int x1, .int x2])).length) Slot.unset).toArray = ls at hl ⊢
  have hl : lv_has ls 3 [(0, .int x0), (1, .int x1), (2, .int x2)] := hl
  have hM := hM0
  have hS := hS0
  unfold f_X7_in at hf
  refine lv_iload_n hx hb dX7_in_0 rfl (lv_at hl 0 rfl) ?_
  refine lv_iload_n hx hb dX7_in_1 rfl (lv_at hl 1 rfl) ?_
  refine lv_icmp_lt (tgt := 14) hx hb dX7_in_2 (by decide) (fun c1 => ?_) (fun c1 => ?_)
  · rw [if_pos c1] at hf
    refine lv_iconst (v := 0) hx hb dX7_in_14 (by decide) ?_
    exact ob_iretR hx hb hr hlocks hM hS (v := 0) rfl hf dX7_in_15
  · rw [if_neg c1] at hf
    refine lv_iload_n hx hb dX7_in_5 rfl (lv_at hl 0 rfl) ?_
    refine lv_iload_n hx hb dX7_in_6 rfl (lv_at hl 2 rfl) ?_
    refine lv_icmp_gt (tgt := 14) hx hb dX7_in_7 (by decide) (fun c2 => ?_) (fun c2 => ?_)
    · rw [if_pos c2] at hf
      refine lv_iconst (v := 0) hx hb dX7_in_14 (by decide) ?_
      exact ob_iretR hx hb hr hlocks hM hS (v := 0) rfl hf dX7_in_15
    · rw [if_neg c2] at hf
      refine lv_iconst (v := 1) hx hb dX7_in_10 (by decide) ?_
      refine lv_goto (tgt := 15) hx hb dX7_in_11 (by decide) ?_
      exact ob_iretR hx hb hr hlocks hM hS (v := 1) rfl hf dX7_in_15
set_option maxHeartbeats 4000000 in
set_option maxRecDepth 100000 in
theorem c_X7_has (l : Launch) (dC : Nat → ClassId) (dI : Nat → Nat → Nat) (ad : Nat → Nat) (cI cZ : ClassId) (hI : ob_inj shM ad) (d : Nat) (hd : 0 ≤ d) (g : Mm) (x0 x1 : Int32) (r : Int32) (hf : f_X7_has x0 x1 = some r) : ob_Mi l yX7_has wsX7_has d (dC, dI) vwCl shM ad cI cZ nwM [.int x0, .int x1] g r g := by
  refine ob_ofW (cc := cX7_has) (maxL := 2) (ret := (some .boolean)) (by decide) rfl ?_
  intro p e s m args below meth c ha hx hb hr hml hts hown hlocks hM0 hK hS0
  have hown : s.vm.findClass RX7 = some m.cls := hown
  subst ha
  have hl := lv_entry ([.int x0, .int x1]) (n := 2) (Nat.le_of_ble_eq_true rfl)
  rw [lg_entry_eq]
  generalize (lg_sl ([.int x0, .int x1]) ++ List.replicate (2 - (lg_sl ([.int x0, .int x1])).length) Slot.unset).toArray = ls at hl ⊢
  have hl : lv_has ls 2 [(0, .int x0), (1, .int x1)] := hl
  have hM := hM0
  have hS := hS0
  unfold f_X7_has at hf
  refine lv_iload_n hx hb dX7_has_0 rfl (lv_at hl 0 rfl) ?_
  refine lv_iload_n hx hb dX7_has_1 rfl (lv_at hl 1 rfl) ?_
  refine lv_ishr hx hb dX7_has_2 ?_
  refine lv_iconst (v := 1) hx hb dX7_has_3 (by decide) ?_
  refine lv_iand hx hb dX7_has_4 ?_
  refine lv_iconst (v := 1) hx hb dX7_has_5 (by decide) ?_
  refine lv_icmp_ne (tgt := 13) hx hb dX7_has_6 (by decide) (fun c1 => ?_) (fun c1 => ?_)
  · rw [if_neg c1] at hf
    refine lv_iconst (v := 0) hx hb dX7_has_13 (by decide) ?_
    exact ob_iretR hx hb hr hlocks hM hS (v := 0) rfl hf dX7_has_14
  · rw [if_pos c1] at hf
    refine lv_iconst (v := 1) hx hb dX7_has_9 (by decide) ?_
    refine lv_goto (tgt := 14) hx hb dX7_has_10 (by decide) ?_
    exact ob_iretR hx hb hr hlocks hM hS (v := 1) rfl hf dX7_has_14
set_option maxHeartbeats 4000000 in
set_option maxRecDepth 100000 in
theorem c_X7_bits (l : Launch) (dC : Nat → ClassId) (dI : Nat → Nat → Nat) (ad : Nat → Nat) (cI cZ : ClassId) (hI : ob_inj shM ad) (d : Nat) (hd : 0 ≤ d) (g : Mm) (x0 : Int32) (r : Int32) (hf : f_X7_bits x0 = some r) : ob_Mi l yX7_bits wsX7_bits d (dC, dI) vwCl shM ad cI cZ nwM [.int x0] g r g := by
  refine ob_ofW (cc := cX7_bits) (maxL := 3) (ret := (some .int)) (by decide) rfl ?_
  intro p e s m args below meth c ha hx hb hr hml hts hown hlocks hM0 hK hS0
  have hown : s.vm.findClass RX7 = some m.cls := hown
  have w_4 : ∀ (n : Nat), ∀ (x0 x1 x2 : Int32) (H : Heap) (locs : List Loc), va_P (dC, dI) vwCl (ob_ws shM ad cI cZ g) H → va_S (ob_A shM ad) s.heap H locs → ∀ (ls : Array Slot), lv_has ls 3 [(0, .int x0), (1, .int x1), (2, .int x2)] → f_X7_bits_L4 n x0 x1 x2 = some r → W p l e (rmN d) s m args below meth c H locs 0 0 (MQ below (ob_Qi (dC, dI) vwCl shM ad cI cZ r g) args s 0 0 (ob_A shM ad)) (F0 m 4 ls []) := by
    intro n
    induction n with
    | zero =>
      intro x0 x1 x2 H locs hM hS ls hl hf
      cases hf
    | succ n ih =>
      intro x0 x1 x2 H locs hM hS ls hl hf
      unfold f_X7_bits_L4 at hf
      refine lv_iload_n hx hb dX7_bits_4 rfl (lv_at hl 2 rfl) ?_
      refine lv_bipush (v := 10) hx hb dX7_bits_5 (by decide) ?_
      refine lv_icmp_ge (tgt := 24) hx hb dX7_bits_7 (by decide) (fun c1 => ?_) (fun c1 => ?_)
      · rw [if_pos c1] at hf
        refine lv_iload_n hx hb dX7_bits_24 rfl (lv_at hl 1 rfl) ?_
        exact ob_iretR hx hb hr hlocks hM hS (v := x1) rfl hf dX7_bits_25
      · rw [if_neg c1] at hf
        refine lv_iload_n hx hb dX7_bits_10 rfl (lv_at hl 1 rfl) ?_
        refine lv_iload_n hx hb dX7_bits_11 rfl (lv_at hl 0 rfl) ?_
        refine lv_iload_n hx hb dX7_bits_12 rfl (lv_at hl 2 rfl) ?_
        refine lv_ishr hx hb dX7_bits_13 ?_
        refine lv_iconst (v := 1) hx hb dX7_bits_14 (by decide) ?_
        refine lv_iand hx hb dX7_bits_15 ?_
        refine lv_iadd hx hb dX7_bits_16 ?_
        refine lv_istore_n (lv' := [(1, .int (x1 + ((x0 >>> (x2 &&& 31)) &&& 1))), (0, .int x0), (2, .int x2)]) hx hb dX7_bits_17 rfl hl (by decide) rfl (fun ls hl => ?_)
        refine lv_iinc (v := (x2 + 1)) (lv' := [(2, .int (x2 + 1)), (1, .int (x1 + ((x0 >>> (x2 &&& 31)) &&& 1))), (0, .int x0)]) hx hb dX7_bits_18 hl (k := 2) rfl rfl (by decide) rfl (fun ls hl => ?_)
        refine lv_goto (tgt := 4) hx hb dX7_bits_21 (by decide) ?_
        exact ih x0 (x1 + ((x0 >>> (x2 &&& 31)) &&& 1)) (x2 + 1) _ _ hM hS _ (lv_sub hl [2, 1, 0] rfl) hf
  subst ha
  have hl := lv_entry ([.int x0]) (n := 3) (Nat.le_of_ble_eq_true rfl)
  rw [lg_entry_eq]
  generalize (lg_sl ([.int x0]) ++ List.replicate (3 - (lg_sl ([.int x0])).length) Slot.unset).toArray = ls at hl ⊢
  have hl : lv_has ls 3 [(0, .int x0)] := hl
  have hM := hM0
  have hS := hS0
  unfold f_X7_bits at hf
  refine lv_iconst (v := 0) hx hb dX7_bits_0 (by decide) ?_
  refine lv_istore_n (lv' := [(1, .int 0), (0, .int x0)]) hx hb dX7_bits_1 rfl hl (by decide) rfl (fun ls hl => ?_)
  refine lv_iconst (v := 0) hx hb dX7_bits_2 (by decide) ?_
  refine lv_istore_n (lv' := [(2, .int 0), (1, .int 0), (0, .int x0)]) hx hb dX7_bits_3 rfl hl (by decide) rfl (fun ls hl => ?_)
  exact w_4 FU x0 0 0 _ _ hM hS _ (lv_sub hl [2, 1, 0] rfl) hf
set_option maxHeartbeats 4000000 in
set_option maxRecDepth 100000 in
theorem c_X7_isInsult (l : Launch) (dC : Nat → ClassId) (dI : Nat → Nat → Nat) (ad : Nat → Nat) (cI cZ : ClassId) (hI : ob_inj shM ad) (d : Nat) (hd : 1 ≤ d) (g : Mm) (x0 : Int32) (r : Int32) (hf : f_X7_isInsult x0 = some r) : ob_Mi l yX7_isInsult wsX7_isInsult d (dC, dI) vwCl shM ad cI cZ nwM [.int x0] g r g := by
  refine ob_ofW (cc := cX7_isInsult) (maxL := 1) (ret := (some .boolean)) (by decide) rfl ?_
  intro p e s m args below meth c ha hx hb hr hml hts hown hlocks hM0 hK hS0
  have hown : s.vm.findClass RX7 = some m.cls := hown
  subst ha
  have hl := lv_entry ([.int x0]) (n := 1) (Nat.le_of_ble_eq_true rfl)
  rw [lg_entry_eq]
  generalize (lg_sl ([.int x0]) ++ List.replicate (1 - (lg_sl ([.int x0])).length) Slot.unset).toArray = ls at hl ⊢
  have hl : lv_has ls 1 [(0, .int x0)] := hl
  have hM := hM0
  have hS := hS0
  unfold f_X7_isInsult at hf
  refine lv_iload_n hx hb dX7_isInsult_0 rfl (lv_at hl 0 rfl) ?_
  refine lv_iconst (v := 0) hx hb dX7_isInsult_1 (by decide) ?_
  refine lv_bipush (v := 9) hx hb dX7_isInsult_2 (by decide) ?_
  obtain ⟨v1, e1, hf⟩ := ob_e1 hf
  refine ob_calli (va_runS (As := [.int x0, .int 0, .int 9]) (rest := []) ⟨hx, hb, hml, hown, hts⟩ (c_X7_in l dC dI ad cI cZ hI 0 (Nat.le_refl _) g x0 0 9  v1 e1) (va_cwS 3 hts gX7_isInsult_X7_in rfl rfl rfl hd_X7_in (ob_R (Nat.le_trans (by decide) hd) (by decide))) (ob_preS hK hM) rfl rfl hl.1 rfl (lv_room (Nat.le_of_ble_eq_true rfl)) dX7_isInsult_4 ⟨Nat.le_refl _, Nat.le_refl _⟩) hS (fun H locs hM hS => ?_)
  obtain ⟨u2, e2, hf⟩ := ob_e1 hf
  exact ob_iretR hx hb hr hlocks hM hS (v := v1) (ob_zb_in e2) hf dX7_isInsult_7
set_option maxHeartbeats 4000000 in
set_option maxRecDepth 100000 in
theorem c_X7_isMan (l : Launch) (dC : Nat → ClassId) (dI : Nat → Nat → Nat) (ad : Nat → Nat) (cI cZ : ClassId) (hI : ob_inj shM ad) (d : Nat) (hd : 1 ≤ d) (g : Mm) (x0 : Int32) (r : Int32) (hf : f_X7_isMan x0 = some r) : ob_Mi l yX7_isMan wsX7_isMan d (dC, dI) vwCl shM ad cI cZ nwM [.int x0] g r g := by
  refine ob_ofW (cc := cX7_isMan) (maxL := 1) (ret := (some .boolean)) (by decide) rfl ?_
  intro p e s m args below meth c ha hx hb hr hml hts hown hlocks hM0 hK hS0
  have hown : s.vm.findClass RX7 = some m.cls := hown
  subst ha
  have hl := lv_entry ([.int x0]) (n := 1) (Nat.le_of_ble_eq_true rfl)
  rw [lg_entry_eq]
  generalize (lg_sl ([.int x0]) ++ List.replicate (1 - (lg_sl ([.int x0])).length) Slot.unset).toArray = ls at hl ⊢
  have hl : lv_has ls 1 [(0, .int x0)] := hl
  have hM := hM0
  have hS := hS0
  unfold f_X7_isMan at hf
  refine lv_iload_n hx hb dX7_isMan_0 rfl (lv_at hl 0 rfl) ?_
  refine lv_iconst (v := 0) hx hb dX7_isMan_1 (by decide) ?_
  refine lv_iconst (v := 4) hx hb dX7_isMan_2 (by decide) ?_
  obtain ⟨v1, e1, hf⟩ := ob_e1 hf
  refine ob_calli (va_runS (As := [.int x0, .int 0, .int 4]) (rest := []) ⟨hx, hb, hml, hown, hts⟩ (c_X7_in l dC dI ad cI cZ hI 0 (Nat.le_refl _) g x0 0 4  v1 e1) (va_cwS 3 hts gX7_isMan_X7_in rfl rfl rfl hd_X7_in (ob_R (Nat.le_trans (by decide) hd) (by decide))) (ob_preS hK hM) rfl rfl hl.1 rfl (lv_room (Nat.le_of_ble_eq_true rfl)) dX7_isMan_3 ⟨Nat.le_refl _, Nat.le_refl _⟩) hS (fun H locs hM hS => ?_)
  obtain ⟨u2, e2, hf⟩ := ob_e1 hf
  exact ob_iretR hx hb hr hlocks hM hS (v := v1) (ob_zb_in e2) hf dX7_isMan_6
set_option maxHeartbeats 4000000 in
set_option maxRecDepth 100000 in
theorem c_X7_areTwo (l : Launch) (dC : Nat → ClassId) (dI : Nat → Nat → Nat) (ad : Nat → Nat) (cI cZ : ClassId) (hI : ob_inj shM ad) (d : Nat) (hd : 2 ≤ d) (g : Mm) (x0 x1 : Int32) (r : Int32) (hf : f_X7_areTwo x0 x1 = some r) : ob_Mi l yX7_areTwo wsX7_areTwo d (dC, dI) vwCl shM ad cI cZ nwM [.int x0, .int x1] g r g := by
  refine ob_ofW (cc := cX7_areTwo) (maxL := 2) (ret := (some .boolean)) (by decide) rfl ?_
  intro p e s m args below meth c ha hx hb hr hml hts hown hlocks hM0 hK hS0
  have hown : s.vm.findClass RX7 = some m.cls := hown
  subst ha
  have hl := lv_entry ([.int x0, .int x1]) (n := 2) (Nat.le_of_ble_eq_true rfl)
  rw [lg_entry_eq]
  generalize (lg_sl ([.int x0, .int x1]) ++ List.replicate (2 - (lg_sl ([.int x0, .int x1])).length) Slot.unset).toArray = ls at hl ⊢
  have hl : lv_has ls 2 [(0, .int x0), (1, .int x1)] := hl
  have hM := hM0
  have hS := hS0
  unfold f_X7_areTwo at hf
  refine lv_iload_n hx hb dX7_areTwo_0 rfl (lv_at hl 0 rfl) ?_
  obtain ⟨v1, e1, hf⟩ := ob_e1 hf
  refine ob_calli (va_runS (As := [.int x0]) (rest := []) ⟨hx, hb, hml, hown, hts⟩ (c_X7_isMan l dC dI ad cI cZ hI 1 (Nat.le_refl _) g x0  v1 e1) (va_cwS 1 hts gX7_areTwo_X7_isMan rfl rfl rfl hd_X7_isMan (ob_R (Nat.le_trans (by decide) hd) (by decide))) (ob_preS hK hM) rfl rfl hl.1 rfl (lv_room (Nat.le_of_ble_eq_true rfl)) dX7_areTwo_1 ⟨Nat.le_refl _, Nat.le_refl _⟩) hS (fun H locs hM hS => ?_)
  refine lv_if_eq (tgt := 23) hx hb dX7_areTwo_4 (by decide) (fun c2 => ?_) (fun c2 => ?_)
  · rw [if_pos c2] at hf
    refine lv_iconst (v := 0) hx hb dX7_areTwo_23 (by decide) ?_
    exact ob_iretR hx hb hr hlocks hM hS (v := 0) rfl hf dX7_areTwo_24
  · rw [if_neg c2] at hf
    refine lv_iload_n hx hb dX7_areTwo_7 rfl (lv_at hl 1 rfl) ?_
    obtain ⟨v3, e3, hf⟩ := ob_e1 hf
    refine ob_calli (va_runS (As := [.int x1]) (rest := []) ⟨hx, hb, hml, hown, hts⟩ (c_X7_isMan l dC dI ad cI cZ hI 1 (Nat.le_refl _) g x1  v3 e3) (va_cwS 1 hts gX7_areTwo_X7_isMan rfl rfl rfl hd_X7_isMan (ob_R (Nat.le_trans (by decide) hd) (by decide))) (ob_preS hK hM) rfl rfl hl.1 rfl (lv_room (Nat.le_of_ble_eq_true rfl)) dX7_areTwo_8 ⟨Nat.le_refl _, Nat.le_refl _⟩) hS (fun H locs hM hS => ?_)
    refine lv_if_eq (tgt := 23) hx hb dX7_areTwo_11 (by decide) (fun c4 => ?_) (fun c4 => ?_)
    · rw [if_pos c4] at hf
      refine lv_iconst (v := 0) hx hb dX7_areTwo_23 (by decide) ?_
      exact ob_iretR hx hb hr hlocks hM hS (v := 0) rfl hf dX7_areTwo_24
    · rw [if_neg c4] at hf
      refine lv_iload_n hx hb dX7_areTwo_14 rfl (lv_at hl 0 rfl) ?_
      refine lv_iload_n hx hb dX7_areTwo_15 rfl (lv_at hl 1 rfl) ?_
      refine lv_icmp_eq (tgt := 23) hx hb dX7_areTwo_16 (by decide) (fun c5 => ?_) (fun c5 => ?_)
      · rw [if_pos c5] at hf
        refine lv_iconst (v := 0) hx hb dX7_areTwo_23 (by decide) ?_
        exact ob_iretR hx hb hr hlocks hM hS (v := 0) rfl hf dX7_areTwo_24
      · rw [if_neg c5] at hf
        refine lv_iconst (v := 1) hx hb dX7_areTwo_19 (by decide) ?_
        refine lv_goto (tgt := 24) hx hb dX7_areTwo_20 (by decide) ?_
        exact ob_iretR hx hb hr hlocks hM hS (v := 1) rfl hf dX7_areTwo_24
set_option maxHeartbeats 4000000 in
set_option maxRecDepth 100000 in
theorem c_X7_say (l : Launch) (dC : Nat → ClassId) (dI : Nat → Nat → Nat) (ad : Nat → Nat) (cI cZ : ClassId) (hI : ob_inj shM ad) (d : Nat) (hd : 1 ≤ d) (g : Mm) (x1 : Int32) (r : Int32) (t : Mm) (hf : f_X7_say g x1 = some (r, t)) : ob_Mi l yX7_say wsX7_say d (dC, dI) vwCl shM ad cI cZ nwM [.ref (ad 0), .int x1] g r t := by
  refine ob_ofW (cc := cX7_say) (maxL := 2) (ret := (some .int)) (by decide) rfl ?_
  intro p e s m args below meth c ha hx hb hr hml hts hown hlocks hM0 hK hS0
  have hown : s.vm.findClass RX7 = some m.cls := hown
  have in_own : ∀ w ∈ wsX70, w ∈ wsX7_say := fun w h => (List.mem_cons_of_mem _ (List.mem_append_right _ h))
  have hf_67 := hts (.fieldLink RX7 67 "OneWorseModel" "signs" "I") (List.mem_cons_of_mem _ (List.mem_append_left _ (List.mem_of_getElem? (i := 0) rfl)))
  have hf_7 := hts (.fieldLink RX7 7 "OneWorseModel" "pad" "[I") (List.mem_cons_of_mem _ (List.mem_append_left _ (List.mem_of_getElem? (i := 1) rfl)))
  subst ha
  have hl := lv_entry ([.ref (ad 0), .int x1]) (n := 2) (Nat.le_of_ble_eq_true rfl)
  rw [lg_entry_eq]
  generalize (lg_sl ([.ref (ad 0), .int x1]) ++ List.replicate (2 - (lg_sl ([.ref (ad 0), .int x1])).length) Slot.unset).toArray = ls at hl ⊢
  have hl : lv_has ls 2 [(0, .ref (ad 0)), (1, .int x1)] := hl
  have hM := hM0
  have hS := hS0
  unfold f_X7_say at hf
  refine lv_iload_n hx hb dX7_say_0 rfl (lv_at hl 1 rfl) ?_
  refine lv_bipush (v := 33) hx hb dX7_say_1 (by decide) ?_
  refine lv_bipush (v := 126) hx hb dX7_say_3 (by decide) ?_
  obtain ⟨v1, e1, hf⟩ := ob_e1 hf
  refine ob_calli (va_runS (As := [.int x1, .int 33, .int 126]) (rest := []) ⟨hx, hb, hml, hown, hts⟩ (c_X7_in l dC dI ad cI cZ hI 0 (Nat.le_refl _) g x1 33 126  v1 e1) (va_cwS 3 hts gX7_say_X7_in rfl rfl rfl hd_X7_in (ob_R (Nat.le_trans (by decide) hd) (by decide))) (ob_preS hK hM) rfl rfl hl.1 rfl (lv_room (Nat.le_of_ble_eq_true rfl)) dX7_say_5 ⟨Nat.le_refl _, Nat.le_refl _⟩) hS (fun H locs hM hS => ?_)
  refine lv_if_ne (tgt := 14) hx hb dX7_say_8 (by decide) (fun c2 => ?_) (fun c2 => ?_)
  · rw [if_neg c2] at hf
    refine lv_aload_n hx hb dX7_say_14 rfl (lv_at hl 0 rfl) ?_
    refine ob_gi hx hb hts in_own hown hK hM (q := 0) shM_0 (C := RX7) (T := TX7) (N := 18) rfl 0 (by decide) hf_67 rfl dX7_say_15 ?_
    refine lv_bipush (v := 40) hx hb dX7_say_18 (by decide) ?_
    refine lv_icmp_ne (tgt := 26) hx hb dX7_say_20 (by decide) (fun c3 => ?_) (fun c3 => ?_)
    · rw [if_neg c3] at hf
      refine lv_aload_n hx hb dX7_say_26 rfl (lv_at hl 0 rfl) ?_
      refine ob_gr (j := 1) hx hb hts in_own hown hK hM (q := 0) shM_0 (C := RX7) (T := TX7) (N := 18) rfl 1 (by decide) hf_7 rfl dX7_say_27 ?_
      refine lv_aload_n hx hb dX7_say_30 rfl (lv_at hl 0 rfl) ?_
      refine ob_gi hx hb hts in_own hown hK hM (q := 0) shM_0 (C := RX7) (T := TX7) (N := 18) rfl 0 (by decide) hf_67 rfl dX7_say_31 ?_
      refine lv_iload_n hx hb dX7_say_34 rfl (lv_at hl 1 rfl) ?_
      obtain ⟨g4, e4, hf⟩ := ob_e1 hf
      refine ob_iast hx hb hK hM hI hS (q := 1) (n := 40) shM_1 e4 dX7_say_35 (fun H locs hM hS => ?_)
      refine lv_aload_n hx hb dX7_say_36 rfl (lv_at hl 0 rfl) ?_
      refine lv_dup hx hb dX7_say_37 rfl ?_
      refine ob_gi hx hb hts in_own hown hK hM (q := 0) shM_0 (C := RX7) (T := TX7) (N := 18) rfl 0 (by decide) hf_67 rfl dX7_say_38 ?_
      refine lv_iconst (v := 1) hx hb dX7_say_41 (by decide) ?_
      refine lv_iadd hx hb dX7_say_42 ?_
      refine ob_pi hx hb hts in_own tyX7 tyX7_ok nmX7 hown hK hM hI hS (q := 0) shM_0 (C := RX7) (T := TX7) (N := 18) rfl 0 (by decide) hf_67 rfl rfl (ty := .int) (v := ((g4 0 0) + 1)) (tyX7_ok 0 (by decide)) rfl rfl dX7_say_43 (fun H locs hM hS => ?_)
      refine lv_aload_n hx hb dX7_say_46 rfl (lv_at hl 0 rfl) ?_
      refine ob_gi hx hb hts in_own hown hK hM (q := 0) shM_0 (C := RX7) (T := TX7) (N := 18) rfl 0 (by decide) hf_67 rfl dX7_say_47 ?_
      exact ob_iret hx hb hr hlocks hM hS (v := ((ob_up g4 0 0 ((g4 0 0) + 1)) 0 0)) rfl hf dX7_say_50
    · rw [if_pos c3] at hf
      refine lv_bipush (v := (-4)) hx hb dX7_say_23 (by decide) ?_
      exact ob_iret hx hb hr hlocks hM hS (v := (-4)) rfl hf dX7_say_25
  · rw [if_pos c2] at hf
    refine lv_bipush (v := (-2)) hx hb dX7_say_11 (by decide) ?_
    exact ob_iret hx hb hr hlocks hM hS (v := (-2)) rfl hf dX7_say_13
set_option maxHeartbeats 4000000 in
set_option maxRecDepth 100000 in
theorem c_X7_wipe (l : Launch) (dC : Nat → ClassId) (dI : Nat → Nat → Nat) (ad : Nat → Nat) (cI cZ : ClassId) (hI : ob_inj shM ad) (d : Nat) (hd : 0 ≤ d) (g : Mm) (r : Int32) (t : Mm) (hf : f_X7_wipe g = some (r, t)) : ob_Mi l yX7_wipe wsX7_wipe d (dC, dI) vwCl shM ad cI cZ nwM [.ref (ad 0)] g r t := by
  refine ob_ofW (cc := cX7_wipe) (maxL := 2) (ret := (some .int)) (by decide) rfl ?_
  intro p e s m args below meth c ha hx hb hr hml hts hown hlocks hM0 hK hS0
  have hown : s.vm.findClass RX7 = some m.cls := hown
  have in_own : ∀ w ∈ wsX70, w ∈ wsX7_wipe := fun w h => (List.mem_cons_of_mem _ (List.mem_append_right _ h))
  have hf_67 := hts (.fieldLink RX7 67 "OneWorseModel" "signs" "I") (List.mem_cons_of_mem _ (List.mem_append_left _ (List.mem_of_getElem? (i := 0) rfl)))
  subst ha
  have hl := lv_entry ([.ref (ad 0)]) (n := 2) (Nat.le_of_ble_eq_true rfl)
  rw [lg_entry_eq]
  generalize (lg_sl ([.ref (ad 0)]) ++ List.replicate (2 - (lg_sl ([.ref (ad 0)])).length) Slot.unset).toArray = ls at hl ⊢
  have hl : lv_has ls 2 [(0, .ref (ad 0))] := hl
  have hM := hM0
  have hS := hS0
  unfold f_X7_wipe at hf
  refine lv_aload_n hx hb dX7_wipe_0 rfl (lv_at hl 0 rfl) ?_
  refine ob_gi hx hb hts in_own hown hK hM (q := 0) shM_0 (C := RX7) (T := TX7) (N := 18) rfl 0 (by decide) hf_67 rfl dX7_wipe_1 ?_
  refine lv_istore_n (lv' := [(1, .int (g 0 0)), (0, .ref (ad 0))]) hx hb dX7_wipe_4 rfl hl (by decide) rfl (fun ls hl => ?_)
  refine lv_aload_n hx hb dX7_wipe_5 rfl (lv_at hl 1 rfl) ?_
  refine lv_iconst (v := 0) hx hb dX7_wipe_6 (by decide) ?_
  refine ob_pi hx hb hts in_own tyX7 tyX7_ok nmX7 hown hK hM hI hS (q := 0) shM_0 (C := RX7) (T := TX7) (N := 18) rfl 0 (by decide) hf_67 rfl rfl (ty := .int) (v := 0) (tyX7_ok 0 (by decide)) rfl rfl dX7_wipe_7 (fun H locs hM hS => ?_)
  refine lv_iload_n hx hb dX7_wipe_10 rfl (lv_at hl 0 rfl) ?_
  exact ob_iret hx hb hr hlocks hM hS (v := (g 0 0)) rfl hf dX7_wipe_11
set_option maxHeartbeats 4000000 in
set_option maxRecDepth 100000 in
theorem c_X7_isName (l : Launch) (dC : Nat → ClassId) (dI : Nat → Nat → Nat) (ad : Nat → Nat) (cI cZ : ClassId) (hI : ob_inj shM ad) (d : Nat) (hd : 1 ≤ d) (g : Mm) (x0 : Int32) (r : Int32) (hf : f_X7_isName x0 = some r) : ob_Mi l yX7_isName wsX7_isName d (dC, dI) vwCl shM ad cI cZ nwM [.int x0] g r g := by
  refine ob_ofW (cc := cX7_isName) (maxL := 1) (ret := (some .boolean)) (by decide) rfl ?_
  intro p e s m args below meth c ha hx hb hr hml hts hown hlocks hM0 hK hS0
  have hown : s.vm.findClass RX7 = some m.cls := hown
  subst ha
  have hl := lv_entry ([.int x0]) (n := 1) (Nat.le_of_ble_eq_true rfl)
  rw [lg_entry_eq]
  generalize (lg_sl ([.int x0]) ++ List.replicate (1 - (lg_sl ([.int x0])).length) Slot.unset).toArray = ls at hl ⊢
  have hl : lv_has ls 1 [(0, .int x0)] := hl
  have hM := hM0
  have hS := hS0
  unfold f_X7_isName at hf
  refine lv_iload_n hx hb dX7_isName_0 rfl (lv_at hl 0 rfl) ?_
  refine lv_bipush (v := 97) hx hb dX7_isName_1 (by decide) ?_
  refine lv_bipush (v := 106) hx hb dX7_isName_3 (by decide) ?_
  obtain ⟨v1, e1, hf⟩ := ob_e1 hf
  refine ob_calli (va_runS (As := [.int x0, .int 97, .int 106]) (rest := []) ⟨hx, hb, hml, hown, hts⟩ (c_X7_in l dC dI ad cI cZ hI 0 (Nat.le_refl _) g x0 97 106  v1 e1) (va_cwS 3 hts gX7_isName_X7_in rfl rfl rfl hd_X7_in (ob_R (Nat.le_trans (by decide) hd) (by decide))) (ob_preS hK hM) rfl rfl hl.1 rfl (lv_room (Nat.le_of_ble_eq_true rfl)) dX7_isName_5 ⟨Nat.le_refl _, Nat.le_refl _⟩) hS (fun H locs hM hS => ?_)
  obtain ⟨u2, e2, hf⟩ := ob_e1 hf
  exact ob_iretR hx hb hr hlocks hM hS (v := v1) (ob_zb_in e2) hf dX7_isName_8
set_option maxHeartbeats 4000000 in
set_option maxRecDepth 100000 in
theorem c_X7_stepsFault (l : Launch) (dC : Nat → ClassId) (dI : Nat → Nat → Nat) (ad : Nat → Nat) (cI cZ : ClassId) (hI : ob_inj shM ad) (d : Nat) (hd : 2 ≤ d) (g : Mm) (r : Int32) (hf : f_X7_stepsFault g = some r) : ob_Mi l yX7_stepsFault wsX7_stepsFault d (dC, dI) vwCl shM ad cI cZ nwM [.ref (ad 0)] g r g := by
  refine ob_ofW (cc := cX7_stepsFault) (maxL := 5) (ret := (some .int)) (by decide) rfl ?_
  intro p e s m args below meth c ha hx hb hr hml hts hown hlocks hM0 hK hS0
  have hown : s.vm.findClass RX7 = some m.cls := hown
  have in_own : ∀ w ∈ wsX70, w ∈ wsX7_stepsFault := fun w h => (List.mem_cons_of_mem _ (List.mem_append_right _ h))
  have hf_67 := hts (.fieldLink RX7 67 "OneWorseModel" "signs" "I") (List.mem_cons_of_mem _ (List.mem_append_left _ (List.mem_of_getElem? (i := 0) rfl)))
  have hf_7 := hts (.fieldLink RX7 7 "OneWorseModel" "pad" "[I") (List.mem_cons_of_mem _ (List.mem_append_left _ (List.mem_of_getElem? (i := 1) rfl)))
  have w_105 : ∀ (k4 : Int32 → Int32 → Option (Int32)) (hk4 : ∀ (x1 x2 : Int32) (H : Heap) (locs : List Loc), va_P (dC, dI) vwCl (ob_ws shM ad cI cZ g) H → va_S (ob_A shM ad) s.heap H locs → ∀ (ls : Array Slot), lv_has ls 5 [(0, .ref (ad 0)), (1, .int x1), (2, .int x2)] → k4 x1 x2 = some r → W p l e (rmN d) s m args below meth c H locs 0 0 (MQ below (ob_Qi (dC, dI) vwCl shM ad cI cZ r g) args s 0 0 (ob_A shM ad)) (F0 m 4 ls [])), ∀ (x2 x4 : Int32) (H : Heap) (locs : List Loc), va_P (dC, dI) vwCl (ob_ws shM ad cI cZ g) H → va_S (ob_A shM ad) s.heap H locs → ∀ (ls : Array Slot), lv_has ls 5 [(0, .ref (ad 0)), (2, .int x2), (4, .int x4)] → f_X7_stepsFault_J105 g k4 x2 x4 = some r → W p l e (rmN d) s m args below meth c H locs 0 0 (MQ below (ob_Qi (dC, dI) vwCl shM ad cI cZ r g) args s 0 0 (ob_A shM ad)) (F0 m 105 ls []) := by
    intro k4 hk4 x2 x4 H locs hM hS ls hl hf
    unfold f_X7_stepsFault_J105 at hf
    refine lv_iload hx hb dX7_stepsFault_105 (lv_at hl 2 rfl) ?_
    refine lv_if_ge (tgt := 112) hx hb dX7_stepsFault_107 (by decide) (fun c15 => ?_) (fun c15 => ?_)
    · rw [if_pos c15] at hf
      refine lv_iload hx hb dX7_stepsFault_112 (lv_at hl 2 rfl) ?_
      refine lv_istore_n (lv' := [(1, .int x4), (0, .ref (ad 0)), (2, .int x2), (4, .int x4)]) hx hb dX7_stepsFault_114 rfl hl (by decide) rfl (fun ls hl => ?_)
      refine lv_iinc (v := (x2 + 1)) (lv' := [(2, .int (x2 + 1)), (1, .int x4), (0, .ref (ad 0)), (4, .int x4)]) hx hb dX7_stepsFault_115 hl (k := 2) rfl rfl (by decide) rfl (fun ls hl => ?_)
      refine lv_goto (tgt := 4) hx hb dX7_stepsFault_118 (by decide) ?_
      exact hk4 x4 (x2 + 1) _ _ hM hS _ (lv_sub hl [2, 1, 0] rfl) hf
    · rw [if_neg c15] at hf
      refine lv_iload_n hx hb dX7_stepsFault_110 rfl (lv_at hl 1 rfl) ?_
      exact ob_iretR hx hb hr hlocks hM hS (v := x2) rfl hf dX7_stepsFault_111
  have w_36 : ∀ (k4 : Int32 → Int32 → Option (Int32)) (hk4 : ∀ (x1 x2 : Int32) (H : Heap) (locs : List Loc), va_P (dC, dI) vwCl (ob_ws shM ad cI cZ g) H → va_S (ob_A shM ad) s.heap H locs → ∀ (ls : Array Slot), lv_has ls 5 [(0, .ref (ad 0)), (1, .int x1), (2, .int x2)] → k4 x1 x2 = some r → W p l e (rmN d) s m args below meth c H locs 0 0 (MQ below (ob_Qi (dC, dI) vwCl shM ad cI cZ r g) args s 0 0 (ob_A shM ad)) (F0 m 4 ls [])), ∀ (x2 s0 : Int32) (H : Heap) (locs : List Loc), va_P (dC, dI) vwCl (ob_ws shM ad cI cZ g) H → va_S (ob_A shM ad) s.heap H locs → ∀ (ls : Array Slot), lv_has ls 5 [(0, .ref (ad 0)), (2, .int x2)] → f_X7_stepsFault_J36 g k4 x2 s0 = some r → W p l e (rmN d) s m args below meth c H locs 0 0 (MQ below (ob_Qi (dC, dI) vwCl shM ad cI cZ r g) args s 0 0 (ob_A shM ad)) (F0 m 36 ls [.int s0]) := by
    intro k4 hk4 x2 s0 H locs hM hS ls hl hf
    unfold f_X7_stepsFault_J36 at hf
    refine lv_istore (lv' := [(4, .int s0), (0, .ref (ad 0)), (2, .int x2)]) hx hb dX7_stepsFault_36 hl (by decide) rfl (fun ls hl => ?_)
    refine lv_goto (tgt := 105) hx hb dX7_stepsFault_38 (by decide) ?_
    exact w_105 k4 hk4 x2 s0 _ _ hM hS _ (lv_sub hl [1, 2, 0] rfl) hf
  have w_71 : ∀ (k4 : Int32 → Int32 → Option (Int32)) (hk4 : ∀ (x1 x2 : Int32) (H : Heap) (locs : List Loc), va_P (dC, dI) vwCl (ob_ws shM ad cI cZ g) H → va_S (ob_A shM ad) s.heap H locs → ∀ (ls : Array Slot), lv_has ls 5 [(0, .ref (ad 0)), (1, .int x1), (2, .int x2)] → k4 x1 x2 = some r → W p l e (rmN d) s m args below meth c H locs 0 0 (MQ below (ob_Qi (dC, dI) vwCl shM ad cI cZ r g) args s 0 0 (ob_A shM ad)) (F0 m 4 ls [])), ∀ (x2 s0 : Int32) (H : Heap) (locs : List Loc), va_P (dC, dI) vwCl (ob_ws shM ad cI cZ g) H → va_S (ob_A shM ad) s.heap H locs → ∀ (ls : Array Slot), lv_has ls 5 [(0, .ref (ad 0)), (2, .int x2)] → f_X7_stepsFault_J71 g k4 x2 s0 = some r → W p l e (rmN d) s m args below meth c H locs 0 0 (MQ below (ob_Qi (dC, dI) vwCl shM ad cI cZ r g) args s 0 0 (ob_A shM ad)) (F0 m 71 ls [.int s0]) := by
    intro k4 hk4 x2 s0 H locs hM hS ls hl hf
    unfold f_X7_stepsFault_J71 at hf
    refine lv_istore (lv' := [(4, .int s0), (0, .ref (ad 0)), (2, .int x2)]) hx hb dX7_stepsFault_71 hl (by decide) rfl (fun ls hl => ?_)
    refine lv_goto (tgt := 105) hx hb dX7_stepsFault_73 (by decide) ?_
    exact w_105 k4 hk4 x2 s0 _ _ hM hS _ (lv_sub hl [1, 2, 0] rfl) hf
  have w_69 : ∀ (k4 : Int32 → Int32 → Option (Int32)) (hk4 : ∀ (x1 x2 : Int32) (H : Heap) (locs : List Loc), va_P (dC, dI) vwCl (ob_ws shM ad cI cZ g) H → va_S (ob_A shM ad) s.heap H locs → ∀ (ls : Array Slot), lv_has ls 5 [(0, .ref (ad 0)), (1, .int x1), (2, .int x2)] → k4 x1 x2 = some r → W p l e (rmN d) s m args below meth c H locs 0 0 (MQ below (ob_Qi (dC, dI) vwCl shM ad cI cZ r g) args s 0 0 (ob_A shM ad)) (F0 m 4 ls [])), ∀ (x2 : Int32) (H : Heap) (locs : List Loc), va_P (dC, dI) vwCl (ob_ws shM ad cI cZ g) H → va_S (ob_A shM ad) s.heap H locs → ∀ (ls : Array Slot), lv_has ls 5 [(0, .ref (ad 0)), (2, .int x2)] → f_X7_stepsFault_J69 g k4 x2 = some r → W p l e (rmN d) s m args below meth c H locs 0 0 (MQ below (ob_Qi (dC, dI) vwCl shM ad cI cZ r g) args s 0 0 (ob_A shM ad)) (F0 m 69 ls []) := by
    intro k4 hk4 x2 H locs hM hS ls hl hf
    unfold f_X7_stepsFault_J69 at hf
    refine lv_bipush (v := (-6)) hx hb dX7_stepsFault_69 (by decide) ?_
    exact w_71 k4 hk4 x2 (-6) _ _ hM hS _ (lv_sub hl [0, 1] rfl) hf
  have w_103 : ∀ (k4 : Int32 → Int32 → Option (Int32)) (hk4 : ∀ (x1 x2 : Int32) (H : Heap) (locs : List Loc), va_P (dC, dI) vwCl (ob_ws shM ad cI cZ g) H → va_S (ob_A shM ad) s.heap H locs → ∀ (ls : Array Slot), lv_has ls 5 [(0, .ref (ad 0)), (1, .int x1), (2, .int x2)] → k4 x1 x2 = some r → W p l e (rmN d) s m args below meth c H locs 0 0 (MQ below (ob_Qi (dC, dI) vwCl shM ad cI cZ r g) args s 0 0 (ob_A shM ad)) (F0 m 4 ls [])), ∀ (x2 s0 : Int32) (H : Heap) (locs : List Loc), va_P (dC, dI) vwCl (ob_ws shM ad cI cZ g) H → va_S (ob_A shM ad) s.heap H locs → ∀ (ls : Array Slot), lv_has ls 5 [(0, .ref (ad 0)), (2, .int x2)] → f_X7_stepsFault_J103 g k4 x2 s0 = some r → W p l e (rmN d) s m args below meth c H locs 0 0 (MQ below (ob_Qi (dC, dI) vwCl shM ad cI cZ r g) args s 0 0 (ob_A shM ad)) (F0 m 103 ls [.int s0]) := by
    intro k4 hk4 x2 s0 H locs hM hS ls hl hf
    unfold f_X7_stepsFault_J103 at hf
    refine lv_istore (lv' := [(4, .int s0), (0, .ref (ad 0)), (2, .int x2)]) hx hb dX7_stepsFault_103 hl (by decide) rfl (fun ls hl => ?_)
    exact w_105 k4 hk4 x2 s0 _ _ hM hS _ (lv_sub hl [1, 2, 0] rfl) hf
  have w_101 : ∀ (k4 : Int32 → Int32 → Option (Int32)) (hk4 : ∀ (x1 x2 : Int32) (H : Heap) (locs : List Loc), va_P (dC, dI) vwCl (ob_ws shM ad cI cZ g) H → va_S (ob_A shM ad) s.heap H locs → ∀ (ls : Array Slot), lv_has ls 5 [(0, .ref (ad 0)), (1, .int x1), (2, .int x2)] → k4 x1 x2 = some r → W p l e (rmN d) s m args below meth c H locs 0 0 (MQ below (ob_Qi (dC, dI) vwCl shM ad cI cZ r g) args s 0 0 (ob_A shM ad)) (F0 m 4 ls [])), ∀ (x2 : Int32) (H : Heap) (locs : List Loc), va_P (dC, dI) vwCl (ob_ws shM ad cI cZ g) H → va_S (ob_A shM ad) s.heap H locs → ∀ (ls : Array Slot), lv_has ls 5 [(0, .ref (ad 0)), (2, .int x2)] → f_X7_stepsFault_J101 g k4 x2 = some r → W p l e (rmN d) s m args below meth c H locs 0 0 (MQ below (ob_Qi (dC, dI) vwCl shM ad cI cZ r g) args s 0 0 (ob_A shM ad)) (F0 m 101 ls []) := by
    intro k4 hk4 x2 H locs hM hS ls hl hf
    unfold f_X7_stepsFault_J101 at hf
    refine lv_bipush (v := (-6)) hx hb dX7_stepsFault_101 (by decide) ?_
    exact w_103 k4 hk4 x2 (-6) _ _ hM hS _ (lv_sub hl [0, 1] rfl) hf
  have w_4 : ∀ (n : Nat), ∀ (x1 x2 : Int32) (H : Heap) (locs : List Loc), va_P (dC, dI) vwCl (ob_ws shM ad cI cZ g) H → va_S (ob_A shM ad) s.heap H locs → ∀ (ls : Array Slot), lv_has ls 5 [(0, .ref (ad 0)), (1, .int x1), (2, .int x2)] → f_X7_stepsFault_L4 g n x1 x2 = some r → W p l e (rmN d) s m args below meth c H locs 0 0 (MQ below (ob_Qi (dC, dI) vwCl shM ad cI cZ r g) args s 0 0 (ob_A shM ad)) (F0 m 4 ls []) := by
    intro n
    induction n with
    | zero =>
      intro x1 x2 H locs hM hS ls hl hf
      cases hf
    | succ n ih =>
      intro x1 x2 H locs hM hS ls hl hf
      unfold f_X7_stepsFault_L4 at hf
      refine lv_iload_n hx hb dX7_stepsFault_4 rfl (lv_at hl 2 rfl) ?_
      refine lv_aload_n hx hb dX7_stepsFault_5 rfl (lv_at hl 0 rfl) ?_
      refine ob_gi hx hb hts in_own hown hK hM (q := 0) shM_0 (C := RX7) (T := TX7) (N := 18) rfl 0 (by decide) hf_67 rfl dX7_stepsFault_6 ?_
      refine lv_icmp_ge (tgt := 121) hx hb dX7_stepsFault_9 (by decide) (fun c1 => ?_) (fun c1 => ?_)
      · rw [if_pos c1] at hf
        refine lv_iload_n hx hb dX7_stepsFault_121 rfl (lv_at hl 1 rfl) ?_
        refine lv_iconst (v := 3) hx hb dX7_stepsFault_122 (by decide) ?_
        refine lv_icmp_ne (tgt := 131) hx hb dX7_stepsFault_123 (by decide) (fun c2 => ?_) (fun c2 => ?_)
        · rw [if_neg c2] at hf
          refine lv_aload_n hx hb dX7_stepsFault_131 rfl (lv_at hl 0 rfl) ?_
          refine ob_gi hx hb hts in_own hown hK hM (q := 0) shM_0 (C := RX7) (T := TX7) (N := 18) rfl 0 (by decide) hf_67 rfl dX7_stepsFault_132 ?_
          exact ob_iretR hx hb hr hlocks hM hS (v := (g 0 0)) rfl hf dX7_stepsFault_135
        · rw [if_pos c2] at hf
          refine lv_bipush (v := (-6)) hx hb dX7_stepsFault_126 (by decide) ?_
          refine lv_goto (tgt := 135) hx hb dX7_stepsFault_128 (by decide) ?_
          exact ob_iretR hx hb hr hlocks hM hS (v := (-6)) rfl hf dX7_stepsFault_135
      · rw [if_neg c1] at hf
        refine lv_aload_n hx hb dX7_stepsFault_12 rfl (lv_at hl 0 rfl) ?_
        refine ob_gr (j := 1) hx hb hts in_own hown hK hM (q := 0) shM_0 (C := RX7) (T := TX7) (N := 18) rfl 1 (by decide) hf_7 rfl dX7_stepsFault_13 ?_
        refine lv_iload_n hx hb dX7_stepsFault_16 rfl (lv_at hl 2 rfl) ?_
        obtain ⟨v3, e3, hf⟩ := ob_e1 hf
        refine ob_iald hx hb hK hM (q := 1) (n := 40) shM_1 e3 dX7_stepsFault_17 ?_
        refine lv_istore_n (lv' := [(3, .int v3), (0, .ref (ad 0)), (1, .int x1), (2, .int x2)]) hx hb dX7_stepsFault_18 rfl hl (by decide) rfl (fun ls hl => ?_)
        refine lv_iload_n hx hb dX7_stepsFault_19 rfl (lv_at hl 2 rfl) ?_
        refine lv_if_ne (tgt := 41) hx hb dX7_stepsFault_20 (by decide) (fun c4 => ?_) (fun c4 => ?_)
        · rw [if_neg c4] at hf
          refine lv_iload_n hx hb dX7_stepsFault_41 rfl (lv_at hl 2 rfl) ?_
          refine lv_iconst (v := 2) hx hb dX7_stepsFault_42 (by decide) ?_
          refine lv_icmp_ne (tgt := 76) hx hb dX7_stepsFault_43 (by decide) (fun c5 => ?_) (fun c5 => ?_)
          · rw [if_neg c5] at hf
            refine lv_iload_n hx hb dX7_stepsFault_76 rfl (lv_at hl 0 rfl) ?_
            refine lv_bipush (v := 62) hx hb dX7_stepsFault_77 (by decide) ?_
            refine lv_icmp_ne (tgt := 86) hx hb dX7_stepsFault_79 (by decide) (fun c6 => ?_) (fun c6 => ?_)
            · rw [if_neg c6] at hf
              refine lv_iload_n hx hb dX7_stepsFault_86 rfl (lv_at hl 0 rfl) ?_
              refine lv_bipush (v := 44) hx hb dX7_stepsFault_87 (by decide) ?_
              refine lv_icmp_ne (tgt := 101) hx hb dX7_stepsFault_89 (by decide) (fun c7 => ?_) (fun c7 => ?_)
              · rw [if_neg c7] at hf
                exact w_101 (f_X7_stepsFault_L4 g n) ih x2 _ _ hM hS _ (lv_sub hl [1, 3] rfl) hf
              · rw [if_pos c7] at hf
                refine lv_iload_n hx hb dX7_stepsFault_92 rfl (lv_at hl 2 rfl) ?_
                refine lv_iconst (v := 3) hx hb dX7_stepsFault_93 (by decide) ?_
                refine lv_icmp_ne (tgt := 101) hx hb dX7_stepsFault_94 (by decide) (fun c8 => ?_) (fun c8 => ?_)
                · rw [if_neg c8] at hf
                  exact w_101 (f_X7_stepsFault_L4 g n) ih x2 _ _ hM hS _ (lv_sub hl [1, 3] rfl) hf
                · rw [if_pos c8] at hf
                  refine lv_iconst (v := 0) hx hb dX7_stepsFault_97 (by decide) ?_
                  refine lv_goto (tgt := 103) hx hb dX7_stepsFault_98 (by decide) ?_
                  exact w_103 (f_X7_stepsFault_L4 g n) ih x2 0 _ _ hM hS _ (lv_sub hl [1, 3] rfl) hf
            · rw [if_pos c6] at hf
              refine lv_iconst (v := 2) hx hb dX7_stepsFault_82 (by decide) ?_
              refine lv_goto (tgt := 103) hx hb dX7_stepsFault_83 (by decide) ?_
              exact w_103 (f_X7_stepsFault_L4 g n) ih x2 2 _ _ hM hS _ (lv_sub hl [1, 3] rfl) hf
          · rw [if_pos c5] at hf
            refine lv_iload_n hx hb dX7_stepsFault_46 rfl (lv_at hl 0 rfl) ?_
            obtain ⟨v9, e9, hf⟩ := ob_e1 hf
            refine ob_calli (va_runS (As := [.int v3]) (rest := []) ⟨hx, hb, hml, hown, hts⟩ (c_X7_isName l dC dI ad cI cZ hI 1 (Nat.le_refl _) g v3  v9 e9) (va_cwS 1 hts gX7_stepsFault_X7_isName rfl rfl rfl hd_X7_isName (ob_R (Nat.le_trans (by decide) hd) (by decide))) (ob_preS hK hM) rfl rfl hl.1 rfl (lv_room (Nat.le_of_ble_eq_true rfl)) dX7_stepsFault_47 ⟨Nat.le_refl _, Nat.le_refl _⟩) hS (fun H locs hM hS => ?_)
            refine lv_if_eq (tgt := 69) hx hb dX7_stepsFault_50 (by decide) (fun c10 => ?_) (fun c10 => ?_)
            · rw [if_pos c10] at hf
              exact w_69 (f_X7_stepsFault_L4 g n) ih x2 _ _ hM hS _ (lv_sub hl [1, 3] rfl) hf
            · rw [if_neg c10] at hf
              refine lv_iload_n hx hb dX7_stepsFault_53 rfl (lv_at hl 0 rfl) ?_
              refine lv_aload_n hx hb dX7_stepsFault_54 rfl (lv_at hl 1 rfl) ?_
              refine ob_gr (j := 1) hx hb hts in_own hown hK hM (q := 0) shM_0 (C := RX7) (T := TX7) (N := 18) rfl 1 (by decide) hf_7 rfl dX7_stepsFault_55 ?_
              refine lv_iload_n hx hb dX7_stepsFault_58 rfl (lv_at hl 3 rfl) ?_
              refine lv_iconst (v := 2) hx hb dX7_stepsFault_59 (by decide) ?_
              refine lv_isub hx hb dX7_stepsFault_60 ?_
              obtain ⟨v11, e11, hf⟩ := ob_e1 hf
              refine ob_iald hx hb hK hM (q := 1) (n := 40) shM_1 e11 dX7_stepsFault_61 ?_
              refine lv_icmp_eq (tgt := 69) hx hb dX7_stepsFault_62 (by decide) (fun c12 => ?_) (fun c12 => ?_)
              · rw [if_pos c12] at hf
                exact w_69 (f_X7_stepsFault_L4 g n) ih x2 _ _ hM hS _ (lv_sub hl [1, 3] rfl) hf
              · rw [if_neg c12] at hf
                refine lv_iconst (v := 3) hx hb dX7_stepsFault_65 (by decide) ?_
                refine lv_goto (tgt := 71) hx hb dX7_stepsFault_66 (by decide) ?_
                exact w_71 (f_X7_stepsFault_L4 g n) ih x2 3 _ _ hM hS _ (lv_sub hl [1, 3] rfl) hf
        · rw [if_pos c4] at hf
          refine lv_iload_n hx hb dX7_stepsFault_23 rfl (lv_at hl 0 rfl) ?_
          obtain ⟨v13, e13, hf⟩ := ob_e1 hf
          refine ob_calli (va_runS (As := [.int v3]) (rest := []) ⟨hx, hb, hml, hown, hts⟩ (c_X7_isName l dC dI ad cI cZ hI 1 (Nat.le_refl _) g v3  v13 e13) (va_cwS 1 hts gX7_stepsFault_X7_isName rfl rfl rfl hd_X7_isName (ob_R (Nat.le_trans (by decide) hd) (by decide))) (ob_preS hK hM) rfl rfl hl.1 rfl (lv_room (Nat.le_of_ble_eq_true rfl)) dX7_stepsFault_24 ⟨Nat.le_refl _, Nat.le_refl _⟩) hS (fun H locs hM hS => ?_)
          refine lv_if_eq (tgt := 34) hx hb dX7_stepsFault_27 (by decide) (fun c14 => ?_) (fun c14 => ?_)
          · rw [if_pos c14] at hf
            refine lv_bipush (v := (-6)) hx hb dX7_stepsFault_34 (by decide) ?_
            exact w_36 (f_X7_stepsFault_L4 g n) ih x2 (-6) _ _ hM hS _ (lv_sub hl [1, 3] rfl) hf
          · rw [if_neg c14] at hf
            refine lv_iconst (v := 1) hx hb dX7_stepsFault_30 (by decide) ?_
            refine lv_goto (tgt := 36) hx hb dX7_stepsFault_31 (by decide) ?_
            exact w_36 (f_X7_stepsFault_L4 g n) ih x2 1 _ _ hM hS _ (lv_sub hl [1, 3] rfl) hf
  subst ha
  have hl := lv_entry ([.ref (ad 0)]) (n := 5) (Nat.le_of_ble_eq_true rfl)
  rw [lg_entry_eq]
  generalize (lg_sl ([.ref (ad 0)]) ++ List.replicate (5 - (lg_sl ([.ref (ad 0)])).length) Slot.unset).toArray = ls at hl ⊢
  have hl : lv_has ls 5 [(0, .ref (ad 0))] := hl
  have hM := hM0
  have hS := hS0
  unfold f_X7_stepsFault at hf
  refine lv_iconst (v := 0) hx hb dX7_stepsFault_0 (by decide) ?_
  refine lv_istore_n (lv' := [(1, .int 0), (0, .ref (ad 0))]) hx hb dX7_stepsFault_1 rfl hl (by decide) rfl (fun ls hl => ?_)
  refine lv_iconst (v := 0) hx hb dX7_stepsFault_2 (by decide) ?_
  refine lv_istore_n (lv' := [(2, .int 0), (1, .int 0), (0, .ref (ad 0))]) hx hb dX7_stepsFault_3 rfl hl (by decide) rfl (fun ls hl => ?_)
  exact w_4 FU 0 0 _ _ hM hS _ (lv_sub hl [2, 1, 0] rfl) hf
set_option maxHeartbeats 4000000 in
set_option maxRecDepth 100000 in
theorem c_X7_quarrelFault (l : Launch) (dC : Nat → ClassId) (dI : Nat → Nat → Nat) (ad : Nat → Nat) (cI cZ : ClassId) (hI : ob_inj shM ad) (d : Nat) (hd : 2 ≤ d) (g : Mm) (r : Int32) (hf : f_X7_quarrelFault g = some r) : ob_Mi l yX7_quarrelFault wsX7_quarrelFault d (dC, dI) vwCl shM ad cI cZ nwM [.ref (ad 0)] g r g := by
  refine ob_ofW (cc := cX7_quarrelFault) (maxL := 3) (ret := (some .int)) (by decide) rfl ?_
  intro p e s m args below meth c ha hx hb hr hml hts hown hlocks hM0 hK hS0
  have hown : s.vm.findClass RX7 = some m.cls := hown
  have in_own : ∀ w ∈ wsX70, w ∈ wsX7_quarrelFault := fun w h => (List.mem_cons_of_mem _ (List.mem_append_right _ h))
  have hf_67 := hts (.fieldLink RX7 67 "OneWorseModel" "signs" "I") (List.mem_cons_of_mem _ (List.mem_append_left _ (List.mem_of_getElem? (i := 0) rfl)))
  have hf_7 := hts (.fieldLink RX7 7 "OneWorseModel" "pad" "[I") (List.mem_cons_of_mem _ (List.mem_append_left _ (List.mem_of_getElem? (i := 1) rfl)))
  have w_71 : ∀ (k2 : Int32 → Option (Int32)) (hk2 : ∀ (x1 : Int32) (H : Heap) (locs : List Loc), va_P (dC, dI) vwCl (ob_ws shM ad cI cZ g) H → va_S (ob_A shM ad) s.heap H locs → ∀ (ls : Array Slot), lv_has ls 3 [(0, .ref (ad 0)), (1, .int x1)] → k2 x1 = some r → W p l e (rmN d) s m args below meth c H locs 0 0 (MQ below (ob_Qi (dC, dI) vwCl shM ad cI cZ r g) args s 0 0 (ob_A shM ad)) (F0 m 2 ls [])), ∀ (x1 s0 : Int32) (H : Heap) (locs : List Loc), va_P (dC, dI) vwCl (ob_ws shM ad cI cZ g) H → va_S (ob_A shM ad) s.heap H locs → ∀ (ls : Array Slot), lv_has ls 3 [(0, .ref (ad 0)), (1, .int x1)] → f_X7_quarrelFault_J71 g k2 x1 s0 = some r → W p l e (rmN d) s m args below meth c H locs 0 0 (MQ below (ob_Qi (dC, dI) vwCl shM ad cI cZ r g) args s 0 0 (ob_A shM ad)) (F0 m 71 ls [.int s0]) := by
    intro k2 hk2 x1 s0 H locs hM hS ls hl hf
    unfold f_X7_quarrelFault_J71 at hf
    refine lv_istore_n (lv' := [(2, .int s0), (0, .ref (ad 0)), (1, .int x1)]) hx hb dX7_quarrelFault_71 rfl hl (by decide) rfl (fun ls hl => ?_)
    refine lv_iload_n hx hb dX7_quarrelFault_72 rfl (lv_at hl 0 rfl) ?_
    refine lv_if_ne (tgt := 78) hx hb dX7_quarrelFault_73 (by decide) (fun c14 => ?_) (fun c14 => ?_)
    · rw [if_neg c14] at hf
      refine lv_iinc (v := (x1 + 1)) (lv' := [(1, .int (x1 + 1)), (2, .int s0), (0, .ref (ad 0))]) hx hb dX7_quarrelFault_78 hl (k := 2) rfl rfl (by decide) rfl (fun ls hl => ?_)
      refine lv_goto (tgt := 2) hx hb dX7_quarrelFault_81 (by decide) ?_
      exact hk2 (x1 + 1) _ _ hM hS _ (lv_sub hl [2, 0] rfl) hf
    · rw [if_pos c14] at hf
      refine lv_iload_n hx hb dX7_quarrelFault_76 rfl (lv_at hl 2 rfl) ?_
      exact ob_iretR hx hb hr hlocks hM hS (v := x1) rfl hf dX7_quarrelFault_77
  have w_70 : ∀ (k2 : Int32 → Option (Int32)) (hk2 : ∀ (x1 : Int32) (H : Heap) (locs : List Loc), va_P (dC, dI) vwCl (ob_ws shM ad cI cZ g) H → va_S (ob_A shM ad) s.heap H locs → ∀ (ls : Array Slot), lv_has ls 3 [(0, .ref (ad 0)), (1, .int x1)] → k2 x1 = some r → W p l e (rmN d) s m args below meth c H locs 0 0 (MQ below (ob_Qi (dC, dI) vwCl shM ad cI cZ r g) args s 0 0 (ob_A shM ad)) (F0 m 2 ls [])), ∀ (x1 : Int32) (H : Heap) (locs : List Loc), va_P (dC, dI) vwCl (ob_ws shM ad cI cZ g) H → va_S (ob_A shM ad) s.heap H locs → ∀ (ls : Array Slot), lv_has ls 3 [(0, .ref (ad 0)), (1, .int x1)] → f_X7_quarrelFault_J70 g k2 x1 = some r → W p l e (rmN d) s m args below meth c H locs 0 0 (MQ below (ob_Qi (dC, dI) vwCl shM ad cI cZ r g) args s 0 0 (ob_A shM ad)) (F0 m 70 ls []) := by
    intro k2 hk2 x1 H locs hM hS ls hl hf
    unfold f_X7_quarrelFault_J70 at hf
    refine lv_iconst (v := 0) hx hb dX7_quarrelFault_70 (by decide) ?_
    exact w_71 k2 hk2 x1 0 _ _ hM hS _ (lv_sub hl [0, 1] rfl) hf
  have w_66 : ∀ (k2 : Int32 → Option (Int32)) (hk2 : ∀ (x1 : Int32) (H : Heap) (locs : List Loc), va_P (dC, dI) vwCl (ob_ws shM ad cI cZ g) H → va_S (ob_A shM ad) s.heap H locs → ∀ (ls : Array Slot), lv_has ls 3 [(0, .ref (ad 0)), (1, .int x1)] → k2 x1 = some r → W p l e (rmN d) s m args below meth c H locs 0 0 (MQ below (ob_Qi (dC, dI) vwCl shM ad cI cZ r g) args s 0 0 (ob_A shM ad)) (F0 m 2 ls [])), ∀ (x1 : Int32) (H : Heap) (locs : List Loc), va_P (dC, dI) vwCl (ob_ws shM ad cI cZ g) H → va_S (ob_A shM ad) s.heap H locs → ∀ (ls : Array Slot), lv_has ls 3 [(0, .ref (ad 0)), (1, .int x1)] → f_X7_quarrelFault_J66 g k2 x1 = some r → W p l e (rmN d) s m args below meth c H locs 0 0 (MQ below (ob_Qi (dC, dI) vwCl shM ad cI cZ r g) args s 0 0 (ob_A shM ad)) (F0 m 66 ls []) := by
    intro k2 hk2 x1 H locs hM hS ls hl hf
    unfold f_X7_quarrelFault_J66 at hf
    refine lv_iconst (v := 1) hx hb dX7_quarrelFault_66 (by decide) ?_
    refine lv_goto (tgt := 71) hx hb dX7_quarrelFault_67 (by decide) ?_
    exact w_71 k2 hk2 x1 1 _ _ hM hS _ (lv_sub hl [0, 1] rfl) hf
  have w_2 : ∀ (k101 : Option (Int32)) (hk101 : ∀ (H : Heap) (locs : List Loc), va_P (dC, dI) vwCl (ob_ws shM ad cI cZ g) H → va_S (ob_A shM ad) s.heap H locs → ∀ (ls : Array Slot), lv_has ls 3 [(0, .ref (ad 0))] → k101 = some r → W p l e (rmN d) s m args below meth c H locs 0 0 (MQ below (ob_Qi (dC, dI) vwCl shM ad cI cZ r g) args s 0 0 (ob_A shM ad)) (F0 m 101 ls [])) (n : Nat), ∀ (x1 : Int32) (H : Heap) (locs : List Loc), va_P (dC, dI) vwCl (ob_ws shM ad cI cZ g) H → va_S (ob_A shM ad) s.heap H locs → ∀ (ls : Array Slot), lv_has ls 3 [(0, .ref (ad 0)), (1, .int x1)] → f_X7_quarrelFault_L2 g k101 n x1 = some r → W p l e (rmN d) s m args below meth c H locs 0 0 (MQ below (ob_Qi (dC, dI) vwCl shM ad cI cZ r g) args s 0 0 (ob_A shM ad)) (F0 m 2 ls []) := by
    intro k101 hk101 n
    induction n with
    | zero =>
      intro x1 H locs hM hS ls hl hf
      cases hf
    | succ n ih =>
      intro x1 H locs hM hS ls hl hf
      unfold f_X7_quarrelFault_L2 at hf
      refine lv_iload_n hx hb dX7_quarrelFault_2 rfl (lv_at hl 1 rfl) ?_
      refine lv_aload_n hx hb dX7_quarrelFault_3 rfl (lv_at hl 0 rfl) ?_
      refine ob_gi hx hb hts in_own hown hK hM (q := 0) shM_0 (C := RX7) (T := TX7) (N := 18) rfl 0 (by decide) hf_67 rfl dX7_quarrelFault_4 ?_
      refine lv_icmp_ge (tgt := 84) hx hb dX7_quarrelFault_7 (by decide) (fun c1 => ?_) (fun c1 => ?_)
      · rw [if_pos c1] at hf
        refine lv_aload_n hx hb dX7_quarrelFault_84 rfl (lv_at hl 0 rfl) ?_
        refine ob_gi hx hb hts in_own hown hK hM (q := 0) shM_0 (C := RX7) (T := TX7) (N := 18) rfl 0 (by decide) hf_67 rfl dX7_quarrelFault_85 ?_
        refine lv_if_eq (tgt := 101) hx hb dX7_quarrelFault_88 (by decide) (fun c2 => ?_) (fun c2 => ?_)
        · rw [if_pos c2] at hf
          exact hk101  _ _ hM hS _ (lv_sub hl [0] rfl) hf
        · rw [if_neg c2] at hf
          refine lv_aload_n hx hb dX7_quarrelFault_91 rfl (lv_at hl 0 rfl) ?_
          refine ob_gi hx hb hts in_own hown hK hM (q := 0) shM_0 (C := RX7) (T := TX7) (N := 18) rfl 0 (by decide) hf_67 rfl dX7_quarrelFault_92 ?_
          refine lv_iconst (v := 2) hx hb dX7_quarrelFault_95 (by decide) ?_
          refine lv_irem hx hb dX7_quarrelFault_96 (by decide) ?_
          refine lv_iconst (v := 1) hx hb dX7_quarrelFault_97 (by decide) ?_
          refine lv_icmp_ne (tgt := 108) hx hb dX7_quarrelFault_98 (by decide) (fun c3 => ?_) (fun c3 => ?_)
          · rw [if_neg c3] at hf
            refine lv_bipush (v := (-6)) hx hb dX7_quarrelFault_108 (by decide) ?_
            exact ob_iretR hx hb hr hlocks hM hS (v := (-6)) rfl hf dX7_quarrelFault_110
          · rw [if_pos c3] at hf
            exact hk101  _ _ hM hS _ (lv_sub hl [0] rfl) hf
      · rw [if_neg c1] at hf
        refine lv_iload_n hx hb dX7_quarrelFault_10 rfl (lv_at hl 1 rfl) ?_
        refine lv_iconst (v := 2) hx hb dX7_quarrelFault_11 (by decide) ?_
        refine lv_irem hx hb dX7_quarrelFault_12 (by decide) ?_
        refine lv_iconst (v := 1) hx hb dX7_quarrelFault_13 (by decide) ?_
        refine lv_icmp_ne (tgt := 29) hx hb dX7_quarrelFault_14 (by decide) (fun c4 => ?_) (fun c4 => ?_)
        · rw [if_neg c4] at hf
          refine lv_aload_n hx hb dX7_quarrelFault_29 rfl (lv_at hl 0 rfl) ?_
          refine ob_gr (j := 1) hx hb hts in_own hown hK hM (q := 0) shM_0 (C := RX7) (T := TX7) (N := 18) rfl 1 (by decide) hf_7 rfl dX7_quarrelFault_30 ?_
          refine lv_iload_n hx hb dX7_quarrelFault_33 rfl (lv_at hl 1 rfl) ?_
          obtain ⟨v5, e5, hf⟩ := ob_e1 hf
          refine ob_iald hx hb hK hM (q := 1) (n := 40) shM_1 e5 dX7_quarrelFault_34 ?_
          refine lv_bipush (v := 48) hx hb dX7_quarrelFault_35 (by decide) ?_
          refine lv_bipush (v := 52) hx hb dX7_quarrelFault_37 (by decide) ?_
          obtain ⟨v6, e6, hf⟩ := ob_e1 hf
          refine ob_calli (va_runS (As := [.int v5, .int 48, .int 52]) (rest := []) ⟨hx, hb, hml, hown, hts⟩ (c_X7_in l dC dI ad cI cZ hI 0 (Nat.le_refl _) g v5 48 52  v6 e6) (va_cwS 3 hts gX7_quarrelFault_X7_in rfl rfl rfl hd_X7_in (ob_R (Nat.le_trans (by decide) hd) (by decide))) (ob_preS hK hM) rfl rfl hl.1 rfl (lv_room (Nat.le_of_ble_eq_true rfl)) dX7_quarrelFault_39 ⟨Nat.le_refl _, Nat.le_refl _⟩) hS (fun H locs hM hS => ?_)
          refine lv_if_eq (tgt := 70) hx hb dX7_quarrelFault_42 (by decide) (fun c7 => ?_) (fun c7 => ?_)
          · rw [if_pos c7] at hf
            exact w_70 (f_X7_quarrelFault_L2 g k101 n) ih x1 _ _ hM hS _ (lv_sub hl [0, 1] rfl) hf
          · rw [if_neg c7] at hf
            refine lv_iload_n hx hb dX7_quarrelFault_45 rfl (lv_at hl 1 rfl) ?_
            refine lv_if_eq (tgt := 66) hx hb dX7_quarrelFault_46 (by decide) (fun c8 => ?_) (fun c8 => ?_)
            · rw [if_pos c8] at hf
              exact w_66 (f_X7_quarrelFault_L2 g k101 n) ih x1 _ _ hM hS _ (lv_sub hl [0, 1] rfl) hf
            · rw [if_neg c8] at hf
              refine lv_aload_n hx hb dX7_quarrelFault_49 rfl (lv_at hl 0 rfl) ?_
              refine ob_gr (j := 1) hx hb hts in_own hown hK hM (q := 0) shM_0 (C := RX7) (T := TX7) (N := 18) rfl 1 (by decide) hf_7 rfl dX7_quarrelFault_50 ?_
              refine lv_iload_n hx hb dX7_quarrelFault_53 rfl (lv_at hl 1 rfl) ?_
              obtain ⟨v9, e9, hf⟩ := ob_e1 hf
              refine ob_iald hx hb hK hM (q := 1) (n := 40) shM_1 e9 dX7_quarrelFault_54 ?_
              refine lv_aload_n hx hb dX7_quarrelFault_55 rfl (lv_at hl 0 rfl) ?_
              refine ob_gr (j := 1) hx hb hts in_own hown hK hM (q := 0) shM_0 (C := RX7) (T := TX7) (N := 18) rfl 1 (by decide) hf_7 rfl dX7_quarrelFault_56 ?_
              refine lv_iload_n hx hb dX7_quarrelFault_59 rfl (lv_at hl 1 rfl) ?_
              refine lv_iconst (v := 2) hx hb dX7_quarrelFault_60 (by decide) ?_
              refine lv_isub hx hb dX7_quarrelFault_61 ?_
              obtain ⟨v10, e10, hf⟩ := ob_e1 hf
              refine ob_iald hx hb hK hM (q := 1) (n := 40) shM_1 e10 dX7_quarrelFault_62 ?_
              refine lv_icmp_eq (tgt := 70) hx hb dX7_quarrelFault_63 (by decide) (fun c11 => ?_) (fun c11 => ?_)
              · rw [if_pos c11] at hf
                exact w_70 (f_X7_quarrelFault_L2 g k101 n) ih x1 _ _ hM hS _ (lv_sub hl [0, 1] rfl) hf
              · rw [if_neg c11] at hf
                exact w_66 (f_X7_quarrelFault_L2 g k101 n) ih x1 _ _ hM hS _ (lv_sub hl [0, 1] rfl) hf
        · rw [if_pos c4] at hf
          refine lv_aload_n hx hb dX7_quarrelFault_17 rfl (lv_at hl 0 rfl) ?_
          refine ob_gr (j := 1) hx hb hts in_own hown hK hM (q := 0) shM_0 (C := RX7) (T := TX7) (N := 18) rfl 1 (by decide) hf_7 rfl dX7_quarrelFault_18 ?_
          refine lv_iload_n hx hb dX7_quarrelFault_21 rfl (lv_at hl 1 rfl) ?_
          obtain ⟨v12, e12, hf⟩ := ob_e1 hf
          refine ob_iald hx hb hK hM (q := 1) (n := 40) shM_1 e12 dX7_quarrelFault_22 ?_
          obtain ⟨v13, e13, hf⟩ := ob_e1 hf
          refine ob_calli (va_runS (As := [.int v12]) (rest := []) ⟨hx, hb, hml, hown, hts⟩ (c_X7_isName l dC dI ad cI cZ hI 1 (Nat.le_refl _) g v12  v13 e13) (va_cwS 1 hts gX7_quarrelFault_X7_isName rfl rfl rfl hd_X7_isName (ob_R (Nat.le_trans (by decide) hd) (by decide))) (ob_preS hK hM) rfl rfl hl.1 rfl (lv_room (Nat.le_of_ble_eq_true rfl)) dX7_quarrelFault_23 ⟨Nat.le_refl _, Nat.le_refl _⟩) hS (fun H locs hM hS => ?_)
          refine lv_goto (tgt := 71) hx hb dX7_quarrelFault_26 (by decide) ?_
          exact w_71 (f_X7_quarrelFault_L2 g k101 n) ih x1 v13 _ _ hM hS _ (lv_sub hl [0, 1] rfl) hf
  have w_101 : ∀ (H : Heap) (locs : List Loc), va_P (dC, dI) vwCl (ob_ws shM ad cI cZ g) H → va_S (ob_A shM ad) s.heap H locs → ∀ (ls : Array Slot), lv_has ls 3 [(0, .ref (ad 0))] → f_X7_quarrelFault_J101 g = some r → W p l e (rmN d) s m args below meth c H locs 0 0 (MQ below (ob_Qi (dC, dI) vwCl shM ad cI cZ r g) args s 0 0 (ob_A shM ad)) (F0 m 101 ls []) := by
    intro H locs hM hS ls hl hf
    unfold f_X7_quarrelFault_J101 at hf
    refine lv_aload_n hx hb dX7_quarrelFault_101 rfl (lv_at hl 0 rfl) ?_
    refine ob_gi hx hb hts in_own hown hK hM (q := 0) shM_0 (C := RX7) (T := TX7) (N := 18) rfl 0 (by decide) hf_67 rfl dX7_quarrelFault_102 ?_
    refine lv_goto (tgt := 110) hx hb dX7_quarrelFault_105 (by decide) ?_
    exact ob_iretR hx hb hr hlocks hM hS (v := (g 0 0)) rfl hf dX7_quarrelFault_110
  subst ha
  have hl := lv_entry ([.ref (ad 0)]) (n := 3) (Nat.le_of_ble_eq_true rfl)
  rw [lg_entry_eq]
  generalize (lg_sl ([.ref (ad 0)]) ++ List.replicate (3 - (lg_sl ([.ref (ad 0)])).length) Slot.unset).toArray = ls at hl ⊢
  have hl : lv_has ls 3 [(0, .ref (ad 0))] := hl
  have hM := hM0
  have hS := hS0
  unfold f_X7_quarrelFault at hf
  refine lv_iconst (v := 0) hx hb dX7_quarrelFault_0 (by decide) ?_
  refine lv_istore_n (lv' := [(1, .int 0), (0, .ref (ad 0))]) hx hb dX7_quarrelFault_1 rfl hl (by decide) rfl (fun ls hl => ?_)
  exact w_2 (f_X7_quarrelFault_J101 g) (w_101) FU 0 _ _ hM hS _ (lv_sub hl [1, 0] rfl) hf
set_option maxHeartbeats 4000000 in
set_option maxRecDepth 100000 in
theorem c_X7_fault (l : Launch) (dC : Nat → ClassId) (dI : Nat → Nat → Nat) (ad : Nat → Nat) (cI cZ : ClassId) (hI : ob_inj shM ad) (d : Nat) (hd : 3 ≤ d) (g : Mm) (x1 : Int32) (r : Int32) (hf : f_X7_fault g x1 = some r) : ob_Mi l yX7_fault wsX7_fault d (dC, dI) vwCl shM ad cI cZ nwM [.ref (ad 0), .int x1] g r g := by
  refine ob_ofW (cc := cX7_fault) (maxL := 2) (ret := (some .int)) (by decide) rfl ?_
  intro p e s m args below meth c ha hx hb hr hml hts hown hlocks hM0 hK hS0
  have hown : s.vm.findClass RX7 = some m.cls := hown
  subst ha
  have hl := lv_entry ([.ref (ad 0), .int x1]) (n := 2) (Nat.le_of_ble_eq_true rfl)
  rw [lg_entry_eq]
  generalize (lg_sl ([.ref (ad 0), .int x1]) ++ List.replicate (2 - (lg_sl ([.ref (ad 0), .int x1])).length) Slot.unset).toArray = ls at hl ⊢
  have hl : lv_has ls 2 [(0, .ref (ad 0)), (1, .int x1)] := hl
  have hM := hM0
  have hS := hS0
  unfold f_X7_fault at hf
  refine lv_iload_n hx hb dX7_fault_0 rfl (lv_at hl 1 rfl) ?_
  refine lv_if_ne (tgt := 11) hx hb dX7_fault_1 (by decide) (fun c1 => ?_) (fun c1 => ?_)
  · rw [if_neg c1] at hf
    refine lv_iload_n hx hb dX7_fault_11 rfl (lv_at hl 1 rfl) ?_
    refine lv_iconst (v := 1) hx hb dX7_fault_12 (by decide) ?_
    refine lv_icmp_ne (tgt := 23) hx hb dX7_fault_13 (by decide) (fun c2 => ?_) (fun c2 => ?_)
    · rw [if_neg c2] at hf
      refine lv_bipush (v := (-2)) hx hb dX7_fault_23 (by decide) ?_
      exact ob_iretR hx hb hr hlocks hM hS (v := (-2)) rfl hf dX7_fault_25
    · rw [if_pos c2] at hf
      refine lv_aload_n hx hb dX7_fault_16 rfl (lv_at hl 0 rfl) ?_
      obtain ⟨v3, e3, hf⟩ := ob_e1 hf
      refine ob_calli (va_runV (As := []) (rest := []) ⟨hx, hb, hml, hown, hts⟩ (c_X7_quarrelFault l dC dI ad cI cZ hI 2 (Nat.le_refl _) g  v3 e3) (cwV 0 hts gX7_fault_X7_quarrelFault rfl rfl rfl ⟨rfl, hd_X7_quarrelFault⟩ (ob_R (Nat.le_trans (by decide) hd) (by decide))) (ob_preV hK hM (q := 0) shM_0 rfl) rfl rfl hl.1 rfl (lv_room (Nat.le_of_ble_eq_true rfl)) dX7_fault_17 ⟨Nat.le_refl _, Nat.le_refl _⟩) hS (fun H locs hM hS => ?_)
      refine lv_goto (tgt := 25) hx hb dX7_fault_20 (by decide) ?_
      exact ob_iretR hx hb hr hlocks hM hS (v := v3) rfl hf dX7_fault_25
  · rw [if_pos c1] at hf
    refine lv_aload_n hx hb dX7_fault_4 rfl (lv_at hl 0 rfl) ?_
    obtain ⟨v4, e4, hf⟩ := ob_e1 hf
    refine ob_calli (va_runV (As := []) (rest := []) ⟨hx, hb, hml, hown, hts⟩ (c_X7_stepsFault l dC dI ad cI cZ hI 2 (Nat.le_refl _) g  v4 e4) (cwV 0 hts gX7_fault_X7_stepsFault rfl rfl rfl ⟨rfl, hd_X7_stepsFault⟩ (ob_R (Nat.le_trans (by decide) hd) (by decide))) (ob_preV hK hM (q := 0) shM_0 rfl) rfl rfl hl.1 rfl (lv_room (Nat.le_of_ble_eq_true rfl)) dX7_fault_5 ⟨Nat.le_refl _, Nat.le_refl _⟩) hS (fun H locs hM hS => ?_)
    refine lv_goto (tgt := 25) hx hb dX7_fault_8 (by decide) ?_
    exact ob_iretR hx hb hr hlocks hM hS (v := v4) rfl hf dX7_fault_25
set_option maxHeartbeats 4000000 in
set_option maxRecDepth 100000 in
theorem c_X7_allSteps (l : Launch) (dC : Nat → ClassId) (dI : Nat → Nat → Nat) (ad : Nat → Nat) (cI cZ : ClassId) (hI : ob_inj shM ad) (d : Nat) (hd : 1 ≤ d) (g : Mm) (r : Int32) (hf : f_X7_allSteps g = some r) : ob_Mi l yX7_allSteps wsX7_allSteps d (dC, dI) vwCl shM ad cI cZ nwM [.ref (ad 0)] g r g := by
  refine ob_ofW (cc := cX7_allSteps) (maxL := 3) (ret := (some .int)) (by decide) rfl ?_
  intro p e s m args below meth c ha hx hb hr hml hts hown hlocks hM0 hK hS0
  have hown : s.vm.findClass RX7 = some m.cls := hown
  have in_own : ∀ w ∈ wsX70, w ∈ wsX7_allSteps := fun w h => (List.mem_cons_of_mem _ (List.mem_append_right _ h))
  have hf_13 := hts (.fieldLink RX7 13 "OneWorseModel" "book" "[I") (List.mem_cons_of_mem _ (List.mem_append_left _ (List.mem_of_getElem? (i := 0) rfl)))
  have w_4 : ∀ (n : Nat), ∀ (x1 x2 : Int32) (H : Heap) (locs : List Loc), va_P (dC, dI) vwCl (ob_ws shM ad cI cZ g) H → va_S (ob_A shM ad) s.heap H locs → ∀ (ls : Array Slot), lv_has ls 3 [(0, .ref (ad 0)), (1, .int x1), (2, .int x2)] → f_X7_allSteps_L4 g n x1 x2 = some r → W p l e (rmN d) s m args below meth c H locs 0 0 (MQ below (ob_Qi (dC, dI) vwCl shM ad cI cZ r g) args s 0 0 (ob_A shM ad)) (F0 m 4 ls []) := by
    intro n
    induction n with
    | zero =>
      intro x1 x2 H locs hM hS ls hl hf
      cases hf
    | succ n ih =>
      intro x1 x2 H locs hM hS ls hl hf
      unfold f_X7_allSteps_L4 at hf
      refine lv_iload_n hx hb dX7_allSteps_4 rfl (lv_at hl 2 rfl) ?_
      refine lv_bipush (v := 10) hx hb dX7_allSteps_5 (by decide) ?_
      refine lv_icmp_ge (tgt := 28) hx hb dX7_allSteps_7 (by decide) (fun c1 => ?_) (fun c1 => ?_)
      · rw [if_pos c1] at hf
        refine lv_iload_n hx hb dX7_allSteps_28 rfl (lv_at hl 1 rfl) ?_
        exact ob_iretR hx hb hr hlocks hM hS (v := x1) rfl hf dX7_allSteps_29
      · rw [if_neg c1] at hf
        refine lv_iload_n hx hb dX7_allSteps_10 rfl (lv_at hl 1 rfl) ?_
        refine lv_aload_n hx hb dX7_allSteps_11 rfl (lv_at hl 0 rfl) ?_
        refine ob_gr (j := 2) hx hb hts in_own hown hK hM (q := 0) shM_0 (C := RX7) (T := TX7) (N := 18) rfl 2 (by decide) hf_13 rfl dX7_allSteps_12 ?_
        refine lv_iload_n hx hb dX7_allSteps_15 rfl (lv_at hl 2 rfl) ?_
        obtain ⟨v2, e2, hf⟩ := ob_e1 hf
        refine ob_iald hx hb hK hM (q := 2) (n := 10) shM_2 e2 dX7_allSteps_16 ?_
        obtain ⟨v3, e3, hf⟩ := ob_e1 hf
        refine ob_calli (va_runS (As := [.int v2]) (rest := [.int x1]) ⟨hx, hb, hml, hown, hts⟩ (c_X7_bits l dC dI ad cI cZ hI 0 (Nat.le_refl _) g v2  v3 e3) (va_cwS 1 hts gX7_allSteps_X7_bits rfl rfl rfl hd_X7_bits (ob_R (Nat.le_trans (by decide) hd) (by decide))) (ob_preS hK hM) rfl rfl hl.1 rfl (lv_room (Nat.le_of_ble_eq_true rfl)) dX7_allSteps_17 ⟨Nat.le_refl _, Nat.le_refl _⟩) hS (fun H locs hM hS => ?_)
        refine lv_iadd hx hb dX7_allSteps_20 ?_
        refine lv_istore_n (lv' := [(1, .int (x1 + v3)), (0, .ref (ad 0)), (2, .int x2)]) hx hb dX7_allSteps_21 rfl hl (by decide) rfl (fun ls hl => ?_)
        refine lv_iinc (v := (x2 + 1)) (lv' := [(2, .int (x2 + 1)), (1, .int (x1 + v3)), (0, .ref (ad 0))]) hx hb dX7_allSteps_22 hl (k := 2) rfl rfl (by decide) rfl (fun ls hl => ?_)
        refine lv_goto (tgt := 4) hx hb dX7_allSteps_25 (by decide) ?_
        exact ih (x1 + v3) (x2 + 1) _ _ hM hS _ (lv_sub hl [2, 1, 0] rfl) hf
  subst ha
  have hl := lv_entry ([.ref (ad 0)]) (n := 3) (Nat.le_of_ble_eq_true rfl)
  rw [lg_entry_eq]
  generalize (lg_sl ([.ref (ad 0)]) ++ List.replicate (3 - (lg_sl ([.ref (ad 0)])).length) Slot.unset).toArray = ls at hl ⊢
  have hl : lv_has ls 3 [(0, .ref (ad 0))] := hl
  have hM := hM0
  have hS := hS0
  unfold f_X7_allSteps at hf
  refine lv_iconst (v := 0) hx hb dX7_allSteps_0 (by decide) ?_
  refine lv_istore_n (lv' := [(1, .int 0), (0, .ref (ad 0))]) hx hb dX7_allSteps_1 rfl hl (by decide) rfl (fun ls hl => ?_)
  refine lv_iconst (v := 0) hx hb dX7_allSteps_2 (by decide) ?_
  refine lv_istore_n (lv' := [(2, .int 0), (1, .int 0), (0, .ref (ad 0))]) hx hb dX7_allSteps_3 rfl hl (by decide) rfl (fun ls hl => ?_)
  exact w_4 FU 0 0 _ _ hM hS _ (lv_sub hl [2, 1, 0] rfl) hf
set_option maxHeartbeats 4000000 in
set_option maxRecDepth 100000 in
theorem c_X7_steps (l : Launch) (dC : Nat → ClassId) (dI : Nat → Nat → Nat) (ad : Nat → Nat) (cI cZ : ClassId) (hI : ob_inj shM ad) (d : Nat) (hd : 3 ≤ d) (g : Mm) (r : Int32) (t : Mm) (hf : f_X7_steps g = some (r, t)) : ob_Mi l yX7_steps wsX7_steps d (dC, dI) vwCl shM ad cI cZ nwM [.ref (ad 0)] g r t := by
  refine ob_ofW (cc := cX7_steps) (maxL := 2) (ret := (some .int)) (by decide) rfl ?_
  intro p e s m args below meth c ha hx hb hr hml hts hown hlocks hM0 hK hS0
  have hown : s.vm.findClass RX7 = some m.cls := hown
  have in_own : ∀ w ∈ wsX70, w ∈ wsX7_steps := fun w h => (List.mem_cons_of_mem _ (List.mem_append_right _ h))
  have hf_67 := hts (.fieldLink RX7 67 "OneWorseModel" "signs" "I") (List.mem_cons_of_mem _ (List.mem_append_left _ (List.mem_of_getElem? (i := 0) rfl)))
  have hf_7 := hts (.fieldLink RX7 7 "OneWorseModel" "pad" "[I") (List.mem_cons_of_mem _ (List.mem_append_left _ (List.mem_of_getElem? (i := 1) rfl)))
  have hf_13 := hts (.fieldLink RX7 13 "OneWorseModel" "book" "[I") (List.mem_cons_of_mem _ (List.mem_append_left _ (List.mem_of_getElem? (i := 2) rfl)))
  have w_63 : ∀ (k12 : Mm → Int32 → Option (Int32 × Mm)) (hk12 : ∀ (g : Mm) (x1 : Int32) (H : Heap) (locs : List Loc), va_P (dC, dI) vwCl (ob_ws shM ad cI cZ g) H → va_S (ob_A shM ad) s.heap H locs → ∀ (ls : Array Slot), lv_has ls 2 [(0, .ref (ad 0)), (1, .int x1)] → k12 g x1 = some (r, t) → W p l e (rmN d) s m args below meth c H locs 0 0 (MQ below (ob_Qi (dC, dI) vwCl shM ad cI cZ r t) args s 0 0 (ob_A shM ad)) (F0 m 12 ls [])), ∀ (g : Mm) (x1 : Int32) (H : Heap) (locs : List Loc), va_P (dC, dI) vwCl (ob_ws shM ad cI cZ g) H → va_S (ob_A shM ad) s.heap H locs → ∀ (ls : Array Slot), lv_has ls 2 [(0, .ref (ad 0)), (1, .int x1)] → f_X7_steps_J63 k12 g x1 = some (r, t) → W p l e (rmN d) s m args below meth c H locs 0 0 (MQ below (ob_Qi (dC, dI) vwCl shM ad cI cZ r t) args s 0 0 (ob_A shM ad)) (F0 m 63 ls []) := by
    intro k12 hk12 g x1 H locs hM hS ls hl hf
    unfold f_X7_steps_J63 at hf
    refine lv_iinc (v := (x1 + 2)) (lv' := [(1, .int (x1 + 2)), (0, .ref (ad 0))]) hx hb dX7_steps_63 hl (k := 1) rfl rfl (by decide) rfl (fun ls hl => ?_)
    refine lv_goto (tgt := 12) hx hb dX7_steps_66 (by decide) ?_
    exact hk12 g (x1 + 2) _ _ hM hS _ (lv_sub hl [1, 0] rfl) hf
  have w_12 : ∀ (n : Nat), ∀ (g : Mm) (x1 : Int32) (H : Heap) (locs : List Loc), va_P (dC, dI) vwCl (ob_ws shM ad cI cZ g) H → va_S (ob_A shM ad) s.heap H locs → ∀ (ls : Array Slot), lv_has ls 2 [(0, .ref (ad 0)), (1, .int x1)] → f_X7_steps_L12 n g x1 = some (r, t) → W p l e (rmN d) s m args below meth c H locs 0 0 (MQ below (ob_Qi (dC, dI) vwCl shM ad cI cZ r t) args s 0 0 (ob_A shM ad)) (F0 m 12 ls []) := by
    intro n
    induction n with
    | zero =>
      intro g x1 H locs hM hS ls hl hf
      cases hf
    | succ n ih =>
      intro g x1 H locs hM hS ls hl hf
      unfold f_X7_steps_L12 at hf
      refine lv_iload_n hx hb dX7_steps_12 rfl (lv_at hl 1 rfl) ?_
      refine lv_aload_n hx hb dX7_steps_13 rfl (lv_at hl 0 rfl) ?_
      refine ob_gi hx hb hts in_own hown hK hM (q := 0) shM_0 (C := RX7) (T := TX7) (N := 18) rfl 0 (by decide) hf_67 rfl dX7_steps_14 ?_
      refine lv_icmp_ge (tgt := 69) hx hb dX7_steps_17 (by decide) (fun c3 => ?_) (fun c3 => ?_)
      · rw [if_pos c3] at hf
        refine lv_aload_n hx hb dX7_steps_69 rfl (lv_at hl 0 rfl) ?_
        refine lv_iconst (v := 0) hx hb dX7_steps_70 (by decide) ?_
        refine ob_pi hx hb hts in_own tyX7 tyX7_ok nmX7 hown hK hM hI hS (q := 0) shM_0 (C := RX7) (T := TX7) (N := 18) rfl 0 (by decide) hf_67 rfl rfl (ty := .int) (v := 0) (tyX7_ok 0 (by decide)) rfl rfl dX7_steps_71 (fun H locs hM hS => ?_)
        refine lv_aload_n hx hb dX7_steps_74 rfl (lv_at hl 0 rfl) ?_
        obtain ⟨v4, e4, hf⟩ := ob_e1 hf
        refine ob_calli (va_runV (As := []) (rest := []) ⟨hx, hb, hml, hown, hts⟩ (c_X7_allSteps l dC dI ad cI cZ hI 1 (Nat.le_refl _) (ob_up g 0 0 0)  v4 e4) (cwV 0 hts gX7_steps_X7_allSteps rfl rfl rfl ⟨rfl, hd_X7_allSteps⟩ (ob_R (Nat.le_trans (by decide) hd) (by decide))) (ob_preV hK hM (q := 0) shM_0 rfl) rfl rfl hl.1 rfl (lv_room (Nat.le_of_ble_eq_true rfl)) dX7_steps_75 ⟨Nat.le_refl _, Nat.le_refl _⟩) hS (fun H locs hM hS => ?_)
        exact ob_iret hx hb hr hlocks hM hS (v := v4) rfl hf dX7_steps_78
      · rw [if_neg c3] at hf
        refine lv_aload_n hx hb dX7_steps_20 rfl (lv_at hl 0 rfl) ?_
        refine ob_gr (j := 1) hx hb hts in_own hown hK hM (q := 0) shM_0 (C := RX7) (T := TX7) (N := 18) rfl 1 (by decide) hf_7 rfl dX7_steps_21 ?_
        refine lv_iload_n hx hb dX7_steps_24 rfl (lv_at hl 1 rfl) ?_
        obtain ⟨v5, e5, hf⟩ := ob_e1 hf
        refine ob_iald hx hb hK hM (q := 1) (n := 40) shM_1 e5 dX7_steps_25 ?_
        refine lv_bipush (v := 62) hx hb dX7_steps_26 (by decide) ?_
        refine lv_icmp_ne (tgt := 63) hx hb dX7_steps_28 (by decide) (fun c6 => ?_) (fun c6 => ?_)
        · rw [if_neg c6] at hf
          exact w_63 (f_X7_steps_L12 n) ih g x1 _ _ hM hS _ (lv_sub hl [0, 1] rfl) hf
        · rw [if_pos c6] at hf
          refine lv_aload_n hx hb dX7_steps_31 rfl (lv_at hl 0 rfl) ?_
          refine ob_gr (j := 2) hx hb hts in_own hown hK hM (q := 0) shM_0 (C := RX7) (T := TX7) (N := 18) rfl 2 (by decide) hf_13 rfl dX7_steps_32 ?_
          refine lv_aload_n hx hb dX7_steps_35 rfl (lv_at hl 0 rfl) ?_
          refine ob_gr (j := 1) hx hb hts in_own hown hK hM (q := 0) shM_0 (C := RX7) (T := TX7) (N := 18) rfl 1 (by decide) hf_7 rfl dX7_steps_36 ?_
          refine lv_iload_n hx hb dX7_steps_39 rfl (lv_at hl 1 rfl) ?_
          refine lv_iconst (v := 1) hx hb dX7_steps_40 (by decide) ?_
          refine lv_isub hx hb dX7_steps_41 ?_
          obtain ⟨v7, e7, hf⟩ := ob_e1 hf
          refine ob_iald hx hb hK hM (q := 1) (n := 40) shM_1 e7 dX7_steps_42 ?_
          refine lv_bipush (v := 97) hx hb dX7_steps_43 (by decide) ?_
          refine lv_isub hx hb dX7_steps_45 ?_
          refine lv_dup2_11 hx hb dX7_steps_46 rfl rfl ?_
          obtain ⟨v8, e8, hf⟩ := ob_e1 hf
          refine ob_iald hx hb hK hM (q := 2) (n := 10) shM_2 e8 dX7_steps_47 ?_
          refine lv_iconst (v := 1) hx hb dX7_steps_48 (by decide) ?_
          refine lv_aload_n hx hb dX7_steps_49 rfl (lv_at hl 0 rfl) ?_
          refine ob_gr (j := 1) hx hb hts in_own hown hK hM (q := 0) shM_0 (C := RX7) (T := TX7) (N := 18) rfl 1 (by decide) hf_7 rfl dX7_steps_50 ?_
          refine lv_iload_n hx hb dX7_steps_53 rfl (lv_at hl 1 rfl) ?_
          refine lv_iconst (v := 1) hx hb dX7_steps_54 (by decide) ?_
          refine lv_iadd hx hb dX7_steps_55 ?_
          obtain ⟨v9, e9, hf⟩ := ob_e1 hf
          refine ob_iald hx hb hK hM (q := 1) (n := 40) shM_1 e9 dX7_steps_56 ?_
          refine lv_bipush (v := 97) hx hb dX7_steps_57 (by decide) ?_
          refine lv_isub hx hb dX7_steps_59 ?_
          refine lv_ishl hx hb dX7_steps_60 ?_
          refine lv_ior hx hb dX7_steps_61 ?_
          obtain ⟨g10, e10, hf⟩ := ob_e1 hf
          refine ob_iast hx hb hK hM hI hS (q := 2) (n := 10) shM_2 e10 dX7_steps_62 (fun H locs hM hS => ?_)
          exact w_63 (f_X7_steps_L12 n) ih g10 x1 _ _ hM hS _ (lv_sub hl [0, 1] rfl) hf
  subst ha
  have hl := lv_entry ([.ref (ad 0)]) (n := 2) (Nat.le_of_ble_eq_true rfl)
  rw [lg_entry_eq]
  generalize (lg_sl ([.ref (ad 0)]) ++ List.replicate (2 - (lg_sl ([.ref (ad 0)])).length) Slot.unset).toArray = ls at hl ⊢
  have hl : lv_has ls 2 [(0, .ref (ad 0))] := hl
  have hM := hM0
  have hS := hS0
  unfold f_X7_steps at hf
  refine lv_aload_n hx hb dX7_steps_0 rfl (lv_at hl 0 rfl) ?_
  obtain ⟨v1, e1, hf⟩ := ob_e1 hf
  refine ob_calli (va_runV (As := []) (rest := []) ⟨hx, hb, hml, hown, hts⟩ (c_X7_stepsFault l dC dI ad cI cZ hI 2 (Nat.le_refl _) g  v1 e1) (cwV 0 hts gX7_steps_X7_stepsFault rfl rfl rfl ⟨rfl, hd_X7_stepsFault⟩ (ob_R (Nat.le_trans (by decide) hd) (by decide))) (ob_preV hK hM (q := 0) shM_0 rfl) rfl rfl hl.1 rfl (lv_room (Nat.le_of_ble_eq_true rfl)) dX7_steps_1 ⟨Nat.le_refl _, Nat.le_refl _⟩) hS (fun H locs hM hS => ?_)
  refine lv_if_lt (tgt := 10) hx hb dX7_steps_4 (by decide) (fun c2 => ?_) (fun c2 => ?_)
  · rw [if_pos c2] at hf
    refine lv_iconst (v := 1) hx hb dX7_steps_10 (by decide) ?_
    refine lv_istore_n (lv' := [(1, .int 1), (0, .ref (ad 0))]) hx hb dX7_steps_11 rfl hl (by decide) rfl (fun ls hl => ?_)
    exact w_12 FU g 1 _ _ hM hS _ (lv_sub hl [1, 0] rfl) hf
  · rw [if_neg c2] at hf
    refine lv_bipush (v := (-5)) hx hb dX7_steps_7 (by decide) ?_
    exact ob_iret hx hb hr hlocks hM hS (v := (-5)) rfl hf dX7_steps_9
set_option maxHeartbeats 4000000 in
set_option maxRecDepth 100000 in
theorem c_X7_step (l : Launch) (dC : Nat → ClassId) (dI : Nat → Nat → Nat) (ad : Nat → Nat) (cI cZ : ClassId) (hI : ob_inj shM ad) (d : Nat) (hd : 2 ≤ d) (g : Mm) (x1 x2 x3 : Int32) (r : Int32) (t : Mm) (hf : f_X7_step g x1 x2 x3 = some (r, t)) : ob_Mi l yX7_step wsX7_step d (dC, dI) vwCl shM ad cI cZ nwM [.ref (ad 0), .int x1, .int x2, .int x3] g r t := by
  refine ob_ofW (cc := cX7_step) (maxL := 5) (ret := (some .int)) (by decide) rfl ?_
  intro p e s m args below meth c ha hx hb hr hml hts hown hlocks hM0 hK hS0
  have hown : s.vm.findClass RX7 = some m.cls := hown
  have in_own : ∀ w ∈ wsX70, w ∈ wsX7_step := fun w h => (List.mem_cons_of_mem _ (List.mem_append_right _ h))
  have hf_13 := hts (.fieldLink RX7 13 "OneWorseModel" "book" "[I") (List.mem_cons_of_mem _ (List.mem_append_left _ (List.mem_of_getElem? (i := 0) rfl)))
  have w_67 : ∀ (g : Mm) (x4 s0 s1 : Int32) (H : Heap) (locs : List Loc), va_P (dC, dI) vwCl (ob_ws shM ad cI cZ g) H → va_S (ob_A shM ad) s.heap H locs → ∀ (ls : Array Slot), lv_has ls 5 [(4, .int x4)] → f_X7_step_J67 g x4 s0 s1 = some (r, t) → W p l e (rmN d) s m args below meth c H locs 0 0 (MQ below (ob_Qi (dC, dI) vwCl shM ad cI cZ r t) args s 0 0 (ob_A shM ad)) (F0 m 67 ls [.int s0, .int s1, .ref (ad 2)]) := by
    intro g x4 s0 s1 H locs hM hS ls hl hf
    unfold f_X7_step_J67 at hf
    obtain ⟨g10, e10, hf⟩ := ob_e1 hf
    refine ob_iast hx hb hK hM hI hS (q := 2) (n := 10) shM_2 e10 dX7_step_67 (fun H locs hM hS => ?_)
    refine lv_iload hx hb dX7_step_68 (lv_at hl 0 rfl) ?_
    exact ob_iret hx hb hr hlocks hM hS (v := x4) rfl hf dX7_step_70
  subst ha
  have hl := lv_entry ([.ref (ad 0), .int x1, .int x2, .int x3]) (n := 5) (Nat.le_of_ble_eq_true rfl)
  rw [lg_entry_eq]
  generalize (lg_sl ([.ref (ad 0), .int x1, .int x2, .int x3]) ++ List.replicate (5 - (lg_sl ([.ref (ad 0), .int x1, .int x2, .int x3])).length) Slot.unset).toArray = ls at hl ⊢
  have hl : lv_has ls 5 [(0, .ref (ad 0)), (1, .int x1), (2, .int x2), (3, .int x3)] := hl
  have hM := hM0
  have hS := hS0
  unfold f_X7_step at hf
  refine lv_iload_n hx hb dX7_step_0 rfl (lv_at hl 1 rfl) ?_
  obtain ⟨v1, e1, hf⟩ := ob_e1 hf
  refine ob_calli (va_runS (As := [.int x1]) (rest := []) ⟨hx, hb, hml, hown, hts⟩ (c_X7_isInsult l dC dI ad cI cZ hI 1 (Nat.le_refl _) g x1  v1 e1) (va_cwS 1 hts gX7_step_X7_isInsult rfl rfl rfl hd_X7_isInsult (ob_R (Nat.le_trans (by decide) hd) (by decide))) (ob_preS hK hM) rfl rfl hl.1 rfl (lv_room (Nat.le_of_ble_eq_true rfl)) dX7_step_1 ⟨Nat.le_refl _, Nat.le_refl _⟩) hS (fun H locs hM hS => ?_)
  refine lv_if_eq (tgt := 19) hx hb dX7_step_4 (by decide) (fun c2 => ?_) (fun c2 => ?_)
  · rw [if_pos c2] at hf
    refine lv_iconst (v := (-1)) hx hb dX7_step_19 (by decide) ?_
    exact ob_iret hx hb hr hlocks hM hS (v := (-1)) rfl hf dX7_step_20
  · rw [if_neg c2] at hf
    refine lv_iload_n hx hb dX7_step_7 rfl (lv_at hl 2 rfl) ?_
    obtain ⟨v3, e3, hf⟩ := ob_e1 hf
    refine ob_calli (va_runS (As := [.int x2]) (rest := []) ⟨hx, hb, hml, hown, hts⟩ (c_X7_isInsult l dC dI ad cI cZ hI 1 (Nat.le_refl _) g x2  v3 e3) (va_cwS 1 hts gX7_step_X7_isInsult rfl rfl rfl hd_X7_isInsult (ob_R (Nat.le_trans (by decide) hd) (by decide))) (ob_preS hK hM) rfl rfl hl.1 rfl (lv_room (Nat.le_of_ble_eq_true rfl)) dX7_step_8 ⟨Nat.le_refl _, Nat.le_refl _⟩) hS (fun H locs hM hS => ?_)
    refine lv_if_eq (tgt := 19) hx hb dX7_step_11 (by decide) (fun c4 => ?_) (fun c4 => ?_)
    · rw [if_pos c4] at hf
      refine lv_iconst (v := (-1)) hx hb dX7_step_19 (by decide) ?_
      exact ob_iret hx hb hr hlocks hM hS (v := (-1)) rfl hf dX7_step_20
    · rw [if_neg c4] at hf
      refine lv_iload_n hx hb dX7_step_14 rfl (lv_at hl 1 rfl) ?_
      refine lv_iload_n hx hb dX7_step_15 rfl (lv_at hl 2 rfl) ?_
      refine lv_icmp_ne (tgt := 21) hx hb dX7_step_16 (by decide) (fun c5 => ?_) (fun c5 => ?_)
      · rw [if_neg c5] at hf
        refine lv_aload_n hx hb dX7_step_21 rfl (lv_at hl 0 rfl) ?_
        refine ob_gr (j := 2) hx hb hts in_own hown hK hM (q := 0) shM_0 (C := RX7) (T := TX7) (N := 18) rfl 2 (by decide) hf_13 rfl dX7_step_22 ?_
        refine lv_iload_n hx hb dX7_step_25 rfl (lv_at hl 1 rfl) ?_
        obtain ⟨v6, e6, hf⟩ := ob_e1 hf
        refine ob_iald hx hb hK hM (q := 2) (n := 10) shM_2 e6 dX7_step_26 ?_
        refine lv_iload_n hx hb dX7_step_27 rfl (lv_at hl 2 rfl) ?_
        refine lv_ishr hx hb dX7_step_28 ?_
        refine lv_iconst (v := 1) hx hb dX7_step_29 (by decide) ?_
        refine lv_iand hx hb dX7_step_30 ?_
        refine lv_istore (lv' := [(4, .int ((v6 >>> (x2 &&& 31)) &&& 1)), (0, .ref (ad 0)), (1, .int x1), (2, .int x2), (3, .int x3)]) hx hb dX7_step_31 hl (by decide) rfl (fun ls hl => ?_)
        refine lv_aload_n hx hb dX7_step_33 rfl (lv_at hl 1 rfl) ?_
        refine ob_gr (j := 2) hx hb hts in_own hown hK hM (q := 0) shM_0 (C := RX7) (T := TX7) (N := 18) rfl 2 (by decide) hf_13 rfl dX7_step_34 ?_
        refine lv_iload_n hx hb dX7_step_37 rfl (lv_at hl 2 rfl) ?_
        refine lv_iload_n hx hb dX7_step_38 rfl (lv_at hl 4 rfl) ?_
        refine lv_if_eq (tgt := 55) hx hb dX7_step_39 (by decide) (fun c7 => ?_) (fun c7 => ?_)
        · rw [if_pos c7] at hf
          refine lv_aload_n hx hb dX7_step_55 rfl (lv_at hl 1 rfl) ?_
          refine ob_gr (j := 2) hx hb hts in_own hown hK hM (q := 0) shM_0 (C := RX7) (T := TX7) (N := 18) rfl 2 (by decide) hf_13 rfl dX7_step_56 ?_
          refine lv_iload_n hx hb dX7_step_59 rfl (lv_at hl 2 rfl) ?_
          obtain ⟨v8, e8, hf⟩ := ob_e1 hf
          refine ob_iald hx hb hK hM (q := 2) (n := 10) shM_2 e8 dX7_step_60 ?_
          refine lv_iconst (v := 1) hx hb dX7_step_61 (by decide) ?_
          refine lv_iload_n hx hb dX7_step_62 rfl (lv_at hl 3 rfl) ?_
          refine lv_ishl hx hb dX7_step_63 ?_
          refine lv_iconst (v := (-1)) hx hb dX7_step_64 (by decide) ?_
          refine lv_ixor hx hb dX7_step_65 ?_
          refine lv_iand hx hb dX7_step_66 ?_
          exact w_67 g ((v6 >>> (x2 &&& 31)) &&& 1) (v8 &&& (((1 : Int32) <<< (x2 &&& 31)) ^^^ (-1))) x1 _ _ hM hS _ (lv_sub hl [0] rfl) hf
        · rw [if_neg c7] at hf
          refine lv_aload_n hx hb dX7_step_42 rfl (lv_at hl 1 rfl) ?_
          refine ob_gr (j := 2) hx hb hts in_own hown hK hM (q := 0) shM_0 (C := RX7) (T := TX7) (N := 18) rfl 2 (by decide) hf_13 rfl dX7_step_43 ?_
          refine lv_iload_n hx hb dX7_step_46 rfl (lv_at hl 2 rfl) ?_
          obtain ⟨v9, e9, hf⟩ := ob_e1 hf
          refine ob_iald hx hb hK hM (q := 2) (n := 10) shM_2 e9 dX7_step_47 ?_
          refine lv_iconst (v := 1) hx hb dX7_step_48 (by decide) ?_
          refine lv_iload_n hx hb dX7_step_49 rfl (lv_at hl 3 rfl) ?_
          refine lv_ishl hx hb dX7_step_50 ?_
          refine lv_ior hx hb dX7_step_51 ?_
          refine lv_goto (tgt := 67) hx hb dX7_step_52 (by decide) ?_
          exact w_67 g ((v6 >>> (x2 &&& 31)) &&& 1) (v9 ||| ((1 : Int32) <<< (x2 &&& 31))) x1 _ _ hM hS _ (lv_sub hl [0] rfl) hf
      · rw [if_pos c5] at hf
        refine lv_iconst (v := (-1)) hx hb dX7_step_19 (by decide) ?_
        exact ob_iret hx hb hr hlocks hM hS (v := (-1)) rfl hf dX7_step_20
set_option maxHeartbeats 4000000 in
set_option maxRecDepth 100000 in
theorem c_X7_needs (l : Launch) (dC : Nat → ClassId) (dI : Nat → Nat → Nat) (ad : Nat → Nat) (cI cZ : ClassId) (hI : ob_inj shM ad) (d : Nat) (hd : 2 ≤ d) (g : Mm) (x1 x2 : Int32) (r : Int32) (t : Mm) (hf : f_X7_needs g x1 x2 = some (r, t)) : ob_Mi l yX7_needs wsX7_needs d (dC, dI) vwCl shM ad cI cZ nwM [.ref (ad 0), .int x1, .int x2] g r t := by
  refine ob_ofW (cc := cX7_needs) (maxL := 4) (ret := (some .int)) (by decide) rfl ?_
  intro p e s m args below meth c ha hx hb hr hml hts hown hlocks hM0 hK hS0
  have hown : s.vm.findClass RX7 = some m.cls := hown
  have in_own : ∀ w ∈ wsX70, w ∈ wsX7_needs := fun w h => (List.mem_cons_of_mem _ (List.mem_append_right _ h))
  have hf_16 := hts (.fieldLink RX7 16 "OneWorseModel" "need" "[I") (List.mem_cons_of_mem _ (List.mem_append_left _ (List.mem_of_getElem? (i := 0) rfl)))
  subst ha
  have hl := lv_entry ([.ref (ad 0), .int x1, .int x2]) (n := 4) (Nat.le_of_ble_eq_true rfl)
  rw [lg_entry_eq]
  generalize (lg_sl ([.ref (ad 0), .int x1, .int x2]) ++ List.replicate (4 - (lg_sl ([.ref (ad 0), .int x1, .int x2])).length) Slot.unset).toArray = ls at hl ⊢
  have hl : lv_has ls 4 [(0, .ref (ad 0)), (1, .int x1), (2, .int x2)] := hl
  have hM := hM0
  have hS := hS0
  unfold f_X7_needs at hf
  refine lv_iload_n hx hb dX7_needs_0 rfl (lv_at hl 1 rfl) ?_
  obtain ⟨v1, e1, hf⟩ := ob_e1 hf
  refine ob_calli (va_runS (As := [.int x1]) (rest := []) ⟨hx, hb, hml, hown, hts⟩ (c_X7_isInsult l dC dI ad cI cZ hI 1 (Nat.le_refl _) g x1  v1 e1) (va_cwS 1 hts gX7_needs_X7_isInsult rfl rfl rfl hd_X7_isInsult (ob_R (Nat.le_trans (by decide) hd) (by decide))) (ob_preS hK hM) rfl rfl hl.1 rfl (lv_room (Nat.le_of_ble_eq_true rfl)) dX7_needs_1 ⟨Nat.le_refl _, Nat.le_refl _⟩) hS (fun H locs hM hS => ?_)
  refine lv_if_ne (tgt := 9) hx hb dX7_needs_4 (by decide) (fun c2 => ?_) (fun c2 => ?_)
  · rw [if_neg c2] at hf
    refine lv_iload_n hx hb dX7_needs_9 rfl (lv_at hl 2 rfl) ?_
    refine lv_iconst (v := 0) hx hb dX7_needs_10 (by decide) ?_
    refine lv_bipush (v := 63) hx hb dX7_needs_11 (by decide) ?_
    obtain ⟨v3, e3, hf⟩ := ob_e1 hf
    refine ob_calli (va_runS (As := [.int x2, .int 0, .int 63]) (rest := []) ⟨hx, hb, hml, hown, hts⟩ (c_X7_in l dC dI ad cI cZ hI 0 (Nat.le_refl _) g x2 0 63  v3 e3) (va_cwS 3 hts gX7_needs_X7_in rfl rfl rfl hd_X7_in (ob_R (Nat.le_trans (by decide) hd) (by decide))) (ob_preS hK hM) rfl rfl hl.1 rfl (lv_room (Nat.le_of_ble_eq_true rfl)) dX7_needs_13 ⟨Nat.le_refl _, Nat.le_refl _⟩) hS (fun H locs hM hS => ?_)
    refine lv_if_ne (tgt := 22) hx hb dX7_needs_16 (by decide) (fun c4 => ?_) (fun c4 => ?_)
    · rw [if_neg c4] at hf
      refine lv_aload_n hx hb dX7_needs_22 rfl (lv_at hl 0 rfl) ?_
      refine ob_gr (j := 3) hx hb hts in_own hown hK hM (q := 0) shM_0 (C := RX7) (T := TX7) (N := 18) rfl 3 (by decide) hf_16 rfl dX7_needs_23 ?_
      refine lv_iload_n hx hb dX7_needs_26 rfl (lv_at hl 1 rfl) ?_
      obtain ⟨v5, e5, hf⟩ := ob_e1 hf
      refine ob_iald hx hb hK hM (q := 3) (n := 10) shM_3 e5 dX7_needs_27 ?_
      refine lv_istore_n (lv' := [(3, .int v5), (0, .ref (ad 0)), (1, .int x1), (2, .int x2)]) hx hb dX7_needs_28 rfl hl (by decide) rfl (fun ls hl => ?_)
      refine lv_aload_n hx hb dX7_needs_29 rfl (lv_at hl 1 rfl) ?_
      refine ob_gr (j := 3) hx hb hts in_own hown hK hM (q := 0) shM_0 (C := RX7) (T := TX7) (N := 18) rfl 3 (by decide) hf_16 rfl dX7_needs_30 ?_
      refine lv_iload_n hx hb dX7_needs_33 rfl (lv_at hl 2 rfl) ?_
      refine lv_iload_n hx hb dX7_needs_34 rfl (lv_at hl 3 rfl) ?_
      obtain ⟨g6, e6, hf⟩ := ob_e1 hf
      refine ob_iast hx hb hK hM hI hS (q := 3) (n := 10) shM_3 e6 dX7_needs_35 (fun H locs hM hS => ?_)
      refine lv_iload_n hx hb dX7_needs_36 rfl (lv_at hl 0 rfl) ?_
      exact ob_iret hx hb hr hlocks hM hS (v := v5) rfl hf dX7_needs_37
    · rw [if_pos c4] at hf
      refine lv_bipush (v := (-2)) hx hb dX7_needs_19 (by decide) ?_
      exact ob_iret hx hb hr hlocks hM hS (v := (-2)) rfl hf dX7_needs_21
  · rw [if_pos c2] at hf
    refine lv_iconst (v := (-1)) hx hb dX7_needs_7 (by decide) ?_
    exact ob_iret hx hb hr hlocks hM hS (v := (-1)) rfl hf dX7_needs_8
set_option maxHeartbeats 4000000 in
set_option maxRecDepth 100000 in
theorem c_X7_man (l : Launch) (dC : Nat → ClassId) (dI : Nat → Nat → Nat) (ad : Nat → Nat) (cI cZ : ClassId) (hI : ob_inj shM ad) (d : Nat) (hd : 2 ≤ d) (g : Mm) (x1 x2 x3 : Int32) (r : Int32) (t : Mm) (hf : f_X7_man g x1 x2 x3 = some (r, t)) : ob_Mi l yX7_man wsX7_man d (dC, dI) vwCl shM ad cI cZ nwM [.ref (ad 0), .int x1, .int x2, .int x3] g r t := by
  refine ob_ofW (cc := cX7_man) (maxL := 5) (ret := (some .int)) (by decide) rfl ?_
  intro p e s m args below meth c ha hx hb hr hml hts hown hlocks hM0 hK hS0
  have hown : s.vm.findClass RX7 = some m.cls := hown
  have in_own : ∀ w ∈ wsX70, w ∈ wsX7_man := fun w h => (List.mem_cons_of_mem _ (List.mem_append_right _ h))
  have hf_22 := hts (.fieldLink RX7 22 "OneWorseModel" "knows" "[I") (List.mem_cons_of_mem _ (List.mem_append_left _ (List.mem_of_getElem? (i := 1) rfl)))
  have hf_19 := hts (.fieldLink RX7 19 "OneWorseModel" "traits" "[I") (List.mem_cons_of_mem _ (List.mem_append_left _ (List.mem_of_getElem? (i := 0) rfl)))
  have w_60 : ∀ (g : Mm) (x1 x2 x3 s0 : Int32) (H : Heap) (locs : List Loc), va_P (dC, dI) vwCl (ob_ws shM ad cI cZ g) H → va_S (ob_A shM ad) s.heap H locs → ∀ (ls : Array Slot), lv_has ls 5 [(0, .ref (ad 0)), (1, .int x1), (2, .int x2), (3, .int x3)] → f_X7_man_J60 g x1 x2 x3 s0 = some (r, t) → W p l e (rmN d) s m args below meth c H locs 0 0 (MQ below (ob_Qi (dC, dI) vwCl shM ad cI cZ r t) args s 0 0 (ob_A shM ad)) (F0 m 60 ls [.int s0]) := by
    intro g x1 x2 x3 s0 H locs hM hS ls hl hf
    unfold f_X7_man_J60 at hf
    refine lv_istore (lv' := [(4, .int s0), (0, .ref (ad 0)), (1, .int x1), (2, .int x2), (3, .int x3)]) hx hb dX7_man_60 hl (by decide) rfl (fun ls hl => ?_)
    refine lv_iload_n hx hb dX7_man_62 rfl (lv_at hl 3 rfl) ?_
    refine lv_if_ne (tgt := 76) hx hb dX7_man_63 (by decide) (fun c11 => ?_) (fun c11 => ?_)
    · rw [if_neg c11] at hf
      refine lv_aload_n hx hb dX7_man_76 rfl (lv_at hl 1 rfl) ?_
      refine ob_gr (j := 5) hx hb hts in_own hown hK hM (q := 0) shM_0 (C := RX7) (T := TX7) (N := 18) rfl 5 (by decide) hf_22 rfl dX7_man_77 ?_
      refine lv_iload_n hx hb dX7_man_80 rfl (lv_at hl 2 rfl) ?_
      refine lv_iload_n hx hb dX7_man_81 rfl (lv_at hl 4 rfl) ?_
      obtain ⟨g12, e12, hf⟩ := ob_e1 hf
      refine ob_iast hx hb hK hM hI hS (q := 5) (n := 5) shM_5 e12 dX7_man_82 (fun H locs hM hS => ?_)
      refine lv_iload hx hb dX7_man_83 (lv_at hl 0 rfl) ?_
      exact ob_iret hx hb hr hlocks hM hS (v := s0) rfl hf dX7_man_85
    · rw [if_pos c11] at hf
      refine lv_aload_n hx hb dX7_man_66 rfl (lv_at hl 1 rfl) ?_
      refine ob_gr (j := 4) hx hb hts in_own hown hK hM (q := 0) shM_0 (C := RX7) (T := TX7) (N := 18) rfl 4 (by decide) hf_19 rfl dX7_man_67 ?_
      refine lv_iload_n hx hb dX7_man_70 rfl (lv_at hl 2 rfl) ?_
      refine lv_iload_n hx hb dX7_man_71 rfl (lv_at hl 4 rfl) ?_
      obtain ⟨g13, e13, hf⟩ := ob_e1 hf
      refine ob_iast hx hb hK hM hI hS (q := 4) (n := 5) shM_4 e13 dX7_man_72 (fun H locs hM hS => ?_)
      refine lv_goto (tgt := 83) hx hb dX7_man_73 (by decide) ?_
      refine lv_iload hx hb dX7_man_83 (lv_at hl 0 rfl) ?_
      exact ob_iret hx hb hr hlocks hM hS (v := s0) rfl hf dX7_man_85
  have w_32 : ∀ (g : Mm) (x1 x2 x3 s0 s1 s2 : Int32) (H : Heap) (locs : List Loc), va_P (dC, dI) vwCl (ob_ws shM ad cI cZ g) H → va_S (ob_A shM ad) s.heap H locs → ∀ (ls : Array Slot), lv_has ls 5 [(0, .ref (ad 0)), (1, .int x1), (2, .int x2), (3, .int x3)] → f_X7_man_J32 g x1 x2 x3 s0 s1 s2 = some (r, t) → W p l e (rmN d) s m args below meth c H locs 0 0 (MQ below (ob_Qi (dC, dI) vwCl shM ad cI cZ r t) args s 0 0 (ob_A shM ad)) (F0 m 32 ls [.int s0, .int s1, .int s2]) := by
    intro g x1 x2 x3 s0 s1 s2 H locs hM hS ls hl hf
    unfold f_X7_man_J32 at hf
    obtain ⟨v6, e6, hf⟩ := ob_e1 hf
    refine ob_calli (va_runS (As := [.int s2, .int s1, .int s0]) (rest := []) ⟨hx, hb, hml, hown, hts⟩ (c_X7_in l dC dI ad cI cZ hI 0 (Nat.le_refl _) g s2 s1 s0  v6 e6) (va_cwS 3 hts gX7_man_X7_in rfl rfl rfl hd_X7_in (ob_R (Nat.le_trans (by decide) hd) (by decide))) (ob_preS hK hM) rfl rfl hl.1 rfl (lv_room (Nat.le_of_ble_eq_true rfl)) dX7_man_32 ⟨Nat.le_refl _, Nat.le_refl _⟩) hS (fun H locs hM hS => ?_)
    refine lv_if_ne (tgt := 41) hx hb dX7_man_35 (by decide) (fun c7 => ?_) (fun c7 => ?_)
    · rw [if_neg c7] at hf
      refine lv_iload_n hx hb dX7_man_41 rfl (lv_at hl 2 rfl) ?_
      refine lv_if_ne (tgt := 54) hx hb dX7_man_42 (by decide) (fun c8 => ?_) (fun c8 => ?_)
      · rw [if_neg c8] at hf
        refine lv_aload_n hx hb dX7_man_54 rfl (lv_at hl 0 rfl) ?_
        refine ob_gr (j := 5) hx hb hts in_own hown hK hM (q := 0) shM_0 (C := RX7) (T := TX7) (N := 18) rfl 5 (by decide) hf_22 rfl dX7_man_55 ?_
        refine lv_iload_n hx hb dX7_man_58 rfl (lv_at hl 1 rfl) ?_
        obtain ⟨v9, e9, hf⟩ := ob_e1 hf
        refine ob_iald hx hb hK hM (q := 5) (n := 5) shM_5 e9 dX7_man_59 ?_
        exact w_60 g x1 x2 x3 v9 _ _ hM hS _ (lv_sub hl [0, 1, 2, 3] rfl) hf
      · rw [if_pos c8] at hf
        refine lv_aload_n hx hb dX7_man_45 rfl (lv_at hl 0 rfl) ?_
        refine ob_gr (j := 4) hx hb hts in_own hown hK hM (q := 0) shM_0 (C := RX7) (T := TX7) (N := 18) rfl 4 (by decide) hf_19 rfl dX7_man_46 ?_
        refine lv_iload_n hx hb dX7_man_49 rfl (lv_at hl 1 rfl) ?_
        obtain ⟨v10, e10, hf⟩ := ob_e1 hf
        refine ob_iald hx hb hK hM (q := 4) (n := 5) shM_4 e10 dX7_man_50 ?_
        refine lv_goto (tgt := 60) hx hb dX7_man_51 (by decide) ?_
        exact w_60 g x1 x2 x3 v10 _ _ hM hS _ (lv_sub hl [0, 1, 2, 3] rfl) hf
    · rw [if_pos c7] at hf
      refine lv_bipush (v := (-2)) hx hb dX7_man_38 (by decide) ?_
      exact ob_iret hx hb hr hlocks hM hS (v := (-2)) rfl hf dX7_man_40
  subst ha
  have hl := lv_entry ([.ref (ad 0), .int x1, .int x2, .int x3]) (n := 5) (Nat.le_of_ble_eq_true rfl)
  rw [lg_entry_eq]
  generalize (lg_sl ([.ref (ad 0), .int x1, .int x2, .int x3]) ++ List.replicate (5 - (lg_sl ([.ref (ad 0), .int x1, .int x2, .int x3])).length) Slot.unset).toArray = ls at hl ⊢
  have hl : lv_has ls 5 [(0, .ref (ad 0)), (1, .int x1), (2, .int x2), (3, .int x3)] := hl
  have hM := hM0
  have hS := hS0
  unfold f_X7_man at hf
  refine lv_iload_n hx hb dX7_man_0 rfl (lv_at hl 1 rfl) ?_
  obtain ⟨v1, e1, hf⟩ := ob_e1 hf
  refine ob_calli (va_runS (As := [.int x1]) (rest := []) ⟨hx, hb, hml, hown, hts⟩ (c_X7_isMan l dC dI ad cI cZ hI 1 (Nat.le_refl _) g x1  v1 e1) (va_cwS 1 hts gX7_man_X7_isMan rfl rfl rfl hd_X7_isMan (ob_R (Nat.le_trans (by decide) hd) (by decide))) (ob_preS hK hM) rfl rfl hl.1 rfl (lv_room (Nat.le_of_ble_eq_true rfl)) dX7_man_1 ⟨Nat.le_refl _, Nat.le_refl _⟩) hS (fun H locs hM hS => ?_)
  refine lv_if_ne (tgt := 9) hx hb dX7_man_4 (by decide) (fun c2 => ?_) (fun c2 => ?_)
  · rw [if_neg c2] at hf
    refine lv_iload_n hx hb dX7_man_9 rfl (lv_at hl 2 rfl) ?_
    refine lv_iconst (v := 0) hx hb dX7_man_10 (by decide) ?_
    refine lv_iconst (v := 1) hx hb dX7_man_11 (by decide) ?_
    obtain ⟨v3, e3, hf⟩ := ob_e1 hf
    refine ob_calli (va_runS (As := [.int x2, .int 0, .int 1]) (rest := []) ⟨hx, hb, hml, hown, hts⟩ (c_X7_in l dC dI ad cI cZ hI 0 (Nat.le_refl _) g x2 0 1  v3 e3) (va_cwS 3 hts gX7_man_X7_in rfl rfl rfl hd_X7_in (ob_R (Nat.le_trans (by decide) hd) (by decide))) (ob_preS hK hM) rfl rfl hl.1 rfl (lv_room (Nat.le_of_ble_eq_true rfl)) dX7_man_12 ⟨Nat.le_refl _, Nat.le_refl _⟩) hS (fun H locs hM hS => ?_)
    refine lv_if_eq (tgt := 38) hx hb dX7_man_15 (by decide) (fun c4 => ?_) (fun c4 => ?_)
    · rw [if_pos c4] at hf
      refine lv_bipush (v := (-2)) hx hb dX7_man_38 (by decide) ?_
      exact ob_iret hx hb hr hlocks hM hS (v := (-2)) rfl hf dX7_man_40
    · rw [if_neg c4] at hf
      refine lv_iload_n hx hb dX7_man_18 rfl (lv_at hl 3 rfl) ?_
      refine lv_iconst (v := 0) hx hb dX7_man_19 (by decide) ?_
      refine lv_iload_n hx hb dX7_man_20 rfl (lv_at hl 2 rfl) ?_
      refine lv_if_ne (tgt := 29) hx hb dX7_man_21 (by decide) (fun c5 => ?_) (fun c5 => ?_)
      · rw [if_neg c5] at hf
        refine lv_sipush (v := 1023) hx hb dX7_man_29 (by decide) ?_
        exact w_32 g x1 x2 x3 1023 0 x3 _ _ hM hS _ (lv_sub hl [0, 1, 2, 3] rfl) hf
      · rw [if_pos c5] at hf
        refine lv_bipush (v := 63) hx hb dX7_man_24 (by decide) ?_
        refine lv_goto (tgt := 32) hx hb dX7_man_26 (by decide) ?_
        exact w_32 g x1 x2 x3 63 0 x3 _ _ hM hS _ (lv_sub hl [0, 1, 2, 3] rfl) hf
  · rw [if_pos c2] at hf
    refine lv_iconst (v := (-1)) hx hb dX7_man_7 (by decide) ?_
    exact ob_iret hx hb hr hlocks hM hS (v := (-1)) rfl hf dX7_man_8
set_option maxHeartbeats 4000000 in
set_option maxRecDepth 100000 in
theorem c_X7_fitOf (l : Launch) (dC : Nat → ClassId) (dI : Nat → Nat → Nat) (ad : Nat → Nat) (cI cZ : ClassId) (hI : ob_inj shM ad) (d : Nat) (hd : 0 ≤ d) (g : Mm) (x1 : Int32) (r : Int32) (hf : f_X7_fitOf g x1 = some r) : ob_Mi l yX7_fitOf wsX7_fitOf d (dC, dI) vwCl shM ad cI cZ nwM [.ref (ad 0), .int x1] g r g := by
  refine ob_ofW (cc := cX7_fitOf) (maxL := 4) (ret := (some .int)) (by decide) rfl ?_
  intro p e s m args below meth c ha hx hb hr hml hts hown hlocks hM0 hK hS0
  have hown : s.vm.findClass RX7 = some m.cls := hown
  have in_own : ∀ w ∈ wsX70, w ∈ wsX7_fitOf := fun w h => (List.mem_cons_of_mem _ (List.mem_append_right _ h))
  have hf_16 := hts (.fieldLink RX7 16 "OneWorseModel" "need" "[I") (List.mem_cons_of_mem _ (List.mem_append_left _ (List.mem_of_getElem? (i := 0) rfl)))
  have hf_19 := hts (.fieldLink RX7 19 "OneWorseModel" "traits" "[I") (List.mem_cons_of_mem _ (List.mem_append_left _ (List.mem_of_getElem? (i := 1) rfl)))
  have w_36 : ∀ (k4 : Int32 → Int32 → Int32 → Option (Int32)) (hk4 : ∀ (x1 x2 x3 : Int32) (H : Heap) (locs : List Loc), va_P (dC, dI) vwCl (ob_ws shM ad cI cZ g) H → va_S (ob_A shM ad) s.heap H locs → ∀ (ls : Array Slot), lv_has ls 4 [(0, .ref (ad 0)), (1, .int x1), (2, .int x2), (3, .int x3)] → k4 x1 x2 x3 = some r → W p l e (rmN d) s m args below meth c H locs 0 0 (MQ below (ob_Qi (dC, dI) vwCl shM ad cI cZ r g) args s 0 0 (ob_A shM ad)) (F0 m 4 ls [])), ∀ (x1 x3 s0 s1 : Int32) (H : Heap) (locs : List Loc), va_P (dC, dI) vwCl (ob_ws shM ad cI cZ g) H → va_S (ob_A shM ad) s.heap H locs → ∀ (ls : Array Slot), lv_has ls 4 [(0, .ref (ad 0)), (1, .int x1), (3, .int x3)] → f_X7_fitOf_J36 g k4 x1 x3 s0 s1 = some r → W p l e (rmN d) s m args below meth c H locs 0 0 (MQ below (ob_Qi (dC, dI) vwCl shM ad cI cZ r g) args s 0 0 (ob_A shM ad)) (F0 m 36 ls [.int s0, .int s1]) := by
    intro k4 hk4 x1 x3 s0 s1 H locs hM hS ls hl hf
    unfold f_X7_fitOf_J36 at hf
    refine lv_ior hx hb dX7_fitOf_36 ?_
    refine lv_istore_n (lv' := [(2, .int (s1 ||| s0)), (0, .ref (ad 0)), (1, .int x1), (3, .int x3)]) hx hb dX7_fitOf_37 rfl hl (by decide) rfl (fun ls hl => ?_)
    refine lv_iinc (v := (x3 + 1)) (lv' := [(3, .int (x3 + 1)), (2, .int (s1 ||| s0)), (0, .ref (ad 0)), (1, .int x1)]) hx hb dX7_fitOf_38 hl (k := 3) rfl rfl (by decide) rfl (fun ls hl => ?_)
    refine lv_goto (tgt := 4) hx hb dX7_fitOf_41 (by decide) ?_
    exact hk4 x1 (s1 ||| s0) (x3 + 1) _ _ hM hS _ (lv_sub hl [2, 3, 1, 0] rfl) hf
  have w_4 : ∀ (n : Nat), ∀ (x1 x2 x3 : Int32) (H : Heap) (locs : List Loc), va_P (dC, dI) vwCl (ob_ws shM ad cI cZ g) H → va_S (ob_A shM ad) s.heap H locs → ∀ (ls : Array Slot), lv_has ls 4 [(0, .ref (ad 0)), (1, .int x1), (2, .int x2), (3, .int x3)] → f_X7_fitOf_L4 g n x1 x2 x3 = some r → W p l e (rmN d) s m args below meth c H locs 0 0 (MQ below (ob_Qi (dC, dI) vwCl shM ad cI cZ r g) args s 0 0 (ob_A shM ad)) (F0 m 4 ls []) := by
    intro n
    induction n with
    | zero =>
      intro x1 x2 x3 H locs hM hS ls hl hf
      cases hf
    | succ n ih =>
      intro x1 x2 x3 H locs hM hS ls hl hf
      unfold f_X7_fitOf_L4 at hf
      refine lv_iload_n hx hb dX7_fitOf_4 rfl (lv_at hl 3 rfl) ?_
      refine lv_bipush (v := 10) hx hb dX7_fitOf_5 (by decide) ?_
      refine lv_icmp_ge (tgt := 44) hx hb dX7_fitOf_7 (by decide) (fun c1 => ?_) (fun c1 => ?_)
      · rw [if_pos c1] at hf
        refine lv_iload_n hx hb dX7_fitOf_44 rfl (lv_at hl 2 rfl) ?_
        exact ob_iretR hx hb hr hlocks hM hS (v := x2) rfl hf dX7_fitOf_45
      · rw [if_neg c1] at hf
        refine lv_iload_n hx hb dX7_fitOf_10 rfl (lv_at hl 2 rfl) ?_
        refine lv_aload_n hx hb dX7_fitOf_11 rfl (lv_at hl 0 rfl) ?_
        refine ob_gr (j := 3) hx hb hts in_own hown hK hM (q := 0) shM_0 (C := RX7) (T := TX7) (N := 18) rfl 3 (by decide) hf_16 rfl dX7_fitOf_12 ?_
        refine lv_iload_n hx hb dX7_fitOf_15 rfl (lv_at hl 3 rfl) ?_
        obtain ⟨v2, e2, hf⟩ := ob_e1 hf
        refine ob_iald hx hb hK hM (q := 3) (n := 10) shM_3 e2 dX7_fitOf_16 ?_
        refine lv_aload_n hx hb dX7_fitOf_17 rfl (lv_at hl 0 rfl) ?_
        refine ob_gr (j := 4) hx hb hts in_own hown hK hM (q := 0) shM_0 (C := RX7) (T := TX7) (N := 18) rfl 4 (by decide) hf_19 rfl dX7_fitOf_18 ?_
        refine lv_iload_n hx hb dX7_fitOf_21 rfl (lv_at hl 1 rfl) ?_
        obtain ⟨v3, e3, hf⟩ := ob_e1 hf
        refine ob_iald hx hb hK hM (q := 4) (n := 5) shM_4 e3 dX7_fitOf_22 ?_
        refine lv_iconst (v := (-1)) hx hb dX7_fitOf_23 (by decide) ?_
        refine lv_ixor hx hb dX7_fitOf_24 ?_
        refine lv_iand hx hb dX7_fitOf_25 ?_
        refine lv_if_ne (tgt := 35) hx hb dX7_fitOf_26 (by decide) (fun c4 => ?_) (fun c4 => ?_)
        · rw [if_neg c4] at hf
          refine lv_iconst (v := 0) hx hb dX7_fitOf_35 (by decide) ?_
          exact w_36 (f_X7_fitOf_L4 g n) ih x1 x3 0 x2 _ _ hM hS _ (lv_sub hl [0, 1, 3] rfl) hf
        · rw [if_pos c4] at hf
          refine lv_iconst (v := 1) hx hb dX7_fitOf_29 (by decide) ?_
          refine lv_iload_n hx hb dX7_fitOf_30 rfl (lv_at hl 3 rfl) ?_
          refine lv_ishl hx hb dX7_fitOf_31 ?_
          refine lv_goto (tgt := 36) hx hb dX7_fitOf_32 (by decide) ?_
          exact w_36 (f_X7_fitOf_L4 g n) ih x1 x3 ((1 : Int32) <<< (x3 &&& 31)) x2 _ _ hM hS _ (lv_sub hl [0, 1, 3] rfl) hf
  subst ha
  have hl := lv_entry ([.ref (ad 0), .int x1]) (n := 4) (Nat.le_of_ble_eq_true rfl)
  rw [lg_entry_eq]
  generalize (lg_sl ([.ref (ad 0), .int x1]) ++ List.replicate (4 - (lg_sl ([.ref (ad 0), .int x1])).length) Slot.unset).toArray = ls at hl ⊢
  have hl : lv_has ls 4 [(0, .ref (ad 0)), (1, .int x1)] := hl
  have hM := hM0
  have hS := hS0
  unfold f_X7_fitOf at hf
  refine lv_iconst (v := 0) hx hb dX7_fitOf_0 (by decide) ?_
  refine lv_istore_n (lv' := [(2, .int 0), (0, .ref (ad 0)), (1, .int x1)]) hx hb dX7_fitOf_1 rfl hl (by decide) rfl (fun ls hl => ?_)
  refine lv_iconst (v := 0) hx hb dX7_fitOf_2 (by decide) ?_
  refine lv_istore_n (lv' := [(3, .int 0), (2, .int 0), (0, .ref (ad 0)), (1, .int x1)]) hx hb dX7_fitOf_3 rfl hl (by decide) rfl (fun ls hl => ?_)
  exact w_4 FU x1 0 0 _ _ hM hS _ (lv_sub hl [2, 3, 1, 0] rfl) hf
