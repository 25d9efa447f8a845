set_option maxHeartbeats 4000000 in
set_option maxRecDepth 100000 in
theorem c_X0_fight (l : Launch) (dC : Nat → ClassId) (dI : Nat → Nat → Nat) (ad : Nat → Nat) (cI cZ : ClassId) (hI : ob_inj shX ad) (d : Nat) (hd : 27 ≤ d) (g : Mm) (x1 x2 x3 x4 x5 : Int32) (t : Mm) (hf : f_X0_fight g x1 x2 x3 x4 x5 = some t) : ob_Mv l yX0_fight wsX0_fight d (dC, dI) vwCl shX ad cI cZ nwX [.ref (ad 17), .int x1, .int x2, .int x3, .int x4, .int x5] g t := by
  refine ob_ofW (cc := cX0_fight) (maxL := 6) (ret := none) (by decide) rfl ?_
  intro p e s m args below meth c ha hx hb hr hml hts hown hlocks hM0 hK hS0
  have hown : s.vm.findClass RX0 = some m.cls := hown
  have in_own : ∀ w ∈ wsX00, w ∈ wsX0_fight := fun w h => (List.mem_cons_of_mem _ (List.mem_append_left _ (List.mem_append_right _ h)))
  have hf_19 := hts (.fieldLink RX0 19 "OneWorse$Contest" "spinning" "Z") (List.mem_cons_of_mem _ (List.mem_append_left _ (List.mem_append_left _ (List.mem_append_left _ (List.mem_of_getElem? (i := 0) rfl)))))
  have hf_23 := hts (.fieldLink RX0 23 "OneWorse$Contest" "enough" "I") (List.mem_cons_of_mem _ (List.mem_append_left _ (List.mem_append_left _ (List.mem_append_left _ (List.mem_of_getElem? (i := 1) rfl)))))
  have hf_26 := hts (.fieldLink RX0 26 "OneWorse$Contest" "score" "I") (List.mem_cons_of_mem _ (List.mem_append_left _ (List.mem_append_left _ (List.mem_append_left _ (List.mem_of_getElem? (i := 2) rfl)))))
  have w_18 : ∀ (g : Mm) (x1 x2 x3 x4 s0 : Int32) (H : Heap) (locs : List Loc), va_P (dC, dI) vwCl (ob_ws shX ad cI cZ g) H → va_S (ob_A shX ad) s.heap H locs → ∀ (ls : Array Slot), lv_has ls 6 [(0, .ref (ad 17)), (1, .int x1), (2, .int x2), (3, .int x3), (4, .int x4)] → f_X0_fight_J18 g x1 x2 x3 x4 s0 = some t → W p l e (rmN d) s m args below meth c H locs 0 0 (MQ below (ob_Qv (dC, dI) vwCl shX ad cI cZ t) args s 0 0 (ob_A shX ad)) (F0 m 18 ls [.int s0, .ref (ad 17)]) := by
    intro g x1 x2 x3 x4 s0 H locs hM hS ls hl hf
    unfold f_X0_fight_J18 at hf
    refine ob_pi hx hb hts in_own tyX0 tyX0_ok nmX0 hown hK hM hI hS (q := 17) shX_17 (C := RX0) (T := TX0) (N := 7) rfl 4 (by decide) hf_23 rfl rfl (ty := .int) (v := s0) (tyX0_ok 4 (by decide)) rfl rfl dX0_fight_18 (fun H locs hM hS => ?_)
    refine lv_aload_n hx hb dX0_fight_21 rfl (lv_at hl 0 rfl) ?_
    obtain ⟨g2, e2, hf⟩ := ob_e1 hf
    refine ob_callv (va_runV (As := []) (rest := []) ⟨hx, hb, hml, hown, hts⟩ (c_X0_forget l dC dI ad cI cZ hI 0 (Nat.le_refl _) (ob_up g 17 4 s0)  g2 e2) (cwV 0 hts gX0_fight_X0_forget rfl rfl rfl ⟨rfl, hd_X0_forget⟩ (ob_R (Nat.le_trans (by decide) hd) (by decide))) (ob_preV hK hM (q := 17) shX_17 rfl) rfl rfl hl.1 rfl (lv_room (Nat.le_of_ble_eq_true rfl)) dX0_fight_22 ⟨Nat.le_refl _, Nat.le_refl _⟩) hS (fun H locs hM hS => ?_)
    refine lv_aload_n hx hb dX0_fight_25 rfl (lv_at hl 0 rfl) ?_
    refine lv_aload_n hx hb dX0_fight_26 rfl (lv_at hl 0 rfl) ?_
    refine lv_iload_n hx hb dX0_fight_27 rfl (lv_at hl 1 rfl) ?_
    refine lv_iload_n hx hb dX0_fight_28 rfl (lv_at hl 2 rfl) ?_
    refine lv_iload_n hx hb dX0_fight_29 rfl (lv_at hl 3 rfl) ?_
    refine lv_iload hx hb dX0_fight_30 (lv_at hl 4 rfl) ?_
    refine lv_iconst (v := 0) hx hb dX0_fight_32 (by decide) ?_
    obtain ⟨v3, g3, e3, hf⟩ := ob_e2 hf
    refine ob_calli (va_runV (As := [.int x1, .int x2, .int x3, .int x4, .int 0]) (rest := [.ref (ad 17)]) ⟨hx, hb, hml, hown, hts⟩ (cN_X0_best l dC dI ad cI cZ hI 12 g2 x1 x2 x3 x4 0  v3 g3 e3) (cwV 5 hts gX0_fight_X0_best rfl rfl rfl ⟨rfl, hd_X0_best⟩ (ob_R (Nat.le_trans (by decide) hd) (by decide))) (ob_preV hK hM (q := 17) shX_17 rfl) rfl rfl hl.1 rfl (lv_room (Nat.le_of_ble_eq_true rfl)) dX0_fight_33 ⟨Nat.le_refl _, Nat.le_refl _⟩) hS (fun H locs hM hS => ?_)
    refine ob_pi hx hb hts in_own tyX0 tyX0_ok nmX0 hown hK hM hI hS (q := 17) shX_17 (C := RX0) (T := TX0) (N := 7) rfl 5 (by decide) hf_26 rfl rfl (ty := .int) (v := v3) (tyX0_ok 5 (by decide)) rfl rfl dX0_fight_36 (fun H locs hM hS => ?_)
    exact ob_vret hx hb hr hlocks hM hS hf dX0_fight_39
  subst ha
  have hl := lv_entry ([.ref (ad 17), .int x1, .int x2, .int x3, .int x4, .int x5]) (n := 6) (Nat.le_of_ble_eq_true rfl)
  rw [lg_entry_eq]
  generalize (lg_sl ([.ref (ad 17), .int x1, .int x2, .int x3, .int x4, .int x5]) ++ List.replicate (6 - (lg_sl ([.ref (ad 17), .int x1, .int x2, .int x3, .int x4, .int x5])).length) Slot.unset).toArray = ls at hl ⊢
  have hl : lv_has ls 6 [(0, .ref (ad 17)), (1, .int x1), (2, .int x2), (3, .int x3), (4, .int x4), (5, .int x5)] := hl
  have hM := hM0
  have hS := hS0
  unfold f_X0_fight at hf
  refine lv_aload_n hx hb dX0_fight_0 rfl (lv_at hl 0 rfl) ?_
  refine lv_iconst (v := 0) hx hb dX0_fight_1 (by decide) ?_
  refine ob_pi hx hb hts in_own tyX0 tyX0_ok nmX0 hown hK hM hI hS (q := 17) shX_17 (C := RX0) (T := TX0) (N := 7) rfl 3 (by decide) hf_19 rfl rfl (ty := .boolean) (v := 0) (tyX0_ok 3 (by decide)) rfl rfl dX0_fight_2 (fun H locs hM hS => ?_)
  refine lv_aload_n hx hb dX0_fight_5 rfl (lv_at hl 0 rfl) ?_
  refine lv_iload hx hb dX0_fight_6 (lv_at hl 5 rfl) ?_
  refine lv_if_eq (tgt := 16) hx hb dX0_fight_8 (by decide) (fun c1 => ?_) (fun c1 => ?_)
  · rw [if_pos c1] at hf
    refine lv_bipush (v := 39) hx hb dX0_fight_16 (by decide) ?_
    exact w_18 (ob_up g 17 3 0) x1 x2 x3 x4 39 _ _ hM hS _ (lv_sub hl [0, 1, 2, 3, 4] rfl) hf
  · rw [if_neg c1] at hf
    refine lv_bipush (v := 20) hx hb dX0_fight_11 (by decide) ?_
    refine lv_goto (tgt := 18) hx hb dX0_fight_13 (by decide) ?_
    exact w_18 (ob_up g 17 3 0) x1 x2 x3 x4 20 _ _ hM hS _ (lv_sub hl [0, 1, 2, 3, 4] rfl) hf
set_option maxHeartbeats 4000000 in
set_option maxRecDepth 100000 in
theorem c_X0_moverPays (l : Launch) (dC : Nat → ClassId) (dI : Nat → Nat → Nat) (ad : Nat → Nat) (cI cZ : ClassId) (hI : ob_inj shX ad) (d : Nat) (hd : 0 ≤ d) (g : Mm) (r : Int32) (hf : f_X0_moverPays g = some r) : ob_Mi l yX0_moverPays wsX0_moverPays d (dC, dI) vwCl shX ad cI cZ nwX [.ref (ad 17)] g r g := by
  refine ob_ofW (cc := cX0_moverPays) (maxL := 1) (ret := (some .boolean)) (by decide) rfl ?_
  intro p e s m args below meth c ha hx hb hr hml hts hown hlocks hM0 hK hS0
  have hown : s.vm.findClass RX0 = some m.cls := hown
  have in_own : ∀ w ∈ wsX00, w ∈ wsX0_moverPays := fun w h => (List.mem_cons_of_mem _ (List.mem_append_right _ h))
  have hf_26 := hts (.fieldLink RX0 26 "OneWorse$Contest" "score" "I") (List.mem_cons_of_mem _ (List.mem_append_left _ (List.mem_of_getElem? (i := 0) rfl)))
  subst ha
  have hl := lv_entry ([.ref (ad 17)]) (n := 1) (Nat.le_of_ble_eq_true rfl)
  rw [lg_entry_eq]
  generalize (lg_sl ([.ref (ad 17)]) ++ List.replicate (1 - (lg_sl ([.ref (ad 17)])).length) Slot.unset).toArray = ls at hl ⊢
  have hl : lv_has ls 1 [(0, .ref (ad 17))] := hl
  have hM := hM0
  have hS := hS0
  unfold f_X0_moverPays at hf
  refine lv_aload_n hx hb dX0_moverPays_0 rfl (lv_at hl 0 rfl) ?_
  refine ob_gi hx hb hts in_own hown hK hM (q := 17) shX_17 (C := RX0) (T := TX0) (N := 7) rfl 5 (by decide) hf_26 rfl dX0_moverPays_1 ?_
  refine lv_bipush (v := 20) hx hb dX0_moverPays_4 (by decide) ?_
  refine lv_icmp_ge (tgt := 13) hx hb dX0_moverPays_6 (by decide) (fun c1 => ?_) (fun c1 => ?_)
  · rw [if_pos c1] at hf
    refine lv_iconst (v := 0) hx hb dX0_moverPays_13 (by decide) ?_
    exact ob_iretR hx hb hr hlocks hM hS (v := 0) rfl hf dX0_moverPays_14
  · rw [if_neg c1] at hf
    refine lv_iconst (v := 1) hx hb dX0_moverPays_9 (by decide) ?_
    refine lv_goto (tgt := 14) hx hb dX0_moverPays_10 (by decide) ?_
    exact ob_iretR hx hb hr hlocks hM hS (v := 1) rfl hf dX0_moverPays_14
set_option maxHeartbeats 4000000 in
set_option maxRecDepth 100000 in
theorem c_X0_howMany (l : Launch) (dC : Nat → ClassId) (dI : Nat → Nat → Nat) (ad : Nat → Nat) (cI cZ : ClassId) (hI : ob_inj shX ad) (d : Nat) (hd : 0 ≤ d) (g : Mm) (r : Int32) (hf : f_X0_howMany g = some r) : ob_Mi l yX0_howMany wsX0_howMany d (dC, dI) vwCl shX ad cI cZ nwX [.ref (ad 17)] g r g := by
  refine ob_ofW (cc := cX0_howMany) (maxL := 1) (ret := (some .int)) (by decide) rfl ?_
  intro p e s m args below meth c ha hx hb hr hml hts hown hlocks hM0 hK hS0
  have hown : s.vm.findClass RX0 = some m.cls := hown
  have in_own : ∀ w ∈ wsX00, w ∈ wsX0_howMany := fun w h => (List.mem_cons_of_mem _ (List.mem_append_right _ h))
  have hf_26 := hts (.fieldLink RX0 26 "OneWorse$Contest" "score" "I") (List.mem_cons_of_mem _ (List.mem_append_left _ (List.mem_of_getElem? (i := 0) rfl)))
  subst ha
  have hl := lv_entry ([.ref (ad 17)]) (n := 1) (Nat.le_of_ble_eq_true rfl)
  rw [lg_entry_eq]
  generalize (lg_sl ([.ref (ad 17)]) ++ List.replicate (1 - (lg_sl ([.ref (ad 17)])).length) Slot.unset).toArray = ls at hl ⊢
  have hl : lv_has ls 1 [(0, .ref (ad 17))] := hl
  have hM := hM0
  have hS := hS0
  unfold f_X0_howMany at hf
  refine lv_aload_n hx hb dX0_howMany_0 rfl (lv_at hl 0 rfl) ?_
  refine ob_gi hx hb hts in_own hown hK hM (q := 17) shX_17 (C := RX0) (T := TX0) (N := 7) rfl 5 (by decide) hf_26 rfl dX0_howMany_1 ?_
  refine lv_bipush (v := 20) hx hb dX0_howMany_4 (by decide) ?_
  refine lv_icmp_ge (tgt := 16) hx hb dX0_howMany_6 (by decide) (fun c1 => ?_) (fun c1 => ?_)
  · rw [if_pos c1] at hf
    refine lv_bipush (v := 40) hx hb dX0_howMany_16 (by decide) ?_
    refine lv_aload_n hx hb dX0_howMany_18 rfl (lv_at hl 0 rfl) ?_
    refine ob_gi hx hb hts in_own hown hK hM (q := 17) shX_17 (C := RX0) (T := TX0) (N := 7) rfl 5 (by decide) hf_26 rfl dX0_howMany_19 ?_
    refine lv_isub hx hb dX0_howMany_22 ?_
    exact ob_iretR hx hb hr hlocks hM hS (v := (40 - (g 17 5))) rfl hf dX0_howMany_23
  · rw [if_neg c1] at hf
    refine lv_aload_n hx hb dX0_howMany_9 rfl (lv_at hl 0 rfl) ?_
    refine ob_gi hx hb hts in_own hown hK hM (q := 17) shX_17 (C := RX0) (T := TX0) (N := 7) rfl 5 (by decide) hf_26 rfl dX0_howMany_10 ?_
    refine lv_goto (tgt := 23) hx hb dX0_howMany_13 (by decide) ?_
    exact ob_iretR hx hb hr hlocks hM hS (v := (g 17 5)) rfl hf dX0_howMany_23
set_option maxHeartbeats 4000000 in
set_option maxRecDepth 100000 in
theorem c_X0_firstMove (l : Launch) (dC : Nat → ClassId) (dI : Nat → Nat → Nat) (ad : Nat → Nat) (cI cZ : ClassId) (hI : ob_inj shX ad) (d : Nat) (hd : 0 ≤ d) (g : Mm) (r : Int32) (hf : f_X0_firstMove g = some r) : ob_Mi l yX0_firstMove wsX0_firstMove d (dC, dI) vwCl shX ad cI cZ nwX [.ref (ad 17)] g r g := by
  refine ob_ofW (cc := cX0_firstMove) (maxL := 1) (ret := (some .int)) (by decide) rfl ?_
  intro p e s m args below meth c ha hx hb hr hml hts hown hlocks hM0 hK hS0
  have hown : s.vm.findClass RX0 = some m.cls := hown
  have in_own : ∀ w ∈ wsX00, w ∈ wsX0_firstMove := fun w h => (List.mem_cons_of_mem _ (List.mem_append_right _ h))
  have hf_29 := hts (.fieldLink RX0 29 "OneWorse$Contest" "chosen" "I") (List.mem_cons_of_mem _ (List.mem_append_left _ (List.mem_of_getElem? (i := 0) rfl)))
  subst ha
  have hl := lv_entry ([.ref (ad 17)]) (n := 1) (Nat.le_of_ble_eq_true rfl)
  rw [lg_entry_eq]
  generalize (lg_sl ([.ref (ad 17)]) ++ List.replicate (1 - (lg_sl ([.ref (ad 17)])).length) Slot.unset).toArray = ls at hl ⊢
  have hl : lv_has ls 1 [(0, .ref (ad 17))] := hl
  have hM := hM0
  have hS := hS0
  unfold f_X0_firstMove at hf
  refine lv_aload_n hx hb dX0_firstMove_0 rfl (lv_at hl 0 rfl) ?_
  refine ob_gi hx hb hts in_own hown hK hM (q := 17) shX_17 (C := RX0) (T := TX0) (N := 7) rfl 6 (by decide) hf_29 rfl dX0_firstMove_1 ?_
  exact ob_iretR hx hb hr hlocks hM hS (v := (g 17 6)) rfl hf dX0_firstMove_4
set_option maxHeartbeats 4000000 in
set_option maxRecDepth 100000 in
theorem c_X6_outcome (l : Launch) (dC : Nat → ClassId) (dI : Nat → Nat → Nat) (ad : Nat → Nat) (cI cZ : ClassId) (hI : ob_inj shX ad) (d : Nat) (hd : 1 ≤ d) (g : Mm) (x1 x2 x3 : Int32) (r : Int32) (hf : f_X6_outcome g x1 x2 x3 = some r) : ob_Mi l yX6_outcome wsX6_outcome d (dC, dI) vwCl shX ad cI cZ nwX [.ref (ad 0), .int x1, .int x2, .int x3] g r g := by
  refine ob_ofW (cc := cX6_outcome) (maxL := 4) (ret := (some .int)) (by decide) rfl ?_
  intro p e s m args below meth c ha hx hb hr hml hts hown hlocks hM0 hK hS0
  have hown : s.vm.findClass RX6 = some m.cls := hown
  have in_own : ∀ w ∈ wsX60, w ∈ wsX6_outcome := fun w h => (List.mem_cons_of_mem _ (List.mem_append_left _ (List.mem_append_right _ h)))
  have hf_34 := hts (.fieldLink RX6 34 "OneWorse" "contest" "LOneWorse$Contest;") (List.mem_cons_of_mem _ (List.mem_append_left _ (List.mem_append_left _ (List.mem_of_getElem? (i := 0) rfl))))
  have hi_X0 := hts (.initialized RX0) (List.mem_cons_of_mem _ (List.mem_append_left _ (List.mem_append_left _ (List.mem_of_getElem? (i := 2) rfl))))
  have hin_X0_firstMove := hts (.instanceMethod yX0_firstMove) (List.mem_cons_of_mem _ (List.mem_append_left _ (List.mem_append_left _ (List.mem_of_getElem? (i := 9) rfl))))
  have hse_X0_firstMove := hts (.selects RX0 yX0_firstMove yX0_firstMove) (List.mem_cons_of_mem _ (List.mem_append_left _ (List.mem_append_left _ (List.mem_of_getElem? (i := 10) rfl))))
  have hin_X0_howMany := hts (.instanceMethod yX0_howMany) (List.mem_cons_of_mem _ (List.mem_append_left _ (List.mem_append_left _ (List.mem_of_getElem? (i := 6) rfl))))
  have hse_X0_howMany := hts (.selects RX0 yX0_howMany yX0_howMany) (List.mem_cons_of_mem _ (List.mem_append_left _ (List.mem_append_left _ (List.mem_of_getElem? (i := 7) rfl))))
  have hin_X0_moverPays := hts (.instanceMethod yX0_moverPays) (List.mem_cons_of_mem _ (List.mem_append_left _ (List.mem_append_left _ (List.mem_of_getElem? (i := 1) rfl))))
  have hse_X0_moverPays := hts (.selects RX0 yX0_moverPays yX0_moverPays) (List.mem_cons_of_mem _ (List.mem_append_left _ (List.mem_append_left _ (List.mem_of_getElem? (i := 3) rfl))))
  subst ha
  have hl := lv_entry ([.ref (ad 0), .int x1, .int x2, .int x3]) (n := 4) (Nat.le_of_ble_eq_true rfl)
  rw [lg_entry_eq]
  generalize (lg_sl ([.ref (ad 0), .int x1, .int x2, .int x3]) ++ List.replicate (4 - (lg_sl ([.ref (ad 0), .int x1, .int x2, .int x3])).length) Slot.unset).toArray = ls at hl ⊢
  have hl : lv_has ls 4 [(0, .ref (ad 0)), (1, .int x1), (2, .int x2), (3, .int x3)] := hl
  have hM := hM0
  have hS := hS0
  unfold f_X6_outcome at hf
  refine lv_iload_n hx hb dX6_outcome_0 rfl (lv_at hl 3 rfl) ?_
  refine lv_if_ne (tgt := 20) hx hb dX6_outcome_1 (by decide) (fun c1 => ?_) (fun c1 => ?_)
  · rw [if_neg c1] at hf
    refine lv_iload_n hx hb dX6_outcome_20 rfl (lv_at hl 3 rfl) ?_
    refine lv_iconst (v := 1) hx hb dX6_outcome_21 (by decide) ?_
    refine lv_icmp_ne (tgt := 35) hx hb dX6_outcome_22 (by decide) (fun c2 => ?_) (fun c2 => ?_)
    · rw [if_neg c2] at hf
      refine lv_aload_n hx hb dX6_outcome_35 rfl (lv_at hl 0 rfl) ?_
      refine ob_gr (j := 17) hx hb hts in_own hown hK hM (q := 0) shX_0 (C := RX6) (T := TX6) (N := 8) rfl 4 (by decide) hf_34 rfl dX6_outcome_36 ?_
      obtain ⟨v3, e3, hf⟩ := ob_e1 hf
      refine ob_calli (va_runVN (As := []) (rest := []) ⟨hx, hb, hml, hown, hts⟩ (c_X0_firstMove l dC dI ad cI cZ hI 0 (Nat.le_refl _) g  v3 e3) ⟨va_cnB 0 hts gX6_outcome_X0_firstMove_n159 rfl rfl rfl (ob_nl hK nw_X6_159) hi_X0 hd_X0_firstMove (ob_R (Nat.le_trans (by decide) hd) (by decide)), hin_X0_firstMove, hse_X0_firstMove⟩ (ob_preV hK hM (q := 17) shX_17 rfl) rfl rfl hl.1 rfl (lv_room (Nat.le_of_ble_eq_true rfl)) dX6_outcome_39 ⟨Nat.le_refl _, Nat.le_refl _⟩) hS (fun H locs hM hS => ?_)
      exact ob_iretR hx hb hr hlocks hM hS (v := v3) rfl hf dX6_outcome_42
    · rw [if_pos c2] at hf
      refine lv_aload_n hx hb dX6_outcome_25 rfl (lv_at hl 0 rfl) ?_
      refine ob_gr (j := 17) hx hb hts in_own hown hK hM (q := 0) shX_0 (C := RX6) (T := TX6) (N := 8) rfl 4 (by decide) hf_34 rfl dX6_outcome_26 ?_
      obtain ⟨v4, e4, hf⟩ := ob_e1 hf
      refine ob_calli (va_runVN (As := []) (rest := []) ⟨hx, hb, hml, hown, hts⟩ (c_X0_howMany l dC dI ad cI cZ hI 0 (Nat.le_refl _) g  v4 e4) ⟨va_cnB 0 hts gX6_outcome_X0_howMany_n221 rfl rfl rfl (ob_nl hK nw_X6_221) hi_X0 hd_X0_howMany (ob_R (Nat.le_trans (by decide) hd) (by decide)), hin_X0_howMany, hse_X0_howMany⟩ (ob_preV hK hM (q := 17) shX_17 rfl) rfl rfl hl.1 rfl (lv_room (Nat.le_of_ble_eq_true rfl)) dX6_outcome_29 ⟨Nat.le_refl _, Nat.le_refl _⟩) hS (fun H locs hM hS => ?_)
      refine lv_goto (tgt := 42) hx hb dX6_outcome_32 (by decide) ?_
      exact ob_iretR hx hb hr hlocks hM hS (v := v4) rfl hf dX6_outcome_42
  · rw [if_pos c1] at hf
    refine lv_aload_n hx hb dX6_outcome_4 rfl (lv_at hl 0 rfl) ?_
    refine ob_gr (j := 17) hx hb hts in_own hown hK hM (q := 0) shX_0 (C := RX6) (T := TX6) (N := 8) rfl 4 (by decide) hf_34 rfl dX6_outcome_5 ?_
    obtain ⟨v5, e5, hf⟩ := ob_e1 hf
    refine ob_calli (va_runVN (As := []) (rest := []) ⟨hx, hb, hml, hown, hts⟩ (c_X0_moverPays l dC dI ad cI cZ hI 0 (Nat.le_refl _) g  v5 e5) ⟨va_cnB 0 hts gX6_outcome_X0_moverPays_n218 rfl rfl rfl (ob_nl hK nw_X6_218) hi_X0 hd_X0_moverPays (ob_R (Nat.le_trans (by decide) hd) (by decide)), hin_X0_moverPays, hse_X0_moverPays⟩ (ob_preV hK hM (q := 17) shX_17 rfl) rfl rfl hl.1 rfl (lv_room (Nat.le_of_ble_eq_true rfl)) dX6_outcome_8 ⟨Nat.le_refl _, Nat.le_refl _⟩) hS (fun H locs hM hS => ?_)
    refine lv_if_eq (tgt := 18) hx hb dX6_outcome_11 (by decide) (fun c6 => ?_) (fun c6 => ?_)
    · rw [if_pos c6] at hf
      refine lv_iload_n hx hb dX6_outcome_18 rfl (lv_at hl 2 rfl) ?_
      exact ob_iretR hx hb hr hlocks hM hS (v := x2) rfl hf dX6_outcome_19
    · rw [if_neg c6] at hf
      refine lv_iload_n hx hb dX6_outcome_14 rfl (lv_at hl 1 rfl) ?_
      refine lv_goto (tgt := 19) hx hb dX6_outcome_15 (by decide) ?_
      exact ob_iretR hx hb hr hlocks hM hS (v := x1) rfl hf dX6_outcome_19
set_option maxHeartbeats 4000000 in
set_option maxRecDepth 100000 in
theorem c_X6_match (l : Launch) (dC : Nat → ClassId) (dI : Nat → Nat → Nat) (ad : Nat → Nat) (cI cZ : ClassId) (hI : ob_inj shX ad) (d : Nat) (hd : 28 ≤ d) (g : Mm) (x1 x2 x3 : Int32) (r : Int32) (t : Mm) (hf : f_X6_match g x1 x2 x3 = some (r, t)) : ob_Mi l yX6_match wsX6_match d (dC, dI) vwCl shX ad cI cZ nwX [.ref (ad 0), .int x1, .int x2, .int x3] g r t := by
  refine ob_ofW (cc := cX6_match) (maxL := 5) (ret := (some .int)) (by decide) rfl ?_
  intro p e s m args below meth c ha hx hb hr hml hts hown hlocks hM0 hK hS0
  have hown : s.vm.findClass RX6 = some m.cls := hown
  have in_own : ∀ w ∈ wsX60, w ∈ wsX6_match := fun w h => (List.mem_cons_of_mem _ (List.mem_append_left _ (List.mem_append_left _ (List.mem_append_right _ h))))
  have hf_19 := hts (.fieldLink RX6 19 "OneWorse" "town" "LOneWorse$Town;") (List.mem_cons_of_mem _ (List.mem_append_left _ (List.mem_append_left _ (List.mem_append_left _ (List.mem_append_left _ (List.mem_of_getElem? (i := 0) rfl))))))
  have hi_X4 := hts (.initialized RX4) (List.mem_cons_of_mem _ (List.mem_append_left _ (List.mem_append_left _ (List.mem_append_left _ (List.mem_append_left _ (List.mem_of_getElem? (i := 13) rfl))))))
  have hin_X4_sayable := hts (.instanceMethod yX4_sayable) (List.mem_cons_of_mem _ (List.mem_append_left _ (List.mem_append_left _ (List.mem_append_left _ (List.mem_append_left _ (List.mem_of_getElem? (i := 12) rfl))))))
  have hse_X4_sayable := hts (.selects RX4 yX4_sayable yX4_sayable) (List.mem_cons_of_mem _ (List.mem_append_left _ (List.mem_append_left _ (List.mem_append_left _ (List.mem_append_left _ (List.mem_of_getElem? (i := 14) rfl))))))
  have hf_34 := hts (.fieldLink RX6 34 "OneWorse" "contest" "LOneWorse$Contest;") (List.mem_cons_of_mem _ (List.mem_append_left _ (List.mem_append_left _ (List.mem_append_left _ (List.mem_append_left _ (List.mem_of_getElem? (i := 1) rfl))))))
  have hi_X0 := hts (.initialized RX0) (List.mem_cons_of_mem _ (List.mem_append_left _ (List.mem_append_left _ (List.mem_append_left _ (List.mem_append_right _ (List.mem_append_left _ (List.mem_of_getElem? (i := 14) rfl)))))))
  have hin_X0_fight := hts (.instanceMethod yX0_fight) (List.mem_cons_of_mem _ (List.mem_append_left _ (List.mem_append_left _ (List.mem_append_left _ (List.mem_append_right _ (List.mem_append_left _ (List.mem_of_getElem? (i := 13) rfl)))))))
  have hse_X0_fight := hts (.selects RX0 yX0_fight yX0_fight) (List.mem_cons_of_mem _ (List.mem_append_left _ (List.mem_append_left _ (List.mem_append_left _ (List.mem_append_right _ (List.mem_append_left _ (List.mem_of_getElem? (i := 15) rfl)))))))
  have w_60 : ∀ (g : Mm) (x1 x2 x3 s0 s1 s2 s3 s4 : Int32) (H : Heap) (locs : List Loc), va_P (dC, dI) vwCl (ob_ws shX ad cI cZ g) H → va_S (ob_A shX ad) s.heap H locs → ∀ (ls : Array Slot), lv_has ls 5 [(0, .ref (ad 0)), (1, .int x1), (2, .int x2), (3, .int x3)] → f_X6_match_J60 g x1 x2 x3 s0 s1 s2 s3 s4 = some (r, t) → W p l e (rmN d) s m args below meth c H locs 0 0 (MQ below (ob_Qi (dC, dI) vwCl shX ad cI cZ r t) args s 0 0 (ob_A shX ad)) (F0 m 60 ls [.int s0, .int s1, .int s2, .int s3, .int s4, .ref (ad 17)]) := by
    intro g x1 x2 x3 s0 s1 s2 s3 s4 H locs hM hS ls hl hf
    unfold f_X6_match_J60 at hf
    obtain ⟨g8, e8, hf⟩ := ob_e1 hf
    refine ob_callv (va_runVN (As := [.int s4, .int s3, .int s2, .int s1, .int s0]) (rest := []) ⟨hx, hb, hml, hown, hts⟩ (c_X0_fight l dC dI ad cI cZ hI 27 (Nat.le_refl _) g s4 s3 s2 s1 s0  g8 e8) ⟨va_cnB 5 hts gX6_match_X0_fight_n144 rfl rfl rfl (ob_nl hK nw_X6_144) hi_X0 hd_X0_fight (ob_R (Nat.le_trans (by decide) hd) (by decide)), hin_X0_fight, hse_X0_fight⟩ (ob_preV hK hM (q := 17) shX_17 rfl) rfl rfl hl.1 rfl (lv_room (Nat.le_of_ble_eq_true rfl)) dX6_match_60 ⟨Nat.le_refl _, Nat.le_refl _⟩) hS (fun H locs hM hS => ?_)
    refine lv_aload_n hx hb dX6_match_63 rfl (lv_at hl 0 rfl) ?_
    refine lv_iload_n hx hb dX6_match_64 rfl (lv_at hl 1 rfl) ?_
    refine lv_iload_n hx hb dX6_match_65 rfl (lv_at hl 2 rfl) ?_
    refine lv_iload_n hx hb dX6_match_66 rfl (lv_at hl 3 rfl) ?_
    obtain ⟨v9, e9, hf⟩ := ob_e1 hf
    refine ob_calli (va_runV (As := [.int x1, .int x2, .int x3]) (rest := []) ⟨hx, hb, hml, hown, hts⟩ (c_X6_outcome l dC dI ad cI cZ hI 1 (Nat.le_refl _) g8 x1 x2 x3  v9 e9) (cwV 3 hts gX6_match_X6_outcome rfl rfl rfl ⟨rfl, hd_X6_outcome⟩ (ob_R (Nat.le_trans (by decide) hd) (by decide))) (ob_preV hK hM (q := 0) shX_0 rfl) rfl rfl hl.1 rfl (lv_room (Nat.le_of_ble_eq_true rfl)) dX6_match_67 ⟨Nat.le_refl _, Nat.le_refl _⟩) hS (fun H locs hM hS => ?_)
    exact ob_iret hx hb hr hlocks hM hS (v := v9) rfl hf dX6_match_70
  subst ha
  have hl := lv_entry ([.ref (ad 0), .int x1, .int x2, .int x3]) (n := 5) (Nat.le_of_ble_eq_true rfl)
  rw [lg_entry_eq]
  generalize (lg_sl ([.ref (ad 0), .int x1, .int x2, .int x3]) ++ List.replicate (5 - (lg_sl ([.ref (ad 0), .int x1, .int x2, .int x3])).length) Slot.unset).toArray = ls at hl ⊢
  have hl : lv_has ls 5 [(0, .ref (ad 0)), (1, .int x1), (2, .int x2), (3, .int x3)] := hl
  have hM := hM0
  have hS := hS0
  unfold f_X6_match at hf
  refine lv_iload_n hx hb dX6_match_0 rfl (lv_at hl 1 rfl) ?_
  refine lv_iload_n hx hb dX6_match_1 rfl (lv_at hl 2 rfl) ?_
  obtain ⟨v1, e1, hf⟩ := ob_e1 hf
  refine ob_calli (va_runS (As := [.int x1, .int x2]) (rest := []) ⟨hx, hb, hml, hown, hts⟩ (c_X6_areTwo l dC dI ad cI cZ hI 2 (Nat.le_refl _) g x1 x2  v1 e1) (va_cwS 2 hts gX6_match_X6_areTwo rfl rfl rfl hd_X6_areTwo (ob_R (Nat.le_trans (by decide) hd) (by decide))) (ob_preS hK hM) rfl rfl hl.1 rfl (lv_room (Nat.le_of_ble_eq_true rfl)) dX6_match_2 ⟨Nat.le_refl _, Nat.le_refl _⟩) hS (fun H locs hM hS => ?_)
  refine lv_if_ne (tgt := 10) hx hb dX6_match_5 (by decide) (fun c2 => ?_) (fun c2 => ?_)
  · rw [if_neg c2] at hf
    refine lv_iload_n hx hb dX6_match_10 rfl (lv_at hl 3 rfl) ?_
    refine lv_iconst (v := 0) hx hb dX6_match_11 (by decide) ?_
    refine lv_iconst (v := 2) hx hb dX6_match_12 (by decide) ?_
    obtain ⟨v3, e3, hf⟩ := ob_e1 hf
    refine ob_calli (va_runS (As := [.int x3, .int 0, .int 2]) (rest := []) ⟨hx, hb, hml, hown, hts⟩ (c_X6_within l dC dI ad cI cZ hI 0 (Nat.le_refl _) g x3 0 2  v3 e3) (va_cwS 3 hts gX6_match_X6_within rfl rfl rfl hd_X6_within (ob_R (Nat.le_trans (by decide) hd) (by decide))) (ob_preS hK hM) rfl rfl hl.1 rfl (lv_room (Nat.le_of_ble_eq_true rfl)) dX6_match_13 ⟨Nat.le_refl _, Nat.le_refl _⟩) hS (fun H locs hM hS => ?_)
    refine lv_if_ne (tgt := 22) hx hb dX6_match_16 (by decide) (fun c4 => ?_) (fun c4 => ?_)
    · rw [if_neg c4] at hf
      refine lv_aload_n hx hb dX6_match_22 rfl (lv_at hl 0 rfl) ?_
      refine ob_gr (j := 2) hx hb hts in_own hown hK hM (q := 0) shX_0 (C := RX6) (T := TX6) (N := 8) rfl 1 (by decide) hf_19 rfl dX6_match_23 ?_
      refine lv_iload_n hx hb dX6_match_26 rfl (lv_at hl 1 rfl) ?_
      refine lv_iload_n hx hb dX6_match_27 rfl (lv_at hl 2 rfl) ?_
      obtain ⟨v5, e5, hf⟩ := ob_e1 hf
      refine ob_calli (va_runVN (As := [.int x1, .int x2]) (rest := []) ⟨hx, hb, hml, hown, hts⟩ (c_X4_sayable l dC dI ad cI cZ hI 3 (Nat.le_refl _) 2 isTown_2 g x1 x2  v5 e5) ⟨va_cnB 2 hts gX6_match_X4_sayable_n140 rfl rfl rfl (ob_nl hK nw_X6_140) hi_X4 hd_X4_sayable (ob_R (Nat.le_trans (by decide) hd) (by decide)), hin_X4_sayable, hse_X4_sayable⟩ (ob_preV hK hM (q := 2) shX_2 rfl) rfl rfl hl.1 rfl (lv_room (Nat.le_of_ble_eq_true rfl)) dX6_match_28 ⟨Nat.le_refl _, Nat.le_refl _⟩) hS (fun H locs hM hS => ?_)
      refine lv_istore (lv' := [(4, .int v5), (0, .ref (ad 0)), (1, .int x1), (2, .int x2), (3, .int x3)]) hx hb dX6_match_31 hl (by decide) rfl (fun ls hl => ?_)
      refine lv_aload_n hx hb dX6_match_33 rfl (lv_at hl 1 rfl) ?_
      refine ob_gr (j := 17) hx hb hts in_own hown hK hM (q := 0) shX_0 (C := RX6) (T := TX6) (N := 8) rfl 4 (by decide) hf_34 rfl dX6_match_34 ?_
      refine lv_iload hx hb dX6_match_37 (lv_at hl 0 rfl) ?_
      refine lv_iconst (v := 0) hx hb dX6_match_39 (by decide) ?_
      refine lv_iload hx hb dX6_match_40 (lv_at hl 0 rfl) ?_
      refine lv_aload_n hx hb dX6_match_42 rfl (lv_at hl 1 rfl) ?_
      refine ob_gr (j := 2) hx hb hts in_own hown hK hM (q := 0) shX_0 (C := RX6) (T := TX6) (N := 8) rfl 1 (by decide) hf_19 rfl dX6_match_43 ?_
      refine lv_iload_n hx hb dX6_match_46 rfl (lv_at hl 3 rfl) ?_
      refine lv_iload_n hx hb dX6_match_47 rfl (lv_at hl 2 rfl) ?_
      obtain ⟨v6, e6, hf⟩ := ob_e1 hf
      refine ob_calli (va_runVN (As := [.int x2, .int x1]) (rest := [.int v5, .int 0, .int v5, .ref (ad 17)]) ⟨hx, hb, hml, hown, hts⟩ (c_X4_sayable l dC dI ad cI cZ hI 3 (Nat.le_refl _) 2 isTown_2 g x2 x1  v6 e6) ⟨va_cnB 2 hts gX6_match_X4_sayable_n140 rfl rfl rfl (ob_nl hK nw_X6_140) hi_X4 hd_X4_sayable (ob_R (Nat.le_trans (by decide) hd) (by decide)), hin_X4_sayable, hse_X4_sayable⟩ (ob_preV hK hM (q := 2) shX_2 rfl) rfl rfl hl.1 rfl (lv_room (Nat.le_of_ble_eq_true rfl)) dX6_match_48 ⟨Nat.le_refl _, Nat.le_refl _⟩) hS (fun H locs hM hS => ?_)
      refine lv_iload_n hx hb dX6_match_51 rfl (lv_at hl 4 rfl) ?_
      refine lv_if_ne (tgt := 59) hx hb dX6_match_52 (by decide) (fun c7 => ?_) (fun c7 => ?_)
      · rw [if_neg c7] at hf
        refine lv_iconst (v := 0) hx hb dX6_match_59 (by decide) ?_
        exact w_60 g x1 x2 x3 0 v6 v5 0 v5 _ _ hM hS _ (lv_sub hl [1, 2, 3, 4] rfl) hf
      · rw [if_pos c7] at hf
        refine lv_iconst (v := 1) hx hb dX6_match_55 (by decide) ?_
        refine lv_goto (tgt := 60) hx hb dX6_match_56 (by decide) ?_
        exact w_60 g x1 x2 x3 1 v6 v5 0 v5 _ _ hM hS _ (lv_sub hl [1, 2, 3, 4] rfl) hf
    · rw [if_pos c4] at hf
      refine lv_bipush (v := (-2)) hx hb dX6_match_19 (by decide) ?_
      exact ob_iret hx hb hr hlocks hM hS (v := (-2)) rfl hf dX6_match_21
  · rw [if_pos c2] at hf
    refine lv_iconst (v := (-1)) hx hb dX6_match_8 (by decide) ?_
    exact ob_iret hx hb hr hlocks hM hS (v := (-1)) rfl hf dX6_match_9
set_option maxHeartbeats 4000000 in
set_option maxRecDepth 100000 in
theorem c_X6_middle (l : Launch) (dC : Nat → ClassId) (dI : Nat → Nat → Nat) (ad : Nat → Nat) (cI cZ : ClassId) (hI : ob_inj shX ad) (d : Nat) (hd : 28 ≤ d) (g : Mm) (x1 x2 x3 x4 x5 : Int32) (r : Int32) (t : Mm) (hf : f_X6_middle g x1 x2 x3 x4 x5 = some (r, t)) : ob_Mi l yX6_middle wsX6_middle d (dC, dI) vwCl shX ad cI cZ nwX [.ref (ad 0), .int x1, .int x2, .int x3, .int x4, .int x5] g r t := by
  refine ob_ofW (cc := cX6_middle) (maxL := 8) (ret := (some .int)) (by decide) rfl ?_
  intro p e s m args below meth c ha hx hb hr hml hts hown hlocks hM0 hK hS0
  have hown : s.vm.findClass RX6 = some m.cls := hown
  have in_own : ∀ w ∈ wsX60, w ∈ wsX6_middle := fun w h => (List.mem_cons_of_mem _ (List.mem_append_left _ (List.mem_append_left _ (List.mem_append_right _ h))))
  have hf_19 := hts (.fieldLink RX6 19 "OneWorse" "town" "LOneWorse$Town;") (List.mem_cons_of_mem _ (List.mem_append_left _ (List.mem_append_left _ (List.mem_append_left _ (List.mem_append_left _ (List.mem_of_getElem? (i := 0) rfl))))))
  have hi_X4 := hts (.initialized RX4) (List.mem_cons_of_mem _ (List.mem_append_left _ (List.mem_append_left _ (List.mem_append_left _ (List.mem_append_left _ (List.mem_of_getElem? (i := 19) rfl))))))
  have hin_X4_sayable := hts (.instanceMethod yX4_sayable) (List.mem_cons_of_mem _ (List.mem_append_left _ (List.mem_append_left _ (List.mem_append_left _ (List.mem_append_left _ (List.mem_of_getElem? (i := 18) rfl))))))
  have hse_X4_sayable := hts (.selects RX4 yX4_sayable yX4_sayable) (List.mem_cons_of_mem _ (List.mem_append_left _ (List.mem_append_left _ (List.mem_append_left _ (List.mem_append_left _ (List.mem_of_getElem? (i := 20) rfl))))))
  have hin_X4_worseThan := hts (.instanceMethod yX4_worseThan) (List.mem_cons_of_mem _ (List.mem_append_left _ (List.mem_append_left _ (List.mem_append_left _ (List.mem_append_right _ (List.mem_append_left _ (List.mem_of_getElem? (i := 19) rfl)))))))
  have hse_X4_worseThan := hts (.selects RX4 yX4_worseThan yX4_worseThan) (List.mem_cons_of_mem _ (List.mem_append_left _ (List.mem_append_left _ (List.mem_append_left _ (List.mem_append_right _ (List.mem_append_left _ (List.mem_of_getElem? (i := 20) rfl)))))))
  have hf_34 := hts (.fieldLink RX6 34 "OneWorse" "contest" "LOneWorse$Contest;") (List.mem_cons_of_mem _ (List.mem_append_left _ (List.mem_append_left _ (List.mem_append_left _ (List.mem_append_left _ (List.mem_of_getElem? (i := 1) rfl))))))
  have hi_X0 := hts (.initialized RX0) (List.mem_cons_of_mem _ (List.mem_append_left _ (List.mem_append_left _ (List.mem_append_left _ (List.mem_append_right _ (List.mem_append_right _ (List.mem_append_left _ (List.mem_of_getElem? (i := 0) rfl))))))))
  have hin_X0_fight := hts (.instanceMethod yX0_fight) (List.mem_cons_of_mem _ (List.mem_append_left _ (List.mem_append_left _ (List.mem_append_left _ (List.mem_append_right _ (List.mem_append_left _ (List.mem_of_getElem? (i := 23) rfl)))))))
  have hse_X0_fight := hts (.selects RX0 yX0_fight yX0_fight) (List.mem_cons_of_mem _ (List.mem_append_left _ (List.mem_append_left _ (List.mem_append_left _ (List.mem_append_right _ (List.mem_append_right _ (List.mem_append_left _ (List.mem_of_getElem? (i := 1) rfl))))))))
  have w_112 : ∀ (g : Mm) (x1 x2 x5 s0 s1 s2 s3 s4 : Int32) (H : Heap) (locs : List Loc), va_P (dC, dI) vwCl (ob_ws shX ad cI cZ g) H → va_S (ob_A shX ad) s.heap H locs → ∀ (ls : Array Slot), lv_has ls 8 [(0, .ref (ad 0)), (1, .int x1), (2, .int x2), (5, .int x5)] → f_X6_middle_J112 g x1 x2 x5 s0 s1 s2 s3 s4 = some (r, t) → W p l e (rmN d) s m args below meth c H locs 0 0 (MQ below (ob_Qi (dC, dI) vwCl shX ad cI cZ r t) args s 0 0 (ob_A shX ad)) (F0 m 112 ls [.int s0, .int s1, .int s2, .int s3, .int s4, .ref (ad 17)]) := by
    intro g x1 x2 x5 s0 s1 s2 s3 s4 H locs hM hS ls hl hf
    unfold f_X6_middle_J112 at hf
    obtain ⟨g15, e15, hf⟩ := ob_e1 hf
    refine ob_callv (va_runVN (As := [.int s4, .int s3, .int s2, .int s1, .int s0]) (rest := []) ⟨hx, hb, hml, hown, hts⟩ (c_X0_fight l dC dI ad cI cZ hI 27 (Nat.le_refl _) g s4 s3 s2 s1 s0  g15 e15) ⟨va_cnB 5 hts gX6_middle_X0_fight_n144 rfl rfl rfl (ob_nl hK nw_X6_144) hi_X0 hd_X0_fight (ob_R (Nat.le_trans (by decide) hd) (by decide)), hin_X0_fight, hse_X0_fight⟩ (ob_preV hK hM (q := 17) shX_17 rfl) rfl rfl hl.1 rfl (lv_room (Nat.le_of_ble_eq_true rfl)) dX6_middle_112 ⟨Nat.le_refl _, Nat.le_refl _⟩) hS (fun H locs hM hS => ?_)
    refine lv_aload_n hx hb dX6_middle_115 rfl (lv_at hl 0 rfl) ?_
    refine lv_iload_n hx hb dX6_middle_116 rfl (lv_at hl 1 rfl) ?_
    refine lv_iload_n hx hb dX6_middle_117 rfl (lv_at hl 2 rfl) ?_
    refine lv_iload hx hb dX6_middle_118 (lv_at hl 3 rfl) ?_
    obtain ⟨v16, e16, hf⟩ := ob_e1 hf
    refine ob_calli (va_runV (As := [.int x1, .int x2, .int x5]) (rest := []) ⟨hx, hb, hml, hown, hts⟩ (c_X6_outcome l dC dI ad cI cZ hI 1 (Nat.le_refl _) g15 x1 x2 x5  v16 e16) (cwV 3 hts gX6_middle_X6_outcome rfl rfl rfl ⟨rfl, hd_X6_outcome⟩ (ob_R (Nat.le_trans (by decide) hd) (by decide))) (ob_preV hK hM (q := 0) shX_0 rfl) rfl rfl hl.1 rfl (lv_room (Nat.le_of_ble_eq_true rfl)) dX6_middle_120 ⟨Nat.le_refl _, Nat.le_refl _⟩) hS (fun H locs hM hS => ?_)
    exact ob_iret hx hb hr hlocks hM hS (v := v16) rfl hf dX6_middle_123
  subst ha
  have hl := lv_entry ([.ref (ad 0), .int x1, .int x2, .int x3, .int x4, .int x5]) (n := 8) (Nat.le_of_ble_eq_true rfl)
  rw [lg_entry_eq]
  generalize (lg_sl ([.ref (ad 0), .int x1, .int x2, .int x3, .int x4, .int x5]) ++ List.replicate (8 - (lg_sl ([.ref (ad 0), .int x1, .int x2, .int x3, .int x4, .int x5])).length) Slot.unset).toArray = ls at hl ⊢
  have hl : lv_has ls 8 [(0, .ref (ad 0)), (1, .int x1), (2, .int x2), (3, .int x3), (4, .int x4), (5, .int x5)] := hl
  have hM := hM0
  have hS := hS0
  unfold f_X6_middle at hf
  refine lv_iload_n hx hb dX6_middle_0 rfl (lv_at hl 1 rfl) ?_
  refine lv_iload_n hx hb dX6_middle_1 rfl (lv_at hl 2 rfl) ?_
  obtain ⟨v1, e1, hf⟩ := ob_e1 hf
  refine ob_calli (va_runS (As := [.int x1, .int x2]) (rest := []) ⟨hx, hb, hml, hown, hts⟩ (c_X6_areTwo l dC dI ad cI cZ hI 2 (Nat.le_refl _) g x1 x2  v1 e1) (va_cwS 2 hts gX6_middle_X6_areTwo rfl rfl rfl hd_X6_areTwo (ob_R (Nat.le_trans (by decide) hd) (by decide))) (ob_preS hK hM) rfl rfl hl.1 rfl (lv_room (Nat.le_of_ble_eq_true rfl)) dX6_middle_2 ⟨Nat.le_refl _, Nat.le_refl _⟩) hS (fun H locs hM hS => ?_)
  refine lv_if_eq (tgt := 15) hx hb dX6_middle_5 (by decide) (fun c2 => ?_) (fun c2 => ?_)
  · rw [if_pos c2] at hf
    refine lv_iconst (v := (-1)) hx hb dX6_middle_15 (by decide) ?_
    exact ob_iret hx hb hr hlocks hM hS (v := (-1)) rfl hf dX6_middle_16
  · rw [if_neg c2] at hf
    refine lv_iload_n hx hb dX6_middle_8 rfl (lv_at hl 3 rfl) ?_
    obtain ⟨v3, e3, hf⟩ := ob_e1 hf
    refine ob_calli (va_runS (As := [.int x3]) (rest := []) ⟨hx, hb, hml, hown, hts⟩ (c_X6_isInsult l dC dI ad cI cZ hI 1 (Nat.le_refl _) g x3  v3 e3) (va_cwS 1 hts gX6_middle_X6_isInsult rfl rfl rfl hd_X6_isInsult (ob_R (Nat.le_trans (by decide) hd) (by decide))) (ob_preS hK hM) rfl rfl hl.1 rfl (lv_room (Nat.le_of_ble_eq_true rfl)) dX6_middle_9 ⟨Nat.le_refl _, Nat.le_refl _⟩) hS (fun H locs hM hS => ?_)
    refine lv_if_ne (tgt := 17) hx hb dX6_middle_12 (by decide) (fun c4 => ?_) (fun c4 => ?_)
    · rw [if_neg c4] at hf
      refine lv_iload hx hb dX6_middle_17 (lv_at hl 4 rfl) ?_
      refine lv_iconst (v := 0) hx hb dX6_middle_19 (by decide) ?_
      refine lv_sipush (v := 1023) hx hb dX6_middle_20 (by decide) ?_
      obtain ⟨v5, e5, hf⟩ := ob_e1 hf
      refine ob_calli (va_runS (As := [.int x4, .int 0, .int 1023]) (rest := []) ⟨hx, hb, hml, hown, hts⟩ (c_X6_within l dC dI ad cI cZ hI 0 (Nat.le_refl _) g x4 0 1023  v5 e5) (va_cwS 3 hts gX6_middle_X6_within rfl rfl rfl hd_X6_within (ob_R (Nat.le_trans (by decide) hd) (by decide))) (ob_preS hK hM) rfl rfl hl.1 rfl (lv_room (Nat.le_of_ble_eq_true rfl)) dX6_middle_23 ⟨Nat.le_refl _, Nat.le_refl _⟩) hS (fun H locs hM hS => ?_)
      refine lv_if_eq (tgt := 38) hx hb dX6_middle_26 (by decide) (fun c6 => ?_) (fun c6 => ?_)
      · rw [if_pos c6] at hf
        refine lv_bipush (v := (-2)) hx hb dX6_middle_38 (by decide) ?_
        exact ob_iret hx hb hr hlocks hM hS (v := (-2)) rfl hf dX6_middle_40
      · rw [if_neg c6] at hf
        refine lv_iload hx hb dX6_middle_29 (lv_at hl 4 rfl) ?_
        refine lv_iload_n hx hb dX6_middle_31 rfl (lv_at hl 3 rfl) ?_
        obtain ⟨v7, e7, hf⟩ := ob_e1 hf
        refine ob_calli (va_runS (As := [.int x4, .int x3]) (rest := []) ⟨hx, hb, hml, hown, hts⟩ (c_X6_has l dC dI ad cI cZ hI 0 (Nat.le_refl _) g x4 x3  v7 e7) (va_cwS 2 hts gX6_middle_X6_has rfl rfl rfl hd_X6_has (ob_R (Nat.le_trans (by decide) hd) (by decide))) (ob_preS hK hM) rfl rfl hl.1 rfl (lv_room (Nat.le_of_ble_eq_true rfl)) dX6_middle_32 ⟨Nat.le_refl _, Nat.le_refl _⟩) hS (fun H locs hM hS => ?_)
        refine lv_if_ne (tgt := 41) hx hb dX6_middle_35 (by decide) (fun c8 => ?_) (fun c8 => ?_)
        · rw [if_neg c8] at hf
          refine lv_iload hx hb dX6_middle_41 (lv_at hl 5 rfl) ?_
          refine lv_iconst (v := 0) hx hb dX6_middle_43 (by decide) ?_
          refine lv_iconst (v := 2) hx hb dX6_middle_44 (by decide) ?_
          obtain ⟨v9, e9, hf⟩ := ob_e1 hf
          refine ob_calli (va_runS (As := [.int x5, .int 0, .int 2]) (rest := []) ⟨hx, hb, hml, hown, hts⟩ (c_X6_within l dC dI ad cI cZ hI 0 (Nat.le_refl _) g x5 0 2  v9 e9) (va_cwS 3 hts gX6_middle_X6_within rfl rfl rfl hd_X6_within (ob_R (Nat.le_trans (by decide) hd) (by decide))) (ob_preS hK hM) rfl rfl hl.1 rfl (lv_room (Nat.le_of_ble_eq_true rfl)) dX6_middle_45 ⟨Nat.le_refl _, Nat.le_refl _⟩) hS (fun H locs hM hS => ?_)
          refine lv_if_ne (tgt := 54) hx hb dX6_middle_48 (by decide) (fun c10 => ?_) (fun c10 => ?_)
          · rw [if_neg c10] at hf
            refine lv_aload_n hx hb dX6_middle_54 rfl (lv_at hl 0 rfl) ?_
            refine ob_gr (j := 2) hx hb hts in_own hown hK hM (q := 0) shX_0 (C := RX6) (T := TX6) (N := 8) rfl 1 (by decide) hf_19 rfl dX6_middle_55 ?_
            refine lv_iload_n hx hb dX6_middle_58 rfl (lv_at hl 1 rfl) ?_
            refine lv_iload_n hx hb dX6_middle_59 rfl (lv_at hl 2 rfl) ?_
            obtain ⟨v11, e11, hf⟩ := ob_e1 hf
            refine ob_calli (va_runVN (As := [.int x1, .int x2]) (rest := []) ⟨hx, hb, hml, hown, hts⟩ (c_X4_sayable l dC dI ad cI cZ hI 3 (Nat.le_refl _) 2 isTown_2 g x1 x2  v11 e11) ⟨va_cnB 2 hts gX6_middle_X4_sayable_n140 rfl rfl rfl (ob_nl hK nw_X6_140) hi_X4 hd_X4_sayable (ob_R (Nat.le_trans (by decide) hd) (by decide)), hin_X4_sayable, hse_X4_sayable⟩ (ob_preV hK hM (q := 2) shX_2 rfl) rfl rfl hl.1 rfl (lv_room (Nat.le_of_ble_eq_true rfl)) dX6_middle_60 ⟨Nat.le_refl _, Nat.le_refl _⟩) hS (fun H locs hM hS => ?_)
            refine lv_istore (lv' := [(6, .int v11), (0, .ref (ad 0)), (1, .int x1), (2, .int x2), (3, .int x3), (4, .int x4), (5, .int x5)]) hx hb dX6_middle_63 hl (by decide) rfl (fun ls hl => ?_)
            refine lv_iload hx hb dX6_middle_65 (lv_at hl 0 rfl) ?_
            refine lv_aload_n hx hb dX6_middle_67 rfl (lv_at hl 1 rfl) ?_
            refine ob_gr (j := 2) hx hb hts in_own hown hK hM (q := 0) shX_0 (C := RX6) (T := TX6) (N := 8) rfl 1 (by decide) hf_19 rfl dX6_middle_68 ?_
            refine lv_iload_n hx hb dX6_middle_71 rfl (lv_at hl 4 rfl) ?_
            obtain ⟨v12, e12, hf⟩ := ob_e1 hf
            refine ob_calli (va_runVN (As := [.int x3]) (rest := [.int v11]) ⟨hx, hb, hml, hown, hts⟩ (c_X4_worseThan l dC dI ad cI cZ hI 1 (Nat.le_refl _) 2 isTown_2 g x3  v12 e12) ⟨va_cnB 1 hts gX6_middle_X4_worseThan_n102 rfl rfl rfl (ob_nl hK nw_X6_102) hi_X4 hd_X4_worseThan (ob_R (Nat.le_trans (by decide) hd) (by decide)), hin_X4_worseThan, hse_X4_worseThan⟩ (ob_preV hK hM (q := 2) shX_2 rfl) rfl rfl hl.1 rfl (lv_room (Nat.le_of_ble_eq_true rfl)) dX6_middle_72 ⟨Nat.le_refl _, Nat.le_refl _⟩) hS (fun H locs hM hS => ?_)
            refine lv_iand hx hb dX6_middle_75 ?_
            refine lv_iload hx hb dX6_middle_76 (lv_at hl 5 rfl) ?_
            refine lv_iconst (v := (-1)) hx hb dX6_middle_78 (by decide) ?_
            refine lv_ixor hx hb dX6_middle_79 ?_
            refine lv_iand hx hb dX6_middle_80 ?_
            refine lv_istore (lv' := [(7, .int ((v11 &&& v12) &&& (x4 ^^^ (-1)))), (6, .int v11), (0, .ref (ad 0)), (1, .int x1), (2, .int x2), (3, .int x3), (4, .int x4), (5, .int x5)]) hx hb dX6_middle_81 hl (by decide) rfl (fun ls hl => ?_)
            refine lv_aload_n hx hb dX6_middle_83 rfl (lv_at hl 2 rfl) ?_
            refine ob_gr (j := 17) hx hb hts in_own hown hK hM (q := 0) shX_0 (C := RX6) (T := TX6) (N := 8) rfl 4 (by decide) hf_34 rfl dX6_middle_84 ?_
            refine lv_iload hx hb dX6_middle_87 (lv_at hl 0 rfl) ?_
            refine lv_iload hx hb dX6_middle_89 (lv_at hl 6 rfl) ?_
            refine lv_iload hx hb dX6_middle_91 (lv_at hl 1 rfl) ?_
            refine lv_aload_n hx hb dX6_middle_93 rfl (lv_at hl 2 rfl) ?_
            refine ob_gr (j := 2) hx hb hts in_own hown hK hM (q := 0) shX_0 (C := RX6) (T := TX6) (N := 8) rfl 1 (by decide) hf_19 rfl dX6_middle_94 ?_
            refine lv_iload_n hx hb dX6_middle_97 rfl (lv_at hl 4 rfl) ?_
            refine lv_iload_n hx hb dX6_middle_98 rfl (lv_at hl 3 rfl) ?_
            obtain ⟨v13, e13, hf⟩ := ob_e1 hf
            refine ob_calli (va_runVN (As := [.int x2, .int x1]) (rest := [.int v11, .int x4, .int ((v11 &&& v12) &&& (x4 ^^^ (-1))), .ref (ad 17)]) ⟨hx, hb, hml, hown, hts⟩ (c_X4_sayable l dC dI ad cI cZ hI 3 (Nat.le_refl _) 2 isTown_2 g x2 x1  v13 e13) ⟨va_cnB 2 hts gX6_middle_X4_sayable_n140 rfl rfl rfl (ob_nl hK nw_X6_140) hi_X4 hd_X4_sayable (ob_R (Nat.le_trans (by decide) hd) (by decide)), hin_X4_sayable, hse_X4_sayable⟩ (ob_preV hK hM (q := 2) shX_2 rfl) rfl rfl hl.1 rfl (lv_room (Nat.le_of_ble_eq_true rfl)) dX6_middle_99 ⟨Nat.le_refl _, Nat.le_refl _⟩) hS (fun H locs hM hS => ?_)
            refine lv_iload hx hb dX6_middle_102 (lv_at hl 7 rfl) ?_
            refine lv_if_ne (tgt := 111) hx hb dX6_middle_104 (by decide) (fun c14 => ?_) (fun c14 => ?_)
            · rw [if_neg c14] at hf
              refine lv_iconst (v := 0) hx hb dX6_middle_111 (by decide) ?_
              exact w_112 g x1 x2 x5 0 v13 v11 x4 ((v11 &&& v12) &&& (x4 ^^^ (-1))) _ _ hM hS _ (lv_sub hl [2, 3, 4, 7] rfl) hf
            · rw [if_pos c14] at hf
              refine lv_iconst (v := 1) hx hb dX6_middle_107 (by decide) ?_
              refine lv_goto (tgt := 112) hx hb dX6_middle_108 (by decide) ?_
              exact w_112 g x1 x2 x5 1 v13 v11 x4 ((v11 &&& v12) &&& (x4 ^^^ (-1))) _ _ hM hS _ (lv_sub hl [2, 3, 4, 7] rfl) hf
          · rw [if_pos c10] at hf
            refine lv_bipush (v := (-2)) hx hb dX6_middle_51 (by decide) ?_
            exact ob_iret hx hb hr hlocks hM hS (v := (-2)) rfl hf dX6_middle_53
        · rw [if_pos c8] at hf
          refine lv_bipush (v := (-2)) hx hb dX6_middle_38 (by decide) ?_
          exact ob_iret hx hb hr hlocks hM hS (v := (-2)) rfl hf dX6_middle_40
    · rw [if_pos c4] at hf
      refine lv_iconst (v := (-1)) hx hb dX6_middle_15 (by decide) ?_
      exact ob_iret hx hb hr hlocks hM hS (v := (-1)) rfl hf dX6_middle_16
set_option maxHeartbeats 4000000 in
set_option maxRecDepth 100000 in
theorem c_X0_spin (l : Launch) (dC : Nat → ClassId) (dI : Nat → Nat → Nat) (ad : Nat → Nat) (cI cZ : ClassId) (hI : ob_inj shX ad) (d : Nat) (hd : 27 ≤ d) (g : Mm) (x1 x2 x3 x4 : Int32) (t : Mm) (hf : f_X0_spin g x1 x2 x3 x4 = some t) : ob_Mv l yX0_spin wsX0_spin d (dC, dI) vwCl shX ad cI cZ nwX [.ref (ad 17), .int x1, .int x2, .int x3, .int x4] g t := by
  refine ob_ofW (cc := cX0_spin) (maxL := 5) (ret := none) (by decide) rfl ?_
  intro p e s m args below meth c ha hx hb hr hml hts hown hlocks hM0 hK hS0
  have hown : s.vm.findClass RX0 = some m.cls := hown
  have in_own : ∀ w ∈ wsX00, w ∈ wsX0_spin := fun w h => (List.mem_cons_of_mem _ (List.mem_append_left _ (List.mem_append_right _ h)))
  have hf_19 := hts (.fieldLink RX0 19 "OneWorse$Contest" "spinning" "Z") (List.mem_cons_of_mem _ (List.mem_append_left _ (List.mem_append_left _ (List.mem_append_left _ (List.mem_of_getElem? (i := 0) rfl)))))
  have hf_26 := hts (.fieldLink RX0 26 "OneWorse$Contest" "score" "I") (List.mem_cons_of_mem _ (List.mem_append_left _ (List.mem_append_left _ (List.mem_append_left _ (List.mem_of_getElem? (i := 1) rfl)))))
  subst ha
  have hl := lv_entry ([.ref (ad 17), .int x1, .int x2, .int x3, .int x4]) (n := 5) (Nat.le_of_ble_eq_true rfl)
  rw [lg_entry_eq]
  generalize (lg_sl ([.ref (ad 17), .int x1, .int x2, .int x3, .int x4]) ++ List.replicate (5 - (lg_sl ([.ref (ad 17), .int x1, .int x2, .int x3, .int x4])).length) Slot.unset).toArray = ls at hl ⊢
  have hl : lv_has ls 5 [(0, .ref (ad 17)), (1, .int x1), (2, .int x2), (3, .int x3), (4, .int x4)] := hl
  have hM := hM0
  have hS := hS0
  unfold f_X0_spin at hf
  refine lv_aload_n hx hb dX0_spin_0 rfl (lv_at hl 0 rfl) ?_
  refine lv_iconst (v := 1) hx hb dX0_spin_1 (by decide) ?_
  refine ob_pi hx hb hts in_own tyX0 tyX0_ok nmX0 hown hK hM hI hS (q := 17) shX_17 (C := RX0) (T := TX0) (N := 7) rfl 3 (by decide) hf_19 rfl rfl (ty := .boolean) (v := 1) (tyX0_ok 3 (by decide)) rfl rfl dX0_spin_2 (fun H locs hM hS => ?_)
  refine lv_aload_n hx hb dX0_spin_5 rfl (lv_at hl 0 rfl) ?_
  obtain ⟨g1, e1, hf⟩ := ob_e1 hf
  refine ob_callv (va_runV (As := []) (rest := []) ⟨hx, hb, hml, hown, hts⟩ (c_X0_forget l dC dI ad cI cZ hI 0 (Nat.le_refl _) (ob_up g 17 3 1)  g1 e1) (cwV 0 hts gX0_spin_X0_forget rfl rfl rfl ⟨rfl, hd_X0_forget⟩ (ob_R (Nat.le_trans (by decide) hd) (by decide))) (ob_preV hK hM (q := 17) shX_17 rfl) rfl rfl hl.1 rfl (lv_room (Nat.le_of_ble_eq_true rfl)) dX0_spin_6 ⟨Nat.le_refl _, Nat.le_refl _⟩) hS (fun H locs hM hS => ?_)
  refine lv_aload_n hx hb dX0_spin_9 rfl (lv_at hl 0 rfl) ?_
  refine lv_aload_n hx hb dX0_spin_10 rfl (lv_at hl 0 rfl) ?_
  refine lv_iload_n hx hb dX0_spin_11 rfl (lv_at hl 1 rfl) ?_
  refine lv_iload_n hx hb dX0_spin_12 rfl (lv_at hl 2 rfl) ?_
  refine lv_iload_n hx hb dX0_spin_13 rfl (lv_at hl 3 rfl) ?_
  refine lv_iload hx hb dX0_spin_14 (lv_at hl 4 rfl) ?_
  refine lv_iconst (v := 0) hx hb dX0_spin_16 (by decide) ?_
  obtain ⟨v2, g2, e2, hf⟩ := ob_e2 hf
  refine ob_calli (va_runV (As := [.int x1, .int x2, .int x3, .int x4, .int 0]) (rest := [.ref (ad 17)]) ⟨hx, hb, hml, hown, hts⟩ (cN_X0_best l dC dI ad cI cZ hI 12 g1 x1 x2 x3 x4 0  v2 g2 e2) (cwV 5 hts gX0_spin_X0_best rfl rfl rfl ⟨rfl, hd_X0_best⟩ (ob_R (Nat.le_trans (by decide) hd) (by decide))) (ob_preV hK hM (q := 17) shX_17 rfl) rfl rfl hl.1 rfl (lv_room (Nat.le_of_ble_eq_true rfl)) dX0_spin_17 ⟨Nat.le_refl _, Nat.le_refl _⟩) hS (fun H locs hM hS => ?_)
  refine ob_pi hx hb hts in_own tyX0 tyX0_ok nmX0 hown hK hM hI hS (q := 17) shX_17 (C := RX0) (T := TX0) (N := 7) rfl 5 (by decide) hf_26 rfl rfl (ty := .int) (v := v2) (tyX0_ok 5 (by decide)) rfl rfl dX0_spin_20 (fun H locs hM hS => ?_)
  exact ob_vret hx hb hr hlocks hM hS hf dX0_spin_23
set_option maxHeartbeats 4000000 in
set_option maxRecDepth 100000 in
theorem c_X0_spun (l : Launch) (dC : Nat → ClassId) (dI : Nat → Nat → Nat) (ad : Nat → Nat) (cI cZ : ClassId) (hI : ob_inj shX ad) (d : Nat) (hd : 0 ≤ d) (g : Mm) (r : Int32) (hf : f_X0_spun g = some r) : ob_Mi l yX0_spun wsX0_spun d (dC, dI) vwCl shX ad cI cZ nwX [.ref (ad 17)] g r g := by
  refine ob_ofW (cc := cX0_spun) (maxL := 1) (ret := (some .int)) (by decide) rfl ?_
  intro p e s m args below meth c ha hx hb hr hml hts hown hlocks hM0 hK hS0
  have hown : s.vm.findClass RX0 = some m.cls := hown
  have in_own : ∀ w ∈ wsX00, w ∈ wsX0_spun := fun w h => (List.mem_cons_of_mem _ (List.mem_append_right _ h))
  have hf_26 := hts (.fieldLink RX0 26 "OneWorse$Contest" "score" "I") (List.mem_cons_of_mem _ (List.mem_append_left _ (List.mem_of_getElem? (i := 0) rfl)))
  subst ha
  have hl := lv_entry ([.ref (ad 17)]) (n := 1) (Nat.le_of_ble_eq_true rfl)
  rw [lg_entry_eq]
  generalize (lg_sl ([.ref (ad 17)]) ++ List.replicate (1 - (lg_sl ([.ref (ad 17)])).length) Slot.unset).toArray = ls at hl ⊢
  have hl : lv_has ls 1 [(0, .ref (ad 17))] := hl
  have hM := hM0
  have hS := hS0
  unfold f_X0_spun at hf
  refine lv_aload_n hx hb dX0_spun_0 rfl (lv_at hl 0 rfl) ?_
  refine ob_gi hx hb hts in_own hown hK hM (q := 17) shX_17 (C := RX0) (T := TX0) (N := 7) rfl 5 (by decide) hf_26 rfl dX0_spun_1 ?_
  exact ob_iretR hx hb hr hlocks hM hS (v := (g 17 5)) rfl hf dX0_spun_4
set_option maxHeartbeats 4000000 in
set_option maxRecDepth 100000 in
theorem c_X6_last (l : Launch) (dC : Nat → ClassId) (dI : Nat → Nat → Nat) (ad : Nat → Nat) (cI cZ : ClassId) (hI : ob_inj shX ad) (d : Nat) (hd : 28 ≤ d) (g : Mm) (x1 x2 x3 : Int32) (r : Int32) (t : Mm) (hf : f_X6_last g x1 x2 x3 = some (r, t)) : ob_Mi l yX6_last wsX6_last d (dC, dI) vwCl shX ad cI cZ nwX [.ref (ad 0), .int x1, .int x2, .int x3] g r t := by
  refine ob_ofW (cc := cX6_last) (maxL := 5) (ret := (some .int)) (by decide) rfl ?_
  intro p e s m args below meth c ha hx hb hr hml hts hown hlocks hM0 hK hS0
  have hown : s.vm.findClass RX6 = some m.cls := hown
  have in_own : ∀ w ∈ wsX60, w ∈ wsX6_last := fun w h => (List.mem_cons_of_mem _ (List.mem_append_left _ (List.mem_append_left _ (List.mem_append_right _ h))))
  have hf_19 := hts (.fieldLink RX6 19 "OneWorse" "town" "LOneWorse$Town;") (List.mem_cons_of_mem _ (List.mem_append_left _ (List.mem_append_left _ (List.mem_append_left _ (List.mem_append_left _ (List.mem_of_getElem? (i := 0) rfl))))))
  have hi_X4 := hts (.initialized RX4) (List.mem_cons_of_mem _ (List.mem_append_left _ (List.mem_append_left _ (List.mem_append_left _ (List.mem_append_left _ (List.mem_of_getElem? (i := 13) rfl))))))
  have hin_X4_sayable := hts (.instanceMethod yX4_sayable) (List.mem_cons_of_mem _ (List.mem_append_left _ (List.mem_append_left _ (List.mem_append_left _ (List.mem_append_left _ (List.mem_of_getElem? (i := 12) rfl))))))
  have hse_X4_sayable := hts (.selects RX4 yX4_sayable yX4_sayable) (List.mem_cons_of_mem _ (List.mem_append_left _ (List.mem_append_left _ (List.mem_append_left _ (List.mem_append_left _ (List.mem_of_getElem? (i := 14) rfl))))))
  have hf_34 := hts (.fieldLink RX6 34 "OneWorse" "contest" "LOneWorse$Contest;") (List.mem_cons_of_mem _ (List.mem_append_left _ (List.mem_append_left _ (List.mem_append_left _ (List.mem_append_left _ (List.mem_of_getElem? (i := 1) rfl))))))
  have hi_X0 := hts (.initialized RX0) (List.mem_cons_of_mem _ (List.mem_append_left _ (List.mem_append_left _ (List.mem_append_left _ (List.mem_append_right _ (List.mem_append_left _ (List.mem_of_getElem? (i := 14) rfl)))))))
  have hin_X0_spin := hts (.instanceMethod yX0_spin) (List.mem_cons_of_mem _ (List.mem_append_left _ (List.mem_append_left _ (List.mem_append_left _ (List.mem_append_right _ (List.mem_append_left _ (List.mem_of_getElem? (i := 13) rfl)))))))
  have hse_X0_spin := hts (.selects RX0 yX0_spin yX0_spin) (List.mem_cons_of_mem _ (List.mem_append_left _ (List.mem_append_left _ (List.mem_append_left _ (List.mem_append_right _ (List.mem_append_left _ (List.mem_of_getElem? (i := 15) rfl)))))))
  have hin_X0_firstMove := hts (.instanceMethod yX0_firstMove) (List.mem_cons_of_mem _ (List.mem_append_left _ (List.mem_append_left _ (List.mem_append_left _ (List.mem_append_right _ (List.mem_append_right _ (List.mem_append_right _ (List.mem_of_getElem? (i := 10) rfl))))))))
  have hse_X0_firstMove := hts (.selects RX0 yX0_firstMove yX0_firstMove) (List.mem_cons_of_mem _ (List.mem_append_left _ (List.mem_append_left _ (List.mem_append_left _ (List.mem_append_right _ (List.mem_append_right _ (List.mem_append_right _ (List.mem_of_getElem? (i := 11) rfl))))))))
  have hin_X0_spun := hts (.instanceMethod yX0_spun) (List.mem_cons_of_mem _ (List.mem_append_left _ (List.mem_append_left _ (List.mem_append_left _ (List.mem_append_right _ (List.mem_append_right _ (List.mem_append_right _ (List.mem_of_getElem? (i := 7) rfl))))))))
  have hse_X0_spun := hts (.selects RX0 yX0_spun yX0_spun) (List.mem_cons_of_mem _ (List.mem_append_left _ (List.mem_append_left _ (List.mem_append_left _ (List.mem_append_right _ (List.mem_append_right _ (List.mem_append_right _ (List.mem_of_getElem? (i := 8) rfl))))))))
  subst ha
  have hl := lv_entry ([.ref (ad 0), .int x1, .int x2, .int x3]) (n := 5) (Nat.le_of_ble_eq_true rfl)
  rw [lg_entry_eq]
  generalize (lg_sl ([.ref (ad 0), .int x1, .int x2, .int x3]) ++ List.replicate (5 - (lg_sl ([.ref (ad 0), .int x1, .int x2, .int x3])).length) Slot.unset).toArray = ls at hl ⊢
  have hl : lv_has ls 5 [(0, .ref (ad 0)), (1, .int x1), (2, .int x2), (3, .int x3)] := hl
  have hM := hM0
  have hS := hS0
  unfold f_X6_last at hf
  refine lv_iload_n hx hb dX6_last_0 rfl (lv_at hl 1 rfl) ?_
  refine lv_iload_n hx hb dX6_last_1 rfl (lv_at hl 2 rfl) ?_
  obtain ⟨v1, e1, hf⟩ := ob_e1 hf
  refine ob_calli (va_runS (As := [.int x1, .int x2]) (rest := []) ⟨hx, hb, hml, hown, hts⟩ (c_X6_areTwo l dC dI ad cI cZ hI 2 (Nat.le_refl _) g x1 x2  v1 e1) (va_cwS 2 hts gX6_last_X6_areTwo rfl rfl rfl hd_X6_areTwo (ob_R (Nat.le_trans (by decide) hd) (by decide))) (ob_preS hK hM) rfl rfl hl.1 rfl (lv_room (Nat.le_of_ble_eq_true rfl)) dX6_last_2 ⟨Nat.le_refl _, Nat.le_refl _⟩) hS (fun H locs hM hS => ?_)
  refine lv_if_ne (tgt := 10) hx hb dX6_last_5 (by decide) (fun c2 => ?_) (fun c2 => ?_)
  · rw [if_neg c2] at hf
    refine lv_iload_n hx hb dX6_last_10 rfl (lv_at hl 3 rfl) ?_
    refine lv_iconst (v := 0) hx hb dX6_last_11 (by decide) ?_
    refine lv_iconst (v := 1) hx hb dX6_last_12 (by decide) ?_
    obtain ⟨v3, e3, hf⟩ := ob_e1 hf
    refine ob_calli (va_runS (As := [.int x3, .int 0, .int 1]) (rest := []) ⟨hx, hb, hml, hown, hts⟩ (c_X6_within l dC dI ad cI cZ hI 0 (Nat.le_refl _) g x3 0 1  v3 e3) (va_cwS 3 hts gX6_last_X6_within rfl rfl rfl hd_X6_within (ob_R (Nat.le_trans (by decide) hd) (by decide))) (ob_preS hK hM) rfl rfl hl.1 rfl (lv_room (Nat.le_of_ble_eq_true rfl)) dX6_last_13 ⟨Nat.le_refl _, Nat.le_refl _⟩) hS (fun H locs hM hS => ?_)
    refine lv_if_ne (tgt := 22) hx hb dX6_last_16 (by decide) (fun c4 => ?_) (fun c4 => ?_)
    · rw [if_neg c4] at hf
      refine lv_aload_n hx hb dX6_last_22 rfl (lv_at hl 0 rfl) ?_
      refine ob_gr (j := 2) hx hb hts in_own hown hK hM (q := 0) shX_0 (C := RX6) (T := TX6) (N := 8) rfl 1 (by decide) hf_19 rfl dX6_last_23 ?_
      refine lv_iload_n hx hb dX6_last_26 rfl (lv_at hl 1 rfl) ?_
      refine lv_iload_n hx hb dX6_last_27 rfl (lv_at hl 2 rfl) ?_
      obtain ⟨v5, e5, hf⟩ := ob_e1 hf
      refine ob_calli (va_runVN (As := [.int x1, .int x2]) (rest := []) ⟨hx, hb, hml, hown, hts⟩ (c_X4_sayable l dC dI ad cI cZ hI 3 (Nat.le_refl _) 2 isTown_2 g x1 x2  v5 e5) ⟨va_cnB 2 hts gX6_last_X4_sayable_n140 rfl rfl rfl (ob_nl hK nw_X6_140) hi_X4 hd_X4_sayable (ob_R (Nat.le_trans (by decide) hd) (by decide)), hin_X4_sayable, hse_X4_sayable⟩ (ob_preV hK hM (q := 2) shX_2 rfl) rfl rfl hl.1 rfl (lv_room (Nat.le_of_ble_eq_true rfl)) dX6_last_28 ⟨Nat.le_refl _, Nat.le_refl _⟩) hS (fun H locs hM hS => ?_)
      refine lv_istore (lv' := [(4, .int v5), (0, .ref (ad 0)), (1, .int x1), (2, .int x2), (3, .int x3)]) hx hb dX6_last_31 hl (by decide) rfl (fun ls hl => ?_)
      refine lv_aload_n hx hb dX6_last_33 rfl (lv_at hl 1 rfl) ?_
      refine ob_gr (j := 17) hx hb hts in_own hown hK hM (q := 0) shX_0 (C := RX6) (T := TX6) (N := 8) rfl 4 (by decide) hf_34 rfl dX6_last_34 ?_
      refine lv_iload hx hb dX6_last_37 (lv_at hl 0 rfl) ?_
      refine lv_iconst (v := 0) hx hb dX6_last_39 (by decide) ?_
      refine lv_iload hx hb dX6_last_40 (lv_at hl 0 rfl) ?_
      refine lv_aload_n hx hb dX6_last_42 rfl (lv_at hl 1 rfl) ?_
      refine ob_gr (j := 2) hx hb hts in_own hown hK hM (q := 0) shX_0 (C := RX6) (T := TX6) (N := 8) rfl 1 (by decide) hf_19 rfl dX6_last_43 ?_
      refine lv_iload_n hx hb dX6_last_46 rfl (lv_at hl 3 rfl) ?_
      refine lv_iload_n hx hb dX6_last_47 rfl (lv_at hl 2 rfl) ?_
      obtain ⟨v6, e6, hf⟩ := ob_e1 hf
      refine ob_calli (va_runVN (As := [.int x2, .int x1]) (rest := [.int v5, .int 0, .int v5, .ref (ad 17)]) ⟨hx, hb, hml, hown, hts⟩ (c_X4_sayable l dC dI ad cI cZ hI 3 (Nat.le_refl _) 2 isTown_2 g x2 x1  v6 e6) ⟨va_cnB 2 hts gX6_last_X4_sayable_n140 rfl rfl rfl (ob_nl hK nw_X6_140) hi_X4 hd_X4_sayable (ob_R (Nat.le_trans (by decide) hd) (by decide)), hin_X4_sayable, hse_X4_sayable⟩ (ob_preV hK hM (q := 2) shX_2 rfl) rfl rfl hl.1 rfl (lv_room (Nat.le_of_ble_eq_true rfl)) dX6_last_48 ⟨Nat.le_refl _, Nat.le_refl _⟩) hS (fun H locs hM hS => ?_)
      obtain ⟨g7, e7, hf⟩ := ob_e1 hf
      refine ob_callv (va_runVN (As := [.int v5, .int 0, .int v5, .int v6]) (rest := []) ⟨hx, hb, hml, hown, hts⟩ (c_X0_spin l dC dI ad cI cZ hI 27 (Nat.le_refl _) g v5 0 v5 v6  g7 e7) ⟨va_cnB 4 hts gX6_last_X0_spin_n152 rfl rfl rfl (ob_nl hK nw_X6_152) hi_X0 hd_X0_spin (ob_R (Nat.le_trans (by decide) hd) (by decide)), hin_X0_spin, hse_X0_spin⟩ (ob_preV hK hM (q := 17) shX_17 rfl) rfl rfl hl.1 rfl (lv_room (Nat.le_of_ble_eq_true rfl)) dX6_last_51 ⟨Nat.le_refl _, Nat.le_refl _⟩) hS (fun H locs hM hS => ?_)
      refine lv_iload_n hx hb dX6_last_54 rfl (lv_at hl 4 rfl) ?_
      refine lv_if_ne (tgt := 68) hx hb dX6_last_55 (by decide) (fun c8 => ?_) (fun c8 => ?_)
      · rw [if_neg c8] at hf
        refine lv_aload_n hx hb dX6_last_68 rfl (lv_at hl 1 rfl) ?_
        refine ob_gr (j := 17) hx hb hts in_own hown hK hM (q := 0) shX_0 (C := RX6) (T := TX6) (N := 8) rfl 4 (by decide) hf_34 rfl dX6_last_69 ?_
        obtain ⟨v9, e9, hf⟩ := ob_e1 hf
        refine ob_calli (va_runVN (As := []) (rest := []) ⟨hx, hb, hml, hown, hts⟩ (c_X0_firstMove l dC dI ad cI cZ hI 0 (Nat.le_refl _) g7  v9 e9) ⟨va_cnB 0 hts gX6_last_X0_firstMove_n159 rfl rfl rfl (ob_nl hK nw_X6_159) hi_X0 hd_X0_firstMove (ob_R (Nat.le_trans (by decide) hd) (by decide)), hin_X0_firstMove, hse_X0_firstMove⟩ (ob_preV hK hM (q := 17) shX_17 rfl) rfl rfl hl.1 rfl (lv_room (Nat.le_of_ble_eq_true rfl)) dX6_last_72 ⟨Nat.le_refl _, Nat.le_refl _⟩) hS (fun H locs hM hS => ?_)
        exact ob_iret hx hb hr hlocks hM hS (v := v9) rfl hf dX6_last_75
      · rw [if_pos c8] at hf
        refine lv_aload_n hx hb dX6_last_58 rfl (lv_at hl 1 rfl) ?_
        refine ob_gr (j := 17) hx hb hts in_own hown hK hM (q := 0) shX_0 (C := RX6) (T := TX6) (N := 8) rfl 4 (by decide) hf_34 rfl dX6_last_59 ?_
        obtain ⟨v10, e10, hf⟩ := ob_e1 hf
        refine ob_calli (va_runVN (As := []) (rest := []) ⟨hx, hb, hml, hown, hts⟩ (c_X0_spun l dC dI ad cI cZ hI 0 (Nat.le_refl _) g7  v10 e10) ⟨va_cnB 0 hts gX6_last_X0_spun_n156 rfl rfl rfl (ob_nl hK nw_X6_156) hi_X0 hd_X0_spun (ob_R (Nat.le_trans (by decide) hd) (by decide)), hin_X0_spun, hse_X0_spun⟩ (ob_preV hK hM (q := 17) shX_17 rfl) rfl rfl hl.1 rfl (lv_room (Nat.le_of_ble_eq_true rfl)) dX6_last_62 ⟨Nat.le_refl _, Nat.le_refl _⟩) hS (fun H locs hM hS => ?_)
        refine lv_goto (tgt := 75) hx hb dX6_last_65 (by decide) ?_
        exact ob_iret hx hb hr hlocks hM hS (v := v10) rfl hf dX6_last_75
    · rw [if_pos c4] at hf
      refine lv_bipush (v := (-2)) hx hb dX6_last_19 (by decide) ?_
      exact ob_iret hx hb hr hlocks hM hS (v := (-2)) rfl hf dX6_last_21
  · rw [if_pos c2] at hf
    refine lv_iconst (v := (-1)) hx hb dX6_last_8 (by decide) ?_
    exact ob_iret hx hb hr hlocks hM hS (v := (-1)) rfl hf dX6_last_9
set_option maxHeartbeats 4000000 in
set_option maxRecDepth 100000 in
theorem c_X6_comesOff (l : Launch) (dC : Nat → ClassId) (dI : Nat → Nat → Nat) (ad : Nat → Nat) (cI cZ : ClassId) (hI : ob_inj shX ad) (d : Nat) (hd : 28 ≤ d) (g : Mm) (x1 x2 x3 x4 : Int32) (r : Int32) (t : Mm) (hf : f_X6_comesOff g x1 x2 x3 x4 = some (r, t)) : ob_Mi l yX6_comesOff wsX6_comesOff d (dC, dI) vwCl shX ad cI cZ nwX [.ref (ad 0), .int x1, .int x2, .int x3, .int x4] g r t := by
  refine ob_ofW (cc := cX6_comesOff) (maxL := 7) (ret := (some .boolean)) (by decide) rfl ?_
  intro p e s m args below meth c ha hx hb hr hml hts hown hlocks hM0 hK hS0
  have hown : s.vm.findClass RX6 = some m.cls := hown
  have in_own : ∀ w ∈ wsX60, w ∈ wsX6_comesOff := fun w h => (List.mem_cons_of_mem _ (List.mem_append_left _ (List.mem_append_left _ (List.mem_append_right _ h))))
  have hf_19 := hts (.fieldLink RX6 19 "OneWorse" "town" "LOneWorse$Town;") (List.mem_cons_of_mem _ (List.mem_append_left _ (List.mem_append_left _ (List.mem_append_left _ (List.mem_append_left _ (List.mem_of_getElem? (i := 0) rfl))))))
  have hi_X4 := hts (.initialized RX4) (List.mem_cons_of_mem _ (List.mem_append_left _ (List.mem_append_left _ (List.mem_append_left _ (List.mem_append_left _ (List.mem_of_getElem? (i := 3) rfl))))))
  have hin_X4_fitting := hts (.instanceMethod yX4_fitting) (List.mem_cons_of_mem _ (List.mem_append_left _ (List.mem_append_left _ (List.mem_append_left _ (List.mem_append_left _ (List.mem_of_getElem? (i := 2) rfl))))))
  have hse_X4_fitting := hts (.selects RX4 yX4_fitting yX4_fitting) (List.mem_cons_of_mem _ (List.mem_append_left _ (List.mem_append_left _ (List.mem_append_left _ (List.mem_append_left _ (List.mem_of_getElem? (i := 4) rfl))))))
  have hin_X4_sayable := hts (.instanceMethod yX4_sayable) (List.mem_cons_of_mem _ (List.mem_append_left _ (List.mem_append_left _ (List.mem_append_left _ (List.mem_append_left _ (List.mem_of_getElem? (i := 19) rfl))))))
  have hse_X4_sayable := hts (.selects RX4 yX4_sayable yX4_sayable) (List.mem_cons_of_mem _ (List.mem_append_left _ (List.mem_append_left _ (List.mem_append_left _ (List.mem_append_left _ (List.mem_of_getElem? (i := 20) rfl))))))
  have hf_34 := hts (.fieldLink RX6 34 "OneWorse" "contest" "LOneWorse$Contest;") (List.mem_cons_of_mem _ (List.mem_append_left _ (List.mem_append_left _ (List.mem_append_left _ (List.mem_append_left _ (List.mem_of_getElem? (i := 1) rfl))))))
  have hi_X0 := hts (.initialized RX0) (List.mem_cons_of_mem _ (List.mem_append_left _ (List.mem_append_left _ (List.mem_append_left _ (List.mem_append_right _ (List.mem_append_left _ (List.mem_of_getElem? (i := 5) rfl)))))))
  have hin_X0_fight := hts (.instanceMethod yX0_fight) (List.mem_cons_of_mem _ (List.mem_append_left _ (List.mem_append_left _ (List.mem_append_left _ (List.mem_append_right _ (List.mem_append_left _ (List.mem_of_getElem? (i := 4) rfl)))))))
  have hse_X0_fight := hts (.selects RX0 yX0_fight yX0_fight) (List.mem_cons_of_mem _ (List.mem_append_left _ (List.mem_append_left _ (List.mem_append_left _ (List.mem_append_right _ (List.mem_append_left _ (List.mem_of_getElem? (i := 6) rfl)))))))
  have hin_X0_moverPays := hts (.instanceMethod yX0_moverPays) (List.mem_cons_of_mem _ (List.mem_append_left _ (List.mem_append_left _ (List.mem_append_left _ (List.mem_append_right _ (List.mem_append_right _ (List.mem_append_left _ (List.mem_of_getElem? (i := 22) rfl))))))))
  have hse_X0_moverPays := hts (.selects RX0 yX0_moverPays yX0_moverPays) (List.mem_cons_of_mem _ (List.mem_append_left _ (List.mem_append_left _ (List.mem_append_left _ (List.mem_append_right _ (List.mem_append_right _ (List.mem_append_left _ (List.mem_of_getElem? (i := 23) rfl))))))))
  subst ha
  have hl := lv_entry ([.ref (ad 0), .int x1, .int x2, .int x3, .int x4]) (n := 7) (Nat.le_of_ble_eq_true rfl)
  rw [lg_entry_eq]
  generalize (lg_sl ([.ref (ad 0), .int x1, .int x2, .int x3, .int x4]) ++ List.replicate (7 - (lg_sl ([.ref (ad 0), .int x1, .int x2, .int x3, .int x4])).length) Slot.unset).toArray = ls at hl ⊢
  have hl : lv_has ls 7 [(0, .ref (ad 0)), (1, .int x1), (2, .int x2), (3, .int x3), (4, .int x4)] := hl
  have hM := hM0
  have hS := hS0
  unfold f_X6_comesOff at hf
  refine lv_iload_n hx hb dX6_comesOff_0 rfl (lv_at hl 2 rfl) ?_
  refine lv_aload_n hx hb dX6_comesOff_1 rfl (lv_at hl 0 rfl) ?_
  refine ob_gr (j := 2) hx hb hts in_own hown hK hM (q := 0) shX_0 (C := RX6) (T := TX6) (N := 8) rfl 1 (by decide) hf_19 rfl dX6_comesOff_2 ?_
  refine lv_iload_n hx hb dX6_comesOff_5 rfl (lv_at hl 3 rfl) ?_
  obtain ⟨v1, e1, hf⟩ := ob_e1 hf
  refine ob_calli (va_runVN (As := [.int x3]) (rest := [.int x2]) ⟨hx, hb, hml, hown, hts⟩ (c_X4_fitting l dC dI ad cI cZ hI 2 (Nat.le_refl _) 2 isTown_2 g x3  v1 e1) ⟨va_cnB 1 hts gX6_comesOff_X4_fitting_n131 rfl rfl rfl (ob_nl hK nw_X6_131) hi_X4 hd_X4_fitting (ob_R (Nat.le_trans (by decide) hd) (by decide)), hin_X4_fitting, hse_X4_fitting⟩ (ob_preV hK hM (q := 2) shX_2 rfl) rfl rfl hl.1 rfl (lv_room (Nat.le_of_ble_eq_true rfl)) dX6_comesOff_6 ⟨Nat.le_refl _, Nat.le_refl _⟩) hS (fun H locs hM hS => ?_)
  refine lv_iand hx hb dX6_comesOff_9 ?_
  refine lv_istore (lv' := [(5, .int (x2 &&& v1)), (0, .ref (ad 0)), (1, .int x1), (2, .int x2), (3, .int x3), (4, .int x4)]) hx hb dX6_comesOff_10 hl (by decide) rfl (fun ls hl => ?_)
  refine lv_aload_n hx hb dX6_comesOff_12 rfl (lv_at hl 1 rfl) ?_
  refine ob_gr (j := 2) hx hb hts in_own hown hK hM (q := 0) shX_0 (C := RX6) (T := TX6) (N := 8) rfl 1 (by decide) hf_19 rfl dX6_comesOff_13 ?_
  refine lv_iload_n hx hb dX6_comesOff_16 rfl (lv_at hl 4 rfl) ?_
  refine lv_iload_n hx hb dX6_comesOff_17 rfl (lv_at hl 2 rfl) ?_
  obtain ⟨v2, e2, hf⟩ := ob_e1 hf
  refine ob_calli (va_runVN (As := [.int x3, .int x1]) (rest := []) ⟨hx, hb, hml, hown, hts⟩ (c_X4_sayable l dC dI ad cI cZ hI 3 (Nat.le_refl _) 2 isTown_2 g x3 x1  v2 e2) ⟨va_cnB 2 hts gX6_comesOff_X4_sayable_n140 rfl rfl rfl (ob_nl hK nw_X6_140) hi_X4 hd_X4_sayable (ob_R (Nat.le_trans (by decide) hd) (by decide)), hin_X4_sayable, hse_X4_sayable⟩ (ob_preV hK hM (q := 2) shX_2 rfl) rfl rfl hl.1 rfl (lv_room (Nat.le_of_ble_eq_true rfl)) dX6_comesOff_18 ⟨Nat.le_refl _, Nat.le_refl _⟩) hS (fun H locs hM hS => ?_)
  refine lv_istore (lv' := [(6, .int v2), (5, .int (x2 &&& v1)), (0, .ref (ad 0)), (1, .int x1), (2, .int x2), (3, .int x3), (4, .int x4)]) hx hb dX6_comesOff_21 hl (by decide) rfl (fun ls hl => ?_)
  refine lv_iload hx hb dX6_comesOff_23 (lv_at hl 6 rfl) ?_
  refine lv_if_eq (tgt := 59) hx hb dX6_comesOff_25 (by decide) (fun c3 => ?_) (fun c3 => ?_)
  · rw [if_pos c3] at hf
    refine lv_aload_n hx hb dX6_comesOff_59 rfl (lv_at hl 2 rfl) ?_
    refine ob_gr (j := 17) hx hb hts in_own hown hK hM (q := 0) shX_0 (C := RX6) (T := TX6) (N := 8) rfl 4 (by decide) hf_34 rfl dX6_comesOff_60 ?_
    refine lv_iload hx hb dX6_comesOff_63 (lv_at hl 0 rfl) ?_
    refine lv_iconst (v := 0) hx hb dX6_comesOff_65 (by decide) ?_
    refine lv_iload hx hb dX6_comesOff_66 (lv_at hl 0 rfl) ?_
    refine lv_iload hx hb dX6_comesOff_68 (lv_at hl 1 rfl) ?_
    refine lv_iconst (v := 1) hx hb dX6_comesOff_70 (by decide) ?_
    obtain ⟨g4, e4, hf⟩ := ob_e1 hf
    refine ob_callv (va_runVN (As := [.int v2, .int 0, .int v2, .int (x2 &&& v1), .int 1]) (rest := []) ⟨hx, hb, hml, hown, hts⟩ (c_X0_fight l dC dI ad cI cZ hI 27 (Nat.le_refl _) g v2 0 v2 (x2 &&& v1) 1  g4 e4) ⟨va_cnB 5 hts gX6_comesOff_X0_fight_n144 rfl rfl rfl (ob_nl hK nw_X6_144) hi_X0 hd_X0_fight (ob_R (Nat.le_trans (by decide) hd) (by decide)), hin_X0_fight, hse_X0_fight⟩ (ob_preV hK hM (q := 17) shX_17 rfl) rfl rfl hl.1 rfl (lv_room (Nat.le_of_ble_eq_true rfl)) dX6_comesOff_71 ⟨Nat.le_refl _, Nat.le_refl _⟩) hS (fun H locs hM hS => ?_)
    refine lv_aload_n hx hb dX6_comesOff_74 rfl (lv_at hl 2 rfl) ?_
    refine ob_gr (j := 17) hx hb hts in_own hown hK hM (q := 0) shX_0 (C := RX6) (T := TX6) (N := 8) rfl 4 (by decide) hf_34 rfl dX6_comesOff_75 ?_
    obtain ⟨v5, e5, hf⟩ := ob_e1 hf
    refine ob_calli (va_runVN (As := []) (rest := []) ⟨hx, hb, hml, hown, hts⟩ (c_X0_moverPays l dC dI ad cI cZ hI 0 (Nat.le_refl _) g4  v5 e5) ⟨va_cnB 0 hts gX6_comesOff_X0_moverPays_n218 rfl rfl rfl (ob_nl hK nw_X6_218) hi_X0 hd_X0_moverPays (ob_R (Nat.le_trans (by decide) hd) (by decide)), hin_X0_moverPays, hse_X0_moverPays⟩ (ob_preV hK hM (q := 17) shX_17 rfl) rfl rfl hl.1 rfl (lv_room (Nat.le_of_ble_eq_true rfl)) dX6_comesOff_78 ⟨Nat.le_refl _, Nat.le_refl _⟩) hS (fun H locs hM hS => ?_)
    obtain ⟨u6, e6, hf⟩ := ob_e1 hf
    exact ob_iret hx hb hr hlocks hM hS (v := v5) (ob_zb_in e6) hf dX6_comesOff_81
  · rw [if_neg c3] at hf
    refine lv_aload_n hx hb dX6_comesOff_28 rfl (lv_at hl 2 rfl) ?_
    refine ob_gr (j := 17) hx hb hts in_own hown hK hM (q := 0) shX_0 (C := RX6) (T := TX6) (N := 8) rfl 4 (by decide) hf_34 rfl dX6_comesOff_29 ?_
    refine lv_iload hx hb dX6_comesOff_32 (lv_at hl 1 rfl) ?_
    refine lv_iconst (v := 0) hx hb dX6_comesOff_34 (by decide) ?_
    refine lv_iload hx hb dX6_comesOff_35 (lv_at hl 1 rfl) ?_
    refine lv_iload hx hb dX6_comesOff_37 (lv_at hl 0 rfl) ?_
    refine lv_iconst (v := 1) hx hb dX6_comesOff_39 (by decide) ?_
    obtain ⟨g7, e7, hf⟩ := ob_e1 hf
    refine ob_callv (va_runVN (As := [.int (x2 &&& v1), .int 0, .int (x2 &&& v1), .int v2, .int 1]) (rest := []) ⟨hx, hb, hml, hown, hts⟩ (c_X0_fight l dC dI ad cI cZ hI 27 (Nat.le_refl _) g (x2 &&& v1) 0 (x2 &&& v1) v2 1  g7 e7) ⟨va_cnB 5 hts gX6_comesOff_X0_fight_n144 rfl rfl rfl (ob_nl hK nw_X6_144) hi_X0 hd_X0_fight (ob_R (Nat.le_trans (by decide) hd) (by decide)), hin_X0_fight, hse_X0_fight⟩ (ob_preV hK hM (q := 17) shX_17 rfl) rfl rfl hl.1 rfl (lv_room (Nat.le_of_ble_eq_true rfl)) dX6_comesOff_40 ⟨Nat.le_refl _, Nat.le_refl _⟩) hS (fun H locs hM hS => ?_)
    refine lv_aload_n hx hb dX6_comesOff_43 rfl (lv_at hl 2 rfl) ?_
    refine ob_gr (j := 17) hx hb hts in_own hown hK hM (q := 0) shX_0 (C := RX6) (T := TX6) (N := 8) rfl 4 (by decide) hf_34 rfl dX6_comesOff_44 ?_
    obtain ⟨v8, e8, hf⟩ := ob_e1 hf
    refine ob_calli (va_runVN (As := []) (rest := []) ⟨hx, hb, hml, hown, hts⟩ (c_X0_moverPays l dC dI ad cI cZ hI 0 (Nat.le_refl _) g7  v8 e8) ⟨va_cnB 0 hts gX6_comesOff_X0_moverPays_n218 rfl rfl rfl (ob_nl hK nw_X6_218) hi_X0 hd_X0_moverPays (ob_R (Nat.le_trans (by decide) hd) (by decide)), hin_X0_moverPays, hse_X0_moverPays⟩ (ob_preV hK hM (q := 17) shX_17 rfl) rfl rfl hl.1 rfl (lv_room (Nat.le_of_ble_eq_true rfl)) dX6_comesOff_47 ⟨Nat.le_refl _, Nat.le_refl _⟩) hS (fun H locs hM hS => ?_)
    refine lv_if_ne (tgt := 57) hx hb dX6_comesOff_50 (by decide) (fun c9 => ?_) (fun c9 => ?_)
    · rw [if_neg c9] at hf
      refine lv_iconst (v := 0) hx hb dX6_comesOff_57 (by decide) ?_
      exact ob_iret hx hb hr hlocks hM hS (v := 0) rfl hf dX6_comesOff_58
    · rw [if_pos c9] at hf
      refine lv_iconst (v := 1) hx hb dX6_comesOff_53 (by decide) ?_
      refine lv_goto (tgt := 58) hx hb dX6_comesOff_54 (by decide) ?_
      exact ob_iret hx hb hr hlocks hM hS (v := 1) rfl hf dX6_comesOff_58
set_option maxHeartbeats 4000000 in
set_option maxRecDepth 100000 in
theorem c_X6_sent (l : Launch) (dC : Nat → ClassId) (dI : Nat → Nat → Nat) (ad : Nat → Nat) (cI cZ : ClassId) (hI : ob_inj shX ad) (d : Nat) (hd : 29 ≤ d) (g : Mm) (x1 x2 : Int32) (r : Int32) (t : Mm) (hf : f_X6_sent g x1 x2 = some (r, t)) : ob_Mi l yX6_sent wsX6_sent d (dC, dI) vwCl shX ad cI cZ nwX [.ref (ad 0), .int x1, .int x2] g r t := by
  refine ob_ofW (cc := cX6_sent) (maxL := 5) (ret := (some .int)) (by decide) rfl ?_
  intro p e s m args below meth c ha hx hb hr hml hts hown hlocks hM0 hK hS0
  have hown : s.vm.findClass RX6 = some m.cls := hown
  have in_own : ∀ w ∈ wsX60, w ∈ wsX6_sent := fun w h => (List.mem_cons_of_mem _ (List.mem_append_left _ (List.mem_append_left _ (List.mem_append_right _ h))))
  have hf_19 := hts (.fieldLink RX6 19 "OneWorse" "town" "LOneWorse$Town;") (List.mem_cons_of_mem _ (List.mem_append_left _ (List.mem_append_left _ (List.mem_append_left _ (List.mem_append_left _ (List.mem_of_getElem? (i := 0) rfl))))))
  have hi_X4 := hts (.initialized RX4) (List.mem_cons_of_mem _ (List.mem_append_left _ (List.mem_append_left _ (List.mem_append_left _ (List.mem_append_left _ (List.mem_of_getElem? (i := 9) rfl))))))
  have hin_X4_knownTo := hts (.instanceMethod yX4_knownTo) (List.mem_cons_of_mem _ (List.mem_append_left _ (List.mem_append_left _ (List.mem_append_left _ (List.mem_append_left _ (List.mem_of_getElem? (i := 8) rfl))))))
  have hse_X4_knownTo := hts (.selects RX4 yX4_knownTo yX4_knownTo) (List.mem_cons_of_mem _ (List.mem_append_left _ (List.mem_append_left _ (List.mem_append_left _ (List.mem_append_left _ (List.mem_of_getElem? (i := 10) rfl))))))
  have w_53 : ∀ (k14 : Mm → Int32 → Int32 → Int32 → Int32 → Option (Int32 × Mm)) (hk14 : ∀ (g : Mm) (x1 x2 x3 x4 : Int32) (H : Heap) (locs : List Loc), va_P (dC, dI) vwCl (ob_ws shX ad cI cZ g) H → va_S (ob_A shX ad) s.heap H locs → ∀ (ls : Array Slot), lv_has ls 5 [(0, .ref (ad 0)), (1, .int x1), (2, .int x2), (3, .int x3), (4, .int x4)] → k14 g x1 x2 x3 x4 = some (r, t) → W p l e (rmN d) s m args below meth c H locs 0 0 (MQ below (ob_Qi (dC, dI) vwCl shX ad cI cZ r t) args s 0 0 (ob_A shX ad)) (F0 m 14 ls [])), ∀ (g : Mm) (x1 x2 x3 x4 : Int32) (H : Heap) (locs : List Loc), va_P (dC, dI) vwCl (ob_ws shX ad cI cZ g) H → va_S (ob_A shX ad) s.heap H locs → ∀ (ls : Array Slot), lv_has ls 5 [(0, .ref (ad 0)), (1, .int x1), (2, .int x2), (3, .int x3), (4, .int x4)] → f_X6_sent_J53 k14 g x1 x2 x3 x4 = some (r, t) → W p l e (rmN d) s m args below meth c H locs 0 0 (MQ below (ob_Qi (dC, dI) vwCl shX ad cI cZ r t) args s 0 0 (ob_A shX ad)) (F0 m 53 ls []) := by
    intro k14 hk14 g x1 x2 x3 x4 H locs hM hS ls hl hf
    unfold f_X6_sent_J53 at hf
    refine lv_iinc (v := (x4 + 1)) (lv' := [(4, .int (x4 + 1)), (0, .ref (ad 0)), (1, .int x1), (2, .int x2), (3, .int x3)]) hx hb dX6_sent_53 hl (k := 4) rfl rfl (by decide) rfl (fun ls hl => ?_)
    refine lv_goto (tgt := 14) hx hb dX6_sent_56 (by decide) ?_
    exact hk14 g x1 x2 x3 (x4 + 1) _ _ hM hS _ (lv_sub hl [1, 2, 3, 4, 0] rfl) hf
  have w_14 : ∀ (n : Nat), ∀ (g : Mm) (x1 x2 x3 x4 : Int32) (H : Heap) (locs : List Loc), va_P (dC, dI) vwCl (ob_ws shX ad cI cZ g) H → va_S (ob_A shX ad) s.heap H locs → ∀ (ls : Array Slot), lv_has ls 5 [(0, .ref (ad 0)), (1, .int x1), (2, .int x2), (3, .int x3), (4, .int x4)] → f_X6_sent_L14 n g x1 x2 x3 x4 = some (r, t) → W p l e (rmN d) s m args below meth c H locs 0 0 (MQ below (ob_Qi (dC, dI) vwCl shX ad cI cZ r t) args s 0 0 (ob_A shX ad)) (F0 m 14 ls []) := by
    intro n
    induction n with
    | zero =>
      intro g x1 x2 x3 x4 H locs hM hS ls hl hf
      cases hf
    | succ n ih =>
      intro g x1 x2 x3 x4 H locs hM hS ls hl hf
      unfold f_X6_sent_L14 at hf
      refine lv_iload hx hb dX6_sent_14 (lv_at hl 4 rfl) ?_
      refine lv_iconst (v := 5) hx hb dX6_sent_16 (by decide) ?_
      refine lv_icmp_ge (tgt := 59) hx hb dX6_sent_17 (by decide) (fun c3 => ?_) (fun c3 => ?_)
      · rw [if_pos c3] at hf
        refine lv_iload_n hx hb dX6_sent_59 rfl (lv_at hl 3 rfl) ?_
        exact ob_iret hx hb hr hlocks hM hS (v := x3) rfl hf dX6_sent_60
      · rw [if_neg c3] at hf
        refine lv_iload hx hb dX6_sent_20 (lv_at hl 4 rfl) ?_
        refine lv_iload_n hx hb dX6_sent_22 rfl (lv_at hl 1 rfl) ?_
        refine lv_icmp_eq (tgt := 53) hx hb dX6_sent_23 (by decide) (fun c4 => ?_) (fun c4 => ?_)
        · rw [if_pos c4] at hf
          exact w_53 (f_X6_sent_L14 n) ih g x1 x2 x3 x4 _ _ hM hS _ (lv_sub hl [0, 1, 2, 3, 4] rfl) hf
        · rw [if_neg c4] at hf
          refine lv_aload_n hx hb dX6_sent_26 rfl (lv_at hl 0 rfl) ?_
          refine lv_iload hx hb dX6_sent_27 (lv_at hl 4 rfl) ?_
          refine lv_aload_n hx hb dX6_sent_29 rfl (lv_at hl 0 rfl) ?_
          refine ob_gr (j := 2) hx hb hts in_own hown hK hM (q := 0) shX_0 (C := RX6) (T := TX6) (N := 8) rfl 1 (by decide) hf_19 rfl dX6_sent_30 ?_
          refine lv_iload hx hb dX6_sent_33 (lv_at hl 4 rfl) ?_
          obtain ⟨v5, e5, hf⟩ := ob_e1 hf
          refine ob_calli (va_runVN (As := [.int x4]) (rest := [.int x4, .ref (ad 0)]) ⟨hx, hb, hml, hown, hts⟩ (c_X4_knownTo l dC dI ad cI cZ hI 1 (Nat.le_refl _) 2 isTown_2 g x4  v5 e5) ⟨va_cnB 1 hts gX6_sent_X4_knownTo_n125 rfl rfl rfl (ob_nl hK nw_X6_125) hi_X4 hd_X4_knownTo (ob_R (Nat.le_trans (by decide) hd) (by decide)), hin_X4_knownTo, hse_X4_knownTo⟩ (ob_preV hK hM (q := 2) shX_2 rfl) rfl rfl hl.1 rfl (lv_room (Nat.le_of_ble_eq_true rfl)) dX6_sent_35 ⟨Nat.le_refl _, Nat.le_refl _⟩) hS (fun H locs hM hS => ?_)
          refine lv_iload_n hx hb dX6_sent_38 rfl (lv_at hl 1 rfl) ?_
          refine lv_iload_n hx hb dX6_sent_39 rfl (lv_at hl 2 rfl) ?_
          obtain ⟨v6, g6, e6, hf⟩ := ob_e2 hf
          refine ob_calli (va_runV (As := [.int x4, .int v5, .int x1, .int x2]) (rest := []) ⟨hx, hb, hml, hown, hts⟩ (c_X6_comesOff l dC dI ad cI cZ hI 28 (Nat.le_refl _) g x4 v5 x1 x2  v6 g6 e6) (cwV 4 hts gX6_sent_X6_comesOff rfl rfl rfl ⟨rfl, hd_X6_comesOff⟩ (ob_R (Nat.le_trans (by decide) hd) (by decide))) (ob_preV hK hM (q := 0) shX_0 rfl) rfl rfl hl.1 rfl (lv_room (Nat.le_of_ble_eq_true rfl)) dX6_sent_40 ⟨Nat.le_refl _, Nat.le_refl _⟩) hS (fun H locs hM hS => ?_)
          refine lv_if_eq (tgt := 53) hx hb dX6_sent_43 (by decide) (fun c7 => ?_) (fun c7 => ?_)
          · rw [if_pos c7] at hf
            exact w_53 (f_X6_sent_L14 n) ih g6 x1 x2 x3 x4 _ _ hM hS _ (lv_sub hl [0, 1, 2, 3, 4] rfl) hf
          · rw [if_neg c7] at hf
            refine lv_iload_n hx hb dX6_sent_46 rfl (lv_at hl 3 rfl) ?_
            refine lv_iconst (v := 1) hx hb dX6_sent_47 (by decide) ?_
            refine lv_iload hx hb dX6_sent_48 (lv_at hl 4 rfl) ?_
            refine lv_ishl hx hb dX6_sent_50 ?_
            refine lv_ior hx hb dX6_sent_51 ?_
            refine lv_istore_n (lv' := [(3, .int (x3 ||| ((1 : Int32) <<< (x4 &&& 31)))), (0, .ref (ad 0)), (1, .int x1), (2, .int x2), (4, .int x4)]) hx hb dX6_sent_52 rfl hl (by decide) rfl (fun ls hl => ?_)
            exact w_53 (f_X6_sent_L14 n) ih g6 x1 x2 (x3 ||| ((1 : Int32) <<< (x4 &&& 31))) x4 _ _ hM hS _ (lv_sub hl [1, 2, 3, 0, 4] rfl) hf
  subst ha
  have hl := lv_entry ([.ref (ad 0), .int x1, .int x2]) (n := 5) (Nat.le_of_ble_eq_true rfl)
  rw [lg_entry_eq]
  generalize (lg_sl ([.ref (ad 0), .int x1, .int x2]) ++ List.replicate (5 - (lg_sl ([.ref (ad 0), .int x1, .int x2])).length) Slot.unset).toArray = ls at hl ⊢
  have hl : lv_has ls 5 [(0, .ref (ad 0)), (1, .int x1), (2, .int x2)] := hl
  have hM := hM0
  have hS := hS0
  unfold f_X6_sent at hf
  refine lv_iload_n hx hb dX6_sent_0 rfl (lv_at hl 1 rfl) ?_
  obtain ⟨v1, e1, hf⟩ := ob_e1 hf
  refine ob_calli (va_runS (As := [.int x1]) (rest := []) ⟨hx, hb, hml, hown, hts⟩ (c_X6_isMan l dC dI ad cI cZ hI 1 (Nat.le_refl _) g x1  v1 e1) (va_cwS 1 hts gX6_sent_X6_isMan rfl rfl rfl hd_X6_isMan (ob_R (Nat.le_trans (by decide) hd) (by decide))) (ob_preS hK hM) rfl rfl hl.1 rfl (lv_room (Nat.le_of_ble_eq_true rfl)) dX6_sent_1 ⟨Nat.le_refl _, Nat.le_refl _⟩) hS (fun H locs hM hS => ?_)
  refine lv_if_ne (tgt := 9) hx hb dX6_sent_4 (by decide) (fun c2 => ?_) (fun c2 => ?_)
  · rw [if_neg c2] at hf
    refine lv_iconst (v := 0) hx hb dX6_sent_9 (by decide) ?_
    refine lv_istore_n (lv' := [(3, .int 0), (0, .ref (ad 0)), (1, .int x1), (2, .int x2)]) hx hb dX6_sent_10 rfl hl (by decide) rfl (fun ls hl => ?_)
    refine lv_iconst (v := 0) hx hb dX6_sent_11 (by decide) ?_
    refine lv_istore (lv' := [(4, .int 0), (3, .int 0), (0, .ref (ad 0)), (1, .int x1), (2, .int x2)]) hx hb dX6_sent_12 hl (by decide) rfl (fun ls hl => ?_)
    exact w_14 FU g x1 x2 0 0 _ _ hM hS _ (lv_sub hl [2, 3, 4, 1, 0] rfl) hf
  · rw [if_pos c2] at hf
    refine lv_iconst (v := (-1)) hx hb dX6_sent_7 (by decide) ?_
    exact ob_iret hx hb hr hlocks hM hS (v := (-1)) rfl hf dX6_sent_8
set_option maxHeartbeats 4000000 in
set_option maxRecDepth 100000 in
theorem c_X6_safe (l : Launch) (dC : Nat → ClassId) (dI : Nat → Nat → Nat) (ad : Nat → Nat) (cI cZ : ClassId) (hI : ob_inj shX ad) (d : Nat) (hd : 4 ≤ d) (g : Mm) (x1 : Int32) (r : Int32) (hf : f_X6_safe g x1 = some r) : ob_Mi l yX6_safe wsX6_safe d (dC, dI) vwCl shX ad cI cZ nwX [.ref (ad 0), .int x1] g r g := by
  refine ob_ofW (cc := cX6_safe) (maxL := 4) (ret := (some .int)) (by decide) rfl ?_
  intro p e s m args below meth c ha hx hb hr hml hts hown hlocks hM0 hK hS0
  have hown : s.vm.findClass RX6 = some m.cls := hown
  have in_own : ∀ w ∈ wsX60, w ∈ wsX6_safe := fun w h => (List.mem_cons_of_mem _ (List.mem_append_left _ (List.mem_append_right _ h)))
  have hf_19 := hts (.fieldLink RX6 19 "OneWorse" "town" "LOneWorse$Town;") (List.mem_cons_of_mem _ (List.mem_append_left _ (List.mem_append_left _ (List.mem_append_left _ (List.mem_of_getElem? (i := 0) rfl)))))
  have hi_X4 := hts (.initialized RX4) (List.mem_cons_of_mem _ (List.mem_append_left _ (List.mem_append_left _ (List.mem_append_left _ (List.mem_of_getElem? (i := 9) rfl)))))
  have hin_X4_sayable := hts (.instanceMethod yX4_sayable) (List.mem_cons_of_mem _ (List.mem_append_left _ (List.mem_append_left _ (List.mem_append_left _ (List.mem_of_getElem? (i := 8) rfl)))))
  have hse_X4_sayable := hts (.selects RX4 yX4_sayable yX4_sayable) (List.mem_cons_of_mem _ (List.mem_append_left _ (List.mem_append_left _ (List.mem_append_left _ (List.mem_of_getElem? (i := 10) rfl)))))
  have w_35 : ∀ (k13 : Int32 → Int32 → Int32 → Option (Int32)) (hk13 : ∀ (x1 x2 x3 : Int32) (H : Heap) (locs : List Loc), va_P (dC, dI) vwCl (ob_ws shX ad cI cZ g) H → va_S (ob_A shX ad) s.heap H locs → ∀ (ls : Array Slot), lv_has ls 4 [(0, .ref (ad 0)), (1, .int x1), (2, .int x2), (3, .int x3)] → k13 x1 x2 x3 = some r → W p l e (rmN d) s m args below meth c H locs 0 0 (MQ below (ob_Qi (dC, dI) vwCl shX ad cI cZ r g) args s 0 0 (ob_A shX ad)) (F0 m 13 ls [])), ∀ (x1 x2 x3 : Int32) (H : Heap) (locs : List Loc), va_P (dC, dI) vwCl (ob_ws shX ad cI cZ g) H → va_S (ob_A shX ad) s.heap H locs → ∀ (ls : Array Slot), lv_has ls 4 [(0, .ref (ad 0)), (1, .int x1), (2, .int x2), (3, .int x3)] → f_X6_safe_J35 g k13 x1 x2 x3 = some r → W p l e (rmN d) s m args below meth c H locs 0 0 (MQ below (ob_Qi (dC, dI) vwCl shX ad cI cZ r g) args s 0 0 (ob_A shX ad)) (F0 m 35 ls []) := by
    intro k13 hk13 x1 x2 x3 H locs hM hS ls hl hf
    unfold f_X6_safe_J35 at hf
    refine lv_iinc (v := (x3 + 1)) (lv' := [(3, .int (x3 + 1)), (0, .ref (ad 0)), (1, .int x1), (2, .int x2)]) hx hb dX6_safe_35 hl (k := 3) rfl rfl (by decide) rfl (fun ls hl => ?_)
    refine lv_goto (tgt := 13) hx hb dX6_safe_38 (by decide) ?_
    exact hk13 x1 x2 (x3 + 1) _ _ hM hS _ (lv_sub hl [1, 2, 3, 0] rfl) hf
  have w_13 : ∀ (n : Nat), ∀ (x1 x2 x3 : Int32) (H : Heap) (locs : List Loc), va_P (dC, dI) vwCl (ob_ws shX ad cI cZ g) H → va_S (ob_A shX ad) s.heap H locs → ∀ (ls : Array Slot), lv_has ls 4 [(0, .ref (ad 0)), (1, .int x1), (2, .int x2), (3, .int x3)] → f_X6_safe_L13 g n x1 x2 x3 = some r → W p l e (rmN d) s m args below meth c H locs 0 0 (MQ below (ob_Qi (dC, dI) vwCl shX ad cI cZ r g) args s 0 0 (ob_A shX ad)) (F0 m 13 ls []) := by
    intro n
    induction n with
    | zero =>
      intro x1 x2 x3 H locs hM hS ls hl hf
      cases hf
    | succ n ih =>
      intro x1 x2 x3 H locs hM hS ls hl hf
      unfold f_X6_safe_L13 at hf
      refine lv_iload_n hx hb dX6_safe_13 rfl (lv_at hl 3 rfl) ?_
      refine lv_iconst (v := 5) hx hb dX6_safe_14 (by decide) ?_
      refine lv_icmp_ge (tgt := 41) hx hb dX6_safe_15 (by decide) (fun c3 => ?_) (fun c3 => ?_)
      · rw [if_pos c3] at hf
        refine lv_iload_n hx hb dX6_safe_41 rfl (lv_at hl 2 rfl) ?_
        refine lv_if_ne (tgt := 49) hx hb dX6_safe_42 (by decide) (fun c4 => ?_) (fun c4 => ?_)
        · rw [if_neg c4] at hf
          refine lv_iconst (v := 0) hx hb dX6_safe_49 (by decide) ?_
          exact ob_iretR hx hb hr hlocks hM hS (v := 0) rfl hf dX6_safe_50
        · rw [if_pos c4] at hf
          refine lv_iconst (v := 1) hx hb dX6_safe_45 (by decide) ?_
          refine lv_goto (tgt := 50) hx hb dX6_safe_46 (by decide) ?_
          exact ob_iretR hx hb hr hlocks hM hS (v := 1) rfl hf dX6_safe_50
      · rw [if_neg c3] at hf
        refine lv_iload_n hx hb dX6_safe_18 rfl (lv_at hl 3 rfl) ?_
        refine lv_iload_n hx hb dX6_safe_19 rfl (lv_at hl 1 rfl) ?_
        refine lv_icmp_eq (tgt := 35) hx hb dX6_safe_20 (by decide) (fun c5 => ?_) (fun c5 => ?_)
        · rw [if_pos c5] at hf
          exact w_35 (f_X6_safe_L13 g n) ih x1 x2 x3 _ _ hM hS _ (lv_sub hl [0, 1, 2, 3] rfl) hf
        · rw [if_neg c5] at hf
          refine lv_iload_n hx hb dX6_safe_23 rfl (lv_at hl 2 rfl) ?_
          refine lv_aload_n hx hb dX6_safe_24 rfl (lv_at hl 0 rfl) ?_
          refine ob_gr (j := 2) hx hb hts in_own hown hK hM (q := 0) shX_0 (C := RX6) (T := TX6) (N := 8) rfl 1 (by decide) hf_19 rfl dX6_safe_25 ?_
          refine lv_iload_n hx hb dX6_safe_28 rfl (lv_at hl 3 rfl) ?_
          refine lv_iload_n hx hb dX6_safe_29 rfl (lv_at hl 1 rfl) ?_
          obtain ⟨v6, e6, hf⟩ := ob_e1 hf
          refine ob_calli (va_runVN (As := [.int x3, .int x1]) (rest := [.int x2]) ⟨hx, hb, hml, hown, hts⟩ (c_X4_sayable l dC dI ad cI cZ hI 3 (Nat.le_refl _) 2 isTown_2 g x3 x1  v6 e6) ⟨va_cnB 2 hts gX6_safe_X4_sayable_n140 rfl rfl rfl (ob_nl hK nw_X6_140) hi_X4 hd_X4_sayable (ob_R (Nat.le_trans (by decide) hd) (by decide)), hin_X4_sayable, hse_X4_sayable⟩ (ob_preV hK hM (q := 2) shX_2 rfl) rfl rfl hl.1 rfl (lv_room (Nat.le_of_ble_eq_true rfl)) dX6_safe_30 ⟨Nat.le_refl _, Nat.le_refl _⟩) hS (fun H locs hM hS => ?_)
          refine lv_ior hx hb dX6_safe_33 ?_
          refine lv_istore_n (lv' := [(2, .int (x2 ||| v6)), (0, .ref (ad 0)), (1, .int x1), (3, .int x3)]) hx hb dX6_safe_34 rfl hl (by decide) rfl (fun ls hl => ?_)
          exact w_35 (f_X6_safe_L13 g n) ih x1 (x2 ||| v6) x3 _ _ hM hS _ (lv_sub hl [1, 2, 0, 3] rfl) hf
  subst ha
  have hl := lv_entry ([.ref (ad 0), .int x1]) (n := 4) (Nat.le_of_ble_eq_true rfl)
  rw [lg_entry_eq]
  generalize (lg_sl ([.ref (ad 0), .int x1]) ++ List.replicate (4 - (lg_sl ([.ref (ad 0), .int x1])).length) Slot.unset).toArray = ls at hl ⊢
  have hl : lv_has ls 4 [(0, .ref (ad 0)), (1, .int x1)] := hl
  have hM := hM0
  have hS := hS0
  unfold f_X6_safe at hf
  refine lv_iload_n hx hb dX6_safe_0 rfl (lv_at hl 1 rfl) ?_
  obtain ⟨v1, e1, hf⟩ := ob_e1 hf
  refine ob_calli (va_runS (As := [.int x1]) (rest := []) ⟨hx, hb, hml, hown, hts⟩ (c_X6_isMan l dC dI ad cI cZ hI 1 (Nat.le_refl _) g x1  v1 e1) (va_cwS 1 hts gX6_safe_X6_isMan rfl rfl rfl hd_X6_isMan (ob_R (Nat.le_trans (by decide) hd) (by decide))) (ob_preS hK hM) rfl rfl hl.1 rfl (lv_room (Nat.le_of_ble_eq_true rfl)) dX6_safe_1 ⟨Nat.le_refl _, Nat.le_refl _⟩) hS (fun H locs hM hS => ?_)
  refine lv_if_ne (tgt := 9) hx hb dX6_safe_4 (by decide) (fun c2 => ?_) (fun c2 => ?_)
  · rw [if_neg c2] at hf
    refine lv_iconst (v := 0) hx hb dX6_safe_9 (by decide) ?_
    refine lv_istore_n (lv' := [(2, .int 0), (0, .ref (ad 0)), (1, .int x1)]) hx hb dX6_safe_10 rfl hl (by decide) rfl (fun ls hl => ?_)
    refine lv_iconst (v := 0) hx hb dX6_safe_11 (by decide) ?_
    refine lv_istore_n (lv' := [(3, .int 0), (2, .int 0), (0, .ref (ad 0)), (1, .int x1)]) hx hb dX6_safe_12 rfl hl (by decide) rfl (fun ls hl => ?_)
    exact w_13 FU x1 0 0 _ _ hM hS _ (lv_sub hl [2, 3, 1, 0] rfl) hf
  · rw [if_pos c2] at hf
    refine lv_iconst (v := (-1)) hx hb dX6_safe_7 (by decide) ?_
    exact ob_iretR hx hb hr hlocks hM hS (v := (-1)) rfl hf dX6_safe_8
set_option maxHeartbeats 4000000 in
set_option maxRecDepth 100000 in
theorem c_X6_goodMatches (l : Launch) (dC : Nat → ClassId) (dI : Nat → Nat → Nat) (ad : Nat → Nat) (cI cZ : ClassId) (hI : ob_inj shX ad) (d : Nat) (hd : 29 ≤ d) (g : Mm) (x1 x2 : Int32) (r : Int32) (t : Mm) (hf : f_X6_goodMatches g x1 x2 = some (r, t)) : ob_Mi l yX6_goodMatches wsX6_goodMatches d (dC, dI) vwCl shX ad cI cZ nwX [.ref (ad 0), .int x1, .int x2] g r t := by
  refine ob_ofW (cc := cX6_goodMatches) (maxL := 5) (ret := (some .int)) (by decide) rfl ?_
  intro p e s m args below meth c ha hx hb hr hml hts hown hlocks hM0 hK hS0
  have hown : s.vm.findClass RX6 = some m.cls := hown
  have w_50 : ∀ (k5 : Mm → Int32 → Int32 → Int32 → Int32 → Option (Int32 × Mm)) (hk5 : ∀ (g : Mm) (x1 x2 x3 x4 : Int32) (H : Heap) (locs : List Loc), va_P (dC, dI) vwCl (ob_ws shX ad cI cZ g) H → va_S (ob_A shX ad) s.heap H locs → ∀ (ls : Array Slot), lv_has ls 5 [(0, .ref (ad 0)), (1, .int x1), (2, .int x2), (3, .int x3), (4, .int x4)] → k5 g x1 x2 x3 x4 = some (r, t) → W p l e (rmN d) s m args below meth c H locs 0 0 (MQ below (ob_Qi (dC, dI) vwCl shX ad cI cZ r t) args s 0 0 (ob_A shX ad)) (F0 m 5 ls [])), ∀ (g : Mm) (x1 x2 x3 x4 : Int32) (H : Heap) (locs : List Loc), va_P (dC, dI) vwCl (ob_ws shX ad cI cZ g) H → va_S (ob_A shX ad) s.heap H locs → ∀ (ls : Array Slot), lv_has ls 5 [(0, .ref (ad 0)), (1, .int x1), (2, .int x2), (3, .int x3), (4, .int x4)] → f_X6_goodMatches_J50 k5 g x1 x2 x3 x4 = some (r, t) → W p l e (rmN d) s m args below meth c H locs 0 0 (MQ below (ob_Qi (dC, dI) vwCl shX ad cI cZ r t) args s 0 0 (ob_A shX ad)) (F0 m 50 ls []) := by
    intro k5 hk5 g x1 x2 x3 x4 H locs hM hS ls hl hf
    unfold f_X6_goodMatches_J50 at hf
    refine lv_iinc (v := (x4 + 1)) (lv' := [(4, .int (x4 + 1)), (0, .ref (ad 0)), (1, .int x1), (2, .int x2), (3, .int x3)]) hx hb dX6_goodMatches_50 hl (k := 4) rfl rfl (by decide) rfl (fun ls hl => ?_)
    refine lv_goto (tgt := 5) hx hb dX6_goodMatches_53 (by decide) ?_
    exact hk5 g x1 x2 x3 (x4 + 1) _ _ hM hS _ (lv_sub hl [1, 2, 3, 4, 0] rfl) hf
  have w_35 : ∀ (k5 : Mm → Int32 → Int32 → Int32 → Int32 → Option (Int32 × Mm)) (hk5 : ∀ (g : Mm) (x1 x2 x3 x4 : Int32) (H : Heap) (locs : List Loc), va_P (dC, dI) vwCl (ob_ws shX ad cI cZ g) H → va_S (ob_A shX ad) s.heap H locs → ∀ (ls : Array Slot), lv_has ls 5 [(0, .ref (ad 0)), (1, .int x1), (2, .int x2), (3, .int x3), (4, .int x4)] → k5 g x1 x2 x3 x4 = some (r, t) → W p l e (rmN d) s m args below meth c H locs 0 0 (MQ below (ob_Qi (dC, dI) vwCl shX ad cI cZ r t) args s 0 0 (ob_A shX ad)) (F0 m 5 ls [])), ∀ (g : Mm) (x1 x2 x3 x4 : Int32) (H : Heap) (locs : List Loc), va_P (dC, dI) vwCl (ob_ws shX ad cI cZ g) H → va_S (ob_A shX ad) s.heap H locs → ∀ (ls : Array Slot), lv_has ls 5 [(0, .ref (ad 0)), (1, .int x1), (2, .int x2), (3, .int x3), (4, .int x4)] → f_X6_goodMatches_J35 k5 g x1 x2 x3 x4 = some (r, t) → W p l e (rmN d) s m args below meth c H locs 0 0 (MQ below (ob_Qi (dC, dI) vwCl shX ad cI cZ r t) args s 0 0 (ob_A shX ad)) (F0 m 35 ls []) := by
    intro k5 hk5 g x1 x2 x3 x4 H locs hM hS ls hl hf
    unfold f_X6_goodMatches_J35 at hf
    refine lv_aload_n hx hb dX6_goodMatches_35 rfl (lv_at hl 0 rfl) ?_
    refine lv_iload_n hx hb dX6_goodMatches_36 rfl (lv_at hl 1 rfl) ?_
    refine lv_iload_n hx hb dX6_goodMatches_37 rfl (lv_at hl 2 rfl) ?_
    refine lv_iload hx hb dX6_goodMatches_38 (lv_at hl 4 rfl) ?_
    refine lv_iconst (v := 0) hx hb dX6_goodMatches_40 (by decide) ?_
    obtain ⟨v5, g5, e5, hf⟩ := ob_e2 hf
    refine ob_calli (va_runV (As := [.int x1, .int x2, .int x4, .int 0]) (rest := []) ⟨hx, hb, hml, hown, hts⟩ (c_X6_comesOff l dC dI ad cI cZ hI 28 (Nat.le_refl _) g x1 x2 x4 0  v5 g5 e5) (cwV 4 hts gX6_goodMatches_X6_comesOff rfl rfl rfl ⟨rfl, hd_X6_comesOff⟩ (ob_R (Nat.le_trans (by decide) hd) (by decide))) (ob_preV hK hM (q := 0) shX_0 rfl) rfl rfl hl.1 rfl (lv_room (Nat.le_of_ble_eq_true rfl)) dX6_goodMatches_41 ⟨Nat.le_refl _, Nat.le_refl _⟩) hS (fun H locs hM hS => ?_)
    refine lv_if_eq (tgt := 50) hx hb dX6_goodMatches_44 (by decide) (fun c6 => ?_) (fun c6 => ?_)
    · rw [if_pos c6] at hf
      exact w_50 k5 hk5 g5 x1 x2 x3 x4 _ _ hM hS _ (lv_sub hl [0, 1, 2, 3, 4] rfl) hf
    · rw [if_neg c6] at hf
      refine lv_iinc (v := (x3 + 1)) (lv' := [(3, .int (x3 + 1)), (0, .ref (ad 0)), (1, .int x1), (2, .int x2), (4, .int x4)]) hx hb dX6_goodMatches_47 hl (k := 3) rfl rfl (by decide) rfl (fun ls hl => ?_)
      exact w_50 k5 hk5 g5 x1 x2 (x3 + 1) x4 _ _ hM hS _ (lv_sub hl [1, 2, 3, 0, 4] rfl) hf
  have w_5 : ∀ (n : Nat), ∀ (g : Mm) (x1 x2 x3 x4 : Int32) (H : Heap) (locs : List Loc), va_P (dC, dI) vwCl (ob_ws shX ad cI cZ g) H → va_S (ob_A shX ad) s.heap H locs → ∀ (ls : Array Slot), lv_has ls 5 [(0, .ref (ad 0)), (1, .int x1), (2, .int x2), (3, .int x3), (4, .int x4)] → f_X6_goodMatches_L5 n g x1 x2 x3 x4 = some (r, t) → W p l e (rmN d) s m args below meth c H locs 0 0 (MQ below (ob_Qi (dC, dI) vwCl shX ad cI cZ r t) args s 0 0 (ob_A shX ad)) (F0 m 5 ls []) := by
    intro n
    induction n with
    | zero =>
      intro g x1 x2 x3 x4 H locs hM hS ls hl hf
      cases hf
    | succ n ih =>
      intro g x1 x2 x3 x4 H locs hM hS ls hl hf
      unfold f_X6_goodMatches_L5 at hf
      refine lv_iload hx hb dX6_goodMatches_5 (lv_at hl 4 rfl) ?_
      refine lv_iconst (v := 5) hx hb dX6_goodMatches_7 (by decide) ?_
      refine lv_icmp_ge (tgt := 56) hx hb dX6_goodMatches_8 (by decide) (fun c1 => ?_) (fun c1 => ?_)
      · rw [if_pos c1] at hf
        refine lv_iload_n hx hb dX6_goodMatches_56 rfl (lv_at hl 3 rfl) ?_
        exact ob_iret hx hb hr hlocks hM hS (v := x3) rfl hf dX6_goodMatches_57
      · rw [if_neg c1] at hf
        refine lv_iload hx hb dX6_goodMatches_11 (lv_at hl 4 rfl) ?_
        refine lv_iload_n hx hb dX6_goodMatches_13 rfl (lv_at hl 1 rfl) ?_
        refine lv_icmp_ne (tgt := 20) hx hb dX6_goodMatches_14 (by decide) (fun c2 => ?_) (fun c2 => ?_)
        · rw [if_neg c2] at hf
          refine lv_aload_n hx hb dX6_goodMatches_20 rfl (lv_at hl 0 rfl) ?_
          refine lv_iload_n hx hb dX6_goodMatches_21 rfl (lv_at hl 1 rfl) ?_
          refine lv_iload_n hx hb dX6_goodMatches_22 rfl (lv_at hl 2 rfl) ?_
          refine lv_iload hx hb dX6_goodMatches_23 (lv_at hl 4 rfl) ?_
          refine lv_iconst (v := 1) hx hb dX6_goodMatches_25 (by decide) ?_
          obtain ⟨v3, g3, e3, hf⟩ := ob_e2 hf
          refine ob_calli (va_runV (As := [.int x1, .int x2, .int x4, .int 1]) (rest := []) ⟨hx, hb, hml, hown, hts⟩ (c_X6_comesOff l dC dI ad cI cZ hI 28 (Nat.le_refl _) g x1 x2 x4 1  v3 g3 e3) (cwV 4 hts gX6_goodMatches_X6_comesOff rfl rfl rfl ⟨rfl, hd_X6_comesOff⟩ (ob_R (Nat.le_trans (by decide) hd) (by decide))) (ob_preV hK hM (q := 0) shX_0 rfl) rfl rfl hl.1 rfl (lv_room (Nat.le_of_ble_eq_true rfl)) dX6_goodMatches_26 ⟨Nat.le_refl _, Nat.le_refl _⟩) hS (fun H locs hM hS => ?_)
          refine lv_if_eq (tgt := 35) hx hb dX6_goodMatches_29 (by decide) (fun c4 => ?_) (fun c4 => ?_)
          · rw [if_pos c4] at hf
            exact w_35 (f_X6_goodMatches_L5 n) ih g3 x1 x2 x3 x4 _ _ hM hS _ (lv_sub hl [0, 1, 2, 3, 4] rfl) hf
          · rw [if_neg c4] at hf
            refine lv_iinc (v := (x3 + 1)) (lv' := [(3, .int (x3 + 1)), (0, .ref (ad 0)), (1, .int x1), (2, .int x2), (4, .int x4)]) hx hb dX6_goodMatches_32 hl (k := 3) rfl rfl (by decide) rfl (fun ls hl => ?_)
            exact w_35 (f_X6_goodMatches_L5 n) ih g3 x1 x2 (x3 + 1) x4 _ _ hM hS _ (lv_sub hl [1, 2, 3, 0, 4] rfl) hf
        · rw [if_pos c2] at hf
          refine lv_goto (tgt := 50) hx hb dX6_goodMatches_17 (by decide) ?_
          exact w_50 (f_X6_goodMatches_L5 n) ih g x1 x2 x3 x4 _ _ hM hS _ (lv_sub hl [0, 1, 2, 3, 4] rfl) hf
  subst ha
  have hl := lv_entry ([.ref (ad 0), .int x1, .int x2]) (n := 5) (Nat.le_of_ble_eq_true rfl)
  rw [lg_entry_eq]
  generalize (lg_sl ([.ref (ad 0), .int x1, .int x2]) ++ List.replicate (5 - (lg_sl ([.ref (ad 0), .int x1, .int x2])).length) Slot.unset).toArray = ls at hl ⊢
  have hl : lv_has ls 5 [(0, .ref (ad 0)), (1, .int x1), (2, .int x2)] := hl
  have hM := hM0
  have hS := hS0
  unfold f_X6_goodMatches at hf
  refine lv_iconst (v := 0) hx hb dX6_goodMatches_0 (by decide) ?_
  refine lv_istore_n (lv' := [(3, .int 0), (0, .ref (ad 0)), (1, .int x1), (2, .int x2)]) hx hb dX6_goodMatches_1 rfl hl (by decide) rfl (fun ls hl => ?_)
  refine lv_iconst (v := 0) hx hb dX6_goodMatches_2 (by decide) ?_
  refine lv_istore (lv' := [(4, .int 0), (3, .int 0), (0, .ref (ad 0)), (1, .int x1), (2, .int x2)]) hx hb dX6_goodMatches_3 hl (by decide) rfl (fun ls hl => ?_)
  exact w_5 FU g x1 x2 0 0 _ _ hM hS _ (lv_sub hl [2, 3, 4, 1, 0] rfl) hf
set_option maxHeartbeats 4000000 in
set_option maxRecDepth 100000 in
theorem c_X6_worth (l : Launch) (dC : Nat → ClassId) (dI : Nat → Nat → Nat) (ad : Nat → Nat) (cI cZ : ClassId) (hI : ob_inj shX ad) (d : Nat) (hd : 30 ≤ d) (g : Mm) (x1 x2 : Int32) (r : Int32) (t : Mm) (hf : f_X6_worth g x1 x2 = some (r, t)) : ob_Mi l yX6_worth wsX6_worth d (dC, dI) vwCl shX ad cI cZ nwX [.ref (ad 0), .int x1, .int x2] g r t := by
  refine ob_ofW (cc := cX6_worth) (maxL := 5) (ret := (some .int)) (by decide) rfl ?_
  intro p e s m args below meth c ha hx hb hr hml hts hown hlocks hM0 hK hS0
  have hown : s.vm.findClass RX6 = some m.cls := hown
  have in_own : ∀ w ∈ wsX60, w ∈ wsX6_worth := fun w h => (List.mem_cons_of_mem _ (List.mem_append_left _ (List.mem_append_left _ (List.mem_append_right _ h))))
  have hf_19 := hts (.fieldLink RX6 19 "OneWorse" "town" "LOneWorse$Town;") (List.mem_cons_of_mem _ (List.mem_append_left _ (List.mem_append_left _ (List.mem_append_left _ (List.mem_append_left _ (List.mem_of_getElem? (i := 0) rfl))))))
  have hi_X4 := hts (.initialized RX4) (List.mem_cons_of_mem _ (List.mem_append_left _ (List.mem_append_left _ (List.mem_append_left _ (List.mem_append_left _ (List.mem_of_getElem? (i := 12) rfl))))))
  have hin_X4_knownTo := hts (.instanceMethod yX4_knownTo) (List.mem_cons_of_mem _ (List.mem_append_left _ (List.mem_append_left _ (List.mem_append_left _ (List.mem_append_left _ (List.mem_of_getElem? (i := 11) rfl))))))
  have hse_X4_knownTo := hts (.selects RX4 yX4_knownTo yX4_knownTo) (List.mem_cons_of_mem _ (List.mem_append_left _ (List.mem_append_left _ (List.mem_append_left _ (List.mem_append_left _ (List.mem_of_getElem? (i := 13) rfl))))))
  subst ha
  have hl := lv_entry ([.ref (ad 0), .int x1, .int x2]) (n := 5) (Nat.le_of_ble_eq_true rfl)
  rw [lg_entry_eq]
  generalize (lg_sl ([.ref (ad 0), .int x1, .int x2]) ++ List.replicate (5 - (lg_sl ([.ref (ad 0), .int x1, .int x2])).length) Slot.unset).toArray = ls at hl ⊢
  have hl : lv_has ls 5 [(0, .ref (ad 0)), (1, .int x1), (2, .int x2)] := hl
  have hM := hM0
  have hS := hS0
  unfold f_X6_worth at hf
  refine lv_iload_n hx hb dX6_worth_0 rfl (lv_at hl 1 rfl) ?_
  obtain ⟨v1, e1, hf⟩ := ob_e1 hf
  refine ob_calli (va_runS (As := [.int x1]) (rest := []) ⟨hx, hb, hml, hown, hts⟩ (c_X6_isInsult l dC dI ad cI cZ hI 1 (Nat.le_refl _) g x1  v1 e1) (va_cwS 1 hts gX6_worth_X6_isInsult rfl rfl rfl hd_X6_isInsult (ob_R (Nat.le_trans (by decide) hd) (by decide))) (ob_preS hK hM) rfl rfl hl.1 rfl (lv_room (Nat.le_of_ble_eq_true rfl)) dX6_worth_1 ⟨Nat.le_refl _, Nat.le_refl _⟩) hS (fun H locs hM hS => ?_)
  refine lv_if_eq (tgt := 14) hx hb dX6_worth_4 (by decide) (fun c2 => ?_) (fun c2 => ?_)
  · rw [if_pos c2] at hf
    refine lv_iconst (v := (-1)) hx hb dX6_worth_14 (by decide) ?_
    exact ob_iret hx hb hr hlocks hM hS (v := (-1)) rfl hf dX6_worth_15
  · rw [if_neg c2] at hf
    refine lv_iload_n hx hb dX6_worth_7 rfl (lv_at hl 2 rfl) ?_
    obtain ⟨v3, e3, hf⟩ := ob_e1 hf
    refine ob_calli (va_runS (As := [.int x2]) (rest := []) ⟨hx, hb, hml, hown, hts⟩ (c_X6_isMan l dC dI ad cI cZ hI 1 (Nat.le_refl _) g x2  v3 e3) (va_cwS 1 hts gX6_worth_X6_isMan rfl rfl rfl hd_X6_isMan (ob_R (Nat.le_trans (by decide) hd) (by decide))) (ob_preS hK hM) rfl rfl hl.1 rfl (lv_room (Nat.le_of_ble_eq_true rfl)) dX6_worth_8 ⟨Nat.le_refl _, Nat.le_refl _⟩) hS (fun H locs hM hS => ?_)
    refine lv_if_ne (tgt := 16) hx hb dX6_worth_11 (by decide) (fun c4 => ?_) (fun c4 => ?_)
    · rw [if_neg c4] at hf
      refine lv_aload_n hx hb dX6_worth_16 rfl (lv_at hl 0 rfl) ?_
      refine ob_gr (j := 2) hx hb hts in_own hown hK hM (q := 0) shX_0 (C := RX6) (T := TX6) (N := 8) rfl 1 (by decide) hf_19 rfl dX6_worth_17 ?_
      refine lv_iload_n hx hb dX6_worth_20 rfl (lv_at hl 2 rfl) ?_
      obtain ⟨v5, e5, hf⟩ := ob_e1 hf
      refine ob_calli (va_runVN (As := [.int x2]) (rest := []) ⟨hx, hb, hml, hown, hts⟩ (c_X4_knownTo l dC dI ad cI cZ hI 1 (Nat.le_refl _) 2 isTown_2 g x2  v5 e5) ⟨va_cnB 1 hts gX6_worth_X4_knownTo_n125 rfl rfl rfl (ob_nl hK nw_X6_125) hi_X4 hd_X4_knownTo (ob_R (Nat.le_trans (by decide) hd) (by decide)), hin_X4_knownTo, hse_X4_knownTo⟩ (ob_preV hK hM (q := 2) shX_2 rfl) rfl rfl hl.1 rfl (lv_room (Nat.le_of_ble_eq_true rfl)) dX6_worth_21 ⟨Nat.le_refl _, Nat.le_refl _⟩) hS (fun H locs hM hS => ?_)
      refine lv_istore_n (lv' := [(3, .int v5), (0, .ref (ad 0)), (1, .int x1), (2, .int x2)]) hx hb dX6_worth_24 rfl hl (by decide) rfl (fun ls hl => ?_)
      refine lv_iload_n hx hb dX6_worth_25 rfl (lv_at hl 0 rfl) ?_
      refine lv_iload_n hx hb dX6_worth_26 rfl (lv_at hl 2 rfl) ?_
      obtain ⟨v6, e6, hf⟩ := ob_e1 hf
      refine ob_calli (va_runS (As := [.int v5, .int x1]) (rest := []) ⟨hx, hb, hml, hown, hts⟩ (c_X6_has l dC dI ad cI cZ hI 0 (Nat.le_refl _) g v5 x1  v6 e6) (va_cwS 2 hts gX6_worth_X6_has rfl rfl rfl hd_X6_has (ob_R (Nat.le_trans (by decide) hd) (by decide))) (ob_preS hK hM) rfl rfl hl.1 rfl (lv_room (Nat.le_of_ble_eq_true rfl)) dX6_worth_27 ⟨Nat.le_refl _, Nat.le_refl _⟩) hS (fun H locs hM hS => ?_)
      refine lv_if_eq (tgt := 36) hx hb dX6_worth_30 (by decide) (fun c7 => ?_) (fun c7 => ?_)
      · rw [if_pos c7] at hf
        refine lv_aload_n hx hb dX6_worth_36 rfl (lv_at hl 1 rfl) ?_
        refine lv_iload_n hx hb dX6_worth_37 rfl (lv_at hl 3 rfl) ?_
        refine lv_iload_n hx hb dX6_worth_38 rfl (lv_at hl 0 rfl) ?_
        refine lv_iconst (v := 1) hx hb dX6_worth_39 (by decide) ?_
        refine lv_iload_n hx hb dX6_worth_40 rfl (lv_at hl 2 rfl) ?_
        refine lv_ishl hx hb dX6_worth_41 ?_
        refine lv_ior hx hb dX6_worth_42 ?_
        obtain ⟨v8, g8, e8, hf⟩ := ob_e2 hf
        refine ob_calli (va_runV (As := [.int x2, .int (v5 ||| ((1 : Int32) <<< (x1 &&& 31)))]) (rest := []) ⟨hx, hb, hml, hown, hts⟩ (c_X6_goodMatches l dC dI ad cI cZ hI 29 (Nat.le_refl _) g x2 (v5 ||| ((1 : Int32) <<< (x1 &&& 31)))  v8 g8 e8) (cwV 2 hts gX6_worth_X6_goodMatches rfl rfl rfl ⟨rfl, hd_X6_goodMatches⟩ (ob_R (Nat.le_trans (by decide) hd) (by decide))) (ob_preV hK hM (q := 0) shX_0 rfl) rfl rfl hl.1 rfl (lv_room (Nat.le_of_ble_eq_true rfl)) dX6_worth_43 ⟨Nat.le_refl _, Nat.le_refl _⟩) hS (fun H locs hM hS => ?_)
        refine lv_aload_n hx hb dX6_worth_46 rfl (lv_at hl 1 rfl) ?_
        refine lv_iload_n hx hb dX6_worth_47 rfl (lv_at hl 3 rfl) ?_
        refine lv_iload_n hx hb dX6_worth_48 rfl (lv_at hl 0 rfl) ?_
        obtain ⟨v9, g9, e9, hf⟩ := ob_e2 hf
        refine ob_calli (va_runV (As := [.int x2, .int v5]) (rest := [.int v8]) ⟨hx, hb, hml, hown, hts⟩ (c_X6_goodMatches l dC dI ad cI cZ hI 29 (Nat.le_refl _) g8 x2 v5  v9 g9 e9) (cwV 2 hts gX6_worth_X6_goodMatches rfl rfl rfl ⟨rfl, hd_X6_goodMatches⟩ (ob_R (Nat.le_trans (by decide) hd) (by decide))) (ob_preV hK hM (q := 0) shX_0 rfl) rfl rfl hl.1 rfl (lv_room (Nat.le_of_ble_eq_true rfl)) dX6_worth_49 ⟨Nat.le_refl _, Nat.le_refl _⟩) hS (fun H locs hM hS => ?_)
        refine lv_isub hx hb dX6_worth_52 ?_
        refine lv_istore (lv' := [(4, .int (v8 - v9)), (3, .int v5), (0, .ref (ad 0)), (1, .int x1), (2, .int x2)]) hx hb dX6_worth_53 hl (by decide) rfl (fun ls hl => ?_)
        refine lv_bipush (v := 100) hx hb dX6_worth_55 (by decide) ?_
        refine lv_iload hx hb dX6_worth_57 (lv_at hl 0 rfl) ?_
        refine lv_iadd hx hb dX6_worth_59 ?_
        exact ob_iret hx hb hr hlocks hM hS (v := (100 + (v8 - v9))) rfl hf dX6_worth_60
      · rw [if_neg c7] at hf
        refine lv_bipush (v := (-3)) hx hb dX6_worth_33 (by decide) ?_
        exact ob_iret hx hb hr hlocks hM hS (v := (-3)) rfl hf dX6_worth_35
    · rw [if_pos c4] at hf
      refine lv_iconst (v := (-1)) hx hb dX6_worth_14 (by decide) ?_
      exact ob_iret hx hb hr hlocks hM hS (v := (-1)) rfl hf dX6_worth_15
set_option maxHeartbeats 4000000 in
set_option maxRecDepth 100000 in
theorem c_X1_hopeful (l : Launch) (dC : Nat → ClassId) (dI : Nat → Nat → Nat) (ad : Nat → Nat) (cI cZ : ClassId) (hI : ob_inj shX ad) (d : Nat) (hd : 1 ≤ d) (g : Mm) (x1 x2 : Int32) (r : Int32) (hf : f_X1_hopeful g x1 x2 = some r) : ob_Mi l yX1_hopeful wsX1_hopeful d (dC, dI) vwCl shX ad cI cZ nwX [.ref (ad 19), .int x1, .int x2] g r g := by
  refine ob_ofW (cc := cX1_hopeful) (maxL := 3) (ret := (some .int)) (by decide) rfl ?_
  intro p e s m args below meth c ha hx hb hr hml hts hown hlocks hM0 hK hS0
  have hown : s.vm.findClass RX1 = some m.cls := hown
  have in_own : ∀ w ∈ wsX10, w ∈ wsX1_hopeful := fun w h => (List.mem_cons_of_mem _ (List.mem_append_right _ h))
  have hf_15 := hts (.fieldLink RX1 15 "OneWorse$Crowd" "hope" "[I") (List.mem_cons_of_mem _ (List.mem_append_left _ (List.mem_of_getElem? (i := 0) rfl)))
  have hi_X6 := hts (.initialized RX6) (List.mem_cons_of_mem _ (List.mem_append_left _ (List.mem_of_getElem? (i := 2) rfl)))
  have hst_X6_at := hts (.static yX6_at) (List.mem_cons_of_mem _ (List.mem_append_left _ (List.mem_of_getElem? (i := 1) rfl)))
  subst ha
  have hl := lv_entry ([.ref (ad 19), .int x1, .int x2]) (n := 3) (Nat.le_of_ble_eq_true rfl)
  rw [lg_entry_eq]
  generalize (lg_sl ([.ref (ad 19), .int x1, .int x2]) ++ List.replicate (3 - (lg_sl ([.ref (ad 19), .int x1, .int x2])).length) Slot.unset).toArray = ls at hl ⊢
  have hl : lv_has ls 3 [(0, .ref (ad 19)), (1, .int x1), (2, .int x2)] := hl
  have hM := hM0
  have hS := hS0
  unfold f_X1_hopeful at hf
  refine lv_aload_n hx hb dX1_hopeful_0 rfl (lv_at hl 0 rfl) ?_
  refine ob_gr (j := 21) hx hb hts in_own hown hK hM (q := 19) shX_19 (C := RX1) (T := TX1) (N := 5) rfl 2 (by decide) hf_15 rfl dX1_hopeful_1 ?_
  refine lv_iload_n hx hb dX1_hopeful_4 rfl (lv_at hl 1 rfl) ?_
  refine lv_iconst (v := 5) hx hb dX1_hopeful_5 (by decide) ?_
  refine lv_imul hx hb dX1_hopeful_6 ?_
  refine lv_iload_n hx hb dX1_hopeful_7 rfl (lv_at hl 2 rfl) ?_
  refine lv_iadd hx hb dX1_hopeful_8 ?_
  obtain ⟨v1, e1, hf⟩ := ob_e1 hf
  refine ob_calli (va_runSN (As := [.ref (ad 21), .int ((x1 * 5) + x2)]) (rest := []) ⟨hx, hb, hml, hown, hts⟩ (c_X6_at l dC dI ad cI cZ hI 0 (Nat.le_refl _) g 21 160 shX_21 ((x1 * 5) + x2)  v1 e1) ⟨va_cnB 2 hts gX1_hopeful_X6_at_n45 rfl rfl rfl (ob_nl hK nw_X1_45) hi_X6 hd_X6_at (ob_R (Nat.le_trans (by decide) hd) (by decide)), hst_X6_at, trivial⟩ (ob_preS hK hM) rfl rfl hl.1 rfl (lv_room (Nat.le_of_ble_eq_true rfl)) dX1_hopeful_9 ⟨Nat.le_refl _, Nat.le_refl _⟩) hS (fun H locs hM hS => ?_)
  exact ob_iretR hx hb hr hlocks hM hS (v := v1) rfl hf dX1_hopeful_12
set_option maxHeartbeats 4000000 in
set_option maxRecDepth 100000 in
theorem c_X1_leadingTo (l : Launch) (dC : Nat → ClassId) (dI : Nat → Nat → Nat) (ad : Nat → Nat) (cI cZ : ClassId) (hI : ob_inj shX ad) (d : Nat) (hd : 2 ≤ d) (g : Mm) (x1 : Int32) (r : Int32) (hf : f_X1_leadingTo g x1 = some r) : ob_Mi l yX1_leadingTo wsX1_leadingTo d (dC, dI) vwCl shX ad cI cZ nwX [.ref (ad 19), .int x1] g r g := by
  refine ob_ofW (cc := cX1_leadingTo) (maxL := 4) (ret := (some .int)) (by decide) rfl ?_
  intro p e s m args below meth c ha hx hb hr hml hts hown hlocks hM0 hK hS0
  have hown : s.vm.findClass RX1 = some m.cls := hown
  have in_own : ∀ w ∈ wsX10, w ∈ wsX1_leadingTo := fun w h => (List.mem_cons_of_mem _ (List.mem_append_left _ (List.mem_append_right _ h)))
  have hf_25 := hts (.fieldLink RX1 25 "OneWorse$Crowd" "town" "LOneWorse$Town;") (List.mem_cons_of_mem _ (List.mem_append_left _ (List.mem_append_left _ (List.mem_of_getElem? (i := 0) rfl))))
  have hi_X4 := hts (.initialized RX4) (List.mem_cons_of_mem _ (List.mem_append_left _ (List.mem_append_left _ (List.mem_of_getElem? (i := 2) rfl))))
  have hin_X4_worseThan := hts (.instanceMethod yX4_worseThan) (List.mem_cons_of_mem _ (List.mem_append_left _ (List.mem_append_left _ (List.mem_of_getElem? (i := 1) rfl))))
  have hse_X4_worseThan := hts (.selects RX4 yX4_worseThan yX4_worseThan) (List.mem_cons_of_mem _ (List.mem_append_left _ (List.mem_append_left _ (List.mem_of_getElem? (i := 3) rfl))))
  have w_29 : ∀ (k4 : Int32 → Int32 → Int32 → Option (Int32)) (hk4 : ∀ (x1 x2 x3 : Int32) (H : Heap) (locs : List Loc), va_P (dC, dI) vwCl (ob_ws shX ad cI cZ g) H → va_S (ob_A shX ad) s.heap H locs → ∀ (ls : Array Slot), lv_has ls 4 [(0, .ref (ad 19)), (1, .int x1), (2, .int x2), (3, .int x3)] → k4 x1 x2 x3 = some r → W p l e (rmN d) s m args below meth c H locs 0 0 (MQ below (ob_Qi (dC, dI) vwCl shX ad cI cZ r g) args s 0 0 (ob_A shX ad)) (F0 m 4 ls [])), ∀ (x1 x2 x3 : Int32) (H : Heap) (locs : List Loc), va_P (dC, dI) vwCl (ob_ws shX ad cI cZ g) H → va_S (ob_A shX ad) s.heap H locs → ∀ (ls : Array Slot), lv_has ls 4 [(0, .ref (ad 19)), (1, .int x1), (2, .int x2), (3, .int x3)] → f_X1_leadingTo_J29 g k4 x1 x2 x3 = some r → W p l e (rmN d) s m args below meth c H locs 0 0 (MQ below (ob_Qi (dC, dI) vwCl shX ad cI cZ r g) args s 0 0 (ob_A shX ad)) (F0 m 29 ls []) := by
    intro k4 hk4 x1 x2 x3 H locs hM hS ls hl hf
    unfold f_X1_leadingTo_J29 at hf
    refine lv_iinc (v := (x3 + 1)) (lv' := [(3, .int (x3 + 1)), (0, .ref (ad 19)), (1, .int x1), (2, .int x2)]) hx hb dX1_leadingTo_29 hl (k := 3) rfl rfl (by decide) rfl (fun ls hl => ?_)
    refine lv_goto (tgt := 4) hx hb dX1_leadingTo_32 (by decide) ?_
    exact hk4 x1 x2 (x3 + 1) _ _ hM hS _ (lv_sub hl [1, 2, 3, 0] rfl) hf
  have w_4 : ∀ (n : Nat), ∀ (x1 x2 x3 : Int32) (H : Heap) (locs : List Loc), va_P (dC, dI) vwCl (ob_ws shX ad cI cZ g) H → va_S (ob_A shX ad) s.heap H locs → ∀ (ls : Array Slot), lv_has ls 4 [(0, .ref (ad 19)), (1, .int x1), (2, .int x2), (3, .int x3)] → f_X1_leadingTo_L4 g n x1 x2 x3 = some r → W p l e (rmN d) s m args below meth c H locs 0 0 (MQ below (ob_Qi (dC, dI) vwCl shX ad cI cZ r g) args s 0 0 (ob_A shX ad)) (F0 m 4 ls []) := by
    intro n
    induction n with
    | zero =>
      intro x1 x2 x3 H locs hM hS ls hl hf
      cases hf
    | succ n ih =>
      intro x1 x2 x3 H locs hM hS ls hl hf
      unfold f_X1_leadingTo_L4 at hf
      refine lv_iload_n hx hb dX1_leadingTo_4 rfl (lv_at hl 3 rfl) ?_
      refine lv_bipush (v := 10) hx hb dX1_leadingTo_5 (by decide) ?_
      refine lv_icmp_ge (tgt := 35) hx hb dX1_leadingTo_7 (by decide) (fun c1 => ?_) (fun c1 => ?_)
      · rw [if_pos c1] at hf
        refine lv_iload_n hx hb dX1_leadingTo_35 rfl (lv_at hl 2 rfl) ?_
        exact ob_iretR hx hb hr hlocks hM hS (v := x2) rfl hf dX1_leadingTo_36
      · rw [if_neg c1] at hf
        refine lv_aload_n hx hb dX1_leadingTo_10 rfl (lv_at hl 0 rfl) ?_
        refine ob_gr (j := 2) hx hb hts in_own hown hK hM (q := 19) shX_19 (C := RX1) (T := TX1) (N := 5) rfl 0 (by decide) hf_25 rfl dX1_leadingTo_11 ?_
        refine lv_iload_n hx hb dX1_leadingTo_14 rfl (lv_at hl 3 rfl) ?_
        obtain ⟨v2, e2, hf⟩ := ob_e1 hf
        refine ob_calli (va_runVN (As := [.int x3]) (rest := []) ⟨hx, hb, hml, hown, hts⟩ (c_X4_worseThan l dC dI ad cI cZ hI 1 (Nat.le_refl _) 2 isTown_2 g x3  v2 e2) ⟨va_cnB 1 hts gX1_leadingTo_X4_worseThan_n70 rfl rfl rfl (ob_nl hK nw_X1_70) hi_X4 hd_X4_worseThan (ob_R (Nat.le_trans (by decide) hd) (by decide)), hin_X4_worseThan, hse_X4_worseThan⟩ (ob_preV hK hM (q := 2) shX_2 rfl) rfl rfl hl.1 rfl (lv_room (Nat.le_of_ble_eq_true rfl)) dX1_leadingTo_15 ⟨Nat.le_refl _, Nat.le_refl _⟩) hS (fun H locs hM hS => ?_)
        refine lv_iload_n hx hb dX1_leadingTo_18 rfl (lv_at hl 1 rfl) ?_
        refine lv_iand hx hb dX1_leadingTo_19 ?_
        refine lv_if_eq (tgt := 29) hx hb dX1_leadingTo_20 (by decide) (fun c3 => ?_) (fun c3 => ?_)
        · rw [if_pos c3] at hf
          exact w_29 (f_X1_leadingTo_L4 g n) ih x1 x2 x3 _ _ hM hS _ (lv_sub hl [0, 1, 2, 3] rfl) hf
        · rw [if_neg c3] at hf
          refine lv_iload_n hx hb dX1_leadingTo_23 rfl (lv_at hl 2 rfl) ?_
          refine lv_iconst (v := 1) hx hb dX1_leadingTo_24 (by decide) ?_
          refine lv_iload_n hx hb dX1_leadingTo_25 rfl (lv_at hl 3 rfl) ?_
          refine lv_ishl hx hb dX1_leadingTo_26 ?_
          refine lv_ior hx hb dX1_leadingTo_27 ?_
          refine lv_istore_n (lv' := [(2, .int (x2 ||| ((1 : Int32) <<< (x3 &&& 31)))), (0, .ref (ad 19)), (1, .int x1), (3, .int x3)]) hx hb dX1_leadingTo_28 rfl hl (by decide) rfl (fun ls hl => ?_)
          exact w_29 (f_X1_leadingTo_L4 g n) ih x1 (x2 ||| ((1 : Int32) <<< (x3 &&& 31))) x3 _ _ hM hS _ (lv_sub hl [1, 2, 0, 3] rfl) hf
  subst ha
  have hl := lv_entry ([.ref (ad 19), .int x1]) (n := 4) (Nat.le_of_ble_eq_true rfl)
  rw [lg_entry_eq]
  generalize (lg_sl ([.ref (ad 19), .int x1]) ++ List.replicate (4 - (lg_sl ([.ref (ad 19), .int x1])).length) Slot.unset).toArray = ls at hl ⊢
  have hl : lv_has ls 4 [(0, .ref (ad 19)), (1, .int x1)] := hl
  have hM := hM0
  have hS := hS0
  unfold f_X1_leadingTo at hf
  refine lv_iconst (v := 0) hx hb dX1_leadingTo_0 (by decide) ?_
  refine lv_istore_n (lv' := [(2, .int 0), (0, .ref (ad 19)), (1, .int x1)]) hx hb dX1_leadingTo_1 rfl hl (by decide) rfl (fun ls hl => ?_)
  refine lv_iconst (v := 0) hx hb dX1_leadingTo_2 (by decide) ?_
  refine lv_istore_n (lv' := [(3, .int 0), (2, .int 0), (0, .ref (ad 19)), (1, .int x1)]) hx hb dX1_leadingTo_3 rfl hl (by decide) rfl (fun ls hl => ?_)
  exact w_4 FU x1 0 0 _ _ hM hS _ (lv_sub hl [2, 3, 1, 0] rfl) hf
set_option maxHeartbeats 4000000 in
set_option maxRecDepth 100000 in
theorem c_X1_hopeAheadOf (l : Launch) (dC : Nat → ClassId) (dI : Nat → Nat → Nat) (ad : Nat → Nat) (cI cZ : ClassId) (hI : ob_inj shX ad) (d : Nat) (hd : 3 ≤ d) (g : Mm) (x1 : Int32) (t : Mm) (hf : f_X1_hopeAheadOf g x1 = some t) : ob_Mv l yX1_hopeAheadOf wsX1_hopeAheadOf d (dC, dI) vwCl shX ad cI cZ nwX [.ref (ad 19), .int x1] g t := by
  refine ob_ofW (cc := cX1_hopeAheadOf) (maxL := 5) (ret := none) (by decide) rfl ?_
  intro p e s m args below meth c ha hx hb hr hml hts hown hlocks hM0 hK hS0
  have hown : s.vm.findClass RX1 = some m.cls := hown
  have in_own : ∀ w ∈ wsX10, w ∈ wsX1_hopeAheadOf := fun w h => (List.mem_cons_of_mem _ (List.mem_append_left _ (List.mem_append_right _ h)))
  have hi_X6 := hts (.initialized RX6) (List.mem_cons_of_mem _ (List.mem_append_left _ (List.mem_append_left _ (List.mem_append_left _ (List.mem_of_getElem? (i := 4) rfl)))))
  have hst_X6_has := hts (.static yX6_has) (List.mem_cons_of_mem _ (List.mem_append_left _ (List.mem_append_left _ (List.mem_append_left _ (List.mem_of_getElem? (i := 3) rfl)))))
  have hf_9 := hts (.fieldLink RX1 9 "OneWorse$Crowd" "fitting" "[I") (List.mem_cons_of_mem _ (List.mem_append_left _ (List.mem_append_left _ (List.mem_append_left _ (List.mem_of_getElem? (i := 0) rfl)))))
  have hst_X6_at := hts (.static yX6_at) (List.mem_cons_of_mem _ (List.mem_append_left _ (List.mem_append_left _ (List.mem_append_left _ (List.mem_of_getElem? (i := 11) rfl)))))
  have hf_15 := hts (.fieldLink RX1 15 "OneWorse$Crowd" "hope" "[I") (List.mem_cons_of_mem _ (List.mem_append_left _ (List.mem_append_left _ (List.mem_append_left _ (List.mem_of_getElem? (i := 1) rfl)))))
  have hf_25 := hts (.fieldLink RX1 25 "OneWorse$Crowd" "town" "LOneWorse$Town;") (List.mem_cons_of_mem _ (List.mem_append_left _ (List.mem_append_left _ (List.mem_append_left _ (List.mem_of_getElem? (i := 2) rfl)))))
  have hi_X4 := hts (.initialized RX4) (List.mem_cons_of_mem _ (List.mem_append_left _ (List.mem_append_left _ (List.mem_append_left _ (List.mem_of_getElem? (i := 18) rfl)))))
  have hin_X4_knownTo := hts (.instanceMethod yX4_knownTo) (List.mem_cons_of_mem _ (List.mem_append_left _ (List.mem_append_left _ (List.mem_append_left _ (List.mem_of_getElem? (i := 22) rfl)))))
  have hse_X4_knownTo := hts (.selects RX4 yX4_knownTo yX4_knownTo) (List.mem_cons_of_mem _ (List.mem_append_left _ (List.mem_append_left _ (List.mem_append_left _ (List.mem_of_getElem? (i := 23) rfl)))))
  have hst_X6_store := hts (.static yX6_store) (List.mem_cons_of_mem _ (List.mem_append_left _ (List.mem_append_left _ (List.mem_append_right _ (List.mem_of_getElem? (i := 2) rfl)))))
  have w_32 : ∀ (k4 : Mm → Int32 → Int32 → Int32 → Option (Mm)) (hk4 : ∀ (g : Mm) (x1 x2 x3 : Int32) (H : Heap) (locs : List Loc), va_P (dC, dI) vwCl (ob_ws shX ad cI cZ g) H → va_S (ob_A shX ad) s.heap H locs → ∀ (ls : Array Slot), lv_has ls 5 [(0, .ref (ad 19)), (1, .int x1), (2, .int x2), (3, .int x3)] → k4 g x1 x2 x3 = some t → W p l e (rmN d) s m args below meth c H locs 0 0 (MQ below (ob_Qv (dC, dI) vwCl shX ad cI cZ t) args s 0 0 (ob_A shX ad)) (F0 m 4 ls [])), ∀ (g : Mm) (x1 x2 x3 : Int32) (H : Heap) (locs : List Loc), va_P (dC, dI) vwCl (ob_ws shX ad cI cZ g) H → va_S (ob_A shX ad) s.heap H locs → ∀ (ls : Array Slot), lv_has ls 5 [(0, .ref (ad 19)), (1, .int x1), (2, .int x2), (3, .int x3)] → f_X1_hopeAheadOf_J32 k4 g x1 x2 x3 = some t → W p l e (rmN d) s m args below meth c H locs 0 0 (MQ below (ob_Qv (dC, dI) vwCl shX ad cI cZ t) args s 0 0 (ob_A shX ad)) (F0 m 32 ls []) := by
    intro k4 hk4 g x1 x2 x3 H locs hM hS ls hl hf
    unfold f_X1_hopeAheadOf_J32 at hf
    refine lv_iinc (v := (x3 + 1)) (lv' := [(3, .int (x3 + 1)), (0, .ref (ad 19)), (1, .int x1), (2, .int x2)]) hx hb dX1_hopeAheadOf_32 hl (k := 3) rfl rfl (by decide) rfl (fun ls hl => ?_)
    refine lv_goto (tgt := 4) hx hb dX1_hopeAheadOf_35 (by decide) ?_
    exact hk4 g x1 x2 (x3 + 1) _ _ hM hS _ (lv_sub hl [1, 2, 3, 0] rfl) hf
  have w_4 : ∀ (k40 : Mm → Int32 → Int32 → Int32 → Option (Mm)) (hk40 : ∀ (g : Mm) (x1 x2 x3 : Int32) (H : Heap) (locs : List Loc), va_P (dC, dI) vwCl (ob_ws shX ad cI cZ g) H → va_S (ob_A shX ad) s.heap H locs → ∀ (ls : Array Slot), lv_has ls 5 [(0, .ref (ad 19)), (1, .int x1), (2, .int x2), (3, .int x3)] → k40 g x1 x2 x3 = some t → W p l e (rmN d) s m args below meth c H locs 0 0 (MQ below (ob_Qv (dC, dI) vwCl shX ad cI cZ t) args s 0 0 (ob_A shX ad)) (F0 m 40 ls [])) (n : Nat), ∀ (g : Mm) (x1 x2 x3 : Int32) (H : Heap) (locs : List Loc), va_P (dC, dI) vwCl (ob_ws shX ad cI cZ g) H → va_S (ob_A shX ad) s.heap H locs → ∀ (ls : Array Slot), lv_has ls 5 [(0, .ref (ad 19)), (1, .int x1), (2, .int x2), (3, .int x3)] → f_X1_hopeAheadOf_L4 k40 n g x1 x2 x3 = some t → W p l e (rmN d) s m args below meth c H locs 0 0 (MQ below (ob_Qv (dC, dI) vwCl shX ad cI cZ t) args s 0 0 (ob_A shX ad)) (F0 m 4 ls []) := by
    intro k40 hk40 n
    induction n with
    | zero =>
      intro g x1 x2 x3 H locs hM hS ls hl hf
      cases hf
    | succ n ih =>
      intro g x1 x2 x3 H locs hM hS ls hl hf
      unfold f_X1_hopeAheadOf_L4 at hf
      refine lv_iload_n hx hb dX1_hopeAheadOf_4 rfl (lv_at hl 3 rfl) ?_
      refine lv_iconst (v := 5) hx hb dX1_hopeAheadOf_5 (by decide) ?_
      refine lv_icmp_ge (tgt := 38) hx hb dX1_hopeAheadOf_6 (by decide) (fun c1 => ?_) (fun c1 => ?_)
      · rw [if_pos c1] at hf
        refine lv_iconst (v := 0) hx hb dX1_hopeAheadOf_38 (by decide) ?_
        refine lv_istore_n (lv' := [(3, .int 0), (0, .ref (ad 19)), (1, .int x1), (2, .int x2)]) hx hb dX1_hopeAheadOf_39 rfl hl (by decide) rfl (fun ls hl => ?_)
        exact hk40 g x1 x2 0 _ _ hM hS _ (lv_sub hl [1, 2, 3, 0] rfl) hf
      · rw [if_neg c1] at hf
        refine lv_iload_n hx hb dX1_hopeAheadOf_9 rfl (lv_at hl 1 rfl) ?_
        refine lv_iload_n hx hb dX1_hopeAheadOf_10 rfl (lv_at hl 3 rfl) ?_
        obtain ⟨v2, e2, hf⟩ := ob_e1 hf
        refine ob_calli (va_runSN (As := [.int x1, .int x3]) (rest := []) ⟨hx, hb, hml, hown, hts⟩ (c_X6_has l dC dI ad cI cZ hI 0 (Nat.le_refl _) g x1 x3  v2 e2) ⟨va_cnB 2 hts gX1_hopeAheadOf_X6_has_n56 rfl rfl rfl (ob_nl hK nw_X1_56) hi_X6 hd_X6_has (ob_R (Nat.le_trans (by decide) hd) (by decide)), hst_X6_has, trivial⟩ (ob_preS hK hM) rfl rfl hl.1 rfl (lv_room (Nat.le_of_ble_eq_true rfl)) dX1_hopeAheadOf_11 ⟨Nat.le_refl _, Nat.le_refl _⟩) hS (fun H locs hM hS => ?_)
        refine lv_if_eq (tgt := 32) hx hb dX1_hopeAheadOf_14 (by decide) (fun c3 => ?_) (fun c3 => ?_)
        · rw [if_pos c3] at hf
          exact w_32 (f_X1_hopeAheadOf_L4 k40 n) ih g x1 x2 x3 _ _ hM hS _ (lv_sub hl [0, 1, 2, 3] rfl) hf
        · rw [if_neg c3] at hf
          refine lv_iload_n hx hb dX1_hopeAheadOf_17 rfl (lv_at hl 2 rfl) ?_
          refine lv_aload_n hx hb dX1_hopeAheadOf_18 rfl (lv_at hl 0 rfl) ?_
          refine lv_iload_n hx hb dX1_hopeAheadOf_19 rfl (lv_at hl 1 rfl) ?_
          refine lv_iconst (v := 1) hx hb dX1_hopeAheadOf_20 (by decide) ?_
          refine lv_iload_n hx hb dX1_hopeAheadOf_21 rfl (lv_at hl 3 rfl) ?_
          refine lv_ishl hx hb dX1_hopeAheadOf_22 ?_
          refine lv_iconst (v := (-1)) hx hb dX1_hopeAheadOf_23 (by decide) ?_
          refine lv_ixor hx hb dX1_hopeAheadOf_24 ?_
          refine lv_iand hx hb dX1_hopeAheadOf_25 ?_
          refine lv_iload_n hx hb dX1_hopeAheadOf_26 rfl (lv_at hl 3 rfl) ?_
          obtain ⟨v4, e4, hf⟩ := ob_e1 hf
          refine ob_calli (va_runV (As := [.int (x1 &&& (((1 : Int32) <<< (x3 &&& 31)) ^^^ (-1))), .int x3]) (rest := [.int x2]) ⟨hx, hb, hml, hown, hts⟩ (c_X1_hopeful l dC dI ad cI cZ hI 1 (Nat.le_refl _) g (x1 &&& (((1 : Int32) <<< (x3 &&& 31)) ^^^ (-1))) x3  v4 e4) (cwV 2 hts gX1_hopeAheadOf_X1_hopeful rfl rfl rfl ⟨rfl, hd_X1_hopeful⟩ (ob_R (Nat.le_trans (by decide) hd) (by decide))) (ob_preV hK hM (q := 19) shX_19 rfl) rfl rfl hl.1 rfl (lv_room (Nat.le_of_ble_eq_true rfl)) dX1_hopeAheadOf_27 ⟨Nat.le_refl _, Nat.le_refl _⟩) hS (fun H locs hM hS => ?_)
          refine lv_ior hx hb dX1_hopeAheadOf_30 ?_
          refine lv_istore_n (lv' := [(2, .int (x2 ||| v4)), (0, .ref (ad 19)), (1, .int x1), (3, .int x3)]) hx hb dX1_hopeAheadOf_31 rfl hl (by decide) rfl (fun ls hl => ?_)
          exact w_32 (f_X1_hopeAheadOf_L4 k40 n) ih g x1 (x2 ||| v4) x3 _ _ hM hS _ (lv_sub hl [1, 2, 0, 3] rfl) hf
  have w_105 : ∀ (k40 : Mm → Int32 → Int32 → Int32 → Option (Mm)) (hk40 : ∀ (g : Mm) (x1 x2 x3 : Int32) (H : Heap) (locs : List Loc), va_P (dC, dI) vwCl (ob_ws shX ad cI cZ g) H → va_S (ob_A shX ad) s.heap H locs → ∀ (ls : Array Slot), lv_has ls 5 [(0, .ref (ad 19)), (1, .int x1), (2, .int x2), (3, .int x3)] → k40 g x1 x2 x3 = some t → W p l e (rmN d) s m args below meth c H locs 0 0 (MQ below (ob_Qv (dC, dI) vwCl shX ad cI cZ t) args s 0 0 (ob_A shX ad)) (F0 m 40 ls [])), ∀ (g : Mm) (x1 x2 x3 : Int32) (H : Heap) (locs : List Loc), va_P (dC, dI) vwCl (ob_ws shX ad cI cZ g) H → va_S (ob_A shX ad) s.heap H locs → ∀ (ls : Array Slot), lv_has ls 5 [(0, .ref (ad 19)), (1, .int x1), (2, .int x2), (3, .int x3)] → f_X1_hopeAheadOf_J105 k40 g x1 x2 x3 = some t → W p l e (rmN d) s m args below meth c H locs 0 0 (MQ below (ob_Qv (dC, dI) vwCl shX ad cI cZ t) args s 0 0 (ob_A shX ad)) (F0 m 105 ls []) := by
    intro k40 hk40 g x1 x2 x3 H locs hM hS ls hl hf
    unfold f_X1_hopeAheadOf_J105 at hf
    refine lv_iinc (v := (x3 + 1)) (lv' := [(3, .int (x3 + 1)), (0, .ref (ad 19)), (1, .int x1), (2, .int x2)]) hx hb dX1_hopeAheadOf_105 hl (k := 3) rfl rfl (by decide) rfl (fun ls hl => ?_)
    refine lv_goto (tgt := 40) hx hb dX1_hopeAheadOf_108 (by decide) ?_
    exact hk40 g x1 x2 (x3 + 1) _ _ hM hS _ (lv_sub hl [1, 2, 3, 0] rfl) hf
  have w_80 : ∀ (k40 : Mm → Int32 → Int32 → Int32 → Option (Mm)) (hk40 : ∀ (g : Mm) (x1 x2 x3 : Int32) (H : Heap) (locs : List Loc), va_P (dC, dI) vwCl (ob_ws shX ad cI cZ g) H → va_S (ob_A shX ad) s.heap H locs → ∀ (ls : Array Slot), lv_has ls 5 [(0, .ref (ad 19)), (1, .int x1), (2, .int x2), (3, .int x3)] → k40 g x1 x2 x3 = some t → W p l e (rmN d) s m args below meth c H locs 0 0 (MQ below (ob_Qv (dC, dI) vwCl shX ad cI cZ t) args s 0 0 (ob_A shX ad)) (F0 m 40 ls [])), ∀ (g : Mm) (x1 x2 x3 s0 : Int32) (H : Heap) (locs : List Loc), va_P (dC, dI) vwCl (ob_ws shX ad cI cZ g) H → va_S (ob_A shX ad) s.heap H locs → ∀ (ls : Array Slot), lv_has ls 5 [(0, .ref (ad 19)), (1, .int x1), (2, .int x2), (3, .int x3)] → f_X1_hopeAheadOf_J80 k40 g x1 x2 x3 s0 = some t → W p l e (rmN d) s m args below meth c H locs 0 0 (MQ below (ob_Qv (dC, dI) vwCl shX ad cI cZ t) args s 0 0 (ob_A shX ad)) (F0 m 80 ls [.int s0]) := by
    intro k40 hk40 g x1 x2 x3 s0 H locs hM hS ls hl hf
    unfold f_X1_hopeAheadOf_J80 at hf
    refine lv_istore (lv' := [(4, .int s0), (0, .ref (ad 19)), (1, .int x1), (2, .int x2), (3, .int x3)]) hx hb dX1_hopeAheadOf_80 hl (by decide) rfl (fun ls hl => ?_)
    refine lv_aload_n hx hb dX1_hopeAheadOf_82 rfl (lv_at hl 1 rfl) ?_
    refine ob_gr (j := 21) hx hb hts in_own hown hK hM (q := 19) shX_19 (C := RX1) (T := TX1) (N := 5) rfl 2 (by decide) hf_15 rfl dX1_hopeAheadOf_83 ?_
    refine lv_iload_n hx hb dX1_hopeAheadOf_86 rfl (lv_at hl 2 rfl) ?_
    refine lv_iconst (v := 5) hx hb dX1_hopeAheadOf_87 (by decide) ?_
    refine lv_imul hx hb dX1_hopeAheadOf_88 ?_
    refine lv_iload_n hx hb dX1_hopeAheadOf_89 rfl (lv_at hl 4 rfl) ?_
    refine lv_iadd hx hb dX1_hopeAheadOf_90 ?_
    refine lv_iload hx hb dX1_hopeAheadOf_91 (lv_at hl 0 rfl) ?_
    refine lv_aload_n hx hb dX1_hopeAheadOf_93 rfl (lv_at hl 1 rfl) ?_
    refine ob_gr (j := 2) hx hb hts in_own hown hK hM (q := 19) shX_19 (C := RX1) (T := TX1) (N := 5) rfl 0 (by decide) hf_25 rfl dX1_hopeAheadOf_94 ?_
    refine lv_iload_n hx hb dX1_hopeAheadOf_97 rfl (lv_at hl 4 rfl) ?_
    obtain ⟨v11, e11, hf⟩ := ob_e1 hf
    refine ob_calli (va_runVN (As := [.int x3]) (rest := [.int s0, .int ((x1 * 5) + x3), .ref (ad 21)]) ⟨hx, hb, hml, hown, hts⟩ (c_X4_knownTo l dC dI ad cI cZ hI 1 (Nat.le_refl _) 2 isTown_2 g x3  v11 e11) ⟨va_cnB 1 hts gX1_hopeAheadOf_X4_knownTo_n67 rfl rfl rfl (ob_nl hK nw_X1_67) hi_X4 hd_X4_knownTo (ob_R (Nat.le_trans (by decide) hd) (by decide)), hin_X4_knownTo, hse_X4_knownTo⟩ (ob_preV hK hM (q := 2) shX_2 rfl) rfl rfl hl.1 rfl (lv_room (Nat.le_of_ble_eq_true rfl)) dX1_hopeAheadOf_98 ⟨Nat.le_refl _, Nat.le_refl _⟩) hS (fun H locs hM hS => ?_)
    refine lv_iand hx hb dX1_hopeAheadOf_101 ?_
    obtain ⟨g12, e12, hf⟩ := ob_e1 hf
    refine ob_callv (va_runSN (As := [.ref (ad 21), .int ((x1 * 5) + x3), .int (s0 &&& v11)]) (rest := []) ⟨hx, hb, hml, hown, hts⟩ (c_X6_store l dC dI ad cI cZ hI 0 (Nat.le_refl _) g 21 160 shX_21 ((x1 * 5) + x3) (s0 &&& v11)  g12 e12) ⟨va_cnB 3 hts gX1_hopeAheadOf_X6_store_n41 rfl rfl rfl (ob_nl hK nw_X1_41) hi_X6 hd_X6_store (ob_R (Nat.le_trans (by decide) hd) (by decide)), hst_X6_store, trivial⟩ (ob_preS hK hM) rfl rfl hl.1 rfl (lv_room (Nat.le_of_ble_eq_true rfl)) dX1_hopeAheadOf_102 ⟨Nat.le_refl _, Nat.le_refl _⟩) hS (fun H locs hM hS => ?_)
    exact w_105 k40 hk40 g12 x1 x2 x3 _ _ hM hS _ (lv_sub hl [1, 2, 3, 4] rfl) hf
  have w_40 : ∀ (n : Nat), ∀ (g : Mm) (x1 x2 x3 : Int32) (H : Heap) (locs : List Loc), va_P (dC, dI) vwCl (ob_ws shX ad cI cZ g) H → va_S (ob_A shX ad) s.heap H locs → ∀ (ls : Array Slot), lv_has ls 5 [(0, .ref (ad 19)), (1, .int x1), (2, .int x2), (3, .int x3)] → f_X1_hopeAheadOf_L40 n g x1 x2 x3 = some t → W p l e (rmN d) s m args below meth c H locs 0 0 (MQ below (ob_Qv (dC, dI) vwCl shX ad cI cZ t) args s 0 0 (ob_A shX ad)) (F0 m 40 ls []) := by
    intro n
    induction n with
    | zero =>
      intro g x1 x2 x3 H locs hM hS ls hl hf
      cases hf
    | succ n ih =>
      intro g x1 x2 x3 H locs hM hS ls hl hf
      unfold f_X1_hopeAheadOf_L40 at hf
      refine lv_iload_n hx hb dX1_hopeAheadOf_40 rfl (lv_at hl 3 rfl) ?_
      refine lv_iconst (v := 5) hx hb dX1_hopeAheadOf_41 (by decide) ?_
      refine lv_icmp_ge (tgt := 111) hx hb dX1_hopeAheadOf_42 (by decide) (fun c5 => ?_) (fun c5 => ?_)
      · rw [if_pos c5] at hf
        exact ob_vret hx hb hr hlocks hM hS hf dX1_hopeAheadOf_111
      · rw [if_neg c5] at hf
        refine lv_iload_n hx hb dX1_hopeAheadOf_45 rfl (lv_at hl 1 rfl) ?_
        refine lv_iload_n hx hb dX1_hopeAheadOf_46 rfl (lv_at hl 3 rfl) ?_
        obtain ⟨v6, e6, hf⟩ := ob_e1 hf
        refine ob_calli (va_runSN (As := [.int x1, .int x3]) (rest := []) ⟨hx, hb, hml, hown, hts⟩ (c_X6_has l dC dI ad cI cZ hI 0 (Nat.le_refl _) g x1 x3  v6 e6) ⟨va_cnB 2 hts gX1_hopeAheadOf_X6_has_n56 rfl rfl rfl (ob_nl hK nw_X1_56) hi_X6 hd_X6_has (ob_R (Nat.le_trans (by decide) hd) (by decide)), hst_X6_has, trivial⟩ (ob_preS hK hM) rfl rfl hl.1 rfl (lv_room (Nat.le_of_ble_eq_true rfl)) dX1_hopeAheadOf_47 ⟨Nat.le_refl _, Nat.le_refl _⟩) hS (fun H locs hM hS => ?_)
        refine lv_if_eq (tgt := 56) hx hb dX1_hopeAheadOf_50 (by decide) (fun c7 => ?_) (fun c7 => ?_)
        · rw [if_pos c7] at hf
          refine lv_iload_n hx hb dX1_hopeAheadOf_56 rfl (lv_at hl 1 rfl) ?_
          refine lv_if_ne (tgt := 66) hx hb dX1_hopeAheadOf_57 (by decide) (fun c8 => ?_) (fun c8 => ?_)
          · rw [if_neg c8] at hf
            refine lv_aload_n hx hb dX1_hopeAheadOf_66 rfl (lv_at hl 0 rfl) ?_
            refine lv_iload_n hx hb dX1_hopeAheadOf_67 rfl (lv_at hl 2 rfl) ?_
            refine lv_aload_n hx hb dX1_hopeAheadOf_68 rfl (lv_at hl 0 rfl) ?_
            refine ob_gr (j := 20) hx hb hts in_own hown hK hM (q := 19) shX_19 (C := RX1) (T := TX1) (N := 5) rfl 1 (by decide) hf_9 rfl dX1_hopeAheadOf_69 ?_
            refine lv_iload_n hx hb dX1_hopeAheadOf_72 rfl (lv_at hl 3 rfl) ?_
            obtain ⟨v9, e9, hf⟩ := ob_e1 hf
            refine ob_calli (va_runSN (As := [.ref (ad 20), .int x3]) (rest := [.int x2, .ref (ad 19)]) ⟨hx, hb, hml, hown, hts⟩ (c_X6_at l dC dI ad cI cZ hI 0 (Nat.le_refl _) g 20 5 shX_20 x3  v9 e9) ⟨va_cnB 2 hts gX1_hopeAheadOf_X6_at_n45 rfl rfl rfl (ob_nl hK nw_X1_45) hi_X6 hd_X6_at (ob_R (Nat.le_trans (by decide) hd) (by decide)), hst_X6_at, trivial⟩ (ob_preS hK hM) rfl rfl hl.1 rfl (lv_room (Nat.le_of_ble_eq_true rfl)) dX1_hopeAheadOf_73 ⟨Nat.le_refl _, Nat.le_refl _⟩) hS (fun H locs hM hS => ?_)
            refine lv_iand hx hb dX1_hopeAheadOf_76 ?_
            obtain ⟨v10, e10, hf⟩ := ob_e1 hf
            refine ob_calli (va_runV (As := [.int (x2 &&& v9)]) (rest := []) ⟨hx, hb, hml, hown, hts⟩ (c_X1_leadingTo l dC dI ad cI cZ hI 2 (Nat.le_refl _) g (x2 &&& v9)  v10 e10) (cwV 1 hts gX1_hopeAheadOf_X1_leadingTo rfl rfl rfl ⟨rfl, hd_X1_leadingTo⟩ (ob_R (Nat.le_trans (by decide) hd) (by decide))) (ob_preV hK hM (q := 19) shX_19 rfl) rfl rfl hl.1 rfl (lv_room (Nat.le_of_ble_eq_true rfl)) dX1_hopeAheadOf_77 ⟨Nat.le_refl _, Nat.le_refl _⟩) hS (fun H locs hM hS => ?_)
            exact w_80 (f_X1_hopeAheadOf_L40 n) ih g x1 x2 x3 v10 _ _ hM hS _ (lv_sub hl [0, 1, 2, 3] rfl) hf
          · rw [if_pos c8] at hf
            refine lv_sipush (v := 1023) hx hb dX1_hopeAheadOf_60 (by decide) ?_
            refine lv_goto (tgt := 80) hx hb dX1_hopeAheadOf_63 (by decide) ?_
            exact w_80 (f_X1_hopeAheadOf_L40 n) ih g x1 x2 x3 1023 _ _ hM hS _ (lv_sub hl [0, 1, 2, 3] rfl) hf
        · rw [if_neg c7] at hf
          refine lv_goto (tgt := 105) hx hb dX1_hopeAheadOf_53 (by decide) ?_
          exact w_105 (f_X1_hopeAheadOf_L40 n) ih g x1 x2 x3 _ _ hM hS _ (lv_sub hl [0, 1, 2, 3] rfl) hf
  subst ha
  have hl := lv_entry ([.ref (ad 19), .int x1]) (n := 5) (Nat.le_of_ble_eq_true rfl)
  rw [lg_entry_eq]
  generalize (lg_sl ([.ref (ad 19), .int x1]) ++ List.replicate (5 - (lg_sl ([.ref (ad 19), .int x1])).length) Slot.unset).toArray = ls at hl ⊢
  have hl : lv_has ls 5 [(0, .ref (ad 19)), (1, .int x1)] := hl
  have hM := hM0
  have hS := hS0
  unfold f_X1_hopeAheadOf at hf
  refine lv_iconst (v := 0) hx hb dX1_hopeAheadOf_0 (by decide) ?_
  refine lv_istore_n (lv' := [(2, .int 0), (0, .ref (ad 19)), (1, .int x1)]) hx hb dX1_hopeAheadOf_1 rfl hl (by decide) rfl (fun ls hl => ?_)
  refine lv_iconst (v := 0) hx hb dX1_hopeAheadOf_2 (by decide) ?_
  refine lv_istore_n (lv' := [(3, .int 0), (2, .int 0), (0, .ref (ad 19)), (1, .int x1)]) hx hb dX1_hopeAheadOf_3 rfl hl (by decide) rfl (fun ls hl => ?_)
  exact w_4 (f_X1_hopeAheadOf_L40 FU) (w_40 FU) FU g x1 0 0 _ _ hM hS _ (lv_sub hl [2, 3, 1, 0] rfl) hf
