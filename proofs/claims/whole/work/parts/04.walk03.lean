set_option maxHeartbeats 4000000 in
set_option maxRecDepth 100000 in
theorem c_X1_prepare (l : Launch) (dC : Nat → ClassId) (dI : Nat → Nat → Nat) (ad : Nat → Nat) (cI cZ : ClassId) (hI : ob_inj shX ad) (d : Nat) (hd : 4 ≤ d) (g : Mm) (x1 : Int32) (t : Mm) (hf : f_X1_prepare g x1 = some t) : ob_Mv l yX1_prepare wsX1_prepare d (dC, dI) vwCl shX ad cI cZ nwX [.ref (ad 19), .int x1] g t := by
  refine ob_ofW (cc := cX1_prepare) (maxL := 3) (ret := none) (by decide) rfl ?_
  intro p e s m args below meth c ha hx hb hr hml hts hown hlocks hM0 hK hS0
  have hown : s.vm.findClass RX1 = some m.cls := hown
  have in_own : ∀ w ∈ wsX10, w ∈ wsX1_prepare := fun w h => (List.mem_cons_of_mem _ (List.mem_append_left _ (List.mem_append_right _ h)))
  have hf_9 := hts (.fieldLink RX1 9 "OneWorse$Crowd" "fitting" "[I") (List.mem_cons_of_mem _ (List.mem_append_left _ (List.mem_append_left _ (List.mem_append_left _ (List.mem_of_getElem? (i := 0) rfl)))))
  have hf_25 := hts (.fieldLink RX1 25 "OneWorse$Crowd" "town" "LOneWorse$Town;") (List.mem_cons_of_mem _ (List.mem_append_left _ (List.mem_append_left _ (List.mem_append_left _ (List.mem_of_getElem? (i := 1) rfl)))))
  have hi_X4 := hts (.initialized RX4) (List.mem_cons_of_mem _ (List.mem_append_left _ (List.mem_append_left _ (List.mem_append_left _ (List.mem_of_getElem? (i := 3) rfl)))))
  have hin_X4_fitting := hts (.instanceMethod yX4_fitting) (List.mem_cons_of_mem _ (List.mem_append_left _ (List.mem_append_left _ (List.mem_append_left _ (List.mem_of_getElem? (i := 2) rfl)))))
  have hse_X4_fitting := hts (.selects RX4 yX4_fitting yX4_fitting) (List.mem_cons_of_mem _ (List.mem_append_left _ (List.mem_append_left _ (List.mem_append_left _ (List.mem_of_getElem? (i := 4) rfl)))))
  have hi_X6 := hts (.initialized RX6) (List.mem_cons_of_mem _ (List.mem_append_left _ (List.mem_append_left _ (List.mem_append_left _ (List.mem_of_getElem? (i := 12) rfl)))))
  have hst_X6_store := hts (.static yX6_store) (List.mem_cons_of_mem _ (List.mem_append_left _ (List.mem_append_left _ (List.mem_append_left _ (List.mem_of_getElem? (i := 19) rfl)))))
  have w_2 : ∀ (k31 : Mm → Int32 → Int32 → Option (Mm)) (hk31 : ∀ (g : Mm) (x1 x2 : Int32) (H : Heap) (locs : List Loc), va_P (dC, dI) vwCl (ob_ws shX ad cI cZ g) H → va_S (ob_A shX ad) s.heap H locs → ∀ (ls : Array Slot), lv_has ls 3 [(0, .ref (ad 19)), (1, .int x1), (2, .int x2)] → k31 g x1 x2 = some t → W p l e (rmN d) s m args below meth c H locs 0 0 (MQ below (ob_Qv (dC, dI) vwCl shX ad cI cZ t) args s 0 0 (ob_A shX ad)) (F0 m 31 ls [])) (n : Nat), ∀ (g : Mm) (x1 x2 : Int32) (H : Heap) (locs : List Loc), va_P (dC, dI) vwCl (ob_ws shX ad cI cZ g) H → va_S (ob_A shX ad) s.heap H locs → ∀ (ls : Array Slot), lv_has ls 3 [(0, .ref (ad 19)), (1, .int x1), (2, .int x2)] → f_X1_prepare_L2 k31 n g x1 x2 = some t → W p l e (rmN d) s m args below meth c H locs 0 0 (MQ below (ob_Qv (dC, dI) vwCl shX ad cI cZ t) args s 0 0 (ob_A shX ad)) (F0 m 2 ls []) := by
    intro k31 hk31 n
    induction n with
    | zero =>
      intro g x1 x2 H locs hM hS ls hl hf
      cases hf
    | succ n ih =>
      intro g x1 x2 H locs hM hS ls hl hf
      unfold f_X1_prepare_L2 at hf
      refine lv_iload_n hx hb dX1_prepare_2 rfl (lv_at hl 2 rfl) ?_
      refine lv_iconst (v := 5) hx hb dX1_prepare_3 (by decide) ?_
      refine lv_icmp_ge (tgt := 29) hx hb dX1_prepare_4 (by decide) (fun c1 => ?_) (fun c1 => ?_)
      · rw [if_pos c1] at hf
        refine lv_iconst (v := 0) hx hb dX1_prepare_29 (by decide) ?_
        refine lv_istore_n (lv' := [(2, .int 0), (0, .ref (ad 19)), (1, .int x1)]) hx hb dX1_prepare_30 rfl hl (by decide) rfl (fun ls hl => ?_)
        exact hk31 g x1 0 _ _ hM hS _ (lv_sub hl [1, 2, 0] rfl) hf
      · rw [if_neg c1] at hf
        refine lv_aload_n hx hb dX1_prepare_7 rfl (lv_at hl 0 rfl) ?_
        refine ob_gr (j := 20) hx hb hts in_own hown hK hM (q := 19) shX_19 (C := RX1) (T := TX1) (N := 5) rfl 1 (by decide) hf_9 rfl dX1_prepare_8 ?_
        refine lv_iload_n hx hb dX1_prepare_11 rfl (lv_at hl 2 rfl) ?_
        refine lv_aload_n hx hb dX1_prepare_12 rfl (lv_at hl 0 rfl) ?_
        refine ob_gr (j := 2) hx hb hts in_own hown hK hM (q := 19) shX_19 (C := RX1) (T := TX1) (N := 5) rfl 0 (by decide) hf_25 rfl dX1_prepare_13 ?_
        refine lv_iload_n hx hb dX1_prepare_16 rfl (lv_at hl 2 rfl) ?_
        obtain ⟨v2, e2, hf⟩ := ob_e1 hf
        refine ob_calli (va_runVN (As := [.int x2]) (rest := [.int x2, .ref (ad 20)]) ⟨hx, hb, hml, hown, hts⟩ (c_X4_fitting l dC dI ad cI cZ hI 2 (Nat.le_refl _) 2 isTown_2 g x2  v2 e2) ⟨va_cnB 1 hts gX1_prepare_X4_fitting_n49 rfl rfl rfl (ob_nl hK nw_X1_49) hi_X4 hd_X4_fitting (ob_R (Nat.le_trans (by decide) hd) (by decide)), hin_X4_fitting, hse_X4_fitting⟩ (ob_preV hK hM (q := 2) shX_2 rfl) rfl rfl hl.1 rfl (lv_room (Nat.le_of_ble_eq_true rfl)) dX1_prepare_17 ⟨Nat.le_refl _, Nat.le_refl _⟩) hS (fun H locs hM hS => ?_)
        obtain ⟨g3, e3, hf⟩ := ob_e1 hf
        refine ob_callv (va_runSN (As := [.ref (ad 20), .int x2, .int v2]) (rest := []) ⟨hx, hb, hml, hown, hts⟩ (c_X6_store l dC dI ad cI cZ hI 0 (Nat.le_refl _) g 20 5 shX_20 x2 v2  g3 e3) ⟨va_cnB 3 hts gX1_prepare_X6_store_n41 rfl rfl rfl (ob_nl hK nw_X1_41) hi_X6 hd_X6_store (ob_R (Nat.le_trans (by decide) hd) (by decide)), hst_X6_store, trivial⟩ (ob_preS hK hM) rfl rfl hl.1 rfl (lv_room (Nat.le_of_ble_eq_true rfl)) dX1_prepare_20 ⟨Nat.le_refl _, Nat.le_refl _⟩) hS (fun H locs hM hS => ?_)
        refine lv_iinc (v := (x2 + 1)) (lv' := [(2, .int (x2 + 1)), (0, .ref (ad 19)), (1, .int x1)]) hx hb dX1_prepare_23 hl (k := 2) rfl rfl (by decide) rfl (fun ls hl => ?_)
        refine lv_goto (tgt := 2) hx hb dX1_prepare_26 (by decide) ?_
        exact ih g3 x1 (x2 + 1) _ _ hM hS _ (lv_sub hl [1, 2, 0] rfl) hf
  have w_50 : ∀ (k31 : Mm → Int32 → Int32 → Option (Mm)) (hk31 : ∀ (g : Mm) (x1 x2 : Int32) (H : Heap) (locs : List Loc), va_P (dC, dI) vwCl (ob_ws shX ad cI cZ g) H → va_S (ob_A shX ad) s.heap H locs → ∀ (ls : Array Slot), lv_has ls 3 [(0, .ref (ad 19)), (1, .int x1), (2, .int x2)] → k31 g x1 x2 = some t → W p l e (rmN d) s m args below meth c H locs 0 0 (MQ below (ob_Qv (dC, dI) vwCl shX ad cI cZ t) args s 0 0 (ob_A shX ad)) (F0 m 31 ls [])), ∀ (g : Mm) (x1 x2 : Int32) (H : Heap) (locs : List Loc), va_P (dC, dI) vwCl (ob_ws shX ad cI cZ g) H → va_S (ob_A shX ad) s.heap H locs → ∀ (ls : Array Slot), lv_has ls 3 [(0, .ref (ad 19)), (1, .int x1), (2, .int x2)] → f_X1_prepare_J50 k31 g x1 x2 = some t → W p l e (rmN d) s m args below meth c H locs 0 0 (MQ below (ob_Qv (dC, dI) vwCl shX ad cI cZ t) args s 0 0 (ob_A shX ad)) (F0 m 50 ls []) := by
    intro k31 hk31 g x1 x2 H locs hM hS ls hl hf
    unfold f_X1_prepare_J50 at hf
    refine lv_iinc (v := (x2 + 1)) (lv' := [(2, .int (x2 + 1)), (0, .ref (ad 19)), (1, .int x1)]) hx hb dX1_prepare_50 hl (k := 2) rfl rfl (by decide) rfl (fun ls hl => ?_)
    refine lv_goto (tgt := 31) hx hb dX1_prepare_53 (by decide) ?_
    exact hk31 g x1 (x2 + 1) _ _ hM hS _ (lv_sub hl [1, 2, 0] rfl) hf
  have w_31 : ∀ (n : Nat), ∀ (g : Mm) (x1 x2 : Int32) (H : Heap) (locs : List Loc), va_P (dC, dI) vwCl (ob_ws shX ad cI cZ g) H → va_S (ob_A shX ad) s.heap H locs → ∀ (ls : Array Slot), lv_has ls 3 [(0, .ref (ad 19)), (1, .int x1), (2, .int x2)] → f_X1_prepare_L31 n g x1 x2 = some t → W p l e (rmN d) s m args below meth c H locs 0 0 (MQ below (ob_Qv (dC, dI) vwCl shX ad cI cZ t) args s 0 0 (ob_A shX ad)) (F0 m 31 ls []) := by
    intro n
    induction n with
    | zero =>
      intro g x1 x2 H locs hM hS ls hl hf
      cases hf
    | succ n ih =>
      intro g x1 x2 H locs hM hS ls hl hf
      unfold f_X1_prepare_L31 at hf
      refine lv_iload_n hx hb dX1_prepare_31 rfl (lv_at hl 2 rfl) ?_
      refine lv_bipush (v := 31) hx hb dX1_prepare_32 (by decide) ?_
      refine lv_icmp_gt (tgt := 56) hx hb dX1_prepare_34 (by decide) (fun c4 => ?_) (fun c4 => ?_)
      · rw [if_pos c4] at hf
        exact ob_vret hx hb hr hlocks hM hS hf dX1_prepare_56
      · rw [if_neg c4] at hf
        refine lv_iload_n hx hb dX1_prepare_37 rfl (lv_at hl 2 rfl) ?_
        refine lv_iload_n hx hb dX1_prepare_38 rfl (lv_at hl 1 rfl) ?_
        refine lv_iconst (v := (-1)) hx hb dX1_prepare_39 (by decide) ?_
        refine lv_ixor hx hb dX1_prepare_40 ?_
        refine lv_iand hx hb dX1_prepare_41 ?_
        refine lv_if_ne (tgt := 50) hx hb dX1_prepare_42 (by decide) (fun c5 => ?_) (fun c5 => ?_)
        · rw [if_neg c5] at hf
          exact w_50 (f_X1_prepare_L31 n) ih g x1 x2 _ _ hM hS _ (lv_sub hl [0, 1, 2] rfl) hf
        · rw [if_pos c5] at hf
          refine lv_aload_n hx hb dX1_prepare_45 rfl (lv_at hl 0 rfl) ?_
          refine lv_iload_n hx hb dX1_prepare_46 rfl (lv_at hl 2 rfl) ?_
          obtain ⟨g6, e6, hf⟩ := ob_e1 hf
          refine ob_callv (va_runV (As := [.int x2]) (rest := []) ⟨hx, hb, hml, hown, hts⟩ (c_X1_hopeAheadOf l dC dI ad cI cZ hI 3 (Nat.le_refl _) g x2  g6 e6) (cwV 1 hts gX1_prepare_X1_hopeAheadOf rfl rfl rfl ⟨rfl, hd_X1_hopeAheadOf⟩ (ob_R (Nat.le_trans (by decide) hd) (by decide))) (ob_preV hK hM (q := 19) shX_19 rfl) rfl rfl hl.1 rfl (lv_room (Nat.le_of_ble_eq_true rfl)) dX1_prepare_47 ⟨Nat.le_refl _, Nat.le_refl _⟩) hS (fun H locs hM hS => ?_)
          exact w_50 (f_X1_prepare_L31 n) ih g6 x1 x2 _ _ hM hS _ (lv_sub hl [0, 1, 2] rfl) hf
  subst ha
  have hl := lv_entry ([.ref (ad 19), .int x1]) (n := 3) (Nat.le_of_ble_eq_true rfl)
  rw [lg_entry_eq]
  generalize (lg_sl ([.ref (ad 19), .int x1]) ++ List.replicate (3 - (lg_sl ([.ref (ad 19), .int x1])).length) Slot.unset).toArray = ls at hl ⊢
  have hl : lv_has ls 3 [(0, .ref (ad 19)), (1, .int x1)] := hl
  have hM := hM0
  have hS := hS0
  unfold f_X1_prepare at hf
  refine lv_iconst (v := 0) hx hb dX1_prepare_0 (by decide) ?_
  refine lv_istore_n (lv' := [(2, .int 0), (0, .ref (ad 19)), (1, .int x1)]) hx hb dX1_prepare_1 rfl hl (by decide) rfl (fun ls hl => ?_)
  exact w_2 (f_X1_prepare_L31 FU) (w_31 FU) FU g x1 0 _ _ hM hS _ (lv_sub hl [1, 2, 0] rfl) hf
set_option maxHeartbeats 4000000 in
set_option maxRecDepth 100000 in
theorem c_X1_canGoOn (l : Launch) (dC : Nat → ClassId) (dI : Nat → Nat → Nat) (ad : Nat → Nat) (cI cZ : ClassId) (hI : ob_inj shX ad) (d : Nat) (hd : 2 ≤ d) (d9 : Nat) (hd9 : d9 + 1 ≤ d) (rc_canSayOne : Mm → Int32 → Int32 → Int32 → Int32 → Option (Int32)) (hrc_canSayOne : ∀ (g : Mm) (x1 x2 x3 x4 : Int32) (r : Int32), rc_canSayOne g x1 x2 x3 x4 = some r → ob_Mi l yX1_canSayOne wsX1_canSayOne d9 (dC, dI) vwCl shX ad cI cZ nwX [.ref (ad 19), .int x1, .int x2, .int x3, .int x4] g r g) (g : Mm) (x1 x2 x3 x4 : Int32) (r : Int32) (hf : f_X1_canGoOn rc_canSayOne g x1 x2 x3 x4 = some r) : ob_Mi l yX1_canGoOn wsX1_canGoOn d (dC, dI) vwCl shX ad cI cZ nwX [.ref (ad 19), .int x1, .int x2, .int x3, .int x4] g r g := by
  refine ob_ofW (cc := cX1_canGoOn) (maxL := 9) (ret := (some .boolean)) (by decide) rfl ?_
  intro p e s m args below meth c ha hx hb hr hml hts hown hlocks hM0 hK hS0
  have hown : s.vm.findClass RX1 = some m.cls := hown
  have in_own : ∀ w ∈ wsX10, w ∈ wsX1_canGoOn := fun w h => (List.mem_cons_of_mem _ (List.mem_append_left _ (List.mem_append_right _ h)))
  have hf_25 := hts (.fieldLink RX1 25 "OneWorse$Crowd" "town" "LOneWorse$Town;") (List.mem_cons_of_mem _ (List.mem_append_left _ (List.mem_append_left _ (List.mem_append_left _ (List.mem_of_getElem? (i := 0) rfl)))))
  have hi_X4 := hts (.initialized RX4) (List.mem_cons_of_mem _ (List.mem_append_left _ (List.mem_append_left _ (List.mem_append_left _ (List.mem_of_getElem? (i := 3) rfl)))))
  have hin_X4_worseThan := hts (.instanceMethod yX4_worseThan) (List.mem_cons_of_mem _ (List.mem_append_left _ (List.mem_append_left _ (List.mem_append_left _ (List.mem_of_getElem? (i := 2) rfl)))))
  have hse_X4_worseThan := hts (.selects RX4 yX4_worseThan yX4_worseThan) (List.mem_cons_of_mem _ (List.mem_append_left _ (List.mem_append_left _ (List.mem_append_left _ (List.mem_of_getElem? (i := 4) rfl)))))
  have hf_9 := hts (.fieldLink RX1 9 "OneWorse$Crowd" "fitting" "[I") (List.mem_cons_of_mem _ (List.mem_append_left _ (List.mem_append_left _ (List.mem_append_left _ (List.mem_of_getElem? (i := 1) rfl)))))
  have hi_X6 := hts (.initialized RX6) (List.mem_cons_of_mem _ (List.mem_append_left _ (List.mem_append_left _ (List.mem_append_left _ (List.mem_of_getElem? (i := 8) rfl)))))
  have hst_X6_at := hts (.static yX6_at) (List.mem_cons_of_mem _ (List.mem_append_left _ (List.mem_append_left _ (List.mem_append_left _ (List.mem_of_getElem? (i := 7) rfl)))))
  have hst_X6_has := hts (.static yX6_has) (List.mem_cons_of_mem _ (List.mem_append_left _ (List.mem_append_left _ (List.mem_append_left _ (List.mem_of_getElem? (i := 10) rfl)))))
  have w_127 : ∀ (k55 : Int32 → Int32 → Int32 → Int32 → Int32 → Int32 → Option (Int32)) (hk55 : ∀ (x1 x3 x4 x5 x6 x7 : Int32) (H : Heap) (locs : List Loc), va_P (dC, dI) vwCl (ob_ws shX ad cI cZ g) H → va_S (ob_A shX ad) s.heap H locs → ∀ (ls : Array Slot), lv_has ls 9 [(0, .ref (ad 19)), (1, .int x1), (3, .int x3), (4, .int x4), (5, .int x5), (6, .int x6), (7, .int x7)] → k55 x1 x3 x4 x5 x6 x7 = some r → W p l e (rmN d) s m args below meth c H locs 0 0 (MQ below (ob_Qi (dC, dI) vwCl shX ad cI cZ r g) args s 0 0 (ob_A shX ad)) (F0 m 55 ls [])), ∀ (x1 x3 x4 x5 x6 x7 : Int32) (H : Heap) (locs : List Loc), va_P (dC, dI) vwCl (ob_ws shX ad cI cZ g) H → va_S (ob_A shX ad) s.heap H locs → ∀ (ls : Array Slot), lv_has ls 9 [(0, .ref (ad 19)), (1, .int x1), (3, .int x3), (4, .int x4), (5, .int x5), (6, .int x6), (7, .int x7)] → f_X1_canGoOn_J127 rc_canSayOne g k55 x1 x3 x4 x5 x6 x7 = some r → W p l e (rmN d) s m args below meth c H locs 0 0 (MQ below (ob_Qi (dC, dI) vwCl shX ad cI cZ r g) args s 0 0 (ob_A shX ad)) (F0 m 127 ls []) := by
    intro k55 hk55 x1 x3 x4 x5 x6 x7 H locs hM hS ls hl hf
    unfold f_X1_canGoOn_J127 at hf
    refine lv_iinc (v := (x7 + 1)) (lv' := [(7, .int (x7 + 1)), (0, .ref (ad 19)), (1, .int x1), (3, .int x3), (4, .int x4), (5, .int x5), (6, .int x6)]) hx hb dX1_canGoOn_127 hl (k := 6) rfl rfl (by decide) rfl (fun ls hl => ?_)
    refine lv_goto (tgt := 55) hx hb dX1_canGoOn_130 (by decide) ?_
    exact hk55 x1 x3 x4 x5 x6 (x7 + 1) _ _ hM hS _ (lv_sub hl [1, 2, 3, 4, 5, 6, 0] rfl) hf
  have w_102 : ∀ (k55 : Int32 → Int32 → Int32 → Int32 → Int32 → Int32 → Option (Int32)) (hk55 : ∀ (x1 x3 x4 x5 x6 x7 : Int32) (H : Heap) (locs : List Loc), va_P (dC, dI) vwCl (ob_ws shX ad cI cZ g) H → va_S (ob_A shX ad) s.heap H locs → ∀ (ls : Array Slot), lv_has ls 9 [(0, .ref (ad 19)), (1, .int x1), (3, .int x3), (4, .int x4), (5, .int x5), (6, .int x6), (7, .int x7)] → k55 x1 x3 x4 x5 x6 x7 = some r → W p l e (rmN d) s m args below meth c H locs 0 0 (MQ below (ob_Qi (dC, dI) vwCl shX ad cI cZ r g) args s 0 0 (ob_A shX ad)) (F0 m 55 ls [])), ∀ (x1 x3 x4 x5 x6 x7 x8 : Int32) (H : Heap) (locs : List Loc), va_P (dC, dI) vwCl (ob_ws shX ad cI cZ g) H → va_S (ob_A shX ad) s.heap H locs → ∀ (ls : Array Slot), lv_has ls 9 [(0, .ref (ad 19)), (1, .int x1), (3, .int x3), (4, .int x4), (5, .int x5), (6, .int x6), (7, .int x7), (8, .int x8)] → f_X1_canGoOn_J102 rc_canSayOne g k55 x1 x3 x4 x5 x6 x7 x8 = some r → W p l e (rmN d) s m args below meth c H locs 0 0 (MQ below (ob_Qi (dC, dI) vwCl shX ad cI cZ r g) args s 0 0 (ob_A shX ad)) (F0 m 102 ls []) := by
    intro k55 hk55 x1 x3 x4 x5 x6 x7 x8 H locs hM hS ls hl hf
    unfold f_X1_canGoOn_J102 at hf
    refine lv_aload_n hx hb dX1_canGoOn_102 rfl (lv_at hl 0 rfl) ?_
    refine lv_iload hx hb dX1_canGoOn_103 (lv_at hl 7 rfl) ?_
    refine lv_iload hx hb dX1_canGoOn_105 (lv_at hl 6 rfl) ?_
    refine lv_iload_n hx hb dX1_canGoOn_107 rfl (lv_at hl 2 rfl) ?_
    refine lv_iload hx hb dX1_canGoOn_108 (lv_at hl 4 rfl) ?_
    refine lv_aload_n hx hb dX1_canGoOn_110 rfl (lv_at hl 0 rfl) ?_
    refine lv_iload hx hb dX1_canGoOn_111 (lv_at hl 7 rfl) ?_
    refine lv_iload hx hb dX1_canGoOn_113 (lv_at hl 6 rfl) ?_
    obtain ⟨v12, e12, hf⟩ := ob_e1 hf
    refine ob_calli (va_runV (As := [.int x8, .int x7]) (rest := [.int x5, .int x3, .int x7, .int x8, .ref (ad 19)]) ⟨hx, hb, hml, hown, hts⟩ (c_X1_hopeful l dC dI ad cI cZ hI 1 (Nat.le_refl _) g x8 x7  v12 e12) (cwV 2 hts gX1_canGoOn_X1_hopeful rfl rfl rfl ⟨rfl, hd_X1_hopeful⟩ (ob_R (Nat.le_trans (by decide) hd) (by decide))) (ob_preV hK hM (q := 19) shX_19 rfl) rfl rfl hl.1 rfl (lv_room (Nat.le_of_ble_eq_true rfl)) dX1_canGoOn_115 ⟨Nat.le_refl _, Nat.le_refl _⟩) hS (fun H locs hM hS => ?_)
    refine lv_iand hx hb dX1_canGoOn_118 ?_
    obtain ⟨v13, e13, hf⟩ := ob_e1 hf
    refine ob_calli (va_runV (As := [.int x8, .int x7, .int x3, .int (x5 &&& v12)]) (rest := []) ⟨hx, hb, hml, hown, hts⟩ (hrc_canSayOne g x8 x7 x3 (x5 &&& v12) v13  e13) (cwV 4 hts gX1_canGoOn_X1_canSayOne rfl rfl rfl ⟨rfl, hd_X1_canSayOne⟩ (ob_R hd9 (by decide))) (ob_preV hK hM (q := 19) shX_19 rfl) rfl rfl hl.1 rfl (lv_room (Nat.le_of_ble_eq_true rfl)) dX1_canGoOn_119 ⟨Nat.le_refl _, Nat.le_refl _⟩) hS (fun H locs hM hS => ?_)
    refine lv_if_eq (tgt := 127) hx hb dX1_canGoOn_122 (by decide) (fun c14 => ?_) (fun c14 => ?_)
    · rw [if_pos c14] at hf
      exact w_127 k55 hk55 x1 x3 x4 x5 x6 x7 _ _ hM hS _ (lv_sub hl [0, 1, 2, 3, 4, 5, 6] rfl) hf
    · rw [if_neg c14] at hf
      refine lv_iconst (v := 1) hx hb dX1_canGoOn_125 (by decide) ?_
      exact ob_iretR hx hb hr hlocks hM hS (v := 1) rfl hf dX1_canGoOn_126
  have w_55 : ∀ (n : Nat), ∀ (x1 x3 x4 x5 x6 x7 : Int32) (H : Heap) (locs : List Loc), va_P (dC, dI) vwCl (ob_ws shX ad cI cZ g) H → va_S (ob_A shX ad) s.heap H locs → ∀ (ls : Array Slot), lv_has ls 9 [(0, .ref (ad 19)), (1, .int x1), (3, .int x3), (4, .int x4), (5, .int x5), (6, .int x6), (7, .int x7)] → f_X1_canGoOn_L55 rc_canSayOne g n x1 x3 x4 x5 x6 x7 = some r → W p l e (rmN d) s m args below meth c H locs 0 0 (MQ below (ob_Qi (dC, dI) vwCl shX ad cI cZ r g) args s 0 0 (ob_A shX ad)) (F0 m 55 ls []) := by
    intro n
    induction n with
    | zero =>
      intro x1 x3 x4 x5 x6 x7 H locs hM hS ls hl hf
      cases hf
    | succ n ih =>
      intro x1 x3 x4 x5 x6 x7 H locs hM hS ls hl hf
      unfold f_X1_canGoOn_L55 at hf
      refine lv_iload hx hb dX1_canGoOn_55 (lv_at hl 6 rfl) ?_
      refine lv_iconst (v := 5) hx hb dX1_canGoOn_57 (by decide) ?_
      refine lv_icmp_ge (tgt := 133) hx hb dX1_canGoOn_58 (by decide) (fun c6 => ?_) (fun c6 => ?_)
      · rw [if_pos c6] at hf
        refine lv_iconst (v := 0) hx hb dX1_canGoOn_133 (by decide) ?_
        exact ob_iretR hx hb hr hlocks hM hS (v := 0) rfl hf dX1_canGoOn_134
      · rw [if_neg c6] at hf
        refine lv_iload_n hx hb dX1_canGoOn_61 rfl (lv_at hl 1 rfl) ?_
        refine lv_iconst (v := 1) hx hb dX1_canGoOn_62 (by decide) ?_
        refine lv_iload hx hb dX1_canGoOn_63 (lv_at hl 6 rfl) ?_
        refine lv_ishl hx hb dX1_canGoOn_65 ?_
        refine lv_iconst (v := (-1)) hx hb dX1_canGoOn_66 (by decide) ?_
        refine lv_ixor hx hb dX1_canGoOn_67 ?_
        refine lv_iand hx hb dX1_canGoOn_68 ?_
        refine lv_istore (lv' := [(8, .int (x1 &&& (((1 : Int32) <<< (x7 &&& 31)) ^^^ (-1)))), (0, .ref (ad 19)), (1, .int x1), (3, .int x3), (4, .int x4), (5, .int x5), (6, .int x6), (7, .int x7)]) hx hb dX1_canGoOn_69 hl (by decide) rfl (fun ls hl => ?_)
        refine lv_iload hx hb dX1_canGoOn_71 (lv_at hl 0 rfl) ?_
        refine lv_iload_n hx hb dX1_canGoOn_73 rfl (lv_at hl 2 rfl) ?_
        refine lv_icmp_eq (tgt := 127) hx hb dX1_canGoOn_74 (by decide) (fun c7 => ?_) (fun c7 => ?_)
        · rw [if_pos c7] at hf
          exact w_127 (f_X1_canGoOn_L55 rc_canSayOne g n) ih x1 x3 x4 x5 x6 x7 _ _ hM hS _ (lv_sub hl [1, 2, 3, 4, 5, 6, 7] rfl) hf
        · rw [if_neg c7] at hf
          refine lv_iload hx hb dX1_canGoOn_77 (lv_at hl 6 rfl) ?_
          refine lv_if_eq (tgt := 102) hx hb dX1_canGoOn_79 (by decide) (fun c8 => ?_) (fun c8 => ?_)
          · rw [if_pos c8] at hf
            exact w_102 (f_X1_canGoOn_L55 rc_canSayOne g n) ih x1 x3 x4 x5 x6 x7 (x1 &&& (((1 : Int32) <<< (x7 &&& 31)) ^^^ (-1))) _ _ hM hS _ (lv_sub hl [1, 2, 3, 4, 5, 6, 7, 0] rfl) hf
          · rw [if_neg c8] at hf
            refine lv_aload_n hx hb dX1_canGoOn_82 rfl (lv_at hl 1 rfl) ?_
            refine ob_gr (j := 20) hx hb hts in_own hown hK hM (q := 19) shX_19 (C := RX1) (T := TX1) (N := 5) rfl 1 (by decide) hf_9 rfl dX1_canGoOn_83 ?_
            refine lv_iload hx hb dX1_canGoOn_86 (lv_at hl 7 rfl) ?_
            obtain ⟨v9, e9, hf⟩ := ob_e1 hf
            refine ob_calli (va_runSN (As := [.ref (ad 20), .int x7]) (rest := []) ⟨hx, hb, hml, hown, hts⟩ (c_X6_at l dC dI ad cI cZ hI 0 (Nat.le_refl _) g 20 5 shX_20 x7  v9 e9) ⟨va_cnB 2 hts gX1_canGoOn_X6_at_n45 rfl rfl rfl (ob_nl hK nw_X1_45) hi_X6 hd_X6_at (ob_R (Nat.le_trans (by decide) hd) (by decide)), hst_X6_at, trivial⟩ (ob_preS hK hM) rfl rfl hl.1 rfl (lv_room (Nat.le_of_ble_eq_true rfl)) dX1_canGoOn_88 ⟨Nat.le_refl _, Nat.le_refl _⟩) hS (fun H locs hM hS => ?_)
            refine lv_iload hx hb dX1_canGoOn_91 (lv_at hl 4 rfl) ?_
            obtain ⟨v10, e10, hf⟩ := ob_e1 hf
            refine ob_calli (va_runSN (As := [.int v9, .int x4]) (rest := []) ⟨hx, hb, hml, hown, hts⟩ (c_X6_has l dC dI ad cI cZ hI 0 (Nat.le_refl _) g v9 x4  v10 e10) ⟨va_cnB 2 hts gX1_canGoOn_X6_has_n56 rfl rfl rfl (ob_nl hK nw_X1_56) hi_X6 hd_X6_has (ob_R (Nat.le_trans (by decide) hd) (by decide)), hst_X6_has, trivial⟩ (ob_preS hK hM) rfl rfl hl.1 rfl (lv_room (Nat.le_of_ble_eq_true rfl)) dX1_canGoOn_93 ⟨Nat.le_refl _, Nat.le_refl _⟩) hS (fun H locs hM hS => ?_)
            refine lv_if_ne (tgt := 102) hx hb dX1_canGoOn_96 (by decide) (fun c11 => ?_) (fun c11 => ?_)
            · rw [if_neg c11] at hf
              exact w_102 (f_X1_canGoOn_L55 rc_canSayOne g n) ih x1 x3 x4 x5 x6 x7 (x1 &&& (((1 : Int32) <<< (x7 &&& 31)) ^^^ (-1))) _ _ hM hS _ (lv_sub hl [1, 2, 3, 4, 5, 6, 7, 0] rfl) hf
            · rw [if_pos c11] at hf
              refine lv_goto (tgt := 127) hx hb dX1_canGoOn_99 (by decide) ?_
              exact w_127 (f_X1_canGoOn_L55 rc_canSayOne g n) ih x1 x3 x4 x5 x6 x7 _ _ hM hS _ (lv_sub hl [1, 2, 3, 4, 5, 6, 7] rfl) hf
  have w_50 : ∀ (x1 x3 x4 x5 s0 : Int32) (H : Heap) (locs : List Loc), va_P (dC, dI) vwCl (ob_ws shX ad cI cZ g) H → va_S (ob_A shX ad) s.heap H locs → ∀ (ls : Array Slot), lv_has ls 9 [(0, .ref (ad 19)), (1, .int x1), (3, .int x3), (4, .int x4), (5, .int x5)] → f_X1_canGoOn_J50 rc_canSayOne g x1 x3 x4 x5 s0 = some r → W p l e (rmN d) s m args below meth c H locs 0 0 (MQ below (ob_Qi (dC, dI) vwCl shX ad cI cZ r g) args s 0 0 (ob_A shX ad)) (F0 m 50 ls [.int s0]) := by
    intro x1 x3 x4 x5 s0 H locs hM hS ls hl hf
    unfold f_X1_canGoOn_J50 at hf
    refine lv_istore (lv' := [(6, .int s0), (0, .ref (ad 19)), (1, .int x1), (3, .int x3), (4, .int x4), (5, .int x5)]) hx hb dX1_canGoOn_50 hl (by decide) rfl (fun ls hl => ?_)
    refine lv_iconst (v := 0) hx hb dX1_canGoOn_52 (by decide) ?_
    refine lv_istore (lv' := [(7, .int 0), (6, .int s0), (0, .ref (ad 19)), (1, .int x1), (3, .int x3), (4, .int x4), (5, .int x5)]) hx hb dX1_canGoOn_53 hl (by decide) rfl (fun ls hl => ?_)
    exact w_55 FU x1 x3 x4 x5 s0 0 _ _ hM hS _ (lv_sub hl [2, 3, 4, 5, 6, 1, 0] rfl) hf
  subst ha
  have hl := lv_entry ([.ref (ad 19), .int x1, .int x2, .int x3, .int x4]) (n := 9) (Nat.le_of_ble_eq_true rfl)
  rw [lg_entry_eq]
  generalize (lg_sl ([.ref (ad 19), .int x1, .int x2, .int x3, .int x4]) ++ List.replicate (9 - (lg_sl ([.ref (ad 19), .int x1, .int x2, .int x3, .int x4])).length) Slot.unset).toArray = ls at hl ⊢
  have hl : lv_has ls 9 [(0, .ref (ad 19)), (1, .int x1), (2, .int x2), (3, .int x3), (4, .int x4)] := hl
  have hM := hM0
  have hS := hS0
  unfold f_X1_canGoOn at hf
  refine lv_iload_n hx hb dX1_canGoOn_0 rfl (lv_at hl 1 rfl) ?_
  refine lv_if_ne (tgt := 6) hx hb dX1_canGoOn_1 (by decide) (fun c1 => ?_) (fun c1 => ?_)
  · rw [if_neg c1] at hf
    refine lv_aload_n hx hb dX1_canGoOn_6 rfl (lv_at hl 0 rfl) ?_
    refine ob_gr (j := 2) hx hb hts in_own hown hK hM (q := 19) shX_19 (C := RX1) (T := TX1) (N := 5) rfl 0 (by decide) hf_25 rfl dX1_canGoOn_7 ?_
    refine lv_iload hx hb dX1_canGoOn_10 (lv_at hl 4 rfl) ?_
    obtain ⟨v2, e2, hf⟩ := ob_e1 hf
    refine ob_calli (va_runVN (As := [.int x4]) (rest := []) ⟨hx, hb, hml, hown, hts⟩ (c_X4_worseThan l dC dI ad cI cZ hI 1 (Nat.le_refl _) 2 isTown_2 g x4  v2 e2) ⟨va_cnB 1 hts gX1_canGoOn_X4_worseThan_n70 rfl rfl rfl (ob_nl hK nw_X1_70) hi_X4 hd_X4_worseThan (ob_R (Nat.le_trans (by decide) hd) (by decide)), hin_X4_worseThan, hse_X4_worseThan⟩ (ob_preV hK hM (q := 2) shX_2 rfl) rfl rfl hl.1 rfl (lv_room (Nat.le_of_ble_eq_true rfl)) dX1_canGoOn_12 ⟨Nat.le_refl _, Nat.le_refl _⟩) hS (fun H locs hM hS => ?_)
    refine lv_aload_n hx hb dX1_canGoOn_15 rfl (lv_at hl 0 rfl) ?_
    refine ob_gr (j := 20) hx hb hts in_own hown hK hM (q := 19) shX_19 (C := RX1) (T := TX1) (N := 5) rfl 1 (by decide) hf_9 rfl dX1_canGoOn_16 ?_
    refine lv_iload_n hx hb dX1_canGoOn_19 rfl (lv_at hl 2 rfl) ?_
    obtain ⟨v3, e3, hf⟩ := ob_e1 hf
    refine ob_calli (va_runSN (As := [.ref (ad 20), .int x2]) (rest := [.int v2]) ⟨hx, hb, hml, hown, hts⟩ (c_X6_at l dC dI ad cI cZ hI 0 (Nat.le_refl _) g 20 5 shX_20 x2  v3 e3) ⟨va_cnB 2 hts gX1_canGoOn_X6_at_n45 rfl rfl rfl (ob_nl hK nw_X1_45) hi_X6 hd_X6_at (ob_R (Nat.le_trans (by decide) hd) (by decide)), hst_X6_at, trivial⟩ (ob_preS hK hM) rfl rfl hl.1 rfl (lv_room (Nat.le_of_ble_eq_true rfl)) dX1_canGoOn_20 ⟨Nat.le_refl _, Nat.le_refl _⟩) hS (fun H locs hM hS => ?_)
    refine lv_iand hx hb dX1_canGoOn_23 ?_
    refine lv_iload_n hx hb dX1_canGoOn_24 rfl (lv_at hl 3 rfl) ?_
    refine lv_iconst (v := (-1)) hx hb dX1_canGoOn_25 (by decide) ?_
    refine lv_ixor hx hb dX1_canGoOn_26 ?_
    refine lv_iand hx hb dX1_canGoOn_27 ?_
    refine lv_istore (lv' := [(5, .int ((v2 &&& v3) &&& (x3 ^^^ (-1)))), (0, .ref (ad 19)), (1, .int x1), (2, .int x2), (3, .int x3), (4, .int x4)]) hx hb dX1_canGoOn_28 hl (by decide) rfl (fun ls hl => ?_)
    refine lv_iload hx hb dX1_canGoOn_30 (lv_at hl 0 rfl) ?_
    refine lv_if_ne (tgt := 37) hx hb dX1_canGoOn_32 (by decide) (fun c4 => ?_) (fun c4 => ?_)
    · rw [if_neg c4] at hf
      refine lv_iload_n hx hb dX1_canGoOn_37 rfl (lv_at hl 4 rfl) ?_
      refine lv_iconst (v := 1) hx hb dX1_canGoOn_38 (by decide) ?_
      refine lv_iload hx hb dX1_canGoOn_39 (lv_at hl 5 rfl) ?_
      refine lv_ishl hx hb dX1_canGoOn_41 ?_
      refine lv_icmp_ne (tgt := 49) hx hb dX1_canGoOn_42 (by decide) (fun c5 => ?_) (fun c5 => ?_)
      · rw [if_neg c5] at hf
        refine lv_iconst (v := 0) hx hb dX1_canGoOn_49 (by decide) ?_
        exact w_50 x1 x3 x4 ((v2 &&& v3) &&& (x3 ^^^ (-1))) 0 _ _ hM hS _ (lv_sub hl [1, 2, 4, 5, 0] rfl) hf
      · rw [if_pos c5] at hf
        refine lv_iconst (v := 1) hx hb dX1_canGoOn_45 (by decide) ?_
        refine lv_goto (tgt := 50) hx hb dX1_canGoOn_46 (by decide) ?_
        exact w_50 x1 x3 x4 ((v2 &&& v3) &&& (x3 ^^^ (-1))) 1 _ _ hM hS _ (lv_sub hl [1, 2, 4, 5, 0] rfl) hf
    · rw [if_pos c4] at hf
      refine lv_iconst (v := 0) hx hb dX1_canGoOn_35 (by decide) ?_
      exact ob_iretR hx hb hr hlocks hM hS (v := 0) rfl hf dX1_canGoOn_36
  · rw [if_pos c1] at hf
    refine lv_iconst (v := 1) hx hb dX1_canGoOn_4 (by decide) ?_
    exact ob_iretR hx hb hr hlocks hM hS (v := 1) rfl hf dX1_canGoOn_5
set_option maxHeartbeats 4000000 in
set_option maxRecDepth 100000 in
theorem c_X1_canSayOne (l : Launch) (dC : Nat → ClassId) (dI : Nat → Nat → Nat) (ad : Nat → Nat) (cI cZ : ClassId) (hI : ob_inj shX ad) (d : Nat) (hd : 1 ≤ d) (d9 : Nat) (hd9 : d9 + 1 ≤ d) (rc_canGoOn : Mm → Int32 → Int32 → Int32 → Int32 → Option (Int32)) (hrc_canGoOn : ∀ (g : Mm) (x1 x2 x3 x4 : Int32) (r : Int32), rc_canGoOn g x1 x2 x3 x4 = some r → ob_Mi l yX1_canGoOn wsX1_canGoOn d9 (dC, dI) vwCl shX ad cI cZ nwX [.ref (ad 19), .int x1, .int x2, .int x3, .int x4] g r g) (g : Mm) (x1 x2 x3 x4 : Int32) (r : Int32) (hf : f_X1_canSayOne rc_canGoOn g x1 x2 x3 x4 = some r) : ob_Mi l yX1_canSayOne wsX1_canSayOne d (dC, dI) vwCl shX ad cI cZ nwX [.ref (ad 19), .int x1, .int x2, .int x3, .int x4] g r g := by
  refine ob_ofW (cc := cX1_canSayOne) (maxL := 6) (ret := (some .boolean)) (by decide) rfl ?_
  intro p e s m args below meth c ha hx hb hr hml hts hown hlocks hM0 hK hS0
  have hown : s.vm.findClass RX1 = some m.cls := hown
  have hi_X6 := hts (.initialized RX6) (List.mem_cons_of_mem _ (List.mem_append_left _ (List.mem_append_left _ (List.mem_append_left _ (List.mem_of_getElem? (i := 1) rfl)))))
  have hst_X6_has := hts (.static yX6_has) (List.mem_cons_of_mem _ (List.mem_append_left _ (List.mem_append_left _ (List.mem_append_left _ (List.mem_of_getElem? (i := 0) rfl)))))
  have w_39 : ∀ (k3 : Int32 → Int32 → Int32 → Int32 → Int32 → Option (Int32)) (hk3 : ∀ (x1 x2 x3 x4 x5 : Int32) (H : Heap) (locs : List Loc), va_P (dC, dI) vwCl (ob_ws shX ad cI cZ g) H → va_S (ob_A shX ad) s.heap H locs → ∀ (ls : Array Slot), lv_has ls 6 [(0, .ref (ad 19)), (1, .int x1), (2, .int x2), (3, .int x3), (4, .int x4), (5, .int x5)] → k3 x1 x2 x3 x4 x5 = some r → W p l e (rmN d) s m args below meth c H locs 0 0 (MQ below (ob_Qi (dC, dI) vwCl shX ad cI cZ r g) args s 0 0 (ob_A shX ad)) (F0 m 3 ls [])), ∀ (x1 x2 x3 x4 x5 : Int32) (H : Heap) (locs : List Loc), va_P (dC, dI) vwCl (ob_ws shX ad cI cZ g) H → va_S (ob_A shX ad) s.heap H locs → ∀ (ls : Array Slot), lv_has ls 6 [(0, .ref (ad 19)), (1, .int x1), (2, .int x2), (3, .int x3), (4, .int x4), (5, .int x5)] → f_X1_canSayOne_J39 rc_canGoOn g k3 x1 x2 x3 x4 x5 = some r → W p l e (rmN d) s m args below meth c H locs 0 0 (MQ below (ob_Qi (dC, dI) vwCl shX ad cI cZ r g) args s 0 0 (ob_A shX ad)) (F0 m 39 ls []) := by
    intro k3 hk3 x1 x2 x3 x4 x5 H locs hM hS ls hl hf
    unfold f_X1_canSayOne_J39 at hf
    refine lv_iinc (v := (x5 + 1)) (lv' := [(5, .int (x5 + 1)), (0, .ref (ad 19)), (1, .int x1), (2, .int x2), (3, .int x3), (4, .int x4)]) hx hb dX1_canSayOne_39 hl (k := 5) rfl rfl (by decide) rfl (fun ls hl => ?_)
    refine lv_goto (tgt := 3) hx hb dX1_canSayOne_42 (by decide) ?_
    exact hk3 x1 x2 x3 x4 (x5 + 1) _ _ hM hS _ (lv_sub hl [1, 2, 3, 4, 5, 0] rfl) hf
  have w_3 : ∀ (n : Nat), ∀ (x1 x2 x3 x4 x5 : Int32) (H : Heap) (locs : List Loc), va_P (dC, dI) vwCl (ob_ws shX ad cI cZ g) H → va_S (ob_A shX ad) s.heap H locs → ∀ (ls : Array Slot), lv_has ls 6 [(0, .ref (ad 19)), (1, .int x1), (2, .int x2), (3, .int x3), (4, .int x4), (5, .int x5)] → f_X1_canSayOne_L3 rc_canGoOn g n x1 x2 x3 x4 x5 = some r → W p l e (rmN d) s m args below meth c H locs 0 0 (MQ below (ob_Qi (dC, dI) vwCl shX ad cI cZ r g) args s 0 0 (ob_A shX ad)) (F0 m 3 ls []) := by
    intro n
    induction n with
    | zero =>
      intro x1 x2 x3 x4 x5 H locs hM hS ls hl hf
      cases hf
    | succ n ih =>
      intro x1 x2 x3 x4 x5 H locs hM hS ls hl hf
      unfold f_X1_canSayOne_L3 at hf
      refine lv_iload hx hb dX1_canSayOne_3 (lv_at hl 5 rfl) ?_
      refine lv_bipush (v := 10) hx hb dX1_canSayOne_5 (by decide) ?_
      refine lv_icmp_ge (tgt := 45) hx hb dX1_canSayOne_7 (by decide) (fun c1 => ?_) (fun c1 => ?_)
      · rw [if_pos c1] at hf
        refine lv_iconst (v := 0) hx hb dX1_canSayOne_45 (by decide) ?_
        exact ob_iretR hx hb hr hlocks hM hS (v := 0) rfl hf dX1_canSayOne_46
      · rw [if_neg c1] at hf
        refine lv_iload hx hb dX1_canSayOne_10 (lv_at hl 4 rfl) ?_
        refine lv_iload hx hb dX1_canSayOne_12 (lv_at hl 5 rfl) ?_
        obtain ⟨v2, e2, hf⟩ := ob_e1 hf
        refine ob_calli (va_runSN (As := [.int x4, .int x5]) (rest := []) ⟨hx, hb, hml, hown, hts⟩ (c_X6_has l dC dI ad cI cZ hI 0 (Nat.le_refl _) g x4 x5  v2 e2) ⟨va_cnB 2 hts gX1_canSayOne_X6_has_n56 rfl rfl rfl (ob_nl hK nw_X1_56) hi_X6 hd_X6_has (ob_R (Nat.le_trans (by decide) hd) (by decide)), hst_X6_has, trivial⟩ (ob_preS hK hM) rfl rfl hl.1 rfl (lv_room (Nat.le_of_ble_eq_true rfl)) dX1_canSayOne_14 ⟨Nat.le_refl _, Nat.le_refl _⟩) hS (fun H locs hM hS => ?_)
        refine lv_if_eq (tgt := 39) hx hb dX1_canSayOne_17 (by decide) (fun c3 => ?_) (fun c3 => ?_)
        · rw [if_pos c3] at hf
          exact w_39 (f_X1_canSayOne_L3 rc_canGoOn g n) ih x1 x2 x3 x4 x5 _ _ hM hS _ (lv_sub hl [0, 1, 2, 3, 4, 5] rfl) hf
        · rw [if_neg c3] at hf
          refine lv_aload_n hx hb dX1_canSayOne_20 rfl (lv_at hl 0 rfl) ?_
          refine lv_iload_n hx hb dX1_canSayOne_21 rfl (lv_at hl 1 rfl) ?_
          refine lv_iload_n hx hb dX1_canSayOne_22 rfl (lv_at hl 2 rfl) ?_
          refine lv_iload_n hx hb dX1_canSayOne_23 rfl (lv_at hl 3 rfl) ?_
          refine lv_iconst (v := 1) hx hb dX1_canSayOne_24 (by decide) ?_
          refine lv_iload hx hb dX1_canSayOne_25 (lv_at hl 5 rfl) ?_
          refine lv_ishl hx hb dX1_canSayOne_27 ?_
          refine lv_ior hx hb dX1_canSayOne_28 ?_
          refine lv_iload hx hb dX1_canSayOne_29 (lv_at hl 5 rfl) ?_
          obtain ⟨v4, e4, hf⟩ := ob_e1 hf
          refine ob_calli (va_runV (As := [.int x1, .int x2, .int (x3 ||| ((1 : Int32) <<< (x5 &&& 31))), .int x5]) (rest := []) ⟨hx, hb, hml, hown, hts⟩ (hrc_canGoOn g x1 x2 (x3 ||| ((1 : Int32) <<< (x5 &&& 31))) x5 v4  e4) (cwV 4 hts gX1_canSayOne_X1_canGoOn rfl rfl rfl ⟨rfl, hd_X1_canGoOn⟩ (ob_R hd9 (by decide))) (ob_preV hK hM (q := 19) shX_19 rfl) rfl rfl hl.1 rfl (lv_room (Nat.le_of_ble_eq_true rfl)) dX1_canSayOne_31 ⟨Nat.le_refl _, Nat.le_refl _⟩) hS (fun H locs hM hS => ?_)
          refine lv_if_eq (tgt := 39) hx hb dX1_canSayOne_34 (by decide) (fun c5 => ?_) (fun c5 => ?_)
          · rw [if_pos c5] at hf
            exact w_39 (f_X1_canSayOne_L3 rc_canGoOn g n) ih x1 x2 x3 x4 x5 _ _ hM hS _ (lv_sub hl [0, 1, 2, 3, 4, 5] rfl) hf
          · rw [if_neg c5] at hf
            refine lv_iconst (v := 1) hx hb dX1_canSayOne_37 (by decide) ?_
            exact ob_iretR hx hb hr hlocks hM hS (v := 1) rfl hf dX1_canSayOne_38
  subst ha
  have hl := lv_entry ([.ref (ad 19), .int x1, .int x2, .int x3, .int x4]) (n := 6) (Nat.le_of_ble_eq_true rfl)
  rw [lg_entry_eq]
  generalize (lg_sl ([.ref (ad 19), .int x1, .int x2, .int x3, .int x4]) ++ List.replicate (6 - (lg_sl ([.ref (ad 19), .int x1, .int x2, .int x3, .int x4])).length) Slot.unset).toArray = ls at hl ⊢
  have hl : lv_has ls 6 [(0, .ref (ad 19)), (1, .int x1), (2, .int x2), (3, .int x3), (4, .int x4)] := hl
  have hM := hM0
  have hS := hS0
  unfold f_X1_canSayOne at hf
  refine lv_iconst (v := 0) hx hb dX1_canSayOne_0 (by decide) ?_
  refine lv_istore (lv' := [(5, .int 0), (0, .ref (ad 19)), (1, .int x1), (2, .int x2), (3, .int x3), (4, .int x4)]) hx hb dX1_canSayOne_1 hl (by decide) rfl (fun ls hl => ?_)
  exact w_3 FU x1 x2 x3 x4 0 _ _ hM hS _ (lv_sub hl [1, 2, 3, 4, 5, 0] rfl) hf
set_option maxHeartbeats 4000000 in
theorem cN_X1_canSayOne (l : Launch) (dC : Nat → ClassId) (dI : Nat → Nat → Nat) (ad : Nat → Nat) (cI cZ : ClassId) (hI : ob_inj shX ad) : ∀ (n : Nat) (g : Mm) (x1 x2 x3 x4 : Int32) (r : Int32), fN_X1_canSayOne n g x1 x2 x3 x4 = some r → ob_Mi l yX1_canSayOne wsX1_canSayOne (2 + 2 * n) (dC, dI) vwCl shX ad cI cZ nwX [.ref (ad 19), .int x1, .int x2, .int x3, .int x4] g r g := by
  intro n
  induction n with
  | zero =>
    intro g x1 x2 x3 x4 r h
    cases h
  | succ n ih =>
    intro g x1 x2 x3 x4 r h
    exact c_X1_canSayOne l dC dI ad cI cZ hI (2 + 2 * (n + 1)) (by omega) (2 + 2 * n + 1) (by omega) _ (fun g x1 x2 x3 x4 r h => c_X1_canGoOn l dC dI ad cI cZ hI (2 + 2 * n + 1) (by omega) (2 + 2 * n) (by omega) _ (ih) g x1 x2 x3 x4 r h) g x1 x2 x3 x4 r h
set_option maxHeartbeats 4000000 in
set_option maxRecDepth 100000 in
theorem c_X1_canSpeak (l : Launch) (dC : Nat → ClassId) (dI : Nat → Nat → Nat) (ad : Nat → Nat) (cI cZ : ClassId) (hI : ob_inj shX ad) (d : Nat) (hd : 17 ≤ d) (g : Mm) (x1 : Int32) (r : Int32) (hf : f_X1_canSpeak g x1 = some r) : ob_Mi l yX1_canSpeak wsX1_canSpeak d (dC, dI) vwCl shX ad cI cZ nwX [.ref (ad 19), .int x1] g r g := by
  refine ob_ofW (cc := cX1_canSpeak) (maxL := 4) (ret := (some .boolean)) (by decide) rfl ?_
  intro p e s m args below meth c ha hx hb hr hml hts hown hlocks hM0 hK hS0
  have hown : s.vm.findClass RX1 = some m.cls := hown
  have w_44 : ∀ (k8 : Int32 → Int32 → Option (Int32)) (hk8 : ∀ (x1 x2 : Int32) (H : Heap) (locs : List Loc), va_P (dC, dI) vwCl (ob_ws shX ad cI cZ g) H → va_S (ob_A shX ad) s.heap H locs → ∀ (ls : Array Slot), lv_has ls 4 [(0, .ref (ad 19)), (1, .int x1), (2, .int x2)] → k8 x1 x2 = some r → W p l e (rmN d) s m args below meth c H locs 0 0 (MQ below (ob_Qi (dC, dI) vwCl shX ad cI cZ r g) args s 0 0 (ob_A shX ad)) (F0 m 8 ls [])), ∀ (x1 x2 : Int32) (H : Heap) (locs : List Loc), va_P (dC, dI) vwCl (ob_ws shX ad cI cZ g) H → va_S (ob_A shX ad) s.heap H locs → ∀ (ls : Array Slot), lv_has ls 4 [(0, .ref (ad 19)), (1, .int x1), (2, .int x2)] → f_X1_canSpeak_J44 g k8 x1 x2 = some r → W p l e (rmN d) s m args below meth c H locs 0 0 (MQ below (ob_Qi (dC, dI) vwCl shX ad cI cZ r g) args s 0 0 (ob_A shX ad)) (F0 m 44 ls []) := by
    intro k8 hk8 x1 x2 H locs hM hS ls hl hf
    unfold f_X1_canSpeak_J44 at hf
    refine lv_iinc (v := (x2 + 1)) (lv' := [(2, .int (x2 + 1)), (0, .ref (ad 19)), (1, .int x1)]) hx hb dX1_canSpeak_44 hl (k := 2) rfl rfl (by decide) rfl (fun ls hl => ?_)
    refine lv_goto (tgt := 8) hx hb dX1_canSpeak_47 (by decide) ?_
    exact hk8 x1 (x2 + 1) _ _ hM hS _ (lv_sub hl [1, 2, 0] rfl) hf
  have w_8 : ∀ (n : Nat), ∀ (x1 x2 : Int32) (H : Heap) (locs : List Loc), va_P (dC, dI) vwCl (ob_ws shX ad cI cZ g) H → va_S (ob_A shX ad) s.heap H locs → ∀ (ls : Array Slot), lv_has ls 4 [(0, .ref (ad 19)), (1, .int x1), (2, .int x2)] → f_X1_canSpeak_L8 g n x1 x2 = some r → W p l e (rmN d) s m args below meth c H locs 0 0 (MQ below (ob_Qi (dC, dI) vwCl shX ad cI cZ r g) args s 0 0 (ob_A shX ad)) (F0 m 8 ls []) := by
    intro n
    induction n with
    | zero =>
      intro x1 x2 H locs hM hS ls hl hf
      cases hf
    | succ n ih =>
      intro x1 x2 H locs hM hS ls hl hf
      unfold f_X1_canSpeak_L8 at hf
      refine lv_iload_n hx hb dX1_canSpeak_8 rfl (lv_at hl 2 rfl) ?_
      refine lv_iconst (v := 5) hx hb dX1_canSpeak_9 (by decide) ?_
      refine lv_icmp_ge (tgt := 50) hx hb dX1_canSpeak_10 (by decide) (fun c2 => ?_) (fun c2 => ?_)
      · rw [if_pos c2] at hf
        refine lv_iconst (v := 0) hx hb dX1_canSpeak_50 (by decide) ?_
        exact ob_iretR hx hb hr hlocks hM hS (v := 0) rfl hf dX1_canSpeak_51
      · rw [if_neg c2] at hf
        refine lv_iload_n hx hb dX1_canSpeak_13 rfl (lv_at hl 1 rfl) ?_
        refine lv_iconst (v := 1) hx hb dX1_canSpeak_14 (by decide) ?_
        refine lv_iload_n hx hb dX1_canSpeak_15 rfl (lv_at hl 2 rfl) ?_
        refine lv_ishl hx hb dX1_canSpeak_16 ?_
        refine lv_iconst (v := (-1)) hx hb dX1_canSpeak_17 (by decide) ?_
        refine lv_ixor hx hb dX1_canSpeak_18 ?_
        refine lv_iand hx hb dX1_canSpeak_19 ?_
        refine lv_istore_n (lv' := [(3, .int (x1 &&& (((1 : Int32) <<< (x2 &&& 31)) ^^^ (-1)))), (0, .ref (ad 19)), (1, .int x1), (2, .int x2)]) hx hb dX1_canSpeak_20 rfl hl (by decide) rfl (fun ls hl => ?_)
        refine lv_iload_n hx hb dX1_canSpeak_21 rfl (lv_at hl 0 rfl) ?_
        refine lv_iload_n hx hb dX1_canSpeak_22 rfl (lv_at hl 2 rfl) ?_
        refine lv_icmp_eq (tgt := 44) hx hb dX1_canSpeak_23 (by decide) (fun c3 => ?_) (fun c3 => ?_)
        · rw [if_pos c3] at hf
          exact w_44 (f_X1_canSpeak_L8 g n) ih x1 x2 _ _ hM hS _ (lv_sub hl [1, 2, 3] rfl) hf
        · rw [if_neg c3] at hf
          refine lv_aload_n hx hb dX1_canSpeak_26 rfl (lv_at hl 1 rfl) ?_
          refine lv_iload_n hx hb dX1_canSpeak_27 rfl (lv_at hl 0 rfl) ?_
          refine lv_iload_n hx hb dX1_canSpeak_28 rfl (lv_at hl 3 rfl) ?_
          refine lv_iconst (v := 0) hx hb dX1_canSpeak_29 (by decide) ?_
          refine lv_aload_n hx hb dX1_canSpeak_30 rfl (lv_at hl 1 rfl) ?_
          refine lv_iload_n hx hb dX1_canSpeak_31 rfl (lv_at hl 0 rfl) ?_
          refine lv_iload_n hx hb dX1_canSpeak_32 rfl (lv_at hl 3 rfl) ?_
          obtain ⟨v4, e4, hf⟩ := ob_e1 hf
          refine ob_calli (va_runV (As := [.int (x1 &&& (((1 : Int32) <<< (x2 &&& 31)) ^^^ (-1))), .int x2]) (rest := [.int 0, .int x2, .int (x1 &&& (((1 : Int32) <<< (x2 &&& 31)) ^^^ (-1))), .ref (ad 19)]) ⟨hx, hb, hml, hown, hts⟩ (c_X1_hopeful l dC dI ad cI cZ hI 1 (Nat.le_refl _) g (x1 &&& (((1 : Int32) <<< (x2 &&& 31)) ^^^ (-1))) x2  v4 e4) (cwV 2 hts gX1_canSpeak_X1_hopeful rfl rfl rfl ⟨rfl, hd_X1_hopeful⟩ (ob_R (Nat.le_trans (by decide) hd) (by decide))) (ob_preV hK hM (q := 19) shX_19 rfl) rfl rfl hl.1 rfl (lv_room (Nat.le_of_ble_eq_true rfl)) dX1_canSpeak_33 ⟨Nat.le_refl _, Nat.le_refl _⟩) hS (fun H locs hM hS => ?_)
          obtain ⟨v5, e5, hf⟩ := ob_e1 hf
          refine ob_calli (va_runV (As := [.int (x1 &&& (((1 : Int32) <<< (x2 &&& 31)) ^^^ (-1))), .int x2, .int 0, .int v4]) (rest := []) ⟨hx, hb, hml, hown, hts⟩ (cN_X1_canSayOne l dC dI ad cI cZ hI 7 g (x1 &&& (((1 : Int32) <<< (x2 &&& 31)) ^^^ (-1))) x2 0 v4  v5 e5) (cwV 4 hts gX1_canSpeak_X1_canSayOne rfl rfl rfl ⟨rfl, hd_X1_canSayOne⟩ (ob_R (Nat.le_trans (by decide) hd) (by decide))) (ob_preV hK hM (q := 19) shX_19 rfl) rfl rfl hl.1 rfl (lv_room (Nat.le_of_ble_eq_true rfl)) dX1_canSpeak_36 ⟨Nat.le_refl _, Nat.le_refl _⟩) hS (fun H locs hM hS => ?_)
          refine lv_if_eq (tgt := 44) hx hb dX1_canSpeak_39 (by decide) (fun c6 => ?_) (fun c6 => ?_)
          · rw [if_pos c6] at hf
            exact w_44 (f_X1_canSpeak_L8 g n) ih x1 x2 _ _ hM hS _ (lv_sub hl [1, 2, 3] rfl) hf
          · rw [if_neg c6] at hf
            refine lv_iconst (v := 1) hx hb dX1_canSpeak_42 (by decide) ?_
            exact ob_iretR hx hb hr hlocks hM hS (v := 1) rfl hf dX1_canSpeak_43
  subst ha
  have hl := lv_entry ([.ref (ad 19), .int x1]) (n := 4) (Nat.le_of_ble_eq_true rfl)
  rw [lg_entry_eq]
  generalize (lg_sl ([.ref (ad 19), .int x1]) ++ List.replicate (4 - (lg_sl ([.ref (ad 19), .int x1])).length) Slot.unset).toArray = ls at hl ⊢
  have hl : lv_has ls 4 [(0, .ref (ad 19)), (1, .int x1)] := hl
  have hM := hM0
  have hS := hS0
  unfold f_X1_canSpeak at hf
  refine lv_iload_n hx hb dX1_canSpeak_0 rfl (lv_at hl 1 rfl) ?_
  refine lv_if_ne (tgt := 6) hx hb dX1_canSpeak_1 (by decide) (fun c1 => ?_) (fun c1 => ?_)
  · rw [if_neg c1] at hf
    refine lv_iconst (v := 0) hx hb dX1_canSpeak_6 (by decide) ?_
    refine lv_istore_n (lv' := [(2, .int 0), (0, .ref (ad 19)), (1, .int x1)]) hx hb dX1_canSpeak_7 rfl hl (by decide) rfl (fun ls hl => ?_)
    exact w_8 FU x1 0 _ _ hM hS _ (lv_sub hl [1, 2, 0] rfl) hf
  · rw [if_pos c1] at hf
    refine lv_iconst (v := 1) hx hb dX1_canSpeak_4 (by decide) ?_
    exact ob_iretR hx hb hr hlocks hM hS (v := 1) rfl hf dX1_canSpeak_5
set_option maxHeartbeats 4000000 in
set_option maxRecDepth 100000 in
theorem c_X1_fewestBySets (l : Launch) (dC : Nat → ClassId) (dI : Nat → Nat → Nat) (ad : Nat → Nat) (cI cZ : ClassId) (hI : ob_inj shX ad) (d : Nat) (hd : 1 ≤ d) (g : Mm) (x1 : Int32) (r : Int32) (hf : f_X1_fewestBySets g x1 = some r) : ob_Mi l yX1_fewestBySets wsX1_fewestBySets d (dC, dI) vwCl shX ad cI cZ nwX [.ref (ad 19), .int x1] g r g := by
  refine ob_ofW (cc := cX1_fewestBySets) (maxL := 5) (ret := (some .int)) (by decide) rfl ?_
  intro p e s m args below meth c ha hx hb hr hml hts hown hlocks hM0 hK hS0
  have hown : s.vm.findClass RX1 = some m.cls := hown
  have in_own : ∀ w ∈ wsX10, w ∈ wsX1_fewestBySets := fun w h => (List.mem_cons_of_mem _ (List.mem_append_right _ h))
  have hf_18 := hts (.fieldLink RX1 18 "OneWorse$Crowd" "able" "[Z") (List.mem_cons_of_mem _ (List.mem_append_left _ (List.mem_of_getElem? (i := 0) rfl)))
  have hf_22 := hts (.fieldLink RX1 22 "OneWorse$Crowd" "fewest" "[I") (List.mem_cons_of_mem _ (List.mem_append_left _ (List.mem_of_getElem? (i := 1) rfl)))
  have hi_X6 := hts (.initialized RX6) (List.mem_cons_of_mem _ (List.mem_append_left _ (List.mem_of_getElem? (i := 3) rfl)))
  have hst_X6_at := hts (.static yX6_at) (List.mem_cons_of_mem _ (List.mem_append_left _ (List.mem_of_getElem? (i := 2) rfl)))
  have w_79 : ∀ (k5 : Int32 → Int32 → Int32 → Option (Int32)) (hk5 : ∀ (x1 x2 x3 : Int32) (H : Heap) (locs : List Loc), va_P (dC, dI) vwCl (ob_ws shX ad cI cZ g) H → va_S (ob_A shX ad) s.heap H locs → ∀ (ls : Array Slot), lv_has ls 5 [(0, .ref (ad 19)), (1, .int x1), (2, .int x2), (3, .int x3)] → k5 x1 x2 x3 = some r → W p l e (rmN d) s m args below meth c H locs 0 0 (MQ below (ob_Qi (dC, dI) vwCl shX ad cI cZ r g) args s 0 0 (ob_A shX ad)) (F0 m 5 ls [])), ∀ (x1 x2 x3 : Int32) (H : Heap) (locs : List Loc), va_P (dC, dI) vwCl (ob_ws shX ad cI cZ g) H → va_S (ob_A shX ad) s.heap H locs → ∀ (ls : Array Slot), lv_has ls 5 [(0, .ref (ad 19)), (1, .int x1), (2, .int x2), (3, .int x3)] → f_X1_fewestBySets_J79 g k5 x1 x2 x3 = some r → W p l e (rmN d) s m args below meth c H locs 0 0 (MQ below (ob_Qi (dC, dI) vwCl shX ad cI cZ r g) args s 0 0 (ob_A shX ad)) (F0 m 79 ls []) := by
    intro k5 hk5 x1 x2 x3 H locs hM hS ls hl hf
    unfold f_X1_fewestBySets_J79 at hf
    refine lv_iinc (v := (x3 + 1)) (lv' := [(3, .int (x3 + 1)), (0, .ref (ad 19)), (1, .int x1), (2, .int x2)]) hx hb dX1_fewestBySets_79 hl (k := 3) rfl rfl (by decide) rfl (fun ls hl => ?_)
    refine lv_goto (tgt := 5) hx hb dX1_fewestBySets_82 (by decide) ?_
    exact hk5 x1 x2 (x3 + 1) _ _ hM hS _ (lv_sub hl [1, 2, 3, 0] rfl) hf
  have w_74 : ∀ (k5 : Int32 → Int32 → Int32 → Option (Int32)) (hk5 : ∀ (x1 x2 x3 : Int32) (H : Heap) (locs : List Loc), va_P (dC, dI) vwCl (ob_ws shX ad cI cZ g) H → va_S (ob_A shX ad) s.heap H locs → ∀ (ls : Array Slot), lv_has ls 5 [(0, .ref (ad 19)), (1, .int x1), (2, .int x2), (3, .int x3)] → k5 x1 x2 x3 = some r → W p l e (rmN d) s m args below meth c H locs 0 0 (MQ below (ob_Qi (dC, dI) vwCl shX ad cI cZ r g) args s 0 0 (ob_A shX ad)) (F0 m 5 ls [])), ∀ (x1 x3 x4 : Int32) (H : Heap) (locs : List Loc), va_P (dC, dI) vwCl (ob_ws shX ad cI cZ g) H → va_S (ob_A shX ad) s.heap H locs → ∀ (ls : Array Slot), lv_has ls 5 [(0, .ref (ad 19)), (1, .int x1), (3, .int x3), (4, .int x4)] → f_X1_fewestBySets_J74 g k5 x1 x3 x4 = some r → W p l e (rmN d) s m args below meth c H locs 0 0 (MQ below (ob_Qi (dC, dI) vwCl shX ad cI cZ r g) args s 0 0 (ob_A shX ad)) (F0 m 74 ls []) := by
    intro k5 hk5 x1 x3 x4 H locs hM hS ls hl hf
    unfold f_X1_fewestBySets_J74 at hf
    refine lv_iload hx hb dX1_fewestBySets_74 (lv_at hl 3 rfl) ?_
    refine lv_iconst (v := 1) hx hb dX1_fewestBySets_76 (by decide) ?_
    refine lv_iadd hx hb dX1_fewestBySets_77 ?_
    refine lv_istore_n (lv' := [(2, .int (x4 + 1)), (0, .ref (ad 19)), (1, .int x1), (3, .int x3), (4, .int x4)]) hx hb dX1_fewestBySets_78 rfl hl (by decide) rfl (fun ls hl => ?_)
    exact w_79 k5 hk5 x1 (x4 + 1) x3 _ _ hM hS _ (lv_sub hl [1, 2, 0, 3] rfl) hf
  have w_5 : ∀ (n : Nat), ∀ (x1 x2 x3 : Int32) (H : Heap) (locs : List Loc), va_P (dC, dI) vwCl (ob_ws shX ad cI cZ g) H → va_S (ob_A shX ad) s.heap H locs → ∀ (ls : Array Slot), lv_has ls 5 [(0, .ref (ad 19)), (1, .int x1), (2, .int x2), (3, .int x3)] → f_X1_fewestBySets_L5 g n x1 x2 x3 = some r → W p l e (rmN d) s m args below meth c H locs 0 0 (MQ below (ob_Qi (dC, dI) vwCl shX ad cI cZ r g) args s 0 0 (ob_A shX ad)) (F0 m 5 ls []) := by
    intro n
    induction n with
    | zero =>
      intro x1 x2 x3 H locs hM hS ls hl hf
      cases hf
    | succ n ih =>
      intro x1 x2 x3 H locs hM hS ls hl hf
      unfold f_X1_fewestBySets_L5 at hf
      refine lv_iload_n hx hb dX1_fewestBySets_5 rfl (lv_at hl 3 rfl) ?_
      refine lv_iload_n hx hb dX1_fewestBySets_6 rfl (lv_at hl 1 rfl) ?_
      refine lv_icmp_gt (tgt := 85) hx hb dX1_fewestBySets_7 (by decide) (fun c1 => ?_) (fun c1 => ?_)
      · rw [if_pos c1] at hf
        refine lv_iload_n hx hb dX1_fewestBySets_85 rfl (lv_at hl 2 rfl) ?_
        exact ob_iretR hx hb hr hlocks hM hS (v := x2) rfl hf dX1_fewestBySets_86
      · rw [if_neg c1] at hf
        refine lv_iload_n hx hb dX1_fewestBySets_10 rfl (lv_at hl 3 rfl) ?_
        refine lv_aload_n hx hb dX1_fewestBySets_11 rfl (lv_at hl 0 rfl) ?_
        refine ob_gr (j := 22) hx hb hts in_own hown hK hM (q := 19) shX_19 (C := RX1) (T := TX1) (N := 5) rfl 3 (by decide) hf_18 rfl dX1_fewestBySets_12 ?_
        refine ob_zlen hx hb hK hM (q := 22) (n := 32) shX_22 (v := 32) rfl dX1_fewestBySets_15 ?_
        refine lv_icmp_ge (tgt := 85) hx hb dX1_fewestBySets_16 (by decide) (fun c2 => ?_) (fun c2 => ?_)
        · rw [if_pos c2] at hf
          refine lv_iload_n hx hb dX1_fewestBySets_85 rfl (lv_at hl 2 rfl) ?_
          exact ob_iretR hx hb hr hlocks hM hS (v := x2) rfl hf dX1_fewestBySets_86
        · rw [if_neg c2] at hf
          refine lv_iload_n hx hb dX1_fewestBySets_19 rfl (lv_at hl 3 rfl) ?_
          refine lv_iload_n hx hb dX1_fewestBySets_20 rfl (lv_at hl 1 rfl) ?_
          refine lv_iconst (v := (-1)) hx hb dX1_fewestBySets_21 (by decide) ?_
          refine lv_ixor hx hb dX1_fewestBySets_22 ?_
          refine lv_iand hx hb dX1_fewestBySets_23 ?_
          refine lv_if_ne (tgt := 79) hx hb dX1_fewestBySets_24 (by decide) (fun c3 => ?_) (fun c3 => ?_)
          · rw [if_neg c3] at hf
            exact w_79 (f_X1_fewestBySets_L5 g n) ih x1 x2 x3 _ _ hM hS _ (lv_sub hl [0, 1, 2, 3] rfl) hf
          · rw [if_pos c3] at hf
            refine lv_aload_n hx hb dX1_fewestBySets_27 rfl (lv_at hl 0 rfl) ?_
            refine ob_gr (j := 22) hx hb hts in_own hown hK hM (q := 19) shX_19 (C := RX1) (T := TX1) (N := 5) rfl 3 (by decide) hf_18 rfl dX1_fewestBySets_28 ?_
            refine lv_iload_n hx hb dX1_fewestBySets_31 rfl (lv_at hl 3 rfl) ?_
            obtain ⟨v4, e4, hf⟩ := ob_e1 hf
            refine ob_zald hx hb hK hM (q := 22) (n := 32) shX_22 e4 dX1_fewestBySets_32 ?_
            refine lv_if_ne (tgt := 39) hx hb dX1_fewestBySets_33 (by decide) (fun c5 => ?_) (fun c5 => ?_)
            · rw [if_neg c5] at hf
              refine lv_aload_n hx hb dX1_fewestBySets_39 rfl (lv_at hl 0 rfl) ?_
              refine ob_gr (j := 23) hx hb hts in_own hown hK hM (q := 19) shX_19 (C := RX1) (T := TX1) (N := 5) rfl 4 (by decide) hf_22 rfl dX1_fewestBySets_40 ?_
              refine lv_iload_n hx hb dX1_fewestBySets_43 rfl (lv_at hl 1 rfl) ?_
              refine lv_iload_n hx hb dX1_fewestBySets_44 rfl (lv_at hl 3 rfl) ?_
              refine lv_iconst (v := (-1)) hx hb dX1_fewestBySets_45 (by decide) ?_
              refine lv_ixor hx hb dX1_fewestBySets_46 ?_
              refine lv_iand hx hb dX1_fewestBySets_47 ?_
              obtain ⟨v6, e6, hf⟩ := ob_e1 hf
              refine ob_calli (va_runSN (As := [.ref (ad 23), .int (x1 &&& (x3 ^^^ (-1)))]) (rest := []) ⟨hx, hb, hml, hown, hts⟩ (c_X6_at l dC dI ad cI cZ hI 0 (Nat.le_refl _) g 23 32 shX_23 (x1 &&& (x3 ^^^ (-1)))  v6 e6) ⟨va_cnB 2 hts gX1_fewestBySets_X6_at_n45 rfl rfl rfl (ob_nl hK nw_X1_45) hi_X6 hd_X6_at (ob_R (Nat.le_trans (by decide) hd) (by decide)), hst_X6_at, trivial⟩ (ob_preS hK hM) rfl rfl hl.1 rfl (lv_room (Nat.le_of_ble_eq_true rfl)) dX1_fewestBySets_48 ⟨Nat.le_refl _, Nat.le_refl _⟩) hS (fun H locs hM hS => ?_)
              refine lv_istore (lv' := [(4, .int v6), (0, .ref (ad 19)), (1, .int x1), (2, .int x2), (3, .int x3)]) hx hb dX1_fewestBySets_51 hl (by decide) rfl (fun ls hl => ?_)
              refine lv_iload hx hb dX1_fewestBySets_53 (lv_at hl 0 rfl) ?_
              refine lv_bipush (v := (-6)) hx hb dX1_fewestBySets_55 (by decide) ?_
              refine lv_icmp_eq (tgt := 79) hx hb dX1_fewestBySets_57 (by decide) (fun c7 => ?_) (fun c7 => ?_)
              · rw [if_pos c7] at hf
                exact w_79 (f_X1_fewestBySets_L5 g n) ih x1 x2 x3 _ _ hM hS _ (lv_sub hl [1, 2, 3, 4] rfl) hf
              · rw [if_neg c7] at hf
                refine lv_iload_n hx hb dX1_fewestBySets_60 rfl (lv_at hl 3 rfl) ?_
                refine lv_bipush (v := (-6)) hx hb dX1_fewestBySets_61 (by decide) ?_
                refine lv_icmp_eq (tgt := 74) hx hb dX1_fewestBySets_63 (by decide) (fun c8 => ?_) (fun c8 => ?_)
                · rw [if_pos c8] at hf
                  exact w_74 (f_X1_fewestBySets_L5 g n) ih x1 x3 v6 _ _ hM hS _ (lv_sub hl [1, 2, 4, 0] rfl) hf
                · rw [if_neg c8] at hf
                  refine lv_iload hx hb dX1_fewestBySets_66 (lv_at hl 0 rfl) ?_
                  refine lv_iconst (v := 1) hx hb dX1_fewestBySets_68 (by decide) ?_
                  refine lv_iadd hx hb dX1_fewestBySets_69 ?_
                  refine lv_iload_n hx hb dX1_fewestBySets_70 rfl (lv_at hl 3 rfl) ?_
                  refine lv_icmp_ge (tgt := 79) hx hb dX1_fewestBySets_71 (by decide) (fun c9 => ?_) (fun c9 => ?_)
                  · rw [if_pos c9] at hf
                    exact w_79 (f_X1_fewestBySets_L5 g n) ih x1 x2 x3 _ _ hM hS _ (lv_sub hl [1, 2, 3, 4] rfl) hf
                  · rw [if_neg c9] at hf
                    exact w_74 (f_X1_fewestBySets_L5 g n) ih x1 x3 v6 _ _ hM hS _ (lv_sub hl [1, 2, 4, 0] rfl) hf
            · rw [if_pos c5] at hf
              refine lv_goto (tgt := 79) hx hb dX1_fewestBySets_36 (by decide) ?_
              exact w_79 (f_X1_fewestBySets_L5 g n) ih x1 x2 x3 _ _ hM hS _ (lv_sub hl [0, 1, 2, 3] rfl) hf
  subst ha
  have hl := lv_entry ([.ref (ad 19), .int x1]) (n := 5) (Nat.le_of_ble_eq_true rfl)
  rw [lg_entry_eq]
  generalize (lg_sl ([.ref (ad 19), .int x1]) ++ List.replicate (5 - (lg_sl ([.ref (ad 19), .int x1])).length) Slot.unset).toArray = ls at hl ⊢
  have hl : lv_has ls 5 [(0, .ref (ad 19)), (1, .int x1)] := hl
  have hM := hM0
  have hS := hS0
  unfold f_X1_fewestBySets at hf
  refine lv_bipush (v := (-6)) hx hb dX1_fewestBySets_0 (by decide) ?_
  refine lv_istore_n (lv' := [(2, .int (-6)), (0, .ref (ad 19)), (1, .int x1)]) hx hb dX1_fewestBySets_2 rfl hl (by decide) rfl (fun ls hl => ?_)
  refine lv_iconst (v := 1) hx hb dX1_fewestBySets_3 (by decide) ?_
  refine lv_istore_n (lv' := [(3, .int 1), (2, .int (-6)), (0, .ref (ad 19)), (1, .int x1)]) hx hb dX1_fewestBySets_4 rfl hl (by decide) rfl (fun ls hl => ?_)
  exact w_5 FU x1 (-6) 1 _ _ hM hS _ (lv_sub hl [2, 3, 1, 0] rfl) hf
set_option maxHeartbeats 4000000 in
set_option maxRecDepth 100000 in
theorem c_X1_fewestDays (l : Launch) (dC : Nat → ClassId) (dI : Nat → Nat → Nat) (ad : Nat → Nat) (cI cZ : ClassId) (hI : ob_inj shX ad) (d : Nat) (hd : 18 ≤ d) (g : Mm) (x1 : Int32) (r : Int32) (t : Mm) (hf : f_X1_fewestDays g x1 = some (r, t)) : ob_Mi l yX1_fewestDays wsX1_fewestDays d (dC, dI) vwCl shX ad cI cZ nwX [.ref (ad 19), .int x1] g r t := by
  refine ob_ofW (cc := cX1_fewestDays) (maxL := 3) (ret := (some .int)) (by decide) rfl ?_
  intro p e s m args below meth c ha hx hb hr hml hts hown hlocks hM0 hK hS0
  have hown : s.vm.findClass RX1 = some m.cls := hown
  have in_own : ∀ w ∈ wsX10, w ∈ wsX1_fewestDays := fun w h => (List.mem_cons_of_mem _ (List.mem_append_left _ (List.mem_append_right _ h)))
  have hf_18 := hts (.fieldLink RX1 18 "OneWorse$Crowd" "able" "[Z") (List.mem_cons_of_mem _ (List.mem_append_left _ (List.mem_append_left _ (List.mem_append_left _ (List.mem_of_getElem? (i := 0) rfl)))))
  have hf_22 := hts (.fieldLink RX1 22 "OneWorse$Crowd" "fewest" "[I") (List.mem_cons_of_mem _ (List.mem_append_left _ (List.mem_append_left _ (List.mem_append_left _ (List.mem_of_getElem? (i := 1) rfl)))))
  have hi_X6 := hts (.initialized RX6) (List.mem_cons_of_mem _ (List.mem_append_left _ (List.mem_append_left _ (List.mem_append_left _ (List.mem_of_getElem? (i := 19) rfl)))))
  have hst_X6_at := hts (.static yX6_at) (List.mem_cons_of_mem _ (List.mem_append_left _ (List.mem_append_left _ (List.mem_append_left _ (List.mem_of_getElem? (i := 18) rfl)))))
  have hst_X6_store := hts (.static yX6_store) (List.mem_cons_of_mem _ (List.mem_append_left _ (List.mem_append_left _ (List.mem_append_right _ (List.mem_append_left _ (List.mem_of_getElem? (i := 2) rfl))))))
  have w_59 : ∀ (k7 : Mm → Int32 → Int32 → Option (Int32 × Mm)) (hk7 : ∀ (g : Mm) (x1 x2 : Int32) (H : Heap) (locs : List Loc), va_P (dC, dI) vwCl (ob_ws shX ad cI cZ g) H → va_S (ob_A shX ad) s.heap H locs → ∀ (ls : Array Slot), lv_has ls 3 [(0, .ref (ad 19)), (1, .int x1), (2, .int x2)] → k7 g x1 x2 = some (r, t) → W p l e (rmN d) s m args below meth c H locs 0 0 (MQ below (ob_Qi (dC, dI) vwCl shX ad cI cZ r t) args s 0 0 (ob_A shX ad)) (F0 m 7 ls [])), ∀ (g : Mm) (x1 x2 : Int32) (H : Heap) (locs : List Loc), va_P (dC, dI) vwCl (ob_ws shX ad cI cZ g) H → va_S (ob_A shX ad) s.heap H locs → ∀ (ls : Array Slot), lv_has ls 3 [(0, .ref (ad 19)), (1, .int x1), (2, .int x2)] → f_X1_fewestDays_J59 k7 g x1 x2 = some (r, t) → W p l e (rmN d) s m args below meth c H locs 0 0 (MQ below (ob_Qi (dC, dI) vwCl shX ad cI cZ r t) args s 0 0 (ob_A shX ad)) (F0 m 59 ls []) := by
    intro k7 hk7 g x1 x2 H locs hM hS ls hl hf
    unfold f_X1_fewestDays_J59 at hf
    refine lv_iinc (v := (x2 + 1)) (lv' := [(2, .int (x2 + 1)), (0, .ref (ad 19)), (1, .int x1)]) hx hb dX1_fewestDays_59 hl (k := 2) rfl rfl (by decide) rfl (fun ls hl => ?_)
    refine lv_goto (tgt := 7) hx hb dX1_fewestDays_62 (by decide) ?_
    exact hk7 g x1 (x2 + 1) _ _ hM hS _ (lv_sub hl [1, 2, 0] rfl) hf
  have w_56 : ∀ (k7 : Mm → Int32 → Int32 → Option (Int32 × Mm)) (hk7 : ∀ (g : Mm) (x1 x2 : Int32) (H : Heap) (locs : List Loc), va_P (dC, dI) vwCl (ob_ws shX ad cI cZ g) H → va_S (ob_A shX ad) s.heap H locs → ∀ (ls : Array Slot), lv_has ls 3 [(0, .ref (ad 19)), (1, .int x1), (2, .int x2)] → k7 g x1 x2 = some (r, t) → W p l e (rmN d) s m args below meth c H locs 0 0 (MQ below (ob_Qi (dC, dI) vwCl shX ad cI cZ r t) args s 0 0 (ob_A shX ad)) (F0 m 7 ls [])), ∀ (g : Mm) (x1 x2 s0 s1 : Int32) (H : Heap) (locs : List Loc), va_P (dC, dI) vwCl (ob_ws shX ad cI cZ g) H → va_S (ob_A shX ad) s.heap H locs → ∀ (ls : Array Slot), lv_has ls 3 [(0, .ref (ad 19)), (1, .int x1), (2, .int x2)] → f_X1_fewestDays_J56 k7 g x1 x2 s0 s1 = some (r, t) → W p l e (rmN d) s m args below meth c H locs 0 0 (MQ below (ob_Qi (dC, dI) vwCl shX ad cI cZ r t) args s 0 0 (ob_A shX ad)) (F0 m 56 ls [.int s0, .int s1, .ref (ad 23)]) := by
    intro k7 hk7 g x1 x2 s0 s1 H locs hM hS ls hl hf
    unfold f_X1_fewestDays_J56 at hf
    obtain ⟨g9, e9, hf⟩ := ob_e1 hf
    refine ob_callv (va_runSN (As := [.ref (ad 23), .int s1, .int s0]) (rest := []) ⟨hx, hb, hml, hown, hts⟩ (c_X6_store l dC dI ad cI cZ hI 0 (Nat.le_refl _) g 23 32 shX_23 s1 s0  g9 e9) ⟨va_cnB 3 hts gX1_fewestDays_X6_store_n41 rfl rfl rfl (ob_nl hK nw_X1_41) hi_X6 hd_X6_store (ob_R (Nat.le_trans (by decide) hd) (by decide)), hst_X6_store, trivial⟩ (ob_preS hK hM) rfl rfl hl.1 rfl (lv_room (Nat.le_of_ble_eq_true rfl)) dX1_fewestDays_56 ⟨Nat.le_refl _, Nat.le_refl _⟩) hS (fun H locs hM hS => ?_)
    exact w_59 k7 hk7 g9 x1 x2 _ _ hM hS _ (lv_sub hl [0, 1, 2] rfl) hf
  have w_7 : ∀ (n : Nat), ∀ (g : Mm) (x1 x2 : Int32) (H : Heap) (locs : List Loc), va_P (dC, dI) vwCl (ob_ws shX ad cI cZ g) H → va_S (ob_A shX ad) s.heap H locs → ∀ (ls : Array Slot), lv_has ls 3 [(0, .ref (ad 19)), (1, .int x1), (2, .int x2)] → f_X1_fewestDays_L7 n g x1 x2 = some (r, t) → W p l e (rmN d) s m args below meth c H locs 0 0 (MQ below (ob_Qi (dC, dI) vwCl shX ad cI cZ r t) args s 0 0 (ob_A shX ad)) (F0 m 7 ls []) := by
    intro n
    induction n with
    | zero =>
      intro g x1 x2 H locs hM hS ls hl hf
      cases hf
    | succ n ih =>
      intro g x1 x2 H locs hM hS ls hl hf
      unfold f_X1_fewestDays_L7 at hf
      refine lv_iload_n hx hb dX1_fewestDays_7 rfl (lv_at hl 2 rfl) ?_
      refine lv_aload_n hx hb dX1_fewestDays_8 rfl (lv_at hl 0 rfl) ?_
      refine ob_gr (j := 22) hx hb hts in_own hown hK hM (q := 19) shX_19 (C := RX1) (T := TX1) (N := 5) rfl 3 (by decide) hf_18 rfl dX1_fewestDays_9 ?_
      refine ob_zlen hx hb hK hM (q := 22) (n := 32) shX_22 (v := 32) rfl dX1_fewestDays_12 ?_
      refine lv_icmp_ge (tgt := 65) hx hb dX1_fewestDays_13 (by decide) (fun c2 => ?_) (fun c2 => ?_)
      · rw [if_pos c2] at hf
        refine lv_aload_n hx hb dX1_fewestDays_65 rfl (lv_at hl 0 rfl) ?_
        refine ob_gr (j := 23) hx hb hts in_own hown hK hM (q := 19) shX_19 (C := RX1) (T := TX1) (N := 5) rfl 4 (by decide) hf_22 rfl dX1_fewestDays_66 ?_
        refine lv_iload_n hx hb dX1_fewestDays_69 rfl (lv_at hl 1 rfl) ?_
        obtain ⟨v3, e3, hf⟩ := ob_e1 hf
        refine ob_calli (va_runSN (As := [.ref (ad 23), .int x1]) (rest := []) ⟨hx, hb, hml, hown, hts⟩ (c_X6_at l dC dI ad cI cZ hI 0 (Nat.le_refl _) g 23 32 shX_23 x1  v3 e3) ⟨va_cnB 2 hts gX1_fewestDays_X6_at_n45 rfl rfl rfl (ob_nl hK nw_X1_45) hi_X6 hd_X6_at (ob_R (Nat.le_trans (by decide) hd) (by decide)), hst_X6_at, trivial⟩ (ob_preS hK hM) rfl rfl hl.1 rfl (lv_room (Nat.le_of_ble_eq_true rfl)) dX1_fewestDays_70 ⟨Nat.le_refl _, Nat.le_refl _⟩) hS (fun H locs hM hS => ?_)
        exact ob_iret hx hb hr hlocks hM hS (v := v3) rfl hf dX1_fewestDays_73
      · rw [if_neg c2] at hf
        refine lv_iload_n hx hb dX1_fewestDays_16 rfl (lv_at hl 2 rfl) ?_
        refine lv_iload_n hx hb dX1_fewestDays_17 rfl (lv_at hl 1 rfl) ?_
        refine lv_iconst (v := (-1)) hx hb dX1_fewestDays_18 (by decide) ?_
        refine lv_ixor hx hb dX1_fewestDays_19 ?_
        refine lv_iand hx hb dX1_fewestDays_20 ?_
        refine lv_if_eq (tgt := 27) hx hb dX1_fewestDays_21 (by decide) (fun c4 => ?_) (fun c4 => ?_)
        · rw [if_pos c4] at hf
          refine lv_aload_n hx hb dX1_fewestDays_27 rfl (lv_at hl 0 rfl) ?_
          refine ob_gr (j := 22) hx hb hts in_own hown hK hM (q := 19) shX_19 (C := RX1) (T := TX1) (N := 5) rfl 3 (by decide) hf_18 rfl dX1_fewestDays_28 ?_
          refine lv_iload_n hx hb dX1_fewestDays_31 rfl (lv_at hl 2 rfl) ?_
          refine lv_aload_n hx hb dX1_fewestDays_32 rfl (lv_at hl 0 rfl) ?_
          refine lv_iload_n hx hb dX1_fewestDays_33 rfl (lv_at hl 2 rfl) ?_
          obtain ⟨v5, e5, hf⟩ := ob_e1 hf
          refine ob_calli (va_runV (As := [.int x2]) (rest := [.int x2, .ref (ad 22)]) ⟨hx, hb, hml, hown, hts⟩ (c_X1_canSpeak l dC dI ad cI cZ hI 17 (Nat.le_refl _) g x2  v5 e5) (cwV 1 hts gX1_fewestDays_X1_canSpeak rfl rfl rfl ⟨rfl, hd_X1_canSpeak⟩ (ob_R (Nat.le_trans (by decide) hd) (by decide))) (ob_preV hK hM (q := 19) shX_19 rfl) rfl rfl hl.1 rfl (lv_room (Nat.le_of_ble_eq_true rfl)) dX1_fewestDays_34 ⟨Nat.le_refl _, Nat.le_refl _⟩) hS (fun H locs hM hS => ?_)
          obtain ⟨g6, e6, hf⟩ := ob_e1 hf
          refine ob_zast hx hb hK hM hI hS (q := 22) (n := 32) shX_22 e6 dX1_fewestDays_37 (fun H locs hM hS => ?_)
          refine lv_aload_n hx hb dX1_fewestDays_38 rfl (lv_at hl 0 rfl) ?_
          refine ob_gr (j := 23) hx hb hts in_own hown hK hM (q := 19) shX_19 (C := RX1) (T := TX1) (N := 5) rfl 4 (by decide) hf_22 rfl dX1_fewestDays_39 ?_
          refine lv_iload_n hx hb dX1_fewestDays_42 rfl (lv_at hl 2 rfl) ?_
          refine lv_iload_n hx hb dX1_fewestDays_43 rfl (lv_at hl 2 rfl) ?_
          refine lv_if_ne (tgt := 51) hx hb dX1_fewestDays_44 (by decide) (fun c7 => ?_) (fun c7 => ?_)
          · rw [if_neg c7] at hf
            refine lv_aload_n hx hb dX1_fewestDays_51 rfl (lv_at hl 0 rfl) ?_
            refine lv_iload_n hx hb dX1_fewestDays_52 rfl (lv_at hl 2 rfl) ?_
            obtain ⟨v8, e8, hf⟩ := ob_e1 hf
            refine ob_calli (va_runV (As := [.int x2]) (rest := [.int x2, .ref (ad 23)]) ⟨hx, hb, hml, hown, hts⟩ (c_X1_fewestBySets l dC dI ad cI cZ hI 1 (Nat.le_refl _) g6 x2  v8 e8) (cwV 1 hts gX1_fewestDays_X1_fewestBySets rfl rfl rfl ⟨rfl, hd_X1_fewestBySets⟩ (ob_R (Nat.le_trans (by decide) hd) (by decide))) (ob_preV hK hM (q := 19) shX_19 rfl) rfl rfl hl.1 rfl (lv_room (Nat.le_of_ble_eq_true rfl)) dX1_fewestDays_53 ⟨Nat.le_refl _, Nat.le_refl _⟩) hS (fun H locs hM hS => ?_)
            exact w_56 (f_X1_fewestDays_L7 n) ih g6 x1 x2 v8 x2 _ _ hM hS _ (lv_sub hl [0, 1, 2] rfl) hf
          · rw [if_pos c7] at hf
            refine lv_iconst (v := 0) hx hb dX1_fewestDays_47 (by decide) ?_
            refine lv_goto (tgt := 56) hx hb dX1_fewestDays_48 (by decide) ?_
            exact w_56 (f_X1_fewestDays_L7 n) ih g6 x1 x2 0 x2 _ _ hM hS _ (lv_sub hl [0, 1, 2] rfl) hf
        · rw [if_neg c4] at hf
          refine lv_goto (tgt := 59) hx hb dX1_fewestDays_24 (by decide) ?_
          exact w_59 (f_X1_fewestDays_L7 n) ih g x1 x2 _ _ hM hS _ (lv_sub hl [0, 1, 2] rfl) hf
  subst ha
  have hl := lv_entry ([.ref (ad 19), .int x1]) (n := 3) (Nat.le_of_ble_eq_true rfl)
  rw [lg_entry_eq]
  generalize (lg_sl ([.ref (ad 19), .int x1]) ++ List.replicate (3 - (lg_sl ([.ref (ad 19), .int x1])).length) Slot.unset).toArray = ls at hl ⊢
  have hl : lv_has ls 3 [(0, .ref (ad 19)), (1, .int x1)] := hl
  have hM := hM0
  have hS := hS0
  unfold f_X1_fewestDays at hf
  refine lv_aload_n hx hb dX1_fewestDays_0 rfl (lv_at hl 0 rfl) ?_
  refine lv_iload_n hx hb dX1_fewestDays_1 rfl (lv_at hl 1 rfl) ?_
  obtain ⟨g1, e1, hf⟩ := ob_e1 hf
  refine ob_callv (va_runV (As := [.int x1]) (rest := []) ⟨hx, hb, hml, hown, hts⟩ (c_X1_prepare l dC dI ad cI cZ hI 4 (Nat.le_refl _) g x1  g1 e1) (cwV 1 hts gX1_fewestDays_X1_prepare rfl rfl rfl ⟨rfl, hd_X1_prepare⟩ (ob_R (Nat.le_trans (by decide) hd) (by decide))) (ob_preV hK hM (q := 19) shX_19 rfl) rfl rfl hl.1 rfl (lv_room (Nat.le_of_ble_eq_true rfl)) dX1_fewestDays_2 ⟨Nat.le_refl _, Nat.le_refl _⟩) hS (fun H locs hM hS => ?_)
  refine lv_iconst (v := 0) hx hb dX1_fewestDays_5 (by decide) ?_
  refine lv_istore_n (lv' := [(2, .int 0), (0, .ref (ad 19)), (1, .int x1)]) hx hb dX1_fewestDays_6 rfl hl (by decide) rfl (fun ls hl => ?_)
  exact w_7 FU g1 x1 0 _ _ hM hS _ (lv_sub hl [1, 2, 0] rfl) hf
set_option maxHeartbeats 4000000 in
set_option maxRecDepth 100000 in
theorem c_X1_isOneDayEnough (l : Launch) (dC : Nat → ClassId) (dI : Nat → Nat → Nat) (ad : Nat → Nat) (cI cZ : ClassId) (hI : ob_inj shX ad) (d : Nat) (hd : 18 ≤ d) (g : Mm) (x1 : Int32) (r : Int32) (t : Mm) (hf : f_X1_isOneDayEnough g x1 = some (r, t)) : ob_Mi l yX1_isOneDayEnough wsX1_isOneDayEnough d (dC, dI) vwCl shX ad cI cZ nwX [.ref (ad 19), .int x1] g r t := by
  refine ob_ofW (cc := cX1_isOneDayEnough) (maxL := 2) (ret := (some .boolean)) (by decide) rfl ?_
  intro p e s m args below meth c ha hx hb hr hml hts hown hlocks hM0 hK hS0
  have hown : s.vm.findClass RX1 = some m.cls := hown
  subst ha
  have hl := lv_entry ([.ref (ad 19), .int x1]) (n := 2) (Nat.le_of_ble_eq_true rfl)
  rw [lg_entry_eq]
  generalize (lg_sl ([.ref (ad 19), .int x1]) ++ List.replicate (2 - (lg_sl ([.ref (ad 19), .int x1])).length) Slot.unset).toArray = ls at hl ⊢
  have hl : lv_has ls 2 [(0, .ref (ad 19)), (1, .int x1)] := hl
  have hM := hM0
  have hS := hS0
  unfold f_X1_isOneDayEnough at hf
  refine lv_aload_n hx hb dX1_isOneDayEnough_0 rfl (lv_at hl 0 rfl) ?_
  refine lv_iload_n hx hb dX1_isOneDayEnough_1 rfl (lv_at hl 1 rfl) ?_
  obtain ⟨g1, e1, hf⟩ := ob_e1 hf
  refine ob_callv (va_runV (As := [.int x1]) (rest := []) ⟨hx, hb, hml, hown, hts⟩ (c_X1_prepare l dC dI ad cI cZ hI 4 (Nat.le_refl _) g x1  g1 e1) (cwV 1 hts gX1_isOneDayEnough_X1_prepare rfl rfl rfl ⟨rfl, hd_X1_prepare⟩ (ob_R (Nat.le_trans (by decide) hd) (by decide))) (ob_preV hK hM (q := 19) shX_19 rfl) rfl rfl hl.1 rfl (lv_room (Nat.le_of_ble_eq_true rfl)) dX1_isOneDayEnough_2 ⟨Nat.le_refl _, Nat.le_refl _⟩) hS (fun H locs hM hS => ?_)
  refine lv_aload_n hx hb dX1_isOneDayEnough_5 rfl (lv_at hl 0 rfl) ?_
  refine lv_iload_n hx hb dX1_isOneDayEnough_6 rfl (lv_at hl 1 rfl) ?_
  obtain ⟨v2, e2, hf⟩ := ob_e1 hf
  refine ob_calli (va_runV (As := [.int x1]) (rest := []) ⟨hx, hb, hml, hown, hts⟩ (c_X1_canSpeak l dC dI ad cI cZ hI 17 (Nat.le_refl _) g1 x1  v2 e2) (cwV 1 hts gX1_isOneDayEnough_X1_canSpeak rfl rfl rfl ⟨rfl, hd_X1_canSpeak⟩ (ob_R (Nat.le_trans (by decide) hd) (by decide))) (ob_preV hK hM (q := 19) shX_19 rfl) rfl rfl hl.1 rfl (lv_room (Nat.le_of_ble_eq_true rfl)) dX1_isOneDayEnough_7 ⟨Nat.le_refl _, Nat.le_refl _⟩) hS (fun H locs hM hS => ?_)
  obtain ⟨u3, e3, hf⟩ := ob_e1 hf
  exact ob_iret hx hb hr hlocks hM hS (v := v2) (ob_zb_in e3) hf dX1_isOneDayEnough_10
set_option maxHeartbeats 4000000 in
set_option maxRecDepth 100000 in
theorem c_X6_crowd (l : Launch) (dC : Nat → ClassId) (dI : Nat → Nat → Nat) (ad : Nat → Nat) (cI cZ : ClassId) (hI : ob_inj shX ad) (d : Nat) (hd : 19 ≤ d) (g : Mm) (x1 x2 : Int32) (r : Int32) (t : Mm) (hf : f_X6_crowd g x1 x2 = some (r, t)) : ob_Mi l yX6_crowd wsX6_crowd d (dC, dI) vwCl shX ad cI cZ nwX [.ref (ad 0), .int x1, .int x2] g r t := by
  refine ob_ofW (cc := cX6_crowd) (maxL := 3) (ret := (some .int)) (by decide) rfl ?_
  intro p e s m args below meth c ha hx hb hr hml hts hown hlocks hM0 hK hS0
  have hown : s.vm.findClass RX6 = some m.cls := hown
  have in_own : ∀ w ∈ wsX60, w ∈ wsX6_crowd := fun w h => (List.mem_cons_of_mem _ (List.mem_append_left _ (List.mem_append_left _ (List.mem_append_right _ h))))
  have hf_41 := hts (.fieldLink RX6 41 "OneWorse" "company" "LOneWorse$Crowd;") (List.mem_cons_of_mem _ (List.mem_append_left _ (List.mem_append_left _ (List.mem_append_left _ (List.mem_append_left _ (List.mem_of_getElem? (i := 0) rfl))))))
  have hi_X1 := hts (.initialized RX1) (List.mem_cons_of_mem _ (List.mem_append_left _ (List.mem_append_left _ (List.mem_append_left _ (List.mem_append_left _ (List.mem_of_getElem? (i := 6) rfl))))))
  have hin_X1_isOneDayEnough := hts (.instanceMethod yX1_isOneDayEnough) (List.mem_cons_of_mem _ (List.mem_append_left _ (List.mem_append_left _ (List.mem_append_left _ (List.mem_append_right _ (List.mem_append_right _ (List.mem_append_right _ (List.mem_of_getElem? (i := 2) rfl))))))))
  have hse_X1_isOneDayEnough := hts (.selects RX1 yX1_isOneDayEnough yX1_isOneDayEnough) (List.mem_cons_of_mem _ (List.mem_append_left _ (List.mem_append_left _ (List.mem_append_left _ (List.mem_append_right _ (List.mem_append_right _ (List.mem_append_right _ (List.mem_of_getElem? (i := 3) rfl))))))))
  have hin_X1_fewestDays := hts (.instanceMethod yX1_fewestDays) (List.mem_cons_of_mem _ (List.mem_append_left _ (List.mem_append_left _ (List.mem_append_left _ (List.mem_append_left _ (List.mem_of_getElem? (i := 5) rfl))))))
  have hse_X1_fewestDays := hts (.selects RX1 yX1_fewestDays yX1_fewestDays) (List.mem_cons_of_mem _ (List.mem_append_left _ (List.mem_append_left _ (List.mem_append_left _ (List.mem_append_left _ (List.mem_of_getElem? (i := 7) rfl))))))
  subst ha
  have hl := lv_entry ([.ref (ad 0), .int x1, .int x2]) (n := 3) (Nat.le_of_ble_eq_true rfl)
  rw [lg_entry_eq]
  generalize (lg_sl ([.ref (ad 0), .int x1, .int x2]) ++ List.replicate (3 - (lg_sl ([.ref (ad 0), .int x1, .int x2])).length) Slot.unset).toArray = ls at hl ⊢
  have hl : lv_has ls 3 [(0, .ref (ad 0)), (1, .int x1), (2, .int x2)] := hl
  have hM := hM0
  have hS := hS0
  unfold f_X6_crowd at hf
  refine lv_iload_n hx hb dX6_crowd_0 rfl (lv_at hl 1 rfl) ?_
  refine lv_iconst (v := 0) hx hb dX6_crowd_1 (by decide) ?_
  refine lv_bipush (v := 31) hx hb dX6_crowd_2 (by decide) ?_
  obtain ⟨v1, e1, hf⟩ := ob_e1 hf
  refine ob_calli (va_runS (As := [.int x1, .int 0, .int 31]) (rest := []) ⟨hx, hb, hml, hown, hts⟩ (c_X6_within l dC dI ad cI cZ hI 0 (Nat.le_refl _) g x1 0 31  v1 e1) (va_cwS 3 hts gX6_crowd_X6_within rfl rfl rfl hd_X6_within (ob_R (Nat.le_trans (by decide) hd) (by decide))) (ob_preS hK hM) rfl rfl hl.1 rfl (lv_room (Nat.le_of_ble_eq_true rfl)) dX6_crowd_4 ⟨Nat.le_refl _, Nat.le_refl _⟩) hS (fun H locs hM hS => ?_)
  refine lv_if_eq (tgt := 19) hx hb dX6_crowd_7 (by decide) (fun c2 => ?_) (fun c2 => ?_)
  · rw [if_pos c2] at hf
    refine lv_bipush (v := (-2)) hx hb dX6_crowd_19 (by decide) ?_
    exact ob_iret hx hb hr hlocks hM hS (v := (-2)) rfl hf dX6_crowd_21
  · rw [if_neg c2] at hf
    refine lv_iload_n hx hb dX6_crowd_10 rfl (lv_at hl 2 rfl) ?_
    refine lv_iconst (v := 0) hx hb dX6_crowd_11 (by decide) ?_
    refine lv_iconst (v := 1) hx hb dX6_crowd_12 (by decide) ?_
    obtain ⟨v3, e3, hf⟩ := ob_e1 hf
    refine ob_calli (va_runS (As := [.int x2, .int 0, .int 1]) (rest := []) ⟨hx, hb, hml, hown, hts⟩ (c_X6_within l dC dI ad cI cZ hI 0 (Nat.le_refl _) g x2 0 1  v3 e3) (va_cwS 3 hts gX6_crowd_X6_within rfl rfl rfl hd_X6_within (ob_R (Nat.le_trans (by decide) hd) (by decide))) (ob_preS hK hM) rfl rfl hl.1 rfl (lv_room (Nat.le_of_ble_eq_true rfl)) dX6_crowd_13 ⟨Nat.le_refl _, Nat.le_refl _⟩) hS (fun H locs hM hS => ?_)
    refine lv_if_ne (tgt := 22) hx hb dX6_crowd_16 (by decide) (fun c4 => ?_) (fun c4 => ?_)
    · rw [if_neg c4] at hf
      refine lv_iload_n hx hb dX6_crowd_22 rfl (lv_at hl 2 rfl) ?_
      refine lv_iconst (v := 1) hx hb dX6_crowd_23 (by decide) ?_
      refine lv_icmp_ne (tgt := 36) hx hb dX6_crowd_24 (by decide) (fun c5 => ?_) (fun c5 => ?_)
      · rw [if_neg c5] at hf
        refine lv_aload_n hx hb dX6_crowd_36 rfl (lv_at hl 0 rfl) ?_
        refine ob_gr (j := 19) hx hb hts in_own hown hK hM (q := 0) shX_0 (C := RX6) (T := TX6) (N := 8) rfl 5 (by decide) hf_41 rfl dX6_crowd_37 ?_
        refine lv_iload_n hx hb dX6_crowd_40 rfl (lv_at hl 1 rfl) ?_
        obtain ⟨v6, g6, e6, hf⟩ := ob_e2 hf
        refine ob_calli (va_runVN (As := [.int x1]) (rest := []) ⟨hx, hb, hml, hown, hts⟩ (c_X1_isOneDayEnough l dC dI ad cI cZ hI 18 (Nat.le_refl _) g x1  v6 g6 e6) ⟨va_cnB 1 hts gX6_crowd_X1_isOneDayEnough_n172 rfl rfl rfl (ob_nl hK nw_X6_172) hi_X1 hd_X1_isOneDayEnough (ob_R (Nat.le_trans (by decide) hd) (by decide)), hin_X1_isOneDayEnough, hse_X1_isOneDayEnough⟩ (ob_preV hK hM (q := 19) shX_19 rfl) rfl rfl hl.1 rfl (lv_room (Nat.le_of_ble_eq_true rfl)) dX6_crowd_41 ⟨Nat.le_refl _, Nat.le_refl _⟩) hS (fun H locs hM hS => ?_)
        refine lv_if_eq (tgt := 51) hx hb dX6_crowd_44 (by decide) (fun c7 => ?_) (fun c7 => ?_)
        · rw [if_pos c7] at hf
          refine lv_iconst (v := 0) hx hb dX6_crowd_51 (by decide) ?_
          exact ob_iret hx hb hr hlocks hM hS (v := 0) rfl hf dX6_crowd_52
        · rw [if_neg c7] at hf
          refine lv_iconst (v := 1) hx hb dX6_crowd_47 (by decide) ?_
          refine lv_goto (tgt := 52) hx hb dX6_crowd_48 (by decide) ?_
          exact ob_iret hx hb hr hlocks hM hS (v := 1) rfl hf dX6_crowd_52
      · rw [if_pos c5] at hf
        refine lv_aload_n hx hb dX6_crowd_27 rfl (lv_at hl 0 rfl) ?_
        refine ob_gr (j := 19) hx hb hts in_own hown hK hM (q := 0) shX_0 (C := RX6) (T := TX6) (N := 8) rfl 5 (by decide) hf_41 rfl dX6_crowd_28 ?_
        refine lv_iload_n hx hb dX6_crowd_31 rfl (lv_at hl 1 rfl) ?_
        obtain ⟨v8, g8, e8, hf⟩ := ob_e2 hf
        refine ob_calli (va_runVN (As := [.int x1]) (rest := []) ⟨hx, hb, hml, hown, hts⟩ (c_X1_fewestDays l dC dI ad cI cZ hI 18 (Nat.le_refl _) g x1  v8 g8 e8) ⟨va_cnB 1 hts gX6_crowd_X1_fewestDays_n169 rfl rfl rfl (ob_nl hK nw_X6_169) hi_X1 hd_X1_fewestDays (ob_R (Nat.le_trans (by decide) hd) (by decide)), hin_X1_fewestDays, hse_X1_fewestDays⟩ (ob_preV hK hM (q := 19) shX_19 rfl) rfl rfl hl.1 rfl (lv_room (Nat.le_of_ble_eq_true rfl)) dX6_crowd_32 ⟨Nat.le_refl _, Nat.le_refl _⟩) hS (fun H locs hM hS => ?_)
        exact ob_iret hx hb hr hlocks hM hS (v := v8) rfl hf dX6_crowd_35
    · rw [if_pos c4] at hf
      refine lv_bipush (v := (-2)) hx hb dX6_crowd_19 (by decide) ?_
      exact ob_iret hx hb hr hlocks hM hS (v := (-2)) rfl hf dX6_crowd_21
set_option maxHeartbeats 4000000 in
set_option maxRecDepth 100000 in
theorem c_X2_inRings (l : Launch) (dC : Nat → ClassId) (dI : Nat → Nat → Nat) (ad : Nat → Nat) (cI cZ : ClassId) (hI : ob_inj shX ad) (d : Nat) (hd : 2 ≤ d) (g : Mm) (r : Int32) (t : Mm) (hf : f_X2_inRings g = some (r, t)) : ob_Mi l yX2_inRings wsX2_inRings d (dC, dI) vwCl shX ad cI cZ nwX [.ref (ad 24)] g r t := by
  refine ob_ofW (cc := cX2_inRings) (maxL := 3) (ret := (some .int)) (by decide) rfl ?_
  intro p e s m args below meth c ha hx hb hr hml hts hown hlocks hM0 hK hS0
  have hown : s.vm.findClass RX2 = some m.cls := hown
  have in_own : ∀ w ∈ wsX20, w ∈ wsX2_inRings := fun w h => (List.mem_cons_of_mem _ (List.mem_append_left _ (List.mem_append_right _ h)))
  have hf_9 := hts (.fieldLink RX2 9 "OneWorse$Order" "reached" "[I") (List.mem_cons_of_mem _ (List.mem_append_left _ (List.mem_append_left _ (List.mem_of_getElem? (i := 0) rfl))))
  have hf_28 := hts (.fieldLink RX2 28 "OneWorse$Order" "town" "LOneWorse$Town;") (List.mem_cons_of_mem _ (List.mem_append_left _ (List.mem_append_left _ (List.mem_of_getElem? (i := 1) rfl))))
  have hi_X4 := hts (.initialized RX4) (List.mem_cons_of_mem _ (List.mem_append_left _ (List.mem_append_left _ (List.mem_of_getElem? (i := 3) rfl))))
  have hin_X4_worseThan := hts (.instanceMethod yX4_worseThan) (List.mem_cons_of_mem _ (List.mem_append_left _ (List.mem_append_left _ (List.mem_of_getElem? (i := 2) rfl))))
  have hse_X4_worseThan := hts (.selects RX4 yX4_worseThan yX4_worseThan) (List.mem_cons_of_mem _ (List.mem_append_left _ (List.mem_append_left _ (List.mem_of_getElem? (i := 4) rfl))))
  have hi_X6 := hts (.initialized RX6) (List.mem_cons_of_mem _ (List.mem_append_left _ (List.mem_append_left _ (List.mem_of_getElem? (i := 8) rfl))))
  have hst_X6_store := hts (.static yX6_store) (List.mem_cons_of_mem _ (List.mem_append_left _ (List.mem_append_left _ (List.mem_of_getElem? (i := 10) rfl))))
  have hst_X6_at := hts (.static yX6_at) (List.mem_cons_of_mem _ (List.mem_append_left _ (List.mem_append_left _ (List.mem_of_getElem? (i := 7) rfl))))
  have hst_X6_has := hts (.static yX6_has) (List.mem_cons_of_mem _ (List.mem_append_left _ (List.mem_append_left _ (List.mem_of_getElem? (i := 12) rfl))))
  have w_2 : ∀ (k32 : Mm → Int32 → Option (Int32 × Mm)) (hk32 : ∀ (g : Mm) (x1 : Int32) (H : Heap) (locs : List Loc), va_P (dC, dI) vwCl (ob_ws shX ad cI cZ g) H → va_S (ob_A shX ad) s.heap H locs → ∀ (ls : Array Slot), lv_has ls 3 [(0, .ref (ad 24)), (1, .int x1)] → k32 g x1 = some (r, t) → W p l e (rmN d) s m args below meth c H locs 0 0 (MQ below (ob_Qi (dC, dI) vwCl shX ad cI cZ r t) args s 0 0 (ob_A shX ad)) (F0 m 32 ls [])) (n : Nat), ∀ (g : Mm) (x1 : Int32) (H : Heap) (locs : List Loc), va_P (dC, dI) vwCl (ob_ws shX ad cI cZ g) H → va_S (ob_A shX ad) s.heap H locs → ∀ (ls : Array Slot), lv_has ls 3 [(0, .ref (ad 24)), (1, .int x1)] → f_X2_inRings_L2 k32 n g x1 = some (r, t) → W p l e (rmN d) s m args below meth c H locs 0 0 (MQ below (ob_Qi (dC, dI) vwCl shX ad cI cZ r t) args s 0 0 (ob_A shX ad)) (F0 m 2 ls []) := by
    intro k32 hk32 n
    induction n with
    | zero =>
      intro g x1 H locs hM hS ls hl hf
      cases hf
    | succ n ih =>
      intro g x1 H locs hM hS ls hl hf
      unfold f_X2_inRings_L2 at hf
      refine lv_iload_n hx hb dX2_inRings_2 rfl (lv_at hl 1 rfl) ?_
      refine lv_bipush (v := 10) hx hb dX2_inRings_3 (by decide) ?_
      refine lv_icmp_ge (tgt := 30) hx hb dX2_inRings_5 (by decide) (fun c1 => ?_) (fun c1 => ?_)
      · rw [if_pos c1] at hf
        refine lv_iconst (v := 0) hx hb dX2_inRings_30 (by decide) ?_
        refine lv_istore_n (lv' := [(1, .int 0), (0, .ref (ad 24))]) hx hb dX2_inRings_31 rfl hl (by decide) rfl (fun ls hl => ?_)
        exact hk32 g 0 _ _ hM hS _ (lv_sub hl [1, 0] rfl) hf
      · rw [if_neg c1] at hf
        refine lv_aload_n hx hb dX2_inRings_8 rfl (lv_at hl 0 rfl) ?_
        refine ob_gr (j := 25) hx hb hts in_own hown hK hM (q := 24) shX_24 (C := RX2) (T := TX2) (N := 6) rfl 1 (by decide) hf_9 rfl dX2_inRings_9 ?_
        refine lv_iload_n hx hb dX2_inRings_12 rfl (lv_at hl 1 rfl) ?_
        refine lv_aload_n hx hb dX2_inRings_13 rfl (lv_at hl 0 rfl) ?_
        refine ob_gr (j := 2) hx hb hts in_own hown hK hM (q := 24) shX_24 (C := RX2) (T := TX2) (N := 6) rfl 0 (by decide) hf_28 rfl dX2_inRings_14 ?_
        refine lv_iload_n hx hb dX2_inRings_17 rfl (lv_at hl 1 rfl) ?_
        obtain ⟨v2, e2, hf⟩ := ob_e1 hf
        refine ob_calli (va_runVN (As := [.int x1]) (rest := [.int x1, .ref (ad 25)]) ⟨hx, hb, hml, hown, hts⟩ (c_X4_worseThan l dC dI ad cI cZ hI 1 (Nat.le_refl _) 2 isTown_2 g x1  v2 e2) ⟨va_cnB 1 hts gX2_inRings_X4_worseThan_n32 rfl rfl rfl (ob_nl hK nw_X2_32) hi_X4 hd_X4_worseThan (ob_R (Nat.le_trans (by decide) hd) (by decide)), hin_X4_worseThan, hse_X4_worseThan⟩ (ob_preV hK hM (q := 2) shX_2 rfl) rfl rfl hl.1 rfl (lv_room (Nat.le_of_ble_eq_true rfl)) dX2_inRings_18 ⟨Nat.le_refl _, Nat.le_refl _⟩) hS (fun H locs hM hS => ?_)
        obtain ⟨g3, e3, hf⟩ := ob_e1 hf
        refine ob_callv (va_runSN (As := [.ref (ad 25), .int x1, .int v2]) (rest := []) ⟨hx, hb, hml, hown, hts⟩ (c_X6_store l dC dI ad cI cZ hI 0 (Nat.le_refl _) g 25 10 shX_25 x1 v2  g3 e3) ⟨va_cnB 3 hts gX2_inRings_X6_store_n38 rfl rfl rfl (ob_nl hK nw_X2_38) hi_X6 hd_X6_store (ob_R (Nat.le_trans (by decide) hd) (by decide)), hst_X6_store, trivial⟩ (ob_preS hK hM) rfl rfl hl.1 rfl (lv_room (Nat.le_of_ble_eq_true rfl)) dX2_inRings_21 ⟨Nat.le_refl _, Nat.le_refl _⟩) hS (fun H locs hM hS => ?_)
        refine lv_iinc (v := (x1 + 1)) (lv' := [(1, .int (x1 + 1)), (0, .ref (ad 24))]) hx hb dX2_inRings_24 hl (k := 1) rfl rfl (by decide) rfl (fun ls hl => ?_)
        refine lv_goto (tgt := 2) hx hb dX2_inRings_27 (by decide) ?_
        exact ih g3 (x1 + 1) _ _ hM hS _ (lv_sub hl [1, 0] rfl) hf
  have w_86 : ∀ (k40 : Mm → Int32 → Int32 → Option (Int32 × Mm)) (hk40 : ∀ (g : Mm) (x1 x2 : Int32) (H : Heap) (locs : List Loc), va_P (dC, dI) vwCl (ob_ws shX ad cI cZ g) H → va_S (ob_A shX ad) s.heap H locs → ∀ (ls : Array Slot), lv_has ls 3 [(0, .ref (ad 24)), (1, .int x1), (2, .int x2)] → k40 g x1 x2 = some (r, t) → W p l e (rmN d) s m args below meth c H locs 0 0 (MQ below (ob_Qi (dC, dI) vwCl shX ad cI cZ r t) args s 0 0 (ob_A shX ad)) (F0 m 40 ls [])), ∀ (g : Mm) (x1 x2 : Int32) (H : Heap) (locs : List Loc), va_P (dC, dI) vwCl (ob_ws shX ad cI cZ g) H → va_S (ob_A shX ad) s.heap H locs → ∀ (ls : Array Slot), lv_has ls 3 [(0, .ref (ad 24)), (1, .int x1), (2, .int x2)] → f_X2_inRings_J86 k40 g x1 x2 = some (r, t) → W p l e (rmN d) s m args below meth c H locs 0 0 (MQ below (ob_Qi (dC, dI) vwCl shX ad cI cZ r t) args s 0 0 (ob_A shX ad)) (F0 m 86 ls []) := by
    intro k40 hk40 g x1 x2 H locs hM hS ls hl hf
    unfold f_X2_inRings_J86 at hf
    refine lv_iinc (v := (x2 + 1)) (lv' := [(2, .int (x2 + 1)), (0, .ref (ad 24)), (1, .int x1)]) hx hb dX2_inRings_86 hl (k := 2) rfl rfl (by decide) rfl (fun ls hl => ?_)
    refine lv_goto (tgt := 40) hx hb dX2_inRings_89 (by decide) ?_
    exact hk40 g x1 (x2 + 1) _ _ hM hS _ (lv_sub hl [1, 2, 0] rfl) hf
  have w_40 : ∀ (k32 : Mm → Int32 → Option (Int32 × Mm)) (hk32 : ∀ (g : Mm) (x1 : Int32) (H : Heap) (locs : List Loc), va_P (dC, dI) vwCl (ob_ws shX ad cI cZ g) H → va_S (ob_A shX ad) s.heap H locs → ∀ (ls : Array Slot), lv_has ls 3 [(0, .ref (ad 24)), (1, .int x1)] → k32 g x1 = some (r, t) → W p l e (rmN d) s m args below meth c H locs 0 0 (MQ below (ob_Qi (dC, dI) vwCl shX ad cI cZ r t) args s 0 0 (ob_A shX ad)) (F0 m 32 ls [])) (n : Nat), ∀ (g : Mm) (x1 x2 : Int32) (H : Heap) (locs : List Loc), va_P (dC, dI) vwCl (ob_ws shX ad cI cZ g) H → va_S (ob_A shX ad) s.heap H locs → ∀ (ls : Array Slot), lv_has ls 3 [(0, .ref (ad 24)), (1, .int x1), (2, .int x2)] → f_X2_inRings_L40 k32 n g x1 x2 = some (r, t) → W p l e (rmN d) s m args below meth c H locs 0 0 (MQ below (ob_Qi (dC, dI) vwCl shX ad cI cZ r t) args s 0 0 (ob_A shX ad)) (F0 m 40 ls []) := by
    intro k32 hk32 n
    induction n with
    | zero =>
      intro g x1 x2 H locs hM hS ls hl hf
      cases hf
    | succ n ih =>
      intro g x1 x2 H locs hM hS ls hl hf
      unfold f_X2_inRings_L40 at hf
      refine lv_iload_n hx hb dX2_inRings_40 rfl (lv_at hl 2 rfl) ?_
      refine lv_bipush (v := 10) hx hb dX2_inRings_41 (by decide) ?_
      refine lv_icmp_ge (tgt := 92) hx hb dX2_inRings_43 (by decide) (fun c9 => ?_) (fun c9 => ?_)
      · rw [if_pos c9] at hf
        refine lv_iinc (v := (x1 + 1)) (lv' := [(1, .int (x1 + 1)), (0, .ref (ad 24)), (2, .int x2)]) hx hb dX2_inRings_92 hl (k := 1) rfl rfl (by decide) rfl (fun ls hl => ?_)
        refine lv_goto (tgt := 32) hx hb dX2_inRings_95 (by decide) ?_
        exact hk32 g (x1 + 1) _ _ hM hS _ (lv_sub hl [1, 0] rfl) hf
      · rw [if_neg c9] at hf
        refine lv_aload_n hx hb dX2_inRings_46 rfl (lv_at hl 0 rfl) ?_
        refine ob_gr (j := 25) hx hb hts in_own hown hK hM (q := 24) shX_24 (C := RX2) (T := TX2) (N := 6) rfl 1 (by decide) hf_9 rfl dX2_inRings_47 ?_
        refine lv_iload_n hx hb dX2_inRings_50 rfl (lv_at hl 2 rfl) ?_
        obtain ⟨v10, e10, hf⟩ := ob_e1 hf
        refine ob_calli (va_runSN (As := [.ref (ad 25), .int x2]) (rest := []) ⟨hx, hb, hml, hown, hts⟩ (c_X6_at l dC dI ad cI cZ hI 0 (Nat.le_refl _) g 25 10 shX_25 x2  v10 e10) ⟨va_cnB 2 hts gX2_inRings_X6_at_n42 rfl rfl rfl (ob_nl hK nw_X2_42) hi_X6 hd_X6_at (ob_R (Nat.le_trans (by decide) hd) (by decide)), hst_X6_at, trivial⟩ (ob_preS hK hM) rfl rfl hl.1 rfl (lv_room (Nat.le_of_ble_eq_true rfl)) dX2_inRings_51 ⟨Nat.le_refl _, Nat.le_refl _⟩) hS (fun H locs hM hS => ?_)
        refine lv_iload_n hx hb dX2_inRings_54 rfl (lv_at hl 1 rfl) ?_
        obtain ⟨v11, e11, hf⟩ := ob_e1 hf
        refine ob_calli (va_runSN (As := [.int v10, .int x1]) (rest := []) ⟨hx, hb, hml, hown, hts⟩ (c_X6_has l dC dI ad cI cZ hI 0 (Nat.le_refl _) g v10 x1  v11 e11) ⟨va_cnB 2 hts gX2_inRings_X6_has_n46 rfl rfl rfl (ob_nl hK nw_X2_46) hi_X6 hd_X6_has (ob_R (Nat.le_trans (by decide) hd) (by decide)), hst_X6_has, trivial⟩ (ob_preS hK hM) rfl rfl hl.1 rfl (lv_room (Nat.le_of_ble_eq_true rfl)) dX2_inRings_55 ⟨Nat.le_refl _, Nat.le_refl _⟩) hS (fun H locs hM hS => ?_)
        refine lv_if_eq (tgt := 86) hx hb dX2_inRings_58 (by decide) (fun c12 => ?_) (fun c12 => ?_)
        · rw [if_pos c12] at hf
          exact w_86 (f_X2_inRings_L40 k32 n) ih g x1 x2 _ _ hM hS _ (lv_sub hl [0, 1, 2] rfl) hf
        · rw [if_neg c12] at hf
          refine lv_aload_n hx hb dX2_inRings_61 rfl (lv_at hl 0 rfl) ?_
          refine ob_gr (j := 25) hx hb hts in_own hown hK hM (q := 24) shX_24 (C := RX2) (T := TX2) (N := 6) rfl 1 (by decide) hf_9 rfl dX2_inRings_62 ?_
          refine lv_iload_n hx hb dX2_inRings_65 rfl (lv_at hl 2 rfl) ?_
          refine lv_aload_n hx hb dX2_inRings_66 rfl (lv_at hl 0 rfl) ?_
          refine ob_gr (j := 25) hx hb hts in_own hown hK hM (q := 24) shX_24 (C := RX2) (T := TX2) (N := 6) rfl 1 (by decide) hf_9 rfl dX2_inRings_67 ?_
          refine lv_iload_n hx hb dX2_inRings_70 rfl (lv_at hl 2 rfl) ?_
          obtain ⟨v13, e13, hf⟩ := ob_e1 hf
          refine ob_calli (va_runSN (As := [.ref (ad 25), .int x2]) (rest := [.int x2, .ref (ad 25)]) ⟨hx, hb, hml, hown, hts⟩ (c_X6_at l dC dI ad cI cZ hI 0 (Nat.le_refl _) g 25 10 shX_25 x2  v13 e13) ⟨va_cnB 2 hts gX2_inRings_X6_at_n42 rfl rfl rfl (ob_nl hK nw_X2_42) hi_X6 hd_X6_at (ob_R (Nat.le_trans (by decide) hd) (by decide)), hst_X6_at, trivial⟩ (ob_preS hK hM) rfl rfl hl.1 rfl (lv_room (Nat.le_of_ble_eq_true rfl)) dX2_inRings_71 ⟨Nat.le_refl _, Nat.le_refl _⟩) hS (fun H locs hM hS => ?_)
          refine lv_aload_n hx hb dX2_inRings_74 rfl (lv_at hl 0 rfl) ?_
          refine ob_gr (j := 25) hx hb hts in_own hown hK hM (q := 24) shX_24 (C := RX2) (T := TX2) (N := 6) rfl 1 (by decide) hf_9 rfl dX2_inRings_75 ?_
          refine lv_iload_n hx hb dX2_inRings_78 rfl (lv_at hl 1 rfl) ?_
          obtain ⟨v14, e14, hf⟩ := ob_e1 hf
          refine ob_calli (va_runSN (As := [.ref (ad 25), .int x1]) (rest := [.int v13, .int x2, .ref (ad 25)]) ⟨hx, hb, hml, hown, hts⟩ (c_X6_at l dC dI ad cI cZ hI 0 (Nat.le_refl _) g 25 10 shX_25 x1  v14 e14) ⟨va_cnB 2 hts gX2_inRings_X6_at_n42 rfl rfl rfl (ob_nl hK nw_X2_42) hi_X6 hd_X6_at (ob_R (Nat.le_trans (by decide) hd) (by decide)), hst_X6_at, trivial⟩ (ob_preS hK hM) rfl rfl hl.1 rfl (lv_room (Nat.le_of_ble_eq_true rfl)) dX2_inRings_79 ⟨Nat.le_refl _, Nat.le_refl _⟩) hS (fun H locs hM hS => ?_)
          refine lv_ior hx hb dX2_inRings_82 ?_
          obtain ⟨g15, e15, hf⟩ := ob_e1 hf
          refine ob_callv (va_runSN (As := [.ref (ad 25), .int x2, .int (v13 ||| v14)]) (rest := []) ⟨hx, hb, hml, hown, hts⟩ (c_X6_store l dC dI ad cI cZ hI 0 (Nat.le_refl _) g 25 10 shX_25 x2 (v13 ||| v14)  g15 e15) ⟨va_cnB 3 hts gX2_inRings_X6_store_n38 rfl rfl rfl (ob_nl hK nw_X2_38) hi_X6 hd_X6_store (ob_R (Nat.le_trans (by decide) hd) (by decide)), hst_X6_store, trivial⟩ (ob_preS hK hM) rfl rfl hl.1 rfl (lv_room (Nat.le_of_ble_eq_true rfl)) dX2_inRings_83 ⟨Nat.le_refl _, Nat.le_refl _⟩) hS (fun H locs hM hS => ?_)
          exact w_86 (f_X2_inRings_L40 k32 n) ih g15 x1 x2 _ _ hM hS _ (lv_sub hl [0, 1, 2] rfl) hf
  have w_32 : ∀ (k102 : Mm → Int32 → Int32 → Option (Int32 × Mm)) (hk102 : ∀ (g : Mm) (x1 x2 : Int32) (H : Heap) (locs : List Loc), va_P (dC, dI) vwCl (ob_ws shX ad cI cZ g) H → va_S (ob_A shX ad) s.heap H locs → ∀ (ls : Array Slot), lv_has ls 3 [(0, .ref (ad 24)), (1, .int x1), (2, .int x2)] → k102 g x1 x2 = some (r, t) → W p l e (rmN d) s m args below meth c H locs 0 0 (MQ below (ob_Qi (dC, dI) vwCl shX ad cI cZ r t) args s 0 0 (ob_A shX ad)) (F0 m 102 ls [])) (n : Nat), ∀ (g : Mm) (x1 : Int32) (H : Heap) (locs : List Loc), va_P (dC, dI) vwCl (ob_ws shX ad cI cZ g) H → va_S (ob_A shX ad) s.heap H locs → ∀ (ls : Array Slot), lv_has ls 3 [(0, .ref (ad 24)), (1, .int x1)] → f_X2_inRings_L32 k102 n g x1 = some (r, t) → W p l e (rmN d) s m args below meth c H locs 0 0 (MQ below (ob_Qi (dC, dI) vwCl shX ad cI cZ r t) args s 0 0 (ob_A shX ad)) (F0 m 32 ls []) := by
    intro k102 hk102 n
    induction n with
    | zero =>
      intro g x1 H locs hM hS ls hl hf
      cases hf
    | succ n ih =>
      intro g x1 H locs hM hS ls hl hf
      unfold f_X2_inRings_L32 at hf
      refine lv_iload_n hx hb dX2_inRings_32 rfl (lv_at hl 1 rfl) ?_
      refine lv_bipush (v := 10) hx hb dX2_inRings_33 (by decide) ?_
      refine lv_icmp_ge (tgt := 98) hx hb dX2_inRings_35 (by decide) (fun c4 => ?_) (fun c4 => ?_)
      · rw [if_pos c4] at hf
        refine lv_iconst (v := 0) hx hb dX2_inRings_98 (by decide) ?_
        refine lv_istore_n (lv' := [(1, .int 0), (0, .ref (ad 24))]) hx hb dX2_inRings_99 rfl hl (by decide) rfl (fun ls hl => ?_)
        refine lv_iconst (v := 0) hx hb dX2_inRings_100 (by decide) ?_
        refine lv_istore_n (lv' := [(2, .int 0), (1, .int 0), (0, .ref (ad 24))]) hx hb dX2_inRings_101 rfl hl (by decide) rfl (fun ls hl => ?_)
        exact hk102 g 0 0 _ _ hM hS _ (lv_sub hl [2, 1, 0] rfl) hf
      · rw [if_neg c4] at hf
        refine lv_iconst (v := 0) hx hb dX2_inRings_38 (by decide) ?_
        refine lv_istore_n (lv' := [(2, .int 0), (0, .ref (ad 24)), (1, .int x1)]) hx hb dX2_inRings_39 rfl hl (by decide) rfl (fun ls hl => ?_)
        exact w_40 (f_X2_inRings_L32 k102 n) ih FU g x1 0 _ _ hM hS _ (lv_sub hl [1, 2, 0] rfl) hf
  have w_129 : ∀ (k102 : Mm → Int32 → Int32 → Option (Int32 × Mm)) (hk102 : ∀ (g : Mm) (x1 x2 : Int32) (H : Heap) (locs : List Loc), va_P (dC, dI) vwCl (ob_ws shX ad cI cZ g) H → va_S (ob_A shX ad) s.heap H locs → ∀ (ls : Array Slot), lv_has ls 3 [(0, .ref (ad 24)), (1, .int x1), (2, .int x2)] → k102 g x1 x2 = some (r, t) → W p l e (rmN d) s m args below meth c H locs 0 0 (MQ below (ob_Qi (dC, dI) vwCl shX ad cI cZ r t) args s 0 0 (ob_A shX ad)) (F0 m 102 ls [])), ∀ (g : Mm) (x1 x2 : Int32) (H : Heap) (locs : List Loc), va_P (dC, dI) vwCl (ob_ws shX ad cI cZ g) H → va_S (ob_A shX ad) s.heap H locs → ∀ (ls : Array Slot), lv_has ls 3 [(0, .ref (ad 24)), (1, .int x1), (2, .int x2)] → f_X2_inRings_J129 k102 g x1 x2 = some (r, t) → W p l e (rmN d) s m args below meth c H locs 0 0 (MQ below (ob_Qi (dC, dI) vwCl shX ad cI cZ r t) args s 0 0 (ob_A shX ad)) (F0 m 129 ls []) := by
    intro k102 hk102 g x1 x2 H locs hM hS ls hl hf
    unfold f_X2_inRings_J129 at hf
    refine lv_iinc (v := (x2 + 1)) (lv' := [(2, .int (x2 + 1)), (0, .ref (ad 24)), (1, .int x1)]) hx hb dX2_inRings_129 hl (k := 2) rfl rfl (by decide) rfl (fun ls hl => ?_)
    refine lv_goto (tgt := 102) hx hb dX2_inRings_132 (by decide) ?_
    exact hk102 g x1 (x2 + 1) _ _ hM hS _ (lv_sub hl [1, 2, 0] rfl) hf
  have w_102 : ∀ (n : Nat), ∀ (g : Mm) (x1 x2 : Int32) (H : Heap) (locs : List Loc), va_P (dC, dI) vwCl (ob_ws shX ad cI cZ g) H → va_S (ob_A shX ad) s.heap H locs → ∀ (ls : Array Slot), lv_has ls 3 [(0, .ref (ad 24)), (1, .int x1), (2, .int x2)] → f_X2_inRings_L102 n g x1 x2 = some (r, t) → W p l e (rmN d) s m args below meth c H locs 0 0 (MQ below (ob_Qi (dC, dI) vwCl shX ad cI cZ r t) args s 0 0 (ob_A shX ad)) (F0 m 102 ls []) := by
    intro n
    induction n with
    | zero =>
      intro g x1 x2 H locs hM hS ls hl hf
      cases hf
    | succ n ih =>
      intro g x1 x2 H locs hM hS ls hl hf
      unfold f_X2_inRings_L102 at hf
      refine lv_iload_n hx hb dX2_inRings_102 rfl (lv_at hl 2 rfl) ?_
      refine lv_bipush (v := 10) hx hb dX2_inRings_103 (by decide) ?_
      refine lv_icmp_ge (tgt := 135) hx hb dX2_inRings_105 (by decide) (fun c5 => ?_) (fun c5 => ?_)
      · rw [if_pos c5] at hf
        refine lv_iload_n hx hb dX2_inRings_135 rfl (lv_at hl 1 rfl) ?_
        exact ob_iret hx hb hr hlocks hM hS (v := x1) rfl hf dX2_inRings_136
      · rw [if_neg c5] at hf
        refine lv_aload_n hx hb dX2_inRings_108 rfl (lv_at hl 0 rfl) ?_
        refine ob_gr (j := 25) hx hb hts in_own hown hK hM (q := 24) shX_24 (C := RX2) (T := TX2) (N := 6) rfl 1 (by decide) hf_9 rfl dX2_inRings_109 ?_
        refine lv_iload_n hx hb dX2_inRings_112 rfl (lv_at hl 2 rfl) ?_
        obtain ⟨v6, e6, hf⟩ := ob_e1 hf
        refine ob_calli (va_runSN (As := [.ref (ad 25), .int x2]) (rest := []) ⟨hx, hb, hml, hown, hts⟩ (c_X6_at l dC dI ad cI cZ hI 0 (Nat.le_refl _) g 25 10 shX_25 x2  v6 e6) ⟨va_cnB 2 hts gX2_inRings_X6_at_n42 rfl rfl rfl (ob_nl hK nw_X2_42) hi_X6 hd_X6_at (ob_R (Nat.le_trans (by decide) hd) (by decide)), hst_X6_at, trivial⟩ (ob_preS hK hM) rfl rfl hl.1 rfl (lv_room (Nat.le_of_ble_eq_true rfl)) dX2_inRings_113 ⟨Nat.le_refl _, Nat.le_refl _⟩) hS (fun H locs hM hS => ?_)
        refine lv_iload_n hx hb dX2_inRings_116 rfl (lv_at hl 2 rfl) ?_
        obtain ⟨v7, e7, hf⟩ := ob_e1 hf
        refine ob_calli (va_runSN (As := [.int v6, .int x2]) (rest := []) ⟨hx, hb, hml, hown, hts⟩ (c_X6_has l dC dI ad cI cZ hI 0 (Nat.le_refl _) g v6 x2  v7 e7) ⟨va_cnB 2 hts gX2_inRings_X6_has_n46 rfl rfl rfl (ob_nl hK nw_X2_46) hi_X6 hd_X6_has (ob_R (Nat.le_trans (by decide) hd) (by decide)), hst_X6_has, trivial⟩ (ob_preS hK hM) rfl rfl hl.1 rfl (lv_room (Nat.le_of_ble_eq_true rfl)) dX2_inRings_117 ⟨Nat.le_refl _, Nat.le_refl _⟩) hS (fun H locs hM hS => ?_)
        refine lv_if_eq (tgt := 129) hx hb dX2_inRings_120 (by decide) (fun c8 => ?_) (fun c8 => ?_)
        · rw [if_pos c8] at hf
          exact w_129 (f_X2_inRings_L102 n) ih g x1 x2 _ _ hM hS _ (lv_sub hl [0, 1, 2] rfl) hf
        · rw [if_neg c8] at hf
          refine lv_iload_n hx hb dX2_inRings_123 rfl (lv_at hl 1 rfl) ?_
          refine lv_iconst (v := 1) hx hb dX2_inRings_124 (by decide) ?_
          refine lv_iload_n hx hb dX2_inRings_125 rfl (lv_at hl 2 rfl) ?_
          refine lv_ishl hx hb dX2_inRings_126 ?_
          refine lv_ior hx hb dX2_inRings_127 ?_
          refine lv_istore_n (lv' := [(1, .int (x1 ||| ((1 : Int32) <<< (x2 &&& 31)))), (0, .ref (ad 24)), (2, .int x2)]) hx hb dX2_inRings_128 rfl hl (by decide) rfl (fun ls hl => ?_)
          exact w_129 (f_X2_inRings_L102 n) ih g (x1 ||| ((1 : Int32) <<< (x2 &&& 31))) x2 _ _ hM hS _ (lv_sub hl [1, 0, 2] rfl) hf
  subst ha
  have hl := lv_entry ([.ref (ad 24)]) (n := 3) (Nat.le_of_ble_eq_true rfl)
  rw [lg_entry_eq]
  generalize (lg_sl ([.ref (ad 24)]) ++ List.replicate (3 - (lg_sl ([.ref (ad 24)])).length) Slot.unset).toArray = ls at hl ⊢
  have hl : lv_has ls 3 [(0, .ref (ad 24))] := hl
  have hM := hM0
  have hS := hS0
  unfold f_X2_inRings at hf
  refine lv_iconst (v := 0) hx hb dX2_inRings_0 (by decide) ?_
  refine lv_istore_n (lv' := [(1, .int 0), (0, .ref (ad 24))]) hx hb dX2_inRings_1 rfl hl (by decide) rfl (fun ls hl => ?_)
  exact w_2 (f_X2_inRings_L32 (f_X2_inRings_L102 FU) FU) (w_32 (f_X2_inRings_L102 FU) (w_102 FU) FU) FU g 0 _ _ hM hS _ (lv_sub hl [1, 0] rfl) hf
set_option maxHeartbeats 4000000 in
set_option maxRecDepth 100000 in
theorem c_X2_tops (l : Launch) (dC : Nat → ClassId) (dI : Nat → Nat → Nat) (ad : Nat → Nat) (cI cZ : ClassId) (hI : ob_inj shX ad) (d : Nat) (hd : 2 ≤ d) (g : Mm) (r : Int32) (hf : f_X2_tops g = some r) : ob_Mi l yX2_tops wsX2_tops d (dC, dI) vwCl shX ad cI cZ nwX [.ref (ad 24)] g r g := by
  refine ob_ofW (cc := cX2_tops) (maxL := 3) (ret := (some .int)) (by decide) rfl ?_
  intro p e s m args below meth c ha hx hb hr hml hts hown hlocks hM0 hK hS0
  have hown : s.vm.findClass RX2 = some m.cls := hown
  have in_own : ∀ w ∈ wsX20, w ∈ wsX2_tops := fun w h => (List.mem_cons_of_mem _ (List.mem_append_left _ (List.mem_append_right _ h)))
  have hf_28 := hts (.fieldLink RX2 28 "OneWorse$Order" "town" "LOneWorse$Town;") (List.mem_cons_of_mem _ (List.mem_append_left _ (List.mem_append_left _ (List.mem_of_getElem? (i := 0) rfl))))
  have hi_X4 := hts (.initialized RX4) (List.mem_cons_of_mem _ (List.mem_append_left _ (List.mem_append_left _ (List.mem_of_getElem? (i := 2) rfl))))
  have hin_X4_worseThan := hts (.instanceMethod yX4_worseThan) (List.mem_cons_of_mem _ (List.mem_append_left _ (List.mem_append_left _ (List.mem_of_getElem? (i := 1) rfl))))
  have hse_X4_worseThan := hts (.selects RX4 yX4_worseThan yX4_worseThan) (List.mem_cons_of_mem _ (List.mem_append_left _ (List.mem_append_left _ (List.mem_of_getElem? (i := 3) rfl))))
  have w_27 : ∀ (k4 : Int32 → Int32 → Option (Int32)) (hk4 : ∀ (x1 x2 : Int32) (H : Heap) (locs : List Loc), va_P (dC, dI) vwCl (ob_ws shX ad cI cZ g) H → va_S (ob_A shX ad) s.heap H locs → ∀ (ls : Array Slot), lv_has ls 3 [(0, .ref (ad 24)), (1, .int x1), (2, .int x2)] → k4 x1 x2 = some r → W p l e (rmN d) s m args below meth c H locs 0 0 (MQ below (ob_Qi (dC, dI) vwCl shX ad cI cZ r g) args s 0 0 (ob_A shX ad)) (F0 m 4 ls [])), ∀ (x1 x2 : Int32) (H : Heap) (locs : List Loc), va_P (dC, dI) vwCl (ob_ws shX ad cI cZ g) H → va_S (ob_A shX ad) s.heap H locs → ∀ (ls : Array Slot), lv_has ls 3 [(0, .ref (ad 24)), (1, .int x1), (2, .int x2)] → f_X2_tops_J27 g k4 x1 x2 = some r → W p l e (rmN d) s m args below meth c H locs 0 0 (MQ below (ob_Qi (dC, dI) vwCl shX ad cI cZ r g) args s 0 0 (ob_A shX ad)) (F0 m 27 ls []) := by
    intro k4 hk4 x1 x2 H locs hM hS ls hl hf
    unfold f_X2_tops_J27 at hf
    refine lv_iinc (v := (x2 + 1)) (lv' := [(2, .int (x2 + 1)), (0, .ref (ad 24)), (1, .int x1)]) hx hb dX2_tops_27 hl (k := 2) rfl rfl (by decide) rfl (fun ls hl => ?_)
    refine lv_goto (tgt := 4) hx hb dX2_tops_30 (by decide) ?_
    exact hk4 x1 (x2 + 1) _ _ hM hS _ (lv_sub hl [1, 2, 0] rfl) hf
  have w_4 : ∀ (n : Nat), ∀ (x1 x2 : Int32) (H : Heap) (locs : List Loc), va_P (dC, dI) vwCl (ob_ws shX ad cI cZ g) H → va_S (ob_A shX ad) s.heap H locs → ∀ (ls : Array Slot), lv_has ls 3 [(0, .ref (ad 24)), (1, .int x1), (2, .int x2)] → f_X2_tops_L4 g n x1 x2 = some r → W p l e (rmN d) s m args below meth c H locs 0 0 (MQ below (ob_Qi (dC, dI) vwCl shX ad cI cZ r g) args s 0 0 (ob_A shX ad)) (F0 m 4 ls []) := by
    intro n
    induction n with
    | zero =>
      intro x1 x2 H locs hM hS ls hl hf
      cases hf
    | succ n ih =>
      intro x1 x2 H locs hM hS ls hl hf
      unfold f_X2_tops_L4 at hf
      refine lv_iload_n hx hb dX2_tops_4 rfl (lv_at hl 2 rfl) ?_
      refine lv_bipush (v := 10) hx hb dX2_tops_5 (by decide) ?_
      refine lv_icmp_ge (tgt := 33) hx hb dX2_tops_7 (by decide) (fun c1 => ?_) (fun c1 => ?_)
      · rw [if_pos c1] at hf
        refine lv_iload_n hx hb dX2_tops_33 rfl (lv_at hl 1 rfl) ?_
        exact ob_iretR hx hb hr hlocks hM hS (v := x1) rfl hf dX2_tops_34
      · rw [if_neg c1] at hf
        refine lv_aload_n hx hb dX2_tops_10 rfl (lv_at hl 0 rfl) ?_
        refine ob_gr (j := 2) hx hb hts in_own hown hK hM (q := 24) shX_24 (C := RX2) (T := TX2) (N := 6) rfl 0 (by decide) hf_28 rfl dX2_tops_11 ?_
        refine lv_iload_n hx hb dX2_tops_14 rfl (lv_at hl 2 rfl) ?_
        obtain ⟨v2, e2, hf⟩ := ob_e1 hf
        refine ob_calli (va_runVN (As := [.int x2]) (rest := []) ⟨hx, hb, hml, hown, hts⟩ (c_X4_worseThan l dC dI ad cI cZ hI 1 (Nat.le_refl _) 2 isTown_2 g x2  v2 e2) ⟨va_cnB 1 hts gX2_tops_X4_worseThan_n32 rfl rfl rfl (ob_nl hK nw_X2_32) hi_X4 hd_X4_worseThan (ob_R (Nat.le_trans (by decide) hd) (by decide)), hin_X4_worseThan, hse_X4_worseThan⟩ (ob_preV hK hM (q := 2) shX_2 rfl) rfl rfl hl.1 rfl (lv_room (Nat.le_of_ble_eq_true rfl)) dX2_tops_15 ⟨Nat.le_refl _, Nat.le_refl _⟩) hS (fun H locs hM hS => ?_)
        refine lv_if_ne (tgt := 27) hx hb dX2_tops_18 (by decide) (fun c3 => ?_) (fun c3 => ?_)
        · rw [if_neg c3] at hf
          exact w_27 (f_X2_tops_L4 g n) ih x1 x2 _ _ hM hS _ (lv_sub hl [0, 1, 2] rfl) hf
        · rw [if_pos c3] at hf
          refine lv_iload_n hx hb dX2_tops_21 rfl (lv_at hl 1 rfl) ?_
          refine lv_iconst (v := 1) hx hb dX2_tops_22 (by decide) ?_
          refine lv_iload_n hx hb dX2_tops_23 rfl (lv_at hl 2 rfl) ?_
          refine lv_ishl hx hb dX2_tops_24 ?_
          refine lv_ior hx hb dX2_tops_25 ?_
          refine lv_istore_n (lv' := [(1, .int (x1 ||| ((1 : Int32) <<< (x2 &&& 31)))), (0, .ref (ad 24)), (2, .int x2)]) hx hb dX2_tops_26 rfl hl (by decide) rfl (fun ls hl => ?_)
          exact w_27 (f_X2_tops_L4 g n) ih (x1 ||| ((1 : Int32) <<< (x2 &&& 31))) x2 _ _ hM hS _ (lv_sub hl [1, 0, 2] rfl) hf
  subst ha
  have hl := lv_entry ([.ref (ad 24)]) (n := 3) (Nat.le_of_ble_eq_true rfl)
  rw [lg_entry_eq]
  generalize (lg_sl ([.ref (ad 24)]) ++ List.replicate (3 - (lg_sl ([.ref (ad 24)])).length) Slot.unset).toArray = ls at hl ⊢
  have hl : lv_has ls 3 [(0, .ref (ad 24))] := hl
  have hM := hM0
  have hS := hS0
  unfold f_X2_tops at hf
  refine lv_iconst (v := 0) hx hb dX2_tops_0 (by decide) ?_
  refine lv_istore_n (lv' := [(1, .int 0), (0, .ref (ad 24))]) hx hb dX2_tops_1 rfl hl (by decide) rfl (fun ls hl => ?_)
  refine lv_iconst (v := 0) hx hb dX2_tops_2 (by decide) ?_
  refine lv_istore_n (lv' := [(2, .int 0), (1, .int 0), (0, .ref (ad 24))]) hx hb dX2_tops_3 rfl hl (by decide) rfl (fun ls hl => ?_)
  exact w_4 FU 0 0 _ _ hM hS _ (lv_sub hl [2, 1, 0] rfl) hf
set_option maxHeartbeats 4000000 in
set_option maxRecDepth 100000 in
theorem c_X6_rings (l : Launch) (dC : Nat → ClassId) (dI : Nat → Nat → Nat) (ad : Nat → Nat) (cI cZ : ClassId) (hI : ob_inj shX ad) (d : Nat) (hd : 3 ≤ d) (g : Mm) (x1 : Int32) (r : Int32) (t : Mm) (hf : f_X6_rings g x1 = some (r, t)) : ob_Mi l yX6_rings wsX6_rings d (dC, dI) vwCl shX ad cI cZ nwX [.ref (ad 0), .int x1] g r t := by
  refine ob_ofW (cc := cX6_rings) (maxL := 2) (ret := (some .int)) (by decide) rfl ?_
  intro p e s m args below meth c ha hx hb hr hml hts hown hlocks hM0 hK hS0
  have hown : s.vm.findClass RX6 = some m.cls := hown
  have in_own : ∀ w ∈ wsX60, w ∈ wsX6_rings := fun w h => (List.mem_cons_of_mem _ (List.mem_append_left _ (List.mem_append_left _ (List.mem_append_right _ h))))
  have hf_48 := hts (.fieldLink RX6 48 "OneWorse" "order" "LOneWorse$Order;") (List.mem_cons_of_mem _ (List.mem_append_left _ (List.mem_append_left _ (List.mem_append_left _ (List.mem_append_left _ (List.mem_of_getElem? (i := 0) rfl))))))
  have hi_X2 := hts (.initialized RX2) (List.mem_cons_of_mem _ (List.mem_append_left _ (List.mem_append_left _ (List.mem_append_left _ (List.mem_append_left _ (List.mem_of_getElem? (i := 6) rfl))))))
  have hin_X2_tops := hts (.instanceMethod yX2_tops) (List.mem_cons_of_mem _ (List.mem_append_left _ (List.mem_append_left _ (List.mem_append_left _ (List.mem_append_left _ (List.mem_of_getElem? (i := 22) rfl))))))
  have hse_X2_tops := hts (.selects RX2 yX2_tops yX2_tops) (List.mem_cons_of_mem _ (List.mem_append_left _ (List.mem_append_left _ (List.mem_append_left _ (List.mem_append_left _ (List.mem_of_getElem? (i := 23) rfl))))))
  have hin_X2_inRings := hts (.instanceMethod yX2_inRings) (List.mem_cons_of_mem _ (List.mem_append_left _ (List.mem_append_left _ (List.mem_append_left _ (List.mem_append_left _ (List.mem_of_getElem? (i := 5) rfl))))))
  have hse_X2_inRings := hts (.selects RX2 yX2_inRings yX2_inRings) (List.mem_cons_of_mem _ (List.mem_append_left _ (List.mem_append_left _ (List.mem_append_left _ (List.mem_append_left _ (List.mem_of_getElem? (i := 7) rfl))))))
  subst ha
  have hl := lv_entry ([.ref (ad 0), .int x1]) (n := 2) (Nat.le_of_ble_eq_true rfl)
  rw [lg_entry_eq]
  generalize (lg_sl ([.ref (ad 0), .int x1]) ++ List.replicate (2 - (lg_sl ([.ref (ad 0), .int x1])).length) Slot.unset).toArray = ls at hl ⊢
  have hl : lv_has ls 2 [(0, .ref (ad 0)), (1, .int x1)] := hl
  have hM := hM0
  have hS := hS0
  unfold f_X6_rings at hf
  refine lv_iload_n hx hb dX6_rings_0 rfl (lv_at hl 1 rfl) ?_
  refine lv_iconst (v := 0) hx hb dX6_rings_1 (by decide) ?_
  refine lv_iconst (v := 1) hx hb dX6_rings_2 (by decide) ?_
  obtain ⟨v1, e1, hf⟩ := ob_e1 hf
  refine ob_calli (va_runS (As := [.int x1, .int 0, .int 1]) (rest := []) ⟨hx, hb, hml, hown, hts⟩ (c_X6_within l dC dI ad cI cZ hI 0 (Nat.le_refl _) g x1 0 1  v1 e1) (va_cwS 3 hts gX6_rings_X6_within rfl rfl rfl hd_X6_within (ob_R (Nat.le_trans (by decide) hd) (by decide))) (ob_preS hK hM) rfl rfl hl.1 rfl (lv_room (Nat.le_of_ble_eq_true rfl)) dX6_rings_3 ⟨Nat.le_refl _, Nat.le_refl _⟩) hS (fun H locs hM hS => ?_)
  refine lv_if_ne (tgt := 12) hx hb dX6_rings_6 (by decide) (fun c2 => ?_) (fun c2 => ?_)
  · rw [if_neg c2] at hf
    refine lv_iload_n hx hb dX6_rings_12 rfl (lv_at hl 1 rfl) ?_
    refine lv_if_ne (tgt := 26) hx hb dX6_rings_13 (by decide) (fun c3 => ?_) (fun c3 => ?_)
    · rw [if_neg c3] at hf
      refine lv_aload_n hx hb dX6_rings_26 rfl (lv_at hl 0 rfl) ?_
      refine ob_gr (j := 24) hx hb hts in_own hown hK hM (q := 0) shX_0 (C := RX6) (T := TX6) (N := 8) rfl 6 (by decide) hf_48 rfl dX6_rings_27 ?_
      obtain ⟨v4, e4, hf⟩ := ob_e1 hf
      refine ob_calli (va_runVN (As := []) (rest := []) ⟨hx, hb, hml, hown, hts⟩ (c_X2_tops l dC dI ad cI cZ hI 2 (Nat.le_refl _) g  v4 e4) ⟨va_cnB 0 hts gX6_rings_X2_tops_n178 rfl rfl rfl (ob_nl hK nw_X6_178) hi_X2 hd_X2_tops (ob_R (Nat.le_trans (by decide) hd) (by decide)), hin_X2_tops, hse_X2_tops⟩ (ob_preV hK hM (q := 24) shX_24 rfl) rfl rfl hl.1 rfl (lv_room (Nat.le_of_ble_eq_true rfl)) dX6_rings_30 ⟨Nat.le_refl _, Nat.le_refl _⟩) hS (fun H locs hM hS => ?_)
      exact ob_iret hx hb hr hlocks hM hS (v := v4) rfl hf dX6_rings_33
    · rw [if_pos c3] at hf
      refine lv_aload_n hx hb dX6_rings_16 rfl (lv_at hl 0 rfl) ?_
      refine ob_gr (j := 24) hx hb hts in_own hown hK hM (q := 0) shX_0 (C := RX6) (T := TX6) (N := 8) rfl 6 (by decide) hf_48 rfl dX6_rings_17 ?_
      obtain ⟨v5, g5, e5, hf⟩ := ob_e2 hf
      refine ob_calli (va_runVN (As := []) (rest := []) ⟨hx, hb, hml, hown, hts⟩ (c_X2_inRings l dC dI ad cI cZ hI 2 (Nat.le_refl _) g  v5 g5 e5) ⟨va_cnB 0 hts gX6_rings_X2_inRings_n175 rfl rfl rfl (ob_nl hK nw_X6_175) hi_X2 hd_X2_inRings (ob_R (Nat.le_trans (by decide) hd) (by decide)), hin_X2_inRings, hse_X2_inRings⟩ (ob_preV hK hM (q := 24) shX_24 rfl) rfl rfl hl.1 rfl (lv_room (Nat.le_of_ble_eq_true rfl)) dX6_rings_20 ⟨Nat.le_refl _, Nat.le_refl _⟩) hS (fun H locs hM hS => ?_)
      refine lv_goto (tgt := 33) hx hb dX6_rings_23 (by decide) ?_
      exact ob_iret hx hb hr hlocks hM hS (v := v5) rfl hf dX6_rings_33
  · rw [if_pos c2] at hf
    refine lv_bipush (v := (-2)) hx hb dX6_rings_9 (by decide) ?_
    exact ob_iret hx hb hr hlocks hM hS (v := (-2)) rfl hf dX6_rings_11
set_option maxHeartbeats 4000000 in
set_option maxRecDepth 100000 in
theorem c_X2_isSameBook (l : Launch) (dC : Nat → ClassId) (dI : Nat → Nat → Nat) (ad : Nat → Nat) (cI cZ : ClassId) (hI : ob_inj shX ad) (d : Nat) (hd : 2 ≤ d) (g : Mm) (r : Int32) (hf : f_X2_isSameBook g = some r) : ob_Mi l yX2_isSameBook wsX2_isSameBook d (dC, dI) vwCl shX ad cI cZ nwX [.ref (ad 24)] g r g := by
  refine ob_ofW (cc := cX2_isSameBook) (maxL := 2) (ret := (some .boolean)) (by decide) rfl ?_
  intro p e s m args below meth c ha hx hb hr hml hts hown hlocks hM0 hK hS0
  have hown : s.vm.findClass RX2 = some m.cls := hown
  have in_own : ∀ w ∈ wsX20, w ∈ wsX2_isSameBook := fun w h => (List.mem_cons_of_mem _ (List.mem_append_left _ (List.mem_append_right _ h)))
  have hf_21 := hts (.fieldLink RX2 21 "OneWorse$Order" "arranged" "[I") (List.mem_cons_of_mem _ (List.mem_append_left _ (List.mem_append_left _ (List.mem_of_getElem? (i := 0) rfl))))
  have hi_X6 := hts (.initialized RX6) (List.mem_cons_of_mem _ (List.mem_append_left _ (List.mem_append_left _ (List.mem_of_getElem? (i := 3) rfl))))
  have hst_X6_at := hts (.static yX6_at) (List.mem_cons_of_mem _ (List.mem_append_left _ (List.mem_append_left _ (List.mem_of_getElem? (i := 2) rfl))))
  have hf_28 := hts (.fieldLink RX2 28 "OneWorse$Order" "town" "LOneWorse$Town;") (List.mem_cons_of_mem _ (List.mem_append_left _ (List.mem_append_left _ (List.mem_of_getElem? (i := 1) rfl))))
  have hi_X4 := hts (.initialized RX4) (List.mem_cons_of_mem _ (List.mem_append_left _ (List.mem_append_left _ (List.mem_of_getElem? (i := 6) rfl))))
  have hin_X4_worseThan := hts (.instanceMethod yX4_worseThan) (List.mem_cons_of_mem _ (List.mem_append_left _ (List.mem_append_left _ (List.mem_of_getElem? (i := 5) rfl))))
  have hse_X4_worseThan := hts (.selects RX4 yX4_worseThan yX4_worseThan) (List.mem_cons_of_mem _ (List.mem_append_left _ (List.mem_append_left _ (List.mem_of_getElem? (i := 7) rfl))))
  have w_2 : ∀ (n : Nat), ∀ (x1 : Int32) (H : Heap) (locs : List Loc), va_P (dC, dI) vwCl (ob_ws shX ad cI cZ g) H → va_S (ob_A shX ad) s.heap H locs → ∀ (ls : Array Slot), lv_has ls 2 [(0, .ref (ad 24)), (1, .int x1)] → f_X2_isSameBook_L2 g n x1 = some r → W p l e (rmN d) s m args below meth c H locs 0 0 (MQ below (ob_Qi (dC, dI) vwCl shX ad cI cZ r g) args s 0 0 (ob_A shX ad)) (F0 m 2 ls []) := by
    intro n
    induction n with
    | zero =>
      intro x1 H locs hM hS ls hl hf
      cases hf
    | succ n ih =>
      intro x1 H locs hM hS ls hl hf
      unfold f_X2_isSameBook_L2 at hf
      refine lv_iload_n hx hb dX2_isSameBook_2 rfl (lv_at hl 1 rfl) ?_
      refine lv_bipush (v := 10) hx hb dX2_isSameBook_3 (by decide) ?_
      refine lv_icmp_ge (tgt := 35) hx hb dX2_isSameBook_5 (by decide) (fun c1 => ?_) (fun c1 => ?_)
      · rw [if_pos c1] at hf
        refine lv_iconst (v := 1) hx hb dX2_isSameBook_35 (by decide) ?_
        exact ob_iretR hx hb hr hlocks hM hS (v := 1) rfl hf dX2_isSameBook_36
      · rw [if_neg c1] at hf
        refine lv_aload_n hx hb dX2_isSameBook_8 rfl (lv_at hl 0 rfl) ?_
        refine ob_gr (j := 28) hx hb hts in_own hown hK hM (q := 24) shX_24 (C := RX2) (T := TX2) (N := 6) rfl 4 (by decide) hf_21 rfl dX2_isSameBook_9 ?_
        refine lv_iload_n hx hb dX2_isSameBook_12 rfl (lv_at hl 1 rfl) ?_
        obtain ⟨v2, e2, hf⟩ := ob_e1 hf
        refine ob_calli (va_runSN (As := [.ref (ad 28), .int x1]) (rest := []) ⟨hx, hb, hml, hown, hts⟩ (c_X6_at l dC dI ad cI cZ hI 0 (Nat.le_refl _) g 28 10 shX_28 x1  v2 e2) ⟨va_cnB 2 hts gX2_isSameBook_X6_at_n42 rfl rfl rfl (ob_nl hK nw_X2_42) hi_X6 hd_X6_at (ob_R (Nat.le_trans (by decide) hd) (by decide)), hst_X6_at, trivial⟩ (ob_preS hK hM) rfl rfl hl.1 rfl (lv_room (Nat.le_of_ble_eq_true rfl)) dX2_isSameBook_13 ⟨Nat.le_refl _, Nat.le_refl _⟩) hS (fun H locs hM hS => ?_)
        refine lv_aload_n hx hb dX2_isSameBook_16 rfl (lv_at hl 0 rfl) ?_
        refine ob_gr (j := 2) hx hb hts in_own hown hK hM (q := 24) shX_24 (C := RX2) (T := TX2) (N := 6) rfl 0 (by decide) hf_28 rfl dX2_isSameBook_17 ?_
        refine lv_iload_n hx hb dX2_isSameBook_20 rfl (lv_at hl 1 rfl) ?_
        obtain ⟨v3, e3, hf⟩ := ob_e1 hf
        refine ob_calli (va_runVN (As := [.int x1]) (rest := [.int v2]) ⟨hx, hb, hml, hown, hts⟩ (c_X4_worseThan l dC dI ad cI cZ hI 1 (Nat.le_refl _) 2 isTown_2 g x1  v3 e3) ⟨va_cnB 1 hts gX2_isSameBook_X4_worseThan_n32 rfl rfl rfl (ob_nl hK nw_X2_32) hi_X4 hd_X4_worseThan (ob_R (Nat.le_trans (by decide) hd) (by decide)), hin_X4_worseThan, hse_X4_worseThan⟩ (ob_preV hK hM (q := 2) shX_2 rfl) rfl rfl hl.1 rfl (lv_room (Nat.le_of_ble_eq_true rfl)) dX2_isSameBook_21 ⟨Nat.le_refl _, Nat.le_refl _⟩) hS (fun H locs hM hS => ?_)
        refine lv_icmp_eq (tgt := 29) hx hb dX2_isSameBook_24 (by decide) (fun c4 => ?_) (fun c4 => ?_)
        · rw [if_pos c4] at hf
          refine lv_iinc (v := (x1 + 1)) (lv' := [(1, .int (x1 + 1)), (0, .ref (ad 24))]) hx hb dX2_isSameBook_29 hl (k := 1) rfl rfl (by decide) rfl (fun ls hl => ?_)
          refine lv_goto (tgt := 2) hx hb dX2_isSameBook_32 (by decide) ?_
          exact ih (x1 + 1) _ _ hM hS _ (lv_sub hl [1, 0] rfl) hf
        · rw [if_neg c4] at hf
          refine lv_iconst (v := 0) hx hb dX2_isSameBook_27 (by decide) ?_
          exact ob_iretR hx hb hr hlocks hM hS (v := 0) rfl hf dX2_isSameBook_28
  subst ha
  have hl := lv_entry ([.ref (ad 24)]) (n := 2) (Nat.le_of_ble_eq_true rfl)
  rw [lg_entry_eq]
  generalize (lg_sl ([.ref (ad 24)]) ++ List.replicate (2 - (lg_sl ([.ref (ad 24)])).length) Slot.unset).toArray = ls at hl ⊢
  have hl : lv_has ls 2 [(0, .ref (ad 24))] := hl
  have hM := hM0
  have hS := hS0
  unfold f_X2_isSameBook at hf
  refine lv_iconst (v := 0) hx hb dX2_isSameBook_0 (by decide) ?_
  refine lv_istore_n (lv' := [(1, .int 0), (0, .ref (ad 24))]) hx hb dX2_isSameBook_1 rfl hl (by decide) rfl (fun ls hl => ?_)
  exact w_2 FU 0 _ _ hM hS _ (lv_sub hl [1, 0] rfl) hf
set_option maxHeartbeats 4000000 in
set_option maxRecDepth 100000 in
theorem c_X2_backWith (l : Launch) (dC : Nat → ClassId) (dI : Nat → Nat → Nat) (ad : Nat → Nat) (cI cZ : ClassId) (hI : ob_inj shX ad) (d : Nat) (hd : 2 ≤ d) (g : Mm) (x1 x2 : Int32) (r : Int32) (hf : f_X2_backWith g x1 x2 = some r) : ob_Mi l yX2_backWith wsX2_backWith d (dC, dI) vwCl shX ad cI cZ nwX [.ref (ad 24), .int x1, .int x2] g r g := by
  refine ob_ofW (cc := cX2_backWith) (maxL := 3) (ret := (some .int)) (by decide) rfl ?_
  intro p e s m args below meth c ha hx hb hr hml hts hown hlocks hM0 hK hS0
  have hown : s.vm.findClass RX2 = some m.cls := hown
  have in_own : ∀ w ∈ wsX20, w ∈ wsX2_backWith := fun w h => (List.mem_cons_of_mem _ (List.mem_append_left _ (List.mem_append_right _ h)))
  have hf_28 := hts (.fieldLink RX2 28 "OneWorse$Order" "town" "LOneWorse$Town;") (List.mem_cons_of_mem _ (List.mem_append_left _ (List.mem_append_left _ (List.mem_of_getElem? (i := 0) rfl))))
  have hi_X4 := hts (.initialized RX4) (List.mem_cons_of_mem _ (List.mem_append_left _ (List.mem_append_left _ (List.mem_of_getElem? (i := 3) rfl))))
  have hin_X4_worseThan := hts (.instanceMethod yX4_worseThan) (List.mem_cons_of_mem _ (List.mem_append_left _ (List.mem_append_left _ (List.mem_of_getElem? (i := 2) rfl))))
  have hse_X4_worseThan := hts (.selects RX4 yX4_worseThan yX4_worseThan) (List.mem_cons_of_mem _ (List.mem_append_left _ (List.mem_append_left _ (List.mem_of_getElem? (i := 4) rfl))))
  have hf_15 := hts (.fieldLink RX2 15 "OneWorse$Order" "back" "[I") (List.mem_cons_of_mem _ (List.mem_append_left _ (List.mem_append_left _ (List.mem_of_getElem? (i := 1) rfl))))
  have hi_X6 := hts (.initialized RX6) (List.mem_cons_of_mem _ (List.mem_append_left _ (List.mem_append_left _ (List.mem_of_getElem? (i := 8) rfl))))
  have hst_X6_at := hts (.static yX6_at) (List.mem_cons_of_mem _ (List.mem_append_left _ (List.mem_append_left _ (List.mem_of_getElem? (i := 7) rfl))))
  subst ha
  have hl := lv_entry ([.ref (ad 24), .int x1, .int x2]) (n := 3) (Nat.le_of_ble_eq_true rfl)
  rw [lg_entry_eq]
  generalize (lg_sl ([.ref (ad 24), .int x1, .int x2]) ++ List.replicate (3 - (lg_sl ([.ref (ad 24), .int x1, .int x2])).length) Slot.unset).toArray = ls at hl ⊢
  have hl : lv_has ls 3 [(0, .ref (ad 24)), (1, .int x1), (2, .int x2)] := hl
  have hM := hM0
  have hS := hS0
  unfold f_X2_backWith at hf
  refine lv_aload_n hx hb dX2_backWith_0 rfl (lv_at hl 0 rfl) ?_
  refine ob_gr (j := 2) hx hb hts in_own hown hK hM (q := 24) shX_24 (C := RX2) (T := TX2) (N := 6) rfl 0 (by decide) hf_28 rfl dX2_backWith_1 ?_
  refine lv_iload_n hx hb dX2_backWith_4 rfl (lv_at hl 2 rfl) ?_
  obtain ⟨v1, e1, hf⟩ := ob_e1 hf
  refine ob_calli (va_runVN (As := [.int x2]) (rest := []) ⟨hx, hb, hml, hown, hts⟩ (c_X4_worseThan l dC dI ad cI cZ hI 1 (Nat.le_refl _) 2 isTown_2 g x2  v1 e1) ⟨va_cnB 1 hts gX2_backWith_X4_worseThan_n32 rfl rfl rfl (ob_nl hK nw_X2_32) hi_X4 hd_X4_worseThan (ob_R (Nat.le_trans (by decide) hd) (by decide)), hin_X4_worseThan, hse_X4_worseThan⟩ (ob_preV hK hM (q := 2) shX_2 rfl) rfl rfl hl.1 rfl (lv_room (Nat.le_of_ble_eq_true rfl)) dX2_backWith_5 ⟨Nat.le_refl _, Nat.le_refl _⟩) hS (fun H locs hM hS => ?_)
  refine lv_iload_n hx hb dX2_backWith_8 rfl (lv_at hl 1 rfl) ?_
  refine lv_iand hx hb dX2_backWith_9 ?_
  obtain ⟨v2, e2, hf⟩ := ob_e1 hf
  refine ob_calli (va_runS (As := [.int (v1 &&& x1)]) (rest := []) ⟨hx, hb, hml, hown, hts⟩ (c_J6_bitCount_0f7a4 l dC dI ad cI cZ hI 0 (Nat.le_refl _) g (v1 &&& x1)  v2 e2) (va_cwS 1 hts gX2_backWith_J6_bitCount_0f7a4 rfl rfl rfl hd_J6_bitCount_0f7a4 (ob_R (Nat.le_trans (by decide) hd) (by decide))) (ob_preS hK hM) rfl rfl hl.1 rfl (lv_room (Nat.le_of_ble_eq_true rfl)) dX2_backWith_10 ⟨Nat.le_refl _, Nat.le_refl _⟩) hS (fun H locs hM hS => ?_)
  refine lv_aload_n hx hb dX2_backWith_13 rfl (lv_at hl 0 rfl) ?_
  refine ob_gr (j := 26) hx hb hts in_own hown hK hM (q := 24) shX_24 (C := RX2) (T := TX2) (N := 6) rfl 2 (by decide) hf_15 rfl dX2_backWith_14 ?_
  refine lv_iload_n hx hb dX2_backWith_17 rfl (lv_at hl 1 rfl) ?_
  refine lv_iconst (v := 1) hx hb dX2_backWith_18 (by decide) ?_
  refine lv_iload_n hx hb dX2_backWith_19 rfl (lv_at hl 2 rfl) ?_
  refine lv_ishl hx hb dX2_backWith_20 ?_
  refine lv_ior hx hb dX2_backWith_21 ?_
  obtain ⟨v3, e3, hf⟩ := ob_e1 hf
  refine ob_calli (va_runSN (As := [.ref (ad 26), .int (x1 ||| ((1 : Int32) <<< (x2 &&& 31)))]) (rest := [.int v2]) ⟨hx, hb, hml, hown, hts⟩ (c_X6_at l dC dI ad cI cZ hI 0 (Nat.le_refl _) g 26 1024 shX_26 (x1 ||| ((1 : Int32) <<< (x2 &&& 31)))  v3 e3) ⟨va_cnB 2 hts gX2_backWith_X6_at_n42 rfl rfl rfl (ob_nl hK nw_X2_42) hi_X6 hd_X6_at (ob_R (Nat.le_trans (by decide) hd) (by decide)), hst_X6_at, trivial⟩ (ob_preS hK hM) rfl rfl hl.1 rfl (lv_room (Nat.le_of_ble_eq_true rfl)) dX2_backWith_22 ⟨Nat.le_refl _, Nat.le_refl _⟩) hS (fun H locs hM hS => ?_)
  refine lv_iadd hx hb dX2_backWith_25 ?_
  exact ob_iretR hx hb hr hlocks hM hS (v := (v2 + v3)) rfl hf dX2_backWith_26
set_option maxHeartbeats 4000000 in
set_option maxRecDepth 100000 in
theorem c_X2_nextAfter (l : Launch) (dC : Nat → ClassId) (dI : Nat → Nat → Nat) (ad : Nat → Nat) (cI cZ : ClassId) (hI : ob_inj shX ad) (d : Nat) (hd : 3 ≤ d) (g : Mm) (x1 : Int32) (r : Int32) (hf : f_X2_nextAfter g x1 = some r) : ob_Mi l yX2_nextAfter wsX2_nextAfter d (dC, dI) vwCl shX ad cI cZ nwX [.ref (ad 24), .int x1] g r g := by
  refine ob_ofW (cc := cX2_nextAfter) (maxL := 6) (ret := (some .int)) (by decide) rfl ?_
  intro p e s m args below meth c ha hx hb hr hml hts hown hlocks hM0 hK hS0
  have hown : s.vm.findClass RX2 = some m.cls := hown
  have hi_X6 := hts (.initialized RX6) (List.mem_cons_of_mem _ (List.mem_append_left _ (List.mem_append_left _ (List.mem_of_getElem? (i := 1) rfl))))
  have hst_X6_has := hts (.static yX6_has) (List.mem_cons_of_mem _ (List.mem_append_left _ (List.mem_append_left _ (List.mem_of_getElem? (i := 0) rfl))))
  have w_49 : ∀ (k9 : Int32 → Int32 → Int32 → Int32 → Option (Int32)) (hk9 : ∀ (x1 x2 x3 x4 : Int32) (H : Heap) (locs : List Loc), va_P (dC, dI) vwCl (ob_ws shX ad cI cZ g) H → va_S (ob_A shX ad) s.heap H locs → ∀ (ls : Array Slot), lv_has ls 6 [(0, .ref (ad 24)), (1, .int x1), (2, .int x2), (3, .int x3), (4, .int x4)] → k9 x1 x2 x3 x4 = some r → W p l e (rmN d) s m args below meth c H locs 0 0 (MQ below (ob_Qi (dC, dI) vwCl shX ad cI cZ r g) args s 0 0 (ob_A shX ad)) (F0 m 9 ls [])), ∀ (x1 x2 x3 x4 : Int32) (H : Heap) (locs : List Loc), va_P (dC, dI) vwCl (ob_ws shX ad cI cZ g) H → va_S (ob_A shX ad) s.heap H locs → ∀ (ls : Array Slot), lv_has ls 6 [(0, .ref (ad 24)), (1, .int x1), (2, .int x2), (3, .int x3), (4, .int x4)] → f_X2_nextAfter_J49 g k9 x1 x2 x3 x4 = some r → W p l e (rmN d) s m args below meth c H locs 0 0 (MQ below (ob_Qi (dC, dI) vwCl shX ad cI cZ r g) args s 0 0 (ob_A shX ad)) (F0 m 49 ls []) := by
    intro k9 hk9 x1 x2 x3 x4 H locs hM hS ls hl hf
    unfold f_X2_nextAfter_J49 at hf
    refine lv_iinc (v := (x4 + 1)) (lv' := [(4, .int (x4 + 1)), (0, .ref (ad 24)), (1, .int x1), (2, .int x2), (3, .int x3)]) hx hb dX2_nextAfter_49 hl (k := 4) rfl rfl (by decide) rfl (fun ls hl => ?_)
    refine lv_goto (tgt := 9) hx hb dX2_nextAfter_52 (by decide) ?_
    exact hk9 x1 x2 x3 (x4 + 1) _ _ hM hS _ (lv_sub hl [1, 2, 3, 4, 0] rfl) hf
  have w_9 : ∀ (n : Nat), ∀ (x1 x2 x3 x4 : Int32) (H : Heap) (locs : List Loc), va_P (dC, dI) vwCl (ob_ws shX ad cI cZ g) H → va_S (ob_A shX ad) s.heap H locs → ∀ (ls : Array Slot), lv_has ls 6 [(0, .ref (ad 24)), (1, .int x1), (2, .int x2), (3, .int x3), (4, .int x4)] → f_X2_nextAfter_L9 g n x1 x2 x3 x4 = some r → W p l e (rmN d) s m args below meth c H locs 0 0 (MQ below (ob_Qi (dC, dI) vwCl shX ad cI cZ r g) args s 0 0 (ob_A shX ad)) (F0 m 9 ls []) := by
    intro n
    induction n with
    | zero =>
      intro x1 x2 x3 x4 H locs hM hS ls hl hf
      cases hf
    | succ n ih =>
      intro x1 x2 x3 x4 H locs hM hS ls hl hf
      unfold f_X2_nextAfter_L9 at hf
      refine lv_iload hx hb dX2_nextAfter_9 (lv_at hl 4 rfl) ?_
      refine lv_bipush (v := 10) hx hb dX2_nextAfter_11 (by decide) ?_
      refine lv_icmp_ge (tgt := 55) hx hb dX2_nextAfter_13 (by decide) (fun c1 => ?_) (fun c1 => ?_)
      · rw [if_pos c1] at hf
        refine lv_iload_n hx hb dX2_nextAfter_55 rfl (lv_at hl 3 rfl) ?_
        exact ob_iretR hx hb hr hlocks hM hS (v := x3) rfl hf dX2_nextAfter_56
      · rw [if_neg c1] at hf
        refine lv_iload_n hx hb dX2_nextAfter_16 rfl (lv_at hl 1 rfl) ?_
        refine lv_iload hx hb dX2_nextAfter_17 (lv_at hl 4 rfl) ?_
        obtain ⟨v2, e2, hf⟩ := ob_e1 hf
        refine ob_calli (va_runSN (As := [.int x1, .int x4]) (rest := []) ⟨hx, hb, hml, hown, hts⟩ (c_X6_has l dC dI ad cI cZ hI 0 (Nat.le_refl _) g x1 x4  v2 e2) ⟨va_cnB 2 hts gX2_nextAfter_X6_has_n46 rfl rfl rfl (ob_nl hK nw_X2_46) hi_X6 hd_X6_has (ob_R (Nat.le_trans (by decide) hd) (by decide)), hst_X6_has, trivial⟩ (ob_preS hK hM) rfl rfl hl.1 rfl (lv_room (Nat.le_of_ble_eq_true rfl)) dX2_nextAfter_19 ⟨Nat.le_refl _, Nat.le_refl _⟩) hS (fun H locs hM hS => ?_)
        refine lv_if_eq (tgt := 28) hx hb dX2_nextAfter_22 (by decide) (fun c3 => ?_) (fun c3 => ?_)
        · rw [if_pos c3] at hf
          refine lv_aload_n hx hb dX2_nextAfter_28 rfl (lv_at hl 0 rfl) ?_
          refine lv_iload_n hx hb dX2_nextAfter_29 rfl (lv_at hl 1 rfl) ?_
          refine lv_iload hx hb dX2_nextAfter_30 (lv_at hl 4 rfl) ?_
          obtain ⟨v4, e4, hf⟩ := ob_e1 hf
          refine ob_calli (va_runV (As := [.int x1, .int x4]) (rest := []) ⟨hx, hb, hml, hown, hts⟩ (c_X2_backWith l dC dI ad cI cZ hI 2 (Nat.le_refl _) g x1 x4  v4 e4) (cwV 2 hts gX2_nextAfter_X2_backWith rfl rfl rfl ⟨rfl, hd_X2_backWith⟩ (ob_R (Nat.le_trans (by decide) hd) (by decide))) (ob_preV hK hM (q := 24) shX_24 rfl) rfl rfl hl.1 rfl (lv_room (Nat.le_of_ble_eq_true rfl)) dX2_nextAfter_32 ⟨Nat.le_refl _, Nat.le_refl _⟩) hS (fun H locs hM hS => ?_)
          refine lv_istore (lv' := [(5, .int v4), (0, .ref (ad 24)), (1, .int x1), (2, .int x2), (3, .int x3), (4, .int x4)]) hx hb dX2_nextAfter_35 hl (by decide) rfl (fun ls hl => ?_)
          refine lv_iload hx hb dX2_nextAfter_37 (lv_at hl 0 rfl) ?_
          refine lv_iload_n hx hb dX2_nextAfter_39 rfl (lv_at hl 3 rfl) ?_
          refine lv_icmp_ge (tgt := 49) hx hb dX2_nextAfter_40 (by decide) (fun c5 => ?_) (fun c5 => ?_)
          · rw [if_pos c5] at hf
            exact w_49 (f_X2_nextAfter_L9 g n) ih x1 x2 x3 x4 _ _ hM hS _ (lv_sub hl [1, 2, 3, 4, 5] rfl) hf
          · rw [if_neg c5] at hf
            refine lv_iload hx hb dX2_nextAfter_43 (lv_at hl 0 rfl) ?_
            refine lv_istore_n (lv' := [(2, .int v4), (5, .int v4), (0, .ref (ad 24)), (1, .int x1), (3, .int x3), (4, .int x4)]) hx hb dX2_nextAfter_45 rfl hl (by decide) rfl (fun ls hl => ?_)
            refine lv_iload hx hb dX2_nextAfter_46 (lv_at hl 5 rfl) ?_
            refine lv_istore_n (lv' := [(3, .int x4), (2, .int v4), (5, .int v4), (0, .ref (ad 24)), (1, .int x1), (4, .int x4)]) hx hb dX2_nextAfter_48 rfl hl (by decide) rfl (fun ls hl => ?_)
            exact w_49 (f_X2_nextAfter_L9 g n) ih x1 v4 x4 x4 _ _ hM hS _ (lv_sub hl [3, 4, 1, 0, 5] rfl) hf
        · rw [if_neg c3] at hf
          refine lv_goto (tgt := 49) hx hb dX2_nextAfter_25 (by decide) ?_
          exact w_49 (f_X2_nextAfter_L9 g n) ih x1 x2 x3 x4 _ _ hM hS _ (lv_sub hl [0, 1, 2, 3, 4] rfl) hf
  subst ha
  have hl := lv_entry ([.ref (ad 24), .int x1]) (n := 6) (Nat.le_of_ble_eq_true rfl)
  rw [lg_entry_eq]
  generalize (lg_sl ([.ref (ad 24), .int x1]) ++ List.replicate (6 - (lg_sl ([.ref (ad 24), .int x1])).length) Slot.unset).toArray = ls at hl ⊢
  have hl : lv_has ls 6 [(0, .ref (ad 24)), (1, .int x1)] := hl
  have hM := hM0
  have hS := hS0
  unfold f_X2_nextAfter at hf
  refine lv_sipush (v := 1000) hx hb dX2_nextAfter_0 (by decide) ?_
  refine lv_istore_n (lv' := [(2, .int 1000), (0, .ref (ad 24)), (1, .int x1)]) hx hb dX2_nextAfter_3 rfl hl (by decide) rfl (fun ls hl => ?_)
  refine lv_iconst (v := 0) hx hb dX2_nextAfter_4 (by decide) ?_
  refine lv_istore_n (lv' := [(3, .int 0), (2, .int 1000), (0, .ref (ad 24)), (1, .int x1)]) hx hb dX2_nextAfter_5 rfl hl (by decide) rfl (fun ls hl => ?_)
  refine lv_iconst (v := 0) hx hb dX2_nextAfter_6 (by decide) ?_
  refine lv_istore (lv' := [(4, .int 0), (3, .int 0), (2, .int 1000), (0, .ref (ad 24)), (1, .int x1)]) hx hb dX2_nextAfter_7 hl (by decide) rfl (fun ls hl => ?_)
  exact w_9 FU x1 1000 0 0 _ _ hM hS _ (lv_sub hl [3, 4, 2, 1, 0] rfl) hf
