set_option maxHeartbeats 4000000 in
set_option maxRecDepth 100000 in
theorem c_X2_arrange (l : Launch) (dC : Nat → ClassId) (dI : Nat → Nat → Nat) (ad : Nat → Nat) (cI cZ : ClassId) (hI : ob_inj shX ad) (d : Nat) (hd : 4 ≤ d) (g : Mm) (t : Mm) (hf : f_X2_arrange g = some t) : ob_Mv l yX2_arrange wsX2_arrange d (dC, dI) vwCl shX ad cI cZ nwX [.ref (ad 24)] g t := by
  refine ob_ofW (cc := cX2_arrange) (maxL := 4) (ret := none) (by decide) rfl ?_
  intro p e s m args below meth c ha hx hb hr hml hts hown hlocks hM0 hK hS0
  have hown : s.vm.findClass RX2 = some m.cls := hown
  have in_own : ∀ w ∈ wsX20, w ∈ wsX2_arrange := fun w h => (List.mem_cons_of_mem _ (List.mem_append_left _ (List.mem_append_right _ h)))
  have hf_24 := hts (.fieldLink RX2 24 "OneWorse$Order" "isArranged" "Z") (List.mem_cons_of_mem _ (List.mem_append_left _ (List.mem_append_left _ (List.mem_append_left _ (List.mem_of_getElem? (i := 0) rfl)))))
  have hf_15 := hts (.fieldLink RX2 15 "OneWorse$Order" "back" "[I") (List.mem_cons_of_mem _ (List.mem_append_left _ (List.mem_append_left _ (List.mem_append_left _ (List.mem_of_getElem? (i := 1) rfl)))))
  have hi_X6 := hts (.initialized RX6) (List.mem_cons_of_mem _ (List.mem_append_left _ (List.mem_append_left _ (List.mem_append_left _ (List.mem_of_getElem? (i := 11) rfl)))))
  have hst_X6_store := hts (.static yX6_store) (List.mem_cons_of_mem _ (List.mem_append_left _ (List.mem_append_left _ (List.mem_append_left _ (List.mem_of_getElem? (i := 18) rfl)))))
  have hf_18 := hts (.fieldLink RX2 18 "OneWorse$Order" "rank" "[I") (List.mem_cons_of_mem _ (List.mem_append_left _ (List.mem_append_left _ (List.mem_append_left _ (List.mem_of_getElem? (i := 2) rfl)))))
  have hf_21 := hts (.fieldLink RX2 21 "OneWorse$Order" "arranged" "[I") (List.mem_cons_of_mem _ (List.mem_append_left _ (List.mem_append_left _ (List.mem_append_left _ (List.mem_of_getElem? (i := 3) rfl)))))
  have hf_28 := hts (.fieldLink RX2 28 "OneWorse$Order" "town" "LOneWorse$Town;") (List.mem_cons_of_mem _ (List.mem_append_left _ (List.mem_append_left _ (List.mem_append_left _ (List.mem_of_getElem? (i := 4) rfl)))))
  have hi_X4 := hts (.initialized RX4) (List.mem_cons_of_mem _ (List.mem_append_left _ (List.mem_append_left _ (List.mem_append_left _ (List.mem_of_getElem? (i := 14) rfl)))))
  have hin_X4_worseThan := hts (.instanceMethod yX4_worseThan) (List.mem_cons_of_mem _ (List.mem_append_left _ (List.mem_append_left _ (List.mem_append_left _ (List.mem_of_getElem? (i := 13) rfl)))))
  have hse_X4_worseThan := hts (.selects RX4 yX4_worseThan yX4_worseThan) (List.mem_cons_of_mem _ (List.mem_append_left _ (List.mem_append_left _ (List.mem_append_left _ (List.mem_of_getElem? (i := 15) rfl)))))
  have w_30 : ∀ (k62 : Mm → Int32 → Int32 → Option (Mm)) (hk62 : ∀ (g : Mm) (x1 x2 : Int32) (H : Heap) (locs : List Loc), va_P (dC, dI) vwCl (ob_ws shX ad cI cZ g) H → va_S (ob_A shX ad) s.heap H locs → ∀ (ls : Array Slot), lv_has ls 4 [(0, .ref (ad 24)), (1, .int x1), (2, .int x2)] → k62 g x1 x2 = some t → W p l e (rmN d) s m args below meth c H locs 0 0 (MQ below (ob_Qv (dC, dI) vwCl shX ad cI cZ t) args s 0 0 (ob_A shX ad)) (F0 m 62 ls [])) (n : Nat), ∀ (g : Mm) (x1 : Int32) (H : Heap) (locs : List Loc), va_P (dC, dI) vwCl (ob_ws shX ad cI cZ g) H → va_S (ob_A shX ad) s.heap H locs → ∀ (ls : Array Slot), lv_has ls 4 [(0, .ref (ad 24)), (1, .int x1)] → f_X2_arrange_L30 k62 n g x1 = some t → W p l e (rmN d) s m args below meth c H locs 0 0 (MQ below (ob_Qv (dC, dI) vwCl shX ad cI cZ t) args s 0 0 (ob_A shX ad)) (F0 m 30 ls []) := by
    intro k62 hk62 n
    induction n with
    | zero =>
      intro g x1 H locs hM hS ls hl hf
      cases hf
    | succ n ih =>
      intro g x1 H locs hM hS ls hl hf
      unfold f_X2_arrange_L30 at hf
      refine lv_iload_n hx hb dX2_arrange_30 rfl (lv_at hl 1 rfl) ?_
      refine lv_if_lt (tgt := 58) hx hb dX2_arrange_31 (by decide) (fun c5 => ?_) (fun c5 => ?_)
      · rw [if_pos c5] at hf
        refine lv_iconst (v := 0) hx hb dX2_arrange_58 (by decide) ?_
        refine lv_istore_n (lv' := [(1, .int 0), (0, .ref (ad 24))]) hx hb dX2_arrange_59 rfl hl (by decide) rfl (fun ls hl => ?_)
        refine lv_iconst (v := 0) hx hb dX2_arrange_60 (by decide) ?_
        refine lv_istore_n (lv' := [(2, .int 0), (1, .int 0), (0, .ref (ad 24))]) hx hb dX2_arrange_61 rfl hl (by decide) rfl (fun ls hl => ?_)
        exact hk62 g 0 0 _ _ hM hS _ (lv_sub hl [2, 1, 0] rfl) hf
      · rw [if_neg c5] at hf
        refine lv_aload_n hx hb dX2_arrange_34 rfl (lv_at hl 0 rfl) ?_
        refine ob_gr (j := 26) hx hb hts in_own hown hK hM (q := 24) shX_24 (C := RX2) (T := TX2) (N := 6) rfl 2 (by decide) hf_15 rfl dX2_arrange_35 ?_
        refine lv_iload_n hx hb dX2_arrange_38 rfl (lv_at hl 1 rfl) ?_
        refine lv_aload_n hx hb dX2_arrange_39 rfl (lv_at hl 0 rfl) ?_
        refine lv_iload_n hx hb dX2_arrange_40 rfl (lv_at hl 1 rfl) ?_
        refine lv_aload_n hx hb dX2_arrange_41 rfl (lv_at hl 0 rfl) ?_
        refine lv_iload_n hx hb dX2_arrange_42 rfl (lv_at hl 1 rfl) ?_
        obtain ⟨v6, e6, hf⟩ := ob_e1 hf
        refine ob_calli (va_runV (As := [.int x1]) (rest := [.int x1, .ref (ad 24), .int x1, .ref (ad 26)]) ⟨hx, hb, hml, hown, hts⟩ (c_X2_nextAfter l dC dI ad cI cZ hI 3 (Nat.le_refl _) g x1  v6 e6) (cwV 1 hts gX2_arrange_X2_nextAfter rfl rfl rfl ⟨rfl, hd_X2_nextAfter⟩ (ob_R (Nat.le_trans (by decide) hd) (by decide))) (ob_preV hK hM (q := 24) shX_24 rfl) rfl rfl hl.1 rfl (lv_room (Nat.le_of_ble_eq_true rfl)) dX2_arrange_43 ⟨Nat.le_refl _, Nat.le_refl _⟩) hS (fun H locs hM hS => ?_)
        obtain ⟨v7, e7, hf⟩ := ob_e1 hf
        refine ob_calli (va_runV (As := [.int x1, .int v6]) (rest := [.int x1, .ref (ad 26)]) ⟨hx, hb, hml, hown, hts⟩ (c_X2_backWith l dC dI ad cI cZ hI 2 (Nat.le_refl _) g x1 v6  v7 e7) (cwV 2 hts gX2_arrange_X2_backWith rfl rfl rfl ⟨rfl, hd_X2_backWith⟩ (ob_R (Nat.le_trans (by decide) hd) (by decide))) (ob_preV hK hM (q := 24) shX_24 rfl) rfl rfl hl.1 rfl (lv_room (Nat.le_of_ble_eq_true rfl)) dX2_arrange_46 ⟨Nat.le_refl _, Nat.le_refl _⟩) hS (fun H locs hM hS => ?_)
        obtain ⟨g8, e8, hf⟩ := ob_e1 hf
        refine ob_callv (va_runSN (As := [.ref (ad 26), .int x1, .int v7]) (rest := []) ⟨hx, hb, hml, hown, hts⟩ (c_X6_store l dC dI ad cI cZ hI 0 (Nat.le_refl _) g 26 1024 shX_26 x1 v7  g8 e8) ⟨va_cnB 3 hts gX2_arrange_X6_store_n38 rfl rfl rfl (ob_nl hK nw_X2_38) hi_X6 hd_X6_store (ob_R (Nat.le_trans (by decide) hd) (by decide)), hst_X6_store, trivial⟩ (ob_preS hK hM) rfl rfl hl.1 rfl (lv_room (Nat.le_of_ble_eq_true rfl)) dX2_arrange_49 ⟨Nat.le_refl _, Nat.le_refl _⟩) hS (fun H locs hM hS => ?_)
        refine lv_iinc (v := (x1 + (-1))) (lv' := [(1, .int (x1 + (-1))), (0, .ref (ad 24))]) hx hb dX2_arrange_52 hl (k := 1) rfl rfl (by decide) rfl (fun ls hl => ?_)
        refine lv_goto (tgt := 30) hx hb dX2_arrange_55 (by decide) ?_
        exact ih g8 (x1 + (-1)) _ _ hM hS _ (lv_sub hl [1, 0] rfl) hf
  have w_62 : ∀ (k97 : Mm → Int32 → Option (Mm)) (hk97 : ∀ (g : Mm) (x2 : Int32) (H : Heap) (locs : List Loc), va_P (dC, dI) vwCl (ob_ws shX ad cI cZ g) H → va_S (ob_A shX ad) s.heap H locs → ∀ (ls : Array Slot), lv_has ls 4 [(0, .ref (ad 24)), (2, .int x2)] → k97 g x2 = some t → W p l e (rmN d) s m args below meth c H locs 0 0 (MQ below (ob_Qv (dC, dI) vwCl shX ad cI cZ t) args s 0 0 (ob_A shX ad)) (F0 m 97 ls [])) (n : Nat), ∀ (g : Mm) (x1 x2 : Int32) (H : Heap) (locs : List Loc), va_P (dC, dI) vwCl (ob_ws shX ad cI cZ g) H → va_S (ob_A shX ad) s.heap H locs → ∀ (ls : Array Slot), lv_has ls 4 [(0, .ref (ad 24)), (1, .int x1), (2, .int x2)] → f_X2_arrange_L62 k97 n g x1 x2 = some t → W p l e (rmN d) s m args below meth c H locs 0 0 (MQ below (ob_Qv (dC, dI) vwCl shX ad cI cZ t) args s 0 0 (ob_A shX ad)) (F0 m 62 ls []) := by
    intro k97 hk97 n
    induction n with
    | zero =>
      intro g x1 x2 H locs hM hS ls hl hf
      cases hf
    | succ n ih =>
      intro g x1 x2 H locs hM hS ls hl hf
      unfold f_X2_arrange_L62 at hf
      refine lv_iload_n hx hb dX2_arrange_62 rfl (lv_at hl 2 rfl) ?_
      refine lv_bipush (v := 10) hx hb dX2_arrange_63 (by decide) ?_
      refine lv_icmp_ge (tgt := 95) hx hb dX2_arrange_65 (by decide) (fun c9 => ?_) (fun c9 => ?_)
      · rw [if_pos c9] at hf
        refine lv_iconst (v := 0) hx hb dX2_arrange_95 (by decide) ?_
        refine lv_istore_n (lv' := [(2, .int 0), (0, .ref (ad 24)), (1, .int x1)]) hx hb dX2_arrange_96 rfl hl (by decide) rfl (fun ls hl => ?_)
        exact hk97 g 0 _ _ hM hS _ (lv_sub hl [1, 0] rfl) hf
      · rw [if_neg c9] at hf
        refine lv_aload_n hx hb dX2_arrange_68 rfl (lv_at hl 0 rfl) ?_
        refine lv_iload_n hx hb dX2_arrange_69 rfl (lv_at hl 1 rfl) ?_
        obtain ⟨v10, e10, hf⟩ := ob_e1 hf
        refine ob_calli (va_runV (As := [.int x1]) (rest := []) ⟨hx, hb, hml, hown, hts⟩ (c_X2_nextAfter l dC dI ad cI cZ hI 3 (Nat.le_refl _) g x1  v10 e10) (cwV 1 hts gX2_arrange_X2_nextAfter rfl rfl rfl ⟨rfl, hd_X2_nextAfter⟩ (ob_R (Nat.le_trans (by decide) hd) (by decide))) (ob_preV hK hM (q := 24) shX_24 rfl) rfl rfl hl.1 rfl (lv_room (Nat.le_of_ble_eq_true rfl)) dX2_arrange_70 ⟨Nat.le_refl _, Nat.le_refl _⟩) hS (fun H locs hM hS => ?_)
        refine lv_istore_n (lv' := [(3, .int v10), (0, .ref (ad 24)), (1, .int x1), (2, .int x2)]) hx hb dX2_arrange_73 rfl hl (by decide) rfl (fun ls hl => ?_)
        refine lv_aload_n hx hb dX2_arrange_74 rfl (lv_at hl 1 rfl) ?_
        refine ob_gr (j := 27) hx hb hts in_own hown hK hM (q := 24) shX_24 (C := RX2) (T := TX2) (N := 6) rfl 3 (by decide) hf_18 rfl dX2_arrange_75 ?_
        refine lv_iload_n hx hb dX2_arrange_78 rfl (lv_at hl 0 rfl) ?_
        refine lv_iload_n hx hb dX2_arrange_79 rfl (lv_at hl 3 rfl) ?_
        obtain ⟨g11, e11, hf⟩ := ob_e1 hf
        refine ob_callv (va_runSN (As := [.ref (ad 27), .int v10, .int x2]) (rest := []) ⟨hx, hb, hml, hown, hts⟩ (c_X6_store l dC dI ad cI cZ hI 0 (Nat.le_refl _) g 27 10 shX_27 v10 x2  g11 e11) ⟨va_cnB 3 hts gX2_arrange_X6_store_n38 rfl rfl rfl (ob_nl hK nw_X2_38) hi_X6 hd_X6_store (ob_R (Nat.le_trans (by decide) hd) (by decide)), hst_X6_store, trivial⟩ (ob_preS hK hM) rfl rfl hl.1 rfl (lv_room (Nat.le_of_ble_eq_true rfl)) dX2_arrange_80 ⟨Nat.le_refl _, Nat.le_refl _⟩) hS (fun H locs hM hS => ?_)
        refine lv_iload_n hx hb dX2_arrange_83 rfl (lv_at hl 2 rfl) ?_
        refine lv_iconst (v := 1) hx hb dX2_arrange_84 (by decide) ?_
        refine lv_iload_n hx hb dX2_arrange_85 rfl (lv_at hl 0 rfl) ?_
        refine lv_ishl hx hb dX2_arrange_86 ?_
        refine lv_ior hx hb dX2_arrange_87 ?_
        refine lv_istore_n (lv' := [(1, .int (x1 ||| ((1 : Int32) <<< (v10 &&& 31)))), (3, .int v10), (0, .ref (ad 24)), (2, .int x2)]) hx hb dX2_arrange_88 rfl hl (by decide) rfl (fun ls hl => ?_)
        refine lv_iinc (v := (x2 + 1)) (lv' := [(2, .int (x2 + 1)), (1, .int (x1 ||| ((1 : Int32) <<< (v10 &&& 31)))), (3, .int v10), (0, .ref (ad 24))]) hx hb dX2_arrange_89 hl (k := 3) rfl rfl (by decide) rfl (fun ls hl => ?_)
        refine lv_goto (tgt := 62) hx hb dX2_arrange_92 (by decide) ?_
        exact ih g11 (x1 ||| ((1 : Int32) <<< (v10 &&& 31))) (x2 + 1) _ _ hM hS _ (lv_sub hl [3, 1, 0] rfl) hf
  have w_97 : ∀ (n : Nat), ∀ (g : Mm) (x2 : Int32) (H : Heap) (locs : List Loc), va_P (dC, dI) vwCl (ob_ws shX ad cI cZ g) H → va_S (ob_A shX ad) s.heap H locs → ∀ (ls : Array Slot), lv_has ls 4 [(0, .ref (ad 24)), (2, .int x2)] → f_X2_arrange_L97 n g x2 = some t → W p l e (rmN d) s m args below meth c H locs 0 0 (MQ below (ob_Qv (dC, dI) vwCl shX ad cI cZ t) args s 0 0 (ob_A shX ad)) (F0 m 97 ls []) := by
    intro n
    induction n with
    | zero =>
      intro g x2 H locs hM hS ls hl hf
      cases hf
    | succ n ih =>
      intro g x2 H locs hM hS ls hl hf
      unfold f_X2_arrange_L97 at hf
      refine lv_iload_n hx hb dX2_arrange_97 rfl (lv_at hl 1 rfl) ?_
      refine lv_bipush (v := 10) hx hb dX2_arrange_98 (by decide) ?_
      refine lv_icmp_ge (tgt := 125) hx hb dX2_arrange_100 (by decide) (fun c12 => ?_) (fun c12 => ?_)
      · rw [if_pos c12] at hf
        refine lv_aload_n hx hb dX2_arrange_125 rfl (lv_at hl 0 rfl) ?_
        refine lv_iconst (v := 1) hx hb dX2_arrange_126 (by decide) ?_
        refine ob_pi hx hb hts in_own tyX2 tyX2_ok nmX2 hown hK hM hI hS (q := 24) shX_24 (C := RX2) (T := TX2) (N := 6) rfl 5 (by decide) hf_24 rfl rfl (ty := .boolean) (v := 1) (tyX2_ok 5 (by decide)) rfl rfl dX2_arrange_127 (fun H locs hM hS => ?_)
        exact ob_vret hx hb hr hlocks hM hS hf dX2_arrange_130
      · rw [if_neg c12] at hf
        refine lv_aload_n hx hb dX2_arrange_103 rfl (lv_at hl 0 rfl) ?_
        refine ob_gr (j := 28) hx hb hts in_own hown hK hM (q := 24) shX_24 (C := RX2) (T := TX2) (N := 6) rfl 4 (by decide) hf_21 rfl dX2_arrange_104 ?_
        refine lv_iload_n hx hb dX2_arrange_107 rfl (lv_at hl 1 rfl) ?_
        refine lv_aload_n hx hb dX2_arrange_108 rfl (lv_at hl 0 rfl) ?_
        refine ob_gr (j := 2) hx hb hts in_own hown hK hM (q := 24) shX_24 (C := RX2) (T := TX2) (N := 6) rfl 0 (by decide) hf_28 rfl dX2_arrange_109 ?_
        refine lv_iload_n hx hb dX2_arrange_112 rfl (lv_at hl 1 rfl) ?_
        obtain ⟨v13, e13, hf⟩ := ob_e1 hf
        refine ob_calli (va_runVN (As := [.int x2]) (rest := [.int x2, .ref (ad 28)]) ⟨hx, hb, hml, hown, hts⟩ (c_X4_worseThan l dC dI ad cI cZ hI 1 (Nat.le_refl _) 2 isTown_2 g x2  v13 e13) ⟨va_cnB 1 hts gX2_arrange_X4_worseThan_n32 rfl rfl rfl (ob_nl hK nw_X2_32) hi_X4 hd_X4_worseThan (ob_R (Nat.le_trans (by decide) hd) (by decide)), hin_X4_worseThan, hse_X4_worseThan⟩ (ob_preV hK hM (q := 2) shX_2 rfl) rfl rfl hl.1 rfl (lv_room (Nat.le_of_ble_eq_true rfl)) dX2_arrange_113 ⟨Nat.le_refl _, Nat.le_refl _⟩) hS (fun H locs hM hS => ?_)
        obtain ⟨g14, e14, hf⟩ := ob_e1 hf
        refine ob_callv (va_runSN (As := [.ref (ad 28), .int x2, .int v13]) (rest := []) ⟨hx, hb, hml, hown, hts⟩ (c_X6_store l dC dI ad cI cZ hI 0 (Nat.le_refl _) g 28 10 shX_28 x2 v13  g14 e14) ⟨va_cnB 3 hts gX2_arrange_X6_store_n38 rfl rfl rfl (ob_nl hK nw_X2_38) hi_X6 hd_X6_store (ob_R (Nat.le_trans (by decide) hd) (by decide)), hst_X6_store, trivial⟩ (ob_preS hK hM) rfl rfl hl.1 rfl (lv_room (Nat.le_of_ble_eq_true rfl)) dX2_arrange_116 ⟨Nat.le_refl _, Nat.le_refl _⟩) hS (fun H locs hM hS => ?_)
        refine lv_iinc (v := (x2 + 1)) (lv' := [(2, .int (x2 + 1)), (0, .ref (ad 24))]) hx hb dX2_arrange_119 hl (k := 1) rfl rfl (by decide) rfl (fun ls hl => ?_)
        refine lv_goto (tgt := 97) hx hb dX2_arrange_122 (by decide) ?_
        exact ih g14 (x2 + 1) _ _ hM hS _ (lv_sub hl [1, 0] rfl) hf
  have w_15 : ∀ (g : Mm) (H : Heap) (locs : List Loc), va_P (dC, dI) vwCl (ob_ws shX ad cI cZ g) H → va_S (ob_A shX ad) s.heap H locs → ∀ (ls : Array Slot), lv_has ls 4 [(0, .ref (ad 24))] → f_X2_arrange_J15 g = some t → W p l e (rmN d) s m args below meth c H locs 0 0 (MQ below (ob_Qv (dC, dI) vwCl shX ad cI cZ t) args s 0 0 (ob_A shX ad)) (F0 m 15 ls []) := by
    intro g H locs hM hS ls hl hf
    unfold f_X2_arrange_J15 at hf
    refine lv_aload_n hx hb dX2_arrange_15 rfl (lv_at hl 0 rfl) ?_
    refine ob_gr (j := 26) hx hb hts in_own hown hK hM (q := 24) shX_24 (C := RX2) (T := TX2) (N := 6) rfl 2 (by decide) hf_15 rfl dX2_arrange_16 ?_
    refine lv_sipush (v := 1023) hx hb dX2_arrange_19 (by decide) ?_
    refine lv_iconst (v := 0) hx hb dX2_arrange_22 (by decide) ?_
    obtain ⟨g4, e4, hf⟩ := ob_e1 hf
    refine ob_callv (va_runSN (As := [.ref (ad 26), .int 1023, .int 0]) (rest := []) ⟨hx, hb, hml, hown, hts⟩ (c_X6_store l dC dI ad cI cZ hI 0 (Nat.le_refl _) g 26 1024 shX_26 1023 0  g4 e4) ⟨va_cnB 3 hts gX2_arrange_X6_store_n38 rfl rfl rfl (ob_nl hK nw_X2_38) hi_X6 hd_X6_store (ob_R (Nat.le_trans (by decide) hd) (by decide)), hst_X6_store, trivial⟩ (ob_preS hK hM) rfl rfl hl.1 rfl (lv_room (Nat.le_of_ble_eq_true rfl)) dX2_arrange_23 ⟨Nat.le_refl _, Nat.le_refl _⟩) hS (fun H locs hM hS => ?_)
    refine lv_sipush (v := 1022) hx hb dX2_arrange_26 (by decide) ?_
    refine lv_istore_n (lv' := [(1, .int 1022), (0, .ref (ad 24))]) hx hb dX2_arrange_29 rfl hl (by decide) rfl (fun ls hl => ?_)
    exact w_30 (f_X2_arrange_L62 (f_X2_arrange_L97 FU) FU) (w_62 (f_X2_arrange_L97 FU) (w_97 FU) FU) FU g4 1022 _ _ hM hS _ (lv_sub hl [1, 0] rfl) hf
  subst ha
  have hl := lv_entry ([.ref (ad 24)]) (n := 4) (Nat.le_of_ble_eq_true rfl)
  rw [lg_entry_eq]
  generalize (lg_sl ([.ref (ad 24)]) ++ List.replicate (4 - (lg_sl ([.ref (ad 24)])).length) Slot.unset).toArray = ls at hl ⊢
  have hl : lv_has ls 4 [(0, .ref (ad 24))] := hl
  have hM := hM0
  have hS := hS0
  unfold f_X2_arrange at hf
  refine lv_aload_n hx hb dX2_arrange_0 rfl (lv_at hl 0 rfl) ?_
  refine ob_gi hx hb hts in_own hown hK hM (q := 24) shX_24 (C := RX2) (T := TX2) (N := 6) rfl 5 (by decide) hf_24 rfl dX2_arrange_1 ?_
  refine lv_if_eq (tgt := 15) hx hb dX2_arrange_4 (by decide) (fun c1 => ?_) (fun c1 => ?_)
  · rw [if_pos c1] at hf
    exact w_15 g _ _ hM hS _ (lv_sub hl [0] rfl) hf
  · rw [if_neg c1] at hf
    refine lv_aload_n hx hb dX2_arrange_7 rfl (lv_at hl 0 rfl) ?_
    obtain ⟨v2, e2, hf⟩ := ob_e1 hf
    refine ob_calli (va_runV (As := []) (rest := []) ⟨hx, hb, hml, hown, hts⟩ (c_X2_isSameBook l dC dI ad cI cZ hI 2 (Nat.le_refl _) g  v2 e2) (cwV 0 hts gX2_arrange_X2_isSameBook rfl rfl rfl ⟨rfl, hd_X2_isSameBook⟩ (ob_R (Nat.le_trans (by decide) hd) (by decide))) (ob_preV hK hM (q := 24) shX_24 rfl) rfl rfl hl.1 rfl (lv_room (Nat.le_of_ble_eq_true rfl)) dX2_arrange_8 ⟨Nat.le_refl _, Nat.le_refl _⟩) hS (fun H locs hM hS => ?_)
    refine lv_if_eq (tgt := 15) hx hb dX2_arrange_11 (by decide) (fun c3 => ?_) (fun c3 => ?_)
    · rw [if_pos c3] at hf
      exact w_15 g _ _ hM hS _ (lv_sub hl [0] rfl) hf
    · rw [if_neg c3] at hf
      exact ob_vret hx hb hr hlocks hM hS hf dX2_arrange_14
set_option maxHeartbeats 4000000 in
set_option maxRecDepth 100000 in
theorem c_X2_countStruck (l : Launch) (dC : Nat → ClassId) (dI : Nat → Nat → Nat) (ad : Nat → Nat) (cI cZ : ClassId) (hI : ob_inj shX ad) (d : Nat) (hd : 1 ≤ d) (g : Mm) (r : Int32) (hf : f_X2_countStruck g = some r) : ob_Mi l yX2_countStruck wsX2_countStruck d (dC, dI) vwCl shX ad cI cZ nwX [.ref (ad 24)] g r g := by
  refine ob_ofW (cc := cX2_countStruck) (maxL := 1) (ret := (some .int)) (by decide) rfl ?_
  intro p e s m args below meth c ha hx hb hr hml hts hown hlocks hM0 hK hS0
  have hown : s.vm.findClass RX2 = some m.cls := hown
  have in_own : ∀ w ∈ wsX20, w ∈ wsX2_countStruck := fun w h => (List.mem_cons_of_mem _ (List.mem_append_right _ h))
  have hf_15 := hts (.fieldLink RX2 15 "OneWorse$Order" "back" "[I") (List.mem_cons_of_mem _ (List.mem_append_left _ (List.mem_of_getElem? (i := 0) rfl)))
  have hi_X6 := hts (.initialized RX6) (List.mem_cons_of_mem _ (List.mem_append_left _ (List.mem_of_getElem? (i := 2) rfl)))
  have hst_X6_at := hts (.static yX6_at) (List.mem_cons_of_mem _ (List.mem_append_left _ (List.mem_of_getElem? (i := 1) rfl)))
  subst ha
  have hl := lv_entry ([.ref (ad 24)]) (n := 1) (Nat.le_of_ble_eq_true rfl)
  rw [lg_entry_eq]
  generalize (lg_sl ([.ref (ad 24)]) ++ List.replicate (1 - (lg_sl ([.ref (ad 24)])).length) Slot.unset).toArray = ls at hl ⊢
  have hl : lv_has ls 1 [(0, .ref (ad 24))] := hl
  have hM := hM0
  have hS := hS0
  unfold f_X2_countStruck at hf
  refine lv_aload_n hx hb dX2_countStruck_0 rfl (lv_at hl 0 rfl) ?_
  refine ob_gr (j := 26) hx hb hts in_own hown hK hM (q := 24) shX_24 (C := RX2) (T := TX2) (N := 6) rfl 2 (by decide) hf_15 rfl dX2_countStruck_1 ?_
  refine lv_iconst (v := 0) hx hb dX2_countStruck_4 (by decide) ?_
  obtain ⟨v1, e1, hf⟩ := ob_e1 hf
  refine ob_calli (va_runSN (As := [.ref (ad 26), .int 0]) (rest := []) ⟨hx, hb, hml, hown, hts⟩ (c_X6_at l dC dI ad cI cZ hI 0 (Nat.le_refl _) g 26 1024 shX_26 0  v1 e1) ⟨va_cnB 2 hts gX2_countStruck_X6_at_n42 rfl rfl rfl (ob_nl hK nw_X2_42) hi_X6 hd_X6_at (ob_R (Nat.le_trans (by decide) hd) (by decide)), hst_X6_at, trivial⟩ (ob_preS hK hM) rfl rfl hl.1 rfl (lv_room (Nat.le_of_ble_eq_true rfl)) dX2_countStruck_5 ⟨Nat.le_refl _, Nat.le_refl _⟩) hS (fun H locs hM hS => ?_)
  exact ob_iretR hx hb hr hlocks hM hS (v := v1) rfl hf dX2_countStruck_8
set_option maxHeartbeats 4000000 in
set_option maxRecDepth 100000 in
theorem c_X2_struck (l : Launch) (dC : Nat → ClassId) (dI : Nat → Nat → Nat) (ad : Nat → Nat) (cI cZ : ClassId) (hI : ob_inj shX ad) (d : Nat) (hd : 2 ≤ d) (g : Mm) (x1 : Int32) (r : Int32) (hf : f_X2_struck g x1 = some r) : ob_Mi l yX2_struck wsX2_struck d (dC, dI) vwCl shX ad cI cZ nwX [.ref (ad 24), .int x1] g r g := by
  refine ob_ofW (cc := cX2_struck) (maxL := 5) (ret := (some .int)) (by decide) rfl ?_
  intro p e s m args below meth c ha hx hb hr hml hts hown hlocks hM0 hK hS0
  have hown : s.vm.findClass RX2 = some m.cls := hown
  have in_own : ∀ w ∈ wsX20, w ∈ wsX2_struck := fun w h => (List.mem_cons_of_mem _ (List.mem_append_left _ (List.mem_append_right _ h)))
  have hf_28 := hts (.fieldLink RX2 28 "OneWorse$Order" "town" "LOneWorse$Town;") (List.mem_cons_of_mem _ (List.mem_append_left _ (List.mem_append_left _ (List.mem_of_getElem? (i := 0) rfl))))
  have hi_X4 := hts (.initialized RX4) (List.mem_cons_of_mem _ (List.mem_append_left _ (List.mem_append_left _ (List.mem_of_getElem? (i := 3) rfl))))
  have hin_X4_worseThan := hts (.instanceMethod yX4_worseThan) (List.mem_cons_of_mem _ (List.mem_append_left _ (List.mem_append_left _ (List.mem_of_getElem? (i := 2) rfl))))
  have hse_X4_worseThan := hts (.selects RX4 yX4_worseThan yX4_worseThan) (List.mem_cons_of_mem _ (List.mem_append_left _ (List.mem_append_left _ (List.mem_of_getElem? (i := 4) rfl))))
  have hi_X6 := hts (.initialized RX6) (List.mem_cons_of_mem _ (List.mem_append_left _ (List.mem_append_left _ (List.mem_of_getElem? (i := 8) rfl))))
  have hst_X6_has := hts (.static yX6_has) (List.mem_cons_of_mem _ (List.mem_append_left _ (List.mem_append_left _ (List.mem_of_getElem? (i := 10) rfl))))
  have hf_18 := hts (.fieldLink RX2 18 "OneWorse$Order" "rank" "[I") (List.mem_cons_of_mem _ (List.mem_append_left _ (List.mem_append_left _ (List.mem_of_getElem? (i := 1) rfl))))
  have hst_X6_at := hts (.static yX6_at) (List.mem_cons_of_mem _ (List.mem_append_left _ (List.mem_append_left _ (List.mem_of_getElem? (i := 7) rfl))))
  have w_75 : ∀ (k13 : Int32 → Int32 → Int32 → Int32 → Option (Int32)) (hk13 : ∀ (x1 x2 x3 x4 : Int32) (H : Heap) (locs : List Loc), va_P (dC, dI) vwCl (ob_ws shX ad cI cZ g) H → va_S (ob_A shX ad) s.heap H locs → ∀ (ls : Array Slot), lv_has ls 5 [(0, .ref (ad 24)), (1, .int x1), (2, .int x2), (3, .int x3), (4, .int x4)] → k13 x1 x2 x3 x4 = some r → W p l e (rmN d) s m args below meth c H locs 0 0 (MQ below (ob_Qi (dC, dI) vwCl shX ad cI cZ r g) args s 0 0 (ob_A shX ad)) (F0 m 13 ls [])), ∀ (x1 x2 x3 x4 : Int32) (H : Heap) (locs : List Loc), va_P (dC, dI) vwCl (ob_ws shX ad cI cZ g) H → va_S (ob_A shX ad) s.heap H locs → ∀ (ls : Array Slot), lv_has ls 5 [(0, .ref (ad 24)), (1, .int x1), (2, .int x2), (3, .int x3), (4, .int x4)] → f_X2_struck_J75 g k13 x1 x2 x3 x4 = some r → W p l e (rmN d) s m args below meth c H locs 0 0 (MQ below (ob_Qi (dC, dI) vwCl shX ad cI cZ r g) args s 0 0 (ob_A shX ad)) (F0 m 75 ls []) := by
    intro k13 hk13 x1 x2 x3 x4 H locs hM hS ls hl hf
    unfold f_X2_struck_J75 at hf
    refine lv_iinc (v := (x4 + 1)) (lv' := [(4, .int (x4 + 1)), (0, .ref (ad 24)), (1, .int x1), (2, .int x2), (3, .int x3)]) hx hb dX2_struck_75 hl (k := 4) rfl rfl (by decide) rfl (fun ls hl => ?_)
    refine lv_goto (tgt := 13) hx hb dX2_struck_78 (by decide) ?_
    exact hk13 x1 x2 x3 (x4 + 1) _ _ hM hS _ (lv_sub hl [1, 2, 3, 4, 0] rfl) hf
  have w_13 : ∀ (k4 : Int32 → Int32 → Int32 → Option (Int32)) (hk4 : ∀ (x1 x2 x3 : Int32) (H : Heap) (locs : List Loc), va_P (dC, dI) vwCl (ob_ws shX ad cI cZ g) H → va_S (ob_A shX ad) s.heap H locs → ∀ (ls : Array Slot), lv_has ls 5 [(0, .ref (ad 24)), (1, .int x1), (2, .int x2), (3, .int x3)] → k4 x1 x2 x3 = some r → W p l e (rmN d) s m args below meth c H locs 0 0 (MQ below (ob_Qi (dC, dI) vwCl shX ad cI cZ r g) args s 0 0 (ob_A shX ad)) (F0 m 4 ls [])) (n : Nat), ∀ (x1 x2 x3 x4 : Int32) (H : Heap) (locs : List Loc), va_P (dC, dI) vwCl (ob_ws shX ad cI cZ g) H → va_S (ob_A shX ad) s.heap H locs → ∀ (ls : Array Slot), lv_has ls 5 [(0, .ref (ad 24)), (1, .int x1), (2, .int x2), (3, .int x3), (4, .int x4)] → f_X2_struck_L13 g k4 n x1 x2 x3 x4 = some r → W p l e (rmN d) s m args below meth c H locs 0 0 (MQ below (ob_Qi (dC, dI) vwCl shX ad cI cZ r g) args s 0 0 (ob_A shX ad)) (F0 m 13 ls []) := by
    intro k4 hk4 n
    induction n with
    | zero =>
      intro x1 x2 x3 x4 H locs hM hS ls hl hf
      cases hf
    | succ n ih =>
      intro x1 x2 x3 x4 H locs hM hS ls hl hf
      unfold f_X2_struck_L13 at hf
      refine lv_iload hx hb dX2_struck_13 (lv_at hl 4 rfl) ?_
      refine lv_bipush (v := 10) hx hb dX2_struck_15 (by decide) ?_
      refine lv_icmp_ge (tgt := 81) hx hb dX2_struck_17 (by decide) (fun c2 => ?_) (fun c2 => ?_)
      · rw [if_pos c2] at hf
        refine lv_iinc (v := (x3 + 1)) (lv' := [(3, .int (x3 + 1)), (0, .ref (ad 24)), (1, .int x1), (2, .int x2), (4, .int x4)]) hx hb dX2_struck_81 hl (k := 3) rfl rfl (by decide) rfl (fun ls hl => ?_)
        refine lv_goto (tgt := 4) hx hb dX2_struck_84 (by decide) ?_
        exact hk4 x1 x2 (x3 + 1) _ _ hM hS _ (lv_sub hl [1, 2, 3, 0] rfl) hf
      · rw [if_neg c2] at hf
        refine lv_aload_n hx hb dX2_struck_20 rfl (lv_at hl 0 rfl) ?_
        refine ob_gr (j := 2) hx hb hts in_own hown hK hM (q := 24) shX_24 (C := RX2) (T := TX2) (N := 6) rfl 0 (by decide) hf_28 rfl dX2_struck_21 ?_
        refine lv_iload_n hx hb dX2_struck_24 rfl (lv_at hl 3 rfl) ?_
        obtain ⟨v3, e3, hf⟩ := ob_e1 hf
        refine ob_calli (va_runVN (As := [.int x3]) (rest := []) ⟨hx, hb, hml, hown, hts⟩ (c_X4_worseThan l dC dI ad cI cZ hI 1 (Nat.le_refl _) 2 isTown_2 g x3  v3 e3) ⟨va_cnB 1 hts gX2_struck_X4_worseThan_n32 rfl rfl rfl (ob_nl hK nw_X2_32) hi_X4 hd_X4_worseThan (ob_R (Nat.le_trans (by decide) hd) (by decide)), hin_X4_worseThan, hse_X4_worseThan⟩ (ob_preV hK hM (q := 2) shX_2 rfl) rfl rfl hl.1 rfl (lv_room (Nat.le_of_ble_eq_true rfl)) dX2_struck_25 ⟨Nat.le_refl _, Nat.le_refl _⟩) hS (fun H locs hM hS => ?_)
        refine lv_iload hx hb dX2_struck_28 (lv_at hl 4 rfl) ?_
        obtain ⟨v4, e4, hf⟩ := ob_e1 hf
        refine ob_calli (va_runSN (As := [.int v3, .int x4]) (rest := []) ⟨hx, hb, hml, hown, hts⟩ (c_X6_has l dC dI ad cI cZ hI 0 (Nat.le_refl _) g v3 x4  v4 e4) ⟨va_cnB 2 hts gX2_struck_X6_has_n46 rfl rfl rfl (ob_nl hK nw_X2_46) hi_X6 hd_X6_has (ob_R (Nat.le_trans (by decide) hd) (by decide)), hst_X6_has, trivial⟩ (ob_preS hK hM) rfl rfl hl.1 rfl (lv_room (Nat.le_of_ble_eq_true rfl)) dX2_struck_30 ⟨Nat.le_refl _, Nat.le_refl _⟩) hS (fun H locs hM hS => ?_)
        refine lv_if_eq (tgt := 75) hx hb dX2_struck_33 (by decide) (fun c5 => ?_) (fun c5 => ?_)
        · rw [if_pos c5] at hf
          exact w_75 (f_X2_struck_L13 g k4 n) ih x1 x2 x3 x4 _ _ hM hS _ (lv_sub hl [0, 1, 2, 3, 4] rfl) hf
        · rw [if_neg c5] at hf
          refine lv_aload_n hx hb dX2_struck_36 rfl (lv_at hl 0 rfl) ?_
          refine ob_gr (j := 27) hx hb hts in_own hown hK hM (q := 24) shX_24 (C := RX2) (T := TX2) (N := 6) rfl 3 (by decide) hf_18 rfl dX2_struck_37 ?_
          refine lv_iload_n hx hb dX2_struck_40 rfl (lv_at hl 3 rfl) ?_
          obtain ⟨v6, e6, hf⟩ := ob_e1 hf
          refine ob_calli (va_runSN (As := [.ref (ad 27), .int x3]) (rest := []) ⟨hx, hb, hml, hown, hts⟩ (c_X6_at l dC dI ad cI cZ hI 0 (Nat.le_refl _) g 27 10 shX_27 x3  v6 e6) ⟨va_cnB 2 hts gX2_struck_X6_at_n42 rfl rfl rfl (ob_nl hK nw_X2_42) hi_X6 hd_X6_at (ob_R (Nat.le_trans (by decide) hd) (by decide)), hst_X6_at, trivial⟩ (ob_preS hK hM) rfl rfl hl.1 rfl (lv_room (Nat.le_of_ble_eq_true rfl)) dX2_struck_41 ⟨Nat.le_refl _, Nat.le_refl _⟩) hS (fun H locs hM hS => ?_)
          refine lv_aload_n hx hb dX2_struck_44 rfl (lv_at hl 0 rfl) ?_
          refine ob_gr (j := 27) hx hb hts in_own hown hK hM (q := 24) shX_24 (C := RX2) (T := TX2) (N := 6) rfl 3 (by decide) hf_18 rfl dX2_struck_45 ?_
          refine lv_iload hx hb dX2_struck_48 (lv_at hl 4 rfl) ?_
          obtain ⟨v7, e7, hf⟩ := ob_e1 hf
          refine ob_calli (va_runSN (As := [.ref (ad 27), .int x4]) (rest := [.int v6]) ⟨hx, hb, hml, hown, hts⟩ (c_X6_at l dC dI ad cI cZ hI 0 (Nat.le_refl _) g 27 10 shX_27 x4  v7 e7) ⟨va_cnB 2 hts gX2_struck_X6_at_n42 rfl rfl rfl (ob_nl hK nw_X2_42) hi_X6 hd_X6_at (ob_R (Nat.le_trans (by decide) hd) (by decide)), hst_X6_at, trivial⟩ (ob_preS hK hM) rfl rfl hl.1 rfl (lv_room (Nat.le_of_ble_eq_true rfl)) dX2_struck_50 ⟨Nat.le_refl _, Nat.le_refl _⟩) hS (fun H locs hM hS => ?_)
          refine lv_icmp_ge (tgt := 59) hx hb dX2_struck_53 (by decide) (fun c8 => ?_) (fun c8 => ?_)
          · rw [if_pos c8] at hf
            refine lv_iload_n hx hb dX2_struck_59 rfl (lv_at hl 2 rfl) ?_
            refine lv_iload_n hx hb dX2_struck_60 rfl (lv_at hl 1 rfl) ?_
            refine lv_icmp_ne (tgt := 72) hx hb dX2_struck_61 (by decide) (fun c9 => ?_) (fun c9 => ?_)
            · rw [if_neg c9] at hf
              refine lv_iinc (v := (x2 + 1)) (lv' := [(2, .int (x2 + 1)), (0, .ref (ad 24)), (1, .int x1), (3, .int x3), (4, .int x4)]) hx hb dX2_struck_72 hl (k := 2) rfl rfl (by decide) rfl (fun ls hl => ?_)
              exact w_75 (f_X2_struck_L13 g k4 n) ih x1 (x2 + 1) x3 x4 _ _ hM hS _ (lv_sub hl [1, 2, 0, 3, 4] rfl) hf
            · rw [if_pos c9] at hf
              refine lv_bipush (v := 10) hx hb dX2_struck_64 (by decide) ?_
              refine lv_iload_n hx hb dX2_struck_66 rfl (lv_at hl 3 rfl) ?_
              refine lv_imul hx hb dX2_struck_67 ?_
              refine lv_iload hx hb dX2_struck_68 (lv_at hl 4 rfl) ?_
              refine lv_iadd hx hb dX2_struck_70 ?_
              exact ob_iretR hx hb hr hlocks hM hS (v := ((10 * x3) + x4)) rfl hf dX2_struck_71
          · rw [if_neg c8] at hf
            refine lv_goto (tgt := 75) hx hb dX2_struck_56 (by decide) ?_
            exact w_75 (f_X2_struck_L13 g k4 n) ih x1 x2 x3 x4 _ _ hM hS _ (lv_sub hl [0, 1, 2, 3, 4] rfl) hf
  have w_4 : ∀ (n : Nat), ∀ (x1 x2 x3 : Int32) (H : Heap) (locs : List Loc), va_P (dC, dI) vwCl (ob_ws shX ad cI cZ g) H → va_S (ob_A shX ad) s.heap H locs → ∀ (ls : Array Slot), lv_has ls 5 [(0, .ref (ad 24)), (1, .int x1), (2, .int x2), (3, .int x3)] → f_X2_struck_L4 g n x1 x2 x3 = some r → W p l e (rmN d) s m args below meth c H locs 0 0 (MQ below (ob_Qi (dC, dI) vwCl shX ad cI cZ r g) args s 0 0 (ob_A shX ad)) (F0 m 4 ls []) := by
    intro n
    induction n with
    | zero =>
      intro x1 x2 x3 H locs hM hS ls hl hf
      cases hf
    | succ n ih =>
      intro x1 x2 x3 H locs hM hS ls hl hf
      unfold f_X2_struck_L4 at hf
      refine lv_iload_n hx hb dX2_struck_4 rfl (lv_at hl 3 rfl) ?_
      refine lv_bipush (v := 10) hx hb dX2_struck_5 (by decide) ?_
      refine lv_icmp_ge (tgt := 87) hx hb dX2_struck_7 (by decide) (fun c1 => ?_) (fun c1 => ?_)
      · rw [if_pos c1] at hf
        refine lv_bipush (v := (-6)) hx hb dX2_struck_87 (by decide) ?_
        exact ob_iretR hx hb hr hlocks hM hS (v := (-6)) rfl hf dX2_struck_89
      · rw [if_neg c1] at hf
        refine lv_iconst (v := 0) hx hb dX2_struck_10 (by decide) ?_
        refine lv_istore (lv' := [(4, .int 0), (0, .ref (ad 24)), (1, .int x1), (2, .int x2), (3, .int x3)]) hx hb dX2_struck_11 hl (by decide) rfl (fun ls hl => ?_)
        exact w_13 (f_X2_struck_L4 g n) ih FU x1 x2 x3 0 _ _ hM hS _ (lv_sub hl [1, 2, 3, 4, 0] rfl) hf
  subst ha
  have hl := lv_entry ([.ref (ad 24), .int x1]) (n := 5) (Nat.le_of_ble_eq_true rfl)
  rw [lg_entry_eq]
  generalize (lg_sl ([.ref (ad 24), .int x1]) ++ List.replicate (5 - (lg_sl ([.ref (ad 24), .int x1])).length) Slot.unset).toArray = ls at hl ⊢
  have hl : lv_has ls 5 [(0, .ref (ad 24)), (1, .int x1)] := hl
  have hM := hM0
  have hS := hS0
  unfold f_X2_struck at hf
  refine lv_iconst (v := 0) hx hb dX2_struck_0 (by decide) ?_
  refine lv_istore_n (lv' := [(2, .int 0), (0, .ref (ad 24)), (1, .int x1)]) hx hb dX2_struck_1 rfl hl (by decide) rfl (fun ls hl => ?_)
  refine lv_iconst (v := 0) hx hb dX2_struck_2 (by decide) ?_
  refine lv_istore_n (lv' := [(3, .int 0), (2, .int 0), (0, .ref (ad 24)), (1, .int x1)]) hx hb dX2_struck_3 rfl hl (by decide) rfl (fun ls hl => ?_)
  exact w_4 FU x1 0 0 _ _ hM hS _ (lv_sub hl [2, 3, 1, 0] rfl) hf
set_option maxHeartbeats 4000000 in
set_option maxRecDepth 100000 in
theorem c_X6_ladder (l : Launch) (dC : Nat → ClassId) (dI : Nat → Nat → Nat) (ad : Nat → Nat) (cI cZ : ClassId) (hI : ob_inj shX ad) (d : Nat) (hd : 5 ≤ d) (g : Mm) (x1 : Int32) (r : Int32) (t : Mm) (hf : f_X6_ladder g x1 = some (r, t)) : ob_Mi l yX6_ladder wsX6_ladder d (dC, dI) vwCl shX ad cI cZ nwX [.ref (ad 0), .int x1] g r t := by
  refine ob_ofW (cc := cX6_ladder) (maxL := 2) (ret := (some .int)) (by decide) rfl ?_
  intro p e s m args below meth c ha hx hb hr hml hts hown hlocks hM0 hK hS0
  have hown : s.vm.findClass RX6 = some m.cls := hown
  have in_own : ∀ w ∈ wsX60, w ∈ wsX6_ladder := fun w h => (List.mem_cons_of_mem _ (List.mem_append_left _ (List.mem_append_left _ (List.mem_append_right _ h))))
  have hf_48 := hts (.fieldLink RX6 48 "OneWorse" "order" "LOneWorse$Order;") (List.mem_cons_of_mem _ (List.mem_append_left _ (List.mem_append_left _ (List.mem_append_left _ (List.mem_append_left _ (List.mem_of_getElem? (i := 0) rfl))))))
  have hi_X2 := hts (.initialized RX2) (List.mem_cons_of_mem _ (List.mem_append_left _ (List.mem_append_left _ (List.mem_append_left _ (List.mem_append_left _ (List.mem_of_getElem? (i := 2) rfl))))))
  have hin_X2_arrange := hts (.instanceMethod yX2_arrange) (List.mem_cons_of_mem _ (List.mem_append_left _ (List.mem_append_left _ (List.mem_append_left _ (List.mem_append_left _ (List.mem_of_getElem? (i := 1) rfl))))))
  have hse_X2_arrange := hts (.selects RX2 yX2_arrange yX2_arrange) (List.mem_cons_of_mem _ (List.mem_append_left _ (List.mem_append_left _ (List.mem_append_left _ (List.mem_append_left _ (List.mem_of_getElem? (i := 3) rfl))))))
  have hin_X2_struck := hts (.instanceMethod yX2_struck) (List.mem_cons_of_mem _ (List.mem_append_left _ (List.mem_append_left _ (List.mem_append_left _ (List.mem_append_right _ (List.mem_of_getElem? (i := 20) rfl))))))
  have hse_X2_struck := hts (.selects RX2 yX2_struck yX2_struck) (List.mem_cons_of_mem _ (List.mem_append_left _ (List.mem_append_left _ (List.mem_append_left _ (List.mem_append_right _ (List.mem_of_getElem? (i := 21) rfl))))))
  have hin_X2_countStruck := hts (.instanceMethod yX2_countStruck) (List.mem_cons_of_mem _ (List.mem_append_left _ (List.mem_append_left _ (List.mem_append_left _ (List.mem_append_right _ (List.mem_of_getElem? (i := 17) rfl))))))
  have hse_X2_countStruck := hts (.selects RX2 yX2_countStruck yX2_countStruck) (List.mem_cons_of_mem _ (List.mem_append_left _ (List.mem_append_left _ (List.mem_append_left _ (List.mem_append_right _ (List.mem_of_getElem? (i := 18) rfl))))))
  subst ha
  have hl := lv_entry ([.ref (ad 0), .int x1]) (n := 2) (Nat.le_of_ble_eq_true rfl)
  rw [lg_entry_eq]
  generalize (lg_sl ([.ref (ad 0), .int x1]) ++ List.replicate (2 - (lg_sl ([.ref (ad 0), .int x1])).length) Slot.unset).toArray = ls at hl ⊢
  have hl : lv_has ls 2 [(0, .ref (ad 0)), (1, .int x1)] := hl
  have hM := hM0
  have hS := hS0
  unfold f_X6_ladder at hf
  refine lv_aload_n hx hb dX6_ladder_0 rfl (lv_at hl 0 rfl) ?_
  refine ob_gr (j := 24) hx hb hts in_own hown hK hM (q := 0) shX_0 (C := RX6) (T := TX6) (N := 8) rfl 6 (by decide) hf_48 rfl dX6_ladder_1 ?_
  obtain ⟨g1, e1, hf⟩ := ob_e1 hf
  refine ob_callv (va_runVN (As := []) (rest := []) ⟨hx, hb, hml, hown, hts⟩ (c_X2_arrange l dC dI ad cI cZ hI 4 (Nat.le_refl _) g  g1 e1) ⟨va_cnB 0 hts gX6_ladder_X2_arrange_n181 rfl rfl rfl (ob_nl hK nw_X6_181) hi_X2 hd_X2_arrange (ob_R (Nat.le_trans (by decide) hd) (by decide)), hin_X2_arrange, hse_X2_arrange⟩ (ob_preV hK hM (q := 24) shX_24 rfl) rfl rfl hl.1 rfl (lv_room (Nat.le_of_ble_eq_true rfl)) dX6_ladder_4 ⟨Nat.le_refl _, Nat.le_refl _⟩) hS (fun H locs hM hS => ?_)
  refine lv_iload_n hx hb dX6_ladder_7 rfl (lv_at hl 1 rfl) ?_
  refine lv_iconst (v := (-1)) hx hb dX6_ladder_8 (by decide) ?_
  refine lv_icmp_ne (tgt := 22) hx hb dX6_ladder_9 (by decide) (fun c2 => ?_) (fun c2 => ?_)
  · rw [if_neg c2] at hf
    refine lv_aload_n hx hb dX6_ladder_22 rfl (lv_at hl 0 rfl) ?_
    refine ob_gr (j := 24) hx hb hts in_own hown hK hM (q := 0) shX_0 (C := RX6) (T := TX6) (N := 8) rfl 6 (by decide) hf_48 rfl dX6_ladder_23 ?_
    refine lv_iload_n hx hb dX6_ladder_26 rfl (lv_at hl 1 rfl) ?_
    obtain ⟨v3, e3, hf⟩ := ob_e1 hf
    refine ob_calli (va_runVN (As := [.int x1]) (rest := []) ⟨hx, hb, hml, hown, hts⟩ (c_X2_struck l dC dI ad cI cZ hI 2 (Nat.le_refl _) g1 x1  v3 e3) ⟨va_cnB 1 hts gX6_ladder_X2_struck_n187 rfl rfl rfl (ob_nl hK nw_X6_187) hi_X2 hd_X2_struck (ob_R (Nat.le_trans (by decide) hd) (by decide)), hin_X2_struck, hse_X2_struck⟩ (ob_preV hK hM (q := 24) shX_24 rfl) rfl rfl hl.1 rfl (lv_room (Nat.le_of_ble_eq_true rfl)) dX6_ladder_27 ⟨Nat.le_refl _, Nat.le_refl _⟩) hS (fun H locs hM hS => ?_)
    exact ob_iret hx hb hr hlocks hM hS (v := v3) rfl hf dX6_ladder_30
  · rw [if_pos c2] at hf
    refine lv_aload_n hx hb dX6_ladder_12 rfl (lv_at hl 0 rfl) ?_
    refine ob_gr (j := 24) hx hb hts in_own hown hK hM (q := 0) shX_0 (C := RX6) (T := TX6) (N := 8) rfl 6 (by decide) hf_48 rfl dX6_ladder_13 ?_
    obtain ⟨v4, e4, hf⟩ := ob_e1 hf
    refine ob_calli (va_runVN (As := []) (rest := []) ⟨hx, hb, hml, hown, hts⟩ (c_X2_countStruck l dC dI ad cI cZ hI 1 (Nat.le_refl _) g1  v4 e4) ⟨va_cnB 0 hts gX6_ladder_X2_countStruck_n184 rfl rfl rfl (ob_nl hK nw_X6_184) hi_X2 hd_X2_countStruck (ob_R (Nat.le_trans (by decide) hd) (by decide)), hin_X2_countStruck, hse_X2_countStruck⟩ (ob_preV hK hM (q := 24) shX_24 rfl) rfl rfl hl.1 rfl (lv_room (Nat.le_of_ble_eq_true rfl)) dX6_ladder_16 ⟨Nat.le_refl _, Nat.le_refl _⟩) hS (fun H locs hM hS => ?_)
    refine lv_goto (tgt := 30) hx hb dX6_ladder_19 (by decide) ?_
    exact ob_iret hx hb hr hlocks hM hS (v := v4) rfl hf dX6_ladder_30
set_option maxHeartbeats 4000000 in
set_option maxRecDepth 100000 in
theorem c_X5_walk (l : Launch) (dC : Nat → ClassId) (dI : Nat → Nat → Nat) (ad : Nat → Nat) (cI cZ : ClassId) (hI : ob_inj shX ad) (d : Nat) (hd : 2 ≤ d) (d9 : Nat) (hd9 : d9 + 1 ≤ d) (rc_walk : Mm → Int32 → Int32 → Int32 → Int32 → Option (Mm)) (hrc_walk : ∀ (g : Mm) (x1 x2 x3 x4 : Int32) (t : Mm), rc_walk g x1 x2 x3 x4 = some t → ob_Mv l yX5_walk wsX5_walk d9 (dC, dI) vwCl shX ad cI cZ nwX [.ref (ad 29), .int x1, .int x2, .int x3, .int x4] g t) (g : Mm) (x1 x2 x3 x4 : Int32) (t : Mm) (hf : f_X5_walk rc_walk g x1 x2 x3 x4 = some t) : ob_Mv l yX5_walk wsX5_walk d (dC, dI) vwCl shX ad cI cZ nwX [.ref (ad 29), .int x1, .int x2, .int x3, .int x4] g t := by
  refine ob_ofW (cc := cX5_walk) (maxL := 6) (ret := none) (by decide) rfl ?_
  intro p e s m args below meth c ha hx hb hr hml hts hown hlocks hM0 hK hS0
  have hown : s.vm.findClass RX5 = some m.cls := hown
  have in_own : ∀ w ∈ wsX50, w ∈ wsX5_walk := fun w h => (List.mem_cons_of_mem _ (List.mem_append_left _ (List.mem_append_right _ h)))
  have hf_24 := hts (.fieldLink RX5 24 "OneWorse$Ways" "town" "LOneWorse$Town;") (List.mem_cons_of_mem _ (List.mem_append_left _ (List.mem_append_left _ (List.mem_of_getElem? (i := 0) rfl))))
  have hi_X4 := hts (.initialized RX4) (List.mem_cons_of_mem _ (List.mem_append_left _ (List.mem_append_left _ (List.mem_of_getElem? (i := 6) rfl))))
  have hin_X4_worseThan := hts (.instanceMethod yX4_worseThan) (List.mem_cons_of_mem _ (List.mem_append_left _ (List.mem_append_left _ (List.mem_of_getElem? (i := 5) rfl))))
  have hse_X4_worseThan := hts (.selects RX4 yX4_worseThan yX4_worseThan) (List.mem_cons_of_mem _ (List.mem_append_left _ (List.mem_append_left _ (List.mem_of_getElem? (i := 7) rfl))))
  have hf_9 := hts (.fieldLink RX5 9 "OneWorse$Ways" "goal" "I") (List.mem_cons_of_mem _ (List.mem_append_left _ (List.mem_append_left _ (List.mem_of_getElem? (i := 1) rfl))))
  have hi_X6 := hts (.initialized RX6) (List.mem_cons_of_mem _ (List.mem_append_left _ (List.mem_append_left _ (List.mem_of_getElem? (i := 11) rfl))))
  have hst_X6_has := hts (.static yX6_has) (List.mem_cons_of_mem _ (List.mem_append_left _ (List.mem_append_left _ (List.mem_of_getElem? (i := 13) rfl))))
  have hf_18 := hts (.fieldLink RX5 18 "OneWorse$Ways" "count" "I") (List.mem_cons_of_mem _ (List.mem_append_left _ (List.mem_append_left _ (List.mem_of_getElem? (i := 2) rfl))))
  have hf_15 := hts (.fieldLink RX5 15 "OneWorse$Ways" "asked" "I") (List.mem_cons_of_mem _ (List.mem_append_left _ (List.mem_append_left _ (List.mem_of_getElem? (i := 3) rfl))))
  have hf_21 := hts (.fieldLink RX5 21 "OneWorse$Ways" "wanted" "I") (List.mem_cons_of_mem _ (List.mem_append_left _ (List.mem_append_left _ (List.mem_of_getElem? (i := 4) rfl))))
  have w_40 : ∀ (g : Mm) (H : Heap) (locs : List Loc), va_P (dC, dI) vwCl (ob_ws shX ad cI cZ g) H → va_S (ob_A shX ad) s.heap H locs → ∀ (ls : Array Slot), lv_has ls 6 [(0, .ref (ad 29))] → f_X5_walk_J40 rc_walk g = some t → W p l e (rmN d) s m args below meth c H locs 0 0 (MQ below (ob_Qv (dC, dI) vwCl shX ad cI cZ t) args s 0 0 (ob_A shX ad)) (F0 m 40 ls []) := by
    intro g H locs hM hS ls hl hf
    unfold f_X5_walk_J40 at hf
    refine lv_aload_n hx hb dX5_walk_40 rfl (lv_at hl 0 rfl) ?_
    refine lv_dup hx hb dX5_walk_41 rfl ?_
    refine ob_gi hx hb hts in_own hown hK hM (q := 29) shX_29 (C := RX5) (T := TX5) (N := 5) rfl 3 (by decide) hf_18 rfl dX5_walk_42 ?_
    refine lv_iconst (v := 1) hx hb dX5_walk_45 (by decide) ?_
    refine lv_iadd hx hb dX5_walk_46 ?_
    refine ob_pi hx hb hts in_own tyX5 tyX5_ok nmX5 hown hK hM hI hS (q := 29) shX_29 (C := RX5) (T := TX5) (N := 5) rfl 3 (by decide) hf_18 rfl rfl (ty := .int) (v := ((g 29 3) + 1)) (tyX5_ok 3 (by decide)) rfl rfl dX5_walk_47 (fun H locs hM hS => ?_)
    exact ob_vret hx hb hr hlocks hM hS hf dX5_walk_50
  have w_107 : ∀ (k54 : Mm → Int32 → Int32 → Int32 → Int32 → Int32 → Option (Mm)) (hk54 : ∀ (g : Mm) (x1 x2 x3 x4 x5 : Int32) (H : Heap) (locs : List Loc), va_P (dC, dI) vwCl (ob_ws shX ad cI cZ g) H → va_S (ob_A shX ad) s.heap H locs → ∀ (ls : Array Slot), lv_has ls 6 [(0, .ref (ad 29)), (1, .int x1), (2, .int x2), (3, .int x3), (4, .int x4), (5, .int x5)] → k54 g x1 x2 x3 x4 x5 = some t → W p l e (rmN d) s m args below meth c H locs 0 0 (MQ below (ob_Qv (dC, dI) vwCl shX ad cI cZ t) args s 0 0 (ob_A shX ad)) (F0 m 54 ls [])), ∀ (g : Mm) (x1 x2 x3 x4 x5 : Int32) (H : Heap) (locs : List Loc), va_P (dC, dI) vwCl (ob_ws shX ad cI cZ g) H → va_S (ob_A shX ad) s.heap H locs → ∀ (ls : Array Slot), lv_has ls 6 [(0, .ref (ad 29)), (1, .int x1), (2, .int x2), (3, .int x3), (4, .int x4), (5, .int x5)] → f_X5_walk_J107 rc_walk k54 g x1 x2 x3 x4 x5 = some t → W p l e (rmN d) s m args below meth c H locs 0 0 (MQ below (ob_Qv (dC, dI) vwCl shX ad cI cZ t) args s 0 0 (ob_A shX ad)) (F0 m 107 ls []) := by
    intro k54 hk54 g x1 x2 x3 x4 x5 H locs hM hS ls hl hf
    unfold f_X5_walk_J107 at hf
    refine lv_iinc (v := (x5 + 1)) (lv' := [(5, .int (x5 + 1)), (0, .ref (ad 29)), (1, .int x1), (2, .int x2), (3, .int x3), (4, .int x4)]) hx hb dX5_walk_107 hl (k := 5) rfl rfl (by decide) rfl (fun ls hl => ?_)
    refine lv_goto (tgt := 54) hx hb dX5_walk_110 (by decide) ?_
    exact hk54 g x1 x2 x3 x4 (x5 + 1) _ _ hM hS _ (lv_sub hl [1, 2, 3, 4, 5, 0] rfl) hf
  have w_54 : ∀ (n : Nat), ∀ (g : Mm) (x1 x2 x3 x4 x5 : Int32) (H : Heap) (locs : List Loc), va_P (dC, dI) vwCl (ob_ws shX ad cI cZ g) H → va_S (ob_A shX ad) s.heap H locs → ∀ (ls : Array Slot), lv_has ls 6 [(0, .ref (ad 29)), (1, .int x1), (2, .int x2), (3, .int x3), (4, .int x4), (5, .int x5)] → f_X5_walk_L54 rc_walk n g x1 x2 x3 x4 x5 = some t → W p l e (rmN d) s m args below meth c H locs 0 0 (MQ below (ob_Qv (dC, dI) vwCl shX ad cI cZ t) args s 0 0 (ob_A shX ad)) (F0 m 54 ls []) := by
    intro n
    induction n with
    | zero =>
      intro g x1 x2 x3 x4 x5 H locs hM hS ls hl hf
      cases hf
    | succ n ih =>
      intro g x1 x2 x3 x4 x5 H locs hM hS ls hl hf
      unfold f_X5_walk_L54 at hf
      refine lv_iload hx hb dX5_walk_54 (lv_at hl 5 rfl) ?_
      refine lv_bipush (v := 10) hx hb dX5_walk_56 (by decide) ?_
      refine lv_icmp_ge (tgt := 113) hx hb dX5_walk_58 (by decide) (fun c6 => ?_) (fun c6 => ?_)
      · rw [if_pos c6] at hf
        exact ob_vret hx hb hr hlocks hM hS hf dX5_walk_113
      · rw [if_neg c6] at hf
        refine lv_aload_n hx hb dX5_walk_61 rfl (lv_at hl 0 rfl) ?_
        refine ob_gr (j := 2) hx hb hts in_own hown hK hM (q := 29) shX_29 (C := RX5) (T := TX5) (N := 5) rfl 0 (by decide) hf_24 rfl dX5_walk_62 ?_
        refine lv_iload_n hx hb dX5_walk_65 rfl (lv_at hl 1 rfl) ?_
        obtain ⟨v7, e7, hf⟩ := ob_e1 hf
        refine ob_calli (va_runVN (As := [.int x1]) (rest := []) ⟨hx, hb, hml, hown, hts⟩ (c_X4_worseThan l dC dI ad cI cZ hI 1 (Nat.le_refl _) 2 isTown_2 g x1  v7 e7) ⟨va_cnB 1 hts gX5_walk_X4_worseThan_n32 rfl rfl rfl (ob_nl hK nw_X5_32) hi_X4 hd_X4_worseThan (ob_R (Nat.le_trans (by decide) hd) (by decide)), hin_X4_worseThan, hse_X4_worseThan⟩ (ob_preV hK hM (q := 2) shX_2 rfl) rfl rfl hl.1 rfl (lv_room (Nat.le_of_ble_eq_true rfl)) dX5_walk_66 ⟨Nat.le_refl _, Nat.le_refl _⟩) hS (fun H locs hM hS => ?_)
        refine lv_iload_n hx hb dX5_walk_69 rfl (lv_at hl 2 rfl) ?_
        refine lv_iconst (v := (-1)) hx hb dX5_walk_70 (by decide) ?_
        refine lv_ixor hx hb dX5_walk_71 ?_
        refine lv_iand hx hb dX5_walk_72 ?_
        refine lv_iload hx hb dX5_walk_73 (lv_at hl 5 rfl) ?_
        obtain ⟨v8, e8, hf⟩ := ob_e1 hf
        refine ob_calli (va_runSN (As := [.int (v7 &&& (x2 ^^^ (-1))), .int x5]) (rest := []) ⟨hx, hb, hml, hown, hts⟩ (c_X6_has l dC dI ad cI cZ hI 0 (Nat.le_refl _) g (v7 &&& (x2 ^^^ (-1))) x5  v8 e8) ⟨va_cnB 2 hts gX5_walk_X6_has_n38 rfl rfl rfl (ob_nl hK nw_X5_38) hi_X6 hd_X6_has (ob_R (Nat.le_trans (by decide) hd) (by decide)), hst_X6_has, trivial⟩ (ob_preS hK hM) rfl rfl hl.1 rfl (lv_room (Nat.le_of_ble_eq_true rfl)) dX5_walk_75 ⟨Nat.le_refl _, Nat.le_refl _⟩) hS (fun H locs hM hS => ?_)
        refine lv_if_ne (tgt := 84) hx hb dX5_walk_78 (by decide) (fun c9 => ?_) (fun c9 => ?_)
        · rw [if_neg c9] at hf
          refine lv_aload_n hx hb dX5_walk_84 rfl (lv_at hl 0 rfl) ?_
          refine lv_iload hx hb dX5_walk_85 (lv_at hl 5 rfl) ?_
          refine lv_iload_n hx hb dX5_walk_87 rfl (lv_at hl 2 rfl) ?_
          refine lv_iconst (v := 1) hx hb dX5_walk_88 (by decide) ?_
          refine lv_iload hx hb dX5_walk_89 (lv_at hl 5 rfl) ?_
          refine lv_ishl hx hb dX5_walk_91 ?_
          refine lv_ior hx hb dX5_walk_92 ?_
          refine lv_iload_n hx hb dX5_walk_93 rfl (lv_at hl 3 rfl) ?_
          refine lv_iconst (v := 1) hx hb dX5_walk_94 (by decide) ?_
          refine lv_isub hx hb dX5_walk_95 ?_
          refine lv_iload hx hb dX5_walk_96 (lv_at hl 4 rfl) ?_
          refine lv_bipush (v := 10) hx hb dX5_walk_98 (by decide) ?_
          refine lv_imul hx hb dX5_walk_100 ?_
          refine lv_iload hx hb dX5_walk_101 (lv_at hl 5 rfl) ?_
          refine lv_iadd hx hb dX5_walk_103 ?_
          obtain ⟨g10, e10, hf⟩ := ob_e1 hf
          refine ob_callv (va_runV (As := [.int x5, .int (x2 ||| ((1 : Int32) <<< (x5 &&& 31))), .int (x3 - 1), .int ((x4 * 10) + x5)]) (rest := []) ⟨hx, hb, hml, hown, hts⟩ (hrc_walk g x5 (x2 ||| ((1 : Int32) <<< (x5 &&& 31))) (x3 - 1) ((x4 * 10) + x5) g10  e10) (cwV 4 hts gX5_walk_X5_walk rfl rfl rfl ⟨rfl, hd_X5_walk⟩ (ob_R hd9 (by decide))) (ob_preV hK hM (q := 29) shX_29 rfl) rfl rfl hl.1 rfl (lv_room (Nat.le_of_ble_eq_true rfl)) dX5_walk_104 ⟨Nat.le_refl _, Nat.le_refl _⟩) hS (fun H locs hM hS => ?_)
          exact w_107 (f_X5_walk_L54 rc_walk n) ih g10 x1 x2 x3 x4 x5 _ _ hM hS _ (lv_sub hl [0, 1, 2, 3, 4, 5] rfl) hf
        · rw [if_pos c9] at hf
          refine lv_goto (tgt := 107) hx hb dX5_walk_81 (by decide) ?_
          exact w_107 (f_X5_walk_L54 rc_walk n) ih g x1 x2 x3 x4 x5 _ _ hM hS _ (lv_sub hl [0, 1, 2, 3, 4, 5] rfl) hf
  subst ha
  have hl := lv_entry ([.ref (ad 29), .int x1, .int x2, .int x3, .int x4]) (n := 6) (Nat.le_of_ble_eq_true rfl)
  rw [lg_entry_eq]
  generalize (lg_sl ([.ref (ad 29), .int x1, .int x2, .int x3, .int x4]) ++ List.replicate (6 - (lg_sl ([.ref (ad 29), .int x1, .int x2, .int x3, .int x4])).length) Slot.unset).toArray = ls at hl ⊢
  have hl : lv_has ls 6 [(0, .ref (ad 29)), (1, .int x1), (2, .int x2), (3, .int x3), (4, .int x4)] := hl
  have hM := hM0
  have hS := hS0
  unfold f_X5_walk at hf
  refine lv_iload_n hx hb dX5_walk_0 rfl (lv_at hl 3 rfl) ?_
  refine lv_if_gt (tgt := 51) hx hb dX5_walk_1 (by decide) (fun c1 => ?_) (fun c1 => ?_)
  · rw [if_pos c1] at hf
    refine lv_iconst (v := 0) hx hb dX5_walk_51 (by decide) ?_
    refine lv_istore (lv' := [(5, .int 0), (0, .ref (ad 29)), (1, .int x1), (2, .int x2), (3, .int x3), (4, .int x4)]) hx hb dX5_walk_52 hl (by decide) rfl (fun ls hl => ?_)
    exact w_54 FU g x1 x2 x3 x4 0 _ _ hM hS _ (lv_sub hl [1, 2, 3, 4, 5, 0] rfl) hf
  · rw [if_neg c1] at hf
    refine lv_aload_n hx hb dX5_walk_4 rfl (lv_at hl 0 rfl) ?_
    refine ob_gr (j := 2) hx hb hts in_own hown hK hM (q := 29) shX_29 (C := RX5) (T := TX5) (N := 5) rfl 0 (by decide) hf_24 rfl dX5_walk_5 ?_
    refine lv_iload_n hx hb dX5_walk_8 rfl (lv_at hl 1 rfl) ?_
    obtain ⟨v2, e2, hf⟩ := ob_e1 hf
    refine ob_calli (va_runVN (As := [.int x1]) (rest := []) ⟨hx, hb, hml, hown, hts⟩ (c_X4_worseThan l dC dI ad cI cZ hI 1 (Nat.le_refl _) 2 isTown_2 g x1  v2 e2) ⟨va_cnB 1 hts gX5_walk_X4_worseThan_n32 rfl rfl rfl (ob_nl hK nw_X5_32) hi_X4 hd_X4_worseThan (ob_R (Nat.le_trans (by decide) hd) (by decide)), hin_X4_worseThan, hse_X4_worseThan⟩ (ob_preV hK hM (q := 2) shX_2 rfl) rfl rfl hl.1 rfl (lv_room (Nat.le_of_ble_eq_true rfl)) dX5_walk_9 ⟨Nat.le_refl _, Nat.le_refl _⟩) hS (fun H locs hM hS => ?_)
    refine lv_aload_n hx hb dX5_walk_12 rfl (lv_at hl 0 rfl) ?_
    refine ob_gi hx hb hts in_own hown hK hM (q := 29) shX_29 (C := RX5) (T := TX5) (N := 5) rfl 1 (by decide) hf_9 rfl dX5_walk_13 ?_
    obtain ⟨v3, e3, hf⟩ := ob_e1 hf
    refine ob_calli (va_runSN (As := [.int v2, .int (g 29 1)]) (rest := []) ⟨hx, hb, hml, hown, hts⟩ (c_X6_has l dC dI ad cI cZ hI 0 (Nat.le_refl _) g v2 (g 29 1)  v3 e3) ⟨va_cnB 2 hts gX5_walk_X6_has_n38 rfl rfl rfl (ob_nl hK nw_X5_38) hi_X6 hd_X6_has (ob_R (Nat.le_trans (by decide) hd) (by decide)), hst_X6_has, trivial⟩ (ob_preS hK hM) rfl rfl hl.1 rfl (lv_room (Nat.le_of_ble_eq_true rfl)) dX5_walk_16 ⟨Nat.le_refl _, Nat.le_refl _⟩) hS (fun H locs hM hS => ?_)
    refine lv_if_ne (tgt := 23) hx hb dX5_walk_19 (by decide) (fun c4 => ?_) (fun c4 => ?_)
    · rw [if_neg c4] at hf
      refine lv_aload_n hx hb dX5_walk_23 rfl (lv_at hl 0 rfl) ?_
      refine ob_gi hx hb hts in_own hown hK hM (q := 29) shX_29 (C := RX5) (T := TX5) (N := 5) rfl 3 (by decide) hf_18 rfl dX5_walk_24 ?_
      refine lv_aload_n hx hb dX5_walk_27 rfl (lv_at hl 0 rfl) ?_
      refine ob_gi hx hb hts in_own hown hK hM (q := 29) shX_29 (C := RX5) (T := TX5) (N := 5) rfl 2 (by decide) hf_15 rfl dX5_walk_28 ?_
      refine lv_icmp_ne (tgt := 40) hx hb dX5_walk_31 (by decide) (fun c5 => ?_) (fun c5 => ?_)
      · rw [if_neg c5] at hf
        exact w_40 g _ _ hM hS _ (lv_sub hl [0] rfl) hf
      · rw [if_pos c5] at hf
        refine lv_aload_n hx hb dX5_walk_34 rfl (lv_at hl 0 rfl) ?_
        refine lv_iload hx hb dX5_walk_35 (lv_at hl 4 rfl) ?_
        refine ob_pi hx hb hts in_own tyX5 tyX5_ok nmX5 hown hK hM hI hS (q := 29) shX_29 (C := RX5) (T := TX5) (N := 5) rfl 4 (by decide) hf_21 rfl rfl (ty := .int) (v := x4) (tyX5_ok 4 (by decide)) rfl rfl dX5_walk_37 (fun H locs hM hS => ?_)
        exact w_40 (ob_up g 29 4 x4) _ _ hM hS _ (lv_sub hl [0] rfl) hf
    · rw [if_pos c4] at hf
      exact ob_vret hx hb hr hlocks hM hS hf dX5_walk_22
set_option maxHeartbeats 4000000 in
theorem cN_X5_walk (l : Launch) (dC : Nat → ClassId) (dI : Nat → Nat → Nat) (ad : Nat → Nat) (cI cZ : ClassId) (hI : ob_inj shX ad) : ∀ (n : Nat) (g : Mm) (x1 x2 x3 x4 : Int32) (t : Mm), fN_X5_walk n g x1 x2 x3 x4 = some t → ob_Mv l yX5_walk wsX5_walk (2 + 1 * n) (dC, dI) vwCl shX ad cI cZ nwX [.ref (ad 29), .int x1, .int x2, .int x3, .int x4] g t := by
  intro n
  induction n with
  | zero =>
    intro g x1 x2 x3 x4 t h
    cases h
  | succ n ih =>
    intro g x1 x2 x3 x4 t h
    exact c_X5_walk l dC dI ad cI cZ hI (2 + 1 * (n + 1)) (by omega) (2 + 1 * n) (by omega) _ (ih) g x1 x2 x3 x4 t h
set_option maxHeartbeats 4000000 in
set_option maxRecDepth 100000 in
theorem c_X5_search (l : Launch) (dC : Nat → ClassId) (dI : Nat → Nat → Nat) (ad : Nat → Nat) (cI cZ : ClassId) (hI : ob_inj shX ad) (d : Nat) (hd : 9 ≤ d) (g : Mm) (x1 x2 x3 x4 : Int32) (t : Mm) (hf : f_X5_search g x1 x2 x3 x4 = some t) : ob_Mv l yX5_search wsX5_search d (dC, dI) vwCl shX ad cI cZ nwX [.ref (ad 29), .int x1, .int x2, .int x3, .int x4] g t := by
  refine ob_ofW (cc := cX5_search) (maxL := 5) (ret := none) (by decide) rfl ?_
  intro p e s m args below meth c ha hx hb hr hml hts hown hlocks hM0 hK hS0
  have hown : s.vm.findClass RX5 = some m.cls := hown
  have in_own : ∀ w ∈ wsX50, w ∈ wsX5_search := fun w h => (List.mem_cons_of_mem _ (List.mem_append_left _ (List.mem_append_right _ h)))
  have hf_9 := hts (.fieldLink RX5 9 "OneWorse$Ways" "goal" "I") (List.mem_cons_of_mem _ (List.mem_append_left _ (List.mem_append_left _ (List.mem_of_getElem? (i := 0) rfl))))
  have hf_15 := hts (.fieldLink RX5 15 "OneWorse$Ways" "asked" "I") (List.mem_cons_of_mem _ (List.mem_append_left _ (List.mem_append_left _ (List.mem_of_getElem? (i := 1) rfl))))
  have hf_18 := hts (.fieldLink RX5 18 "OneWorse$Ways" "count" "I") (List.mem_cons_of_mem _ (List.mem_append_left _ (List.mem_append_left _ (List.mem_of_getElem? (i := 2) rfl))))
  have hf_21 := hts (.fieldLink RX5 21 "OneWorse$Ways" "wanted" "I") (List.mem_cons_of_mem _ (List.mem_append_left _ (List.mem_append_left _ (List.mem_of_getElem? (i := 3) rfl))))
  subst ha
  have hl := lv_entry ([.ref (ad 29), .int x1, .int x2, .int x3, .int x4]) (n := 5) (Nat.le_of_ble_eq_true rfl)
  rw [lg_entry_eq]
  generalize (lg_sl ([.ref (ad 29), .int x1, .int x2, .int x3, .int x4]) ++ List.replicate (5 - (lg_sl ([.ref (ad 29), .int x1, .int x2, .int x3, .int x4])).length) Slot.unset).toArray = ls at hl ⊢
  have hl : lv_has ls 5 [(0, .ref (ad 29)), (1, .int x1), (2, .int x2), (3, .int x3), (4, .int x4)] := hl
  have hM := hM0
  have hS := hS0
  unfold f_X5_search at hf
  refine lv_aload_n hx hb dX5_search_0 rfl (lv_at hl 0 rfl) ?_
  refine lv_iload_n hx hb dX5_search_1 rfl (lv_at hl 2 rfl) ?_
  refine ob_pi hx hb hts in_own tyX5 tyX5_ok nmX5 hown hK hM hI hS (q := 29) shX_29 (C := RX5) (T := TX5) (N := 5) rfl 1 (by decide) hf_9 rfl rfl (ty := .int) (v := x2) (tyX5_ok 1 (by decide)) rfl rfl dX5_search_2 (fun H locs hM hS => ?_)
  refine lv_aload_n hx hb dX5_search_5 rfl (lv_at hl 0 rfl) ?_
  refine lv_iload hx hb dX5_search_6 (lv_at hl 4 rfl) ?_
  refine ob_pi hx hb hts in_own tyX5 tyX5_ok nmX5 hown hK hM hI hS (q := 29) shX_29 (C := RX5) (T := TX5) (N := 5) rfl 2 (by decide) hf_15 rfl rfl (ty := .int) (v := x4) (tyX5_ok 2 (by decide)) rfl rfl dX5_search_8 (fun H locs hM hS => ?_)
  refine lv_aload_n hx hb dX5_search_11 rfl (lv_at hl 0 rfl) ?_
  refine lv_iconst (v := 0) hx hb dX5_search_12 (by decide) ?_
  refine ob_pi hx hb hts in_own tyX5 tyX5_ok nmX5 hown hK hM hI hS (q := 29) shX_29 (C := RX5) (T := TX5) (N := 5) rfl 3 (by decide) hf_18 rfl rfl (ty := .int) (v := 0) (tyX5_ok 3 (by decide)) rfl rfl dX5_search_13 (fun H locs hM hS => ?_)
  refine lv_aload_n hx hb dX5_search_16 rfl (lv_at hl 0 rfl) ?_
  refine lv_bipush (v := (-6)) hx hb dX5_search_17 (by decide) ?_
  refine ob_pi hx hb hts in_own tyX5 tyX5_ok nmX5 hown hK hM hI hS (q := 29) shX_29 (C := RX5) (T := TX5) (N := 5) rfl 4 (by decide) hf_21 rfl rfl (ty := .int) (v := (-6)) (tyX5_ok 4 (by decide)) rfl rfl dX5_search_19 (fun H locs hM hS => ?_)
  refine lv_aload_n hx hb dX5_search_22 rfl (lv_at hl 0 rfl) ?_
  refine lv_iload_n hx hb dX5_search_23 rfl (lv_at hl 1 rfl) ?_
  refine lv_iconst (v := 1) hx hb dX5_search_24 (by decide) ?_
  refine lv_iload_n hx hb dX5_search_25 rfl (lv_at hl 1 rfl) ?_
  refine lv_ishl hx hb dX5_search_26 ?_
  refine lv_iconst (v := 1) hx hb dX5_search_27 (by decide) ?_
  refine lv_iload_n hx hb dX5_search_28 rfl (lv_at hl 2 rfl) ?_
  refine lv_ishl hx hb dX5_search_29 ?_
  refine lv_ior hx hb dX5_search_30 ?_
  refine lv_iload_n hx hb dX5_search_31 rfl (lv_at hl 3 rfl) ?_
  refine lv_iconst (v := 1) hx hb dX5_search_32 (by decide) ?_
  obtain ⟨g1, e1, hf⟩ := ob_e1 hf
  refine ob_callv (va_runV (As := [.int x1, .int (((1 : Int32) <<< (x1 &&& 31)) ||| ((1 : Int32) <<< (x2 &&& 31))), .int x3, .int 1]) (rest := []) ⟨hx, hb, hml, hown, hts⟩ (cN_X5_walk l dC dI ad cI cZ hI 6 (ob_up (ob_up (ob_up (ob_up g 29 1 x2) 29 2 x4) 29 3 0) 29 4 (-6)) x1 (((1 : Int32) <<< (x1 &&& 31)) ||| ((1 : Int32) <<< (x2 &&& 31))) x3 1  g1 e1) (cwV 4 hts gX5_search_X5_walk rfl rfl rfl ⟨rfl, hd_X5_walk⟩ (ob_R (Nat.le_trans (by decide) hd) (by decide))) (ob_preV hK hM (q := 29) shX_29 rfl) rfl rfl hl.1 rfl (lv_room (Nat.le_of_ble_eq_true rfl)) dX5_search_33 ⟨Nat.le_refl _, Nat.le_refl _⟩) hS (fun H locs hM hS => ?_)
  exact ob_vret hx hb hr hlocks hM hS hf dX5_search_36
set_option maxHeartbeats 4000000 in
set_option maxRecDepth 100000 in
theorem c_X5_count (l : Launch) (dC : Nat → ClassId) (dI : Nat → Nat → Nat) (ad : Nat → Nat) (cI cZ : ClassId) (hI : ob_inj shX ad) (d : Nat) (hd : 0 ≤ d) (g : Mm) (r : Int32) (hf : f_X5_count g = some r) : ob_Mi l yX5_count wsX5_count d (dC, dI) vwCl shX ad cI cZ nwX [.ref (ad 29)] g r g := by
  refine ob_ofW (cc := cX5_count) (maxL := 1) (ret := (some .int)) (by decide) rfl ?_
  intro p e s m args below meth c ha hx hb hr hml hts hown hlocks hM0 hK hS0
  have hown : s.vm.findClass RX5 = some m.cls := hown
  have in_own : ∀ w ∈ wsX50, w ∈ wsX5_count := fun w h => (List.mem_cons_of_mem _ (List.mem_append_right _ h))
  have hf_18 := hts (.fieldLink RX5 18 "OneWorse$Ways" "count" "I") (List.mem_cons_of_mem _ (List.mem_append_left _ (List.mem_of_getElem? (i := 0) rfl)))
  subst ha
  have hl := lv_entry ([.ref (ad 29)]) (n := 1) (Nat.le_of_ble_eq_true rfl)
  rw [lg_entry_eq]
  generalize (lg_sl ([.ref (ad 29)]) ++ List.replicate (1 - (lg_sl ([.ref (ad 29)])).length) Slot.unset).toArray = ls at hl ⊢
  have hl : lv_has ls 1 [(0, .ref (ad 29))] := hl
  have hM := hM0
  have hS := hS0
  unfold f_X5_count at hf
  refine lv_aload_n hx hb dX5_count_0 rfl (lv_at hl 0 rfl) ?_
  refine ob_gi hx hb hts in_own hown hK hM (q := 29) shX_29 (C := RX5) (T := TX5) (N := 5) rfl 3 (by decide) hf_18 rfl dX5_count_1 ?_
  exact ob_iretR hx hb hr hlocks hM hS (v := (g 29 3)) rfl hf dX5_count_4
set_option maxHeartbeats 4000000 in
set_option maxRecDepth 100000 in
theorem c_X5_wanted (l : Launch) (dC : Nat → ClassId) (dI : Nat → Nat → Nat) (ad : Nat → Nat) (cI cZ : ClassId) (hI : ob_inj shX ad) (d : Nat) (hd : 0 ≤ d) (g : Mm) (r : Int32) (hf : f_X5_wanted g = some r) : ob_Mi l yX5_wanted wsX5_wanted d (dC, dI) vwCl shX ad cI cZ nwX [.ref (ad 29)] g r g := by
  refine ob_ofW (cc := cX5_wanted) (maxL := 1) (ret := (some .int)) (by decide) rfl ?_
  intro p e s m args below meth c ha hx hb hr hml hts hown hlocks hM0 hK hS0
  have hown : s.vm.findClass RX5 = some m.cls := hown
  have in_own : ∀ w ∈ wsX50, w ∈ wsX5_wanted := fun w h => (List.mem_cons_of_mem _ (List.mem_append_right _ h))
  have hf_21 := hts (.fieldLink RX5 21 "OneWorse$Ways" "wanted" "I") (List.mem_cons_of_mem _ (List.mem_append_left _ (List.mem_of_getElem? (i := 0) rfl)))
  subst ha
  have hl := lv_entry ([.ref (ad 29)]) (n := 1) (Nat.le_of_ble_eq_true rfl)
  rw [lg_entry_eq]
  generalize (lg_sl ([.ref (ad 29)]) ++ List.replicate (1 - (lg_sl ([.ref (ad 29)])).length) Slot.unset).toArray = ls at hl ⊢
  have hl : lv_has ls 1 [(0, .ref (ad 29))] := hl
  have hM := hM0
  have hS := hS0
  unfold f_X5_wanted at hf
  refine lv_aload_n hx hb dX5_wanted_0 rfl (lv_at hl 0 rfl) ?_
  refine ob_gi hx hb hts in_own hown hK hM (q := 29) shX_29 (C := RX5) (T := TX5) (N := 5) rfl 4 (by decide) hf_21 rfl dX5_wanted_1 ?_
  exact ob_iretR hx hb hr hlocks hM hS (v := (g 29 4)) rfl hf dX5_wanted_4
set_option maxHeartbeats 4000000 in
set_option maxRecDepth 100000 in
theorem c_X6_between (l : Launch) (dC : Nat → ClassId) (dI : Nat → Nat → Nat) (ad : Nat → Nat) (cI cZ : ClassId) (hI : ob_inj shX ad) (d : Nat) (hd : 10 ≤ d) (g : Mm) (x1 x2 x3 x4 : Int32) (r : Int32) (t : Mm) (hf : f_X6_between g x1 x2 x3 x4 = some (r, t)) : ob_Mi l yX6_between wsX6_between d (dC, dI) vwCl shX ad cI cZ nwX [.ref (ad 0), .int x1, .int x2, .int x3, .int x4] g r t := by
  refine ob_ofW (cc := cX6_between) (maxL := 5) (ret := (some .int)) (by decide) rfl ?_
  intro p e s m args below meth c ha hx hb hr hml hts hown hlocks hM0 hK hS0
  have hown : s.vm.findClass RX6 = some m.cls := hown
  have in_own : ∀ w ∈ wsX60, w ∈ wsX6_between := fun w h => (List.mem_cons_of_mem _ (List.mem_append_left _ (List.mem_append_left _ (List.mem_append_right _ h))))
  have hf_55 := hts (.fieldLink RX6 55 "OneWorse" "ways" "LOneWorse$Ways;") (List.mem_cons_of_mem _ (List.mem_append_left _ (List.mem_append_left _ (List.mem_append_left _ (List.mem_append_left _ (List.mem_of_getElem? (i := 0) rfl))))))
  have hi_X5 := hts (.initialized RX5) (List.mem_cons_of_mem _ (List.mem_append_left _ (List.mem_append_left _ (List.mem_append_left _ (List.mem_append_left _ (List.mem_of_getElem? (i := 9) rfl))))))
  have hin_X5_search := hts (.instanceMethod yX5_search) (List.mem_cons_of_mem _ (List.mem_append_left _ (List.mem_append_left _ (List.mem_append_left _ (List.mem_append_left _ (List.mem_of_getElem? (i := 8) rfl))))))
  have hse_X5_search := hts (.selects RX5 yX5_search yX5_search) (List.mem_cons_of_mem _ (List.mem_append_left _ (List.mem_append_left _ (List.mem_append_left _ (List.mem_append_left _ (List.mem_of_getElem? (i := 10) rfl))))))
  have hin_X5_wanted := hts (.instanceMethod yX5_wanted) (List.mem_cons_of_mem _ (List.mem_append_left _ (List.mem_append_left _ (List.mem_append_left _ (List.mem_append_right _ (List.mem_of_getElem? (i := 9) rfl))))))
  have hse_X5_wanted := hts (.selects RX5 yX5_wanted yX5_wanted) (List.mem_cons_of_mem _ (List.mem_append_left _ (List.mem_append_left _ (List.mem_append_left _ (List.mem_append_right _ (List.mem_of_getElem? (i := 10) rfl))))))
  have hin_X5_count := hts (.instanceMethod yX5_count) (List.mem_cons_of_mem _ (List.mem_append_left _ (List.mem_append_left _ (List.mem_append_left _ (List.mem_append_right _ (List.mem_of_getElem? (i := 6) rfl))))))
  have hse_X5_count := hts (.selects RX5 yX5_count yX5_count) (List.mem_cons_of_mem _ (List.mem_append_left _ (List.mem_append_left _ (List.mem_append_left _ (List.mem_append_right _ (List.mem_of_getElem? (i := 7) rfl))))))
  subst ha
  have hl := lv_entry ([.ref (ad 0), .int x1, .int x2, .int x3, .int x4]) (n := 5) (Nat.le_of_ble_eq_true rfl)
  rw [lg_entry_eq]
  generalize (lg_sl ([.ref (ad 0), .int x1, .int x2, .int x3, .int x4]) ++ List.replicate (5 - (lg_sl ([.ref (ad 0), .int x1, .int x2, .int x3, .int x4])).length) Slot.unset).toArray = ls at hl ⊢
  have hl : lv_has ls 5 [(0, .ref (ad 0)), (1, .int x1), (2, .int x2), (3, .int x3), (4, .int x4)] := hl
  have hM := hM0
  have hS := hS0
  unfold f_X6_between at hf
  refine lv_iload_n hx hb dX6_between_0 rfl (lv_at hl 1 rfl) ?_
  obtain ⟨v1, e1, hf⟩ := ob_e1 hf
  refine ob_calli (va_runS (As := [.int x1]) (rest := []) ⟨hx, hb, hml, hown, hts⟩ (c_X6_isInsult l dC dI ad cI cZ hI 1 (Nat.le_refl _) g x1  v1 e1) (va_cwS 1 hts gX6_between_X6_isInsult rfl rfl rfl hd_X6_isInsult (ob_R (Nat.le_trans (by decide) hd) (by decide))) (ob_preS hK hM) rfl rfl hl.1 rfl (lv_room (Nat.le_of_ble_eq_true rfl)) dX6_between_1 ⟨Nat.le_refl _, Nat.le_refl _⟩) hS (fun H locs hM hS => ?_)
  refine lv_if_eq (tgt := 19) hx hb dX6_between_4 (by decide) (fun c2 => ?_) (fun c2 => ?_)
  · rw [if_pos c2] at hf
    refine lv_iconst (v := (-1)) hx hb dX6_between_19 (by decide) ?_
    exact ob_iret hx hb hr hlocks hM hS (v := (-1)) rfl hf dX6_between_20
  · rw [if_neg c2] at hf
    refine lv_iload_n hx hb dX6_between_7 rfl (lv_at hl 2 rfl) ?_
    obtain ⟨v3, e3, hf⟩ := ob_e1 hf
    refine ob_calli (va_runS (As := [.int x2]) (rest := []) ⟨hx, hb, hml, hown, hts⟩ (c_X6_isInsult l dC dI ad cI cZ hI 1 (Nat.le_refl _) g x2  v3 e3) (va_cwS 1 hts gX6_between_X6_isInsult rfl rfl rfl hd_X6_isInsult (ob_R (Nat.le_trans (by decide) hd) (by decide))) (ob_preS hK hM) rfl rfl hl.1 rfl (lv_room (Nat.le_of_ble_eq_true rfl)) dX6_between_8 ⟨Nat.le_refl _, Nat.le_refl _⟩) hS (fun H locs hM hS => ?_)
    refine lv_if_eq (tgt := 19) hx hb dX6_between_11 (by decide) (fun c4 => ?_) (fun c4 => ?_)
    · rw [if_pos c4] at hf
      refine lv_iconst (v := (-1)) hx hb dX6_between_19 (by decide) ?_
      exact ob_iret hx hb hr hlocks hM hS (v := (-1)) rfl hf dX6_between_20
    · rw [if_neg c4] at hf
      refine lv_iload_n hx hb dX6_between_14 rfl (lv_at hl 1 rfl) ?_
      refine lv_iload_n hx hb dX6_between_15 rfl (lv_at hl 2 rfl) ?_
      refine lv_icmp_ne (tgt := 21) hx hb dX6_between_16 (by decide) (fun c5 => ?_) (fun c5 => ?_)
      · rw [if_neg c5] at hf
        refine lv_iload_n hx hb dX6_between_21 rfl (lv_at hl 3 rfl) ?_
        refine lv_iconst (v := 0) hx hb dX6_between_22 (by decide) ?_
        refine lv_iconst (v := 4) hx hb dX6_between_23 (by decide) ?_
        obtain ⟨v6, e6, hf⟩ := ob_e1 hf
        refine ob_calli (va_runS (As := [.int x3, .int 0, .int 4]) (rest := []) ⟨hx, hb, hml, hown, hts⟩ (c_X6_within l dC dI ad cI cZ hI 0 (Nat.le_refl _) g x3 0 4  v6 e6) (va_cwS 3 hts gX6_between_X6_within rfl rfl rfl hd_X6_within (ob_R (Nat.le_trans (by decide) hd) (by decide))) (ob_preS hK hM) rfl rfl hl.1 rfl (lv_room (Nat.le_of_ble_eq_true rfl)) dX6_between_24 ⟨Nat.le_refl _, Nat.le_refl _⟩) hS (fun H locs hM hS => ?_)
        refine lv_if_ne (tgt := 33) hx hb dX6_between_27 (by decide) (fun c7 => ?_) (fun c7 => ?_)
        · rw [if_neg c7] at hf
          refine lv_aload_n hx hb dX6_between_33 rfl (lv_at hl 0 rfl) ?_
          refine ob_gr (j := 29) hx hb hts in_own hown hK hM (q := 0) shX_0 (C := RX6) (T := TX6) (N := 8) rfl 7 (by decide) hf_55 rfl dX6_between_34 ?_
          refine lv_iload_n hx hb dX6_between_37 rfl (lv_at hl 1 rfl) ?_
          refine lv_iload_n hx hb dX6_between_38 rfl (lv_at hl 2 rfl) ?_
          refine lv_iload_n hx hb dX6_between_39 rfl (lv_at hl 3 rfl) ?_
          refine lv_iload hx hb dX6_between_40 (lv_at hl 4 rfl) ?_
          obtain ⟨g8, e8, hf⟩ := ob_e1 hf
          refine ob_callv (va_runVN (As := [.int x1, .int x2, .int x3, .int x4]) (rest := []) ⟨hx, hb, hml, hown, hts⟩ (c_X5_search l dC dI ad cI cZ hI 9 (Nat.le_refl _) g x1 x2 x3 x4  g8 e8) ⟨va_cnB 4 hts gX6_between_X5_search_n190 rfl rfl rfl (ob_nl hK nw_X6_190) hi_X5 hd_X5_search (ob_R (Nat.le_trans (by decide) hd) (by decide)), hin_X5_search, hse_X5_search⟩ (ob_preV hK hM (q := 29) shX_29 rfl) rfl rfl hl.1 rfl (lv_room (Nat.le_of_ble_eq_true rfl)) dX6_between_42 ⟨Nat.le_refl _, Nat.le_refl _⟩) hS (fun H locs hM hS => ?_)
          refine lv_iload hx hb dX6_between_45 (lv_at hl 4 rfl) ?_
          refine lv_iconst (v := (-1)) hx hb dX6_between_47 (by decide) ?_
          refine lv_icmp_ne (tgt := 61) hx hb dX6_between_48 (by decide) (fun c9 => ?_) (fun c9 => ?_)
          · rw [if_neg c9] at hf
            refine lv_aload_n hx hb dX6_between_61 rfl (lv_at hl 0 rfl) ?_
            refine ob_gr (j := 29) hx hb hts in_own hown hK hM (q := 0) shX_0 (C := RX6) (T := TX6) (N := 8) rfl 7 (by decide) hf_55 rfl dX6_between_62 ?_
            obtain ⟨v10, e10, hf⟩ := ob_e1 hf
            refine ob_calli (va_runVN (As := []) (rest := []) ⟨hx, hb, hml, hown, hts⟩ (c_X5_wanted l dC dI ad cI cZ hI 0 (Nat.le_refl _) g8  v10 e10) ⟨va_cnB 0 hts gX6_between_X5_wanted_n196 rfl rfl rfl (ob_nl hK nw_X6_196) hi_X5 hd_X5_wanted (ob_R (Nat.le_trans (by decide) hd) (by decide)), hin_X5_wanted, hse_X5_wanted⟩ (ob_preV hK hM (q := 29) shX_29 rfl) rfl rfl hl.1 rfl (lv_room (Nat.le_of_ble_eq_true rfl)) dX6_between_65 ⟨Nat.le_refl _, Nat.le_refl _⟩) hS (fun H locs hM hS => ?_)
            exact ob_iret hx hb hr hlocks hM hS (v := v10) rfl hf dX6_between_68
          · rw [if_pos c9] at hf
            refine lv_aload_n hx hb dX6_between_51 rfl (lv_at hl 0 rfl) ?_
            refine ob_gr (j := 29) hx hb hts in_own hown hK hM (q := 0) shX_0 (C := RX6) (T := TX6) (N := 8) rfl 7 (by decide) hf_55 rfl dX6_between_52 ?_
            obtain ⟨v11, e11, hf⟩ := ob_e1 hf
            refine ob_calli (va_runVN (As := []) (rest := []) ⟨hx, hb, hml, hown, hts⟩ (c_X5_count l dC dI ad cI cZ hI 0 (Nat.le_refl _) g8  v11 e11) ⟨va_cnB 0 hts gX6_between_X5_count_n193 rfl rfl rfl (ob_nl hK nw_X6_193) hi_X5 hd_X5_count (ob_R (Nat.le_trans (by decide) hd) (by decide)), hin_X5_count, hse_X5_count⟩ (ob_preV hK hM (q := 29) shX_29 rfl) rfl rfl hl.1 rfl (lv_room (Nat.le_of_ble_eq_true rfl)) dX6_between_55 ⟨Nat.le_refl _, Nat.le_refl _⟩) hS (fun H locs hM hS => ?_)
            refine lv_goto (tgt := 68) hx hb dX6_between_58 (by decide) ?_
            exact ob_iret hx hb hr hlocks hM hS (v := v11) rfl hf dX6_between_68
        · rw [if_pos c7] at hf
          refine lv_bipush (v := (-2)) hx hb dX6_between_30 (by decide) ?_
          exact ob_iret hx hb hr hlocks hM hS (v := (-2)) rfl hf dX6_between_32
      · rw [if_pos c5] at hf
        refine lv_iconst (v := (-1)) hx hb dX6_between_19 (by decide) ?_
        exact ob_iret hx hb hr hlocks hM hS (v := (-1)) rfl hf dX6_between_20
set_option maxHeartbeats 4000000 in
set_option maxRecDepth 100000 in
theorem c_X6_high (l : Launch) (dC : Nat → ClassId) (dI : Nat → Nat → Nat) (ad : Nat → Nat) (cI cZ : ClassId) (hI : ob_inj shX ad) (d : Nat) (hd : 28 ≤ d) (g : Mm) (x1 : Int32) (r : Int32) (t : Mm) (hf : f_X6_high g x1 = some (r, t)) : ob_Mi l yX6_high wsX6_high d (dC, dI) vwCl shX ad cI cZ nwX [.ref (ad 0), .int x1] g r t := by
  refine ob_ofW (cc := cX6_high) (maxL := 2) (ret := (some .int)) (by decide) rfl ?_
  intro p e s m args below meth c ha hx hb hr hml hts hown hlocks hM0 hK hS0
  have hown : s.vm.findClass RX6 = some m.cls := hown
  have in_own : ∀ w ∈ wsX60, w ∈ wsX6_high := fun w h => (List.mem_cons_of_mem _ (List.mem_append_left _ (List.mem_append_left _ (List.mem_append_right _ h))))
  have hf_34 := hts (.fieldLink RX6 34 "OneWorse" "contest" "LOneWorse$Contest;") (List.mem_cons_of_mem _ (List.mem_append_left _ (List.mem_append_left _ (List.mem_append_left _ (List.mem_append_left _ (List.mem_of_getElem? (i := 0) rfl))))))
  have hf_19 := hts (.fieldLink RX6 19 "OneWorse" "town" "LOneWorse$Town;") (List.mem_cons_of_mem _ (List.mem_append_left _ (List.mem_append_left _ (List.mem_append_left _ (List.mem_append_left _ (List.mem_of_getElem? (i := 1) rfl))))))
  have hi_X4 := hts (.initialized RX4) (List.mem_cons_of_mem _ (List.mem_append_left _ (List.mem_append_left _ (List.mem_append_left _ (List.mem_append_left _ (List.mem_of_getElem? (i := 10) rfl))))))
  have hin_X4_worseThan := hts (.instanceMethod yX4_worseThan) (List.mem_cons_of_mem _ (List.mem_append_left _ (List.mem_append_left _ (List.mem_append_left _ (List.mem_append_left _ (List.mem_of_getElem? (i := 9) rfl))))))
  have hse_X4_worseThan := hts (.selects RX4 yX4_worseThan yX4_worseThan) (List.mem_cons_of_mem _ (List.mem_append_left _ (List.mem_append_left _ (List.mem_append_left _ (List.mem_append_left _ (List.mem_of_getElem? (i := 11) rfl))))))
  have hi_X0 := hts (.initialized RX0) (List.mem_cons_of_mem _ (List.mem_append_left _ (List.mem_append_left _ (List.mem_append_left _ (List.mem_append_left _ (List.mem_of_getElem? (i := 17) rfl))))))
  have hin_X0_spin := hts (.instanceMethod yX0_spin) (List.mem_cons_of_mem _ (List.mem_append_left _ (List.mem_append_left _ (List.mem_append_left _ (List.mem_append_left _ (List.mem_of_getElem? (i := 16) rfl))))))
  have hse_X0_spin := hts (.selects RX0 yX0_spin yX0_spin) (List.mem_cons_of_mem _ (List.mem_append_left _ (List.mem_append_left _ (List.mem_append_left _ (List.mem_append_left _ (List.mem_of_getElem? (i := 18) rfl))))))
  have hin_X0_spun := hts (.instanceMethod yX0_spun) (List.mem_cons_of_mem _ (List.mem_append_left _ (List.mem_append_left _ (List.mem_append_left _ (List.mem_append_right _ (List.mem_append_right _ (List.mem_of_getElem? (i := 6) rfl)))))))
  have hse_X0_spun := hts (.selects RX0 yX0_spun yX0_spun) (List.mem_cons_of_mem _ (List.mem_append_left _ (List.mem_append_left _ (List.mem_append_left _ (List.mem_append_right _ (List.mem_append_right _ (List.mem_of_getElem? (i := 7) rfl)))))))
  subst ha
  have hl := lv_entry ([.ref (ad 0), .int x1]) (n := 2) (Nat.le_of_ble_eq_true rfl)
  rw [lg_entry_eq]
  generalize (lg_sl ([.ref (ad 0), .int x1]) ++ List.replicate (2 - (lg_sl ([.ref (ad 0), .int x1])).length) Slot.unset).toArray = ls at hl ⊢
  have hl : lv_has ls 2 [(0, .ref (ad 0)), (1, .int x1)] := hl
  have hM := hM0
  have hS := hS0
  unfold f_X6_high at hf
  refine lv_iload_n hx hb dX6_high_0 rfl (lv_at hl 1 rfl) ?_
  obtain ⟨v1, e1, hf⟩ := ob_e1 hf
  refine ob_calli (va_runS (As := [.int x1]) (rest := []) ⟨hx, hb, hml, hown, hts⟩ (c_X6_isInsult l dC dI ad cI cZ hI 1 (Nat.le_refl _) g x1  v1 e1) (va_cwS 1 hts gX6_high_X6_isInsult rfl rfl rfl hd_X6_isInsult (ob_R (Nat.le_trans (by decide) hd) (by decide))) (ob_preS hK hM) rfl rfl hl.1 rfl (lv_room (Nat.le_of_ble_eq_true rfl)) dX6_high_1 ⟨Nat.le_refl _, Nat.le_refl _⟩) hS (fun H locs hM hS => ?_)
  refine lv_if_ne (tgt := 9) hx hb dX6_high_4 (by decide) (fun c2 => ?_) (fun c2 => ?_)
  · rw [if_neg c2] at hf
    refine lv_aload_n hx hb dX6_high_9 rfl (lv_at hl 0 rfl) ?_
    refine ob_gr (j := 17) hx hb hts in_own hown hK hM (q := 0) shX_0 (C := RX6) (T := TX6) (N := 8) rfl 4 (by decide) hf_34 rfl dX6_high_10 ?_
    refine lv_aload_n hx hb dX6_high_13 rfl (lv_at hl 0 rfl) ?_
    refine ob_gr (j := 2) hx hb hts in_own hown hK hM (q := 0) shX_0 (C := RX6) (T := TX6) (N := 8) rfl 1 (by decide) hf_19 rfl dX6_high_14 ?_
    refine lv_iload_n hx hb dX6_high_17 rfl (lv_at hl 1 rfl) ?_
    obtain ⟨v3, e3, hf⟩ := ob_e1 hf
    refine ob_calli (va_runVN (As := [.int x1]) (rest := [.ref (ad 17)]) ⟨hx, hb, hml, hown, hts⟩ (c_X4_worseThan l dC dI ad cI cZ hI 1 (Nat.le_refl _) 2 isTown_2 g x1  v3 e3) ⟨va_cnB 1 hts gX6_high_X4_worseThan_n102 rfl rfl rfl (ob_nl hK nw_X6_102) hi_X4 hd_X4_worseThan (ob_R (Nat.le_trans (by decide) hd) (by decide)), hin_X4_worseThan, hse_X4_worseThan⟩ (ob_preV hK hM (q := 2) shX_2 rfl) rfl rfl hl.1 rfl (lv_room (Nat.le_of_ble_eq_true rfl)) dX6_high_18 ⟨Nat.le_refl _, Nat.le_refl _⟩) hS (fun H locs hM hS => ?_)
    refine lv_iconst (v := 1) hx hb dX6_high_21 (by decide) ?_
    refine lv_iload_n hx hb dX6_high_22 rfl (lv_at hl 1 rfl) ?_
    refine lv_ishl hx hb dX6_high_23 ?_
    refine lv_sipush (v := 1023) hx hb dX6_high_24 (by decide) ?_
    refine lv_sipush (v := 1023) hx hb dX6_high_27 (by decide) ?_
    obtain ⟨g4, e4, hf⟩ := ob_e1 hf
    refine ob_callv (va_runVN (As := [.int v3, .int ((1 : Int32) <<< (x1 &&& 31)), .int 1023, .int 1023]) (rest := []) ⟨hx, hb, hml, hown, hts⟩ (c_X0_spin l dC dI ad cI cZ hI 27 (Nat.le_refl _) g v3 ((1 : Int32) <<< (x1 &&& 31)) 1023 1023  g4 e4) ⟨va_cnB 4 hts gX6_high_X0_spin_n152 rfl rfl rfl (ob_nl hK nw_X6_152) hi_X0 hd_X0_spin (ob_R (Nat.le_trans (by decide) hd) (by decide)), hin_X0_spin, hse_X0_spin⟩ (ob_preV hK hM (q := 17) shX_17 rfl) rfl rfl hl.1 rfl (lv_room (Nat.le_of_ble_eq_true rfl)) dX6_high_30 ⟨Nat.le_refl _, Nat.le_refl _⟩) hS (fun H locs hM hS => ?_)
    refine lv_aload_n hx hb dX6_high_33 rfl (lv_at hl 0 rfl) ?_
    refine ob_gr (j := 17) hx hb hts in_own hown hK hM (q := 0) shX_0 (C := RX6) (T := TX6) (N := 8) rfl 4 (by decide) hf_34 rfl dX6_high_34 ?_
    obtain ⟨v5, e5, hf⟩ := ob_e1 hf
    refine ob_calli (va_runVN (As := []) (rest := []) ⟨hx, hb, hml, hown, hts⟩ (c_X0_spun l dC dI ad cI cZ hI 0 (Nat.le_refl _) g4  v5 e5) ⟨va_cnB 0 hts gX6_high_X0_spun_n156 rfl rfl rfl (ob_nl hK nw_X6_156) hi_X0 hd_X0_spun (ob_R (Nat.le_trans (by decide) hd) (by decide)), hin_X0_spun, hse_X0_spun⟩ (ob_preV hK hM (q := 17) shX_17 rfl) rfl rfl hl.1 rfl (lv_room (Nat.le_of_ble_eq_true rfl)) dX6_high_37 ⟨Nat.le_refl _, Nat.le_refl _⟩) hS (fun H locs hM hS => ?_)
    exact ob_iret hx hb hr hlocks hM hS (v := v5) rfl hf dX6_high_40
  · rw [if_pos c2] at hf
    refine lv_iconst (v := (-1)) hx hb dX6_high_7 (by decide) ?_
    exact ob_iret hx hb hr hlocks hM hS (v := (-1)) rfl hf dX6_high_8
set_option maxHeartbeats 4000000 in
set_option maxRecDepth 100000 in
theorem c_X6_isImage (l : Launch) (dC : Nat → ClassId) (dI : Nat → Nat → Nat) (ad : Nat → Nat) (cI cZ : ClassId) (hI : ob_inj shX ad) (d : Nat) (hd : 1 ≤ d) (g : Mm) (x0 : Int32) (r : Int32) (hf : f_X6_isImage x0 = some r) : ob_Mi l yX6_isImage wsX6_isImage d (dC, dI) vwCl shX ad cI cZ nwX [.int x0] g r g := by
  refine ob_ofW (cc := cX6_isImage) (maxL := 1) (ret := (some .boolean)) (by decide) rfl ?_
  intro p e s m args below meth c ha hx hb hr hml hts hown hlocks hM0 hK hS0
  have hown : s.vm.findClass RX6 = some m.cls := hown
  subst ha
  have hl := lv_entry ([.int x0]) (n := 1) (Nat.le_of_ble_eq_true rfl)
  rw [lg_entry_eq]
  generalize (lg_sl ([.int x0]) ++ List.replicate (1 - (lg_sl ([.int x0])).length) Slot.unset).toArray = ls at hl ⊢
  have hl : lv_has ls 1 [(0, .int x0)] := hl
  have hM := hM0
  have hS := hS0
  unfold f_X6_isImage at hf
  refine lv_iload_n hx hb dX6_isImage_0 rfl (lv_at hl 0 rfl) ?_
  refine lv_iconst (v := 0) hx hb dX6_isImage_1 (by decide) ?_
  refine lv_iconst (v := 1) hx hb dX6_isImage_2 (by decide) ?_
  obtain ⟨v1, e1, hf⟩ := ob_e1 hf
  refine ob_calli (va_runS (As := [.int x0, .int 0, .int 1]) (rest := []) ⟨hx, hb, hml, hown, hts⟩ (c_X6_within l dC dI ad cI cZ hI 0 (Nat.le_refl _) g x0 0 1  v1 e1) (va_cwS 3 hts gX6_isImage_X6_within rfl rfl rfl hd_X6_within (ob_R (Nat.le_trans (by decide) hd) (by decide))) (ob_preS hK hM) rfl rfl hl.1 rfl (lv_room (Nat.le_of_ble_eq_true rfl)) dX6_isImage_3 ⟨Nat.le_refl _, Nat.le_refl _⟩) hS (fun H locs hM hS => ?_)
  obtain ⟨u2, e2, hf⟩ := ob_e1 hf
  exact ob_iretR hx hb hr hlocks hM hS (v := v1) (ob_zb_in e2) hf dX6_isImage_6
set_option maxHeartbeats 4000000 in
set_option maxRecDepth 100000 in
theorem c_X6_imageOf (l : Launch) (dC : Nat → ClassId) (dI : Nat → Nat → Nat) (ad : Nat → Nat) (cI cZ : ClassId) (hI : ob_inj shX ad) (d : Nat) (hd : 0 ≤ d) (g : Mm) (x1 : Int32) (r : Nat) (hf : f_X6_imageOf g x1 = some r) : ob_Mr l yX6_imageOf wsX6_imageOf d (dC, dI) vwCl shX ad cI cZ nwX [.ref (ad 0), .int x1] g r g := by
  refine ob_ofW (cc := cX6_imageOf) (maxL := 2) (ret := (some (.object "OneWorse$Town"))) (by decide) rfl ?_
  intro p e s m args below meth c ha hx hb hr hml hts hown hlocks hM0 hK hS0
  have hown : s.vm.findClass RX6 = some m.cls := hown
  have in_own : ∀ w ∈ wsX60, w ∈ wsX6_imageOf := fun w h => (List.mem_cons_of_mem _ (List.mem_append_right _ h))
  have hf_26 := hts (.fieldLink RX6 26 "OneWorse" "secondImage" "LOneWorse$Town;") (List.mem_cons_of_mem _ (List.mem_append_left _ (List.mem_of_getElem? (i := 1) rfl)))
  have hf_23 := hts (.fieldLink RX6 23 "OneWorse" "firstImage" "LOneWorse$Town;") (List.mem_cons_of_mem _ (List.mem_append_left _ (List.mem_of_getElem? (i := 0) rfl)))
  subst ha
  have hl := lv_entry ([.ref (ad 0), .int x1]) (n := 2) (Nat.le_of_ble_eq_true rfl)
  rw [lg_entry_eq]
  generalize (lg_sl ([.ref (ad 0), .int x1]) ++ List.replicate (2 - (lg_sl ([.ref (ad 0), .int x1])).length) Slot.unset).toArray = ls at hl ⊢
  have hl : lv_has ls 2 [(0, .ref (ad 0)), (1, .int x1)] := hl
  have hM := hM0
  have hS := hS0
  unfold f_X6_imageOf at hf
  refine lv_iload_n hx hb dX6_imageOf_0 rfl (lv_at hl 1 rfl) ?_
  refine lv_if_ne (tgt := 11) hx hb dX6_imageOf_1 (by decide) (fun c1 => ?_) (fun c1 => ?_)
  · rw [if_neg c1] at hf
    refine lv_aload_n hx hb dX6_imageOf_11 rfl (lv_at hl 0 rfl) ?_
    refine ob_gr (j := 12) hx hb hts in_own hown hK hM (q := 0) shX_0 (C := RX6) (T := TX6) (N := 8) rfl 3 (by decide) hf_26 rfl dX6_imageOf_12 ?_
    exact ob_aretR hx hb hr hlocks hM hS (v := 12) hf dX6_imageOf_15
  · rw [if_pos c1] at hf
    refine lv_aload_n hx hb dX6_imageOf_4 rfl (lv_at hl 0 rfl) ?_
    refine ob_gr (j := 7) hx hb hts in_own hown hK hM (q := 0) shX_0 (C := RX6) (T := TX6) (N := 8) rfl 2 (by decide) hf_23 rfl dX6_imageOf_5 ?_
    refine lv_goto (tgt := 15) hx hb dX6_imageOf_8 (by decide) ?_
    exact ob_aretR hx hb hr hlocks hM hS (v := 7) hf dX6_imageOf_15
set_option maxHeartbeats 4000000 in
set_option maxRecDepth 100000 in
theorem c_X4_copy (l : Launch) (dC : Nat → ClassId) (dI : Nat → Nat → Nat) (ad : Nat → Nat) (cI cZ : ClassId) (hI : ob_inj shX ad) (d : Nat) (hd : 2 ≤ d) (b : Nat) (hT : isTown b) (b1 : Nat) (hT1 : isTown b1) (g : Mm) (t : Mm) (hf : f_X4_copy b b1 g = some t) : ob_Mv l yX4_copy wsX4_copy d (dC, dI) vwCl shX ad cI cZ nwX [.ref (ad b), .ref (ad b1)] g t := by
  refine ob_ofW (cc := cX4_copy) (maxL := 3) (ret := none) (by decide) rfl ?_
  intro p e s m args below meth c ha hx hb hr hml hts hown hlocks hM0 hK hS0
  have hown : s.vm.findClass RX4 = some m.cls := hown
  have in_own : ∀ w ∈ wsX40, w ∈ wsX4_copy := fun w h => (List.mem_cons_of_mem _ (List.mem_append_right _ h))
  have hf_9 := hts (.fieldLink RX4 9 "OneWorse$Town" "worse" "[I") (List.mem_cons_of_mem _ (List.mem_append_left _ (List.mem_append_left _ (List.mem_of_getElem? (i := 0) rfl))))
  have hi_X6 := hts (.initialized RX6) (List.mem_cons_of_mem _ (List.mem_append_left _ (List.mem_append_left _ (List.mem_of_getElem? (i := 11) rfl))))
  have hst_X6_store := hts (.static yX6_store) (List.mem_cons_of_mem _ (List.mem_append_left _ (List.mem_append_left _ (List.mem_of_getElem? (i := 13) rfl))))
  have hf_15 := hts (.fieldLink RX4 15 "OneWorse$Town" "needed" "[I") (List.mem_cons_of_mem _ (List.mem_append_left _ (List.mem_append_left _ (List.mem_of_getElem? (i := 1) rfl))))
  have hf_24 := hts (.fieldLink RX4 24 "OneWorse$Town" "kept" "Z") (List.mem_cons_of_mem _ (List.mem_append_left _ (List.mem_append_left _ (List.mem_of_getElem? (i := 4) rfl))))
  have hf_18 := hts (.fieldLink RX4 18 "OneWorse$Town" "traits" "[I") (List.mem_cons_of_mem _ (List.mem_append_left _ (List.mem_append_left _ (List.mem_of_getElem? (i := 2) rfl))))
  have hf_21 := hts (.fieldLink RX4 21 "OneWorse$Town" "known" "[I") (List.mem_cons_of_mem _ (List.mem_append_left _ (List.mem_append_left _ (List.mem_of_getElem? (i := 3) rfl))))
  have w_2 : ∀ (k42 : Mm → Int32 → Option (Mm)) (hk42 : ∀ (g : Mm) (x2 : Int32) (H : Heap) (locs : List Loc), va_P (dC, dI) vwCl (ob_ws shX ad cI cZ g) H → va_S (ob_A shX ad) s.heap H locs → ∀ (ls : Array Slot), lv_has ls 3 [(0, .ref (ad b)), (1, .ref (ad b1)), (2, .int x2)] → k42 g x2 = some t → W p l e (rmN d) s m args below meth c H locs 0 0 (MQ below (ob_Qv (dC, dI) vwCl shX ad cI cZ t) args s 0 0 (ob_A shX ad)) (F0 m 42 ls [])) (n : Nat), ∀ (g : Mm) (x2 : Int32) (H : Heap) (locs : List Loc), va_P (dC, dI) vwCl (ob_ws shX ad cI cZ g) H → va_S (ob_A shX ad) s.heap H locs → ∀ (ls : Array Slot), lv_has ls 3 [(0, .ref (ad b)), (1, .ref (ad b1)), (2, .int x2)] → f_X4_copy_L2 b b1 k42 n g x2 = some t → W p l e (rmN d) s m args below meth c H locs 0 0 (MQ below (ob_Qv (dC, dI) vwCl shX ad cI cZ t) args s 0 0 (ob_A shX ad)) (F0 m 2 ls []) := by
    intro k42 hk42 n
    induction n with
    | zero =>
      intro g x2 H locs hM hS ls hl hf
      cases hf
    | succ n ih =>
      intro g x2 H locs hM hS ls hl hf
      unfold f_X4_copy_L2 at hf
      refine lv_iload_n hx hb dX4_copy_2 rfl (lv_at hl 2 rfl) ?_
      refine lv_bipush (v := 10) hx hb dX4_copy_3 (by decide) ?_
      refine lv_icmp_ge (tgt := 40) hx hb dX4_copy_5 (by decide) (fun c1 => ?_) (fun c1 => ?_)
      · rw [if_pos c1] at hf
        refine lv_iconst (v := 0) hx hb dX4_copy_40 (by decide) ?_
        refine lv_istore_n (lv' := [(2, .int 0), (0, .ref (ad b)), (1, .ref (ad b1))]) hx hb dX4_copy_41 rfl hl (by decide) rfl (fun ls hl => ?_)
        exact hk42 g 0 _ _ hM hS _ (lv_sub hl [1, 2, 0] rfl) hf
      · rw [if_neg c1] at hf
        refine lv_aload_n hx hb dX4_copy_8 rfl (lv_at hl 0 rfl) ?_
        refine ob_gr (j := b + 1) hx hb hts in_own hown hK hM (q := b) (shT_0 hT) (C := RX4) (T := TX4) (N := 5) rfl 0 (by decide) hf_9 rfl dX4_copy_9 ?_
        refine lv_iload_n hx hb dX4_copy_12 rfl (lv_at hl 2 rfl) ?_
        refine lv_aload_n hx hb dX4_copy_13 rfl (lv_at hl 1 rfl) ?_
        refine lv_iload_n hx hb dX4_copy_14 rfl (lv_at hl 2 rfl) ?_
        obtain ⟨v2, e2, hf⟩ := ob_e1 hf
        refine ob_calli (va_runV (As := [.int x2]) (rest := [.int x2, .ref (ad (b + 1))]) ⟨hx, hb, hml, hown, hts⟩ (c_X4_worseThan l dC dI ad cI cZ hI 1 (Nat.le_refl _) b1 hT1 g x2  v2 e2) (cwV 1 hts gX4_copy_X4_worseThan rfl rfl rfl ⟨rfl, hd_X4_worseThan⟩ (ob_R (Nat.le_trans (by decide) hd) (by decide))) (ob_preV hK hM (q := b1) (shT_0 hT1) rfl) rfl rfl hl.1 rfl (lv_room (Nat.le_of_ble_eq_true rfl)) dX4_copy_15 ⟨Nat.le_refl _, Nat.le_refl _⟩) hS (fun H locs hM hS => ?_)
        obtain ⟨g3, e3, hf⟩ := ob_e1 hf
        refine ob_callv (va_runSN (As := [.ref (ad (b + 1)), .int x2, .int v2]) (rest := []) ⟨hx, hb, hml, hown, hts⟩ (c_X6_store l dC dI ad cI cZ hI 0 (Nat.le_refl _) g (b + 1) 10 (shT_1 hT) x2 v2  g3 e3) ⟨va_cnB 3 hts gX4_copy_X6_store_n28 rfl rfl rfl (ob_nl hK nw_X4_28) hi_X6 hd_X6_store (ob_R (Nat.le_trans (by decide) hd) (by decide)), hst_X6_store, trivial⟩ (ob_preS hK hM) rfl rfl hl.1 rfl (lv_room (Nat.le_of_ble_eq_true rfl)) dX4_copy_18 ⟨Nat.le_refl _, Nat.le_refl _⟩) hS (fun H locs hM hS => ?_)
        refine lv_aload_n hx hb dX4_copy_21 rfl (lv_at hl 0 rfl) ?_
        refine ob_gr (j := b + 2) hx hb hts in_own hown hK hM (q := b) (shT_0 hT) (C := RX4) (T := TX4) (N := 5) rfl 1 (by decide) hf_15 rfl dX4_copy_22 ?_
        refine lv_iload_n hx hb dX4_copy_25 rfl (lv_at hl 2 rfl) ?_
        refine lv_aload_n hx hb dX4_copy_26 rfl (lv_at hl 1 rfl) ?_
        refine lv_iload_n hx hb dX4_copy_27 rfl (lv_at hl 2 rfl) ?_
        obtain ⟨v4, e4, hf⟩ := ob_e1 hf
        refine ob_calli (va_runV (As := [.int x2]) (rest := [.int x2, .ref (ad (b + 2))]) ⟨hx, hb, hml, hown, hts⟩ (c_X4_neededBy l dC dI ad cI cZ hI 1 (Nat.le_refl _) b1 hT1 g3 x2  v4 e4) (cwV 1 hts gX4_copy_X4_neededBy rfl rfl rfl ⟨rfl, hd_X4_neededBy⟩ (ob_R (Nat.le_trans (by decide) hd) (by decide))) (ob_preV hK hM (q := b1) (shT_0 hT1) rfl) rfl rfl hl.1 rfl (lv_room (Nat.le_of_ble_eq_true rfl)) dX4_copy_28 ⟨Nat.le_refl _, Nat.le_refl _⟩) hS (fun H locs hM hS => ?_)
        obtain ⟨g5, e5, hf⟩ := ob_e1 hf
        refine ob_callv (va_runSN (As := [.ref (ad (b + 2)), .int x2, .int v4]) (rest := []) ⟨hx, hb, hml, hown, hts⟩ (c_X6_store l dC dI ad cI cZ hI 0 (Nat.le_refl _) g3 (b + 2) 10 (shT_2 hT) x2 v4  g5 e5) ⟨va_cnB 3 hts gX4_copy_X6_store_n28 rfl rfl rfl (ob_nl hK nw_X4_28) hi_X6 hd_X6_store (ob_R (Nat.le_trans (by decide) hd) (by decide)), hst_X6_store, trivial⟩ (ob_preS hK hM) rfl rfl hl.1 rfl (lv_room (Nat.le_of_ble_eq_true rfl)) dX4_copy_31 ⟨Nat.le_refl _, Nat.le_refl _⟩) hS (fun H locs hM hS => ?_)
        refine lv_iinc (v := (x2 + 1)) (lv' := [(2, .int (x2 + 1)), (0, .ref (ad b)), (1, .ref (ad b1))]) hx hb dX4_copy_34 hl (k := 2) rfl rfl (by decide) rfl (fun ls hl => ?_)
        refine lv_goto (tgt := 2) hx hb dX4_copy_37 (by decide) ?_
        exact ih g5 (x2 + 1) _ _ hM hS _ (lv_sub hl [1, 2, 0] rfl) hf
  have w_42 : ∀ (n : Nat), ∀ (g : Mm) (x2 : Int32) (H : Heap) (locs : List Loc), va_P (dC, dI) vwCl (ob_ws shX ad cI cZ g) H → va_S (ob_A shX ad) s.heap H locs → ∀ (ls : Array Slot), lv_has ls 3 [(0, .ref (ad b)), (1, .ref (ad b1)), (2, .int x2)] → f_X4_copy_L42 b b1 n g x2 = some t → W p l e (rmN d) s m args below meth c H locs 0 0 (MQ below (ob_Qv (dC, dI) vwCl shX ad cI cZ t) args s 0 0 (ob_A shX ad)) (F0 m 42 ls []) := by
    intro n
    induction n with
    | zero =>
      intro g x2 H locs hM hS ls hl hf
      cases hf
    | succ n ih =>
      intro g x2 H locs hM hS ls hl hf
      unfold f_X4_copy_L42 at hf
      refine lv_iload_n hx hb dX4_copy_42 rfl (lv_at hl 2 rfl) ?_
      refine lv_iconst (v := 5) hx hb dX4_copy_43 (by decide) ?_
      refine lv_icmp_ge (tgt := 79) hx hb dX4_copy_44 (by decide) (fun c6 => ?_) (fun c6 => ?_)
      · rw [if_pos c6] at hf
        refine lv_aload_n hx hb dX4_copy_79 rfl (lv_at hl 0 rfl) ?_
        refine lv_iconst (v := 1) hx hb dX4_copy_80 (by decide) ?_
        refine ob_pi hx hb hts in_own tyX4 tyX4_ok nmX4 hown hK hM hI hS (q := b) (shT_0 hT) (C := RX4) (T := TX4) (N := 5) rfl 4 (by decide) hf_24 rfl rfl (ty := .boolean) (v := 1) (tyX4_ok 4 (by decide)) rfl rfl dX4_copy_81 (fun H locs hM hS => ?_)
        exact ob_vret hx hb hr hlocks hM hS hf dX4_copy_84
      · rw [if_neg c6] at hf
        refine lv_aload_n hx hb dX4_copy_47 rfl (lv_at hl 0 rfl) ?_
        refine ob_gr (j := b + 3) hx hb hts in_own hown hK hM (q := b) (shT_0 hT) (C := RX4) (T := TX4) (N := 5) rfl 2 (by decide) hf_18 rfl dX4_copy_48 ?_
        refine lv_iload_n hx hb dX4_copy_51 rfl (lv_at hl 2 rfl) ?_
        refine lv_aload_n hx hb dX4_copy_52 rfl (lv_at hl 1 rfl) ?_
        refine lv_iload_n hx hb dX4_copy_53 rfl (lv_at hl 2 rfl) ?_
        obtain ⟨v7, e7, hf⟩ := ob_e1 hf
        refine ob_calli (va_runV (As := [.int x2]) (rest := [.int x2, .ref (ad (b + 3))]) ⟨hx, hb, hml, hown, hts⟩ (c_X4_traitsOf l dC dI ad cI cZ hI 1 (Nat.le_refl _) b1 hT1 g x2  v7 e7) (cwV 1 hts gX4_copy_X4_traitsOf rfl rfl rfl ⟨rfl, hd_X4_traitsOf⟩ (ob_R (Nat.le_trans (by decide) hd) (by decide))) (ob_preV hK hM (q := b1) (shT_0 hT1) rfl) rfl rfl hl.1 rfl (lv_room (Nat.le_of_ble_eq_true rfl)) dX4_copy_54 ⟨Nat.le_refl _, Nat.le_refl _⟩) hS (fun H locs hM hS => ?_)
        obtain ⟨g8, e8, hf⟩ := ob_e1 hf
        refine ob_callv (va_runSN (As := [.ref (ad (b + 3)), .int x2, .int v7]) (rest := []) ⟨hx, hb, hml, hown, hts⟩ (c_X6_store l dC dI ad cI cZ hI 0 (Nat.le_refl _) g (b + 3) 5 (shT_3 hT) x2 v7  g8 e8) ⟨va_cnB 3 hts gX4_copy_X6_store_n28 rfl rfl rfl (ob_nl hK nw_X4_28) hi_X6 hd_X6_store (ob_R (Nat.le_trans (by decide) hd) (by decide)), hst_X6_store, trivial⟩ (ob_preS hK hM) rfl rfl hl.1 rfl (lv_room (Nat.le_of_ble_eq_true rfl)) dX4_copy_57 ⟨Nat.le_refl _, Nat.le_refl _⟩) hS (fun H locs hM hS => ?_)
        refine lv_aload_n hx hb dX4_copy_60 rfl (lv_at hl 0 rfl) ?_
        refine ob_gr (j := b + 4) hx hb hts in_own hown hK hM (q := b) (shT_0 hT) (C := RX4) (T := TX4) (N := 5) rfl 3 (by decide) hf_21 rfl dX4_copy_61 ?_
        refine lv_iload_n hx hb dX4_copy_64 rfl (lv_at hl 2 rfl) ?_
        refine lv_aload_n hx hb dX4_copy_65 rfl (lv_at hl 1 rfl) ?_
        refine lv_iload_n hx hb dX4_copy_66 rfl (lv_at hl 2 rfl) ?_
        obtain ⟨v9, e9, hf⟩ := ob_e1 hf
        refine ob_calli (va_runV (As := [.int x2]) (rest := [.int x2, .ref (ad (b + 4))]) ⟨hx, hb, hml, hown, hts⟩ (c_X4_knownTo l dC dI ad cI cZ hI 1 (Nat.le_refl _) b1 hT1 g8 x2  v9 e9) (cwV 1 hts gX4_copy_X4_knownTo rfl rfl rfl ⟨rfl, hd_X4_knownTo⟩ (ob_R (Nat.le_trans (by decide) hd) (by decide))) (ob_preV hK hM (q := b1) (shT_0 hT1) rfl) rfl rfl hl.1 rfl (lv_room (Nat.le_of_ble_eq_true rfl)) dX4_copy_67 ⟨Nat.le_refl _, Nat.le_refl _⟩) hS (fun H locs hM hS => ?_)
        obtain ⟨g10, e10, hf⟩ := ob_e1 hf
        refine ob_callv (va_runSN (As := [.ref (ad (b + 4)), .int x2, .int v9]) (rest := []) ⟨hx, hb, hml, hown, hts⟩ (c_X6_store l dC dI ad cI cZ hI 0 (Nat.le_refl _) g8 (b + 4) 5 (shT_4 hT) x2 v9  g10 e10) ⟨va_cnB 3 hts gX4_copy_X6_store_n28 rfl rfl rfl (ob_nl hK nw_X4_28) hi_X6 hd_X6_store (ob_R (Nat.le_trans (by decide) hd) (by decide)), hst_X6_store, trivial⟩ (ob_preS hK hM) rfl rfl hl.1 rfl (lv_room (Nat.le_of_ble_eq_true rfl)) dX4_copy_70 ⟨Nat.le_refl _, Nat.le_refl _⟩) hS (fun H locs hM hS => ?_)
        refine lv_iinc (v := (x2 + 1)) (lv' := [(2, .int (x2 + 1)), (0, .ref (ad b)), (1, .ref (ad b1))]) hx hb dX4_copy_73 hl (k := 2) rfl rfl (by decide) rfl (fun ls hl => ?_)
        refine lv_goto (tgt := 42) hx hb dX4_copy_76 (by decide) ?_
        exact ih g10 (x2 + 1) _ _ hM hS _ (lv_sub hl [1, 2, 0] rfl) hf
  subst ha
  have hl := lv_entry ([.ref (ad b), .ref (ad b1)]) (n := 3) (Nat.le_of_ble_eq_true rfl)
  rw [lg_entry_eq]
  generalize (lg_sl ([.ref (ad b), .ref (ad b1)]) ++ List.replicate (3 - (lg_sl ([.ref (ad b), .ref (ad b1)])).length) Slot.unset).toArray = ls at hl ⊢
  have hl : lv_has ls 3 [(0, .ref (ad b)), (1, .ref (ad b1))] := hl
  have hM := hM0
  have hS := hS0
  unfold f_X4_copy at hf
  refine lv_iconst (v := 0) hx hb dX4_copy_0 (by decide) ?_
  refine lv_istore_n (lv' := [(2, .int 0), (0, .ref (ad b)), (1, .ref (ad b1))]) hx hb dX4_copy_1 rfl hl (by decide) rfl (fun ls hl => ?_)
  exact w_2 (f_X4_copy_L42 b b1 FU) (w_42 FU) FU g 0 _ _ hM hS _ (lv_sub hl [1, 2, 0] rfl) hf
set_option maxHeartbeats 4000000 in
set_option maxRecDepth 100000 in
theorem c_X6_image (l : Launch) (dC : Nat → ClassId) (dI : Nat → Nat → Nat) (ad : Nat → Nat) (cI cZ : ClassId) (hI : ob_inj shX ad) (d : Nat) (hd : 3 ≤ d) (g : Mm) (x1 : Int32) (r : Int32) (t : Mm) (hf : f_X6_image g x1 = some (r, t)) : ob_Mi l yX6_image wsX6_image d (dC, dI) vwCl shX ad cI cZ nwX [.ref (ad 0), .int x1] g r t := by
  refine ob_ofW (cc := cX6_image) (maxL := 2) (ret := (some .int)) (by decide) rfl ?_
  intro p e s m args below meth c ha hx hb hr hml hts hown hlocks hM0 hK hS0
  have hown : s.vm.findClass RX6 = some m.cls := hown
  have in_own : ∀ w ∈ wsX60, w ∈ wsX6_image := fun w h => (List.mem_cons_of_mem _ (List.mem_append_left _ (List.mem_append_right _ h)))
  have hf_19 := hts (.fieldLink RX6 19 "OneWorse" "town" "LOneWorse$Town;") (List.mem_cons_of_mem _ (List.mem_append_left _ (List.mem_append_left _ (List.mem_append_left _ (List.mem_of_getElem? (i := 0) rfl)))))
  have hi_X4 := hts (.initialized RX4) (List.mem_cons_of_mem _ (List.mem_append_left _ (List.mem_append_left _ (List.mem_append_left _ (List.mem_of_getElem? (i := 15) rfl)))))
  have hin_X4_copy := hts (.instanceMethod yX4_copy) (List.mem_cons_of_mem _ (List.mem_append_left _ (List.mem_append_left _ (List.mem_append_left _ (List.mem_of_getElem? (i := 14) rfl)))))
  have hse_X4_copy := hts (.selects RX4 yX4_copy yX4_copy) (List.mem_cons_of_mem _ (List.mem_append_left _ (List.mem_append_left _ (List.mem_append_left _ (List.mem_of_getElem? (i := 16) rfl)))))
  subst ha
  have hl := lv_entry ([.ref (ad 0), .int x1]) (n := 2) (Nat.le_of_ble_eq_true rfl)
  rw [lg_entry_eq]
  generalize (lg_sl ([.ref (ad 0), .int x1]) ++ List.replicate (2 - (lg_sl ([.ref (ad 0), .int x1])).length) Slot.unset).toArray = ls at hl ⊢
  have hl : lv_has ls 2 [(0, .ref (ad 0)), (1, .int x1)] := hl
  have hM := hM0
  have hS := hS0
  unfold f_X6_image at hf
  refine lv_iload_n hx hb dX6_image_0 rfl (lv_at hl 1 rfl) ?_
  obtain ⟨v1, e1, hf⟩ := ob_e1 hf
  refine ob_calli (va_runS (As := [.int x1]) (rest := []) ⟨hx, hb, hml, hown, hts⟩ (c_X6_isImage l dC dI ad cI cZ hI 1 (Nat.le_refl _) g x1  v1 e1) (va_cwS 1 hts gX6_image_X6_isImage rfl rfl rfl hd_X6_isImage (ob_R (Nat.le_trans (by decide) hd) (by decide))) (ob_preS hK hM) rfl rfl hl.1 rfl (lv_room (Nat.le_of_ble_eq_true rfl)) dX6_image_1 ⟨Nat.le_refl _, Nat.le_refl _⟩) hS (fun H locs hM hS => ?_)
  refine lv_if_ne (tgt := 10) hx hb dX6_image_4 (by decide) (fun c2 => ?_) (fun c2 => ?_)
  · rw [if_neg c2] at hf
    refine lv_aload_n hx hb dX6_image_10 rfl (lv_at hl 0 rfl) ?_
    refine lv_iload_n hx hb dX6_image_11 rfl (lv_at hl 1 rfl) ?_
    obtain ⟨v3, e3, hf⟩ := ob_e1 hf
    refine ob_callr (va_runV (As := [.int x1]) (rest := []) ⟨hx, hb, hml, hown, hts⟩ (c_X6_imageOf l dC dI ad cI cZ hI 0 (Nat.le_refl _) g x1  v3 e3) (cwV 1 hts gX6_image_X6_imageOf rfl rfl rfl ⟨rfl, hd_X6_imageOf⟩ (ob_R (Nat.le_trans (by decide) hd) (by decide))) (ob_preV hK hM (q := 0) shX_0 rfl) rfl rfl hl.1 rfl (lv_room (Nat.le_of_ble_eq_true rfl)) dX6_image_12 ⟨Nat.le_refl _, Nat.le_refl _⟩) hS (fun H locs hM hS => ?_)
    have hT_v3 : isTown v3 := imageOf_town e3
    refine lv_aload_n hx hb dX6_image_15 rfl (lv_at hl 0 rfl) ?_
    refine ob_gr (j := 2) hx hb hts in_own hown hK hM (q := 0) shX_0 (C := RX6) (T := TX6) (N := 8) rfl 1 (by decide) hf_19 rfl dX6_image_16 ?_
    obtain ⟨g4, e4, hf⟩ := ob_e1 hf
    refine ob_callv (va_runVN (As := [.ref (ad 2)]) (rest := []) ⟨hx, hb, hml, hown, hts⟩ (c_X4_copy l dC dI ad cI cZ hI 2 (Nat.le_refl _) v3 hT_v3 2 isTown_2 g  g4 e4) ⟨va_cnB 1 hts gX6_image_X4_copy_n206 rfl rfl rfl (ob_nl hK nw_X6_206) hi_X4 hd_X4_copy (ob_R (Nat.le_trans (by decide) hd) (by decide)), hin_X4_copy, hse_X4_copy⟩ (ob_preV hK hM (q := v3) (shT_0 hT_v3) rfl) rfl rfl hl.1 rfl (lv_room (Nat.le_of_ble_eq_true rfl)) dX6_image_19 ⟨Nat.le_refl _, Nat.le_refl _⟩) hS (fun H locs hM hS => ?_)
    refine lv_iconst (v := 1) hx hb dX6_image_22 (by decide) ?_
    exact ob_iret hx hb hr hlocks hM hS (v := 1) rfl hf dX6_image_23
  · rw [if_pos c2] at hf
    refine lv_bipush (v := (-2)) hx hb dX6_image_7 (by decide) ?_
    exact ob_iret hx hb hr hlocks hM hS (v := (-2)) rfl hf dX6_image_9
set_option maxHeartbeats 4000000 in
set_option maxRecDepth 100000 in
theorem c_X4_isKept (l : Launch) (dC : Nat → ClassId) (dI : Nat → Nat → Nat) (ad : Nat → Nat) (cI cZ : ClassId) (hI : ob_inj shX ad) (d : Nat) (hd : 0 ≤ d) (b : Nat) (hT : isTown b) (g : Mm) (r : Int32) (hf : f_X4_isKept b g = some r) : ob_Mi l yX4_isKept wsX4_isKept d (dC, dI) vwCl shX ad cI cZ nwX [.ref (ad b)] g r g := by
  refine ob_ofW (cc := cX4_isKept) (maxL := 1) (ret := (some .boolean)) (by decide) rfl ?_
  intro p e s m args below meth c ha hx hb hr hml hts hown hlocks hM0 hK hS0
  have hown : s.vm.findClass RX4 = some m.cls := hown
  have in_own : ∀ w ∈ wsX40, w ∈ wsX4_isKept := fun w h => (List.mem_cons_of_mem _ (List.mem_append_right _ h))
  have hf_24 := hts (.fieldLink RX4 24 "OneWorse$Town" "kept" "Z") (List.mem_cons_of_mem _ (List.mem_append_left _ (List.mem_of_getElem? (i := 0) rfl)))
  subst ha
  have hl := lv_entry ([.ref (ad b)]) (n := 1) (Nat.le_of_ble_eq_true rfl)
  rw [lg_entry_eq]
  generalize (lg_sl ([.ref (ad b)]) ++ List.replicate (1 - (lg_sl ([.ref (ad b)])).length) Slot.unset).toArray = ls at hl ⊢
  have hl : lv_has ls 1 [(0, .ref (ad b))] := hl
  have hM := hM0
  have hS := hS0
  unfold f_X4_isKept at hf
  refine lv_aload_n hx hb dX4_isKept_0 rfl (lv_at hl 0 rfl) ?_
  refine ob_gi hx hb hts in_own hown hK hM (q := b) (shT_0 hT) (C := RX4) (T := TX4) (N := 5) rfl 4 (by decide) hf_24 rfl dX4_isKept_1 ?_
  obtain ⟨u1, e1, hf⟩ := ob_e1 hf
  exact ob_iretR hx hb hr hlocks hM hS (v := (g b 4)) (ob_zb_in e1) hf dX4_isKept_4
set_option maxHeartbeats 4000000 in
set_option maxRecDepth 100000 in
theorem c_X6_restore (l : Launch) (dC : Nat → ClassId) (dI : Nat → Nat → Nat) (ad : Nat → Nat) (cI cZ : ClassId) (hI : ob_inj shX ad) (d : Nat) (hd : 3 ≤ d) (g : Mm) (x1 : Int32) (r : Int32) (t : Mm) (hf : f_X6_restore g x1 = some (r, t)) : ob_Mi l yX6_restore wsX6_restore d (dC, dI) vwCl shX ad cI cZ nwX [.ref (ad 0), .int x1] g r t := by
  refine ob_ofW (cc := cX6_restore) (maxL := 2) (ret := (some .int)) (by decide) rfl ?_
  intro p e s m args below meth c ha hx hb hr hml hts hown hlocks hM0 hK hS0
  have hown : s.vm.findClass RX6 = some m.cls := hown
  have in_own : ∀ w ∈ wsX60, w ∈ wsX6_restore := fun w h => (List.mem_cons_of_mem _ (List.mem_append_left _ (List.mem_append_right _ h)))
  have hi_X4 := hts (.initialized RX4) (List.mem_cons_of_mem _ (List.mem_append_left _ (List.mem_append_left _ (List.mem_append_left _ (List.mem_of_getElem? (i := 15) rfl)))))
  have hin_X4_isKept := hts (.instanceMethod yX4_isKept) (List.mem_cons_of_mem _ (List.mem_append_left _ (List.mem_append_left _ (List.mem_append_left _ (List.mem_of_getElem? (i := 14) rfl)))))
  have hse_X4_isKept := hts (.selects RX4 yX4_isKept yX4_isKept) (List.mem_cons_of_mem _ (List.mem_append_left _ (List.mem_append_left _ (List.mem_append_left _ (List.mem_of_getElem? (i := 16) rfl)))))
  have hf_19 := hts (.fieldLink RX6 19 "OneWorse" "town" "LOneWorse$Town;") (List.mem_cons_of_mem _ (List.mem_append_left _ (List.mem_append_left _ (List.mem_append_left _ (List.mem_of_getElem? (i := 0) rfl)))))
  have hin_X4_copy := hts (.instanceMethod yX4_copy) (List.mem_cons_of_mem _ (List.mem_append_left _ (List.mem_append_left _ (List.mem_append_left _ (List.mem_of_getElem? (i := 19) rfl)))))
  have hse_X4_copy := hts (.selects RX4 yX4_copy yX4_copy) (List.mem_cons_of_mem _ (List.mem_append_left _ (List.mem_append_left _ (List.mem_append_left _ (List.mem_of_getElem? (i := 20) rfl)))))
  subst ha
  have hl := lv_entry ([.ref (ad 0), .int x1]) (n := 2) (Nat.le_of_ble_eq_true rfl)
  rw [lg_entry_eq]
  generalize (lg_sl ([.ref (ad 0), .int x1]) ++ List.replicate (2 - (lg_sl ([.ref (ad 0), .int x1])).length) Slot.unset).toArray = ls at hl ⊢
  have hl : lv_has ls 2 [(0, .ref (ad 0)), (1, .int x1)] := hl
  have hM := hM0
  have hS := hS0
  unfold f_X6_restore at hf
  refine lv_iload_n hx hb dX6_restore_0 rfl (lv_at hl 1 rfl) ?_
  obtain ⟨v1, e1, hf⟩ := ob_e1 hf
  refine ob_calli (va_runS (As := [.int x1]) (rest := []) ⟨hx, hb, hml, hown, hts⟩ (c_X6_isImage l dC dI ad cI cZ hI 1 (Nat.le_refl _) g x1  v1 e1) (va_cwS 1 hts gX6_restore_X6_isImage rfl rfl rfl hd_X6_isImage (ob_R (Nat.le_trans (by decide) hd) (by decide))) (ob_preS hK hM) rfl rfl hl.1 rfl (lv_room (Nat.le_of_ble_eq_true rfl)) dX6_restore_1 ⟨Nat.le_refl _, Nat.le_refl _⟩) hS (fun H locs hM hS => ?_)
  refine lv_if_ne (tgt := 10) hx hb dX6_restore_4 (by decide) (fun c2 => ?_) (fun c2 => ?_)
  · rw [if_neg c2] at hf
    refine lv_aload_n hx hb dX6_restore_10 rfl (lv_at hl 0 rfl) ?_
    refine lv_iload_n hx hb dX6_restore_11 rfl (lv_at hl 1 rfl) ?_
    obtain ⟨v3, e3, hf⟩ := ob_e1 hf
    refine ob_callr (va_runV (As := [.int x1]) (rest := []) ⟨hx, hb, hml, hown, hts⟩ (c_X6_imageOf l dC dI ad cI cZ hI 0 (Nat.le_refl _) g x1  v3 e3) (cwV 1 hts gX6_restore_X6_imageOf rfl rfl rfl ⟨rfl, hd_X6_imageOf⟩ (ob_R (Nat.le_trans (by decide) hd) (by decide))) (ob_preV hK hM (q := 0) shX_0 rfl) rfl rfl hl.1 rfl (lv_room (Nat.le_of_ble_eq_true rfl)) dX6_restore_12 ⟨Nat.le_refl _, Nat.le_refl _⟩) hS (fun H locs hM hS => ?_)
    have hT_v3 : isTown v3 := imageOf_town e3
    obtain ⟨v4, e4, hf⟩ := ob_e1 hf
    refine ob_calli (va_runVN (As := []) (rest := []) ⟨hx, hb, hml, hown, hts⟩ (c_X4_isKept l dC dI ad cI cZ hI 0 (Nat.le_refl _) v3 hT_v3 g  v4 e4) ⟨va_cnB 0 hts gX6_restore_X4_isKept_n209 rfl rfl rfl (ob_nl hK nw_X6_209) hi_X4 hd_X4_isKept (ob_R (Nat.le_trans (by decide) hd) (by decide)), hin_X4_isKept, hse_X4_isKept⟩ (ob_preV hK hM (q := v3) (shT_0 hT_v3) rfl) rfl rfl hl.1 rfl (lv_room (Nat.le_of_ble_eq_true rfl)) dX6_restore_15 ⟨Nat.le_refl _, Nat.le_refl _⟩) hS (fun H locs hM hS => ?_)
    refine lv_if_ne (tgt := 24) hx hb dX6_restore_18 (by decide) (fun c5 => ?_) (fun c5 => ?_)
    · rw [if_neg c5] at hf
      refine lv_aload_n hx hb dX6_restore_24 rfl (lv_at hl 0 rfl) ?_
      refine ob_gr (j := 2) hx hb hts in_own hown hK hM (q := 0) shX_0 (C := RX6) (T := TX6) (N := 8) rfl 1 (by decide) hf_19 rfl dX6_restore_25 ?_
      refine lv_aload_n hx hb dX6_restore_28 rfl (lv_at hl 0 rfl) ?_
      refine lv_iload_n hx hb dX6_restore_29 rfl (lv_at hl 1 rfl) ?_
      obtain ⟨v6, e6, hf⟩ := ob_e1 hf
      refine ob_callr (va_runV (As := [.int x1]) (rest := [.ref (ad 2)]) ⟨hx, hb, hml, hown, hts⟩ (c_X6_imageOf l dC dI ad cI cZ hI 0 (Nat.le_refl _) g x1  v6 e6) (cwV 1 hts gX6_restore_X6_imageOf rfl rfl rfl ⟨rfl, hd_X6_imageOf⟩ (ob_R (Nat.le_trans (by decide) hd) (by decide))) (ob_preV hK hM (q := 0) shX_0 rfl) rfl rfl hl.1 rfl (lv_room (Nat.le_of_ble_eq_true rfl)) dX6_restore_30 ⟨Nat.le_refl _, Nat.le_refl _⟩) hS (fun H locs hM hS => ?_)
      have hT_v6 : isTown v6 := imageOf_town e6
      obtain ⟨g7, e7, hf⟩ := ob_e1 hf
      refine ob_callv (va_runVN (As := [.ref (ad v6)]) (rest := []) ⟨hx, hb, hml, hown, hts⟩ (c_X4_copy l dC dI ad cI cZ hI 2 (Nat.le_refl _) 2 isTown_2 v6 hT_v6 g  g7 e7) ⟨va_cnB 1 hts gX6_restore_X4_copy_n206 rfl rfl rfl (ob_nl hK nw_X6_206) hi_X4 hd_X4_copy (ob_R (Nat.le_trans (by decide) hd) (by decide)), hin_X4_copy, hse_X4_copy⟩ (ob_preV hK hM (q := 2) shX_2 rfl) rfl rfl hl.1 rfl (lv_room (Nat.le_of_ble_eq_true rfl)) dX6_restore_33 ⟨Nat.le_refl _, Nat.le_refl _⟩) hS (fun H locs hM hS => ?_)
      refine lv_iconst (v := 1) hx hb dX6_restore_36 (by decide) ?_
      exact ob_iret hx hb hr hlocks hM hS (v := 1) rfl hf dX6_restore_37
    · rw [if_pos c5] at hf
      refine lv_bipush (v := (-3)) hx hb dX6_restore_21 (by decide) ?_
      exact ob_iret hx hb hr hlocks hM hS (v := (-3)) rfl hf dX6_restore_23
  · rw [if_pos c2] at hf
    refine lv_bipush (v := (-2)) hx hb dX6_restore_7 (by decide) ?_
    exact ob_iret hx hb hr hlocks hM hS (v := (-2)) rfl hf dX6_restore_9
set_option maxHeartbeats 4000000 in
set_option maxRecDepth 100000 in
theorem c_X4_addSteps (l : Launch) (dC : Nat → ClassId) (dI : Nat → Nat → Nat) (ad : Nat → Nat) (cI cZ : ClassId) (hI : ob_inj shX ad) (d : Nat) (hd : 2 ≤ d) (b : Nat) (hT : isTown b) (b1 : Nat) (hT1 : isTown b1) (g : Mm) (t : Mm) (hf : f_X4_addSteps b b1 g = some t) : ob_Mv l yX4_addSteps wsX4_addSteps d (dC, dI) vwCl shX ad cI cZ nwX [.ref (ad b), .ref (ad b1)] g t := by
  refine ob_ofW (cc := cX4_addSteps) (maxL := 3) (ret := none) (by decide) rfl ?_
  intro p e s m args below meth c ha hx hb hr hml hts hown hlocks hM0 hK hS0
  have hown : s.vm.findClass RX4 = some m.cls := hown
  have in_own : ∀ w ∈ wsX40, w ∈ wsX4_addSteps := fun w h => (List.mem_cons_of_mem _ (List.mem_append_right _ h))
  have hf_9 := hts (.fieldLink RX4 9 "OneWorse$Town" "worse" "[I") (List.mem_cons_of_mem _ (List.mem_append_left _ (List.mem_of_getElem? (i := 0) rfl)))
  have hi_X6 := hts (.initialized RX6) (List.mem_cons_of_mem _ (List.mem_append_left _ (List.mem_of_getElem? (i := 7) rfl)))
  have hst_X6_store := hts (.static yX6_store) (List.mem_cons_of_mem _ (List.mem_append_left _ (List.mem_of_getElem? (i := 9) rfl)))
  have w_2 : ∀ (n : Nat), ∀ (g : Mm) (x2 : Int32) (H : Heap) (locs : List Loc), va_P (dC, dI) vwCl (ob_ws shX ad cI cZ g) H → va_S (ob_A shX ad) s.heap H locs → ∀ (ls : Array Slot), lv_has ls 3 [(0, .ref (ad b)), (1, .ref (ad b1)), (2, .int x2)] → f_X4_addSteps_L2 b b1 n g x2 = some t → W p l e (rmN d) s m args below meth c H locs 0 0 (MQ below (ob_Qv (dC, dI) vwCl shX ad cI cZ t) args s 0 0 (ob_A shX ad)) (F0 m 2 ls []) := by
    intro n
    induction n with
    | zero =>
      intro g x2 H locs hM hS ls hl hf
      cases hf
    | succ n ih =>
      intro g x2 H locs hM hS ls hl hf
      unfold f_X4_addSteps_L2 at hf
      refine lv_iload_n hx hb dX4_addSteps_2 rfl (lv_at hl 2 rfl) ?_
      refine lv_bipush (v := 10) hx hb dX4_addSteps_3 (by decide) ?_
      refine lv_icmp_ge (tgt := 33) hx hb dX4_addSteps_5 (by decide) (fun c1 => ?_) (fun c1 => ?_)
      · rw [if_pos c1] at hf
        exact ob_vret hx hb hr hlocks hM hS hf dX4_addSteps_33
      · rw [if_neg c1] at hf
        refine lv_aload_n hx hb dX4_addSteps_8 rfl (lv_at hl 0 rfl) ?_
        refine ob_gr (j := b + 1) hx hb hts in_own hown hK hM (q := b) (shT_0 hT) (C := RX4) (T := TX4) (N := 5) rfl 0 (by decide) hf_9 rfl dX4_addSteps_9 ?_
        refine lv_iload_n hx hb dX4_addSteps_12 rfl (lv_at hl 2 rfl) ?_
        refine lv_aload_n hx hb dX4_addSteps_13 rfl (lv_at hl 0 rfl) ?_
        refine lv_iload_n hx hb dX4_addSteps_14 rfl (lv_at hl 2 rfl) ?_
        obtain ⟨v2, e2, hf⟩ := ob_e1 hf
        refine ob_calli (va_runV (As := [.int x2]) (rest := [.int x2, .ref (ad (b + 1))]) ⟨hx, hb, hml, hown, hts⟩ (c_X4_worseThan l dC dI ad cI cZ hI 1 (Nat.le_refl _) b hT g x2  v2 e2) (cwV 1 hts gX4_addSteps_X4_worseThan rfl rfl rfl ⟨rfl, hd_X4_worseThan⟩ (ob_R (Nat.le_trans (by decide) hd) (by decide))) (ob_preV hK hM (q := b) (shT_0 hT) rfl) rfl rfl hl.1 rfl (lv_room (Nat.le_of_ble_eq_true rfl)) dX4_addSteps_15 ⟨Nat.le_refl _, Nat.le_refl _⟩) hS (fun H locs hM hS => ?_)
        refine lv_aload_n hx hb dX4_addSteps_18 rfl (lv_at hl 1 rfl) ?_
        refine lv_iload_n hx hb dX4_addSteps_19 rfl (lv_at hl 2 rfl) ?_
        obtain ⟨v3, e3, hf⟩ := ob_e1 hf
        refine ob_calli (va_runV (As := [.int x2]) (rest := [.int v2, .int x2, .ref (ad (b + 1))]) ⟨hx, hb, hml, hown, hts⟩ (c_X4_worseThan l dC dI ad cI cZ hI 1 (Nat.le_refl _) b1 hT1 g x2  v3 e3) (cwV 1 hts gX4_addSteps_X4_worseThan rfl rfl rfl ⟨rfl, hd_X4_worseThan⟩ (ob_R (Nat.le_trans (by decide) hd) (by decide))) (ob_preV hK hM (q := b1) (shT_0 hT1) rfl) rfl rfl hl.1 rfl (lv_room (Nat.le_of_ble_eq_true rfl)) dX4_addSteps_20 ⟨Nat.le_refl _, Nat.le_refl _⟩) hS (fun H locs hM hS => ?_)
        refine lv_ior hx hb dX4_addSteps_23 ?_
        obtain ⟨g4, e4, hf⟩ := ob_e1 hf
        refine ob_callv (va_runSN (As := [.ref (ad (b + 1)), .int x2, .int (v2 ||| v3)]) (rest := []) ⟨hx, hb, hml, hown, hts⟩ (c_X6_store l dC dI ad cI cZ hI 0 (Nat.le_refl _) g (b + 1) 10 (shT_1 hT) x2 (v2 ||| v3)  g4 e4) ⟨va_cnB 3 hts gX4_addSteps_X6_store_n28 rfl rfl rfl (ob_nl hK nw_X4_28) hi_X6 hd_X6_store (ob_R (Nat.le_trans (by decide) hd) (by decide)), hst_X6_store, trivial⟩ (ob_preS hK hM) rfl rfl hl.1 rfl (lv_room (Nat.le_of_ble_eq_true rfl)) dX4_addSteps_24 ⟨Nat.le_refl _, Nat.le_refl _⟩) hS (fun H locs hM hS => ?_)
        refine lv_iinc (v := (x2 + 1)) (lv' := [(2, .int (x2 + 1)), (0, .ref (ad b)), (1, .ref (ad b1))]) hx hb dX4_addSteps_27 hl (k := 2) rfl rfl (by decide) rfl (fun ls hl => ?_)
        refine lv_goto (tgt := 2) hx hb dX4_addSteps_30 (by decide) ?_
        exact ih g4 (x2 + 1) _ _ hM hS _ (lv_sub hl [1, 2, 0] rfl) hf
  subst ha
  have hl := lv_entry ([.ref (ad b), .ref (ad b1)]) (n := 3) (Nat.le_of_ble_eq_true rfl)
  rw [lg_entry_eq]
  generalize (lg_sl ([.ref (ad b), .ref (ad b1)]) ++ List.replicate (3 - (lg_sl ([.ref (ad b), .ref (ad b1)])).length) Slot.unset).toArray = ls at hl ⊢
  have hl : lv_has ls 3 [(0, .ref (ad b)), (1, .ref (ad b1))] := hl
  have hM := hM0
  have hS := hS0
  unfold f_X4_addSteps at hf
  refine lv_iconst (v := 0) hx hb dX4_addSteps_0 (by decide) ?_
  refine lv_istore_n (lv' := [(2, .int 0), (0, .ref (ad b)), (1, .ref (ad b1))]) hx hb dX4_addSteps_1 rfl hl (by decide) rfl (fun ls hl => ?_)
  exact w_2 FU g 0 _ _ hM hS _ (lv_sub hl [1, 2, 0] rfl) hf
set_option maxHeartbeats 4000000 in
set_option maxRecDepth 100000 in
theorem c_X6_join (l : Launch) (dC : Nat → ClassId) (dI : Nat → Nat → Nat) (ad : Nat → Nat) (cI cZ : ClassId) (hI : ob_inj shX ad) (d : Nat) (hd : 3 ≤ d) (g : Mm) (x1 : Int32) (r : Int32) (t : Mm) (hf : f_X6_join g x1 = some (r, t)) : ob_Mi l yX6_join wsX6_join d (dC, dI) vwCl shX ad cI cZ nwX [.ref (ad 0), .int x1] g r t := by
  refine ob_ofW (cc := cX6_join) (maxL := 2) (ret := (some .int)) (by decide) rfl ?_
  intro p e s m args below meth c ha hx hb hr hml hts hown hlocks hM0 hK hS0
  have hown : s.vm.findClass RX6 = some m.cls := hown
  have in_own : ∀ w ∈ wsX60, w ∈ wsX6_join := fun w h => (List.mem_cons_of_mem _ (List.mem_append_left _ (List.mem_append_right _ h)))
  have hi_X4 := hts (.initialized RX4) (List.mem_cons_of_mem _ (List.mem_append_left _ (List.mem_append_left _ (List.mem_append_left _ (List.mem_of_getElem? (i := 15) rfl)))))
  have hin_X4_isKept := hts (.instanceMethod yX4_isKept) (List.mem_cons_of_mem _ (List.mem_append_left _ (List.mem_append_left _ (List.mem_append_left _ (List.mem_of_getElem? (i := 14) rfl)))))
  have hse_X4_isKept := hts (.selects RX4 yX4_isKept yX4_isKept) (List.mem_cons_of_mem _ (List.mem_append_left _ (List.mem_append_left _ (List.mem_append_left _ (List.mem_of_getElem? (i := 16) rfl)))))
  have hf_19 := hts (.fieldLink RX6 19 "OneWorse" "town" "LOneWorse$Town;") (List.mem_cons_of_mem _ (List.mem_append_left _ (List.mem_append_left _ (List.mem_append_left _ (List.mem_of_getElem? (i := 0) rfl)))))
  have hin_X4_addSteps := hts (.instanceMethod yX4_addSteps) (List.mem_cons_of_mem _ (List.mem_append_left _ (List.mem_append_left _ (List.mem_append_left _ (List.mem_of_getElem? (i := 19) rfl)))))
  have hse_X4_addSteps := hts (.selects RX4 yX4_addSteps yX4_addSteps) (List.mem_cons_of_mem _ (List.mem_append_left _ (List.mem_append_left _ (List.mem_append_left _ (List.mem_of_getElem? (i := 20) rfl)))))
  have hin_X4_countSteps := hts (.instanceMethod yX4_countSteps) (List.mem_cons_of_mem _ (List.mem_append_left _ (List.mem_append_left _ (List.mem_append_right _ (List.mem_of_getElem? (i := 7) rfl)))))
  have hse_X4_countSteps := hts (.selects RX4 yX4_countSteps yX4_countSteps) (List.mem_cons_of_mem _ (List.mem_append_left _ (List.mem_append_left _ (List.mem_append_right _ (List.mem_of_getElem? (i := 8) rfl)))))
  subst ha
  have hl := lv_entry ([.ref (ad 0), .int x1]) (n := 2) (Nat.le_of_ble_eq_true rfl)
  rw [lg_entry_eq]
  generalize (lg_sl ([.ref (ad 0), .int x1]) ++ List.replicate (2 - (lg_sl ([.ref (ad 0), .int x1])).length) Slot.unset).toArray = ls at hl ⊢
  have hl : lv_has ls 2 [(0, .ref (ad 0)), (1, .int x1)] := hl
  have hM := hM0
  have hS := hS0
  unfold f_X6_join at hf
  refine lv_iload_n hx hb dX6_join_0 rfl (lv_at hl 1 rfl) ?_
  obtain ⟨v1, e1, hf⟩ := ob_e1 hf
  refine ob_calli (va_runS (As := [.int x1]) (rest := []) ⟨hx, hb, hml, hown, hts⟩ (c_X6_isImage l dC dI ad cI cZ hI 1 (Nat.le_refl _) g x1  v1 e1) (va_cwS 1 hts gX6_join_X6_isImage rfl rfl rfl hd_X6_isImage (ob_R (Nat.le_trans (by decide) hd) (by decide))) (ob_preS hK hM) rfl rfl hl.1 rfl (lv_room (Nat.le_of_ble_eq_true rfl)) dX6_join_1 ⟨Nat.le_refl _, Nat.le_refl _⟩) hS (fun H locs hM hS => ?_)
  refine lv_if_ne (tgt := 10) hx hb dX6_join_4 (by decide) (fun c2 => ?_) (fun c2 => ?_)
  · rw [if_neg c2] at hf
    refine lv_aload_n hx hb dX6_join_10 rfl (lv_at hl 0 rfl) ?_
    refine lv_iload_n hx hb dX6_join_11 rfl (lv_at hl 1 rfl) ?_
    obtain ⟨v3, e3, hf⟩ := ob_e1 hf
    refine ob_callr (va_runV (As := [.int x1]) (rest := []) ⟨hx, hb, hml, hown, hts⟩ (c_X6_imageOf l dC dI ad cI cZ hI 0 (Nat.le_refl _) g x1  v3 e3) (cwV 1 hts gX6_join_X6_imageOf rfl rfl rfl ⟨rfl, hd_X6_imageOf⟩ (ob_R (Nat.le_trans (by decide) hd) (by decide))) (ob_preV hK hM (q := 0) shX_0 rfl) rfl rfl hl.1 rfl (lv_room (Nat.le_of_ble_eq_true rfl)) dX6_join_12 ⟨Nat.le_refl _, Nat.le_refl _⟩) hS (fun H locs hM hS => ?_)
    have hT_v3 : isTown v3 := imageOf_town e3
    obtain ⟨v4, e4, hf⟩ := ob_e1 hf
    refine ob_calli (va_runVN (As := []) (rest := []) ⟨hx, hb, hml, hown, hts⟩ (c_X4_isKept l dC dI ad cI cZ hI 0 (Nat.le_refl _) v3 hT_v3 g  v4 e4) ⟨va_cnB 0 hts gX6_join_X4_isKept_n209 rfl rfl rfl (ob_nl hK nw_X6_209) hi_X4 hd_X4_isKept (ob_R (Nat.le_trans (by decide) hd) (by decide)), hin_X4_isKept, hse_X4_isKept⟩ (ob_preV hK hM (q := v3) (shT_0 hT_v3) rfl) rfl rfl hl.1 rfl (lv_room (Nat.le_of_ble_eq_true rfl)) dX6_join_15 ⟨Nat.le_refl _, Nat.le_refl _⟩) hS (fun H locs hM hS => ?_)
    refine lv_if_ne (tgt := 24) hx hb dX6_join_18 (by decide) (fun c5 => ?_) (fun c5 => ?_)
    · rw [if_neg c5] at hf
      refine lv_aload_n hx hb dX6_join_24 rfl (lv_at hl 0 rfl) ?_
      refine ob_gr (j := 2) hx hb hts in_own hown hK hM (q := 0) shX_0 (C := RX6) (T := TX6) (N := 8) rfl 1 (by decide) hf_19 rfl dX6_join_25 ?_
      refine lv_aload_n hx hb dX6_join_28 rfl (lv_at hl 0 rfl) ?_
      refine lv_iload_n hx hb dX6_join_29 rfl (lv_at hl 1 rfl) ?_
      obtain ⟨v6, e6, hf⟩ := ob_e1 hf
      refine ob_callr (va_runV (As := [.int x1]) (rest := [.ref (ad 2)]) ⟨hx, hb, hml, hown, hts⟩ (c_X6_imageOf l dC dI ad cI cZ hI 0 (Nat.le_refl _) g x1  v6 e6) (cwV 1 hts gX6_join_X6_imageOf rfl rfl rfl ⟨rfl, hd_X6_imageOf⟩ (ob_R (Nat.le_trans (by decide) hd) (by decide))) (ob_preV hK hM (q := 0) shX_0 rfl) rfl rfl hl.1 rfl (lv_room (Nat.le_of_ble_eq_true rfl)) dX6_join_30 ⟨Nat.le_refl _, Nat.le_refl _⟩) hS (fun H locs hM hS => ?_)
      have hT_v6 : isTown v6 := imageOf_town e6
      obtain ⟨g7, e7, hf⟩ := ob_e1 hf
      refine ob_callv (va_runVN (As := [.ref (ad v6)]) (rest := []) ⟨hx, hb, hml, hown, hts⟩ (c_X4_addSteps l dC dI ad cI cZ hI 2 (Nat.le_refl _) 2 isTown_2 v6 hT_v6 g  g7 e7) ⟨va_cnB 1 hts gX6_join_X4_addSteps_n212 rfl rfl rfl (ob_nl hK nw_X6_212) hi_X4 hd_X4_addSteps (ob_R (Nat.le_trans (by decide) hd) (by decide)), hin_X4_addSteps, hse_X4_addSteps⟩ (ob_preV hK hM (q := 2) shX_2 rfl) rfl rfl hl.1 rfl (lv_room (Nat.le_of_ble_eq_true rfl)) dX6_join_33 ⟨Nat.le_refl _, Nat.le_refl _⟩) hS (fun H locs hM hS => ?_)
      refine lv_aload_n hx hb dX6_join_36 rfl (lv_at hl 0 rfl) ?_
      refine ob_gr (j := 2) hx hb hts in_own hown hK hM (q := 0) shX_0 (C := RX6) (T := TX6) (N := 8) rfl 1 (by decide) hf_19 rfl dX6_join_37 ?_
      obtain ⟨v8, e8, hf⟩ := ob_e1 hf
      refine ob_calli (va_runVN (As := []) (rest := []) ⟨hx, hb, hml, hown, hts⟩ (c_X4_countSteps l dC dI ad cI cZ hI 2 (Nat.le_refl _) 2 isTown_2 g7  v8 e8) ⟨va_cnB 0 hts gX6_join_X4_countSteps_n95 rfl rfl rfl (ob_nl hK nw_X6_95) hi_X4 hd_X4_countSteps (ob_R (Nat.le_trans (by decide) hd) (by decide)), hin_X4_countSteps, hse_X4_countSteps⟩ (ob_preV hK hM (q := 2) shX_2 rfl) rfl rfl hl.1 rfl (lv_room (Nat.le_of_ble_eq_true rfl)) dX6_join_40 ⟨Nat.le_refl _, Nat.le_refl _⟩) hS (fun H locs hM hS => ?_)
      exact ob_iret hx hb hr hlocks hM hS (v := v8) rfl hf dX6_join_43
    · rw [if_pos c5] at hf
      refine lv_bipush (v := (-3)) hx hb dX6_join_21 (by decide) ?_
      exact ob_iret hx hb hr hlocks hM hS (v := (-3)) rfl hf dX6_join_23
  · rw [if_pos c2] at hf
    refine lv_bipush (v := (-2)) hx hb dX6_join_7 (by decide) ?_
    exact ob_iret hx hb hr hlocks hM hS (v := (-2)) rfl hf dX6_join_9
set_option maxHeartbeats 4000000 in
set_option maxRecDepth 100000 in
theorem c_X6_told (l : Launch) (dC : Nat → ClassId) (dI : Nat → Nat → Nat) (ad : Nat → Nat) (cI cZ : ClassId) (hI : ob_inj shX ad) (d : Nat) (hd : 3 ≤ d) (g : Mm) (x1 : Int32) (r : Int32) (hf : f_X6_told g x1 = some r) : ob_Mi l yX6_told wsX6_told d (dC, dI) vwCl shX ad cI cZ nwX [.ref (ad 0), .int x1] g r g := by
  refine ob_ofW (cc := cX6_told) (maxL := 2) (ret := (some .int)) (by decide) rfl ?_
  intro p e s m args below meth c ha hx hb hr hml hts hown hlocks hM0 hK hS0
  have hown : s.vm.findClass RX6 = some m.cls := hown
  have in_own : ∀ w ∈ wsX60, w ∈ wsX6_told := fun w h => (List.mem_cons_of_mem _ (List.mem_append_left _ (List.mem_append_left _ (List.mem_append_right _ h))))
  have hf_19 := hts (.fieldLink RX6 19 "OneWorse" "town" "LOneWorse$Town;") (List.mem_cons_of_mem _ (List.mem_append_left _ (List.mem_append_left _ (List.mem_append_left _ (List.mem_append_left _ (List.mem_of_getElem? (i := 1) rfl))))))
  have hi_X4 := hts (.initialized RX4) (List.mem_cons_of_mem _ (List.mem_append_left _ (List.mem_append_left _ (List.mem_append_left _ (List.mem_append_left _ (List.mem_of_getElem? (i := 8) rfl))))))
  have hin_X4_worseThan := hts (.instanceMethod yX4_worseThan) (List.mem_cons_of_mem _ (List.mem_append_left _ (List.mem_append_left _ (List.mem_append_left _ (List.mem_append_left _ (List.mem_of_getElem? (i := 12) rfl))))))
  have hse_X4_worseThan := hts (.selects RX4 yX4_worseThan yX4_worseThan) (List.mem_cons_of_mem _ (List.mem_append_left _ (List.mem_append_left _ (List.mem_append_left _ (List.mem_append_left _ (List.mem_of_getElem? (i := 13) rfl))))))
  have hin_X4_knownTo := hts (.instanceMethod yX4_knownTo) (List.mem_cons_of_mem _ (List.mem_append_left _ (List.mem_append_left _ (List.mem_append_left _ (List.mem_append_right _ (List.mem_of_getElem? (i := 13) rfl))))))
  have hse_X4_knownTo := hts (.selects RX4 yX4_knownTo yX4_knownTo) (List.mem_cons_of_mem _ (List.mem_append_left _ (List.mem_append_left _ (List.mem_append_left _ (List.mem_append_right _ (List.mem_of_getElem? (i := 14) rfl))))))
  have hin_X4_traitsOf := hts (.instanceMethod yX4_traitsOf) (List.mem_cons_of_mem _ (List.mem_append_left _ (List.mem_append_left _ (List.mem_append_left _ (List.mem_append_right _ (List.mem_of_getElem? (i := 9) rfl))))))
  have hse_X4_traitsOf := hts (.selects RX4 yX4_traitsOf yX4_traitsOf) (List.mem_cons_of_mem _ (List.mem_append_left _ (List.mem_append_left _ (List.mem_append_left _ (List.mem_append_right _ (List.mem_of_getElem? (i := 10) rfl))))))
  have hin_X4_neededBy := hts (.instanceMethod yX4_neededBy) (List.mem_cons_of_mem _ (List.mem_append_left _ (List.mem_append_left _ (List.mem_append_left _ (List.mem_append_right _ (List.mem_of_getElem? (i := 5) rfl))))))
  have hse_X4_neededBy := hts (.selects RX4 yX4_neededBy yX4_neededBy) (List.mem_cons_of_mem _ (List.mem_append_left _ (List.mem_append_left _ (List.mem_append_left _ (List.mem_append_right _ (List.mem_of_getElem? (i := 6) rfl))))))
  have hin_X4_countSteps := hts (.instanceMethod yX4_countSteps) (List.mem_cons_of_mem _ (List.mem_append_left _ (List.mem_append_left _ (List.mem_append_left _ (List.mem_append_left _ (List.mem_of_getElem? (i := 7) rfl))))))
  have hse_X4_countSteps := hts (.selects RX4 yX4_countSteps yX4_countSteps) (List.mem_cons_of_mem _ (List.mem_append_left _ (List.mem_append_left _ (List.mem_append_left _ (List.mem_append_left _ (List.mem_of_getElem? (i := 9) rfl))))))
  have hf_10 := hts (.fieldLink RX6 10 "OneWorse" "pad" "LOneWorse$Pad;") (List.mem_cons_of_mem _ (List.mem_append_left _ (List.mem_append_left _ (List.mem_append_left _ (List.mem_append_left _ (List.mem_of_getElem? (i := 0) rfl))))))
  have hi_X3 := hts (.initialized RX3) (List.mem_cons_of_mem _ (List.mem_append_left _ (List.mem_append_left _ (List.mem_append_left _ (List.mem_append_left _ (List.mem_of_getElem? (i := 3) rfl))))))
  have hin_X3_size := hts (.instanceMethod yX3_size) (List.mem_cons_of_mem _ (List.mem_append_left _ (List.mem_append_left _ (List.mem_append_left _ (List.mem_append_left _ (List.mem_of_getElem? (i := 2) rfl))))))
  have hse_X3_size := hts (.selects RX3 yX3_size yX3_size) (List.mem_cons_of_mem _ (List.mem_append_left _ (List.mem_append_left _ (List.mem_append_left _ (List.mem_append_left _ (List.mem_of_getElem? (i := 4) rfl))))))
  subst ha
  have hl := lv_entry ([.ref (ad 0), .int x1]) (n := 2) (Nat.le_of_ble_eq_true rfl)
  rw [lg_entry_eq]
  generalize (lg_sl ([.ref (ad 0), .int x1]) ++ List.replicate (2 - (lg_sl ([.ref (ad 0), .int x1])).length) Slot.unset).toArray = ls at hl ⊢
  have hl : lv_has ls 2 [(0, .ref (ad 0)), (1, .int x1)] := hl
  have hM := hM0
  have hS := hS0
  unfold f_X6_told at hf
  refine lv_iload_n hx hb dX6_told_0 rfl (lv_at hl 1 rfl) ?_
  refine lv_if_ne (tgt := 12) hx hb dX6_told_1 (by decide) (fun c1 => ?_) (fun c1 => ?_)
  · rw [if_neg c1] at hf
    refine lv_iload_n hx hb dX6_told_12 rfl (lv_at hl 1 rfl) ?_
    refine lv_iconst (v := 1) hx hb dX6_told_13 (by decide) ?_
    refine lv_icmp_ne (tgt := 25) hx hb dX6_told_14 (by decide) (fun c2 => ?_) (fun c2 => ?_)
    · rw [if_neg c2] at hf
      refine lv_iload_n hx hb dX6_told_25 rfl (lv_at hl 1 rfl) ?_
      refine lv_bipush (v := 10) hx hb dX6_told_26 (by decide) ?_
      refine lv_bipush (v := 19) hx hb dX6_told_28 (by decide) ?_
      obtain ⟨v3, e3, hf⟩ := ob_e1 hf
      refine ob_calli (va_runS (As := [.int x1, .int 10, .int 19]) (rest := []) ⟨hx, hb, hml, hown, hts⟩ (c_X6_within l dC dI ad cI cZ hI 0 (Nat.le_refl _) g x1 10 19  v3 e3) (va_cwS 3 hts gX6_told_X6_within rfl rfl rfl hd_X6_within (ob_R (Nat.le_trans (by decide) hd) (by decide))) (ob_preS hK hM) rfl rfl hl.1 rfl (lv_room (Nat.le_of_ble_eq_true rfl)) dX6_told_30 ⟨Nat.le_refl _, Nat.le_refl _⟩) hS (fun H locs hM hS => ?_)
      refine lv_if_eq (tgt := 48) hx hb dX6_told_33 (by decide) (fun c4 => ?_) (fun c4 => ?_)
      · rw [if_pos c4] at hf
        refine lv_iload_n hx hb dX6_told_48 rfl (lv_at hl 1 rfl) ?_
        refine lv_bipush (v := 20) hx hb dX6_told_49 (by decide) ?_
        refine lv_bipush (v := 24) hx hb dX6_told_51 (by decide) ?_
        obtain ⟨v5, e5, hf⟩ := ob_e1 hf
        refine ob_calli (va_runS (As := [.int x1, .int 20, .int 24]) (rest := []) ⟨hx, hb, hml, hown, hts⟩ (c_X6_within l dC dI ad cI cZ hI 0 (Nat.le_refl _) g x1 20 24  v5 e5) (va_cwS 3 hts gX6_told_X6_within rfl rfl rfl hd_X6_within (ob_R (Nat.le_trans (by decide) hd) (by decide))) (ob_preS hK hM) rfl rfl hl.1 rfl (lv_room (Nat.le_of_ble_eq_true rfl)) dX6_told_53 ⟨Nat.le_refl _, Nat.le_refl _⟩) hS (fun H locs hM hS => ?_)
        refine lv_if_eq (tgt := 71) hx hb dX6_told_56 (by decide) (fun c6 => ?_) (fun c6 => ?_)
        · rw [if_pos c6] at hf
          refine lv_iload_n hx hb dX6_told_71 rfl (lv_at hl 1 rfl) ?_
          refine lv_bipush (v := 30) hx hb dX6_told_72 (by decide) ?_
          refine lv_bipush (v := 34) hx hb dX6_told_74 (by decide) ?_
          obtain ⟨v7, e7, hf⟩ := ob_e1 hf
          refine ob_calli (va_runS (As := [.int x1, .int 30, .int 34]) (rest := []) ⟨hx, hb, hml, hown, hts⟩ (c_X6_within l dC dI ad cI cZ hI 0 (Nat.le_refl _) g x1 30 34  v7 e7) (va_cwS 3 hts gX6_told_X6_within rfl rfl rfl hd_X6_within (ob_R (Nat.le_trans (by decide) hd) (by decide))) (ob_preS hK hM) rfl rfl hl.1 rfl (lv_room (Nat.le_of_ble_eq_true rfl)) dX6_told_76 ⟨Nat.le_refl _, Nat.le_refl _⟩) hS (fun H locs hM hS => ?_)
          refine lv_if_eq (tgt := 94) hx hb dX6_told_79 (by decide) (fun c8 => ?_) (fun c8 => ?_)
          · rw [if_pos c8] at hf
            refine lv_iload_n hx hb dX6_told_94 rfl (lv_at hl 1 rfl) ?_
            refine lv_bipush (v := 40) hx hb dX6_told_95 (by decide) ?_
            refine lv_bipush (v := 49) hx hb dX6_told_97 (by decide) ?_
            obtain ⟨v9, e9, hf⟩ := ob_e1 hf
            refine ob_calli (va_runS (As := [.int x1, .int 40, .int 49]) (rest := []) ⟨hx, hb, hml, hown, hts⟩ (c_X6_within l dC dI ad cI cZ hI 0 (Nat.le_refl _) g x1 40 49  v9 e9) (va_cwS 3 hts gX6_told_X6_within rfl rfl rfl hd_X6_within (ob_R (Nat.le_trans (by decide) hd) (by decide))) (ob_preS hK hM) rfl rfl hl.1 rfl (lv_room (Nat.le_of_ble_eq_true rfl)) dX6_told_99 ⟨Nat.le_refl _, Nat.le_refl _⟩) hS (fun H locs hM hS => ?_)
            refine lv_if_eq (tgt := 117) hx hb dX6_told_102 (by decide) (fun c10 => ?_) (fun c10 => ?_)
            · rw [if_pos c10] at hf
              refine lv_bipush (v := (-2)) hx hb dX6_told_117 (by decide) ?_
              exact ob_iretR hx hb hr hlocks hM hS (v := (-2)) rfl hf dX6_told_119
            · rw [if_neg c10] at hf
              refine lv_aload_n hx hb dX6_told_105 rfl (lv_at hl 0 rfl) ?_
              refine ob_gr (j := 2) hx hb hts in_own hown hK hM (q := 0) shX_0 (C := RX6) (T := TX6) (N := 8) rfl 1 (by decide) hf_19 rfl dX6_told_106 ?_
              refine lv_iload_n hx hb dX6_told_109 rfl (lv_at hl 1 rfl) ?_
              refine lv_bipush (v := 40) hx hb dX6_told_110 (by decide) ?_
              refine lv_isub hx hb dX6_told_112 ?_
              obtain ⟨v11, e11, hf⟩ := ob_e1 hf
              refine ob_calli (va_runVN (As := [.int (x1 - 40)]) (rest := []) ⟨hx, hb, hml, hown, hts⟩ (c_X4_worseThan l dC dI ad cI cZ hI 1 (Nat.le_refl _) 2 isTown_2 g (x1 - 40)  v11 e11) ⟨va_cnB 1 hts gX6_told_X4_worseThan_n102 rfl rfl rfl (ob_nl hK nw_X6_102) hi_X4 hd_X4_worseThan (ob_R (Nat.le_trans (by decide) hd) (by decide)), hin_X4_worseThan, hse_X4_worseThan⟩ (ob_preV hK hM (q := 2) shX_2 rfl) rfl rfl hl.1 rfl (lv_room (Nat.le_of_ble_eq_true rfl)) dX6_told_113 ⟨Nat.le_refl _, Nat.le_refl _⟩) hS (fun H locs hM hS => ?_)
              exact ob_iretR hx hb hr hlocks hM hS (v := v11) rfl hf dX6_told_116
          · rw [if_neg c8] at hf
            refine lv_aload_n hx hb dX6_told_82 rfl (lv_at hl 0 rfl) ?_
            refine ob_gr (j := 2) hx hb hts in_own hown hK hM (q := 0) shX_0 (C := RX6) (T := TX6) (N := 8) rfl 1 (by decide) hf_19 rfl dX6_told_83 ?_
            refine lv_iload_n hx hb dX6_told_86 rfl (lv_at hl 1 rfl) ?_
            refine lv_bipush (v := 30) hx hb dX6_told_87 (by decide) ?_
            refine lv_isub hx hb dX6_told_89 ?_
            obtain ⟨v12, e12, hf⟩ := ob_e1 hf
            refine ob_calli (va_runVN (As := [.int (x1 - 30)]) (rest := []) ⟨hx, hb, hml, hown, hts⟩ (c_X4_knownTo l dC dI ad cI cZ hI 1 (Nat.le_refl _) 2 isTown_2 g (x1 - 30)  v12 e12) ⟨va_cnB 1 hts gX6_told_X4_knownTo_n125 rfl rfl rfl (ob_nl hK nw_X6_125) hi_X4 hd_X4_knownTo (ob_R (Nat.le_trans (by decide) hd) (by decide)), hin_X4_knownTo, hse_X4_knownTo⟩ (ob_preV hK hM (q := 2) shX_2 rfl) rfl rfl hl.1 rfl (lv_room (Nat.le_of_ble_eq_true rfl)) dX6_told_90 ⟨Nat.le_refl _, Nat.le_refl _⟩) hS (fun H locs hM hS => ?_)
            exact ob_iretR hx hb hr hlocks hM hS (v := v12) rfl hf dX6_told_93
        · rw [if_neg c6] at hf
          refine lv_aload_n hx hb dX6_told_59 rfl (lv_at hl 0 rfl) ?_
          refine ob_gr (j := 2) hx hb hts in_own hown hK hM (q := 0) shX_0 (C := RX6) (T := TX6) (N := 8) rfl 1 (by decide) hf_19 rfl dX6_told_60 ?_
          refine lv_iload_n hx hb dX6_told_63 rfl (lv_at hl 1 rfl) ?_
          refine lv_bipush (v := 20) hx hb dX6_told_64 (by decide) ?_
          refine lv_isub hx hb dX6_told_66 ?_
          obtain ⟨v13, e13, hf⟩ := ob_e1 hf
          refine ob_calli (va_runVN (As := [.int (x1 - 20)]) (rest := []) ⟨hx, hb, hml, hown, hts⟩ (c_X4_traitsOf l dC dI ad cI cZ hI 1 (Nat.le_refl _) 2 isTown_2 g (x1 - 20)  v13 e13) ⟨va_cnB 1 hts gX6_told_X4_traitsOf_n119 rfl rfl rfl (ob_nl hK nw_X6_119) hi_X4 hd_X4_traitsOf (ob_R (Nat.le_trans (by decide) hd) (by decide)), hin_X4_traitsOf, hse_X4_traitsOf⟩ (ob_preV hK hM (q := 2) shX_2 rfl) rfl rfl hl.1 rfl (lv_room (Nat.le_of_ble_eq_true rfl)) dX6_told_67 ⟨Nat.le_refl _, Nat.le_refl _⟩) hS (fun H locs hM hS => ?_)
          exact ob_iretR hx hb hr hlocks hM hS (v := v13) rfl hf dX6_told_70
      · rw [if_neg c4] at hf
        refine lv_aload_n hx hb dX6_told_36 rfl (lv_at hl 0 rfl) ?_
        refine ob_gr (j := 2) hx hb hts in_own hown hK hM (q := 0) shX_0 (C := RX6) (T := TX6) (N := 8) rfl 1 (by decide) hf_19 rfl dX6_told_37 ?_
        refine lv_iload_n hx hb dX6_told_40 rfl (lv_at hl 1 rfl) ?_
        refine lv_bipush (v := 10) hx hb dX6_told_41 (by decide) ?_
        refine lv_isub hx hb dX6_told_43 ?_
        obtain ⟨v14, e14, hf⟩ := ob_e1 hf
        refine ob_calli (va_runVN (As := [.int (x1 - 10)]) (rest := []) ⟨hx, hb, hml, hown, hts⟩ (c_X4_neededBy l dC dI ad cI cZ hI 1 (Nat.le_refl _) 2 isTown_2 g (x1 - 10)  v14 e14) ⟨va_cnB 1 hts gX6_told_X4_neededBy_n109 rfl rfl rfl (ob_nl hK nw_X6_109) hi_X4 hd_X4_neededBy (ob_R (Nat.le_trans (by decide) hd) (by decide)), hin_X4_neededBy, hse_X4_neededBy⟩ (ob_preV hK hM (q := 2) shX_2 rfl) rfl rfl hl.1 rfl (lv_room (Nat.le_of_ble_eq_true rfl)) dX6_told_44 ⟨Nat.le_refl _, Nat.le_refl _⟩) hS (fun H locs hM hS => ?_)
        exact ob_iretR hx hb hr hlocks hM hS (v := v14) rfl hf dX6_told_47
    · rw [if_pos c2] at hf
      refine lv_aload_n hx hb dX6_told_17 rfl (lv_at hl 0 rfl) ?_
      refine ob_gr (j := 2) hx hb hts in_own hown hK hM (q := 0) shX_0 (C := RX6) (T := TX6) (N := 8) rfl 1 (by decide) hf_19 rfl dX6_told_18 ?_
      obtain ⟨v15, e15, hf⟩ := ob_e1 hf
      refine ob_calli (va_runVN (As := []) (rest := []) ⟨hx, hb, hml, hown, hts⟩ (c_X4_countSteps l dC dI ad cI cZ hI 2 (Nat.le_refl _) 2 isTown_2 g  v15 e15) ⟨va_cnB 0 hts gX6_told_X4_countSteps_n95 rfl rfl rfl (ob_nl hK nw_X6_95) hi_X4 hd_X4_countSteps (ob_R (Nat.le_trans (by decide) hd) (by decide)), hin_X4_countSteps, hse_X4_countSteps⟩ (ob_preV hK hM (q := 2) shX_2 rfl) rfl rfl hl.1 rfl (lv_room (Nat.le_of_ble_eq_true rfl)) dX6_told_21 ⟨Nat.le_refl _, Nat.le_refl _⟩) hS (fun H locs hM hS => ?_)
      exact ob_iretR hx hb hr hlocks hM hS (v := v15) rfl hf dX6_told_24
  · rw [if_pos c1] at hf
    refine lv_aload_n hx hb dX6_told_4 rfl (lv_at hl 0 rfl) ?_
    refine ob_gr (j := 1) hx hb hts in_own hown hK hM (q := 0) shX_0 (C := RX6) (T := TX6) (N := 8) rfl 0 (by decide) hf_10 rfl dX6_told_5 ?_
    obtain ⟨v16, e16, hf⟩ := ob_e1 hf
    refine ob_calli (va_runVN (As := []) (rest := []) ⟨hx, hb, hml, hown, hts⟩ (c_X3_size l dC dI ad cI cZ hI 0 (Nat.le_refl _) g  v16 e16) ⟨va_cnB 0 hts gX6_told_X3_size_n71 rfl rfl rfl (ob_nl hK nw_X6_71) hi_X3 hd_X3_size (ob_R (Nat.le_trans (by decide) hd) (by decide)), hin_X3_size, hse_X3_size⟩ (ob_preV hK hM (q := 1) shX_1 rfl) rfl rfl hl.1 rfl (lv_room (Nat.le_of_ble_eq_true rfl)) dX6_told_8 ⟨Nat.le_refl _, Nat.le_refl _⟩) hS (fun H locs hM hS => ?_)
    exact ob_iretR hx hb hr hlocks hM hS (v := v16) rfl hf dX6_told_11
