set_option maxHeartbeats 4000000 in
set_option maxRecDepth 100000 in
theorem c_X7_payer (l : Launch) (dC : Nat → ClassId) (dI : Nat → Nat → Nat) (ad : Nat → Nat) (cI cZ : ClassId) (hI : ob_inj shM ad) (d : Nat) (hd : 3 ≤ d) (g : Mm) (x1 x2 : Int32) (r : Int32) (t : Mm) (hf : f_X7_payer g x1 x2 = some (r, t)) : ob_Mi l yX7_payer wsX7_payer d (dC, dI) vwCl shM ad cI cZ nwM [.ref (ad 0), .int x1, .int x2] g r t := by
  refine ob_ofW (cc := cX7_payer) (maxL := 3) (ret := (some .int)) (by decide) rfl ?_
  intro p e s m args below meth c ha hx hb hr hml hts hown hlocks hM0 hK hS0
  have hown : s.vm.findClass RX7 = some m.cls := hown
  have in_own : ∀ w ∈ wsX70, w ∈ wsX7_payer := fun w h => (List.mem_cons_of_mem _ (List.mem_append_right _ h))
  have hf_28 := hts (.fieldLink RX7 28 "OneWorseModel" "can" "[I") (List.mem_cons_of_mem _ (List.mem_append_left _ (List.mem_append_left _ (List.mem_of_getElem? (i := 0) rfl))))
  subst ha
  have hl := lv_entry ([.ref (ad 0), .int x1, .int x2]) (n := 3) (Nat.le_of_ble_eq_true rfl)
  rw [lg_entry_eq]
  generalize (lg_sl ([.ref (ad 0), .int x1, .int x2]) ++ List.replicate (3 - (lg_sl ([.ref (ad 0), .int x1, .int x2])).length) Slot.unset).toArray = ls at hl ⊢
  have hl : lv_has ls 3 [(0, .ref (ad 0)), (1, .int x1), (2, .int x2)] := hl
  have hM := hM0
  have hS := hS0
  unfold f_X7_payer at hf
  refine lv_aload_n hx hb dX7_payer_0 rfl (lv_at hl 0 rfl) ?_
  refine lv_iload_n hx hb dX7_payer_1 rfl (lv_at hl 1 rfl) ?_
  refine lv_iload_n hx hb dX7_payer_2 rfl (lv_at hl 2 rfl) ?_
  obtain ⟨g1, e1, hf⟩ := ob_e1 hf
  refine ob_callv (va_runV (As := [.int x1, .int x2]) (rest := []) ⟨hx, hb, hml, hown, hts⟩ (c_X7_layMatch l dC dI ad cI cZ hI 2 (Nat.le_refl _) g x1 x2  g1 e1) (cwV 2 hts gX7_payer_X7_layMatch rfl rfl rfl ⟨rfl, hd_X7_layMatch⟩ (ob_R (Nat.le_trans (by decide) hd) (by decide))) (ob_preV hK hM (q := 0) shM_0 rfl) rfl rfl hl.1 rfl (lv_room (Nat.le_of_ble_eq_true rfl)) dX7_payer_3 ⟨Nat.le_refl _, Nat.le_refl _⟩) hS (fun H locs hM hS => ?_)
  refine lv_aload_n hx hb dX7_payer_6 rfl (lv_at hl 0 rfl) ?_
  refine lv_iconst (v := 0) hx hb dX7_payer_7 (by decide) ?_
  refine lv_aload_n hx hb dX7_payer_8 rfl (lv_at hl 0 rfl) ?_
  refine ob_gr (j := 7) hx hb hts in_own hown hK hM (q := 0) shM_0 (C := RX7) (T := TX7) (N := 18) rfl 7 (by decide) hf_28 rfl dX7_payer_9 ?_
  refine lv_iconst (v := 0) hx hb dX7_payer_12 (by decide) ?_
  obtain ⟨v2, e2, hf⟩ := ob_e1 hf
  refine ob_iald hx hb hK hM (q := 7) (n := 2) shM_7 e2 dX7_payer_13 ?_
  refine lv_iconst (v := 0) hx hb dX7_payer_14 (by decide) ?_
  obtain ⟨v3, g3, e3, hf⟩ := ob_e2 hf
  refine ob_calli (va_runV (As := [.int 0, .int v2, .int 0]) (rest := []) ⟨hx, hb, hml, hown, hts⟩ (c_X7_bestOf l dC dI ad cI cZ hI 1 (Nat.le_refl _) g1 0 v2 0  v3 g3 e3) (cwV 3 hts gX7_payer_X7_bestOf rfl rfl rfl ⟨rfl, hd_X7_bestOf⟩ (ob_R (Nat.le_trans (by decide) hd) (by decide))) (ob_preV hK hM (q := 0) shM_0 rfl) rfl rfl hl.1 rfl (lv_room (Nat.le_of_ble_eq_true rfl)) dX7_payer_15 ⟨Nat.le_refl _, Nat.le_refl _⟩) hS (fun H locs hM hS => ?_)
  refine lv_iconst (v := 2) hx hb dX7_payer_18 (by decide) ?_
  refine lv_irem hx hb dX7_payer_19 (by decide) ?_
  refine lv_if_ne (tgt := 27) hx hb dX7_payer_20 (by decide) (fun c4 => ?_) (fun c4 => ?_)
  · rw [if_neg c4] at hf
    refine lv_iload_n hx hb dX7_payer_27 rfl (lv_at hl 2 rfl) ?_
    exact ob_iret hx hb hr hlocks hM hS (v := x2) rfl hf dX7_payer_28
  · rw [if_pos c4] at hf
    refine lv_iload_n hx hb dX7_payer_23 rfl (lv_at hl 1 rfl) ?_
    refine lv_goto (tgt := 28) hx hb dX7_payer_24 (by decide) ?_
    exact ob_iret hx hb hr hlocks hM hS (v := x1) rfl hf dX7_payer_28
set_option maxHeartbeats 4000000 in
set_option maxRecDepth 100000 in
theorem c_X7_sent (l : Launch) (dC : Nat → ClassId) (dI : Nat → Nat → Nat) (ad : Nat → Nat) (cI cZ : ClassId) (hI : ob_inj shM ad) (d : Nat) (hd : 4 ≤ d) (g : Mm) (x1 x2 : Int32) (r : Int32) (t : Mm) (hf : f_X7_sent g x1 x2 = some (r, t)) : ob_Mi l yX7_sent wsX7_sent d (dC, dI) vwCl shM ad cI cZ nwM [.ref (ad 0), .int x1, .int x2] g r t := by
  refine ob_ofW (cc := cX7_sent) (maxL := 6) (ret := (some .int)) (by decide) rfl ?_
  intro p e s m args below meth c ha hx hb hr hml hts hown hlocks hM0 hK hS0
  have hown : s.vm.findClass RX7 = some m.cls := hown
  have w_67 : ∀ (k14 : Mm → Int32 → Int32 → Int32 → Int32 → Option (Int32 × Mm)) (hk14 : ∀ (g : Mm) (x1 x2 x3 x4 : Int32) (H : Heap) (locs : List Loc), va_P (dC, dI) vwCl (ob_ws shM ad cI cZ g) H → va_S (ob_A shM ad) s.heap H locs → ∀ (ls : Array Slot), lv_has ls 6 [(0, .ref (ad 0)), (1, .int x1), (2, .int x2), (3, .int x3), (4, .int x4)] → k14 g x1 x2 x3 x4 = some (r, t) → W p l e (rmN d) s m args below meth c H locs 0 0 (MQ below (ob_Qi (dC, dI) vwCl shM ad cI cZ r t) args s 0 0 (ob_A shM ad)) (F0 m 14 ls [])), ∀ (g : Mm) (x1 x2 x3 x4 : Int32) (H : Heap) (locs : List Loc), va_P (dC, dI) vwCl (ob_ws shM ad cI cZ g) H → va_S (ob_A shM ad) s.heap H locs → ∀ (ls : Array Slot), lv_has ls 6 [(0, .ref (ad 0)), (1, .int x1), (2, .int x2), (3, .int x3), (4, .int x4)] → f_X7_sent_J67 k14 g x1 x2 x3 x4 = some (r, t) → W p l e (rmN d) s m args below meth c H locs 0 0 (MQ below (ob_Qi (dC, dI) vwCl shM ad cI cZ r t) args s 0 0 (ob_A shM ad)) (F0 m 67 ls []) := by
    intro k14 hk14 g x1 x2 x3 x4 H locs hM hS ls hl hf
    unfold f_X7_sent_J67 at hf
    refine lv_iinc (v := (x4 + 1)) (lv' := [(4, .int (x4 + 1)), (0, .ref (ad 0)), (1, .int x1), (2, .int x2), (3, .int x3)]) hx hb dX7_sent_67 hl (k := 4) rfl rfl (by decide) rfl (fun ls hl => ?_)
    refine lv_goto (tgt := 14) hx hb dX7_sent_70 (by decide) ?_
    exact hk14 g x1 x2 x3 (x4 + 1) _ _ hM hS _ (lv_sub hl [1, 2, 3, 4, 0] rfl) hf
  have w_65 : ∀ (k14 : Mm → Int32 → Int32 → Int32 → Int32 → Option (Int32 × Mm)) (hk14 : ∀ (g : Mm) (x1 x2 x3 x4 : Int32) (H : Heap) (locs : List Loc), va_P (dC, dI) vwCl (ob_ws shM ad cI cZ g) H → va_S (ob_A shM ad) s.heap H locs → ∀ (ls : Array Slot), lv_has ls 6 [(0, .ref (ad 0)), (1, .int x1), (2, .int x2), (3, .int x3), (4, .int x4)] → k14 g x1 x2 x3 x4 = some (r, t) → W p l e (rmN d) s m args below meth c H locs 0 0 (MQ below (ob_Qi (dC, dI) vwCl shM ad cI cZ r t) args s 0 0 (ob_A shM ad)) (F0 m 14 ls [])), ∀ (g : Mm) (x1 x2 x4 s0 s1 : Int32) (H : Heap) (locs : List Loc), va_P (dC, dI) vwCl (ob_ws shM ad cI cZ g) H → va_S (ob_A shM ad) s.heap H locs → ∀ (ls : Array Slot), lv_has ls 6 [(0, .ref (ad 0)), (1, .int x1), (2, .int x2), (4, .int x4)] → f_X7_sent_J65 k14 g x1 x2 x4 s0 s1 = some (r, t) → W p l e (rmN d) s m args below meth c H locs 0 0 (MQ below (ob_Qi (dC, dI) vwCl shM ad cI cZ r t) args s 0 0 (ob_A shM ad)) (F0 m 65 ls [.int s0, .int s1]) := by
    intro k14 hk14 g x1 x2 x4 s0 s1 H locs hM hS ls hl hf
    unfold f_X7_sent_J65 at hf
    refine lv_ior hx hb dX7_sent_65 ?_
    refine lv_istore_n (lv' := [(3, .int (s1 ||| s0)), (0, .ref (ad 0)), (1, .int x1), (2, .int x2), (4, .int x4)]) hx hb dX7_sent_66 rfl hl (by decide) rfl (fun ls hl => ?_)
    exact w_67 k14 hk14 g x1 x2 (s1 ||| s0) x4 _ _ hM hS _ (lv_sub hl [1, 2, 3, 0, 4] rfl) hf
  have w_47 : ∀ (k14 : Mm → Int32 → Int32 → Int32 → Int32 → Option (Int32 × Mm)) (hk14 : ∀ (g : Mm) (x1 x2 x3 x4 : Int32) (H : Heap) (locs : List Loc), va_P (dC, dI) vwCl (ob_ws shM ad cI cZ g) H → va_S (ob_A shM ad) s.heap H locs → ∀ (ls : Array Slot), lv_has ls 6 [(0, .ref (ad 0)), (1, .int x1), (2, .int x2), (3, .int x3), (4, .int x4)] → k14 g x1 x2 x3 x4 = some (r, t) → W p l e (rmN d) s m args below meth c H locs 0 0 (MQ below (ob_Qi (dC, dI) vwCl shM ad cI cZ r t) args s 0 0 (ob_A shM ad)) (F0 m 14 ls [])), ∀ (g : Mm) (x1 x2 x3 x4 s0 : Int32) (H : Heap) (locs : List Loc), va_P (dC, dI) vwCl (ob_ws shM ad cI cZ g) H → va_S (ob_A shM ad) s.heap H locs → ∀ (ls : Array Slot), lv_has ls 6 [(0, .ref (ad 0)), (1, .int x1), (2, .int x2), (3, .int x3), (4, .int x4)] → f_X7_sent_J47 k14 g x1 x2 x3 x4 s0 = some (r, t) → W p l e (rmN d) s m args below meth c H locs 0 0 (MQ below (ob_Qi (dC, dI) vwCl shM ad cI cZ r t) args s 0 0 (ob_A shM ad)) (F0 m 47 ls [.int s0]) := by
    intro k14 hk14 g x1 x2 x3 x4 s0 H locs hM hS ls hl hf
    unfold f_X7_sent_J47 at hf
    refine lv_istore (lv' := [(5, .int s0), (0, .ref (ad 0)), (1, .int x1), (2, .int x2), (3, .int x3), (4, .int x4)]) hx hb dX7_sent_47 hl (by decide) rfl (fun ls hl => ?_)
    refine lv_iload_n hx hb dX7_sent_49 rfl (lv_at hl 4 rfl) ?_
    refine lv_iload hx hb dX7_sent_50 (lv_at hl 0 rfl) ?_
    refine lv_iload hx hb dX7_sent_52 (lv_at hl 5 rfl) ?_
    refine lv_icmp_ne (tgt := 61) hx hb dX7_sent_54 (by decide) (fun c8 => ?_) (fun c8 => ?_)
    · rw [if_neg c8] at hf
      refine lv_iconst (v := 1) hx hb dX7_sent_61 (by decide) ?_
      refine lv_iload hx hb dX7_sent_62 (lv_at hl 5 rfl) ?_
      refine lv_ishl hx hb dX7_sent_64 ?_
      exact w_65 k14 hk14 g x1 x2 x4 ((1 : Int32) <<< (x4 &&& 31)) x3 _ _ hM hS _ (lv_sub hl [1, 2, 3, 5] rfl) hf
    · rw [if_pos c8] at hf
      refine lv_iconst (v := 0) hx hb dX7_sent_57 (by decide) ?_
      refine lv_goto (tgt := 65) hx hb dX7_sent_58 (by decide) ?_
      exact w_65 k14 hk14 g x1 x2 x4 0 x3 _ _ hM hS _ (lv_sub hl [1, 2, 3, 5] rfl) hf
  have w_14 : ∀ (n : Nat), ∀ (g : Mm) (x1 x2 x3 x4 : Int32) (H : Heap) (locs : List Loc), va_P (dC, dI) vwCl (ob_ws shM ad cI cZ g) H → va_S (ob_A shM ad) s.heap H locs → ∀ (ls : Array Slot), lv_has ls 6 [(0, .ref (ad 0)), (1, .int x1), (2, .int x2), (3, .int x3), (4, .int x4)] → f_X7_sent_L14 n g x1 x2 x3 x4 = some (r, t) → W p l e (rmN d) s m args below meth c H locs 0 0 (MQ below (ob_Qi (dC, dI) vwCl shM ad cI cZ r t) args s 0 0 (ob_A shM ad)) (F0 m 14 ls []) := by
    intro n
    induction n with
    | zero =>
      intro g x1 x2 x3 x4 H locs hM hS ls hl hf
      cases hf
    | succ n ih =>
      intro g x1 x2 x3 x4 H locs hM hS ls hl hf
      unfold f_X7_sent_L14 at hf
      refine lv_iload hx hb dX7_sent_14 (lv_at hl 4 rfl) ?_
      refine lv_iconst (v := 5) hx hb dX7_sent_16 (by decide) ?_
      refine lv_icmp_ge (tgt := 73) hx hb dX7_sent_17 (by decide) (fun c3 => ?_) (fun c3 => ?_)
      · rw [if_pos c3] at hf
        refine lv_iload_n hx hb dX7_sent_73 rfl (lv_at hl 3 rfl) ?_
        exact ob_iret hx hb hr hlocks hM hS (v := x3) rfl hf dX7_sent_74
      · rw [if_neg c3] at hf
        refine lv_iload hx hb dX7_sent_20 (lv_at hl 4 rfl) ?_
        refine lv_iload_n hx hb dX7_sent_22 rfl (lv_at hl 1 rfl) ?_
        refine lv_icmp_eq (tgt := 67) hx hb dX7_sent_23 (by decide) (fun c4 => ?_) (fun c4 => ?_)
        · rw [if_pos c4] at hf
          exact w_67 (f_X7_sent_L14 n) ih g x1 x2 x3 x4 _ _ hM hS _ (lv_sub hl [0, 1, 2, 3, 4] rfl) hf
        · rw [if_neg c4] at hf
          refine lv_iload_n hx hb dX7_sent_26 rfl (lv_at hl 2 rfl) ?_
          refine lv_if_eq (tgt := 40) hx hb dX7_sent_27 (by decide) (fun c5 => ?_) (fun c5 => ?_)
          · rw [if_pos c5] at hf
            refine lv_aload_n hx hb dX7_sent_40 rfl (lv_at hl 0 rfl) ?_
            refine lv_iload_n hx hb dX7_sent_41 rfl (lv_at hl 1 rfl) ?_
            refine lv_iload hx hb dX7_sent_42 (lv_at hl 4 rfl) ?_
            obtain ⟨v6, g6, e6, hf⟩ := ob_e2 hf
            refine ob_calli (va_runV (As := [.int x1, .int x4]) (rest := []) ⟨hx, hb, hml, hown, hts⟩ (c_X7_payer l dC dI ad cI cZ hI 3 (Nat.le_refl _) g x1 x4  v6 g6 e6) (cwV 2 hts gX7_sent_X7_payer rfl rfl rfl ⟨rfl, hd_X7_payer⟩ (ob_R (Nat.le_trans (by decide) hd) (by decide))) (ob_preV hK hM (q := 0) shM_0 rfl) rfl rfl hl.1 rfl (lv_room (Nat.le_of_ble_eq_true rfl)) dX7_sent_44 ⟨Nat.le_refl _, Nat.le_refl _⟩) hS (fun H locs hM hS => ?_)
            exact w_47 (f_X7_sent_L14 n) ih g6 x1 x2 x3 x4 v6 _ _ hM hS _ (lv_sub hl [0, 1, 2, 3, 4] rfl) hf
          · rw [if_neg c5] at hf
            refine lv_aload_n hx hb dX7_sent_30 rfl (lv_at hl 0 rfl) ?_
            refine lv_iload hx hb dX7_sent_31 (lv_at hl 4 rfl) ?_
            refine lv_iload_n hx hb dX7_sent_33 rfl (lv_at hl 1 rfl) ?_
            obtain ⟨v7, g7, e7, hf⟩ := ob_e2 hf
            refine ob_calli (va_runV (As := [.int x4, .int x1]) (rest := []) ⟨hx, hb, hml, hown, hts⟩ (c_X7_payer l dC dI ad cI cZ hI 3 (Nat.le_refl _) g x4 x1  v7 g7 e7) (cwV 2 hts gX7_sent_X7_payer rfl rfl rfl ⟨rfl, hd_X7_payer⟩ (ob_R (Nat.le_trans (by decide) hd) (by decide))) (ob_preV hK hM (q := 0) shM_0 rfl) rfl rfl hl.1 rfl (lv_room (Nat.le_of_ble_eq_true rfl)) dX7_sent_34 ⟨Nat.le_refl _, Nat.le_refl _⟩) hS (fun H locs hM hS => ?_)
            refine lv_goto (tgt := 47) hx hb dX7_sent_37 (by decide) ?_
            exact w_47 (f_X7_sent_L14 n) ih g7 x1 x2 x3 x4 v7 _ _ hM hS _ (lv_sub hl [0, 1, 2, 3, 4] rfl) hf
  subst ha
  have hl := lv_entry ([.ref (ad 0), .int x1, .int x2]) (n := 6) (Nat.le_of_ble_eq_true rfl)
  rw [lg_entry_eq]
  generalize (lg_sl ([.ref (ad 0), .int x1, .int x2]) ++ List.replicate (6 - (lg_sl ([.ref (ad 0), .int x1, .int x2])).length) Slot.unset).toArray = ls at hl ⊢
  have hl : lv_has ls 6 [(0, .ref (ad 0)), (1, .int x1), (2, .int x2)] := hl
  have hM := hM0
  have hS := hS0
  unfold f_X7_sent at hf
  refine lv_iload_n hx hb dX7_sent_0 rfl (lv_at hl 1 rfl) ?_
  obtain ⟨v1, e1, hf⟩ := ob_e1 hf
  refine ob_calli (va_runS (As := [.int x1]) (rest := []) ⟨hx, hb, hml, hown, hts⟩ (c_X7_isMan l dC dI ad cI cZ hI 1 (Nat.le_refl _) g x1  v1 e1) (va_cwS 1 hts gX7_sent_X7_isMan rfl rfl rfl hd_X7_isMan (ob_R (Nat.le_trans (by decide) hd) (by decide))) (ob_preS hK hM) rfl rfl hl.1 rfl (lv_room (Nat.le_of_ble_eq_true rfl)) dX7_sent_1 ⟨Nat.le_refl _, Nat.le_refl _⟩) hS (fun H locs hM hS => ?_)
  refine lv_if_ne (tgt := 9) hx hb dX7_sent_4 (by decide) (fun c2 => ?_) (fun c2 => ?_)
  · rw [if_neg c2] at hf
    refine lv_iconst (v := 0) hx hb dX7_sent_9 (by decide) ?_
    refine lv_istore_n (lv' := [(3, .int 0), (0, .ref (ad 0)), (1, .int x1), (2, .int x2)]) hx hb dX7_sent_10 rfl hl (by decide) rfl (fun ls hl => ?_)
    refine lv_iconst (v := 0) hx hb dX7_sent_11 (by decide) ?_
    refine lv_istore (lv' := [(4, .int 0), (3, .int 0), (0, .ref (ad 0)), (1, .int x1), (2, .int x2)]) hx hb dX7_sent_12 hl (by decide) rfl (fun ls hl => ?_)
    exact w_14 FU g x1 x2 0 0 _ _ hM hS _ (lv_sub hl [2, 3, 4, 1, 0] rfl) hf
  · rw [if_pos c2] at hf
    refine lv_iconst (v := (-1)) hx hb dX7_sent_7 (by decide) ?_
    exact ob_iret hx hb hr hlocks hM hS (v := (-1)) rfl hf dX7_sent_8
set_option maxHeartbeats 4000000 in
set_option maxRecDepth 100000 in
theorem c_X7_safe (l : Launch) (dC : Nat → ClassId) (dI : Nat → Nat → Nat) (ad : Nat → Nat) (cI cZ : ClassId) (hI : ob_inj shM ad) (d : Nat) (hd : 2 ≤ d) (g : Mm) (x1 : Int32) (r : Int32) (hf : f_X7_safe g x1 = some r) : ob_Mi l yX7_safe wsX7_safe d (dC, dI) vwCl shM ad cI cZ nwM [.ref (ad 0), .int x1] g r g := by
  refine ob_ofW (cc := cX7_safe) (maxL := 4) (ret := (some .int)) (by decide) rfl ?_
  intro p e s m args below meth c ha hx hb hr hml hts hown hlocks hM0 hK hS0
  have hown : s.vm.findClass RX7 = some m.cls := hown
  have in_own : ∀ w ∈ wsX70, w ∈ wsX7_safe := fun w h => (List.mem_cons_of_mem _ (List.mem_append_right _ h))
  have hf_22 := hts (.fieldLink RX7 22 "OneWorseModel" "knows" "[I") (List.mem_cons_of_mem _ (List.mem_append_left _ (List.mem_of_getElem? (i := 0) rfl)))
  have w_34 : ∀ (k13 : Int32 → Int32 → Int32 → Option (Int32)) (hk13 : ∀ (x1 x2 x3 : Int32) (H : Heap) (locs : List Loc), va_P (dC, dI) vwCl (ob_ws shM ad cI cZ g) H → va_S (ob_A shM ad) s.heap H locs → ∀ (ls : Array Slot), lv_has ls 4 [(0, .ref (ad 0)), (1, .int x1), (2, .int x2), (3, .int x3)] → k13 x1 x2 x3 = some r → W p l e (rmN d) s m args below meth c H locs 0 0 (MQ below (ob_Qi (dC, dI) vwCl shM ad cI cZ r g) args s 0 0 (ob_A shM ad)) (F0 m 13 ls [])), ∀ (x1 x3 s0 s1 : Int32) (H : Heap) (locs : List Loc), va_P (dC, dI) vwCl (ob_ws shM ad cI cZ g) H → va_S (ob_A shM ad) s.heap H locs → ∀ (ls : Array Slot), lv_has ls 4 [(0, .ref (ad 0)), (1, .int x1), (3, .int x3)] → f_X7_safe_J34 g k13 x1 x3 s0 s1 = some r → W p l e (rmN d) s m args below meth c H locs 0 0 (MQ below (ob_Qi (dC, dI) vwCl shM ad cI cZ r g) args s 0 0 (ob_A shM ad)) (F0 m 34 ls [.int s0, .int s1]) := by
    intro k13 hk13 x1 x3 s0 s1 H locs hM hS ls hl hf
    unfold f_X7_safe_J34 at hf
    refine lv_ior hx hb dX7_safe_34 ?_
    refine lv_istore_n (lv' := [(2, .int (s1 ||| s0)), (0, .ref (ad 0)), (1, .int x1), (3, .int x3)]) hx hb dX7_safe_35 rfl hl (by decide) rfl (fun ls hl => ?_)
    refine lv_iinc (v := (x3 + 1)) (lv' := [(3, .int (x3 + 1)), (2, .int (s1 ||| s0)), (0, .ref (ad 0)), (1, .int x1)]) hx hb dX7_safe_36 hl (k := 3) rfl rfl (by decide) rfl (fun ls hl => ?_)
    refine lv_goto (tgt := 13) hx hb dX7_safe_39 (by decide) ?_
    exact hk13 x1 (s1 ||| s0) (x3 + 1) _ _ hM hS _ (lv_sub hl [2, 3, 1, 0] rfl) hf
  have w_13 : ∀ (n : Nat), ∀ (x1 x2 x3 : Int32) (H : Heap) (locs : List Loc), va_P (dC, dI) vwCl (ob_ws shM ad cI cZ g) H → va_S (ob_A shM ad) s.heap H locs → ∀ (ls : Array Slot), lv_has ls 4 [(0, .ref (ad 0)), (1, .int x1), (2, .int x2), (3, .int x3)] → f_X7_safe_L13 g n x1 x2 x3 = some r → W p l e (rmN d) s m args below meth c H locs 0 0 (MQ below (ob_Qi (dC, dI) vwCl shM ad cI cZ r g) args s 0 0 (ob_A shM ad)) (F0 m 13 ls []) := by
    intro n
    induction n with
    | zero =>
      intro x1 x2 x3 H locs hM hS ls hl hf
      cases hf
    | succ n ih =>
      intro x1 x2 x3 H locs hM hS ls hl hf
      unfold f_X7_safe_L13 at hf
      refine lv_iload_n hx hb dX7_safe_13 rfl (lv_at hl 3 rfl) ?_
      refine lv_iconst (v := 5) hx hb dX7_safe_14 (by decide) ?_
      refine lv_icmp_ge (tgt := 42) hx hb dX7_safe_15 (by decide) (fun c3 => ?_) (fun c3 => ?_)
      · rw [if_pos c3] at hf
        refine lv_iload_n hx hb dX7_safe_42 rfl (lv_at hl 2 rfl) ?_
        refine lv_aload_n hx hb dX7_safe_43 rfl (lv_at hl 0 rfl) ?_
        refine lv_iload_n hx hb dX7_safe_44 rfl (lv_at hl 1 rfl) ?_
        obtain ⟨v4, e4, hf⟩ := ob_e1 hf
        refine ob_calli (va_runV (As := [.int x1]) (rest := [.int x2]) ⟨hx, hb, hml, hown, hts⟩ (c_X7_fitOf l dC dI ad cI cZ hI 0 (Nat.le_refl _) g x1  v4 e4) (cwV 1 hts gX7_safe_X7_fitOf rfl rfl rfl ⟨rfl, hd_X7_fitOf⟩ (ob_R (Nat.le_trans (by decide) hd) (by decide))) (ob_preV hK hM (q := 0) shM_0 rfl) rfl rfl hl.1 rfl (lv_room (Nat.le_of_ble_eq_true rfl)) dX7_safe_45 ⟨Nat.le_refl _, Nat.le_refl _⟩) hS (fun H locs hM hS => ?_)
        refine lv_iand hx hb dX7_safe_48 ?_
        refine lv_if_ne (tgt := 56) hx hb dX7_safe_49 (by decide) (fun c5 => ?_) (fun c5 => ?_)
        · rw [if_neg c5] at hf
          refine lv_iconst (v := 0) hx hb dX7_safe_56 (by decide) ?_
          exact ob_iretR hx hb hr hlocks hM hS (v := 0) rfl hf dX7_safe_57
        · rw [if_pos c5] at hf
          refine lv_iconst (v := 1) hx hb dX7_safe_52 (by decide) ?_
          refine lv_goto (tgt := 57) hx hb dX7_safe_53 (by decide) ?_
          exact ob_iretR hx hb hr hlocks hM hS (v := 1) rfl hf dX7_safe_57
      · rw [if_neg c3] at hf
        refine lv_iload_n hx hb dX7_safe_18 rfl (lv_at hl 2 rfl) ?_
        refine lv_iload_n hx hb dX7_safe_19 rfl (lv_at hl 3 rfl) ?_
        refine lv_iload_n hx hb dX7_safe_20 rfl (lv_at hl 1 rfl) ?_
        refine lv_icmp_ne (tgt := 28) hx hb dX7_safe_21 (by decide) (fun c6 => ?_) (fun c6 => ?_)
        · rw [if_neg c6] at hf
          refine lv_aload_n hx hb dX7_safe_28 rfl (lv_at hl 0 rfl) ?_
          refine ob_gr (j := 5) hx hb hts in_own hown hK hM (q := 0) shM_0 (C := RX7) (T := TX7) (N := 18) rfl 5 (by decide) hf_22 rfl dX7_safe_29 ?_
          refine lv_iload_n hx hb dX7_safe_32 rfl (lv_at hl 3 rfl) ?_
          obtain ⟨v7, e7, hf⟩ := ob_e1 hf
          refine ob_iald hx hb hK hM (q := 5) (n := 5) shM_5 e7 dX7_safe_33 ?_
          exact w_34 (f_X7_safe_L13 g n) ih x1 x3 v7 x2 _ _ hM hS _ (lv_sub hl [0, 1, 3] rfl) hf
        · rw [if_pos c6] at hf
          refine lv_iconst (v := 0) hx hb dX7_safe_24 (by decide) ?_
          refine lv_goto (tgt := 34) hx hb dX7_safe_25 (by decide) ?_
          exact w_34 (f_X7_safe_L13 g n) ih x1 x3 0 x2 _ _ hM hS _ (lv_sub hl [0, 1, 3] rfl) hf
  subst ha
  have hl := lv_entry ([.ref (ad 0), .int x1]) (n := 4) (Nat.le_of_ble_eq_true rfl)
  rw [lg_entry_eq]
  generalize (lg_sl ([.ref (ad 0), .int x1]) ++ List.replicate (4 - (lg_sl ([.ref (ad 0), .int x1])).length) Slot.unset).toArray = ls at hl ⊢
  have hl : lv_has ls 4 [(0, .ref (ad 0)), (1, .int x1)] := hl
  have hM := hM0
  have hS := hS0
  unfold f_X7_safe at hf
  refine lv_iload_n hx hb dX7_safe_0 rfl (lv_at hl 1 rfl) ?_
  obtain ⟨v1, e1, hf⟩ := ob_e1 hf
  refine ob_calli (va_runS (As := [.int x1]) (rest := []) ⟨hx, hb, hml, hown, hts⟩ (c_X7_isMan l dC dI ad cI cZ hI 1 (Nat.le_refl _) g x1  v1 e1) (va_cwS 1 hts gX7_safe_X7_isMan rfl rfl rfl hd_X7_isMan (ob_R (Nat.le_trans (by decide) hd) (by decide))) (ob_preS hK hM) rfl rfl hl.1 rfl (lv_room (Nat.le_of_ble_eq_true rfl)) dX7_safe_1 ⟨Nat.le_refl _, Nat.le_refl _⟩) hS (fun H locs hM hS => ?_)
  refine lv_if_ne (tgt := 9) hx hb dX7_safe_4 (by decide) (fun c2 => ?_) (fun c2 => ?_)
  · rw [if_neg c2] at hf
    refine lv_iconst (v := 0) hx hb dX7_safe_9 (by decide) ?_
    refine lv_istore_n (lv' := [(2, .int 0), (0, .ref (ad 0)), (1, .int x1)]) hx hb dX7_safe_10 rfl hl (by decide) rfl (fun ls hl => ?_)
    refine lv_iconst (v := 0) hx hb dX7_safe_11 (by decide) ?_
    refine lv_istore_n (lv' := [(3, .int 0), (2, .int 0), (0, .ref (ad 0)), (1, .int x1)]) hx hb dX7_safe_12 rfl hl (by decide) rfl (fun ls hl => ?_)
    exact w_13 FU x1 0 0 _ _ hM hS _ (lv_sub hl [2, 3, 1, 0] rfl) hf
  · rw [if_pos c2] at hf
    refine lv_iconst (v := (-1)) hx hb dX7_safe_7 (by decide) ?_
    exact ob_iretR hx hb hr hlocks hM hS (v := (-1)) rfl hf dX7_safe_8
set_option maxHeartbeats 4000000 in
set_option maxRecDepth 100000 in
theorem c_X7_freeMatches (l : Launch) (dC : Nat → ClassId) (dI : Nat → Nat → Nat) (ad : Nat → Nat) (cI cZ : ClassId) (hI : ob_inj shM ad) (d : Nat) (hd : 4 ≤ d) (g : Mm) (x1 : Int32) (r : Int32) (t : Mm) (hf : f_X7_freeMatches g x1 = some (r, t)) : ob_Mi l yX7_freeMatches wsX7_freeMatches d (dC, dI) vwCl shM ad cI cZ nwM [.ref (ad 0), .int x1] g r t := by
  refine ob_ofW (cc := cX7_freeMatches) (maxL := 4) (ret := (some .int)) (by decide) rfl ?_
  intro p e s m args below meth c ha hx hb hr hml hts hown hlocks hM0 hK hS0
  have hown : s.vm.findClass RX7 = some m.cls := hown
  have w_50 : ∀ (k4 : Mm → Int32 → Int32 → Int32 → Option (Int32 × Mm)) (hk4 : ∀ (g : Mm) (x1 x2 x3 : Int32) (H : Heap) (locs : List Loc), va_P (dC, dI) vwCl (ob_ws shM ad cI cZ g) H → va_S (ob_A shM ad) s.heap H locs → ∀ (ls : Array Slot), lv_has ls 4 [(0, .ref (ad 0)), (1, .int x1), (2, .int x2), (3, .int x3)] → k4 g x1 x2 x3 = some (r, t) → W p l e (rmN d) s m args below meth c H locs 0 0 (MQ below (ob_Qi (dC, dI) vwCl shM ad cI cZ r t) args s 0 0 (ob_A shM ad)) (F0 m 4 ls [])), ∀ (g : Mm) (x1 x2 x3 : Int32) (H : Heap) (locs : List Loc), va_P (dC, dI) vwCl (ob_ws shM ad cI cZ g) H → va_S (ob_A shM ad) s.heap H locs → ∀ (ls : Array Slot), lv_has ls 4 [(0, .ref (ad 0)), (1, .int x1), (2, .int x2), (3, .int x3)] → f_X7_freeMatches_J50 k4 g x1 x2 x3 = some (r, t) → W p l e (rmN d) s m args below meth c H locs 0 0 (MQ below (ob_Qi (dC, dI) vwCl shM ad cI cZ r t) args s 0 0 (ob_A shM ad)) (F0 m 50 ls []) := by
    intro k4 hk4 g x1 x2 x3 H locs hM hS ls hl hf
    unfold f_X7_freeMatches_J50 at hf
    refine lv_iinc (v := (x3 + 1)) (lv' := [(3, .int (x3 + 1)), (0, .ref (ad 0)), (1, .int x1), (2, .int x2)]) hx hb dX7_freeMatches_50 hl (k := 3) rfl rfl (by decide) rfl (fun ls hl => ?_)
    refine lv_goto (tgt := 4) hx hb dX7_freeMatches_53 (by decide) ?_
    exact hk4 g x1 x2 (x3 + 1) _ _ hM hS _ (lv_sub hl [1, 2, 3, 0] rfl) hf
  have w_48 : ∀ (k4 : Mm → Int32 → Int32 → Int32 → Option (Int32 × Mm)) (hk4 : ∀ (g : Mm) (x1 x2 x3 : Int32) (H : Heap) (locs : List Loc), va_P (dC, dI) vwCl (ob_ws shM ad cI cZ g) H → va_S (ob_A shM ad) s.heap H locs → ∀ (ls : Array Slot), lv_has ls 4 [(0, .ref (ad 0)), (1, .int x1), (2, .int x2), (3, .int x3)] → k4 g x1 x2 x3 = some (r, t) → W p l e (rmN d) s m args below meth c H locs 0 0 (MQ below (ob_Qi (dC, dI) vwCl shM ad cI cZ r t) args s 0 0 (ob_A shM ad)) (F0 m 4 ls [])), ∀ (g : Mm) (x1 x3 s0 s1 : Int32) (H : Heap) (locs : List Loc), va_P (dC, dI) vwCl (ob_ws shM ad cI cZ g) H → va_S (ob_A shM ad) s.heap H locs → ∀ (ls : Array Slot), lv_has ls 4 [(0, .ref (ad 0)), (1, .int x1), (3, .int x3)] → f_X7_freeMatches_J48 k4 g x1 x3 s0 s1 = some (r, t) → W p l e (rmN d) s m args below meth c H locs 0 0 (MQ below (ob_Qi (dC, dI) vwCl shM ad cI cZ r t) args s 0 0 (ob_A shM ad)) (F0 m 48 ls [.int s0, .int s1]) := by
    intro k4 hk4 g x1 x3 s0 s1 H locs hM hS ls hl hf
    unfold f_X7_freeMatches_J48 at hf
    refine lv_iadd hx hb dX7_freeMatches_48 ?_
    refine lv_istore_n (lv' := [(2, .int (s1 + s0)), (0, .ref (ad 0)), (1, .int x1), (3, .int x3)]) hx hb dX7_freeMatches_49 rfl hl (by decide) rfl (fun ls hl => ?_)
    exact w_50 k4 hk4 g x1 (s1 + s0) x3 _ _ hM hS _ (lv_sub hl [1, 2, 0, 3] rfl) hf
  have w_30 : ∀ (k4 : Mm → Int32 → Int32 → Int32 → Option (Int32 × Mm)) (hk4 : ∀ (g : Mm) (x1 x2 x3 : Int32) (H : Heap) (locs : List Loc), va_P (dC, dI) vwCl (ob_ws shM ad cI cZ g) H → va_S (ob_A shM ad) s.heap H locs → ∀ (ls : Array Slot), lv_has ls 4 [(0, .ref (ad 0)), (1, .int x1), (2, .int x2), (3, .int x3)] → k4 g x1 x2 x3 = some (r, t) → W p l e (rmN d) s m args below meth c H locs 0 0 (MQ below (ob_Qi (dC, dI) vwCl shM ad cI cZ r t) args s 0 0 (ob_A shM ad)) (F0 m 4 ls [])), ∀ (g : Mm) (x1 x3 s0 s1 : Int32) (H : Heap) (locs : List Loc), va_P (dC, dI) vwCl (ob_ws shM ad cI cZ g) H → va_S (ob_A shM ad) s.heap H locs → ∀ (ls : Array Slot), lv_has ls 4 [(0, .ref (ad 0)), (1, .int x1), (3, .int x3)] → f_X7_freeMatches_J30 k4 g x1 x3 s0 s1 = some (r, t) → W p l e (rmN d) s m args below meth c H locs 0 0 (MQ below (ob_Qi (dC, dI) vwCl shM ad cI cZ r t) args s 0 0 (ob_A shM ad)) (F0 m 30 ls [.int s0, .int s1]) := by
    intro k4 hk4 g x1 x3 s0 s1 H locs hM hS ls hl hf
    unfold f_X7_freeMatches_J30 at hf
    refine lv_iadd hx hb dX7_freeMatches_30 ?_
    refine lv_istore_n (lv' := [(2, .int (s1 + s0)), (0, .ref (ad 0)), (1, .int x1), (3, .int x3)]) hx hb dX7_freeMatches_31 rfl hl (by decide) rfl (fun ls hl => ?_)
    refine lv_iload_n hx hb dX7_freeMatches_32 rfl (lv_at hl 0 rfl) ?_
    refine lv_aload_n hx hb dX7_freeMatches_33 rfl (lv_at hl 1 rfl) ?_
    refine lv_iload_n hx hb dX7_freeMatches_34 rfl (lv_at hl 3 rfl) ?_
    refine lv_iload_n hx hb dX7_freeMatches_35 rfl (lv_at hl 2 rfl) ?_
    obtain ⟨v5, g5, e5, hf⟩ := ob_e2 hf
    refine ob_calli (va_runV (As := [.int x3, .int x1]) (rest := [.int (s1 + s0)]) ⟨hx, hb, hml, hown, hts⟩ (c_X7_payer l dC dI ad cI cZ hI 3 (Nat.le_refl _) g x3 x1  v5 g5 e5) (cwV 2 hts gX7_freeMatches_X7_payer rfl rfl rfl ⟨rfl, hd_X7_payer⟩ (ob_R (Nat.le_trans (by decide) hd) (by decide))) (ob_preV hK hM (q := 0) shM_0 rfl) rfl rfl hl.1 rfl (lv_room (Nat.le_of_ble_eq_true rfl)) dX7_freeMatches_36 ⟨Nat.le_refl _, Nat.le_refl _⟩) hS (fun H locs hM hS => ?_)
    refine lv_iload_n hx hb dX7_freeMatches_39 rfl (lv_at hl 2 rfl) ?_
    refine lv_icmp_ne (tgt := 47) hx hb dX7_freeMatches_40 (by decide) (fun c6 => ?_) (fun c6 => ?_)
    · rw [if_neg c6] at hf
      refine lv_iconst (v := 1) hx hb dX7_freeMatches_47 (by decide) ?_
      exact w_48 k4 hk4 g5 x1 x3 1 (s1 + s0) _ _ hM hS _ (lv_sub hl [1, 2, 3] rfl) hf
    · rw [if_pos c6] at hf
      refine lv_iconst (v := 0) hx hb dX7_freeMatches_43 (by decide) ?_
      refine lv_goto (tgt := 48) hx hb dX7_freeMatches_44 (by decide) ?_
      exact w_48 k4 hk4 g5 x1 x3 0 (s1 + s0) _ _ hM hS _ (lv_sub hl [1, 2, 3] rfl) hf
  have w_4 : ∀ (n : Nat), ∀ (g : Mm) (x1 x2 x3 : Int32) (H : Heap) (locs : List Loc), va_P (dC, dI) vwCl (ob_ws shM ad cI cZ g) H → va_S (ob_A shM ad) s.heap H locs → ∀ (ls : Array Slot), lv_has ls 4 [(0, .ref (ad 0)), (1, .int x1), (2, .int x2), (3, .int x3)] → f_X7_freeMatches_L4 n g x1 x2 x3 = some (r, t) → W p l e (rmN d) s m args below meth c H locs 0 0 (MQ below (ob_Qi (dC, dI) vwCl shM ad cI cZ r t) args s 0 0 (ob_A shM ad)) (F0 m 4 ls []) := by
    intro n
    induction n with
    | zero =>
      intro g x1 x2 x3 H locs hM hS ls hl hf
      cases hf
    | succ n ih =>
      intro g x1 x2 x3 H locs hM hS ls hl hf
      unfold f_X7_freeMatches_L4 at hf
      refine lv_iload_n hx hb dX7_freeMatches_4 rfl (lv_at hl 3 rfl) ?_
      refine lv_iconst (v := 5) hx hb dX7_freeMatches_5 (by decide) ?_
      refine lv_icmp_ge (tgt := 56) hx hb dX7_freeMatches_6 (by decide) (fun c1 => ?_) (fun c1 => ?_)
      · rw [if_pos c1] at hf
        refine lv_iload_n hx hb dX7_freeMatches_56 rfl (lv_at hl 2 rfl) ?_
        exact ob_iret hx hb hr hlocks hM hS (v := x2) rfl hf dX7_freeMatches_57
      · rw [if_neg c1] at hf
        refine lv_iload_n hx hb dX7_freeMatches_9 rfl (lv_at hl 3 rfl) ?_
        refine lv_iload_n hx hb dX7_freeMatches_10 rfl (lv_at hl 1 rfl) ?_
        refine lv_icmp_eq (tgt := 50) hx hb dX7_freeMatches_11 (by decide) (fun c2 => ?_) (fun c2 => ?_)
        · rw [if_pos c2] at hf
          exact w_50 (f_X7_freeMatches_L4 n) ih g x1 x2 x3 _ _ hM hS _ (lv_sub hl [0, 1, 2, 3] rfl) hf
        · rw [if_neg c2] at hf
          refine lv_iload_n hx hb dX7_freeMatches_14 rfl (lv_at hl 2 rfl) ?_
          refine lv_aload_n hx hb dX7_freeMatches_15 rfl (lv_at hl 0 rfl) ?_
          refine lv_iload_n hx hb dX7_freeMatches_16 rfl (lv_at hl 1 rfl) ?_
          refine lv_iload_n hx hb dX7_freeMatches_17 rfl (lv_at hl 3 rfl) ?_
          obtain ⟨v3, g3, e3, hf⟩ := ob_e2 hf
          refine ob_calli (va_runV (As := [.int x1, .int x3]) (rest := [.int x2]) ⟨hx, hb, hml, hown, hts⟩ (c_X7_payer l dC dI ad cI cZ hI 3 (Nat.le_refl _) g x1 x3  v3 g3 e3) (cwV 2 hts gX7_freeMatches_X7_payer rfl rfl rfl ⟨rfl, hd_X7_payer⟩ (ob_R (Nat.le_trans (by decide) hd) (by decide))) (ob_preV hK hM (q := 0) shM_0 rfl) rfl rfl hl.1 rfl (lv_room (Nat.le_of_ble_eq_true rfl)) dX7_freeMatches_18 ⟨Nat.le_refl _, Nat.le_refl _⟩) hS (fun H locs hM hS => ?_)
          refine lv_iload_n hx hb dX7_freeMatches_21 rfl (lv_at hl 1 rfl) ?_
          refine lv_icmp_ne (tgt := 29) hx hb dX7_freeMatches_22 (by decide) (fun c4 => ?_) (fun c4 => ?_)
          · rw [if_neg c4] at hf
            refine lv_iconst (v := 1) hx hb dX7_freeMatches_29 (by decide) ?_
            exact w_30 (f_X7_freeMatches_L4 n) ih g3 x1 x3 1 x2 _ _ hM hS _ (lv_sub hl [0, 1, 3] rfl) hf
          · rw [if_pos c4] at hf
            refine lv_iconst (v := 0) hx hb dX7_freeMatches_25 (by decide) ?_
            refine lv_goto (tgt := 30) hx hb dX7_freeMatches_26 (by decide) ?_
            exact w_30 (f_X7_freeMatches_L4 n) ih g3 x1 x3 0 x2 _ _ hM hS _ (lv_sub hl [0, 1, 3] rfl) hf
  subst ha
  have hl := lv_entry ([.ref (ad 0), .int x1]) (n := 4) (Nat.le_of_ble_eq_true rfl)
  rw [lg_entry_eq]
  generalize (lg_sl ([.ref (ad 0), .int x1]) ++ List.replicate (4 - (lg_sl ([.ref (ad 0), .int x1])).length) Slot.unset).toArray = ls at hl ⊢
  have hl : lv_has ls 4 [(0, .ref (ad 0)), (1, .int x1)] := hl
  have hM := hM0
  have hS := hS0
  unfold f_X7_freeMatches at hf
  refine lv_iconst (v := 0) hx hb dX7_freeMatches_0 (by decide) ?_
  refine lv_istore_n (lv' := [(2, .int 0), (0, .ref (ad 0)), (1, .int x1)]) hx hb dX7_freeMatches_1 rfl hl (by decide) rfl (fun ls hl => ?_)
  refine lv_iconst (v := 0) hx hb dX7_freeMatches_2 (by decide) ?_
  refine lv_istore_n (lv' := [(3, .int 0), (2, .int 0), (0, .ref (ad 0)), (1, .int x1)]) hx hb dX7_freeMatches_3 rfl hl (by decide) rfl (fun ls hl => ?_)
  exact w_4 FU g x1 0 0 _ _ hM hS _ (lv_sub hl [2, 3, 1, 0] rfl) hf
set_option maxHeartbeats 4000000 in
set_option maxRecDepth 100000 in
theorem c_X7_worth (l : Launch) (dC : Nat → ClassId) (dI : Nat → Nat → Nat) (ad : Nat → Nat) (cI cZ : ClassId) (hI : ob_inj shM ad) (d : Nat) (hd : 5 ≤ d) (g : Mm) (x1 x2 : Int32) (r : Int32) (t : Mm) (hf : f_X7_worth g x1 x2 = some (r, t)) : ob_Mi l yX7_worth wsX7_worth d (dC, dI) vwCl shM ad cI cZ nwM [.ref (ad 0), .int x1, .int x2] g r t := by
  refine ob_ofW (cc := cX7_worth) (maxL := 5) (ret := (some .int)) (by decide) rfl ?_
  intro p e s m args below meth c ha hx hb hr hml hts hown hlocks hM0 hK hS0
  have hown : s.vm.findClass RX7 = some m.cls := hown
  have in_own : ∀ w ∈ wsX70, w ∈ wsX7_worth := fun w h => (List.mem_cons_of_mem _ (List.mem_append_right _ h))
  have hf_22 := hts (.fieldLink RX7 22 "OneWorseModel" "knows" "[I") (List.mem_cons_of_mem _ (List.mem_append_left _ (List.mem_append_left _ (List.mem_of_getElem? (i := 0) rfl))))
  subst ha
  have hl := lv_entry ([.ref (ad 0), .int x1, .int x2]) (n := 5) (Nat.le_of_ble_eq_true rfl)
  rw [lg_entry_eq]
  generalize (lg_sl ([.ref (ad 0), .int x1, .int x2]) ++ List.replicate (5 - (lg_sl ([.ref (ad 0), .int x1, .int x2])).length) Slot.unset).toArray = ls at hl ⊢
  have hl : lv_has ls 5 [(0, .ref (ad 0)), (1, .int x1), (2, .int x2)] := hl
  have hM := hM0
  have hS := hS0
  unfold f_X7_worth at hf
  refine lv_iload_n hx hb dX7_worth_0 rfl (lv_at hl 1 rfl) ?_
  obtain ⟨v1, e1, hf⟩ := ob_e1 hf
  refine ob_calli (va_runS (As := [.int x1]) (rest := []) ⟨hx, hb, hml, hown, hts⟩ (c_X7_isInsult l dC dI ad cI cZ hI 1 (Nat.le_refl _) g x1  v1 e1) (va_cwS 1 hts gX7_worth_X7_isInsult rfl rfl rfl hd_X7_isInsult (ob_R (Nat.le_trans (by decide) hd) (by decide))) (ob_preS hK hM) rfl rfl hl.1 rfl (lv_room (Nat.le_of_ble_eq_true rfl)) dX7_worth_1 ⟨Nat.le_refl _, Nat.le_refl _⟩) hS (fun H locs hM hS => ?_)
  refine lv_if_eq (tgt := 14) hx hb dX7_worth_4 (by decide) (fun c2 => ?_) (fun c2 => ?_)
  · rw [if_pos c2] at hf
    refine lv_iconst (v := (-1)) hx hb dX7_worth_14 (by decide) ?_
    exact ob_iret hx hb hr hlocks hM hS (v := (-1)) rfl hf dX7_worth_15
  · rw [if_neg c2] at hf
    refine lv_iload_n hx hb dX7_worth_7 rfl (lv_at hl 2 rfl) ?_
    obtain ⟨v3, e3, hf⟩ := ob_e1 hf
    refine ob_calli (va_runS (As := [.int x2]) (rest := []) ⟨hx, hb, hml, hown, hts⟩ (c_X7_isMan l dC dI ad cI cZ hI 1 (Nat.le_refl _) g x2  v3 e3) (va_cwS 1 hts gX7_worth_X7_isMan rfl rfl rfl hd_X7_isMan (ob_R (Nat.le_trans (by decide) hd) (by decide))) (ob_preS hK hM) rfl rfl hl.1 rfl (lv_room (Nat.le_of_ble_eq_true rfl)) dX7_worth_8 ⟨Nat.le_refl _, Nat.le_refl _⟩) hS (fun H locs hM hS => ?_)
    refine lv_if_ne (tgt := 16) hx hb dX7_worth_11 (by decide) (fun c4 => ?_) (fun c4 => ?_)
    · rw [if_neg c4] at hf
      refine lv_aload_n hx hb dX7_worth_16 rfl (lv_at hl 0 rfl) ?_
      refine ob_gr (j := 5) hx hb hts in_own hown hK hM (q := 0) shM_0 (C := RX7) (T := TX7) (N := 18) rfl 5 (by decide) hf_22 rfl dX7_worth_17 ?_
      refine lv_iload_n hx hb dX7_worth_20 rfl (lv_at hl 2 rfl) ?_
      obtain ⟨v5, e5, hf⟩ := ob_e1 hf
      refine ob_iald hx hb hK hM (q := 5) (n := 5) shM_5 e5 dX7_worth_21 ?_
      refine lv_iload_n hx hb dX7_worth_22 rfl (lv_at hl 1 rfl) ?_
      obtain ⟨v6, e6, hf⟩ := ob_e1 hf
      refine ob_calli (va_runS (As := [.int v5, .int x1]) (rest := []) ⟨hx, hb, hml, hown, hts⟩ (c_X7_has l dC dI ad cI cZ hI 0 (Nat.le_refl _) g v5 x1  v6 e6) (va_cwS 2 hts gX7_worth_X7_has rfl rfl rfl hd_X7_has (ob_R (Nat.le_trans (by decide) hd) (by decide))) (ob_preS hK hM) rfl rfl hl.1 rfl (lv_room (Nat.le_of_ble_eq_true rfl)) dX7_worth_23 ⟨Nat.le_refl _, Nat.le_refl _⟩) hS (fun H locs hM hS => ?_)
      refine lv_if_eq (tgt := 32) hx hb dX7_worth_26 (by decide) (fun c7 => ?_) (fun c7 => ?_)
      · rw [if_pos c7] at hf
        refine lv_aload_n hx hb dX7_worth_32 rfl (lv_at hl 0 rfl) ?_
        refine lv_iload_n hx hb dX7_worth_33 rfl (lv_at hl 2 rfl) ?_
        obtain ⟨v8, g8, e8, hf⟩ := ob_e2 hf
        refine ob_calli (va_runV (As := [.int x2]) (rest := []) ⟨hx, hb, hml, hown, hts⟩ (c_X7_freeMatches l dC dI ad cI cZ hI 4 (Nat.le_refl _) g x2  v8 g8 e8) (cwV 1 hts gX7_worth_X7_freeMatches rfl rfl rfl ⟨rfl, hd_X7_freeMatches⟩ (ob_R (Nat.le_trans (by decide) hd) (by decide))) (ob_preV hK hM (q := 0) shM_0 rfl) rfl rfl hl.1 rfl (lv_room (Nat.le_of_ble_eq_true rfl)) dX7_worth_34 ⟨Nat.le_refl _, Nat.le_refl _⟩) hS (fun H locs hM hS => ?_)
        refine lv_istore_n (lv' := [(3, .int v8), (0, .ref (ad 0)), (1, .int x1), (2, .int x2)]) hx hb dX7_worth_37 rfl hl (by decide) rfl (fun ls hl => ?_)
        refine lv_aload_n hx hb dX7_worth_38 rfl (lv_at hl 1 rfl) ?_
        refine ob_gr (j := 5) hx hb hts in_own hown hK hM (q := 0) shM_0 (C := RX7) (T := TX7) (N := 18) rfl 5 (by decide) hf_22 rfl dX7_worth_39 ?_
        refine lv_iload_n hx hb dX7_worth_42 rfl (lv_at hl 3 rfl) ?_
        refine lv_dup2_11 hx hb dX7_worth_43 rfl rfl ?_
        obtain ⟨v9, e9, hf⟩ := ob_e1 hf
        refine ob_iald hx hb hK hM (q := 5) (n := 5) shM_5 e9 dX7_worth_44 ?_
        refine lv_iconst (v := 1) hx hb dX7_worth_45 (by decide) ?_
        refine lv_iload_n hx hb dX7_worth_46 rfl (lv_at hl 2 rfl) ?_
        refine lv_ishl hx hb dX7_worth_47 ?_
        refine lv_ior hx hb dX7_worth_48 ?_
        obtain ⟨g10, e10, hf⟩ := ob_e1 hf
        refine ob_iast hx hb hK hM hI hS (q := 5) (n := 5) shM_5 e10 dX7_worth_49 (fun H locs hM hS => ?_)
        refine lv_aload_n hx hb dX7_worth_50 rfl (lv_at hl 1 rfl) ?_
        refine lv_iload_n hx hb dX7_worth_51 rfl (lv_at hl 3 rfl) ?_
        obtain ⟨v11, g11, e11, hf⟩ := ob_e2 hf
        refine ob_calli (va_runV (As := [.int x2]) (rest := []) ⟨hx, hb, hml, hown, hts⟩ (c_X7_freeMatches l dC dI ad cI cZ hI 4 (Nat.le_refl _) g10 x2  v11 g11 e11) (cwV 1 hts gX7_worth_X7_freeMatches rfl rfl rfl ⟨rfl, hd_X7_freeMatches⟩ (ob_R (Nat.le_trans (by decide) hd) (by decide))) (ob_preV hK hM (q := 0) shM_0 rfl) rfl rfl hl.1 rfl (lv_room (Nat.le_of_ble_eq_true rfl)) dX7_worth_52 ⟨Nat.le_refl _, Nat.le_refl _⟩) hS (fun H locs hM hS => ?_)
        refine lv_istore (lv' := [(4, .int v11), (3, .int v8), (0, .ref (ad 0)), (1, .int x1), (2, .int x2)]) hx hb dX7_worth_55 hl (by decide) rfl (fun ls hl => ?_)
        refine lv_aload_n hx hb dX7_worth_57 rfl (lv_at hl 2 rfl) ?_
        refine ob_gr (j := 5) hx hb hts in_own hown hK hM (q := 0) shM_0 (C := RX7) (T := TX7) (N := 18) rfl 5 (by decide) hf_22 rfl dX7_worth_58 ?_
        refine lv_iload_n hx hb dX7_worth_61 rfl (lv_at hl 4 rfl) ?_
        refine lv_dup2_11 hx hb dX7_worth_62 rfl rfl ?_
        obtain ⟨v12, e12, hf⟩ := ob_e1 hf
        refine ob_iald hx hb hK hM (q := 5) (n := 5) shM_5 e12 dX7_worth_63 ?_
        refine lv_iconst (v := 1) hx hb dX7_worth_64 (by decide) ?_
        refine lv_iload_n hx hb dX7_worth_65 rfl (lv_at hl 3 rfl) ?_
        refine lv_ishl hx hb dX7_worth_66 ?_
        refine lv_iconst (v := (-1)) hx hb dX7_worth_67 (by decide) ?_
        refine lv_ixor hx hb dX7_worth_68 ?_
        refine lv_iand hx hb dX7_worth_69 ?_
        obtain ⟨g13, e13, hf⟩ := ob_e1 hf
        refine ob_iast hx hb hK hM hI hS (q := 5) (n := 5) shM_5 e13 dX7_worth_70 (fun H locs hM hS => ?_)
        refine lv_iload hx hb dX7_worth_71 (lv_at hl 0 rfl) ?_
        refine lv_iload_n hx hb dX7_worth_73 rfl (lv_at hl 1 rfl) ?_
        refine lv_isub hx hb dX7_worth_74 ?_
        refine lv_bipush (v := 100) hx hb dX7_worth_75 (by decide) ?_
        refine lv_iadd hx hb dX7_worth_77 ?_
        exact ob_iret hx hb hr hlocks hM hS (v := ((v11 - v8) + 100)) rfl hf dX7_worth_78
      · rw [if_neg c7] at hf
        refine lv_bipush (v := (-3)) hx hb dX7_worth_29 (by decide) ?_
        exact ob_iret hx hb hr hlocks hM hS (v := (-3)) rfl hf dX7_worth_31
    · rw [if_pos c4] at hf
      refine lv_iconst (v := (-1)) hx hb dX7_worth_14 (by decide) ?_
      exact ob_iret hx hb hr hlocks hM hS (v := (-1)) rfl hf dX7_worth_15
set_option maxHeartbeats 4000000 in
set_option maxRecDepth 100000 in
theorem c_X7_fitsAt (l : Launch) (dC : Nat → ClassId) (dI : Nat → Nat → Nat) (ad : Nat → Nat) (cI cZ : ClassId) (hI : ob_inj shM ad) (d : Nat) (hd : 1 ≤ d) (g : Mm) (x1 x2 : Int32) (r : Int32) (hf : f_X7_fitsAt g x1 x2 = some r) : ob_Mi l yX7_fitsAt wsX7_fitsAt d (dC, dI) vwCl shM ad cI cZ nwM [.ref (ad 0), .int x1, .int x2] g r g := by
  refine ob_ofW (cc := cX7_fitsAt) (maxL := 6) (ret := (some .boolean)) (by decide) rfl ?_
  intro p e s m args below meth c ha hx hb hr hml hts hown hlocks hM0 hK hS0
  have hown : s.vm.findClass RX7 = some m.cls := hown
  have in_own : ∀ w ∈ wsX70, w ∈ wsX7_fitsAt := fun w h => (List.mem_cons_of_mem _ (List.mem_append_right _ h))
  have hf_34 := hts (.fieldLink RX7 34 "OneWorseModel" "said" "[I") (List.mem_cons_of_mem _ (List.mem_append_left _ (List.mem_of_getElem? (i := 0) rfl)))
  have hf_22 := hts (.fieldLink RX7 22 "OneWorseModel" "knows" "[I") (List.mem_cons_of_mem _ (List.mem_append_left _ (List.mem_of_getElem? (i := 1) rfl)))
  have hf_31 := hts (.fieldLink RX7 31 "OneWorseModel" "row" "[I") (List.mem_cons_of_mem _ (List.mem_append_left _ (List.mem_of_getElem? (i := 2) rfl)))
  have hf_13 := hts (.fieldLink RX7 13 "OneWorseModel" "book" "[I") (List.mem_cons_of_mem _ (List.mem_append_left _ (List.mem_of_getElem? (i := 3) rfl)))
  have w_146 : ∀ (k119 : Int32 → Int32 → Int32 → Int32 → Option (Int32)) (hk119 : ∀ (x1 x3 x4 x5 : Int32) (H : Heap) (locs : List Loc), va_P (dC, dI) vwCl (ob_ws shM ad cI cZ g) H → va_S (ob_A shM ad) s.heap H locs → ∀ (ls : Array Slot), lv_has ls 6 [(0, .ref (ad 0)), (1, .int x1), (3, .int x3), (4, .int x4), (5, .int x5)] → k119 x1 x3 x4 x5 = some r → W p l e (rmN d) s m args below meth c H locs 0 0 (MQ below (ob_Qi (dC, dI) vwCl shM ad cI cZ r g) args s 0 0 (ob_A shM ad)) (F0 m 119 ls [])), ∀ (x1 x3 x5 s0 : Int32) (H : Heap) (locs : List Loc), va_P (dC, dI) vwCl (ob_ws shM ad cI cZ g) H → va_S (ob_A shM ad) s.heap H locs → ∀ (ls : Array Slot), lv_has ls 6 [(0, .ref (ad 0)), (1, .int x1), (3, .int x3), (5, .int x5)] → f_X7_fitsAt_J146 g k119 x1 x3 x5 s0 = some r → W p l e (rmN d) s m args below meth c H locs 0 0 (MQ below (ob_Qi (dC, dI) vwCl shM ad cI cZ r g) args s 0 0 (ob_A shM ad)) (F0 m 146 ls [.int s0]) := by
    intro k119 hk119 x1 x3 x5 s0 H locs hM hS ls hl hf
    unfold f_X7_fitsAt_J146 at hf
    refine lv_istore (lv' := [(4, .int s0), (0, .ref (ad 0)), (1, .int x1), (3, .int x3), (5, .int x5)]) hx hb dX7_fitsAt_146 hl (by decide) rfl (fun ls hl => ?_)
    refine lv_iinc (v := (x5 + 1)) (lv' := [(5, .int (x5 + 1)), (4, .int s0), (0, .ref (ad 0)), (1, .int x1), (3, .int x3)]) hx hb dX7_fitsAt_148 hl (k := 4) rfl rfl (by decide) rfl (fun ls hl => ?_)
    refine lv_goto (tgt := 119) hx hb dX7_fitsAt_151 (by decide) ?_
    exact hk119 x1 x3 s0 (x5 + 1) _ _ hM hS _ (lv_sub hl [2, 3, 4, 1, 0] rfl) hf
  have w_145 : ∀ (k119 : Int32 → Int32 → Int32 → Int32 → Option (Int32)) (hk119 : ∀ (x1 x3 x4 x5 : Int32) (H : Heap) (locs : List Loc), va_P (dC, dI) vwCl (ob_ws shM ad cI cZ g) H → va_S (ob_A shM ad) s.heap H locs → ∀ (ls : Array Slot), lv_has ls 6 [(0, .ref (ad 0)), (1, .int x1), (3, .int x3), (4, .int x4), (5, .int x5)] → k119 x1 x3 x4 x5 = some r → W p l e (rmN d) s m args below meth c H locs 0 0 (MQ below (ob_Qi (dC, dI) vwCl shM ad cI cZ r g) args s 0 0 (ob_A shM ad)) (F0 m 119 ls [])), ∀ (x1 x3 x5 : Int32) (H : Heap) (locs : List Loc), va_P (dC, dI) vwCl (ob_ws shM ad cI cZ g) H → va_S (ob_A shM ad) s.heap H locs → ∀ (ls : Array Slot), lv_has ls 6 [(0, .ref (ad 0)), (1, .int x1), (3, .int x3), (5, .int x5)] → f_X7_fitsAt_J145 g k119 x1 x3 x5 = some r → W p l e (rmN d) s m args below meth c H locs 0 0 (MQ below (ob_Qi (dC, dI) vwCl shM ad cI cZ r g) args s 0 0 (ob_A shM ad)) (F0 m 145 ls []) := by
    intro k119 hk119 x1 x3 x5 H locs hM hS ls hl hf
    unfold f_X7_fitsAt_J145 at hf
    refine lv_iconst (v := 0) hx hb dX7_fitsAt_145 (by decide) ?_
    exact w_146 k119 hk119 x1 x3 x5 0 _ _ hM hS _ (lv_sub hl [0, 1, 2, 3] rfl) hf
  have w_119 : ∀ (n : Nat), ∀ (x1 x3 x4 x5 : Int32) (H : Heap) (locs : List Loc), va_P (dC, dI) vwCl (ob_ws shM ad cI cZ g) H → va_S (ob_A shM ad) s.heap H locs → ∀ (ls : Array Slot), lv_has ls 6 [(0, .ref (ad 0)), (1, .int x1), (3, .int x3), (4, .int x4), (5, .int x5)] → f_X7_fitsAt_L119 g n x1 x3 x4 x5 = some r → W p l e (rmN d) s m args below meth c H locs 0 0 (MQ below (ob_Qi (dC, dI) vwCl shM ad cI cZ r g) args s 0 0 (ob_A shM ad)) (F0 m 119 ls []) := by
    intro n
    induction n with
    | zero =>
      intro x1 x3 x4 x5 H locs hM hS ls hl hf
      cases hf
    | succ n ih =>
      intro x1 x3 x4 x5 H locs hM hS ls hl hf
      unfold f_X7_fitsAt_L119 at hf
      refine lv_iload hx hb dX7_fitsAt_119 (lv_at hl 4 rfl) ?_
      refine lv_iload_n hx hb dX7_fitsAt_121 rfl (lv_at hl 1 rfl) ?_
      refine lv_icmp_ge (tgt := 154) hx hb dX7_fitsAt_122 (by decide) (fun c21 => ?_) (fun c21 => ?_)
      · rw [if_pos c21] at hf
        refine lv_iload hx hb dX7_fitsAt_154 (lv_at hl 3 rfl) ?_
        obtain ⟨u22, e22, hf⟩ := ob_e1 hf
        exact ob_iretR hx hb hr hlocks hM hS (v := x4) (ob_zb_in e22) hf dX7_fitsAt_156
      · rw [if_neg c21] at hf
        refine lv_iload hx hb dX7_fitsAt_125 (lv_at hl 3 rfl) ?_
        refine lv_if_eq (tgt := 145) hx hb dX7_fitsAt_127 (by decide) (fun c23 => ?_) (fun c23 => ?_)
        · rw [if_pos c23] at hf
          exact w_145 (f_X7_fitsAt_L119 g n) ih x1 x3 x5 _ _ hM hS _ (lv_sub hl [0, 1, 2, 4] rfl) hf
        · rw [if_neg c23] at hf
          refine lv_aload_n hx hb dX7_fitsAt_130 rfl (lv_at hl 0 rfl) ?_
          refine ob_gr (j := 9) hx hb hts in_own hown hK hM (q := 0) shM_0 (C := RX7) (T := TX7) (N := 18) rfl 10 (by decide) hf_34 rfl dX7_fitsAt_131 ?_
          refine lv_iload hx hb dX7_fitsAt_134 (lv_at hl 4 rfl) ?_
          obtain ⟨v24, e24, hf⟩ := ob_e1 hf
          refine ob_iald hx hb hK hM (q := 9) (n := 5) shM_9 e24 dX7_fitsAt_136 ?_
          refine lv_iload_n hx hb dX7_fitsAt_137 rfl (lv_at hl 2 rfl) ?_
          refine lv_icmp_eq (tgt := 145) hx hb dX7_fitsAt_138 (by decide) (fun c25 => ?_) (fun c25 => ?_)
          · rw [if_pos c25] at hf
            exact w_145 (f_X7_fitsAt_L119 g n) ih x1 x3 x5 _ _ hM hS _ (lv_sub hl [0, 1, 2, 4] rfl) hf
          · rw [if_neg c25] at hf
            refine lv_iconst (v := 1) hx hb dX7_fitsAt_141 (by decide) ?_
            refine lv_goto (tgt := 146) hx hb dX7_fitsAt_142 (by decide) ?_
            exact w_146 (f_X7_fitsAt_L119 g n) ih x1 x3 x5 1 _ _ hM hS _ (lv_sub hl [0, 1, 2, 4] rfl) hf
  have w_116 : ∀ (x1 x3 x4 : Int32) (H : Heap) (locs : List Loc), va_P (dC, dI) vwCl (ob_ws shM ad cI cZ g) H → va_S (ob_A shM ad) s.heap H locs → ∀ (ls : Array Slot), lv_has ls 6 [(0, .ref (ad 0)), (1, .int x1), (3, .int x3), (4, .int x4)] → f_X7_fitsAt_J116 g x1 x3 x4 = some r → W p l e (rmN d) s m args below meth c H locs 0 0 (MQ below (ob_Qi (dC, dI) vwCl shM ad cI cZ r g) args s 0 0 (ob_A shM ad)) (F0 m 116 ls []) := by
    intro x1 x3 x4 H locs hM hS ls hl hf
    unfold f_X7_fitsAt_J116 at hf
    refine lv_iconst (v := 0) hx hb dX7_fitsAt_116 (by decide) ?_
    refine lv_istore (lv' := [(5, .int 0), (0, .ref (ad 0)), (1, .int x1), (3, .int x3), (4, .int x4)]) hx hb dX7_fitsAt_117 hl (by decide) rfl (fun ls hl => ?_)
    exact w_119 FU x1 x3 x4 0 _ _ hM hS _ (lv_sub hl [1, 2, 3, 4, 0] rfl) hf
  have w_77 : ∀ (x1 x3 s0 : Int32) (H : Heap) (locs : List Loc), va_P (dC, dI) vwCl (ob_ws shM ad cI cZ g) H → va_S (ob_A shM ad) s.heap H locs → ∀ (ls : Array Slot), lv_has ls 6 [(0, .ref (ad 0)), (1, .int x1), (3, .int x3)] → f_X7_fitsAt_J77 g x1 x3 s0 = some r → W p l e (rmN d) s m args below meth c H locs 0 0 (MQ below (ob_Qi (dC, dI) vwCl shM ad cI cZ r g) args s 0 0 (ob_A shM ad)) (F0 m 77 ls [.int s0]) := by
    intro x1 x3 s0 H locs hM hS ls hl hf
    unfold f_X7_fitsAt_J77 at hf
    refine lv_istore (lv' := [(4, .int s0), (0, .ref (ad 0)), (1, .int x1), (3, .int x3)]) hx hb dX7_fitsAt_77 hl (by decide) rfl (fun ls hl => ?_)
    refine lv_goto (tgt := 116) hx hb dX7_fitsAt_79 (by decide) ?_
    exact w_116 x1 x3 s0 _ _ hM hS _ (lv_sub hl [1, 2, 3, 0] rfl) hf
  have w_76 : ∀ (x1 x3 : Int32) (H : Heap) (locs : List Loc), va_P (dC, dI) vwCl (ob_ws shM ad cI cZ g) H → va_S (ob_A shM ad) s.heap H locs → ∀ (ls : Array Slot), lv_has ls 6 [(0, .ref (ad 0)), (1, .int x1), (3, .int x3)] → f_X7_fitsAt_J76 g x1 x3 = some r → W p l e (rmN d) s m args below meth c H locs 0 0 (MQ below (ob_Qi (dC, dI) vwCl shM ad cI cZ r g) args s 0 0 (ob_A shM ad)) (F0 m 76 ls []) := by
    intro x1 x3 H locs hM hS ls hl hf
    unfold f_X7_fitsAt_J76 at hf
    refine lv_iconst (v := 0) hx hb dX7_fitsAt_76 (by decide) ?_
    exact w_77 x1 x3 0 _ _ hM hS _ (lv_sub hl [0, 1, 2] rfl) hf
  have w_114 : ∀ (x1 x3 s0 : Int32) (H : Heap) (locs : List Loc), va_P (dC, dI) vwCl (ob_ws shM ad cI cZ g) H → va_S (ob_A shM ad) s.heap H locs → ∀ (ls : Array Slot), lv_has ls 6 [(0, .ref (ad 0)), (1, .int x1), (3, .int x3)] → f_X7_fitsAt_J114 g x1 x3 s0 = some r → W p l e (rmN d) s m args below meth c H locs 0 0 (MQ below (ob_Qi (dC, dI) vwCl shM ad cI cZ r g) args s 0 0 (ob_A shM ad)) (F0 m 114 ls [.int s0]) := by
    intro x1 x3 s0 H locs hM hS ls hl hf
    unfold f_X7_fitsAt_J114 at hf
    refine lv_istore (lv' := [(4, .int s0), (0, .ref (ad 0)), (1, .int x1), (3, .int x3)]) hx hb dX7_fitsAt_114 hl (by decide) rfl (fun ls hl => ?_)
    exact w_116 x1 x3 s0 _ _ hM hS _ (lv_sub hl [1, 2, 3, 0] rfl) hf
  have w_113 : ∀ (x1 x3 : Int32) (H : Heap) (locs : List Loc), va_P (dC, dI) vwCl (ob_ws shM ad cI cZ g) H → va_S (ob_A shM ad) s.heap H locs → ∀ (ls : Array Slot), lv_has ls 6 [(0, .ref (ad 0)), (1, .int x1), (3, .int x3)] → f_X7_fitsAt_J113 g x1 x3 = some r → W p l e (rmN d) s m args below meth c H locs 0 0 (MQ below (ob_Qi (dC, dI) vwCl shM ad cI cZ r g) args s 0 0 (ob_A shM ad)) (F0 m 113 ls []) := by
    intro x1 x3 H locs hM hS ls hl hf
    unfold f_X7_fitsAt_J113 at hf
    refine lv_iconst (v := 0) hx hb dX7_fitsAt_113 (by decide) ?_
    exact w_114 x1 x3 0 _ _ hM hS _ (lv_sub hl [0, 1, 2] rfl) hf
  subst ha
  have hl := lv_entry ([.ref (ad 0), .int x1, .int x2]) (n := 6) (Nat.le_of_ble_eq_true rfl)
  rw [lg_entry_eq]
  generalize (lg_sl ([.ref (ad 0), .int x1, .int x2]) ++ List.replicate (6 - (lg_sl ([.ref (ad 0), .int x1, .int x2])).length) Slot.unset).toArray = ls at hl ⊢
  have hl : lv_has ls 6 [(0, .ref (ad 0)), (1, .int x1), (2, .int x2)] := hl
  have hM := hM0
  have hS := hS0
  unfold f_X7_fitsAt at hf
  refine lv_aload_n hx hb dX7_fitsAt_0 rfl (lv_at hl 0 rfl) ?_
  refine ob_gr (j := 9) hx hb hts in_own hown hK hM (q := 0) shM_0 (C := RX7) (T := TX7) (N := 18) rfl 10 (by decide) hf_34 rfl dX7_fitsAt_1 ?_
  refine lv_iload_n hx hb dX7_fitsAt_4 rfl (lv_at hl 1 rfl) ?_
  obtain ⟨v1, e1, hf⟩ := ob_e1 hf
  refine ob_iald hx hb hK hM (q := 9) (n := 5) shM_9 e1 dX7_fitsAt_5 ?_
  refine lv_istore_n (lv' := [(3, .int v1), (0, .ref (ad 0)), (1, .int x1), (2, .int x2)]) hx hb dX7_fitsAt_6 rfl hl (by decide) rfl (fun ls hl => ?_)
  refine lv_aload_n hx hb dX7_fitsAt_7 rfl (lv_at hl 1 rfl) ?_
  refine ob_gr (j := 5) hx hb hts in_own hown hK hM (q := 0) shM_0 (C := RX7) (T := TX7) (N := 18) rfl 5 (by decide) hf_22 rfl dX7_fitsAt_8 ?_
  refine lv_aload_n hx hb dX7_fitsAt_11 rfl (lv_at hl 1 rfl) ?_
  refine ob_gr (j := 8) hx hb hts in_own hown hK hM (q := 0) shM_0 (C := RX7) (T := TX7) (N := 18) rfl 9 (by decide) hf_31 rfl dX7_fitsAt_12 ?_
  refine lv_iload_n hx hb dX7_fitsAt_15 rfl (lv_at hl 2 rfl) ?_
  obtain ⟨v2, e2, hf⟩ := ob_e1 hf
  refine ob_iald hx hb hK hM (q := 8) (n := 5) shM_8 e2 dX7_fitsAt_16 ?_
  obtain ⟨v3, e3, hf⟩ := ob_e1 hf
  refine ob_iald hx hb hK hM (q := 5) (n := 5) shM_5 e3 dX7_fitsAt_17 ?_
  refine lv_iload_n hx hb dX7_fitsAt_18 rfl (lv_at hl 0 rfl) ?_
  obtain ⟨v4, e4, hf⟩ := ob_e1 hf
  refine ob_calli (va_runS (As := [.int v3, .int v1]) (rest := []) ⟨hx, hb, hml, hown, hts⟩ (c_X7_has l dC dI ad cI cZ hI 0 (Nat.le_refl _) g v3 v1  v4 e4) (va_cwS 2 hts gX7_fitsAt_X7_has rfl rfl rfl hd_X7_has (ob_R (Nat.le_trans (by decide) hd) (by decide))) (ob_preS hK hM) rfl rfl hl.1 rfl (lv_room (Nat.le_of_ble_eq_true rfl)) dX7_fitsAt_19 ⟨Nat.le_refl _, Nat.le_refl _⟩) hS (fun H locs hM hS => ?_)
  refine lv_istore (lv' := [(4, .int v4), (3, .int v1), (0, .ref (ad 0)), (1, .int x1), (2, .int x2)]) hx hb dX7_fitsAt_22 hl (by decide) rfl (fun ls hl => ?_)
  refine lv_iload_n hx hb dX7_fitsAt_24 rfl (lv_at hl 3 rfl) ?_
  refine lv_if_le (tgt := 82) hx hb dX7_fitsAt_25 (by decide) (fun c5 => ?_) (fun c5 => ?_)
  · rw [if_pos c5] at hf
    refine lv_iload_n hx hb dX7_fitsAt_82 rfl (lv_at hl 4 rfl) ?_
    refine lv_iconst (v := 1) hx hb dX7_fitsAt_83 (by decide) ?_
    refine lv_icmp_le (tgt := 116) hx hb dX7_fitsAt_84 (by decide) (fun c6 => ?_) (fun c6 => ?_)
    · rw [if_pos c6] at hf
      exact w_116 x1 v1 v4 _ _ hM hS _ (lv_sub hl [2, 3, 1, 0] rfl) hf
    · rw [if_neg c6] at hf
      refine lv_iload hx hb dX7_fitsAt_87 (lv_at hl 0 rfl) ?_
      refine lv_if_eq (tgt := 113) hx hb dX7_fitsAt_89 (by decide) (fun c7 => ?_) (fun c7 => ?_)
      · rw [if_pos c7] at hf
        exact w_113 x1 v1 _ _ hM hS _ (lv_sub hl [2, 3, 1] rfl) hf
      · rw [if_neg c7] at hf
        refine lv_aload_n hx hb dX7_fitsAt_92 rfl (lv_at hl 2 rfl) ?_
        refine lv_aload_n hx hb dX7_fitsAt_93 rfl (lv_at hl 2 rfl) ?_
        refine ob_gr (j := 8) hx hb hts in_own hown hK hM (q := 0) shM_0 (C := RX7) (T := TX7) (N := 18) rfl 9 (by decide) hf_31 rfl dX7_fitsAt_94 ?_
        refine lv_iconst (v := 1) hx hb dX7_fitsAt_97 (by decide) ?_
        obtain ⟨v8, e8, hf⟩ := ob_e1 hf
        refine ob_iald hx hb hK hM (q := 8) (n := 5) shM_8 e8 dX7_fitsAt_98 ?_
        obtain ⟨v9, e9, hf⟩ := ob_e1 hf
        refine ob_calli (va_runV (As := [.int v8]) (rest := []) ⟨hx, hb, hml, hown, hts⟩ (c_X7_fitOf l dC dI ad cI cZ hI 0 (Nat.le_refl _) g v8  v9 e9) (cwV 1 hts gX7_fitsAt_X7_fitOf rfl rfl rfl ⟨rfl, hd_X7_fitOf⟩ (ob_R (Nat.le_trans (by decide) hd) (by decide))) (ob_preV hK hM (q := 0) shM_0 rfl) rfl rfl hl.1 rfl (lv_room (Nat.le_of_ble_eq_true rfl)) dX7_fitsAt_99 ⟨Nat.le_refl _, Nat.le_refl _⟩) hS (fun H locs hM hS => ?_)
        refine lv_iload_n hx hb dX7_fitsAt_102 rfl (lv_at hl 1 rfl) ?_
        obtain ⟨v10, e10, hf⟩ := ob_e1 hf
        refine ob_calli (va_runS (As := [.int v9, .int v1]) (rest := []) ⟨hx, hb, hml, hown, hts⟩ (c_X7_has l dC dI ad cI cZ hI 0 (Nat.le_refl _) g v9 v1  v10 e10) (va_cwS 2 hts gX7_fitsAt_X7_has rfl rfl rfl hd_X7_has (ob_R (Nat.le_trans (by decide) hd) (by decide))) (ob_preS hK hM) rfl rfl hl.1 rfl (lv_room (Nat.le_of_ble_eq_true rfl)) dX7_fitsAt_103 ⟨Nat.le_refl _, Nat.le_refl _⟩) hS (fun H locs hM hS => ?_)
        refine lv_if_eq (tgt := 113) hx hb dX7_fitsAt_106 (by decide) (fun c11 => ?_) (fun c11 => ?_)
        · rw [if_pos c11] at hf
          exact w_113 x1 v1 _ _ hM hS _ (lv_sub hl [2, 3, 1] rfl) hf
        · rw [if_neg c11] at hf
          refine lv_iconst (v := 1) hx hb dX7_fitsAt_109 (by decide) ?_
          refine lv_goto (tgt := 114) hx hb dX7_fitsAt_110 (by decide) ?_
          exact w_114 x1 v1 1 _ _ hM hS _ (lv_sub hl [2, 3, 1] rfl) hf
  · rw [if_neg c5] at hf
    refine lv_iload hx hb dX7_fitsAt_28 (lv_at hl 0 rfl) ?_
    refine lv_if_eq (tgt := 76) hx hb dX7_fitsAt_30 (by decide) (fun c12 => ?_) (fun c12 => ?_)
    · rw [if_pos c12] at hf
      exact w_76 x1 v1 _ _ hM hS _ (lv_sub hl [2, 3, 1] rfl) hf
    · rw [if_neg c12] at hf
      refine lv_aload_n hx hb dX7_fitsAt_33 rfl (lv_at hl 2 rfl) ?_
      refine ob_gr (j := 2) hx hb hts in_own hown hK hM (q := 0) shM_0 (C := RX7) (T := TX7) (N := 18) rfl 2 (by decide) hf_13 rfl dX7_fitsAt_34 ?_
      refine lv_aload_n hx hb dX7_fitsAt_37 rfl (lv_at hl 2 rfl) ?_
      refine ob_gr (j := 9) hx hb hts in_own hown hK hM (q := 0) shM_0 (C := RX7) (T := TX7) (N := 18) rfl 10 (by decide) hf_34 rfl dX7_fitsAt_38 ?_
      refine lv_iload_n hx hb dX7_fitsAt_41 rfl (lv_at hl 3 rfl) ?_
      refine lv_iconst (v := 1) hx hb dX7_fitsAt_42 (by decide) ?_
      refine lv_isub hx hb dX7_fitsAt_43 ?_
      obtain ⟨v13, e13, hf⟩ := ob_e1 hf
      refine ob_iald hx hb hK hM (q := 9) (n := 5) shM_9 e13 dX7_fitsAt_44 ?_
      obtain ⟨v14, e14, hf⟩ := ob_e1 hf
      refine ob_iald hx hb hK hM (q := 2) (n := 10) shM_2 e14 dX7_fitsAt_45 ?_
      refine lv_iload_n hx hb dX7_fitsAt_46 rfl (lv_at hl 1 rfl) ?_
      obtain ⟨v15, e15, hf⟩ := ob_e1 hf
      refine ob_calli (va_runS (As := [.int v14, .int v1]) (rest := []) ⟨hx, hb, hml, hown, hts⟩ (c_X7_has l dC dI ad cI cZ hI 0 (Nat.le_refl _) g v14 v1  v15 e15) (va_cwS 2 hts gX7_fitsAt_X7_has rfl rfl rfl hd_X7_has (ob_R (Nat.le_trans (by decide) hd) (by decide))) (ob_preS hK hM) rfl rfl hl.1 rfl (lv_room (Nat.le_of_ble_eq_true rfl)) dX7_fitsAt_47 ⟨Nat.le_refl _, Nat.le_refl _⟩) hS (fun H locs hM hS => ?_)
      refine lv_if_eq (tgt := 76) hx hb dX7_fitsAt_50 (by decide) (fun c16 => ?_) (fun c16 => ?_)
      · rw [if_pos c16] at hf
        exact w_76 x1 v1 _ _ hM hS _ (lv_sub hl [2, 3, 1] rfl) hf
      · rw [if_neg c16] at hf
        refine lv_aload_n hx hb dX7_fitsAt_53 rfl (lv_at hl 2 rfl) ?_
        refine lv_aload_n hx hb dX7_fitsAt_54 rfl (lv_at hl 2 rfl) ?_
        refine ob_gr (j := 8) hx hb hts in_own hown hK hM (q := 0) shM_0 (C := RX7) (T := TX7) (N := 18) rfl 9 (by decide) hf_31 rfl dX7_fitsAt_55 ?_
        refine lv_iload_n hx hb dX7_fitsAt_58 rfl (lv_at hl 3 rfl) ?_
        refine lv_iconst (v := 1) hx hb dX7_fitsAt_59 (by decide) ?_
        refine lv_isub hx hb dX7_fitsAt_60 ?_
        obtain ⟨v17, e17, hf⟩ := ob_e1 hf
        refine ob_iald hx hb hK hM (q := 8) (n := 5) shM_8 e17 dX7_fitsAt_61 ?_
        obtain ⟨v18, e18, hf⟩ := ob_e1 hf
        refine ob_calli (va_runV (As := [.int v17]) (rest := []) ⟨hx, hb, hml, hown, hts⟩ (c_X7_fitOf l dC dI ad cI cZ hI 0 (Nat.le_refl _) g v17  v18 e18) (cwV 1 hts gX7_fitsAt_X7_fitOf rfl rfl rfl ⟨rfl, hd_X7_fitOf⟩ (ob_R (Nat.le_trans (by decide) hd) (by decide))) (ob_preV hK hM (q := 0) shM_0 rfl) rfl rfl hl.1 rfl (lv_room (Nat.le_of_ble_eq_true rfl)) dX7_fitsAt_62 ⟨Nat.le_refl _, Nat.le_refl _⟩) hS (fun H locs hM hS => ?_)
        refine lv_iload_n hx hb dX7_fitsAt_65 rfl (lv_at hl 1 rfl) ?_
        obtain ⟨v19, e19, hf⟩ := ob_e1 hf
        refine ob_calli (va_runS (As := [.int v18, .int v1]) (rest := []) ⟨hx, hb, hml, hown, hts⟩ (c_X7_has l dC dI ad cI cZ hI 0 (Nat.le_refl _) g v18 v1  v19 e19) (va_cwS 2 hts gX7_fitsAt_X7_has rfl rfl rfl hd_X7_has (ob_R (Nat.le_trans (by decide) hd) (by decide))) (ob_preS hK hM) rfl rfl hl.1 rfl (lv_room (Nat.le_of_ble_eq_true rfl)) dX7_fitsAt_66 ⟨Nat.le_refl _, Nat.le_refl _⟩) hS (fun H locs hM hS => ?_)
        refine lv_if_eq (tgt := 76) hx hb dX7_fitsAt_69 (by decide) (fun c20 => ?_) (fun c20 => ?_)
        · rw [if_pos c20] at hf
          exact w_76 x1 v1 _ _ hM hS _ (lv_sub hl [2, 3, 1] rfl) hf
        · rw [if_neg c20] at hf
          refine lv_iconst (v := 1) hx hb dX7_fitsAt_72 (by decide) ?_
          refine lv_goto (tgt := 77) hx hb dX7_fitsAt_73 (by decide) ?_
          exact w_77 x1 v1 1 _ _ hM hS _ (lv_sub hl [2, 3, 1] rfl) hf
set_option maxHeartbeats 4000000 in
set_option maxRecDepth 100000 in
theorem c_X7_canSay (l : Launch) (dC : Nat → ClassId) (dI : Nat → Nat → Nat) (ad : Nat → Nat) (cI cZ : ClassId) (hI : ob_inj shM ad) (d : Nat) (hd : 2 ≤ d) (g : Mm) (x1 : Int32) (r : Int32) (t : Mm) (hf : f_X7_canSay g x1 = some (r, t)) : ob_Mi l yX7_canSay wsX7_canSay d (dC, dI) vwCl shM ad cI cZ nwM [.ref (ad 0), .int x1] g r t := by
  refine ob_ofW (cc := cX7_canSay) (maxL := 3) (ret := (some .boolean)) (by decide) rfl ?_
  intro p e s m args below meth c ha hx hb hr hml hts hown hlocks hM0 hK hS0
  have hown : s.vm.findClass RX7 = some m.cls := hown
  have in_own : ∀ w ∈ wsX70, w ∈ wsX7_canSay := fun w h => (List.mem_cons_of_mem _ (List.mem_append_right _ h))
  have hf_34 := hts (.fieldLink RX7 34 "OneWorseModel" "said" "[I") (List.mem_cons_of_mem _ (List.mem_append_left _ (List.mem_of_getElem? (i := 0) rfl)))
  have w_9 : ∀ (k72 : Mm → Int32 → Int32 → Option (Int32 × Mm)) (hk72 : ∀ (g : Mm) (x1 x2 : Int32) (H : Heap) (locs : List Loc), va_P (dC, dI) vwCl (ob_ws shM ad cI cZ g) H → va_S (ob_A shM ad) s.heap H locs → ∀ (ls : Array Slot), lv_has ls 3 [(1, .int x1), (2, .int x2)] → k72 g x1 x2 = some (r, t) → W p l e (rmN d) s m args below meth c H locs 0 0 (MQ below (ob_Qi (dC, dI) vwCl shM ad cI cZ r t) args s 0 0 (ob_A shM ad)) (F0 m 72 ls [])) (n : Nat), ∀ (g : Mm) (x1 x2 : Int32) (H : Heap) (locs : List Loc), va_P (dC, dI) vwCl (ob_ws shM ad cI cZ g) H → va_S (ob_A shM ad) s.heap H locs → ∀ (ls : Array Slot), lv_has ls 3 [(0, .ref (ad 0)), (1, .int x1), (2, .int x2)] → f_X7_canSay_L9 k72 n g x1 x2 = some (r, t) → W p l e (rmN d) s m args below meth c H locs 0 0 (MQ below (ob_Qi (dC, dI) vwCl shM ad cI cZ r t) args s 0 0 (ob_A shM ad)) (F0 m 9 ls []) := by
    intro k72 hk72 n
    induction n with
    | zero =>
      intro g x1 x2 H locs hM hS ls hl hf
      cases hf
    | succ n ih =>
      intro g x1 x2 H locs hM hS ls hl hf
      unfold f_X7_canSay_L9 at hf
      refine lv_iload_n hx hb dX7_canSay_9 rfl (lv_at hl 2 rfl) ?_
      refine lv_if_lt (tgt := 72) hx hb dX7_canSay_10 (by decide) (fun c2 => ?_) (fun c2 => ?_)
      · rw [if_pos c2] at hf
        exact hk72 g x1 x2 _ _ hM hS _ (lv_sub hl [1, 2] rfl) hf
      · rw [if_neg c2] at hf
        refine lv_iload_n hx hb dX7_canSay_13 rfl (lv_at hl 2 rfl) ?_
        refine lv_iload_n hx hb dX7_canSay_14 rfl (lv_at hl 1 rfl) ?_
        refine lv_icmp_ge (tgt := 72) hx hb dX7_canSay_15 (by decide) (fun c3 => ?_) (fun c3 => ?_)
        · rw [if_pos c3] at hf
          exact hk72 g x1 x2 _ _ hM hS _ (lv_sub hl [1, 2] rfl) hf
        · rw [if_neg c3] at hf
          refine lv_aload_n hx hb dX7_canSay_18 rfl (lv_at hl 0 rfl) ?_
          refine ob_gr (j := 9) hx hb hts in_own hown hK hM (q := 0) shM_0 (C := RX7) (T := TX7) (N := 18) rfl 10 (by decide) hf_34 rfl dX7_canSay_19 ?_
          refine lv_iload_n hx hb dX7_canSay_22 rfl (lv_at hl 2 rfl) ?_
          refine lv_dup2_11 hx hb dX7_canSay_23 rfl rfl ?_
          obtain ⟨v4, e4, hf⟩ := ob_e1 hf
          refine ob_iald hx hb hK hM (q := 9) (n := 5) shM_9 e4 dX7_canSay_24 ?_
          refine lv_iconst (v := 1) hx hb dX7_canSay_25 (by decide) ?_
          refine lv_iadd hx hb dX7_canSay_26 ?_
          obtain ⟨g5, e5, hf⟩ := ob_e1 hf
          refine ob_iast hx hb hK hM hI hS (q := 9) (n := 5) shM_9 e5 dX7_canSay_27 (fun H locs hM hS => ?_)
          refine lv_aload_n hx hb dX7_canSay_28 rfl (lv_at hl 0 rfl) ?_
          refine ob_gr (j := 9) hx hb hts in_own hown hK hM (q := 0) shM_0 (C := RX7) (T := TX7) (N := 18) rfl 10 (by decide) hf_34 rfl dX7_canSay_29 ?_
          refine lv_iload_n hx hb dX7_canSay_32 rfl (lv_at hl 2 rfl) ?_
          obtain ⟨v6, e6, hf⟩ := ob_e1 hf
          refine ob_iald hx hb hK hM (q := 9) (n := 5) shM_9 e6 dX7_canSay_33 ?_
          refine lv_bipush (v := 9) hx hb dX7_canSay_34 (by decide) ?_
          refine lv_icmp_le (tgt := 45) hx hb dX7_canSay_36 (by decide) (fun c7 => ?_) (fun c7 => ?_)
          · rw [if_pos c7] at hf
            refine lv_aload_n hx hb dX7_canSay_45 rfl (lv_at hl 0 rfl) ?_
            refine lv_iload_n hx hb dX7_canSay_46 rfl (lv_at hl 2 rfl) ?_
            refine lv_iload_n hx hb dX7_canSay_47 rfl (lv_at hl 1 rfl) ?_
            obtain ⟨v8, e8, hf⟩ := ob_e1 hf
            refine ob_calli (va_runV (As := [.int x2, .int x1]) (rest := []) ⟨hx, hb, hml, hown, hts⟩ (c_X7_fitsAt l dC dI ad cI cZ hI 1 (Nat.le_refl _) g5 x2 x1  v8 e8) (cwV 2 hts gX7_canSay_X7_fitsAt rfl rfl rfl ⟨rfl, hd_X7_fitsAt⟩ (ob_R (Nat.le_trans (by decide) hd) (by decide))) (ob_preV hK hM (q := 0) shM_0 rfl) rfl rfl hl.1 rfl (lv_room (Nat.le_of_ble_eq_true rfl)) dX7_canSay_48 ⟨Nat.le_refl _, Nat.le_refl _⟩) hS (fun H locs hM hS => ?_)
            refine lv_if_eq (tgt := 9) hx hb dX7_canSay_51 (by decide) (fun c9 => ?_) (fun c9 => ?_)
            · rw [if_pos c9] at hf
              exact ih g5 x1 x2 _ _ hM hS _ (lv_sub hl [0, 1, 2] rfl) hf
            · rw [if_neg c9] at hf
              refine lv_iinc (v := (x2 + 1)) (lv' := [(2, .int (x2 + 1)), (0, .ref (ad 0)), (1, .int x1)]) hx hb dX7_canSay_54 hl (k := 2) rfl rfl (by decide) rfl (fun ls hl => ?_)
              refine lv_iload_n hx hb dX7_canSay_57 rfl (lv_at hl 0 rfl) ?_
              refine lv_iload_n hx hb dX7_canSay_58 rfl (lv_at hl 2 rfl) ?_
              refine lv_icmp_ge (tgt := 9) hx hb dX7_canSay_59 (by decide) (fun c10 => ?_) (fun c10 => ?_)
              · rw [if_pos c10] at hf
                exact ih g5 x1 (x2 + 1) _ _ hM hS _ (lv_sub hl [1, 2, 0] rfl) hf
              · rw [if_neg c10] at hf
                refine lv_aload_n hx hb dX7_canSay_62 rfl (lv_at hl 1 rfl) ?_
                refine ob_gr (j := 9) hx hb hts in_own hown hK hM (q := 0) shM_0 (C := RX7) (T := TX7) (N := 18) rfl 10 (by decide) hf_34 rfl dX7_canSay_63 ?_
                refine lv_iload_n hx hb dX7_canSay_66 rfl (lv_at hl 0 rfl) ?_
                refine lv_iconst (v := (-1)) hx hb dX7_canSay_67 (by decide) ?_
                obtain ⟨g11, e11, hf⟩ := ob_e1 hf
                refine ob_iast hx hb hK hM hI hS (q := 9) (n := 5) shM_9 e11 dX7_canSay_68 (fun H locs hM hS => ?_)
                refine lv_goto (tgt := 9) hx hb dX7_canSay_69 (by decide) ?_
                exact ih g11 x1 (x2 + 1) _ _ hM hS _ (lv_sub hl [1, 2, 0] rfl) hf
          · rw [if_neg c7] at hf
            refine lv_iinc (v := (x2 + (-1))) (lv' := [(2, .int (x2 + (-1))), (0, .ref (ad 0)), (1, .int x1)]) hx hb dX7_canSay_39 hl (k := 2) rfl rfl (by decide) rfl (fun ls hl => ?_)
            refine lv_goto (tgt := 9) hx hb dX7_canSay_42 (by decide) ?_
            exact ih g5 x1 (x2 + (-1)) _ _ hM hS _ (lv_sub hl [1, 2, 0] rfl) hf
  have w_72 : ∀ (g : Mm) (x1 x2 : Int32) (H : Heap) (locs : List Loc), va_P (dC, dI) vwCl (ob_ws shM ad cI cZ g) H → va_S (ob_A shM ad) s.heap H locs → ∀ (ls : Array Slot), lv_has ls 3 [(1, .int x1), (2, .int x2)] → f_X7_canSay_J72 g x1 x2 = some (r, t) → W p l e (rmN d) s m args below meth c H locs 0 0 (MQ below (ob_Qi (dC, dI) vwCl shM ad cI cZ r t) args s 0 0 (ob_A shM ad)) (F0 m 72 ls []) := by
    intro g x1 x2 H locs hM hS ls hl hf
    unfold f_X7_canSay_J72 at hf
    refine lv_iload_n hx hb dX7_canSay_72 rfl (lv_at hl 1 rfl) ?_
    refine lv_iload_n hx hb dX7_canSay_73 rfl (lv_at hl 0 rfl) ?_
    refine lv_icmp_ne (tgt := 81) hx hb dX7_canSay_74 (by decide) (fun c12 => ?_) (fun c12 => ?_)
    · rw [if_neg c12] at hf
      refine lv_iconst (v := 0) hx hb dX7_canSay_81 (by decide) ?_
      exact ob_iret hx hb hr hlocks hM hS (v := 0) rfl hf dX7_canSay_82
    · rw [if_pos c12] at hf
      refine lv_iconst (v := 1) hx hb dX7_canSay_77 (by decide) ?_
      refine lv_goto (tgt := 82) hx hb dX7_canSay_78 (by decide) ?_
      exact ob_iret hx hb hr hlocks hM hS (v := 1) rfl hf dX7_canSay_82
  subst ha
  have hl := lv_entry ([.ref (ad 0), .int x1]) (n := 3) (Nat.le_of_ble_eq_true rfl)
  rw [lg_entry_eq]
  generalize (lg_sl ([.ref (ad 0), .int x1]) ++ List.replicate (3 - (lg_sl ([.ref (ad 0), .int x1])).length) Slot.unset).toArray = ls at hl ⊢
  have hl : lv_has ls 3 [(0, .ref (ad 0)), (1, .int x1)] := hl
  have hM := hM0
  have hS := hS0
  unfold f_X7_canSay at hf
  refine lv_iconst (v := 0) hx hb dX7_canSay_0 (by decide) ?_
  refine lv_istore_n (lv' := [(2, .int 0), (0, .ref (ad 0)), (1, .int x1)]) hx hb dX7_canSay_1 rfl hl (by decide) rfl (fun ls hl => ?_)
  refine lv_aload_n hx hb dX7_canSay_2 rfl (lv_at hl 1 rfl) ?_
  refine ob_gr (j := 9) hx hb hts in_own hown hK hM (q := 0) shM_0 (C := RX7) (T := TX7) (N := 18) rfl 10 (by decide) hf_34 rfl dX7_canSay_3 ?_
  refine lv_iconst (v := 0) hx hb dX7_canSay_6 (by decide) ?_
  refine lv_iconst (v := (-1)) hx hb dX7_canSay_7 (by decide) ?_
  obtain ⟨g1, e1, hf⟩ := ob_e1 hf
  refine ob_iast hx hb hK hM hI hS (q := 9) (n := 5) shM_9 e1 dX7_canSay_8 (fun H locs hM hS => ?_)
  exact w_9 (f_X7_canSay_J72) (w_72) FU g1 x1 0 _ _ hM hS _ (lv_sub hl [1, 2, 0] rfl) hf
set_option maxHeartbeats 4000000 in
set_option maxRecDepth 100000 in
theorem c_X7_layRow (l : Launch) (dC : Nat → ClassId) (dI : Nat → Nat → Nat) (ad : Nat → Nat) (cI cZ : ClassId) (hI : ob_inj shM ad) (d : Nat) (hd : 1 ≤ d) (g : Mm) (x1 x2 x3 : Int32) (r : Int32) (t : Mm) (hf : f_X7_layRow g x1 x2 x3 = some (r, t)) : ob_Mi l yX7_layRow wsX7_layRow d (dC, dI) vwCl shM ad cI cZ nwM [.ref (ad 0), .int x1, .int x2, .int x3] g r t := by
  refine ob_ofW (cc := cX7_layRow) (maxL := 7) (ret := (some .boolean)) (by decide) rfl ?_
  intro p e s m args below meth c ha hx hb hr hml hts hown hlocks hM0 hK hS0
  have hown : s.vm.findClass RX7 = some m.cls := hown
  have in_own : ∀ w ∈ wsX70, w ∈ wsX7_layRow := fun w h => (List.mem_cons_of_mem _ (List.mem_append_right _ h))
  have hf_31 := hts (.fieldLink RX7 31 "OneWorseModel" "row" "[I") (List.mem_cons_of_mem _ (List.mem_append_left _ (List.mem_of_getElem? (i := 0) rfl)))
  have w_9 : ∀ (n : Nat), ∀ (g : Mm) (x2 x3 x4 x5 x6 : Int32) (H : Heap) (locs : List Loc), va_P (dC, dI) vwCl (ob_ws shM ad cI cZ g) H → va_S (ob_A shM ad) s.heap H locs → ∀ (ls : Array Slot), lv_has ls 7 [(0, .ref (ad 0)), (2, .int x2), (3, .int x3), (4, .int x4), (5, .int x5), (6, .int x6)] → f_X7_layRow_L9 n g x2 x3 x4 x5 x6 = some (r, t) → W p l e (rmN d) s m args below meth c H locs 0 0 (MQ below (ob_Qi (dC, dI) vwCl shM ad cI cZ r t) args s 0 0 (ob_A shM ad)) (F0 m 9 ls []) := by
    intro n
    induction n with
    | zero =>
      intro g x2 x3 x4 x5 x6 H locs hM hS ls hl hf
      cases hf
    | succ n ih =>
      intro g x2 x3 x4 x5 x6 H locs hM hS ls hl hf
      unfold f_X7_layRow_L9 at hf
      refine lv_iload hx hb dX7_layRow_9 (lv_at hl 5 rfl) ?_
      refine lv_iload_n hx hb dX7_layRow_11 rfl (lv_at hl 2 rfl) ?_
      refine lv_icmp_ge (tgt := 52) hx hb dX7_layRow_12 (by decide) (fun c1 => ?_) (fun c1 => ?_)
      · rw [if_pos c1] at hf
        refine lv_iload hx hb dX7_layRow_52 (lv_at hl 4 rfl) ?_
        refine lv_iload_n hx hb dX7_layRow_54 rfl (lv_at hl 1 rfl) ?_
        refine lv_icmp_ne (tgt := 71) hx hb dX7_layRow_55 (by decide) (fun c2 => ?_) (fun c2 => ?_)
        · rw [if_neg c2] at hf
          refine lv_iconst (v := 0) hx hb dX7_layRow_71 (by decide) ?_
          exact ob_iret hx hb hr hlocks hM hS (v := 0) rfl hf dX7_layRow_72
        · rw [if_pos c2] at hf
          refine lv_iload hx hb dX7_layRow_58 (lv_at hl 4 rfl) ?_
          obtain ⟨v3, e3, hf⟩ := ob_e1 hf
          refine ob_calli (va_runS (As := [.int x5]) (rest := []) ⟨hx, hb, hml, hown, hts⟩ (c_X7_bits l dC dI ad cI cZ hI 0 (Nat.le_refl _) g x5  v3 e3) (va_cwS 1 hts gX7_layRow_X7_bits rfl rfl rfl hd_X7_bits (ob_R (Nat.le_trans (by decide) hd) (by decide))) (ob_preS hK hM) rfl rfl hl.1 rfl (lv_room (Nat.le_of_ble_eq_true rfl)) dX7_layRow_60 ⟨Nat.le_refl _, Nat.le_refl _⟩) hS (fun H locs hM hS => ?_)
          refine lv_iload_n hx hb dX7_layRow_63 rfl (lv_at hl 2 rfl) ?_
          refine lv_icmp_ne (tgt := 71) hx hb dX7_layRow_64 (by decide) (fun c4 => ?_) (fun c4 => ?_)
          · rw [if_neg c4] at hf
            refine lv_iconst (v := 0) hx hb dX7_layRow_71 (by decide) ?_
            exact ob_iret hx hb hr hlocks hM hS (v := 0) rfl hf dX7_layRow_72
          · rw [if_pos c4] at hf
            refine lv_iconst (v := 1) hx hb dX7_layRow_67 (by decide) ?_
            refine lv_goto (tgt := 72) hx hb dX7_layRow_68 (by decide) ?_
            exact ob_iret hx hb hr hlocks hM hS (v := 1) rfl hf dX7_layRow_72
      · rw [if_neg c1] at hf
        refine lv_aload_n hx hb dX7_layRow_15 rfl (lv_at hl 0 rfl) ?_
        refine ob_gr (j := 8) hx hb hts in_own hown hK hM (q := 0) shM_0 (C := RX7) (T := TX7) (N := 18) rfl 9 (by decide) hf_31 rfl dX7_layRow_16 ?_
        refine lv_iload hx hb dX7_layRow_19 (lv_at hl 5 rfl) ?_
        refine lv_iload hx hb dX7_layRow_21 (lv_at hl 3 rfl) ?_
        refine lv_iconst (v := 5) hx hb dX7_layRow_23 (by decide) ?_
        refine lv_irem hx hb dX7_layRow_24 (by decide) ?_
        obtain ⟨g5, e5, hf⟩ := ob_e1 hf
        refine ob_iast hx hb hK hM hI hS (q := 8) (n := 5) shM_8 e5 dX7_layRow_25 (fun H locs hM hS => ?_)
        refine lv_iload hx hb dX7_layRow_26 (lv_at hl 3 rfl) ?_
        refine lv_iconst (v := 5) hx hb dX7_layRow_28 (by decide) ?_
        refine lv_idiv hx hb dX7_layRow_29 (by decide) ?_
        refine lv_istore (lv' := [(4, .int (x4 / 5)), (0, .ref (ad 0)), (2, .int x2), (3, .int x3), (5, .int x5), (6, .int x6)]) hx hb dX7_layRow_30 hl (by decide) rfl (fun ls hl => ?_)
        refine lv_iload hx hb dX7_layRow_32 (lv_at hl 4 rfl) ?_
        refine lv_iconst (v := 1) hx hb dX7_layRow_34 (by decide) ?_
        refine lv_aload_n hx hb dX7_layRow_35 rfl (lv_at hl 1 rfl) ?_
        refine ob_gr (j := 8) hx hb hts in_own hown hK hM (q := 0) shM_0 (C := RX7) (T := TX7) (N := 18) rfl 9 (by decide) hf_31 rfl dX7_layRow_36 ?_
        refine lv_iload hx hb dX7_layRow_39 (lv_at hl 5 rfl) ?_
        obtain ⟨v6, e6, hf⟩ := ob_e1 hf
        refine ob_iald hx hb hK hM (q := 8) (n := 5) shM_8 e6 dX7_layRow_41 ?_
        refine lv_ishl hx hb dX7_layRow_42 ?_
        refine lv_ior hx hb dX7_layRow_43 ?_
        refine lv_istore (lv' := [(5, .int (x5 ||| ((1 : Int32) <<< (v6 &&& 31)))), (4, .int (x4 / 5)), (0, .ref (ad 0)), (2, .int x2), (3, .int x3), (6, .int x6)]) hx hb dX7_layRow_44 hl (by decide) rfl (fun ls hl => ?_)
        refine lv_iinc (v := (x6 + 1)) (lv' := [(6, .int (x6 + 1)), (5, .int (x5 ||| ((1 : Int32) <<< (v6 &&& 31)))), (4, .int (x4 / 5)), (0, .ref (ad 0)), (2, .int x2), (3, .int x3)]) hx hb dX7_layRow_46 hl (k := 5) rfl rfl (by decide) rfl (fun ls hl => ?_)
        refine lv_goto (tgt := 9) hx hb dX7_layRow_49 (by decide) ?_
        exact ih g5 x2 x3 (x4 / 5) (x5 ||| ((1 : Int32) <<< (v6 &&& 31))) (x6 + 1) _ _ hM hS _ (lv_sub hl [3, 4, 5, 2, 1, 0] rfl) hf
  subst ha
  have hl := lv_entry ([.ref (ad 0), .int x1, .int x2, .int x3]) (n := 7) (Nat.le_of_ble_eq_true rfl)
  rw [lg_entry_eq]
  generalize (lg_sl ([.ref (ad 0), .int x1, .int x2, .int x3]) ++ List.replicate (7 - (lg_sl ([.ref (ad 0), .int x1, .int x2, .int x3])).length) Slot.unset).toArray = ls at hl ⊢
  have hl : lv_has ls 7 [(0, .ref (ad 0)), (1, .int x1), (2, .int x2), (3, .int x3)] := hl
  have hM := hM0
  have hS := hS0
  unfold f_X7_layRow at hf
  refine lv_iload_n hx hb dX7_layRow_0 rfl (lv_at hl 1 rfl) ?_
  refine lv_istore (lv' := [(4, .int x1), (0, .ref (ad 0)), (1, .int x1), (2, .int x2), (3, .int x3)]) hx hb dX7_layRow_1 hl (by decide) rfl (fun ls hl => ?_)
  refine lv_iconst (v := 0) hx hb dX7_layRow_3 (by decide) ?_
  refine lv_istore (lv' := [(5, .int 0), (4, .int x1), (0, .ref (ad 0)), (1, .int x1), (2, .int x2), (3, .int x3)]) hx hb dX7_layRow_4 hl (by decide) rfl (fun ls hl => ?_)
  refine lv_iconst (v := 0) hx hb dX7_layRow_6 (by decide) ?_
  refine lv_istore (lv' := [(6, .int 0), (5, .int 0), (4, .int x1), (0, .ref (ad 0)), (1, .int x1), (2, .int x2), (3, .int x3)]) hx hb dX7_layRow_7 hl (by decide) rfl (fun ls hl => ?_)
  exact w_9 FU g x2 x3 x1 0 0 _ _ hM hS _ (lv_sub hl [3, 5, 6, 2, 1, 0] rfl) hf
set_option maxHeartbeats 4000000 in
set_option maxRecDepth 100000 in
theorem c_X7_layDay (l : Launch) (dC : Nat → ClassId) (dI : Nat → Nat → Nat) (ad : Nat → Nat) (cI cZ : ClassId) (hI : ob_inj shM ad) (d : Nat) (hd : 3 ≤ d) (g : Mm) (x1 : Int32) (t : Mm) (hf : f_X7_layDay g x1 = some t) : ob_Mv l yX7_layDay wsX7_layDay d (dC, dI) vwCl shM ad cI cZ nwM [.ref (ad 0), .int x1] g t := by
  refine ob_ofW (cc := cX7_layDay) (maxL := 5) (ret := none) (by decide) rfl ?_
  intro p e s m args below meth c ha hx hb hr hml hts hown hlocks hM0 hK hS0
  have hown : s.vm.findClass RX7 = some m.cls := hown
  have in_own : ∀ w ∈ wsX70, w ∈ wsX7_layDay := fun w h => (List.mem_cons_of_mem _ (List.mem_append_right _ h))
  have hf_37 := hts (.fieldLink RX7 37 "OneWorseModel" "day" "[Z") (List.mem_cons_of_mem _ (List.mem_append_left _ (List.mem_append_left _ (List.mem_of_getElem? (i := 0) rfl))))
  have w_10 : ∀ (k40 : Mm → Int32 → Int32 → Int32 → Int32 → Int32 → Option (Mm)) (hk40 : ∀ (g : Mm) (x1 x2 x3 s0 s1 : Int32) (H : Heap) (locs : List Loc), va_P (dC, dI) vwCl (ob_ws shM ad cI cZ g) H → va_S (ob_A shM ad) s.heap H locs → ∀ (ls : Array Slot), lv_has ls 5 [(0, .ref (ad 0)), (1, .int x1), (2, .int x2), (3, .int x3)] → k40 g x1 x2 x3 s0 s1 = some t → W p l e (rmN d) s m args below meth c H locs 0 0 (MQ below (ob_Qv (dC, dI) vwCl shM ad cI cZ t) args s 0 0 (ob_A shM ad)) (F0 m 40 ls [.int s0, .int s1, .ref (ad 10)])) (n : Nat), ∀ (g : Mm) (x1 x2 x3 x4 : Int32) (H : Heap) (locs : List Loc), va_P (dC, dI) vwCl (ob_ws shM ad cI cZ g) H → va_S (ob_A shM ad) s.heap H locs → ∀ (ls : Array Slot), lv_has ls 5 [(0, .ref (ad 0)), (1, .int x1), (2, .int x2), (3, .int x3), (4, .int x4)] → f_X7_layDay_L10 k40 n g x1 x2 x3 x4 = some t → W p l e (rmN d) s m args below meth c H locs 0 0 (MQ below (ob_Qv (dC, dI) vwCl shM ad cI cZ t) args s 0 0 (ob_A shM ad)) (F0 m 10 ls []) := by
    intro k40 hk40 n
    induction n with
    | zero =>
      intro g x1 x2 x3 x4 H locs hM hS ls hl hf
      cases hf
    | succ n ih =>
      intro g x1 x2 x3 x4 H locs hM hS ls hl hf
      unfold f_X7_layDay_L10 at hf
      refine lv_iload hx hb dX7_layDay_10 (lv_at hl 4 rfl) ?_
      refine lv_iload_n hx hb dX7_layDay_12 rfl (lv_at hl 2 rfl) ?_
      refine lv_icmp_ge (tgt := 26) hx hb dX7_layDay_13 (by decide) (fun c2 => ?_) (fun c2 => ?_)
      · rw [if_pos c2] at hf
        refine lv_aload_n hx hb dX7_layDay_26 rfl (lv_at hl 0 rfl) ?_
        refine ob_gr (j := 10) hx hb hts in_own hown hK hM (q := 0) shM_0 (C := RX7) (T := TX7) (N := 18) rfl 11 (by decide) hf_37 rfl dX7_layDay_27 ?_
        refine lv_iload_n hx hb dX7_layDay_30 rfl (lv_at hl 1 rfl) ?_
        refine lv_iload_n hx hb dX7_layDay_31 rfl (lv_at hl 2 rfl) ?_
        refine lv_if_ne (tgt := 39) hx hb dX7_layDay_32 (by decide) (fun c3 => ?_) (fun c3 => ?_)
        · rw [if_neg c3] at hf
          refine lv_iconst (v := 0) hx hb dX7_layDay_39 (by decide) ?_
          exact hk40 g x1 x2 x3 0 x1 _ _ hM hS _ (lv_sub hl [0, 1, 2, 3] rfl) hf
        · rw [if_pos c3] at hf
          refine lv_iconst (v := 1) hx hb dX7_layDay_35 (by decide) ?_
          refine lv_goto (tgt := 40) hx hb dX7_layDay_36 (by decide) ?_
          exact hk40 g x1 x2 x3 1 x1 _ _ hM hS _ (lv_sub hl [0, 1, 2, 3] rfl) hf
      · rw [if_neg c2] at hf
        refine lv_iload_n hx hb dX7_layDay_16 rfl (lv_at hl 3 rfl) ?_
        refine lv_iconst (v := 5) hx hb dX7_layDay_17 (by decide) ?_
        refine lv_imul hx hb dX7_layDay_18 ?_
        refine lv_istore_n (lv' := [(3, .int (x3 * 5)), (0, .ref (ad 0)), (1, .int x1), (2, .int x2), (4, .int x4)]) hx hb dX7_layDay_19 rfl hl (by decide) rfl (fun ls hl => ?_)
        refine lv_iinc (v := (x4 + 1)) (lv' := [(4, .int (x4 + 1)), (3, .int (x3 * 5)), (0, .ref (ad 0)), (1, .int x1), (2, .int x2)]) hx hb dX7_layDay_20 hl (k := 4) rfl rfl (by decide) rfl (fun ls hl => ?_)
        refine lv_goto (tgt := 10) hx hb dX7_layDay_23 (by decide) ?_
        exact ih g x1 x2 (x3 * 5) (x4 + 1) _ _ hM hS _ (lv_sub hl [2, 3, 4, 1, 0] rfl) hf
  have w_88 : ∀ (k44 : Mm → Int32 → Int32 → Int32 → Int32 → Option (Mm)) (hk44 : ∀ (g : Mm) (x1 x2 x3 x4 : Int32) (H : Heap) (locs : List Loc), va_P (dC, dI) vwCl (ob_ws shM ad cI cZ g) H → va_S (ob_A shM ad) s.heap H locs → ∀ (ls : Array Slot), lv_has ls 5 [(0, .ref (ad 0)), (1, .int x1), (2, .int x2), (3, .int x3), (4, .int x4)] → k44 g x1 x2 x3 x4 = some t → W p l e (rmN d) s m args below meth c H locs 0 0 (MQ below (ob_Qv (dC, dI) vwCl shM ad cI cZ t) args s 0 0 (ob_A shM ad)) (F0 m 44 ls [])), ∀ (g : Mm) (x1 x2 x3 x4 s0 s1 : Int32) (H : Heap) (locs : List Loc), va_P (dC, dI) vwCl (ob_ws shM ad cI cZ g) H → va_S (ob_A shM ad) s.heap H locs → ∀ (ls : Array Slot), lv_has ls 5 [(0, .ref (ad 0)), (1, .int x1), (2, .int x2), (3, .int x3), (4, .int x4)] → f_X7_layDay_J88 k44 g x1 x2 x3 x4 s0 s1 = some t → W p l e (rmN d) s m args below meth c H locs 0 0 (MQ below (ob_Qv (dC, dI) vwCl shM ad cI cZ t) args s 0 0 (ob_A shM ad)) (F0 m 88 ls [.int s0, .int s1, .ref (ad 10)]) := by
    intro k44 hk44 g x1 x2 x3 x4 s0 s1 H locs hM hS ls hl hf
    unfold f_X7_layDay_J88 at hf
    obtain ⟨g12, e12, hf⟩ := ob_e1 hf
    refine ob_zast hx hb hK hM hI hS (q := 10) (n := 32) shM_10 e12 dX7_layDay_88 (fun H locs hM hS => ?_)
    refine lv_iinc (v := (x4 + 1)) (lv' := [(4, .int (x4 + 1)), (0, .ref (ad 0)), (1, .int x1), (2, .int x2), (3, .int x3)]) hx hb dX7_layDay_89 hl (k := 4) rfl rfl (by decide) rfl (fun ls hl => ?_)
    refine lv_goto (tgt := 44) hx hb dX7_layDay_92 (by decide) ?_
    exact hk44 g12 x1 x2 x3 (x4 + 1) _ _ hM hS _ (lv_sub hl [1, 2, 3, 4, 0] rfl) hf
  have w_87 : ∀ (k44 : Mm → Int32 → Int32 → Int32 → Int32 → Option (Mm)) (hk44 : ∀ (g : Mm) (x1 x2 x3 x4 : Int32) (H : Heap) (locs : List Loc), va_P (dC, dI) vwCl (ob_ws shM ad cI cZ g) H → va_S (ob_A shM ad) s.heap H locs → ∀ (ls : Array Slot), lv_has ls 5 [(0, .ref (ad 0)), (1, .int x1), (2, .int x2), (3, .int x3), (4, .int x4)] → k44 g x1 x2 x3 x4 = some t → W p l e (rmN d) s m args below meth c H locs 0 0 (MQ below (ob_Qv (dC, dI) vwCl shM ad cI cZ t) args s 0 0 (ob_A shM ad)) (F0 m 44 ls [])), ∀ (g : Mm) (x1 x2 x3 x4 s0 : Int32) (H : Heap) (locs : List Loc), va_P (dC, dI) vwCl (ob_ws shM ad cI cZ g) H → va_S (ob_A shM ad) s.heap H locs → ∀ (ls : Array Slot), lv_has ls 5 [(0, .ref (ad 0)), (1, .int x1), (2, .int x2), (3, .int x3), (4, .int x4)] → f_X7_layDay_J87 k44 g x1 x2 x3 x4 s0 = some t → W p l e (rmN d) s m args below meth c H locs 0 0 (MQ below (ob_Qv (dC, dI) vwCl shM ad cI cZ t) args s 0 0 (ob_A shM ad)) (F0 m 87 ls [.int s0, .ref (ad 10)]) := by
    intro k44 hk44 g x1 x2 x3 x4 s0 H locs hM hS ls hl hf
    unfold f_X7_layDay_J87 at hf
    refine lv_iconst (v := 0) hx hb dX7_layDay_87 (by decide) ?_
    exact w_88 k44 hk44 g x1 x2 x3 x4 0 s0 _ _ hM hS _ (lv_sub hl [0, 1, 2, 3, 4] rfl) hf
  have w_44 : ∀ (n : Nat), ∀ (g : Mm) (x1 x2 x3 x4 : Int32) (H : Heap) (locs : List Loc), va_P (dC, dI) vwCl (ob_ws shM ad cI cZ g) H → va_S (ob_A shM ad) s.heap H locs → ∀ (ls : Array Slot), lv_has ls 5 [(0, .ref (ad 0)), (1, .int x1), (2, .int x2), (3, .int x3), (4, .int x4)] → f_X7_layDay_L44 n g x1 x2 x3 x4 = some t → W p l e (rmN d) s m args below meth c H locs 0 0 (MQ below (ob_Qv (dC, dI) vwCl shM ad cI cZ t) args s 0 0 (ob_A shM ad)) (F0 m 44 ls []) := by
    intro n
    induction n with
    | zero =>
      intro g x1 x2 x3 x4 H locs hM hS ls hl hf
      cases hf
    | succ n ih =>
      intro g x1 x2 x3 x4 H locs hM hS ls hl hf
      unfold f_X7_layDay_L44 at hf
      refine lv_iload hx hb dX7_layDay_44 (lv_at hl 4 rfl) ?_
      refine lv_iload_n hx hb dX7_layDay_46 rfl (lv_at hl 3 rfl) ?_
      refine lv_icmp_ge (tgt := 95) hx hb dX7_layDay_47 (by decide) (fun c5 => ?_) (fun c5 => ?_)
      · rw [if_pos c5] at hf
        exact ob_vret hx hb hr hlocks hM hS hf dX7_layDay_95
      · rw [if_neg c5] at hf
        refine lv_aload_n hx hb dX7_layDay_50 rfl (lv_at hl 0 rfl) ?_
        refine ob_gr (j := 10) hx hb hts in_own hown hK hM (q := 0) shM_0 (C := RX7) (T := TX7) (N := 18) rfl 11 (by decide) hf_37 rfl dX7_layDay_51 ?_
        refine lv_iload_n hx hb dX7_layDay_54 rfl (lv_at hl 1 rfl) ?_
        obtain ⟨v6, e6, hf⟩ := ob_e1 hf
        refine ob_zald hx hb hK hM (q := 10) (n := 32) shM_10 e6 dX7_layDay_55 ?_
        refine lv_if_ne (tgt := 95) hx hb dX7_layDay_56 (by decide) (fun c7 => ?_) (fun c7 => ?_)
        · rw [if_neg c7] at hf
          exact ob_vret hx hb hr hlocks hM hS hf dX7_layDay_95
        · rw [if_pos c7] at hf
          refine lv_aload_n hx hb dX7_layDay_59 rfl (lv_at hl 0 rfl) ?_
          refine ob_gr (j := 10) hx hb hts in_own hown hK hM (q := 0) shM_0 (C := RX7) (T := TX7) (N := 18) rfl 11 (by decide) hf_37 rfl dX7_layDay_60 ?_
          refine lv_iload_n hx hb dX7_layDay_63 rfl (lv_at hl 1 rfl) ?_
          refine lv_aload_n hx hb dX7_layDay_64 rfl (lv_at hl 0 rfl) ?_
          refine lv_iload hx hb dX7_layDay_65 (lv_at hl 4 rfl) ?_
          refine lv_iload_n hx hb dX7_layDay_67 rfl (lv_at hl 1 rfl) ?_
          refine lv_iload_n hx hb dX7_layDay_68 rfl (lv_at hl 2 rfl) ?_
          obtain ⟨v8, g8, e8, hf⟩ := ob_e2 hf
          refine ob_calli (va_runV (As := [.int x4, .int x1, .int x2]) (rest := [.int x1, .ref (ad 10)]) ⟨hx, hb, hml, hown, hts⟩ (c_X7_layRow l dC dI ad cI cZ hI 1 (Nat.le_refl _) g x4 x1 x2  v8 g8 e8) (cwV 3 hts gX7_layDay_X7_layRow rfl rfl rfl ⟨rfl, hd_X7_layRow⟩ (ob_R (Nat.le_trans (by decide) hd) (by decide))) (ob_preV hK hM (q := 0) shM_0 rfl) rfl rfl hl.1 rfl (lv_room (Nat.le_of_ble_eq_true rfl)) dX7_layDay_69 ⟨Nat.le_refl _, Nat.le_refl _⟩) hS (fun H locs hM hS => ?_)
          refine lv_if_eq (tgt := 87) hx hb dX7_layDay_72 (by decide) (fun c9 => ?_) (fun c9 => ?_)
          · rw [if_pos c9] at hf
            exact w_87 (f_X7_layDay_L44 n) ih g8 x1 x2 x3 x4 x1 _ _ hM hS _ (lv_sub hl [0, 1, 2, 3, 4] rfl) hf
          · rw [if_neg c9] at hf
            refine lv_aload_n hx hb dX7_layDay_75 rfl (lv_at hl 0 rfl) ?_
            refine lv_iload_n hx hb dX7_layDay_76 rfl (lv_at hl 2 rfl) ?_
            obtain ⟨v10, g10, e10, hf⟩ := ob_e2 hf
            refine ob_calli (va_runV (As := [.int x2]) (rest := [.int x1, .ref (ad 10)]) ⟨hx, hb, hml, hown, hts⟩ (c_X7_canSay l dC dI ad cI cZ hI 2 (Nat.le_refl _) g8 x2  v10 g10 e10) (cwV 1 hts gX7_layDay_X7_canSay rfl rfl rfl ⟨rfl, hd_X7_canSay⟩ (ob_R (Nat.le_trans (by decide) hd) (by decide))) (ob_preV hK hM (q := 0) shM_0 rfl) rfl rfl hl.1 rfl (lv_room (Nat.le_of_ble_eq_true rfl)) dX7_layDay_77 ⟨Nat.le_refl _, Nat.le_refl _⟩) hS (fun H locs hM hS => ?_)
            refine lv_if_eq (tgt := 87) hx hb dX7_layDay_80 (by decide) (fun c11 => ?_) (fun c11 => ?_)
            · rw [if_pos c11] at hf
              exact w_87 (f_X7_layDay_L44 n) ih g10 x1 x2 x3 x4 x1 _ _ hM hS _ (lv_sub hl [0, 1, 2, 3, 4] rfl) hf
            · rw [if_neg c11] at hf
              refine lv_iconst (v := 1) hx hb dX7_layDay_83 (by decide) ?_
              refine lv_goto (tgt := 88) hx hb dX7_layDay_84 (by decide) ?_
              exact w_88 (f_X7_layDay_L44 n) ih g10 x1 x2 x3 x4 1 x1 _ _ hM hS _ (lv_sub hl [0, 1, 2, 3, 4] rfl) hf
  have w_40 : ∀ (g : Mm) (x1 x2 x3 s0 s1 : Int32) (H : Heap) (locs : List Loc), va_P (dC, dI) vwCl (ob_ws shM ad cI cZ g) H → va_S (ob_A shM ad) s.heap H locs → ∀ (ls : Array Slot), lv_has ls 5 [(0, .ref (ad 0)), (1, .int x1), (2, .int x2), (3, .int x3)] → f_X7_layDay_J40 g x1 x2 x3 s0 s1 = some t → W p l e (rmN d) s m args below meth c H locs 0 0 (MQ below (ob_Qv (dC, dI) vwCl shM ad cI cZ t) args s 0 0 (ob_A shM ad)) (F0 m 40 ls [.int s0, .int s1, .ref (ad 10)]) := by
    intro g x1 x2 x3 s0 s1 H locs hM hS ls hl hf
    unfold f_X7_layDay_J40 at hf
    obtain ⟨g4, e4, hf⟩ := ob_e1 hf
    refine ob_zast hx hb hK hM hI hS (q := 10) (n := 32) shM_10 e4 dX7_layDay_40 (fun H locs hM hS => ?_)
    refine lv_iconst (v := 0) hx hb dX7_layDay_41 (by decide) ?_
    refine lv_istore (lv' := [(4, .int 0), (0, .ref (ad 0)), (1, .int x1), (2, .int x2), (3, .int x3)]) hx hb dX7_layDay_42 hl (by decide) rfl (fun ls hl => ?_)
    exact w_44 FU g4 x1 x2 x3 0 _ _ hM hS _ (lv_sub hl [1, 2, 3, 4, 0] rfl) hf
  subst ha
  have hl := lv_entry ([.ref (ad 0), .int x1]) (n := 5) (Nat.le_of_ble_eq_true rfl)
  rw [lg_entry_eq]
  generalize (lg_sl ([.ref (ad 0), .int x1]) ++ List.replicate (5 - (lg_sl ([.ref (ad 0), .int x1])).length) Slot.unset).toArray = ls at hl ⊢
  have hl : lv_has ls 5 [(0, .ref (ad 0)), (1, .int x1)] := hl
  have hM := hM0
  have hS := hS0
  unfold f_X7_layDay at hf
  refine lv_iload_n hx hb dX7_layDay_0 rfl (lv_at hl 1 rfl) ?_
  obtain ⟨v1, e1, hf⟩ := ob_e1 hf
  refine ob_calli (va_runS (As := [.int x1]) (rest := []) ⟨hx, hb, hml, hown, hts⟩ (c_X7_bits l dC dI ad cI cZ hI 0 (Nat.le_refl _) g x1  v1 e1) (va_cwS 1 hts gX7_layDay_X7_bits rfl rfl rfl hd_X7_bits (ob_R (Nat.le_trans (by decide) hd) (by decide))) (ob_preS hK hM) rfl rfl hl.1 rfl (lv_room (Nat.le_of_ble_eq_true rfl)) dX7_layDay_1 ⟨Nat.le_refl _, Nat.le_refl _⟩) hS (fun H locs hM hS => ?_)
  refine lv_istore_n (lv' := [(2, .int v1), (0, .ref (ad 0)), (1, .int x1)]) hx hb dX7_layDay_4 rfl hl (by decide) rfl (fun ls hl => ?_)
  refine lv_iconst (v := 1) hx hb dX7_layDay_5 (by decide) ?_
  refine lv_istore_n (lv' := [(3, .int 1), (2, .int v1), (0, .ref (ad 0)), (1, .int x1)]) hx hb dX7_layDay_6 rfl hl (by decide) rfl (fun ls hl => ?_)
  refine lv_iconst (v := 0) hx hb dX7_layDay_7 (by decide) ?_
  refine lv_istore (lv' := [(4, .int 0), (3, .int 1), (2, .int v1), (0, .ref (ad 0)), (1, .int x1)]) hx hb dX7_layDay_8 hl (by decide) rfl (fun ls hl => ?_)
  exact w_10 (f_X7_layDay_J40) (w_40) FU g x1 v1 1 0 _ _ hM hS _ (lv_sub hl [3, 4, 2, 1, 0] rfl) hf
set_option maxHeartbeats 4000000 in
set_option maxRecDepth 100000 in
theorem c_X7_crowd (l : Launch) (dC : Nat → ClassId) (dI : Nat → Nat → Nat) (ad : Nat → Nat) (cI cZ : ClassId) (hI : ob_inj shM ad) (d : Nat) (hd : 4 ≤ d) (g : Mm) (x1 x2 : Int32) (r : Int32) (t : Mm) (hf : f_X7_crowd g x1 x2 = some (r, t)) : ob_Mi l yX7_crowd wsX7_crowd d (dC, dI) vwCl shM ad cI cZ nwM [.ref (ad 0), .int x1, .int x2] g r t := by
  refine ob_ofW (cc := cX7_crowd) (maxL := 6) (ret := (some .int)) (by decide) rfl ?_
  intro p e s m args below meth c ha hx hb hr hml hts hown hlocks hM0 hK hS0
  have hown : s.vm.findClass RX7 = some m.cls := hown
  have in_own : ∀ w ∈ wsX70, w ∈ wsX7_crowd := fun w h => (List.mem_cons_of_mem _ (List.mem_append_right _ h))
  have hf_37 := hts (.fieldLink RX7 37 "OneWorseModel" "day" "[Z") (List.mem_cons_of_mem _ (List.mem_append_left _ (List.mem_append_left _ (List.mem_of_getElem? (i := 1) rfl))))
  have hf_41 := hts (.fieldLink RX7 41 "OneWorseModel" "days" "[I") (List.mem_cons_of_mem _ (List.mem_append_left _ (List.mem_append_left _ (List.mem_of_getElem? (i := 0) rfl))))
  have w_169 : ∀ (k24 : Mm → Int32 → Int32 → Int32 → Option (Int32 × Mm)) (hk24 : ∀ (g : Mm) (x1 x2 x3 : Int32) (H : Heap) (locs : List Loc), va_P (dC, dI) vwCl (ob_ws shM ad cI cZ g) H → va_S (ob_A shM ad) s.heap H locs → ∀ (ls : Array Slot), lv_has ls 6 [(0, .ref (ad 0)), (1, .int x1), (2, .int x2), (3, .int x3)] → k24 g x1 x2 x3 = some (r, t) → W p l e (rmN d) s m args below meth c H locs 0 0 (MQ below (ob_Qi (dC, dI) vwCl shM ad cI cZ r t) args s 0 0 (ob_A shM ad)) (F0 m 24 ls [])), ∀ (g : Mm) (x1 x2 x3 : Int32) (H : Heap) (locs : List Loc), va_P (dC, dI) vwCl (ob_ws shM ad cI cZ g) H → va_S (ob_A shM ad) s.heap H locs → ∀ (ls : Array Slot), lv_has ls 6 [(0, .ref (ad 0)), (1, .int x1), (2, .int x2), (3, .int x3)] → f_X7_crowd_J169 k24 g x1 x2 x3 = some (r, t) → W p l e (rmN d) s m args below meth c H locs 0 0 (MQ below (ob_Qi (dC, dI) vwCl shM ad cI cZ r t) args s 0 0 (ob_A shM ad)) (F0 m 169 ls []) := by
    intro k24 hk24 g x1 x2 x3 H locs hM hS ls hl hf
    unfold f_X7_crowd_J169 at hf
    refine lv_iinc (v := (x3 + 1)) (lv' := [(3, .int (x3 + 1)), (0, .ref (ad 0)), (1, .int x1), (2, .int x2)]) hx hb dX7_crowd_169 hl (k := 3) rfl rfl (by decide) rfl (fun ls hl => ?_)
    refine lv_goto (tgt := 24) hx hb dX7_crowd_172 (by decide) ?_
    exact hk24 g x1 x2 (x3 + 1) _ _ hM hS _ (lv_sub hl [1, 2, 3, 0] rfl) hf
  have w_163 : ∀ (k62 : Mm → Int32 → Int32 → Int32 → Int32 → Option (Int32 × Mm)) (hk62 : ∀ (g : Mm) (x1 x2 x3 x4 : Int32) (H : Heap) (locs : List Loc), va_P (dC, dI) vwCl (ob_ws shM ad cI cZ g) H → va_S (ob_A shM ad) s.heap H locs → ∀ (ls : Array Slot), lv_has ls 6 [(0, .ref (ad 0)), (1, .int x1), (2, .int x2), (3, .int x3), (4, .int x4)] → k62 g x1 x2 x3 x4 = some (r, t) → W p l e (rmN d) s m args below meth c H locs 0 0 (MQ below (ob_Qi (dC, dI) vwCl shM ad cI cZ r t) args s 0 0 (ob_A shM ad)) (F0 m 62 ls [])), ∀ (g : Mm) (x1 x2 x3 x4 : Int32) (H : Heap) (locs : List Loc), va_P (dC, dI) vwCl (ob_ws shM ad cI cZ g) H → va_S (ob_A shM ad) s.heap H locs → ∀ (ls : Array Slot), lv_has ls 6 [(0, .ref (ad 0)), (1, .int x1), (2, .int x2), (3, .int x3), (4, .int x4)] → f_X7_crowd_J163 k62 g x1 x2 x3 x4 = some (r, t) → W p l e (rmN d) s m args below meth c H locs 0 0 (MQ below (ob_Qi (dC, dI) vwCl shM ad cI cZ r t) args s 0 0 (ob_A shM ad)) (F0 m 163 ls []) := by
    intro k62 hk62 g x1 x2 x3 x4 H locs hM hS ls hl hf
    unfold f_X7_crowd_J163 at hf
    refine lv_iinc (v := (x4 + 1)) (lv' := [(4, .int (x4 + 1)), (0, .ref (ad 0)), (1, .int x1), (2, .int x2), (3, .int x3)]) hx hb dX7_crowd_163 hl (k := 4) rfl rfl (by decide) rfl (fun ls hl => ?_)
    refine lv_goto (tgt := 62) hx hb dX7_crowd_166 (by decide) ?_
    exact hk62 g x1 x2 x3 (x4 + 1) _ _ hM hS _ (lv_sub hl [1, 2, 3, 4, 0] rfl) hf
  have w_144 : ∀ (k62 : Mm → Int32 → Int32 → Int32 → Int32 → Option (Int32 × Mm)) (hk62 : ∀ (g : Mm) (x1 x2 x3 x4 : Int32) (H : Heap) (locs : List Loc), va_P (dC, dI) vwCl (ob_ws shM ad cI cZ g) H → va_S (ob_A shM ad) s.heap H locs → ∀ (ls : Array Slot), lv_has ls 6 [(0, .ref (ad 0)), (1, .int x1), (2, .int x2), (3, .int x3), (4, .int x4)] → k62 g x1 x2 x3 x4 = some (r, t) → W p l e (rmN d) s m args below meth c H locs 0 0 (MQ below (ob_Qi (dC, dI) vwCl shM ad cI cZ r t) args s 0 0 (ob_A shM ad)) (F0 m 62 ls [])), ∀ (g : Mm) (x1 x2 x3 x4 : Int32) (H : Heap) (locs : List Loc), va_P (dC, dI) vwCl (ob_ws shM ad cI cZ g) H → va_S (ob_A shM ad) s.heap H locs → ∀ (ls : Array Slot), lv_has ls 6 [(0, .ref (ad 0)), (1, .int x1), (2, .int x2), (3, .int x3), (4, .int x4)] → f_X7_crowd_J144 k62 g x1 x2 x3 x4 = some (r, t) → W p l e (rmN d) s m args below meth c H locs 0 0 (MQ below (ob_Qi (dC, dI) vwCl shM ad cI cZ r t) args s 0 0 (ob_A shM ad)) (F0 m 144 ls []) := by
    intro k62 hk62 g x1 x2 x3 x4 H locs hM hS ls hl hf
    unfold f_X7_crowd_J144 at hf
    refine lv_aload_n hx hb dX7_crowd_144 rfl (lv_at hl 0 rfl) ?_
    refine ob_gr (j := 11) hx hb hts in_own hown hK hM (q := 0) shM_0 (C := RX7) (T := TX7) (N := 18) rfl 12 (by decide) hf_41 rfl dX7_crowd_145 ?_
    refine lv_iload_n hx hb dX7_crowd_148 rfl (lv_at hl 3 rfl) ?_
    refine lv_aload_n hx hb dX7_crowd_149 rfl (lv_at hl 0 rfl) ?_
    refine ob_gr (j := 11) hx hb hts in_own hown hK hM (q := 0) shM_0 (C := RX7) (T := TX7) (N := 18) rfl 12 (by decide) hf_41 rfl dX7_crowd_150 ?_
    refine lv_iload_n hx hb dX7_crowd_153 rfl (lv_at hl 3 rfl) ?_
    refine lv_iload hx hb dX7_crowd_154 (lv_at hl 4 rfl) ?_
    refine lv_iconst (v := (-1)) hx hb dX7_crowd_156 (by decide) ?_
    refine lv_ixor hx hb dX7_crowd_157 ?_
    refine lv_iand hx hb dX7_crowd_158 ?_
    obtain ⟨v26, e26, hf⟩ := ob_e1 hf
    refine ob_iald hx hb hK hM (q := 11) (n := 32) shM_11 e26 dX7_crowd_159 ?_
    refine lv_iconst (v := 1) hx hb dX7_crowd_160 (by decide) ?_
    refine lv_iadd hx hb dX7_crowd_161 ?_
    obtain ⟨g27, e27, hf⟩ := ob_e1 hf
    refine ob_iast hx hb hK hM hI hS (q := 11) (n := 32) shM_11 e27 dX7_crowd_162 (fun H locs hM hS => ?_)
    exact w_163 k62 hk62 g27 x1 x2 x3 x4 _ _ hM hS _ (lv_sub hl [0, 1, 2, 3, 4] rfl) hf
  have w_106 : ∀ (k62 : Mm → Int32 → Int32 → Int32 → Int32 → Option (Int32 × Mm)) (hk62 : ∀ (g : Mm) (x1 x2 x3 x4 : Int32) (H : Heap) (locs : List Loc), va_P (dC, dI) vwCl (ob_ws shM ad cI cZ g) H → va_S (ob_A shM ad) s.heap H locs → ∀ (ls : Array Slot), lv_has ls 6 [(0, .ref (ad 0)), (1, .int x1), (2, .int x2), (3, .int x3), (4, .int x4)] → k62 g x1 x2 x3 x4 = some (r, t) → W p l e (rmN d) s m args below meth c H locs 0 0 (MQ below (ob_Qi (dC, dI) vwCl shM ad cI cZ r t) args s 0 0 (ob_A shM ad)) (F0 m 62 ls [])), ∀ (g : Mm) (x1 x2 x3 x4 s0 : Int32) (H : Heap) (locs : List Loc), va_P (dC, dI) vwCl (ob_ws shM ad cI cZ g) H → va_S (ob_A shM ad) s.heap H locs → ∀ (ls : Array Slot), lv_has ls 6 [(0, .ref (ad 0)), (1, .int x1), (2, .int x2), (3, .int x3), (4, .int x4)] → f_X7_crowd_J106 k62 g x1 x2 x3 x4 s0 = some (r, t) → W p l e (rmN d) s m args below meth c H locs 0 0 (MQ below (ob_Qi (dC, dI) vwCl shM ad cI cZ r t) args s 0 0 (ob_A shM ad)) (F0 m 106 ls [.int s0]) := by
    intro k62 hk62 g x1 x2 x3 x4 s0 H locs hM hS ls hl hf
    unfold f_X7_crowd_J106 at hf
    refine lv_istore (lv' := [(5, .int s0), (0, .ref (ad 0)), (1, .int x1), (2, .int x2), (3, .int x3), (4, .int x4)]) hx hb dX7_crowd_106 hl (by decide) rfl (fun ls hl => ?_)
    refine lv_iload hx hb dX7_crowd_108 (lv_at hl 0 rfl) ?_
    refine lv_if_eq (tgt := 163) hx hb dX7_crowd_110 (by decide) (fun c20 => ?_) (fun c20 => ?_)
    · rw [if_pos c20] at hf
      exact w_163 k62 hk62 g x1 x2 x3 x4 _ _ hM hS _ (lv_sub hl [1, 2, 3, 4, 5] rfl) hf
    · rw [if_neg c20] at hf
      refine lv_aload_n hx hb dX7_crowd_113 rfl (lv_at hl 1 rfl) ?_
      refine ob_gr (j := 11) hx hb hts in_own hown hK hM (q := 0) shM_0 (C := RX7) (T := TX7) (N := 18) rfl 12 (by decide) hf_41 rfl dX7_crowd_114 ?_
      refine lv_iload_n hx hb dX7_crowd_117 rfl (lv_at hl 4 rfl) ?_
      obtain ⟨v21, e21, hf⟩ := ob_e1 hf
      refine ob_iald hx hb hK hM (q := 11) (n := 32) shM_11 e21 dX7_crowd_118 ?_
      refine lv_if_lt (tgt := 144) hx hb dX7_crowd_119 (by decide) (fun c22 => ?_) (fun c22 => ?_)
      · rw [if_pos c22] at hf
        exact w_144 k62 hk62 g x1 x2 x3 x4 _ _ hM hS _ (lv_sub hl [1, 2, 3, 4, 5] rfl) hf
      · rw [if_neg c22] at hf
        refine lv_aload_n hx hb dX7_crowd_122 rfl (lv_at hl 1 rfl) ?_
        refine ob_gr (j := 11) hx hb hts in_own hown hK hM (q := 0) shM_0 (C := RX7) (T := TX7) (N := 18) rfl 12 (by decide) hf_41 rfl dX7_crowd_123 ?_
        refine lv_iload_n hx hb dX7_crowd_126 rfl (lv_at hl 4 rfl) ?_
        refine lv_iload hx hb dX7_crowd_127 (lv_at hl 5 rfl) ?_
        refine lv_iconst (v := (-1)) hx hb dX7_crowd_129 (by decide) ?_
        refine lv_ixor hx hb dX7_crowd_130 ?_
        refine lv_iand hx hb dX7_crowd_131 ?_
        obtain ⟨v23, e23, hf⟩ := ob_e1 hf
        refine ob_iald hx hb hK hM (q := 11) (n := 32) shM_11 e23 dX7_crowd_132 ?_
        refine lv_iconst (v := 1) hx hb dX7_crowd_133 (by decide) ?_
        refine lv_iadd hx hb dX7_crowd_134 ?_
        refine lv_aload_n hx hb dX7_crowd_135 rfl (lv_at hl 1 rfl) ?_
        refine ob_gr (j := 11) hx hb hts in_own hown hK hM (q := 0) shM_0 (C := RX7) (T := TX7) (N := 18) rfl 12 (by decide) hf_41 rfl dX7_crowd_136 ?_
        refine lv_iload_n hx hb dX7_crowd_139 rfl (lv_at hl 4 rfl) ?_
        obtain ⟨v24, e24, hf⟩ := ob_e1 hf
        refine ob_iald hx hb hK hM (q := 11) (n := 32) shM_11 e24 dX7_crowd_140 ?_
        refine lv_icmp_ge (tgt := 163) hx hb dX7_crowd_141 (by decide) (fun c25 => ?_) (fun c25 => ?_)
        · rw [if_pos c25] at hf
          exact w_163 k62 hk62 g x1 x2 x3 x4 _ _ hM hS _ (lv_sub hl [1, 2, 3, 4, 5] rfl) hf
        · rw [if_neg c25] at hf
          exact w_144 k62 hk62 g x1 x2 x3 x4 _ _ hM hS _ (lv_sub hl [1, 2, 3, 4, 5] rfl) hf
  have w_105 : ∀ (k62 : Mm → Int32 → Int32 → Int32 → Int32 → Option (Int32 × Mm)) (hk62 : ∀ (g : Mm) (x1 x2 x3 x4 : Int32) (H : Heap) (locs : List Loc), va_P (dC, dI) vwCl (ob_ws shM ad cI cZ g) H → va_S (ob_A shM ad) s.heap H locs → ∀ (ls : Array Slot), lv_has ls 6 [(0, .ref (ad 0)), (1, .int x1), (2, .int x2), (3, .int x3), (4, .int x4)] → k62 g x1 x2 x3 x4 = some (r, t) → W p l e (rmN d) s m args below meth c H locs 0 0 (MQ below (ob_Qi (dC, dI) vwCl shM ad cI cZ r t) args s 0 0 (ob_A shM ad)) (F0 m 62 ls [])), ∀ (g : Mm) (x1 x2 x3 x4 : Int32) (H : Heap) (locs : List Loc), va_P (dC, dI) vwCl (ob_ws shM ad cI cZ g) H → va_S (ob_A shM ad) s.heap H locs → ∀ (ls : Array Slot), lv_has ls 6 [(0, .ref (ad 0)), (1, .int x1), (2, .int x2), (3, .int x3), (4, .int x4)] → f_X7_crowd_J105 k62 g x1 x2 x3 x4 = some (r, t) → W p l e (rmN d) s m args below meth c H locs 0 0 (MQ below (ob_Qi (dC, dI) vwCl shM ad cI cZ r t) args s 0 0 (ob_A shM ad)) (F0 m 105 ls []) := by
    intro k62 hk62 g x1 x2 x3 x4 H locs hM hS ls hl hf
    unfold f_X7_crowd_J105 at hf
    refine lv_iconst (v := 0) hx hb dX7_crowd_105 (by decide) ?_
    exact w_106 k62 hk62 g x1 x2 x3 x4 0 _ _ hM hS _ (lv_sub hl [0, 1, 2, 3, 4] rfl) hf
  have w_62 : ∀ (k169 : Mm → Int32 → Int32 → Int32 → Option (Int32 × Mm)) (hk169 : ∀ (g : Mm) (x1 x2 x3 : Int32) (H : Heap) (locs : List Loc), va_P (dC, dI) vwCl (ob_ws shM ad cI cZ g) H → va_S (ob_A shM ad) s.heap H locs → ∀ (ls : Array Slot), lv_has ls 6 [(0, .ref (ad 0)), (1, .int x1), (2, .int x2), (3, .int x3)] → k169 g x1 x2 x3 = some (r, t) → W p l e (rmN d) s m args below meth c H locs 0 0 (MQ below (ob_Qi (dC, dI) vwCl shM ad cI cZ r t) args s 0 0 (ob_A shM ad)) (F0 m 169 ls [])) (n : Nat), ∀ (g : Mm) (x1 x2 x3 x4 : Int32) (H : Heap) (locs : List Loc), va_P (dC, dI) vwCl (ob_ws shM ad cI cZ g) H → va_S (ob_A shM ad) s.heap H locs → ∀ (ls : Array Slot), lv_has ls 6 [(0, .ref (ad 0)), (1, .int x1), (2, .int x2), (3, .int x3), (4, .int x4)] → f_X7_crowd_L62 k169 n g x1 x2 x3 x4 = some (r, t) → W p l e (rmN d) s m args below meth c H locs 0 0 (MQ below (ob_Qi (dC, dI) vwCl shM ad cI cZ r t) args s 0 0 (ob_A shM ad)) (F0 m 62 ls []) := by
    intro k169 hk169 n
    induction n with
    | zero =>
      intro g x1 x2 x3 x4 H locs hM hS ls hl hf
      cases hf
    | succ n ih =>
      intro g x1 x2 x3 x4 H locs hM hS ls hl hf
      unfold f_X7_crowd_L62 at hf
      refine lv_iload hx hb dX7_crowd_62 (lv_at hl 4 rfl) ?_
      refine lv_iload_n hx hb dX7_crowd_64 rfl (lv_at hl 3 rfl) ?_
      refine lv_icmp_gt (tgt := 169) hx hb dX7_crowd_65 (by decide) (fun c14 => ?_) (fun c14 => ?_)
      · rw [if_pos c14] at hf
        exact hk169 g x1 x2 x3 _ _ hM hS _ (lv_sub hl [0, 1, 2, 3] rfl) hf
      · rw [if_neg c14] at hf
        refine lv_iload hx hb dX7_crowd_68 (lv_at hl 4 rfl) ?_
        refine lv_iload_n hx hb dX7_crowd_70 rfl (lv_at hl 3 rfl) ?_
        refine lv_iconst (v := (-1)) hx hb dX7_crowd_71 (by decide) ?_
        refine lv_ixor hx hb dX7_crowd_72 ?_
        refine lv_iand hx hb dX7_crowd_73 ?_
        refine lv_if_ne (tgt := 105) hx hb dX7_crowd_74 (by decide) (fun c15 => ?_) (fun c15 => ?_)
        · rw [if_neg c15] at hf
          exact w_105 (f_X7_crowd_L62 k169 n) ih g x1 x2 x3 x4 _ _ hM hS _ (lv_sub hl [0, 1, 2, 3, 4] rfl) hf
        · rw [if_pos c15] at hf
          refine lv_aload_n hx hb dX7_crowd_77 rfl (lv_at hl 0 rfl) ?_
          refine ob_gr (j := 10) hx hb hts in_own hown hK hM (q := 0) shM_0 (C := RX7) (T := TX7) (N := 18) rfl 11 (by decide) hf_37 rfl dX7_crowd_78 ?_
          refine lv_iload hx hb dX7_crowd_81 (lv_at hl 4 rfl) ?_
          obtain ⟨v16, e16, hf⟩ := ob_e1 hf
          refine ob_zald hx hb hK hM (q := 10) (n := 32) shM_10 e16 dX7_crowd_83 ?_
          refine lv_if_eq (tgt := 105) hx hb dX7_crowd_84 (by decide) (fun c17 => ?_) (fun c17 => ?_)
          · rw [if_pos c17] at hf
            exact w_105 (f_X7_crowd_L62 k169 n) ih g x1 x2 x3 x4 _ _ hM hS _ (lv_sub hl [0, 1, 2, 3, 4] rfl) hf
          · rw [if_neg c17] at hf
            refine lv_aload_n hx hb dX7_crowd_87 rfl (lv_at hl 0 rfl) ?_
            refine ob_gr (j := 11) hx hb hts in_own hown hK hM (q := 0) shM_0 (C := RX7) (T := TX7) (N := 18) rfl 12 (by decide) hf_41 rfl dX7_crowd_88 ?_
            refine lv_iload_n hx hb dX7_crowd_91 rfl (lv_at hl 3 rfl) ?_
            refine lv_iload hx hb dX7_crowd_92 (lv_at hl 4 rfl) ?_
            refine lv_iconst (v := (-1)) hx hb dX7_crowd_94 (by decide) ?_
            refine lv_ixor hx hb dX7_crowd_95 ?_
            refine lv_iand hx hb dX7_crowd_96 ?_
            obtain ⟨v18, e18, hf⟩ := ob_e1 hf
            refine ob_iald hx hb hK hM (q := 11) (n := 32) shM_11 e18 dX7_crowd_97 ?_
            refine lv_if_lt (tgt := 105) hx hb dX7_crowd_98 (by decide) (fun c19 => ?_) (fun c19 => ?_)
            · rw [if_pos c19] at hf
              exact w_105 (f_X7_crowd_L62 k169 n) ih g x1 x2 x3 x4 _ _ hM hS _ (lv_sub hl [0, 1, 2, 3, 4] rfl) hf
            · rw [if_neg c19] at hf
              refine lv_iconst (v := 1) hx hb dX7_crowd_101 (by decide) ?_
              refine lv_goto (tgt := 106) hx hb dX7_crowd_102 (by decide) ?_
              exact w_106 (f_X7_crowd_L62 k169 n) ih g x1 x2 x3 x4 1 _ _ hM hS _ (lv_sub hl [0, 1, 2, 3, 4] rfl) hf
  have w_58 : ∀ (k24 : Mm → Int32 → Int32 → Int32 → Option (Int32 × Mm)) (hk24 : ∀ (g : Mm) (x1 x2 x3 : Int32) (H : Heap) (locs : List Loc), va_P (dC, dI) vwCl (ob_ws shM ad cI cZ g) H → va_S (ob_A shM ad) s.heap H locs → ∀ (ls : Array Slot), lv_has ls 6 [(0, .ref (ad 0)), (1, .int x1), (2, .int x2), (3, .int x3)] → k24 g x1 x2 x3 = some (r, t) → W p l e (rmN d) s m args below meth c H locs 0 0 (MQ below (ob_Qi (dC, dI) vwCl shM ad cI cZ r t) args s 0 0 (ob_A shM ad)) (F0 m 24 ls [])), ∀ (g : Mm) (x1 x2 x3 s0 s1 : Int32) (H : Heap) (locs : List Loc), va_P (dC, dI) vwCl (ob_ws shM ad cI cZ g) H → va_S (ob_A shM ad) s.heap H locs → ∀ (ls : Array Slot), lv_has ls 6 [(0, .ref (ad 0)), (1, .int x1), (2, .int x2), (3, .int x3)] → f_X7_crowd_J58 k24 g x1 x2 x3 s0 s1 = some (r, t) → W p l e (rmN d) s m args below meth c H locs 0 0 (MQ below (ob_Qi (dC, dI) vwCl shM ad cI cZ r t) args s 0 0 (ob_A shM ad)) (F0 m 58 ls [.int s0, .int s1, .ref (ad 11)]) := by
    intro k24 hk24 g x1 x2 x3 s0 s1 H locs hM hS ls hl hf
    unfold f_X7_crowd_J58 at hf
    obtain ⟨g13, e13, hf⟩ := ob_e1 hf
    refine ob_iast hx hb hK hM hI hS (q := 11) (n := 32) shM_11 e13 dX7_crowd_58 (fun H locs hM hS => ?_)
    refine lv_iconst (v := 1) hx hb dX7_crowd_59 (by decide) ?_
    refine lv_istore (lv' := [(4, .int 1), (0, .ref (ad 0)), (1, .int x1), (2, .int x2), (3, .int x3)]) hx hb dX7_crowd_60 hl (by decide) rfl (fun ls hl => ?_)
    exact w_62 (f_X7_crowd_J169 k24) (w_169 k24 hk24) FU g13 x1 x2 x3 1 _ _ hM hS _ (lv_sub hl [1, 2, 3, 4, 0] rfl) hf
  have w_24 : ∀ (n : Nat), ∀ (g : Mm) (x1 x2 x3 : Int32) (H : Heap) (locs : List Loc), va_P (dC, dI) vwCl (ob_ws shM ad cI cZ g) H → va_S (ob_A shM ad) s.heap H locs → ∀ (ls : Array Slot), lv_has ls 6 [(0, .ref (ad 0)), (1, .int x1), (2, .int x2), (3, .int x3)] → f_X7_crowd_L24 n g x1 x2 x3 = some (r, t) → W p l e (rmN d) s m args below meth c H locs 0 0 (MQ below (ob_Qi (dC, dI) vwCl shM ad cI cZ r t) args s 0 0 (ob_A shM ad)) (F0 m 24 ls []) := by
    intro n
    induction n with
    | zero =>
      intro g x1 x2 x3 H locs hM hS ls hl hf
      cases hf
    | succ n ih =>
      intro g x1 x2 x3 H locs hM hS ls hl hf
      unfold f_X7_crowd_L24 at hf
      refine lv_iload_n hx hb dX7_crowd_24 rfl (lv_at hl 3 rfl) ?_
      refine lv_bipush (v := 32) hx hb dX7_crowd_25 (by decide) ?_
      refine lv_icmp_ge (tgt := 175) hx hb dX7_crowd_27 (by decide) (fun c5 => ?_) (fun c5 => ?_)
      · rw [if_pos c5] at hf
        refine lv_iload_n hx hb dX7_crowd_175 rfl (lv_at hl 2 rfl) ?_
        refine lv_iconst (v := 1) hx hb dX7_crowd_176 (by decide) ?_
        refine lv_icmp_ne (tgt := 189) hx hb dX7_crowd_177 (by decide) (fun c6 => ?_) (fun c6 => ?_)
        · rw [if_neg c6] at hf
          refine lv_aload_n hx hb dX7_crowd_189 rfl (lv_at hl 0 rfl) ?_
          refine ob_gr (j := 10) hx hb hts in_own hown hK hM (q := 0) shM_0 (C := RX7) (T := TX7) (N := 18) rfl 11 (by decide) hf_37 rfl dX7_crowd_190 ?_
          refine lv_iload_n hx hb dX7_crowd_193 rfl (lv_at hl 1 rfl) ?_
          obtain ⟨v7, e7, hf⟩ := ob_e1 hf
          refine ob_zald hx hb hK hM (q := 10) (n := 32) shM_10 e7 dX7_crowd_194 ?_
          refine lv_if_eq (tgt := 202) hx hb dX7_crowd_195 (by decide) (fun c8 => ?_) (fun c8 => ?_)
          · rw [if_pos c8] at hf
            refine lv_iconst (v := 0) hx hb dX7_crowd_202 (by decide) ?_
            exact ob_iret hx hb hr hlocks hM hS (v := 0) rfl hf dX7_crowd_203
          · rw [if_neg c8] at hf
            refine lv_iconst (v := 1) hx hb dX7_crowd_198 (by decide) ?_
            refine lv_goto (tgt := 203) hx hb dX7_crowd_199 (by decide) ?_
            exact ob_iret hx hb hr hlocks hM hS (v := 1) rfl hf dX7_crowd_203
        · rw [if_pos c6] at hf
          refine lv_aload_n hx hb dX7_crowd_180 rfl (lv_at hl 0 rfl) ?_
          refine ob_gr (j := 11) hx hb hts in_own hown hK hM (q := 0) shM_0 (C := RX7) (T := TX7) (N := 18) rfl 12 (by decide) hf_41 rfl dX7_crowd_181 ?_
          refine lv_iload_n hx hb dX7_crowd_184 rfl (lv_at hl 1 rfl) ?_
          obtain ⟨v9, e9, hf⟩ := ob_e1 hf
          refine ob_iald hx hb hK hM (q := 11) (n := 32) shM_11 e9 dX7_crowd_185 ?_
          refine lv_goto (tgt := 203) hx hb dX7_crowd_186 (by decide) ?_
          exact ob_iret hx hb hr hlocks hM hS (v := v9) rfl hf dX7_crowd_203
      · rw [if_neg c5] at hf
        refine lv_iload_n hx hb dX7_crowd_30 rfl (lv_at hl 3 rfl) ?_
        refine lv_iload_n hx hb dX7_crowd_31 rfl (lv_at hl 1 rfl) ?_
        refine lv_iconst (v := (-1)) hx hb dX7_crowd_32 (by decide) ?_
        refine lv_ixor hx hb dX7_crowd_33 ?_
        refine lv_iand hx hb dX7_crowd_34 ?_
        refine lv_if_ne (tgt := 169) hx hb dX7_crowd_35 (by decide) (fun c10 => ?_) (fun c10 => ?_)
        · rw [if_neg c10] at hf
          exact w_169 (f_X7_crowd_L24 n) ih g x1 x2 x3 _ _ hM hS _ (lv_sub hl [0, 1, 2, 3] rfl) hf
        · rw [if_pos c10] at hf
          refine lv_aload_n hx hb dX7_crowd_38 rfl (lv_at hl 0 rfl) ?_
          refine lv_iload_n hx hb dX7_crowd_39 rfl (lv_at hl 3 rfl) ?_
          obtain ⟨g11, e11, hf⟩ := ob_e1 hf
          refine ob_callv (va_runV (As := [.int x3]) (rest := []) ⟨hx, hb, hml, hown, hts⟩ (c_X7_layDay l dC dI ad cI cZ hI 3 (Nat.le_refl _) g x3  g11 e11) (cwV 1 hts gX7_crowd_X7_layDay rfl rfl rfl ⟨rfl, hd_X7_layDay⟩ (ob_R (Nat.le_trans (by decide) hd) (by decide))) (ob_preV hK hM (q := 0) shM_0 rfl) rfl rfl hl.1 rfl (lv_room (Nat.le_of_ble_eq_true rfl)) dX7_crowd_40 ⟨Nat.le_refl _, Nat.le_refl _⟩) hS (fun H locs hM hS => ?_)
          refine lv_aload_n hx hb dX7_crowd_43 rfl (lv_at hl 0 rfl) ?_
          refine ob_gr (j := 11) hx hb hts in_own hown hK hM (q := 0) shM_0 (C := RX7) (T := TX7) (N := 18) rfl 12 (by decide) hf_41 rfl dX7_crowd_44 ?_
          refine lv_iload_n hx hb dX7_crowd_47 rfl (lv_at hl 3 rfl) ?_
          refine lv_iload_n hx hb dX7_crowd_48 rfl (lv_at hl 3 rfl) ?_
          refine lv_if_ne (tgt := 56) hx hb dX7_crowd_49 (by decide) (fun c12 => ?_) (fun c12 => ?_)
          · rw [if_neg c12] at hf
            refine lv_bipush (v := (-6)) hx hb dX7_crowd_56 (by decide) ?_
            exact w_58 (f_X7_crowd_L24 n) ih g11 x1 x2 x3 (-6) x3 _ _ hM hS _ (lv_sub hl [0, 1, 2, 3] rfl) hf
          · rw [if_pos c12] at hf
            refine lv_iconst (v := 0) hx hb dX7_crowd_52 (by decide) ?_
            refine lv_goto (tgt := 58) hx hb dX7_crowd_53 (by decide) ?_
            exact w_58 (f_X7_crowd_L24 n) ih g11 x1 x2 x3 0 x3 _ _ hM hS _ (lv_sub hl [0, 1, 2, 3] rfl) hf
  subst ha
  have hl := lv_entry ([.ref (ad 0), .int x1, .int x2]) (n := 6) (Nat.le_of_ble_eq_true rfl)
  rw [lg_entry_eq]
  generalize (lg_sl ([.ref (ad 0), .int x1, .int x2]) ++ List.replicate (6 - (lg_sl ([.ref (ad 0), .int x1, .int x2])).length) Slot.unset).toArray = ls at hl ⊢
  have hl : lv_has ls 6 [(0, .ref (ad 0)), (1, .int x1), (2, .int x2)] := hl
  have hM := hM0
  have hS := hS0
  unfold f_X7_crowd at hf
  refine lv_iload_n hx hb dX7_crowd_0 rfl (lv_at hl 1 rfl) ?_
  refine lv_iconst (v := 0) hx hb dX7_crowd_1 (by decide) ?_
  refine lv_bipush (v := 31) hx hb dX7_crowd_2 (by decide) ?_
  obtain ⟨v1, e1, hf⟩ := ob_e1 hf
  refine ob_calli (va_runS (As := [.int x1, .int 0, .int 31]) (rest := []) ⟨hx, hb, hml, hown, hts⟩ (c_X7_in l dC dI ad cI cZ hI 0 (Nat.le_refl _) g x1 0 31  v1 e1) (va_cwS 3 hts gX7_crowd_X7_in rfl rfl rfl hd_X7_in (ob_R (Nat.le_trans (by decide) hd) (by decide))) (ob_preS hK hM) rfl rfl hl.1 rfl (lv_room (Nat.le_of_ble_eq_true rfl)) dX7_crowd_4 ⟨Nat.le_refl _, Nat.le_refl _⟩) hS (fun H locs hM hS => ?_)
  refine lv_if_eq (tgt := 19) hx hb dX7_crowd_7 (by decide) (fun c2 => ?_) (fun c2 => ?_)
  · rw [if_pos c2] at hf
    refine lv_bipush (v := (-2)) hx hb dX7_crowd_19 (by decide) ?_
    exact ob_iret hx hb hr hlocks hM hS (v := (-2)) rfl hf dX7_crowd_21
  · rw [if_neg c2] at hf
    refine lv_iload_n hx hb dX7_crowd_10 rfl (lv_at hl 2 rfl) ?_
    refine lv_iconst (v := 0) hx hb dX7_crowd_11 (by decide) ?_
    refine lv_iconst (v := 1) hx hb dX7_crowd_12 (by decide) ?_
    obtain ⟨v3, e3, hf⟩ := ob_e1 hf
    refine ob_calli (va_runS (As := [.int x2, .int 0, .int 1]) (rest := []) ⟨hx, hb, hml, hown, hts⟩ (c_X7_in l dC dI ad cI cZ hI 0 (Nat.le_refl _) g x2 0 1  v3 e3) (va_cwS 3 hts gX7_crowd_X7_in rfl rfl rfl hd_X7_in (ob_R (Nat.le_trans (by decide) hd) (by decide))) (ob_preS hK hM) rfl rfl hl.1 rfl (lv_room (Nat.le_of_ble_eq_true rfl)) dX7_crowd_13 ⟨Nat.le_refl _, Nat.le_refl _⟩) hS (fun H locs hM hS => ?_)
    refine lv_if_ne (tgt := 22) hx hb dX7_crowd_16 (by decide) (fun c4 => ?_) (fun c4 => ?_)
    · rw [if_neg c4] at hf
      refine lv_iconst (v := 0) hx hb dX7_crowd_22 (by decide) ?_
      refine lv_istore_n (lv' := [(3, .int 0), (0, .ref (ad 0)), (1, .int x1), (2, .int x2)]) hx hb dX7_crowd_23 rfl hl (by decide) rfl (fun ls hl => ?_)
      exact w_24 FU g x1 x2 0 _ _ hM hS _ (lv_sub hl [1, 2, 3, 0] rfl) hf
    · rw [if_pos c4] at hf
      refine lv_bipush (v := (-2)) hx hb dX7_crowd_19 (by decide) ?_
      exact ob_iret hx hb hr hlocks hM hS (v := (-2)) rfl hf dX7_crowd_21
