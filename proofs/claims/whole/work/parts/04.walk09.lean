set_option maxHeartbeats 4000000 in
set_option maxRecDepth 100000 in
theorem c_X7_image (l : Launch) (dC : Nat → ClassId) (dI : Nat → Nat → Nat) (ad : Nat → Nat) (cI cZ : ClassId) (hI : ob_inj shM ad) (d : Nat) (hd : 1 ≤ d) (g : Mm) (x1 : Int32) (r : Int32) (t : Mm) (hf : f_X7_image g x1 = some (r, t)) : ob_Mi l yX7_image wsX7_image d (dC, dI) vwCl shM ad cI cZ nwM [.ref (ad 0), .int x1] g r t := by
  refine ob_ofW (cc := cX7_image) (maxL := 3) (ret := (some .int)) (by decide) rfl ?_
  intro p e s m args below meth c ha hx hb hr hml hts hown hlocks hM0 hK hS0
  have hown : s.vm.findClass RX7 = some m.cls := hown
  have in_own : ∀ w ∈ wsX70, w ∈ wsX7_image := fun w h => (List.mem_cons_of_mem _ (List.mem_append_right _ h))
  have hf_53 := hts (.fieldLink RX7 53 "OneWorseModel" "image" "[I") (List.mem_cons_of_mem _ (List.mem_append_left _ (List.mem_of_getElem? (i := 0) rfl)))
  have hf_13 := hts (.fieldLink RX7 13 "OneWorseModel" "book" "[I") (List.mem_cons_of_mem _ (List.mem_append_left _ (List.mem_of_getElem? (i := 1) rfl)))
  have hf_16 := hts (.fieldLink RX7 16 "OneWorseModel" "need" "[I") (List.mem_cons_of_mem _ (List.mem_append_left _ (List.mem_of_getElem? (i := 2) rfl)))
  have hf_56 := hts (.fieldLink RX7 56 "OneWorseModel" "isKept" "[Z") (List.mem_cons_of_mem _ (List.mem_append_left _ (List.mem_of_getElem? (i := 5) rfl)))
  have hf_19 := hts (.fieldLink RX7 19 "OneWorseModel" "traits" "[I") (List.mem_cons_of_mem _ (List.mem_append_left _ (List.mem_of_getElem? (i := 3) rfl)))
  have hf_22 := hts (.fieldLink RX7 22 "OneWorseModel" "knows" "[I") (List.mem_cons_of_mem _ (List.mem_append_left _ (List.mem_of_getElem? (i := 4) rfl)))
  have w_14 : ∀ (k65 : Mm → Int32 → Int32 → Option (Int32 × Mm)) (hk65 : ∀ (g : Mm) (x1 x2 : Int32) (H : Heap) (locs : List Loc), va_P (dC, dI) vwCl (ob_ws shM ad cI cZ g) H → va_S (ob_A shM ad) s.heap H locs → ∀ (ls : Array Slot), lv_has ls 3 [(0, .ref (ad 0)), (1, .int x1), (2, .int x2)] → k65 g x1 x2 = some (r, t) → W p l e (rmN d) s m args below meth c H locs 0 0 (MQ below (ob_Qi (dC, dI) vwCl shM ad cI cZ r t) args s 0 0 (ob_A shM ad)) (F0 m 65 ls [])) (n : Nat), ∀ (g : Mm) (x1 x2 : Int32) (H : Heap) (locs : List Loc), va_P (dC, dI) vwCl (ob_ws shM ad cI cZ g) H → va_S (ob_A shM ad) s.heap H locs → ∀ (ls : Array Slot), lv_has ls 3 [(0, .ref (ad 0)), (1, .int x1), (2, .int x2)] → f_X7_image_L14 k65 n g x1 x2 = some (r, t) → W p l e (rmN d) s m args below meth c H locs 0 0 (MQ below (ob_Qi (dC, dI) vwCl shM ad cI cZ r t) args s 0 0 (ob_A shM ad)) (F0 m 14 ls []) := by
    intro k65 hk65 n
    induction n with
    | zero =>
      intro g x1 x2 H locs hM hS ls hl hf
      cases hf
    | succ n ih =>
      intro g x1 x2 H locs hM hS ls hl hf
      unfold f_X7_image_L14 at hf
      refine lv_iload_n hx hb dX7_image_14 rfl (lv_at hl 2 rfl) ?_
      refine lv_bipush (v := 10) hx hb dX7_image_15 (by decide) ?_
      refine lv_icmp_ge (tgt := 63) hx hb dX7_image_17 (by decide) (fun c3 => ?_) (fun c3 => ?_)
      · rw [if_pos c3] at hf
        refine lv_iconst (v := 0) hx hb dX7_image_63 (by decide) ?_
        refine lv_istore_n (lv' := [(2, .int 0), (0, .ref (ad 0)), (1, .int x1)]) hx hb dX7_image_64 rfl hl (by decide) rfl (fun ls hl => ?_)
        exact hk65 g x1 0 _ _ hM hS _ (lv_sub hl [1, 2, 0] rfl) hf
      · rw [if_neg c3] at hf
        refine lv_aload_n hx hb dX7_image_20 rfl (lv_at hl 0 rfl) ?_
        refine ob_gr (j := 15) hx hb hts in_own hown hK hM (q := 0) shM_0 (C := RX7) (T := TX7) (N := 18) rfl 16 (by decide) hf_53 rfl dX7_image_21 ?_
        refine lv_bipush (v := 30) hx hb dX7_image_24 (by decide) ?_
        refine lv_iload_n hx hb dX7_image_26 rfl (lv_at hl 1 rfl) ?_
        refine lv_imul hx hb dX7_image_27 ?_
        refine lv_iload_n hx hb dX7_image_28 rfl (lv_at hl 2 rfl) ?_
        refine lv_iadd hx hb dX7_image_29 ?_
        refine lv_aload_n hx hb dX7_image_30 rfl (lv_at hl 0 rfl) ?_
        refine ob_gr (j := 2) hx hb hts in_own hown hK hM (q := 0) shM_0 (C := RX7) (T := TX7) (N := 18) rfl 2 (by decide) hf_13 rfl dX7_image_31 ?_
        refine lv_iload_n hx hb dX7_image_34 rfl (lv_at hl 2 rfl) ?_
        obtain ⟨v4, e4, hf⟩ := ob_e1 hf
        refine ob_iald hx hb hK hM (q := 2) (n := 10) shM_2 e4 dX7_image_35 ?_
        obtain ⟨g5, e5, hf⟩ := ob_e1 hf
        refine ob_iast hx hb hK hM hI hS (q := 15) (n := 60) shM_15 e5 dX7_image_36 (fun H locs hM hS => ?_)
        refine lv_aload_n hx hb dX7_image_37 rfl (lv_at hl 0 rfl) ?_
        refine ob_gr (j := 15) hx hb hts in_own hown hK hM (q := 0) shM_0 (C := RX7) (T := TX7) (N := 18) rfl 16 (by decide) hf_53 rfl dX7_image_38 ?_
        refine lv_bipush (v := 30) hx hb dX7_image_41 (by decide) ?_
        refine lv_iload_n hx hb dX7_image_43 rfl (lv_at hl 1 rfl) ?_
        refine lv_imul hx hb dX7_image_44 ?_
        refine lv_bipush (v := 10) hx hb dX7_image_45 (by decide) ?_
        refine lv_iadd hx hb dX7_image_47 ?_
        refine lv_iload_n hx hb dX7_image_48 rfl (lv_at hl 2 rfl) ?_
        refine lv_iadd hx hb dX7_image_49 ?_
        refine lv_aload_n hx hb dX7_image_50 rfl (lv_at hl 0 rfl) ?_
        refine ob_gr (j := 3) hx hb hts in_own hown hK hM (q := 0) shM_0 (C := RX7) (T := TX7) (N := 18) rfl 3 (by decide) hf_16 rfl dX7_image_51 ?_
        refine lv_iload_n hx hb dX7_image_54 rfl (lv_at hl 2 rfl) ?_
        obtain ⟨v6, e6, hf⟩ := ob_e1 hf
        refine ob_iald hx hb hK hM (q := 3) (n := 10) shM_3 e6 dX7_image_55 ?_
        obtain ⟨g7, e7, hf⟩ := ob_e1 hf
        refine ob_iast hx hb hK hM hI hS (q := 15) (n := 60) shM_15 e7 dX7_image_56 (fun H locs hM hS => ?_)
        refine lv_iinc (v := (x2 + 1)) (lv' := [(2, .int (x2 + 1)), (0, .ref (ad 0)), (1, .int x1)]) hx hb dX7_image_57 hl (k := 2) rfl rfl (by decide) rfl (fun ls hl => ?_)
        refine lv_goto (tgt := 14) hx hb dX7_image_60 (by decide) ?_
        exact ih g7 x1 (x2 + 1) _ _ hM hS _ (lv_sub hl [1, 2, 0] rfl) hf
  have w_65 : ∀ (n : Nat), ∀ (g : Mm) (x1 x2 : Int32) (H : Heap) (locs : List Loc), va_P (dC, dI) vwCl (ob_ws shM ad cI cZ g) H → va_S (ob_A shM ad) s.heap H locs → ∀ (ls : Array Slot), lv_has ls 3 [(0, .ref (ad 0)), (1, .int x1), (2, .int x2)] → f_X7_image_L65 n g x1 x2 = some (r, t) → W p l e (rmN d) s m args below meth c H locs 0 0 (MQ below (ob_Qi (dC, dI) vwCl shM ad cI cZ r t) args s 0 0 (ob_A shM ad)) (F0 m 65 ls []) := by
    intro n
    induction n with
    | zero =>
      intro g x1 x2 H locs hM hS ls hl hf
      cases hf
    | succ n ih =>
      intro g x1 x2 H locs hM hS ls hl hf
      unfold f_X7_image_L65 at hf
      refine lv_iload_n hx hb dX7_image_65 rfl (lv_at hl 2 rfl) ?_
      refine lv_iconst (v := 5) hx hb dX7_image_66 (by decide) ?_
      refine lv_icmp_ge (tgt := 116) hx hb dX7_image_67 (by decide) (fun c8 => ?_) (fun c8 => ?_)
      · rw [if_pos c8] at hf
        refine lv_aload_n hx hb dX7_image_116 rfl (lv_at hl 0 rfl) ?_
        refine ob_gr (j := 16) hx hb hts in_own hown hK hM (q := 0) shM_0 (C := RX7) (T := TX7) (N := 18) rfl 17 (by decide) hf_56 rfl dX7_image_117 ?_
        refine lv_iload_n hx hb dX7_image_120 rfl (lv_at hl 1 rfl) ?_
        refine lv_iconst (v := 1) hx hb dX7_image_121 (by decide) ?_
        obtain ⟨g9, e9, hf⟩ := ob_e1 hf
        refine ob_zast hx hb hK hM hI hS (q := 16) (n := 2) shM_16 e9 dX7_image_122 (fun H locs hM hS => ?_)
        refine lv_iconst (v := 1) hx hb dX7_image_123 (by decide) ?_
        exact ob_iret hx hb hr hlocks hM hS (v := 1) rfl hf dX7_image_124
      · rw [if_neg c8] at hf
        refine lv_aload_n hx hb dX7_image_70 rfl (lv_at hl 0 rfl) ?_
        refine ob_gr (j := 15) hx hb hts in_own hown hK hM (q := 0) shM_0 (C := RX7) (T := TX7) (N := 18) rfl 16 (by decide) hf_53 rfl dX7_image_71 ?_
        refine lv_bipush (v := 30) hx hb dX7_image_74 (by decide) ?_
        refine lv_iload_n hx hb dX7_image_76 rfl (lv_at hl 1 rfl) ?_
        refine lv_imul hx hb dX7_image_77 ?_
        refine lv_bipush (v := 20) hx hb dX7_image_78 (by decide) ?_
        refine lv_iadd hx hb dX7_image_80 ?_
        refine lv_iload_n hx hb dX7_image_81 rfl (lv_at hl 2 rfl) ?_
        refine lv_iadd hx hb dX7_image_82 ?_
        refine lv_aload_n hx hb dX7_image_83 rfl (lv_at hl 0 rfl) ?_
        refine ob_gr (j := 4) hx hb hts in_own hown hK hM (q := 0) shM_0 (C := RX7) (T := TX7) (N := 18) rfl 4 (by decide) hf_19 rfl dX7_image_84 ?_
        refine lv_iload_n hx hb dX7_image_87 rfl (lv_at hl 2 rfl) ?_
        obtain ⟨v10, e10, hf⟩ := ob_e1 hf
        refine ob_iald hx hb hK hM (q := 4) (n := 5) shM_4 e10 dX7_image_88 ?_
        obtain ⟨g11, e11, hf⟩ := ob_e1 hf
        refine ob_iast hx hb hK hM hI hS (q := 15) (n := 60) shM_15 e11 dX7_image_89 (fun H locs hM hS => ?_)
        refine lv_aload_n hx hb dX7_image_90 rfl (lv_at hl 0 rfl) ?_
        refine ob_gr (j := 15) hx hb hts in_own hown hK hM (q := 0) shM_0 (C := RX7) (T := TX7) (N := 18) rfl 16 (by decide) hf_53 rfl dX7_image_91 ?_
        refine lv_bipush (v := 30) hx hb dX7_image_94 (by decide) ?_
        refine lv_iload_n hx hb dX7_image_96 rfl (lv_at hl 1 rfl) ?_
        refine lv_imul hx hb dX7_image_97 ?_
        refine lv_bipush (v := 25) hx hb dX7_image_98 (by decide) ?_
        refine lv_iadd hx hb dX7_image_100 ?_
        refine lv_iload_n hx hb dX7_image_101 rfl (lv_at hl 2 rfl) ?_
        refine lv_iadd hx hb dX7_image_102 ?_
        refine lv_aload_n hx hb dX7_image_103 rfl (lv_at hl 0 rfl) ?_
        refine ob_gr (j := 5) hx hb hts in_own hown hK hM (q := 0) shM_0 (C := RX7) (T := TX7) (N := 18) rfl 5 (by decide) hf_22 rfl dX7_image_104 ?_
        refine lv_iload_n hx hb dX7_image_107 rfl (lv_at hl 2 rfl) ?_
        obtain ⟨v12, e12, hf⟩ := ob_e1 hf
        refine ob_iald hx hb hK hM (q := 5) (n := 5) shM_5 e12 dX7_image_108 ?_
        obtain ⟨g13, e13, hf⟩ := ob_e1 hf
        refine ob_iast hx hb hK hM hI hS (q := 15) (n := 60) shM_15 e13 dX7_image_109 (fun H locs hM hS => ?_)
        refine lv_iinc (v := (x2 + 1)) (lv' := [(2, .int (x2 + 1)), (0, .ref (ad 0)), (1, .int x1)]) hx hb dX7_image_110 hl (k := 2) rfl rfl (by decide) rfl (fun ls hl => ?_)
        refine lv_goto (tgt := 65) hx hb dX7_image_113 (by decide) ?_
        exact ih g13 x1 (x2 + 1) _ _ hM hS _ (lv_sub hl [1, 2, 0] rfl) hf
  subst ha
  have hl := lv_entry ([.ref (ad 0), .int x1]) (n := 3) (Nat.le_of_ble_eq_true rfl)
  rw [lg_entry_eq]
  generalize (lg_sl ([.ref (ad 0), .int x1]) ++ List.replicate (3 - (lg_sl ([.ref (ad 0), .int x1])).length) Slot.unset).toArray = ls at hl ⊢
  have hl : lv_has ls 3 [(0, .ref (ad 0)), (1, .int x1)] := hl
  have hM := hM0
  have hS := hS0
  unfold f_X7_image at hf
  refine lv_iload_n hx hb dX7_image_0 rfl (lv_at hl 1 rfl) ?_
  refine lv_iconst (v := 0) hx hb dX7_image_1 (by decide) ?_
  refine lv_iconst (v := 1) hx hb dX7_image_2 (by decide) ?_
  obtain ⟨v1, e1, hf⟩ := ob_e1 hf
  refine ob_calli (va_runS (As := [.int x1, .int 0, .int 1]) (rest := []) ⟨hx, hb, hml, hown, hts⟩ (c_X7_in l dC dI ad cI cZ hI 0 (Nat.le_refl _) g x1 0 1  v1 e1) (va_cwS 3 hts gX7_image_X7_in rfl rfl rfl hd_X7_in (ob_R (Nat.le_trans (by decide) hd) (by decide))) (ob_preS hK hM) rfl rfl hl.1 rfl (lv_room (Nat.le_of_ble_eq_true rfl)) dX7_image_3 ⟨Nat.le_refl _, Nat.le_refl _⟩) hS (fun H locs hM hS => ?_)
  refine lv_if_ne (tgt := 12) hx hb dX7_image_6 (by decide) (fun c2 => ?_) (fun c2 => ?_)
  · rw [if_neg c2] at hf
    refine lv_iconst (v := 0) hx hb dX7_image_12 (by decide) ?_
    refine lv_istore_n (lv' := [(2, .int 0), (0, .ref (ad 0)), (1, .int x1)]) hx hb dX7_image_13 rfl hl (by decide) rfl (fun ls hl => ?_)
    exact w_14 (f_X7_image_L65 FU) (w_65 FU) FU g x1 0 _ _ hM hS _ (lv_sub hl [1, 2, 0] rfl) hf
  · rw [if_pos c2] at hf
    refine lv_bipush (v := (-2)) hx hb dX7_image_9 (by decide) ?_
    exact ob_iret hx hb hr hlocks hM hS (v := (-2)) rfl hf dX7_image_11
set_option maxHeartbeats 4000000 in
set_option maxRecDepth 100000 in
theorem c_X7_restore (l : Launch) (dC : Nat → ClassId) (dI : Nat → Nat → Nat) (ad : Nat → Nat) (cI cZ : ClassId) (hI : ob_inj shM ad) (d : Nat) (hd : 1 ≤ d) (g : Mm) (x1 : Int32) (r : Int32) (t : Mm) (hf : f_X7_restore g x1 = some (r, t)) : ob_Mi l yX7_restore wsX7_restore d (dC, dI) vwCl shM ad cI cZ nwM [.ref (ad 0), .int x1] g r t := by
  refine ob_ofW (cc := cX7_restore) (maxL := 3) (ret := (some .int)) (by decide) rfl ?_
  intro p e s m args below meth c ha hx hb hr hml hts hown hlocks hM0 hK hS0
  have hown : s.vm.findClass RX7 = some m.cls := hown
  have in_own : ∀ w ∈ wsX70, w ∈ wsX7_restore := fun w h => (List.mem_cons_of_mem _ (List.mem_append_right _ h))
  have hf_56 := hts (.fieldLink RX7 56 "OneWorseModel" "isKept" "[Z") (List.mem_cons_of_mem _ (List.mem_append_left _ (List.mem_of_getElem? (i := 0) rfl)))
  have hf_13 := hts (.fieldLink RX7 13 "OneWorseModel" "book" "[I") (List.mem_cons_of_mem _ (List.mem_append_left _ (List.mem_of_getElem? (i := 1) rfl)))
  have hf_53 := hts (.fieldLink RX7 53 "OneWorseModel" "image" "[I") (List.mem_cons_of_mem _ (List.mem_append_left _ (List.mem_of_getElem? (i := 2) rfl)))
  have hf_16 := hts (.fieldLink RX7 16 "OneWorseModel" "need" "[I") (List.mem_cons_of_mem _ (List.mem_append_left _ (List.mem_of_getElem? (i := 3) rfl)))
  have hf_19 := hts (.fieldLink RX7 19 "OneWorseModel" "traits" "[I") (List.mem_cons_of_mem _ (List.mem_append_left _ (List.mem_of_getElem? (i := 4) rfl)))
  have hf_22 := hts (.fieldLink RX7 22 "OneWorseModel" "knows" "[I") (List.mem_cons_of_mem _ (List.mem_append_left _ (List.mem_of_getElem? (i := 5) rfl)))
  have w_26 : ∀ (k77 : Mm → Int32 → Int32 → Option (Int32 × Mm)) (hk77 : ∀ (g : Mm) (x1 x2 : Int32) (H : Heap) (locs : List Loc), va_P (dC, dI) vwCl (ob_ws shM ad cI cZ g) H → va_S (ob_A shM ad) s.heap H locs → ∀ (ls : Array Slot), lv_has ls 3 [(0, .ref (ad 0)), (1, .int x1), (2, .int x2)] → k77 g x1 x2 = some (r, t) → W p l e (rmN d) s m args below meth c H locs 0 0 (MQ below (ob_Qi (dC, dI) vwCl shM ad cI cZ r t) args s 0 0 (ob_A shM ad)) (F0 m 77 ls [])) (n : Nat), ∀ (g : Mm) (x1 x2 : Int32) (H : Heap) (locs : List Loc), va_P (dC, dI) vwCl (ob_ws shM ad cI cZ g) H → va_S (ob_A shM ad) s.heap H locs → ∀ (ls : Array Slot), lv_has ls 3 [(0, .ref (ad 0)), (1, .int x1), (2, .int x2)] → f_X7_restore_L26 k77 n g x1 x2 = some (r, t) → W p l e (rmN d) s m args below meth c H locs 0 0 (MQ below (ob_Qi (dC, dI) vwCl shM ad cI cZ r t) args s 0 0 (ob_A shM ad)) (F0 m 26 ls []) := by
    intro k77 hk77 n
    induction n with
    | zero =>
      intro g x1 x2 H locs hM hS ls hl hf
      cases hf
    | succ n ih =>
      intro g x1 x2 H locs hM hS ls hl hf
      unfold f_X7_restore_L26 at hf
      refine lv_iload_n hx hb dX7_restore_26 rfl (lv_at hl 2 rfl) ?_
      refine lv_bipush (v := 10) hx hb dX7_restore_27 (by decide) ?_
      refine lv_icmp_ge (tgt := 75) hx hb dX7_restore_29 (by decide) (fun c5 => ?_) (fun c5 => ?_)
      · rw [if_pos c5] at hf
        refine lv_iconst (v := 0) hx hb dX7_restore_75 (by decide) ?_
        refine lv_istore_n (lv' := [(2, .int 0), (0, .ref (ad 0)), (1, .int x1)]) hx hb dX7_restore_76 rfl hl (by decide) rfl (fun ls hl => ?_)
        exact hk77 g x1 0 _ _ hM hS _ (lv_sub hl [1, 2, 0] rfl) hf
      · rw [if_neg c5] at hf
        refine lv_aload_n hx hb dX7_restore_32 rfl (lv_at hl 0 rfl) ?_
        refine ob_gr (j := 2) hx hb hts in_own hown hK hM (q := 0) shM_0 (C := RX7) (T := TX7) (N := 18) rfl 2 (by decide) hf_13 rfl dX7_restore_33 ?_
        refine lv_iload_n hx hb dX7_restore_36 rfl (lv_at hl 2 rfl) ?_
        refine lv_aload_n hx hb dX7_restore_37 rfl (lv_at hl 0 rfl) ?_
        refine ob_gr (j := 15) hx hb hts in_own hown hK hM (q := 0) shM_0 (C := RX7) (T := TX7) (N := 18) rfl 16 (by decide) hf_53 rfl dX7_restore_38 ?_
        refine lv_bipush (v := 30) hx hb dX7_restore_41 (by decide) ?_
        refine lv_iload_n hx hb dX7_restore_43 rfl (lv_at hl 1 rfl) ?_
        refine lv_imul hx hb dX7_restore_44 ?_
        refine lv_iload_n hx hb dX7_restore_45 rfl (lv_at hl 2 rfl) ?_
        refine lv_iadd hx hb dX7_restore_46 ?_
        obtain ⟨v6, e6, hf⟩ := ob_e1 hf
        refine ob_iald hx hb hK hM (q := 15) (n := 60) shM_15 e6 dX7_restore_47 ?_
        obtain ⟨g7, e7, hf⟩ := ob_e1 hf
        refine ob_iast hx hb hK hM hI hS (q := 2) (n := 10) shM_2 e7 dX7_restore_48 (fun H locs hM hS => ?_)
        refine lv_aload_n hx hb dX7_restore_49 rfl (lv_at hl 0 rfl) ?_
        refine ob_gr (j := 3) hx hb hts in_own hown hK hM (q := 0) shM_0 (C := RX7) (T := TX7) (N := 18) rfl 3 (by decide) hf_16 rfl dX7_restore_50 ?_
        refine lv_iload_n hx hb dX7_restore_53 rfl (lv_at hl 2 rfl) ?_
        refine lv_aload_n hx hb dX7_restore_54 rfl (lv_at hl 0 rfl) ?_
        refine ob_gr (j := 15) hx hb hts in_own hown hK hM (q := 0) shM_0 (C := RX7) (T := TX7) (N := 18) rfl 16 (by decide) hf_53 rfl dX7_restore_55 ?_
        refine lv_bipush (v := 30) hx hb dX7_restore_58 (by decide) ?_
        refine lv_iload_n hx hb dX7_restore_60 rfl (lv_at hl 1 rfl) ?_
        refine lv_imul hx hb dX7_restore_61 ?_
        refine lv_bipush (v := 10) hx hb dX7_restore_62 (by decide) ?_
        refine lv_iadd hx hb dX7_restore_64 ?_
        refine lv_iload_n hx hb dX7_restore_65 rfl (lv_at hl 2 rfl) ?_
        refine lv_iadd hx hb dX7_restore_66 ?_
        obtain ⟨v8, e8, hf⟩ := ob_e1 hf
        refine ob_iald hx hb hK hM (q := 15) (n := 60) shM_15 e8 dX7_restore_67 ?_
        obtain ⟨g9, e9, hf⟩ := ob_e1 hf
        refine ob_iast hx hb hK hM hI hS (q := 3) (n := 10) shM_3 e9 dX7_restore_68 (fun H locs hM hS => ?_)
        refine lv_iinc (v := (x2 + 1)) (lv' := [(2, .int (x2 + 1)), (0, .ref (ad 0)), (1, .int x1)]) hx hb dX7_restore_69 hl (k := 2) rfl rfl (by decide) rfl (fun ls hl => ?_)
        refine lv_goto (tgt := 26) hx hb dX7_restore_72 (by decide) ?_
        exact ih g9 x1 (x2 + 1) _ _ hM hS _ (lv_sub hl [1, 2, 0] rfl) hf
  have w_77 : ∀ (n : Nat), ∀ (g : Mm) (x1 x2 : Int32) (H : Heap) (locs : List Loc), va_P (dC, dI) vwCl (ob_ws shM ad cI cZ g) H → va_S (ob_A shM ad) s.heap H locs → ∀ (ls : Array Slot), lv_has ls 3 [(0, .ref (ad 0)), (1, .int x1), (2, .int x2)] → f_X7_restore_L77 n g x1 x2 = some (r, t) → W p l e (rmN d) s m args below meth c H locs 0 0 (MQ below (ob_Qi (dC, dI) vwCl shM ad cI cZ r t) args s 0 0 (ob_A shM ad)) (F0 m 77 ls []) := by
    intro n
    induction n with
    | zero =>
      intro g x1 x2 H locs hM hS ls hl hf
      cases hf
    | succ n ih =>
      intro g x1 x2 H locs hM hS ls hl hf
      unfold f_X7_restore_L77 at hf
      refine lv_iload_n hx hb dX7_restore_77 rfl (lv_at hl 2 rfl) ?_
      refine lv_iconst (v := 5) hx hb dX7_restore_78 (by decide) ?_
      refine lv_icmp_ge (tgt := 128) hx hb dX7_restore_79 (by decide) (fun c10 => ?_) (fun c10 => ?_)
      · rw [if_pos c10] at hf
        refine lv_iconst (v := 1) hx hb dX7_restore_128 (by decide) ?_
        exact ob_iret hx hb hr hlocks hM hS (v := 1) rfl hf dX7_restore_129
      · rw [if_neg c10] at hf
        refine lv_aload_n hx hb dX7_restore_82 rfl (lv_at hl 0 rfl) ?_
        refine ob_gr (j := 4) hx hb hts in_own hown hK hM (q := 0) shM_0 (C := RX7) (T := TX7) (N := 18) rfl 4 (by decide) hf_19 rfl dX7_restore_83 ?_
        refine lv_iload_n hx hb dX7_restore_86 rfl (lv_at hl 2 rfl) ?_
        refine lv_aload_n hx hb dX7_restore_87 rfl (lv_at hl 0 rfl) ?_
        refine ob_gr (j := 15) hx hb hts in_own hown hK hM (q := 0) shM_0 (C := RX7) (T := TX7) (N := 18) rfl 16 (by decide) hf_53 rfl dX7_restore_88 ?_
        refine lv_bipush (v := 30) hx hb dX7_restore_91 (by decide) ?_
        refine lv_iload_n hx hb dX7_restore_93 rfl (lv_at hl 1 rfl) ?_
        refine lv_imul hx hb dX7_restore_94 ?_
        refine lv_bipush (v := 20) hx hb dX7_restore_95 (by decide) ?_
        refine lv_iadd hx hb dX7_restore_97 ?_
        refine lv_iload_n hx hb dX7_restore_98 rfl (lv_at hl 2 rfl) ?_
        refine lv_iadd hx hb dX7_restore_99 ?_
        obtain ⟨v11, e11, hf⟩ := ob_e1 hf
        refine ob_iald hx hb hK hM (q := 15) (n := 60) shM_15 e11 dX7_restore_100 ?_
        obtain ⟨g12, e12, hf⟩ := ob_e1 hf
        refine ob_iast hx hb hK hM hI hS (q := 4) (n := 5) shM_4 e12 dX7_restore_101 (fun H locs hM hS => ?_)
        refine lv_aload_n hx hb dX7_restore_102 rfl (lv_at hl 0 rfl) ?_
        refine ob_gr (j := 5) hx hb hts in_own hown hK hM (q := 0) shM_0 (C := RX7) (T := TX7) (N := 18) rfl 5 (by decide) hf_22 rfl dX7_restore_103 ?_
        refine lv_iload_n hx hb dX7_restore_106 rfl (lv_at hl 2 rfl) ?_
        refine lv_aload_n hx hb dX7_restore_107 rfl (lv_at hl 0 rfl) ?_
        refine ob_gr (j := 15) hx hb hts in_own hown hK hM (q := 0) shM_0 (C := RX7) (T := TX7) (N := 18) rfl 16 (by decide) hf_53 rfl dX7_restore_108 ?_
        refine lv_bipush (v := 30) hx hb dX7_restore_111 (by decide) ?_
        refine lv_iload_n hx hb dX7_restore_113 rfl (lv_at hl 1 rfl) ?_
        refine lv_imul hx hb dX7_restore_114 ?_
        refine lv_bipush (v := 25) hx hb dX7_restore_115 (by decide) ?_
        refine lv_iadd hx hb dX7_restore_117 ?_
        refine lv_iload_n hx hb dX7_restore_118 rfl (lv_at hl 2 rfl) ?_
        refine lv_iadd hx hb dX7_restore_119 ?_
        obtain ⟨v13, e13, hf⟩ := ob_e1 hf
        refine ob_iald hx hb hK hM (q := 15) (n := 60) shM_15 e13 dX7_restore_120 ?_
        obtain ⟨g14, e14, hf⟩ := ob_e1 hf
        refine ob_iast hx hb hK hM hI hS (q := 5) (n := 5) shM_5 e14 dX7_restore_121 (fun H locs hM hS => ?_)
        refine lv_iinc (v := (x2 + 1)) (lv' := [(2, .int (x2 + 1)), (0, .ref (ad 0)), (1, .int x1)]) hx hb dX7_restore_122 hl (k := 2) rfl rfl (by decide) rfl (fun ls hl => ?_)
        refine lv_goto (tgt := 77) hx hb dX7_restore_125 (by decide) ?_
        exact ih g14 x1 (x2 + 1) _ _ hM hS _ (lv_sub hl [1, 2, 0] rfl) hf
  subst ha
  have hl := lv_entry ([.ref (ad 0), .int x1]) (n := 3) (Nat.le_of_ble_eq_true rfl)
  rw [lg_entry_eq]
  generalize (lg_sl ([.ref (ad 0), .int x1]) ++ List.replicate (3 - (lg_sl ([.ref (ad 0), .int x1])).length) Slot.unset).toArray = ls at hl ⊢
  have hl : lv_has ls 3 [(0, .ref (ad 0)), (1, .int x1)] := hl
  have hM := hM0
  have hS := hS0
  unfold f_X7_restore at hf
  refine lv_iload_n hx hb dX7_restore_0 rfl (lv_at hl 1 rfl) ?_
  refine lv_iconst (v := 0) hx hb dX7_restore_1 (by decide) ?_
  refine lv_iconst (v := 1) hx hb dX7_restore_2 (by decide) ?_
  obtain ⟨v1, e1, hf⟩ := ob_e1 hf
  refine ob_calli (va_runS (As := [.int x1, .int 0, .int 1]) (rest := []) ⟨hx, hb, hml, hown, hts⟩ (c_X7_in l dC dI ad cI cZ hI 0 (Nat.le_refl _) g x1 0 1  v1 e1) (va_cwS 3 hts gX7_restore_X7_in rfl rfl rfl hd_X7_in (ob_R (Nat.le_trans (by decide) hd) (by decide))) (ob_preS hK hM) rfl rfl hl.1 rfl (lv_room (Nat.le_of_ble_eq_true rfl)) dX7_restore_3 ⟨Nat.le_refl _, Nat.le_refl _⟩) hS (fun H locs hM hS => ?_)
  refine lv_if_ne (tgt := 12) hx hb dX7_restore_6 (by decide) (fun c2 => ?_) (fun c2 => ?_)
  · rw [if_neg c2] at hf
    refine lv_aload_n hx hb dX7_restore_12 rfl (lv_at hl 0 rfl) ?_
    refine ob_gr (j := 16) hx hb hts in_own hown hK hM (q := 0) shM_0 (C := RX7) (T := TX7) (N := 18) rfl 17 (by decide) hf_56 rfl dX7_restore_13 ?_
    refine lv_iload_n hx hb dX7_restore_16 rfl (lv_at hl 1 rfl) ?_
    obtain ⟨v3, e3, hf⟩ := ob_e1 hf
    refine ob_zald hx hb hK hM (q := 16) (n := 2) shM_16 e3 dX7_restore_17 ?_
    refine lv_if_ne (tgt := 24) hx hb dX7_restore_18 (by decide) (fun c4 => ?_) (fun c4 => ?_)
    · rw [if_neg c4] at hf
      refine lv_iconst (v := 0) hx hb dX7_restore_24 (by decide) ?_
      refine lv_istore_n (lv' := [(2, .int 0), (0, .ref (ad 0)), (1, .int x1)]) hx hb dX7_restore_25 rfl hl (by decide) rfl (fun ls hl => ?_)
      exact w_26 (f_X7_restore_L77 FU) (w_77 FU) FU g x1 0 _ _ hM hS _ (lv_sub hl [1, 2, 0] rfl) hf
    · rw [if_pos c4] at hf
      refine lv_bipush (v := (-3)) hx hb dX7_restore_21 (by decide) ?_
      exact ob_iret hx hb hr hlocks hM hS (v := (-3)) rfl hf dX7_restore_23
  · rw [if_pos c2] at hf
    refine lv_bipush (v := (-2)) hx hb dX7_restore_9 (by decide) ?_
    exact ob_iret hx hb hr hlocks hM hS (v := (-2)) rfl hf dX7_restore_11
set_option maxHeartbeats 4000000 in
set_option maxRecDepth 100000 in
theorem c_X7_join (l : Launch) (dC : Nat → ClassId) (dI : Nat → Nat → Nat) (ad : Nat → Nat) (cI cZ : ClassId) (hI : ob_inj shM ad) (d : Nat) (hd : 2 ≤ d) (g : Mm) (x1 : Int32) (r : Int32) (t : Mm) (hf : f_X7_join g x1 = some (r, t)) : ob_Mi l yX7_join wsX7_join d (dC, dI) vwCl shM ad cI cZ nwM [.ref (ad 0), .int x1] g r t := by
  refine ob_ofW (cc := cX7_join) (maxL := 3) (ret := (some .int)) (by decide) rfl ?_
  intro p e s m args below meth c ha hx hb hr hml hts hown hlocks hM0 hK hS0
  have hown : s.vm.findClass RX7 = some m.cls := hown
  have in_own : ∀ w ∈ wsX70, w ∈ wsX7_join := fun w h => (List.mem_cons_of_mem _ (List.mem_append_right _ h))
  have hf_56 := hts (.fieldLink RX7 56 "OneWorseModel" "isKept" "[Z") (List.mem_cons_of_mem _ (List.mem_append_left _ (List.mem_of_getElem? (i := 0) rfl)))
  have hf_13 := hts (.fieldLink RX7 13 "OneWorseModel" "book" "[I") (List.mem_cons_of_mem _ (List.mem_append_left _ (List.mem_of_getElem? (i := 1) rfl)))
  have hf_53 := hts (.fieldLink RX7 53 "OneWorseModel" "image" "[I") (List.mem_cons_of_mem _ (List.mem_append_left _ (List.mem_of_getElem? (i := 2) rfl)))
  have w_26 : ∀ (n : Nat), ∀ (g : Mm) (x1 x2 : Int32) (H : Heap) (locs : List Loc), va_P (dC, dI) vwCl (ob_ws shM ad cI cZ g) H → va_S (ob_A shM ad) s.heap H locs → ∀ (ls : Array Slot), lv_has ls 3 [(0, .ref (ad 0)), (1, .int x1), (2, .int x2)] → f_X7_join_L26 n g x1 x2 = some (r, t) → W p l e (rmN d) s m args below meth c H locs 0 0 (MQ below (ob_Qi (dC, dI) vwCl shM ad cI cZ r t) args s 0 0 (ob_A shM ad)) (F0 m 26 ls []) := by
    intro n
    induction n with
    | zero =>
      intro g x1 x2 H locs hM hS ls hl hf
      cases hf
    | succ n ih =>
      intro g x1 x2 H locs hM hS ls hl hf
      unfold f_X7_join_L26 at hf
      refine lv_iload_n hx hb dX7_join_26 rfl (lv_at hl 2 rfl) ?_
      refine lv_bipush (v := 10) hx hb dX7_join_27 (by decide) ?_
      refine lv_icmp_ge (tgt := 58) hx hb dX7_join_29 (by decide) (fun c5 => ?_) (fun c5 => ?_)
      · rw [if_pos c5] at hf
        refine lv_aload_n hx hb dX7_join_58 rfl (lv_at hl 0 rfl) ?_
        obtain ⟨v6, e6, hf⟩ := ob_e1 hf
        refine ob_calli (va_runV (As := []) (rest := []) ⟨hx, hb, hml, hown, hts⟩ (c_X7_allSteps l dC dI ad cI cZ hI 1 (Nat.le_refl _) g  v6 e6) (cwV 0 hts gX7_join_X7_allSteps rfl rfl rfl ⟨rfl, hd_X7_allSteps⟩ (ob_R (Nat.le_trans (by decide) hd) (by decide))) (ob_preV hK hM (q := 0) shM_0 rfl) rfl rfl hl.1 rfl (lv_room (Nat.le_of_ble_eq_true rfl)) dX7_join_59 ⟨Nat.le_refl _, Nat.le_refl _⟩) hS (fun H locs hM hS => ?_)
        exact ob_iret hx hb hr hlocks hM hS (v := v6) rfl hf dX7_join_62
      · rw [if_neg c5] at hf
        refine lv_aload_n hx hb dX7_join_32 rfl (lv_at hl 0 rfl) ?_
        refine ob_gr (j := 2) hx hb hts in_own hown hK hM (q := 0) shM_0 (C := RX7) (T := TX7) (N := 18) rfl 2 (by decide) hf_13 rfl dX7_join_33 ?_
        refine lv_iload_n hx hb dX7_join_36 rfl (lv_at hl 2 rfl) ?_
        refine lv_dup2_11 hx hb dX7_join_37 rfl rfl ?_
        obtain ⟨v7, e7, hf⟩ := ob_e1 hf
        refine ob_iald hx hb hK hM (q := 2) (n := 10) shM_2 e7 dX7_join_38 ?_
        refine lv_aload_n hx hb dX7_join_39 rfl (lv_at hl 0 rfl) ?_
        refine ob_gr (j := 15) hx hb hts in_own hown hK hM (q := 0) shM_0 (C := RX7) (T := TX7) (N := 18) rfl 16 (by decide) hf_53 rfl dX7_join_40 ?_
        refine lv_bipush (v := 30) hx hb dX7_join_43 (by decide) ?_
        refine lv_iload_n hx hb dX7_join_45 rfl (lv_at hl 1 rfl) ?_
        refine lv_imul hx hb dX7_join_46 ?_
        refine lv_iload_n hx hb dX7_join_47 rfl (lv_at hl 2 rfl) ?_
        refine lv_iadd hx hb dX7_join_48 ?_
        obtain ⟨v8, e8, hf⟩ := ob_e1 hf
        refine ob_iald hx hb hK hM (q := 15) (n := 60) shM_15 e8 dX7_join_49 ?_
        refine lv_ior hx hb dX7_join_50 ?_
        obtain ⟨g9, e9, hf⟩ := ob_e1 hf
        refine ob_iast hx hb hK hM hI hS (q := 2) (n := 10) shM_2 e9 dX7_join_51 (fun H locs hM hS => ?_)
        refine lv_iinc (v := (x2 + 1)) (lv' := [(2, .int (x2 + 1)), (0, .ref (ad 0)), (1, .int x1)]) hx hb dX7_join_52 hl (k := 2) rfl rfl (by decide) rfl (fun ls hl => ?_)
        refine lv_goto (tgt := 26) hx hb dX7_join_55 (by decide) ?_
        exact ih g9 x1 (x2 + 1) _ _ hM hS _ (lv_sub hl [1, 2, 0] rfl) hf
  subst ha
  have hl := lv_entry ([.ref (ad 0), .int x1]) (n := 3) (Nat.le_of_ble_eq_true rfl)
  rw [lg_entry_eq]
  generalize (lg_sl ([.ref (ad 0), .int x1]) ++ List.replicate (3 - (lg_sl ([.ref (ad 0), .int x1])).length) Slot.unset).toArray = ls at hl ⊢
  have hl : lv_has ls 3 [(0, .ref (ad 0)), (1, .int x1)] := hl
  have hM := hM0
  have hS := hS0
  unfold f_X7_join at hf
  refine lv_iload_n hx hb dX7_join_0 rfl (lv_at hl 1 rfl) ?_
  refine lv_iconst (v := 0) hx hb dX7_join_1 (by decide) ?_
  refine lv_iconst (v := 1) hx hb dX7_join_2 (by decide) ?_
  obtain ⟨v1, e1, hf⟩ := ob_e1 hf
  refine ob_calli (va_runS (As := [.int x1, .int 0, .int 1]) (rest := []) ⟨hx, hb, hml, hown, hts⟩ (c_X7_in l dC dI ad cI cZ hI 0 (Nat.le_refl _) g x1 0 1  v1 e1) (va_cwS 3 hts gX7_join_X7_in rfl rfl rfl hd_X7_in (ob_R (Nat.le_trans (by decide) hd) (by decide))) (ob_preS hK hM) rfl rfl hl.1 rfl (lv_room (Nat.le_of_ble_eq_true rfl)) dX7_join_3 ⟨Nat.le_refl _, Nat.le_refl _⟩) hS (fun H locs hM hS => ?_)
  refine lv_if_ne (tgt := 12) hx hb dX7_join_6 (by decide) (fun c2 => ?_) (fun c2 => ?_)
  · rw [if_neg c2] at hf
    refine lv_aload_n hx hb dX7_join_12 rfl (lv_at hl 0 rfl) ?_
    refine ob_gr (j := 16) hx hb hts in_own hown hK hM (q := 0) shM_0 (C := RX7) (T := TX7) (N := 18) rfl 17 (by decide) hf_56 rfl dX7_join_13 ?_
    refine lv_iload_n hx hb dX7_join_16 rfl (lv_at hl 1 rfl) ?_
    obtain ⟨v3, e3, hf⟩ := ob_e1 hf
    refine ob_zald hx hb hK hM (q := 16) (n := 2) shM_16 e3 dX7_join_17 ?_
    refine lv_if_ne (tgt := 24) hx hb dX7_join_18 (by decide) (fun c4 => ?_) (fun c4 => ?_)
    · rw [if_neg c4] at hf
      refine lv_iconst (v := 0) hx hb dX7_join_24 (by decide) ?_
      refine lv_istore_n (lv' := [(2, .int 0), (0, .ref (ad 0)), (1, .int x1)]) hx hb dX7_join_25 rfl hl (by decide) rfl (fun ls hl => ?_)
      exact w_26 FU g x1 0 _ _ hM hS _ (lv_sub hl [1, 2, 0] rfl) hf
    · rw [if_pos c4] at hf
      refine lv_bipush (v := (-3)) hx hb dX7_join_21 (by decide) ?_
      exact ob_iret hx hb hr hlocks hM hS (v := (-3)) rfl hf dX7_join_23
  · rw [if_pos c2] at hf
    refine lv_bipush (v := (-2)) hx hb dX7_join_9 (by decide) ?_
    exact ob_iret hx hb hr hlocks hM hS (v := (-2)) rfl hf dX7_join_11
set_option maxHeartbeats 4000000 in
set_option maxRecDepth 100000 in
theorem c_X7_told (l : Launch) (dC : Nat → ClassId) (dI : Nat → Nat → Nat) (ad : Nat → Nat) (cI cZ : ClassId) (hI : ob_inj shM ad) (d : Nat) (hd : 2 ≤ d) (g : Mm) (x1 : Int32) (r : Int32) (hf : f_X7_told g x1 = some r) : ob_Mi l yX7_told wsX7_told d (dC, dI) vwCl shM ad cI cZ nwM [.ref (ad 0), .int x1] g r g := by
  refine ob_ofW (cc := cX7_told) (maxL := 3) (ret := (some .int)) (by decide) rfl ?_
  intro p e s m args below meth c ha hx hb hr hml hts hown hlocks hM0 hK hS0
  have hown : s.vm.findClass RX7 = some m.cls := hown
  have in_own : ∀ w ∈ wsX70, w ∈ wsX7_told := fun w h => (List.mem_cons_of_mem _ (List.mem_append_right _ h))
  have hf_67 := hts (.fieldLink RX7 67 "OneWorseModel" "signs" "I") (List.mem_cons_of_mem _ (List.mem_append_left _ (List.mem_of_getElem? (i := 4) rfl)))
  have hf_13 := hts (.fieldLink RX7 13 "OneWorseModel" "book" "[I") (List.mem_cons_of_mem _ (List.mem_append_left _ (List.mem_of_getElem? (i := 3) rfl)))
  have hf_22 := hts (.fieldLink RX7 22 "OneWorseModel" "knows" "[I") (List.mem_cons_of_mem _ (List.mem_append_left _ (List.mem_of_getElem? (i := 2) rfl)))
  have hf_19 := hts (.fieldLink RX7 19 "OneWorseModel" "traits" "[I") (List.mem_cons_of_mem _ (List.mem_append_left _ (List.mem_of_getElem? (i := 1) rfl)))
  have hf_16 := hts (.fieldLink RX7 16 "OneWorseModel" "need" "[I") (List.mem_cons_of_mem _ (List.mem_append_left _ (List.mem_of_getElem? (i := 0) rfl)))
  subst ha
  have hl := lv_entry ([.ref (ad 0), .int x1]) (n := 3) (Nat.le_of_ble_eq_true rfl)
  rw [lg_entry_eq]
  generalize (lg_sl ([.ref (ad 0), .int x1]) ++ List.replicate (3 - (lg_sl ([.ref (ad 0), .int x1])).length) Slot.unset).toArray = ls at hl ⊢
  have hl : lv_has ls 3 [(0, .ref (ad 0)), (1, .int x1)] := hl
  have hM := hM0
  have hS := hS0
  unfold f_X7_told at hf
  refine lv_iload_n hx hb dX7_told_0 rfl (lv_at hl 1 rfl) ?_
  refine lv_bipush (v := 10) hx hb dX7_told_1 (by decide) ?_
  refine lv_irem hx hb dX7_told_3 (by decide) ?_
  refine lv_istore_n (lv' := [(2, .int (x1 - x1 / 10 * 10)), (0, .ref (ad 0)), (1, .int x1)]) hx hb dX7_told_4 rfl hl (by decide) rfl (fun ls hl => ?_)
  refine lv_iload_n hx hb dX7_told_5 rfl (lv_at hl 2 rfl) ?_
  refine lv_bipush (v := 10) hx hb dX7_told_6 (by decide) ?_
  refine lv_bipush (v := 19) hx hb dX7_told_8 (by decide) ?_
  obtain ⟨v1, e1, hf⟩ := ob_e1 hf
  refine ob_calli (va_runS (As := [.int x1, .int 10, .int 19]) (rest := []) ⟨hx, hb, hml, hown, hts⟩ (c_X7_in l dC dI ad cI cZ hI 0 (Nat.le_refl _) g x1 10 19  v1 e1) (va_cwS 3 hts gX7_told_X7_in rfl rfl rfl hd_X7_in (ob_R (Nat.le_trans (by decide) hd) (by decide))) (ob_preS hK hM) rfl rfl hl.1 rfl (lv_room (Nat.le_of_ble_eq_true rfl)) dX7_told_10 ⟨Nat.le_refl _, Nat.le_refl _⟩) hS (fun H locs hM hS => ?_)
  refine lv_if_eq (tgt := 23) hx hb dX7_told_13 (by decide) (fun c2 => ?_) (fun c2 => ?_)
  · rw [if_pos c2] at hf
    refine lv_iload_n hx hb dX7_told_23 rfl (lv_at hl 2 rfl) ?_
    refine lv_bipush (v := 20) hx hb dX7_told_24 (by decide) ?_
    refine lv_bipush (v := 24) hx hb dX7_told_26 (by decide) ?_
    obtain ⟨v3, e3, hf⟩ := ob_e1 hf
    refine ob_calli (va_runS (As := [.int x1, .int 20, .int 24]) (rest := []) ⟨hx, hb, hml, hown, hts⟩ (c_X7_in l dC dI ad cI cZ hI 0 (Nat.le_refl _) g x1 20 24  v3 e3) (va_cwS 3 hts gX7_told_X7_in rfl rfl rfl hd_X7_in (ob_R (Nat.le_trans (by decide) hd) (by decide))) (ob_preS hK hM) rfl rfl hl.1 rfl (lv_room (Nat.le_of_ble_eq_true rfl)) dX7_told_28 ⟨Nat.le_refl _, Nat.le_refl _⟩) hS (fun H locs hM hS => ?_)
    refine lv_if_eq (tgt := 41) hx hb dX7_told_31 (by decide) (fun c4 => ?_) (fun c4 => ?_)
    · rw [if_pos c4] at hf
      refine lv_iload_n hx hb dX7_told_41 rfl (lv_at hl 2 rfl) ?_
      refine lv_bipush (v := 30) hx hb dX7_told_42 (by decide) ?_
      refine lv_bipush (v := 34) hx hb dX7_told_44 (by decide) ?_
      obtain ⟨v5, e5, hf⟩ := ob_e1 hf
      refine ob_calli (va_runS (As := [.int x1, .int 30, .int 34]) (rest := []) ⟨hx, hb, hml, hown, hts⟩ (c_X7_in l dC dI ad cI cZ hI 0 (Nat.le_refl _) g x1 30 34  v5 e5) (va_cwS 3 hts gX7_told_X7_in rfl rfl rfl hd_X7_in (ob_R (Nat.le_trans (by decide) hd) (by decide))) (ob_preS hK hM) rfl rfl hl.1 rfl (lv_room (Nat.le_of_ble_eq_true rfl)) dX7_told_46 ⟨Nat.le_refl _, Nat.le_refl _⟩) hS (fun H locs hM hS => ?_)
      refine lv_if_eq (tgt := 59) hx hb dX7_told_49 (by decide) (fun c6 => ?_) (fun c6 => ?_)
      · rw [if_pos c6] at hf
        refine lv_iload_n hx hb dX7_told_59 rfl (lv_at hl 2 rfl) ?_
        refine lv_bipush (v := 40) hx hb dX7_told_60 (by decide) ?_
        refine lv_bipush (v := 49) hx hb dX7_told_62 (by decide) ?_
        obtain ⟨v7, e7, hf⟩ := ob_e1 hf
        refine ob_calli (va_runS (As := [.int x1, .int 40, .int 49]) (rest := []) ⟨hx, hb, hml, hown, hts⟩ (c_X7_in l dC dI ad cI cZ hI 0 (Nat.le_refl _) g x1 40 49  v7 e7) (va_cwS 3 hts gX7_told_X7_in rfl rfl rfl hd_X7_in (ob_R (Nat.le_trans (by decide) hd) (by decide))) (ob_preS hK hM) rfl rfl hl.1 rfl (lv_room (Nat.le_of_ble_eq_true rfl)) dX7_told_64 ⟨Nat.le_refl _, Nat.le_refl _⟩) hS (fun H locs hM hS => ?_)
        refine lv_if_eq (tgt := 77) hx hb dX7_told_67 (by decide) (fun c8 => ?_) (fun c8 => ?_)
        · rw [if_pos c8] at hf
          refine lv_iload_n hx hb dX7_told_77 rfl (lv_at hl 2 rfl) ?_
          refine lv_if_ne (tgt := 88) hx hb dX7_told_78 (by decide) (fun c9 => ?_) (fun c9 => ?_)
          · rw [if_neg c9] at hf
            refine lv_iload_n hx hb dX7_told_88 rfl (lv_at hl 2 rfl) ?_
            refine lv_iconst (v := 1) hx hb dX7_told_89 (by decide) ?_
            refine lv_icmp_ne (tgt := 100) hx hb dX7_told_90 (by decide) (fun c10 => ?_) (fun c10 => ?_)
            · rw [if_neg c10] at hf
              refine lv_bipush (v := (-2)) hx hb dX7_told_100 (by decide) ?_
              exact ob_iretR hx hb hr hlocks hM hS (v := (-2)) rfl hf dX7_told_102
            · rw [if_pos c10] at hf
              refine lv_aload_n hx hb dX7_told_93 rfl (lv_at hl 1 rfl) ?_
              obtain ⟨v11, e11, hf⟩ := ob_e1 hf
              refine ob_calli (va_runV (As := []) (rest := []) ⟨hx, hb, hml, hown, hts⟩ (c_X7_allSteps l dC dI ad cI cZ hI 1 (Nat.le_refl _) g  v11 e11) (cwV 0 hts gX7_told_X7_allSteps rfl rfl rfl ⟨rfl, hd_X7_allSteps⟩ (ob_R (Nat.le_trans (by decide) hd) (by decide))) (ob_preV hK hM (q := 0) shM_0 rfl) rfl rfl hl.1 rfl (lv_room (Nat.le_of_ble_eq_true rfl)) dX7_told_94 ⟨Nat.le_refl _, Nat.le_refl _⟩) hS (fun H locs hM hS => ?_)
              refine lv_goto (tgt := 102) hx hb dX7_told_97 (by decide) ?_
              exact ob_iretR hx hb hr hlocks hM hS (v := v11) rfl hf dX7_told_102
          · rw [if_pos c9] at hf
            refine lv_aload_n hx hb dX7_told_81 rfl (lv_at hl 1 rfl) ?_
            refine ob_gi hx hb hts in_own hown hK hM (q := 0) shM_0 (C := RX7) (T := TX7) (N := 18) rfl 0 (by decide) hf_67 rfl dX7_told_82 ?_
            refine lv_goto (tgt := 102) hx hb dX7_told_85 (by decide) ?_
            exact ob_iretR hx hb hr hlocks hM hS (v := (g 0 0)) rfl hf dX7_told_102
        · rw [if_neg c8] at hf
          refine lv_aload_n hx hb dX7_told_70 rfl (lv_at hl 1 rfl) ?_
          refine ob_gr (j := 2) hx hb hts in_own hown hK hM (q := 0) shM_0 (C := RX7) (T := TX7) (N := 18) rfl 2 (by decide) hf_13 rfl dX7_told_71 ?_
          refine lv_iload_n hx hb dX7_told_74 rfl (lv_at hl 0 rfl) ?_
          obtain ⟨v12, e12, hf⟩ := ob_e1 hf
          refine ob_iald hx hb hK hM (q := 2) (n := 10) shM_2 e12 dX7_told_75 ?_
          exact ob_iretR hx hb hr hlocks hM hS (v := v12) rfl hf dX7_told_76
      · rw [if_neg c6] at hf
        refine lv_aload_n hx hb dX7_told_52 rfl (lv_at hl 1 rfl) ?_
        refine ob_gr (j := 5) hx hb hts in_own hown hK hM (q := 0) shM_0 (C := RX7) (T := TX7) (N := 18) rfl 5 (by decide) hf_22 rfl dX7_told_53 ?_
        refine lv_iload_n hx hb dX7_told_56 rfl (lv_at hl 0 rfl) ?_
        obtain ⟨v13, e13, hf⟩ := ob_e1 hf
        refine ob_iald hx hb hK hM (q := 5) (n := 5) shM_5 e13 dX7_told_57 ?_
        exact ob_iretR hx hb hr hlocks hM hS (v := v13) rfl hf dX7_told_58
    · rw [if_neg c4] at hf
      refine lv_aload_n hx hb dX7_told_34 rfl (lv_at hl 1 rfl) ?_
      refine ob_gr (j := 4) hx hb hts in_own hown hK hM (q := 0) shM_0 (C := RX7) (T := TX7) (N := 18) rfl 4 (by decide) hf_19 rfl dX7_told_35 ?_
      refine lv_iload_n hx hb dX7_told_38 rfl (lv_at hl 0 rfl) ?_
      obtain ⟨v14, e14, hf⟩ := ob_e1 hf
      refine ob_iald hx hb hK hM (q := 4) (n := 5) shM_4 e14 dX7_told_39 ?_
      exact ob_iretR hx hb hr hlocks hM hS (v := v14) rfl hf dX7_told_40
  · rw [if_neg c2] at hf
    refine lv_aload_n hx hb dX7_told_16 rfl (lv_at hl 1 rfl) ?_
    refine ob_gr (j := 3) hx hb hts in_own hown hK hM (q := 0) shM_0 (C := RX7) (T := TX7) (N := 18) rfl 3 (by decide) hf_16 rfl dX7_told_17 ?_
    refine lv_iload_n hx hb dX7_told_20 rfl (lv_at hl 0 rfl) ?_
    obtain ⟨v15, e15, hf⟩ := ob_e1 hf
    refine ob_iald hx hb hK hM (q := 3) (n := 10) shM_3 e15 dX7_told_21 ?_
    exact ob_iretR hx hb hr hlocks hM hS (v := v15) rfl hf dX7_told_22
