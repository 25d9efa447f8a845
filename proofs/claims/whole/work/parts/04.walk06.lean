set_option maxHeartbeats 4000000 in
set_option maxRecDepth 100000 in
theorem c_X7_fit (l : Launch) (dC : Nat → ClassId) (dI : Nat → Nat → Nat) (ad : Nat → Nat) (cI cZ : ClassId) (hI : ob_inj shM ad) (d : Nat) (hd : 2 ≤ d) (g : Mm) (x1 : Int32) (r : Int32) (hf : f_X7_fit g x1 = some r) : ob_Mi l yX7_fit wsX7_fit d (dC, dI) vwCl shM ad cI cZ nwM [.ref (ad 0), .int x1] g r g := by
  refine ob_ofW (cc := cX7_fit) (maxL := 2) (ret := (some .int)) (by decide) rfl ?_
  intro p e s m args below meth c ha hx hb hr hml hts hown hlocks hM0 hK hS0
  have hown : s.vm.findClass RX7 = some m.cls := hown
  subst ha
  have hl := lv_entry ([.ref (ad 0), .int x1]) (n := 2) (Nat.le_of_ble_eq_true rfl)
  rw [lg_entry_eq]
  generalize (lg_sl ([.ref (ad 0), .int x1]) ++ List.replicate (2 - (lg_sl ([.ref (ad 0), .int x1])).length) Slot.unset).toArray = ls at hl ⊢
  have hl : lv_has ls 2 [(0, .ref (ad 0)), (1, .int x1)] := hl
  have hM := hM0
  have hS := hS0
  unfold f_X7_fit at hf
  refine lv_iload_n hx hb dX7_fit_0 rfl (lv_at hl 1 rfl) ?_
  obtain ⟨v1, e1, hf⟩ := ob_e1 hf
  refine ob_calli (va_runS (As := [.int x1]) (rest := []) ⟨hx, hb, hml, hown, hts⟩ (c_X7_isMan l dC dI ad cI cZ hI 1 (Nat.le_refl _) g x1  v1 e1) (va_cwS 1 hts gX7_fit_X7_isMan rfl rfl rfl hd_X7_isMan (ob_R (Nat.le_trans (by decide) hd) (by decide))) (ob_preS hK hM) rfl rfl hl.1 rfl (lv_room (Nat.le_of_ble_eq_true rfl)) dX7_fit_1 ⟨Nat.le_refl _, Nat.le_refl _⟩) hS (fun H locs hM hS => ?_)
  refine lv_if_eq (tgt := 15) hx hb dX7_fit_4 (by decide) (fun c2 => ?_) (fun c2 => ?_)
  · rw [if_pos c2] at hf
    refine lv_iconst (v := (-1)) hx hb dX7_fit_15 (by decide) ?_
    exact ob_iretR hx hb hr hlocks hM hS (v := (-1)) rfl hf dX7_fit_16
  · rw [if_neg c2] at hf
    refine lv_aload_n hx hb dX7_fit_7 rfl (lv_at hl 0 rfl) ?_
    refine lv_iload_n hx hb dX7_fit_8 rfl (lv_at hl 1 rfl) ?_
    obtain ⟨v3, e3, hf⟩ := ob_e1 hf
    refine ob_calli (va_runV (As := [.int x1]) (rest := []) ⟨hx, hb, hml, hown, hts⟩ (c_X7_fitOf l dC dI ad cI cZ hI 0 (Nat.le_refl _) g x1  v3 e3) (cwV 1 hts gX7_fit_X7_fitOf rfl rfl rfl ⟨rfl, hd_X7_fitOf⟩ (ob_R (Nat.le_trans (by decide) hd) (by decide))) (ob_preV hK hM (q := 0) shM_0 rfl) rfl rfl hl.1 rfl (lv_room (Nat.le_of_ble_eq_true rfl)) dX7_fit_9 ⟨Nat.le_refl _, Nat.le_refl _⟩) hS (fun H locs hM hS => ?_)
    refine lv_goto (tgt := 16) hx hb dX7_fit_12 (by decide) ?_
    exact ob_iretR hx hb hr hlocks hM hS (v := v3) rfl hf dX7_fit_16
set_option maxHeartbeats 4000000 in
set_option maxRecDepth 100000 in
theorem c_X7_whyNot (l : Launch) (dC : Nat → ClassId) (dI : Nat → Nat → Nat) (ad : Nat → Nat) (cI cZ : ClassId) (hI : ob_inj shM ad) (d : Nat) (hd : 1 ≤ d) (g : Mm) (x1 : Int32) (r : Int32) (hf : f_X7_whyNot g x1 = some r) : ob_Mi l yX7_whyNot wsX7_whyNot d (dC, dI) vwCl shM ad cI cZ nwM [.ref (ad 0), .int x1] g r g := by
  refine ob_ofW (cc := cX7_whyNot) (maxL := 6) (ret := (some .int)) (by decide) rfl ?_
  intro p e s m args below meth c ha hx hb hr hml hts hown hlocks hM0 hK hS0
  have hown : s.vm.findClass RX7 = some m.cls := hown
  have in_own : ∀ w ∈ wsX70, w ∈ wsX7_whyNot := fun w h => (List.mem_cons_of_mem _ (List.mem_append_right _ h))
  have hf_7 := hts (.fieldLink RX7 7 "OneWorseModel" "pad" "[I") (List.mem_cons_of_mem _ (List.mem_append_left _ (List.mem_of_getElem? (i := 0) rfl)))
  have hf_13 := hts (.fieldLink RX7 13 "OneWorseModel" "book" "[I") (List.mem_cons_of_mem _ (List.mem_append_left _ (List.mem_of_getElem? (i := 1) rfl)))
  have hf_67 := hts (.fieldLink RX7 67 "OneWorseModel" "signs" "I") (List.mem_cons_of_mem _ (List.mem_append_left _ (List.mem_of_getElem? (i := 2) rfl)))
  have hf_22 := hts (.fieldLink RX7 22 "OneWorseModel" "knows" "[I") (List.mem_cons_of_mem _ (List.mem_append_left _ (List.mem_of_getElem? (i := 3) rfl)))
  have w_97 : ∀ (k63 : Int32 → Int32 → Int32 → Int32 → Int32 → Option (Int32)) (hk63 : ∀ (x1 x2 x3 x4 x5 : Int32) (H : Heap) (locs : List Loc), va_P (dC, dI) vwCl (ob_ws shM ad cI cZ g) H → va_S (ob_A shM ad) s.heap H locs → ∀ (ls : Array Slot), lv_has ls 6 [(0, .ref (ad 0)), (1, .int x1), (2, .int x2), (3, .int x3), (4, .int x4), (5, .int x5)] → k63 x1 x2 x3 x4 x5 = some r → W p l e (rmN d) s m args below meth c H locs 0 0 (MQ below (ob_Qi (dC, dI) vwCl shM ad cI cZ r g) args s 0 0 (ob_A shM ad)) (F0 m 63 ls [])), ∀ (x1 x2 x3 x5 s0 : Int32) (H : Heap) (locs : List Loc), va_P (dC, dI) vwCl (ob_ws shM ad cI cZ g) H → va_S (ob_A shM ad) s.heap H locs → ∀ (ls : Array Slot), lv_has ls 6 [(0, .ref (ad 0)), (1, .int x1), (2, .int x2), (3, .int x3), (5, .int x5)] → f_X7_whyNot_J97 g k63 x1 x2 x3 x5 s0 = some r → W p l e (rmN d) s m args below meth c H locs 0 0 (MQ below (ob_Qi (dC, dI) vwCl shM ad cI cZ r g) args s 0 0 (ob_A shM ad)) (F0 m 97 ls [.int s0]) := by
    intro k63 hk63 x1 x2 x3 x5 s0 H locs hM hS ls hl hf
    unfold f_X7_whyNot_J97 at hf
    refine lv_istore (lv' := [(4, .int s0), (0, .ref (ad 0)), (1, .int x1), (2, .int x2), (3, .int x3), (5, .int x5)]) hx hb dX7_whyNot_97 hl (by decide) rfl (fun ls hl => ?_)
    refine lv_iinc (v := (x5 + 1)) (lv' := [(5, .int (x5 + 1)), (4, .int s0), (0, .ref (ad 0)), (1, .int x1), (2, .int x2), (3, .int x3)]) hx hb dX7_whyNot_99 hl (k := 5) rfl rfl (by decide) rfl (fun ls hl => ?_)
    refine lv_goto (tgt := 63) hx hb dX7_whyNot_102 (by decide) ?_
    exact hk63 x1 x2 x3 s0 (x5 + 1) _ _ hM hS _ (lv_sub hl [2, 3, 4, 5, 1, 0] rfl) hf
  have w_92 : ∀ (k63 : Int32 → Int32 → Int32 → Int32 → Int32 → Option (Int32)) (hk63 : ∀ (x1 x2 x3 x4 x5 : Int32) (H : Heap) (locs : List Loc), va_P (dC, dI) vwCl (ob_ws shM ad cI cZ g) H → va_S (ob_A shM ad) s.heap H locs → ∀ (ls : Array Slot), lv_has ls 6 [(0, .ref (ad 0)), (1, .int x1), (2, .int x2), (3, .int x3), (4, .int x4), (5, .int x5)] → k63 x1 x2 x3 x4 x5 = some r → W p l e (rmN d) s m args below meth c H locs 0 0 (MQ below (ob_Qi (dC, dI) vwCl shM ad cI cZ r g) args s 0 0 (ob_A shM ad)) (F0 m 63 ls [])), ∀ (x1 x2 x3 x5 : Int32) (H : Heap) (locs : List Loc), va_P (dC, dI) vwCl (ob_ws shM ad cI cZ g) H → va_S (ob_A shM ad) s.heap H locs → ∀ (ls : Array Slot), lv_has ls 6 [(0, .ref (ad 0)), (1, .int x1), (2, .int x2), (3, .int x3), (5, .int x5)] → f_X7_whyNot_J92 g k63 x1 x2 x3 x5 = some r → W p l e (rmN d) s m args below meth c H locs 0 0 (MQ below (ob_Qi (dC, dI) vwCl shM ad cI cZ r g) args s 0 0 (ob_A shM ad)) (F0 m 92 ls []) := by
    intro k63 hk63 x1 x2 x3 x5 H locs hM hS ls hl hf
    unfold f_X7_whyNot_J92 at hf
    refine lv_iconst (v := 1) hx hb dX7_whyNot_92 (by decide) ?_
    refine lv_goto (tgt := 97) hx hb dX7_whyNot_93 (by decide) ?_
    exact w_97 k63 hk63 x1 x2 x3 x5 1 _ _ hM hS _ (lv_sub hl [0, 1, 2, 3, 4] rfl) hf
  have w_63 : ∀ (k147 : Int32 → Int32 → Int32 → Int32 → Option (Int32)) (hk147 : ∀ (x2 x3 x4 s0 : Int32) (H : Heap) (locs : List Loc), va_P (dC, dI) vwCl (ob_ws shM ad cI cZ g) H → va_S (ob_A shM ad) s.heap H locs → ∀ (ls : Array Slot), lv_has ls 6 [(0, .ref (ad 0)), (2, .int x2), (3, .int x3), (4, .int x4)] → k147 x2 x3 x4 s0 = some r → W p l e (rmN d) s m args below meth c H locs 0 0 (MQ below (ob_Qi (dC, dI) vwCl shM ad cI cZ r g) args s 0 0 (ob_A shM ad)) (F0 m 147 ls [.int s0])) (n : Nat), ∀ (x1 x2 x3 x4 x5 : Int32) (H : Heap) (locs : List Loc), va_P (dC, dI) vwCl (ob_ws shM ad cI cZ g) H → va_S (ob_A shM ad) s.heap H locs → ∀ (ls : Array Slot), lv_has ls 6 [(0, .ref (ad 0)), (1, .int x1), (2, .int x2), (3, .int x3), (4, .int x4), (5, .int x5)] → f_X7_whyNot_L63 g k147 n x1 x2 x3 x4 x5 = some r → W p l e (rmN d) s m args below meth c H locs 0 0 (MQ below (ob_Qi (dC, dI) vwCl shM ad cI cZ r g) args s 0 0 (ob_A shM ad)) (F0 m 63 ls []) := by
    intro k147 hk147 n
    induction n with
    | zero =>
      intro x1 x2 x3 x4 x5 H locs hM hS ls hl hf
      cases hf
    | succ n ih =>
      intro x1 x2 x3 x4 x5 H locs hM hS ls hl hf
      unfold f_X7_whyNot_L63 at hf
      refine lv_iload hx hb dX7_whyNot_63 (lv_at hl 5 rfl) ?_
      refine lv_iload_n hx hb dX7_whyNot_65 rfl (lv_at hl 1 rfl) ?_
      refine lv_icmp_ge (tgt := 105) hx hb dX7_whyNot_66 (by decide) (fun c8 => ?_) (fun c8 => ?_)
      · rw [if_pos c8] at hf
        refine lv_iload_n hx hb dX7_whyNot_105 rfl (lv_at hl 1 rfl) ?_
        refine lv_if_le (tgt := 125) hx hb dX7_whyNot_106 (by decide) (fun c9 => ?_) (fun c9 => ?_)
        · rw [if_pos c9] at hf
          refine lv_aload_n hx hb dX7_whyNot_125 rfl (lv_at hl 0 rfl) ?_
          refine ob_gi hx hb hts in_own hown hK hM (q := 0) shM_0 (C := RX7) (T := TX7) (N := 18) rfl 0 (by decide) hf_67 rfl dX7_whyNot_126 ?_
          refine lv_iconst (v := 2) hx hb dX7_whyNot_129 (by decide) ?_
          refine lv_icmp_le (tgt := 145) hx hb dX7_whyNot_130 (by decide) (fun c10 => ?_) (fun c10 => ?_)
          · rw [if_pos c10] at hf
            refine lv_bipush (v := (-6)) hx hb dX7_whyNot_145 (by decide) ?_
            exact hk147 x2 x3 x4 (-6) _ _ hM hS _ (lv_sub hl [0, 2, 3, 4] rfl) hf
          · rw [if_neg c10] at hf
            refine lv_aload_n hx hb dX7_whyNot_133 rfl (lv_at hl 0 rfl) ?_
            refine ob_gr (j := 1) hx hb hts in_own hown hK hM (q := 0) shM_0 (C := RX7) (T := TX7) (N := 18) rfl 1 (by decide) hf_7 rfl dX7_whyNot_134 ?_
            refine lv_iconst (v := 2) hx hb dX7_whyNot_137 (by decide) ?_
            obtain ⟨v11, e11, hf⟩ := ob_e1 hf
            refine ob_iald hx hb hK hM (q := 1) (n := 40) shM_1 e11 dX7_whyNot_138 ?_
            refine lv_bipush (v := 48) hx hb dX7_whyNot_139 (by decide) ?_
            refine lv_isub hx hb dX7_whyNot_141 ?_
            refine lv_goto (tgt := 147) hx hb dX7_whyNot_142 (by decide) ?_
            exact hk147 x2 x3 x4 (v11 - 48) _ _ hM hS _ (lv_sub hl [0, 2, 3, 4] rfl) hf
        · rw [if_neg c9] at hf
          refine lv_aload_n hx hb dX7_whyNot_109 rfl (lv_at hl 0 rfl) ?_
          refine ob_gr (j := 1) hx hb hts in_own hown hK hM (q := 0) shM_0 (C := RX7) (T := TX7) (N := 18) rfl 1 (by decide) hf_7 rfl dX7_whyNot_110 ?_
          refine lv_iconst (v := 2) hx hb dX7_whyNot_113 (by decide) ?_
          refine lv_iload_n hx hb dX7_whyNot_114 rfl (lv_at hl 1 rfl) ?_
          refine lv_imul hx hb dX7_whyNot_115 ?_
          refine lv_iconst (v := 2) hx hb dX7_whyNot_116 (by decide) ?_
          refine lv_isub hx hb dX7_whyNot_117 ?_
          obtain ⟨v12, e12, hf⟩ := ob_e1 hf
          refine ob_iald hx hb hK hM (q := 1) (n := 40) shM_1 e12 dX7_whyNot_118 ?_
          refine lv_bipush (v := 48) hx hb dX7_whyNot_119 (by decide) ?_
          refine lv_isub hx hb dX7_whyNot_121 ?_
          refine lv_goto (tgt := 147) hx hb dX7_whyNot_122 (by decide) ?_
          exact hk147 x2 x3 x4 (v12 - 48) _ _ hM hS _ (lv_sub hl [0, 2, 3, 4] rfl) hf
      · rw [if_neg c8] at hf
        refine lv_iload hx hb dX7_whyNot_69 (lv_at hl 4 rfl) ?_
        refine lv_if_ne (tgt := 92) hx hb dX7_whyNot_71 (by decide) (fun c13 => ?_) (fun c13 => ?_)
        · rw [if_neg c13] at hf
          exact w_92 (f_X7_whyNot_L63 g k147 n) ih x1 x2 x3 x5 _ _ hM hS _ (lv_sub hl [0, 1, 2, 3, 5] rfl) hf
        · rw [if_pos c13] at hf
          refine lv_aload_n hx hb dX7_whyNot_74 rfl (lv_at hl 0 rfl) ?_
          refine ob_gr (j := 1) hx hb hts in_own hown hK hM (q := 0) shM_0 (C := RX7) (T := TX7) (N := 18) rfl 1 (by decide) hf_7 rfl dX7_whyNot_75 ?_
          refine lv_iconst (v := 2) hx hb dX7_whyNot_78 (by decide) ?_
          refine lv_iload hx hb dX7_whyNot_79 (lv_at hl 5 rfl) ?_
          refine lv_imul hx hb dX7_whyNot_81 ?_
          refine lv_iconst (v := 1) hx hb dX7_whyNot_82 (by decide) ?_
          refine lv_iadd hx hb dX7_whyNot_83 ?_
          obtain ⟨v14, e14, hf⟩ := ob_e1 hf
          refine ob_iald hx hb hK hM (q := 1) (n := 40) shM_1 e14 dX7_whyNot_84 ?_
          refine lv_bipush (v := 97) hx hb dX7_whyNot_85 (by decide) ?_
          refine lv_isub hx hb dX7_whyNot_87 ?_
          refine lv_iload_n hx hb dX7_whyNot_88 rfl (lv_at hl 3 rfl) ?_
          refine lv_icmp_ne (tgt := 96) hx hb dX7_whyNot_89 (by decide) (fun c15 => ?_) (fun c15 => ?_)
          · rw [if_neg c15] at hf
            refine lv_iconst (v := 0) hx hb dX7_whyNot_96 (by decide) ?_
            exact w_97 (f_X7_whyNot_L63 g k147 n) ih x1 x2 x3 x5 0 _ _ hM hS _ (lv_sub hl [0, 1, 2, 3, 5] rfl) hf
          · rw [if_pos c15] at hf
            exact w_92 (f_X7_whyNot_L63 g k147 n) ih x1 x2 x3 x5 _ _ hM hS _ (lv_sub hl [0, 1, 2, 3, 5] rfl) hf
  have w_180 : ∀ (x2 x3 : Int32) (H : Heap) (locs : List Loc), va_P (dC, dI) vwCl (ob_ws shM ad cI cZ g) H → va_S (ob_A shM ad) s.heap H locs → ∀ (ls : Array Slot), lv_has ls 6 [(0, .ref (ad 0)), (2, .int x2), (3, .int x3)] → f_X7_whyNot_J180 g x2 x3 = some r → W p l e (rmN d) s m args below meth c H locs 0 0 (MQ below (ob_Qi (dC, dI) vwCl shM ad cI cZ r g) args s 0 0 (ob_A shM ad)) (F0 m 180 ls []) := by
    intro x2 x3 H locs hM hS ls hl hf
    unfold f_X7_whyNot_J180 at hf
    refine lv_aload_n hx hb dX7_whyNot_180 rfl (lv_at hl 0 rfl) ?_
    refine ob_gr (j := 5) hx hb hts in_own hown hK hM (q := 0) shM_0 (C := RX7) (T := TX7) (N := 18) rfl 5 (by decide) hf_22 rfl dX7_whyNot_181 ?_
    refine lv_iload_n hx hb dX7_whyNot_184 rfl (lv_at hl 1 rfl) ?_
    obtain ⟨v21, e21, hf⟩ := ob_e1 hf
    refine ob_iald hx hb hK hM (q := 5) (n := 5) shM_5 e21 dX7_whyNot_185 ?_
    refine lv_iload_n hx hb dX7_whyNot_186 rfl (lv_at hl 2 rfl) ?_
    obtain ⟨v22, e22, hf⟩ := ob_e1 hf
    refine ob_calli (va_runS (As := [.int v21, .int x3]) (rest := []) ⟨hx, hb, hml, hown, hts⟩ (c_X7_has l dC dI ad cI cZ hI 0 (Nat.le_refl _) g v21 x3  v22 e22) (va_cwS 2 hts gX7_whyNot_X7_has rfl rfl rfl hd_X7_has (ob_R (Nat.le_trans (by decide) hd) (by decide))) (ob_preS hK hM) rfl rfl hl.1 rfl (lv_room (Nat.le_of_ble_eq_true rfl)) dX7_whyNot_187 ⟨Nat.le_refl _, Nat.le_refl _⟩) hS (fun H locs hM hS => ?_)
    refine lv_if_eq (tgt := 197) hx hb dX7_whyNot_190 (by decide) (fun c23 => ?_) (fun c23 => ?_)
    · rw [if_pos c23] at hf
      refine lv_iconst (v := 4) hx hb dX7_whyNot_197 (by decide) ?_
      exact ob_iretR hx hb hr hlocks hM hS (v := 4) rfl hf dX7_whyNot_198
    · rw [if_neg c23] at hf
      refine lv_iconst (v := 0) hx hb dX7_whyNot_193 (by decide) ?_
      refine lv_goto (tgt := 198) hx hb dX7_whyNot_194 (by decide) ?_
      exact ob_iretR hx hb hr hlocks hM hS (v := 0) rfl hf dX7_whyNot_198
  have w_147 : ∀ (x2 x3 x4 s0 : Int32) (H : Heap) (locs : List Loc), va_P (dC, dI) vwCl (ob_ws shM ad cI cZ g) H → va_S (ob_A shM ad) s.heap H locs → ∀ (ls : Array Slot), lv_has ls 6 [(0, .ref (ad 0)), (2, .int x2), (3, .int x3), (4, .int x4)] → f_X7_whyNot_J147 g x2 x3 x4 s0 = some r → W p l e (rmN d) s m args below meth c H locs 0 0 (MQ below (ob_Qi (dC, dI) vwCl shM ad cI cZ r g) args s 0 0 (ob_A shM ad)) (F0 m 147 ls [.int s0]) := by
    intro x2 x3 x4 s0 H locs hM hS ls hl hf
    unfold f_X7_whyNot_J147 at hf
    refine lv_istore (lv' := [(5, .int s0), (0, .ref (ad 0)), (2, .int x2), (3, .int x3), (4, .int x4)]) hx hb dX7_whyNot_147 hl (by decide) rfl (fun ls hl => ?_)
    refine lv_iload hx hb dX7_whyNot_149 (lv_at hl 4 rfl) ?_
    refine lv_if_eq (tgt := 158) hx hb dX7_whyNot_151 (by decide) (fun c16 => ?_) (fun c16 => ?_)
    · rw [if_pos c16] at hf
      refine lv_iload hx hb dX7_whyNot_158 (lv_at hl 0 rfl) ?_
      refine lv_if_lt (tgt := 180) hx hb dX7_whyNot_160 (by decide) (fun c17 => ?_) (fun c17 => ?_)
      · rw [if_pos c17] at hf
        exact w_180 x2 x3 _ _ hM hS _ (lv_sub hl [1, 2, 3] rfl) hf
      · rw [if_neg c17] at hf
        refine lv_aload_n hx hb dX7_whyNot_163 rfl (lv_at hl 1 rfl) ?_
        refine lv_iload hx hb dX7_whyNot_164 (lv_at hl 0 rfl) ?_
        obtain ⟨v18, e18, hf⟩ := ob_e1 hf
        refine ob_calli (va_runV (As := [.int s0]) (rest := []) ⟨hx, hb, hml, hown, hts⟩ (c_X7_fitOf l dC dI ad cI cZ hI 0 (Nat.le_refl _) g s0  v18 e18) (cwV 1 hts gX7_whyNot_X7_fitOf rfl rfl rfl ⟨rfl, hd_X7_fitOf⟩ (ob_R (Nat.le_trans (by decide) hd) (by decide))) (ob_preV hK hM (q := 0) shM_0 rfl) rfl rfl hl.1 rfl (lv_room (Nat.le_of_ble_eq_true rfl)) dX7_whyNot_166 ⟨Nat.le_refl _, Nat.le_refl _⟩) hS (fun H locs hM hS => ?_)
        refine lv_iload_n hx hb dX7_whyNot_169 rfl (lv_at hl 3 rfl) ?_
        obtain ⟨v19, e19, hf⟩ := ob_e1 hf
        refine ob_calli (va_runS (As := [.int v18, .int x3]) (rest := []) ⟨hx, hb, hml, hown, hts⟩ (c_X7_has l dC dI ad cI cZ hI 0 (Nat.le_refl _) g v18 x3  v19 e19) (va_cwS 2 hts gX7_whyNot_X7_has rfl rfl rfl hd_X7_has (ob_R (Nat.le_trans (by decide) hd) (by decide))) (ob_preS hK hM) rfl rfl hl.1 rfl (lv_room (Nat.le_of_ble_eq_true rfl)) dX7_whyNot_170 ⟨Nat.le_refl _, Nat.le_refl _⟩) hS (fun H locs hM hS => ?_)
        refine lv_if_ne (tgt := 180) hx hb dX7_whyNot_173 (by decide) (fun c20 => ?_) (fun c20 => ?_)
        · rw [if_neg c20] at hf
          exact w_180 x2 x3 _ _ hM hS _ (lv_sub hl [1, 2, 3] rfl) hf
        · rw [if_pos c20] at hf
          refine lv_iconst (v := 3) hx hb dX7_whyNot_176 (by decide) ?_
          refine lv_goto (tgt := 198) hx hb dX7_whyNot_177 (by decide) ?_
          exact ob_iretR hx hb hr hlocks hM hS (v := 3) rfl hf dX7_whyNot_198
    · rw [if_neg c16] at hf
      refine lv_iconst (v := 2) hx hb dX7_whyNot_154 (by decide) ?_
      refine lv_goto (tgt := 198) hx hb dX7_whyNot_155 (by decide) ?_
      exact ob_iretR hx hb hr hlocks hM hS (v := 2) rfl hf dX7_whyNot_198
  have w_57 : ∀ (x1 x2 x3 : Int32) (H : Heap) (locs : List Loc), va_P (dC, dI) vwCl (ob_ws shM ad cI cZ g) H → va_S (ob_A shM ad) s.heap H locs → ∀ (ls : Array Slot), lv_has ls 6 [(0, .ref (ad 0)), (1, .int x1), (2, .int x2), (3, .int x3)] → f_X7_whyNot_J57 g x1 x2 x3 = some r → W p l e (rmN d) s m args below meth c H locs 0 0 (MQ below (ob_Qi (dC, dI) vwCl shM ad cI cZ r g) args s 0 0 (ob_A shM ad)) (F0 m 57 ls []) := by
    intro x1 x2 x3 H locs hM hS ls hl hf
    unfold f_X7_whyNot_J57 at hf
    refine lv_iconst (v := 0) hx hb dX7_whyNot_57 (by decide) ?_
    refine lv_istore (lv' := [(4, .int 0), (0, .ref (ad 0)), (1, .int x1), (2, .int x2), (3, .int x3)]) hx hb dX7_whyNot_58 hl (by decide) rfl (fun ls hl => ?_)
    refine lv_iconst (v := 0) hx hb dX7_whyNot_60 (by decide) ?_
    refine lv_istore (lv' := [(5, .int 0), (4, .int 0), (0, .ref (ad 0)), (1, .int x1), (2, .int x2), (3, .int x3)]) hx hb dX7_whyNot_61 hl (by decide) rfl (fun ls hl => ?_)
    exact w_63 (f_X7_whyNot_J147 g) (w_147) FU x1 x2 x3 0 0 _ _ hM hS _ (lv_sub hl [2, 3, 4, 5, 1, 0] rfl) hf
  subst ha
  have hl := lv_entry ([.ref (ad 0), .int x1]) (n := 6) (Nat.le_of_ble_eq_true rfl)
  rw [lg_entry_eq]
  generalize (lg_sl ([.ref (ad 0), .int x1]) ++ List.replicate (6 - (lg_sl ([.ref (ad 0), .int x1])).length) Slot.unset).toArray = ls at hl ⊢
  have hl : lv_has ls 6 [(0, .ref (ad 0)), (1, .int x1)] := hl
  have hM := hM0
  have hS := hS0
  unfold f_X7_whyNot at hf
  refine lv_aload_n hx hb dX7_whyNot_0 rfl (lv_at hl 0 rfl) ?_
  refine ob_gr (j := 1) hx hb hts in_own hown hK hM (q := 0) shM_0 (C := RX7) (T := TX7) (N := 18) rfl 1 (by decide) hf_7 rfl dX7_whyNot_1 ?_
  refine lv_iconst (v := 2) hx hb dX7_whyNot_4 (by decide) ?_
  refine lv_iload_n hx hb dX7_whyNot_5 rfl (lv_at hl 1 rfl) ?_
  refine lv_imul hx hb dX7_whyNot_6 ?_
  obtain ⟨v1, e1, hf⟩ := ob_e1 hf
  refine ob_iald hx hb hK hM (q := 1) (n := 40) shM_1 e1 dX7_whyNot_7 ?_
  refine lv_bipush (v := 48) hx hb dX7_whyNot_8 (by decide) ?_
  refine lv_isub hx hb dX7_whyNot_10 ?_
  refine lv_istore_n (lv' := [(2, .int (v1 - 48)), (0, .ref (ad 0)), (1, .int x1)]) hx hb dX7_whyNot_11 rfl hl (by decide) rfl (fun ls hl => ?_)
  refine lv_aload_n hx hb dX7_whyNot_12 rfl (lv_at hl 1 rfl) ?_
  refine ob_gr (j := 1) hx hb hts in_own hown hK hM (q := 0) shM_0 (C := RX7) (T := TX7) (N := 18) rfl 1 (by decide) hf_7 rfl dX7_whyNot_13 ?_
  refine lv_iconst (v := 2) hx hb dX7_whyNot_16 (by decide) ?_
  refine lv_iload_n hx hb dX7_whyNot_17 rfl (lv_at hl 2 rfl) ?_
  refine lv_imul hx hb dX7_whyNot_18 ?_
  refine lv_iconst (v := 1) hx hb dX7_whyNot_19 (by decide) ?_
  refine lv_iadd hx hb dX7_whyNot_20 ?_
  obtain ⟨v2, e2, hf⟩ := ob_e1 hf
  refine ob_iald hx hb hK hM (q := 1) (n := 40) shM_1 e2 dX7_whyNot_21 ?_
  refine lv_bipush (v := 97) hx hb dX7_whyNot_22 (by decide) ?_
  refine lv_isub hx hb dX7_whyNot_24 ?_
  refine lv_istore_n (lv' := [(3, .int (v2 - 97)), (2, .int (v1 - 48)), (0, .ref (ad 0)), (1, .int x1)]) hx hb dX7_whyNot_25 rfl hl (by decide) rfl (fun ls hl => ?_)
  refine lv_iload_n hx hb dX7_whyNot_26 rfl (lv_at hl 3 rfl) ?_
  refine lv_if_le (tgt := 57) hx hb dX7_whyNot_27 (by decide) (fun c3 => ?_) (fun c3 => ?_)
  · rw [if_pos c3] at hf
    exact w_57 x1 (v1 - 48) (v2 - 97) _ _ hM hS _ (lv_sub hl [2, 3, 1, 0] rfl) hf
  · rw [if_neg c3] at hf
    refine lv_aload_n hx hb dX7_whyNot_30 rfl (lv_at hl 2 rfl) ?_
    refine ob_gr (j := 2) hx hb hts in_own hown hK hM (q := 0) shM_0 (C := RX7) (T := TX7) (N := 18) rfl 2 (by decide) hf_13 rfl dX7_whyNot_31 ?_
    refine lv_aload_n hx hb dX7_whyNot_34 rfl (lv_at hl 2 rfl) ?_
    refine ob_gr (j := 1) hx hb hts in_own hown hK hM (q := 0) shM_0 (C := RX7) (T := TX7) (N := 18) rfl 1 (by decide) hf_7 rfl dX7_whyNot_35 ?_
    refine lv_iconst (v := 2) hx hb dX7_whyNot_38 (by decide) ?_
    refine lv_iload_n hx hb dX7_whyNot_39 rfl (lv_at hl 3 rfl) ?_
    refine lv_imul hx hb dX7_whyNot_40 ?_
    refine lv_iconst (v := 1) hx hb dX7_whyNot_41 (by decide) ?_
    refine lv_isub hx hb dX7_whyNot_42 ?_
    obtain ⟨v4, e4, hf⟩ := ob_e1 hf
    refine ob_iald hx hb hK hM (q := 1) (n := 40) shM_1 e4 dX7_whyNot_43 ?_
    refine lv_bipush (v := 97) hx hb dX7_whyNot_44 (by decide) ?_
    refine lv_isub hx hb dX7_whyNot_46 ?_
    obtain ⟨v5, e5, hf⟩ := ob_e1 hf
    refine ob_iald hx hb hK hM (q := 2) (n := 10) shM_2 e5 dX7_whyNot_47 ?_
    refine lv_iload_n hx hb dX7_whyNot_48 rfl (lv_at hl 0 rfl) ?_
    obtain ⟨v6, e6, hf⟩ := ob_e1 hf
    refine ob_calli (va_runS (As := [.int v5, .int (v2 - 97)]) (rest := []) ⟨hx, hb, hml, hown, hts⟩ (c_X7_has l dC dI ad cI cZ hI 0 (Nat.le_refl _) g v5 (v2 - 97)  v6 e6) (va_cwS 2 hts gX7_whyNot_X7_has rfl rfl rfl hd_X7_has (ob_R (Nat.le_trans (by decide) hd) (by decide))) (ob_preS hK hM) rfl rfl hl.1 rfl (lv_room (Nat.le_of_ble_eq_true rfl)) dX7_whyNot_49 ⟨Nat.le_refl _, Nat.le_refl _⟩) hS (fun H locs hM hS => ?_)
    refine lv_if_ne (tgt := 57) hx hb dX7_whyNot_52 (by decide) (fun c7 => ?_) (fun c7 => ?_)
    · rw [if_neg c7] at hf
      exact w_57 x1 (v1 - 48) (v2 - 97) _ _ hM hS _ (lv_sub hl [2, 3, 1, 0] rfl) hf
    · rw [if_pos c7] at hf
      refine lv_iconst (v := 1) hx hb dX7_whyNot_55 (by decide) ?_
      exact ob_iretR hx hb hr hlocks hM hS (v := 1) rfl hf dX7_whyNot_56
set_option maxHeartbeats 4000000 in
set_option maxRecDepth 100000 in
theorem c_X7_judge (l : Launch) (dC : Nat → ClassId) (dI : Nat → Nat → Nat) (ad : Nat → Nat) (cI cZ : ClassId) (hI : ob_inj shM ad) (d : Nat) (hd : 3 ≤ d) (g : Mm) (x1 : Int32) (r : Int32) (hf : f_X7_judge g x1 = some r) : ob_Mi l yX7_judge wsX7_judge d (dC, dI) vwCl shM ad cI cZ nwM [.ref (ad 0), .int x1] g r g := by
  refine ob_ofW (cc := cX7_judge) (maxL := 4) (ret := (some .int)) (by decide) rfl ?_
  intro p e s m args below meth c ha hx hb hr hml hts hown hlocks hM0 hK hS0
  have hown : s.vm.findClass RX7 = some m.cls := hown
  have in_own : ∀ w ∈ wsX70, w ∈ wsX7_judge := fun w h => (List.mem_cons_of_mem _ (List.mem_append_right _ h))
  have hf_67 := hts (.fieldLink RX7 67 "OneWorseModel" "signs" "I") (List.mem_cons_of_mem _ (List.mem_append_left _ (List.mem_append_left _ (List.mem_of_getElem? (i := 0) rfl))))
  have w_24 : ∀ (n : Nat), ∀ (x1 x2 : Int32) (H : Heap) (locs : List Loc), va_P (dC, dI) vwCl (ob_ws shM ad cI cZ g) H → va_S (ob_A shM ad) s.heap H locs → ∀ (ls : Array Slot), lv_has ls 4 [(0, .ref (ad 0)), (1, .int x1), (2, .int x2)] → f_X7_judge_L24 g n x1 x2 = some r → W p l e (rmN d) s m args below meth c H locs 0 0 (MQ below (ob_Qi (dC, dI) vwCl shM ad cI cZ r g) args s 0 0 (ob_A shM ad)) (F0 m 24 ls []) := by
    intro n
    induction n with
    | zero =>
      intro x1 x2 H locs hM hS ls hl hf
      cases hf
    | succ n ih =>
      intro x1 x2 H locs hM hS ls hl hf
      unfold f_X7_judge_L24 at hf
      refine lv_iconst (v := 2) hx hb dX7_judge_24 (by decide) ?_
      refine lv_iload_n hx hb dX7_judge_25 rfl (lv_at hl 2 rfl) ?_
      refine lv_imul hx hb dX7_judge_26 ?_
      refine lv_aload_n hx hb dX7_judge_27 rfl (lv_at hl 0 rfl) ?_
      refine ob_gi hx hb hts in_own hown hK hM (q := 0) shM_0 (C := RX7) (T := TX7) (N := 18) rfl 0 (by decide) hf_67 rfl dX7_judge_28 ?_
      refine lv_icmp_ge (tgt := 60) hx hb dX7_judge_31 (by decide) (fun c5 => ?_) (fun c5 => ?_)
      · rw [if_pos c5] at hf
        refine lv_bipush (v := (-6)) hx hb dX7_judge_60 (by decide) ?_
        exact ob_iretR hx hb hr hlocks hM hS (v := (-6)) rfl hf dX7_judge_62
      · rw [if_neg c5] at hf
        refine lv_aload_n hx hb dX7_judge_34 rfl (lv_at hl 0 rfl) ?_
        refine lv_iload_n hx hb dX7_judge_35 rfl (lv_at hl 2 rfl) ?_
        obtain ⟨v6, e6, hf⟩ := ob_e1 hf
        refine ob_calli (va_runV (As := [.int x2]) (rest := []) ⟨hx, hb, hml, hown, hts⟩ (c_X7_whyNot l dC dI ad cI cZ hI 1 (Nat.le_refl _) g x2  v6 e6) (cwV 1 hts gX7_judge_X7_whyNot rfl rfl rfl ⟨rfl, hd_X7_whyNot⟩ (ob_R (Nat.le_trans (by decide) hd) (by decide))) (ob_preV hK hM (q := 0) shM_0 rfl) rfl rfl hl.1 rfl (lv_room (Nat.le_of_ble_eq_true rfl)) dX7_judge_36 ⟨Nat.le_refl _, Nat.le_refl _⟩) hS (fun H locs hM hS => ?_)
        refine lv_istore_n (lv' := [(3, .int v6), (0, .ref (ad 0)), (1, .int x1), (2, .int x2)]) hx hb dX7_judge_39 rfl hl (by decide) rfl (fun ls hl => ?_)
        refine lv_iload_n hx hb dX7_judge_40 rfl (lv_at hl 0 rfl) ?_
        refine lv_if_le (tgt := 54) hx hb dX7_judge_41 (by decide) (fun c7 => ?_) (fun c7 => ?_)
        · rw [if_pos c7] at hf
          refine lv_iinc (v := (x2 + 1)) (lv' := [(2, .int (x2 + 1)), (3, .int v6), (0, .ref (ad 0)), (1, .int x1)]) hx hb dX7_judge_54 hl (k := 3) rfl rfl (by decide) rfl (fun ls hl => ?_)
          refine lv_goto (tgt := 24) hx hb dX7_judge_57 (by decide) ?_
          exact ih x1 (x2 + 1) _ _ hM hS _ (lv_sub hl [2, 3, 0] rfl) hf
        · rw [if_neg c7] at hf
          refine lv_iload_n hx hb dX7_judge_44 rfl (lv_at hl 2 rfl) ?_
          refine lv_if_ne (tgt := 52) hx hb dX7_judge_45 (by decide) (fun c8 => ?_) (fun c8 => ?_)
          · rw [if_neg c8] at hf
            refine lv_iload_n hx hb dX7_judge_52 rfl (lv_at hl 0 rfl) ?_
            exact ob_iretR hx hb hr hlocks hM hS (v := v6) rfl hf dX7_judge_53
          · rw [if_pos c8] at hf
            refine lv_iload_n hx hb dX7_judge_48 rfl (lv_at hl 3 rfl) ?_
            refine lv_goto (tgt := 53) hx hb dX7_judge_49 (by decide) ?_
            exact ob_iretR hx hb hr hlocks hM hS (v := x2) rfl hf dX7_judge_53
  subst ha
  have hl := lv_entry ([.ref (ad 0), .int x1]) (n := 4) (Nat.le_of_ble_eq_true rfl)
  rw [lg_entry_eq]
  generalize (lg_sl ([.ref (ad 0), .int x1]) ++ List.replicate (4 - (lg_sl ([.ref (ad 0), .int x1])).length) Slot.unset).toArray = ls at hl ⊢
  have hl : lv_has ls 4 [(0, .ref (ad 0)), (1, .int x1)] := hl
  have hM := hM0
  have hS := hS0
  unfold f_X7_judge at hf
  refine lv_iload_n hx hb dX7_judge_0 rfl (lv_at hl 1 rfl) ?_
  refine lv_iconst (v := 0) hx hb dX7_judge_1 (by decide) ?_
  refine lv_iconst (v := 1) hx hb dX7_judge_2 (by decide) ?_
  obtain ⟨v1, e1, hf⟩ := ob_e1 hf
  refine ob_calli (va_runS (As := [.int x1, .int 0, .int 1]) (rest := []) ⟨hx, hb, hml, hown, hts⟩ (c_X7_in l dC dI ad cI cZ hI 0 (Nat.le_refl _) g x1 0 1  v1 e1) (va_cwS 3 hts gX7_judge_X7_in rfl rfl rfl hd_X7_in (ob_R (Nat.le_trans (by decide) hd) (by decide))) (ob_preS hK hM) rfl rfl hl.1 rfl (lv_room (Nat.le_of_ble_eq_true rfl)) dX7_judge_3 ⟨Nat.le_refl _, Nat.le_refl _⟩) hS (fun H locs hM hS => ?_)
  refine lv_if_ne (tgt := 12) hx hb dX7_judge_6 (by decide) (fun c2 => ?_) (fun c2 => ?_)
  · rw [if_neg c2] at hf
    refine lv_aload_n hx hb dX7_judge_12 rfl (lv_at hl 0 rfl) ?_
    obtain ⟨v3, e3, hf⟩ := ob_e1 hf
    refine ob_calli (va_runV (As := []) (rest := []) ⟨hx, hb, hml, hown, hts⟩ (c_X7_quarrelFault l dC dI ad cI cZ hI 2 (Nat.le_refl _) g  v3 e3) (cwV 0 hts gX7_judge_X7_quarrelFault rfl rfl rfl ⟨rfl, hd_X7_quarrelFault⟩ (ob_R (Nat.le_trans (by decide) hd) (by decide))) (ob_preV hK hM (q := 0) shM_0 rfl) rfl rfl hl.1 rfl (lv_room (Nat.le_of_ble_eq_true rfl)) dX7_judge_13 ⟨Nat.le_refl _, Nat.le_refl _⟩) hS (fun H locs hM hS => ?_)
    refine lv_if_lt (tgt := 22) hx hb dX7_judge_16 (by decide) (fun c4 => ?_) (fun c4 => ?_)
    · rw [if_pos c4] at hf
      refine lv_iconst (v := 0) hx hb dX7_judge_22 (by decide) ?_
      refine lv_istore_n (lv' := [(2, .int 0), (0, .ref (ad 0)), (1, .int x1)]) hx hb dX7_judge_23 rfl hl (by decide) rfl (fun ls hl => ?_)
      exact w_24 FU x1 0 _ _ hM hS _ (lv_sub hl [1, 2, 0] rfl) hf
    · rw [if_neg c4] at hf
      refine lv_bipush (v := (-5)) hx hb dX7_judge_19 (by decide) ?_
      exact ob_iretR hx hb hr hlocks hM hS (v := (-5)) rfl hf dX7_judge_21
  · rw [if_pos c2] at hf
    refine lv_bipush (v := (-2)) hx hb dX7_judge_9 (by decide) ?_
    exact ob_iretR hx hb hr hlocks hM hS (v := (-2)) rfl hf dX7_judge_11
set_option maxHeartbeats 4000000 in
set_option maxRecDepth 100000 in
theorem c_X7_at (l : Launch) (dC : Nat → ClassId) (dI : Nat → Nat → Nat) (ad : Nat → Nat) (cI cZ : ClassId) (hI : ob_inj shM ad) (d : Nat) (hd : 0 ≤ d) (g : Mm) (x0 x1 x2 : Int32) (r : Int32) (hf : f_X7_at x0 x1 x2 = some r) : ob_Mi l yX7_at wsX7_at d (dC, dI) vwCl shM ad cI cZ nwM [.int x0, .int x1, .int x2] g r g := by
  refine ob_ofW (cc := cX7_at) (maxL := 3) (ret := (some .int)) (by decide) rfl ?_
  intro p e s m args below meth c ha hx hb hr hml hts hown hlocks hM0 hK hS0
  have hown : s.vm.findClass RX7 = some m.cls := hown
  subst ha
  have hl := lv_entry ([.int x0, .int x1, .int x2]) (n := 3) (Nat.le_of_ble_eq_true rfl)
  rw [lg_entry_eq]
  generalize (lg_sl ([.int x0, .int x1, .int x2]) ++ List.replicate (3 - (lg_sl ([.int x0, .int x1, .int x2])).length) Slot.unset).toArray = ls at hl ⊢
  have hl : lv_has ls 3 [(0, .int x0), (1, .int x1), (2, .int x2)] := hl
  have hM := hM0
  have hS := hS0
  unfold f_X7_at at hf
  refine lv_bipush (v := 10) hx hb dX7_at_0 (by decide) ?_
  refine lv_iload_n hx hb dX7_at_2 rfl (lv_at hl 0 rfl) ?_
  refine lv_imul hx hb dX7_at_3 ?_
  refine lv_iload_n hx hb dX7_at_4 rfl (lv_at hl 1 rfl) ?_
  refine lv_iadd hx hb dX7_at_5 ?_
  refine lv_sipush (v := 1024) hx hb dX7_at_6 (by decide) ?_
  refine lv_imul hx hb dX7_at_9 ?_
  refine lv_iload_n hx hb dX7_at_10 rfl (lv_at hl 2 rfl) ?_
  refine lv_iadd hx hb dX7_at_11 ?_
  exact ob_iretR hx hb hr hlocks hM hS (v := ((((10 * x0) + x1) * 1024) + x2)) rfl hf dX7_at_12
set_option maxHeartbeats 4000000 in
set_option maxRecDepth 100000 in
theorem c_X7_isBetter (l : Launch) (dC : Nat → ClassId) (dI : Nat → Nat → Nat) (ad : Nat → Nat) (cI cZ : ClassId) (hI : ob_inj shM ad) (d : Nat) (hd : 0 ≤ d) (g : Mm) (x0 x1 x2 : Int32) (r : Int32) (hf : f_X7_isBetter x0 x1 x2 = some r) : ob_Mi l yX7_isBetter wsX7_isBetter d (dC, dI) vwCl shM ad cI cZ nwM [.int x0, .int x1, .int x2] g r g := by
  refine ob_ofW (cc := cX7_isBetter) (maxL := 5) (ret := (some .boolean)) (by decide) rfl ?_
  intro p e s m args below meth c ha hx hb hr hml hts hown hlocks hM0 hK hS0
  have hown : s.vm.findClass RX7 = some m.cls := hown
  have w_25 : ∀ (x1 x2 x3 s0 : Int32) (H : Heap) (locs : List Loc), va_P (dC, dI) vwCl (ob_ws shM ad cI cZ g) H → va_S (ob_A shM ad) s.heap H locs → ∀ (ls : Array Slot), lv_has ls 5 [(1, .int x1), (2, .int x2), (3, .int x3)] → f_X7_isBetter_J25 x1 x2 x3 s0 = some r → W p l e (rmN d) s m args below meth c H locs 0 0 (MQ below (ob_Qi (dC, dI) vwCl shM ad cI cZ r g) args s 0 0 (ob_A shM ad)) (F0 m 25 ls [.int s0]) := by
    intro x1 x2 x3 s0 H locs hM hS ls hl hf
    unfold f_X7_isBetter_J25 at hf
    refine lv_istore (lv' := [(4, .int s0), (1, .int x1), (2, .int x2), (3, .int x3)]) hx hb dX7_isBetter_25 hl (by decide) rfl (fun ls hl => ?_)
    refine lv_iload_n hx hb dX7_isBetter_27 rfl (lv_at hl 3 rfl) ?_
    refine lv_iload hx hb dX7_isBetter_28 (lv_at hl 0 rfl) ?_
    refine lv_icmp_eq (tgt := 38) hx hb dX7_isBetter_30 (by decide) (fun c3 => ?_) (fun c3 => ?_)
    · rw [if_pos c3] at hf
      refine lv_iload_n hx hb dX7_isBetter_38 rfl (lv_at hl 3 rfl) ?_
      refine lv_if_eq (tgt := 55) hx hb dX7_isBetter_39 (by decide) (fun c4 => ?_) (fun c4 => ?_)
      · rw [if_pos c4] at hf
        refine lv_iload_n hx hb dX7_isBetter_55 rfl (lv_at hl 1 rfl) ?_
        refine lv_iload_n hx hb dX7_isBetter_56 rfl (lv_at hl 2 rfl) ?_
        refine lv_icmp_ge (tgt := 64) hx hb dX7_isBetter_57 (by decide) (fun c5 => ?_) (fun c5 => ?_)
        · rw [if_pos c5] at hf
          refine lv_iconst (v := 0) hx hb dX7_isBetter_64 (by decide) ?_
          exact ob_iretR hx hb hr hlocks hM hS (v := 0) rfl hf dX7_isBetter_65
        · rw [if_neg c5] at hf
          refine lv_iconst (v := 1) hx hb dX7_isBetter_60 (by decide) ?_
          refine lv_goto (tgt := 65) hx hb dX7_isBetter_61 (by decide) ?_
          exact ob_iretR hx hb hr hlocks hM hS (v := 1) rfl hf dX7_isBetter_65
      · rw [if_neg c4] at hf
        refine lv_iload_n hx hb dX7_isBetter_42 rfl (lv_at hl 1 rfl) ?_
        refine lv_iload_n hx hb dX7_isBetter_43 rfl (lv_at hl 2 rfl) ?_
        refine lv_icmp_le (tgt := 51) hx hb dX7_isBetter_44 (by decide) (fun c6 => ?_) (fun c6 => ?_)
        · rw [if_pos c6] at hf
          refine lv_iconst (v := 0) hx hb dX7_isBetter_51 (by decide) ?_
          refine lv_goto (tgt := 65) hx hb dX7_isBetter_52 (by decide) ?_
          exact ob_iretR hx hb hr hlocks hM hS (v := 0) rfl hf dX7_isBetter_65
        · rw [if_neg c6] at hf
          refine lv_iconst (v := 1) hx hb dX7_isBetter_47 (by decide) ?_
          refine lv_goto (tgt := 65) hx hb dX7_isBetter_48 (by decide) ?_
          exact ob_iretR hx hb hr hlocks hM hS (v := 1) rfl hf dX7_isBetter_65
    · rw [if_neg c3] at hf
      refine lv_iload hx hb dX7_isBetter_33 (lv_at hl 0 rfl) ?_
      refine lv_goto (tgt := 65) hx hb dX7_isBetter_35 (by decide) ?_
      obtain ⟨u7, e7, hf⟩ := ob_e1 hf
      exact ob_iretR hx hb hr hlocks hM hS (v := s0) (ob_zb_in e7) hf dX7_isBetter_65
  have w_12 : ∀ (x0 x1 x2 s0 : Int32) (H : Heap) (locs : List Loc), va_P (dC, dI) vwCl (ob_ws shM ad cI cZ g) H → va_S (ob_A shM ad) s.heap H locs → ∀ (ls : Array Slot), lv_has ls 5 [(0, .int x0), (1, .int x1), (2, .int x2)] → f_X7_isBetter_J12 x0 x1 x2 s0 = some r → W p l e (rmN d) s m args below meth c H locs 0 0 (MQ below (ob_Qi (dC, dI) vwCl shM ad cI cZ r g) args s 0 0 (ob_A shM ad)) (F0 m 12 ls [.int s0]) := by
    intro x0 x1 x2 s0 H locs hM hS ls hl hf
    unfold f_X7_isBetter_J12 at hf
    refine lv_istore_n (lv' := [(3, .int s0), (0, .int x0), (1, .int x1), (2, .int x2)]) hx hb dX7_isBetter_12 rfl hl (by decide) rfl (fun ls hl => ?_)
    refine lv_iload_n hx hb dX7_isBetter_13 rfl (lv_at hl 3 rfl) ?_
    refine lv_iconst (v := 2) hx hb dX7_isBetter_14 (by decide) ?_
    refine lv_irem hx hb dX7_isBetter_15 (by decide) ?_
    refine lv_iload_n hx hb dX7_isBetter_16 rfl (lv_at hl 1 rfl) ?_
    refine lv_icmp_ne (tgt := 24) hx hb dX7_isBetter_17 (by decide) (fun c2 => ?_) (fun c2 => ?_)
    · rw [if_neg c2] at hf
      refine lv_iconst (v := 0) hx hb dX7_isBetter_24 (by decide) ?_
      exact w_25 x1 x2 s0 0 _ _ hM hS _ (lv_sub hl [2, 3, 0] rfl) hf
    · rw [if_pos c2] at hf
      refine lv_iconst (v := 1) hx hb dX7_isBetter_20 (by decide) ?_
      refine lv_goto (tgt := 25) hx hb dX7_isBetter_21 (by decide) ?_
      exact w_25 x1 x2 s0 1 _ _ hM hS _ (lv_sub hl [2, 3, 0] rfl) hf
  subst ha
  have hl := lv_entry ([.int x0, .int x1, .int x2]) (n := 5) (Nat.le_of_ble_eq_true rfl)
  rw [lg_entry_eq]
  generalize (lg_sl ([.int x0, .int x1, .int x2]) ++ List.replicate (5 - (lg_sl ([.int x0, .int x1, .int x2])).length) Slot.unset).toArray = ls at hl ⊢
  have hl : lv_has ls 5 [(0, .int x0), (1, .int x1), (2, .int x2)] := hl
  have hM := hM0
  have hS := hS0
  unfold f_X7_isBetter at hf
  refine lv_iload_n hx hb dX7_isBetter_0 rfl (lv_at hl 1 rfl) ?_
  refine lv_iconst (v := 2) hx hb dX7_isBetter_1 (by decide) ?_
  refine lv_irem hx hb dX7_isBetter_2 (by decide) ?_
  refine lv_iload_n hx hb dX7_isBetter_3 rfl (lv_at hl 0 rfl) ?_
  refine lv_icmp_ne (tgt := 11) hx hb dX7_isBetter_4 (by decide) (fun c1 => ?_) (fun c1 => ?_)
  · rw [if_neg c1] at hf
    refine lv_iconst (v := 0) hx hb dX7_isBetter_11 (by decide) ?_
    exact w_12 x0 x1 x2 0 _ _ hM hS _ (lv_sub hl [0, 1, 2] rfl) hf
  · rw [if_pos c1] at hf
    refine lv_iconst (v := 1) hx hb dX7_isBetter_7 (by decide) ?_
    refine lv_goto (tgt := 12) hx hb dX7_isBetter_8 (by decide) ?_
    exact w_12 x0 x1 x2 1 _ _ hM hS _ (lv_sub hl [0, 1, 2] rfl) hf
set_option maxHeartbeats 4000000 in
set_option maxRecDepth 100000 in
theorem c_X7_bestOf (l : Launch) (dC : Nat → ClassId) (dI : Nat → Nat → Nat) (ad : Nat → Nat) (cI cZ : ClassId) (hI : ob_inj shM ad) (d : Nat) (hd : 1 ≤ d) (g : Mm) (x1 x2 x3 : Int32) (r : Int32) (t : Mm) (hf : f_X7_bestOf g x1 x2 x3 = some (r, t)) : ob_Mi l yX7_bestOf wsX7_bestOf d (dC, dI) vwCl shM ad cI cZ nwM [.ref (ad 0), .int x1, .int x2, .int x3] g r t := by
  refine ob_ofW (cc := cX7_bestOf) (maxL := 7) (ret := (some .int)) (by decide) rfl ?_
  intro p e s m args below meth c ha hx hb hr hml hts hown hlocks hM0 hK hS0
  have hown : s.vm.findClass RX7 = some m.cls := hown
  have in_own : ∀ w ∈ wsX70, w ∈ wsX7_bestOf := fun w h => (List.mem_cons_of_mem _ (List.mem_append_right _ h))
  have hf_101 := hts (.fieldLink RX7 101 "OneWorseModel" "chosen" "I") (List.mem_cons_of_mem _ (List.mem_append_left _ (List.mem_of_getElem? (i := 0) rfl)))
  have hf_25 := hts (.fieldLink RX7 25 "OneWorseModel" "value" "[I") (List.mem_cons_of_mem _ (List.mem_append_left _ (List.mem_of_getElem? (i := 1) rfl)))
  have w_78 : ∀ (k13 : Mm → Int32 → Int32 → Int32 → Int32 → Int32 → Option (Int32 × Mm)) (hk13 : ∀ (g : Mm) (x1 x2 x3 x4 x5 : Int32) (H : Heap) (locs : List Loc), va_P (dC, dI) vwCl (ob_ws shM ad cI cZ g) H → va_S (ob_A shM ad) s.heap H locs → ∀ (ls : Array Slot), lv_has ls 7 [(0, .ref (ad 0)), (1, .int x1), (2, .int x2), (3, .int x3), (4, .int x4), (5, .int x5)] → k13 g x1 x2 x3 x4 x5 = some (r, t) → W p l e (rmN d) s m args below meth c H locs 0 0 (MQ below (ob_Qi (dC, dI) vwCl shM ad cI cZ r t) args s 0 0 (ob_A shM ad)) (F0 m 13 ls [])), ∀ (g : Mm) (x1 x2 x3 x4 x5 : Int32) (H : Heap) (locs : List Loc), va_P (dC, dI) vwCl (ob_ws shM ad cI cZ g) H → va_S (ob_A shM ad) s.heap H locs → ∀ (ls : Array Slot), lv_has ls 7 [(0, .ref (ad 0)), (1, .int x1), (2, .int x2), (3, .int x3), (4, .int x4), (5, .int x5)] → f_X7_bestOf_J78 k13 g x1 x2 x3 x4 x5 = some (r, t) → W p l e (rmN d) s m args below meth c H locs 0 0 (MQ below (ob_Qi (dC, dI) vwCl shM ad cI cZ r t) args s 0 0 (ob_A shM ad)) (F0 m 78 ls []) := by
    intro k13 hk13 g x1 x2 x3 x4 x5 H locs hM hS ls hl hf
    unfold f_X7_bestOf_J78 at hf
    refine lv_iinc (v := (x5 + 1)) (lv' := [(5, .int (x5 + 1)), (0, .ref (ad 0)), (1, .int x1), (2, .int x2), (3, .int x3), (4, .int x4)]) hx hb dX7_bestOf_78 hl (k := 5) rfl rfl (by decide) rfl (fun ls hl => ?_)
    refine lv_goto (tgt := 13) hx hb dX7_bestOf_81 (by decide) ?_
    exact hk13 g x1 x2 x3 x4 (x5 + 1) _ _ hM hS _ (lv_sub hl [1, 2, 3, 4, 5, 0] rfl) hf
  have w_68 : ∀ (k13 : Mm → Int32 → Int32 → Int32 → Int32 → Int32 → Option (Int32 × Mm)) (hk13 : ∀ (g : Mm) (x1 x2 x3 x4 x5 : Int32) (H : Heap) (locs : List Loc), va_P (dC, dI) vwCl (ob_ws shM ad cI cZ g) H → va_S (ob_A shM ad) s.heap H locs → ∀ (ls : Array Slot), lv_has ls 7 [(0, .ref (ad 0)), (1, .int x1), (2, .int x2), (3, .int x3), (4, .int x4), (5, .int x5)] → k13 g x1 x2 x3 x4 x5 = some (r, t) → W p l e (rmN d) s m args below meth c H locs 0 0 (MQ below (ob_Qi (dC, dI) vwCl shM ad cI cZ r t) args s 0 0 (ob_A shM ad)) (F0 m 13 ls [])), ∀ (g : Mm) (x1 x2 x3 x5 x6 : Int32) (H : Heap) (locs : List Loc), va_P (dC, dI) vwCl (ob_ws shM ad cI cZ g) H → va_S (ob_A shM ad) s.heap H locs → ∀ (ls : Array Slot), lv_has ls 7 [(0, .ref (ad 0)), (1, .int x1), (2, .int x2), (3, .int x3), (5, .int x5), (6, .int x6)] → f_X7_bestOf_J68 k13 g x1 x2 x3 x5 x6 = some (r, t) → W p l e (rmN d) s m args below meth c H locs 0 0 (MQ below (ob_Qi (dC, dI) vwCl shM ad cI cZ r t) args s 0 0 (ob_A shM ad)) (F0 m 68 ls []) := by
    intro k13 hk13 g x1 x2 x3 x5 x6 H locs hM hS ls hl hf
    unfold f_X7_bestOf_J68 at hf
    refine lv_iload hx hb dX7_bestOf_68 (lv_at hl 5 rfl) ?_
    refine lv_istore (lv' := [(4, .int x6), (0, .ref (ad 0)), (1, .int x1), (2, .int x2), (3, .int x3), (5, .int x5), (6, .int x6)]) hx hb dX7_bestOf_70 hl (by decide) rfl (fun ls hl => ?_)
    refine lv_aload_n hx hb dX7_bestOf_72 rfl (lv_at hl 1 rfl) ?_
    refine lv_iload hx hb dX7_bestOf_73 (lv_at hl 5 rfl) ?_
    refine ob_pi hx hb hts in_own tyX7 tyX7_ok nmX7 hown hK hM hI hS (q := 0) shM_0 (C := RX7) (T := TX7) (N := 18) rfl 8 (by decide) hf_101 rfl rfl (ty := .int) (v := x5) (tyX7_ok 8 (by decide)) rfl rfl dX7_bestOf_75 (fun H locs hM hS => ?_)
    exact w_78 k13 hk13 (ob_up g 0 8 x5) x1 x2 x3 x6 x5 _ _ hM hS _ (lv_sub hl [1, 2, 3, 4, 0, 5] rfl) hf
  have w_13 : ∀ (n : Nat), ∀ (g : Mm) (x1 x2 x3 x4 x5 : Int32) (H : Heap) (locs : List Loc), va_P (dC, dI) vwCl (ob_ws shM ad cI cZ g) H → va_S (ob_A shM ad) s.heap H locs → ∀ (ls : Array Slot), lv_has ls 7 [(0, .ref (ad 0)), (1, .int x1), (2, .int x2), (3, .int x3), (4, .int x4), (5, .int x5)] → f_X7_bestOf_L13 n g x1 x2 x3 x4 x5 = some (r, t) → W p l e (rmN d) s m args below meth c H locs 0 0 (MQ below (ob_Qi (dC, dI) vwCl shM ad cI cZ r t) args s 0 0 (ob_A shM ad)) (F0 m 13 ls []) := by
    intro n
    induction n with
    | zero =>
      intro g x1 x2 x3 x4 x5 H locs hM hS ls hl hf
      cases hf
    | succ n ih =>
      intro g x1 x2 x3 x4 x5 H locs hM hS ls hl hf
      unfold f_X7_bestOf_L13 at hf
      refine lv_iload hx hb dX7_bestOf_13 (lv_at hl 5 rfl) ?_
      refine lv_bipush (v := 10) hx hb dX7_bestOf_15 (by decide) ?_
      refine lv_icmp_ge (tgt := 84) hx hb dX7_bestOf_17 (by decide) (fun c1 => ?_) (fun c1 => ?_)
      · rw [if_pos c1] at hf
        refine lv_iload hx hb dX7_bestOf_84 (lv_at hl 4 rfl) ?_
        refine lv_if_ge (tgt := 93) hx hb dX7_bestOf_86 (by decide) (fun c2 => ?_) (fun c2 => ?_)
        · rw [if_pos c2] at hf
          refine lv_iload hx hb dX7_bestOf_93 (lv_at hl 4 rfl) ?_
          exact ob_iret hx hb hr hlocks hM hS (v := x4) rfl hf dX7_bestOf_95
        · rw [if_neg c2] at hf
          refine lv_iload_n hx hb dX7_bestOf_89 rfl (lv_at hl 1 rfl) ?_
          refine lv_goto (tgt := 95) hx hb dX7_bestOf_90 (by decide) ?_
          exact ob_iret hx hb hr hlocks hM hS (v := x1) rfl hf dX7_bestOf_95
      · rw [if_neg c1] at hf
        refine lv_iload_n hx hb dX7_bestOf_20 rfl (lv_at hl 2 rfl) ?_
        refine lv_iload hx hb dX7_bestOf_21 (lv_at hl 5 rfl) ?_
        obtain ⟨v3, e3, hf⟩ := ob_e1 hf
        refine ob_calli (va_runS (As := [.int x2, .int x5]) (rest := []) ⟨hx, hb, hml, hown, hts⟩ (c_X7_has l dC dI ad cI cZ hI 0 (Nat.le_refl _) g x2 x5  v3 e3) (va_cwS 2 hts gX7_bestOf_X7_has rfl rfl rfl hd_X7_has (ob_R (Nat.le_trans (by decide) hd) (by decide))) (ob_preS hK hM) rfl rfl hl.1 rfl (lv_room (Nat.le_of_ble_eq_true rfl)) dX7_bestOf_23 ⟨Nat.le_refl _, Nat.le_refl _⟩) hS (fun H locs hM hS => ?_)
        refine lv_if_eq (tgt := 78) hx hb dX7_bestOf_26 (by decide) (fun c4 => ?_) (fun c4 => ?_)
        · rw [if_pos c4] at hf
          exact w_78 (f_X7_bestOf_L13 n) ih g x1 x2 x3 x4 x5 _ _ hM hS _ (lv_sub hl [0, 1, 2, 3, 4, 5] rfl) hf
        · rw [if_neg c4] at hf
          refine lv_aload_n hx hb dX7_bestOf_29 rfl (lv_at hl 0 rfl) ?_
          refine ob_gr (j := 6) hx hb hts in_own hown hK hM (q := 0) shM_0 (C := RX7) (T := TX7) (N := 18) rfl 6 (by decide) hf_25 rfl dX7_bestOf_30 ?_
          refine lv_iconst (v := 1) hx hb dX7_bestOf_33 (by decide) ?_
          refine lv_iload_n hx hb dX7_bestOf_34 rfl (lv_at hl 1 rfl) ?_
          refine lv_isub hx hb dX7_bestOf_35 ?_
          refine lv_iload hx hb dX7_bestOf_36 (lv_at hl 5 rfl) ?_
          refine lv_iload_n hx hb dX7_bestOf_38 rfl (lv_at hl 3 rfl) ?_
          refine lv_iconst (v := 1) hx hb dX7_bestOf_39 (by decide) ?_
          refine lv_iload hx hb dX7_bestOf_40 (lv_at hl 5 rfl) ?_
          refine lv_ishl hx hb dX7_bestOf_42 ?_
          refine lv_ior hx hb dX7_bestOf_43 ?_
          obtain ⟨v5, e5, hf⟩ := ob_e1 hf
          refine ob_calli (va_runS (As := [.int (1 - x1), .int x5, .int (x3 ||| ((1 : Int32) <<< (x5 &&& 31)))]) (rest := [.ref (ad 6)]) ⟨hx, hb, hml, hown, hts⟩ (c_X7_at l dC dI ad cI cZ hI 0 (Nat.le_refl _) g (1 - x1) x5 (x3 ||| ((1 : Int32) <<< (x5 &&& 31)))  v5 e5) (va_cwS 3 hts gX7_bestOf_X7_at rfl rfl rfl hd_X7_at (ob_R (Nat.le_trans (by decide) hd) (by decide))) (ob_preS hK hM) rfl rfl hl.1 rfl (lv_room (Nat.le_of_ble_eq_true rfl)) dX7_bestOf_44 ⟨Nat.le_refl _, Nat.le_refl _⟩) hS (fun H locs hM hS => ?_)
          obtain ⟨v6, e6, hf⟩ := ob_e1 hf
          refine ob_iald hx hb hK hM (q := 6) (n := 20480) shM_6 e6 dX7_bestOf_47 ?_
          refine lv_iconst (v := 2) hx hb dX7_bestOf_48 (by decide) ?_
          refine lv_iadd hx hb dX7_bestOf_49 ?_
          refine lv_istore (lv' := [(6, .int (v6 + 2)), (0, .ref (ad 0)), (1, .int x1), (2, .int x2), (3, .int x3), (4, .int x4), (5, .int x5)]) hx hb dX7_bestOf_50 hl (by decide) rfl (fun ls hl => ?_)
          refine lv_iload hx hb dX7_bestOf_52 (lv_at hl 5 rfl) ?_
          refine lv_if_lt (tgt := 68) hx hb dX7_bestOf_54 (by decide) (fun c7 => ?_) (fun c7 => ?_)
          · rw [if_pos c7] at hf
            exact w_68 (f_X7_bestOf_L13 n) ih g x1 x2 x3 x5 (v6 + 2) _ _ hM hS _ (lv_sub hl [1, 2, 3, 4, 6, 0] rfl) hf
          · rw [if_neg c7] at hf
            refine lv_iload_n hx hb dX7_bestOf_57 rfl (lv_at hl 2 rfl) ?_
            refine lv_iload hx hb dX7_bestOf_58 (lv_at hl 0 rfl) ?_
            refine lv_iload hx hb dX7_bestOf_60 (lv_at hl 5 rfl) ?_
            obtain ⟨v8, e8, hf⟩ := ob_e1 hf
            refine ob_calli (va_runS (As := [.int x1, .int (v6 + 2), .int x4]) (rest := []) ⟨hx, hb, hml, hown, hts⟩ (c_X7_isBetter l dC dI ad cI cZ hI 0 (Nat.le_refl _) g x1 (v6 + 2) x4  v8 e8) (va_cwS 3 hts gX7_bestOf_X7_isBetter rfl rfl rfl hd_X7_isBetter (ob_R (Nat.le_trans (by decide) hd) (by decide))) (ob_preS hK hM) rfl rfl hl.1 rfl (lv_room (Nat.le_of_ble_eq_true rfl)) dX7_bestOf_62 ⟨Nat.le_refl _, Nat.le_refl _⟩) hS (fun H locs hM hS => ?_)
            refine lv_if_eq (tgt := 78) hx hb dX7_bestOf_65 (by decide) (fun c9 => ?_) (fun c9 => ?_)
            · rw [if_pos c9] at hf
              exact w_78 (f_X7_bestOf_L13 n) ih g x1 x2 x3 x4 x5 _ _ hM hS _ (lv_sub hl [1, 2, 3, 4, 5, 6] rfl) hf
            · rw [if_neg c9] at hf
              exact w_68 (f_X7_bestOf_L13 n) ih g x1 x2 x3 x5 (v6 + 2) _ _ hM hS _ (lv_sub hl [1, 2, 3, 4, 6, 0] rfl) hf
  subst ha
  have hl := lv_entry ([.ref (ad 0), .int x1, .int x2, .int x3]) (n := 7) (Nat.le_of_ble_eq_true rfl)
  rw [lg_entry_eq]
  generalize (lg_sl ([.ref (ad 0), .int x1, .int x2, .int x3]) ++ List.replicate (7 - (lg_sl ([.ref (ad 0), .int x1, .int x2, .int x3])).length) Slot.unset).toArray = ls at hl ⊢
  have hl : lv_has ls 7 [(0, .ref (ad 0)), (1, .int x1), (2, .int x2), (3, .int x3)] := hl
  have hM := hM0
  have hS := hS0
  unfold f_X7_bestOf at hf
  refine lv_bipush (v := (-6)) hx hb dX7_bestOf_0 (by decide) ?_
  refine lv_istore (lv' := [(4, .int (-6)), (0, .ref (ad 0)), (1, .int x1), (2, .int x2), (3, .int x3)]) hx hb dX7_bestOf_2 hl (by decide) rfl (fun ls hl => ?_)
  refine lv_aload_n hx hb dX7_bestOf_4 rfl (lv_at hl 1 rfl) ?_
  refine lv_bipush (v := (-6)) hx hb dX7_bestOf_5 (by decide) ?_
  refine ob_pi hx hb hts in_own tyX7 tyX7_ok nmX7 hown hK hM hI hS (q := 0) shM_0 (C := RX7) (T := TX7) (N := 18) rfl 8 (by decide) hf_101 rfl rfl (ty := .int) (v := (-6)) (tyX7_ok 8 (by decide)) rfl rfl dX7_bestOf_7 (fun H locs hM hS => ?_)
  refine lv_iconst (v := 0) hx hb dX7_bestOf_10 (by decide) ?_
  refine lv_istore (lv' := [(5, .int 0), (4, .int (-6)), (0, .ref (ad 0)), (1, .int x1), (2, .int x2), (3, .int x3)]) hx hb dX7_bestOf_11 hl (by decide) rfl (fun ls hl => ?_)
  exact w_13 FU (ob_up g 0 8 (-6)) x1 x2 x3 (-6) 0 _ _ hM hS _ (lv_sub hl [2, 3, 4, 5, 1, 0] rfl) hf
set_option maxHeartbeats 4000000 in
set_option maxRecDepth 100000 in
theorem c_X7_layMatch (l : Launch) (dC : Nat → ClassId) (dI : Nat → Nat → Nat) (ad : Nat → Nat) (cI cZ : ClassId) (hI : ob_inj shM ad) (d : Nat) (hd : 2 ≤ d) (g : Mm) (x1 x2 : Int32) (t : Mm) (hf : f_X7_layMatch g x1 x2 = some t) : ob_Mv l yX7_layMatch wsX7_layMatch d (dC, dI) vwCl shM ad cI cZ nwM [.ref (ad 0), .int x1, .int x2] g t := by
  refine ob_ofW (cc := cX7_layMatch) (maxL := 6) (ret := none) (by decide) rfl ?_
  intro p e s m args below meth c ha hx hb hr hml hts hown hlocks hM0 hK hS0
  have hown : s.vm.findClass RX7 = some m.cls := hown
  have in_own : ∀ w ∈ wsX70, w ∈ wsX7_layMatch := fun w h => (List.mem_cons_of_mem _ (List.mem_append_right _ h))
  have hf_28 := hts (.fieldLink RX7 28 "OneWorseModel" "can" "[I") (List.mem_cons_of_mem _ (List.mem_append_left _ (List.mem_append_left _ (List.mem_of_getElem? (i := 0) rfl))))
  have hf_22 := hts (.fieldLink RX7 22 "OneWorseModel" "knows" "[I") (List.mem_cons_of_mem _ (List.mem_append_left _ (List.mem_append_left _ (List.mem_of_getElem? (i := 1) rfl))))
  have hf_25 := hts (.fieldLink RX7 25 "OneWorseModel" "value" "[I") (List.mem_cons_of_mem _ (List.mem_append_left _ (List.mem_append_left _ (List.mem_of_getElem? (i := 2) rfl))))
  have hf_13 := hts (.fieldLink RX7 13 "OneWorseModel" "book" "[I") (List.mem_cons_of_mem _ (List.mem_append_left _ (List.mem_append_left _ (List.mem_of_getElem? (i := 3) rfl))))
  have w_57 : ∀ (k117 : Mm → Int32 → Int32 → Option (Mm)) (hk117 : ∀ (g : Mm) (x3 x4 : Int32) (H : Heap) (locs : List Loc), va_P (dC, dI) vwCl (ob_ws shM ad cI cZ g) H → va_S (ob_A shM ad) s.heap H locs → ∀ (ls : Array Slot), lv_has ls 6 [(0, .ref (ad 0)), (3, .int x3), (4, .int x4)] → k117 g x3 x4 = some t → W p l e (rmN d) s m args below meth c H locs 0 0 (MQ below (ob_Qv (dC, dI) vwCl shM ad cI cZ t) args s 0 0 (ob_A shM ad)) (F0 m 117 ls [])) (n : Nat), ∀ (g : Mm) (x3 x4 x5 : Int32) (H : Heap) (locs : List Loc), va_P (dC, dI) vwCl (ob_ws shM ad cI cZ g) H → va_S (ob_A shM ad) s.heap H locs → ∀ (ls : Array Slot), lv_has ls 6 [(0, .ref (ad 0)), (3, .int x3), (4, .int x4), (5, .int x5)] → f_X7_layMatch_L57 k117 n g x3 x4 x5 = some t → W p l e (rmN d) s m args below meth c H locs 0 0 (MQ below (ob_Qv (dC, dI) vwCl shM ad cI cZ t) args s 0 0 (ob_A shM ad)) (F0 m 57 ls []) := by
    intro k117 hk117 n
    induction n with
    | zero =>
      intro g x3 x4 x5 H locs hM hS ls hl hf
      cases hf
    | succ n ih =>
      intro g x3 x4 x5 H locs hM hS ls hl hf
      unfold f_X7_layMatch_L57 at hf
      refine lv_iload hx hb dX7_layMatch_57 (lv_at hl 3 rfl) ?_
      refine lv_iconst (v := 2) hx hb dX7_layMatch_59 (by decide) ?_
      refine lv_icmp_ge (tgt := 117) hx hb dX7_layMatch_60 (by decide) (fun c9 => ?_) (fun c9 => ?_)
      · rw [if_pos c9] at hf
        exact hk117 g x3 x4 _ _ hM hS _ (lv_sub hl [0, 1, 2] rfl) hf
      · rw [if_neg c9] at hf
        refine lv_iload_n hx hb dX7_layMatch_63 rfl (lv_at hl 1 rfl) ?_
        refine lv_iload hx hb dX7_layMatch_64 (lv_at hl 2 rfl) ?_
        obtain ⟨v10, e10, hf⟩ := ob_e1 hf
        refine ob_calli (va_runS (As := [.int x3, .int x4]) (rest := []) ⟨hx, hb, hml, hown, hts⟩ (c_X7_has l dC dI ad cI cZ hI 0 (Nat.le_refl _) g x3 x4  v10 e10) (va_cwS 2 hts gX7_layMatch_X7_has rfl rfl rfl hd_X7_has (ob_R (Nat.le_trans (by decide) hd) (by decide))) (ob_preS hK hM) rfl rfl hl.1 rfl (lv_room (Nat.le_of_ble_eq_true rfl)) dX7_layMatch_66 ⟨Nat.le_refl _, Nat.le_refl _⟩) hS (fun H locs hM hS => ?_)
        refine lv_if_eq (tgt := 117) hx hb dX7_layMatch_69 (by decide) (fun c11 => ?_) (fun c11 => ?_)
        · rw [if_pos c11] at hf
          exact hk117 g x3 x4 _ _ hM hS _ (lv_sub hl [0, 1, 2] rfl) hf
        · rw [if_neg c11] at hf
          refine lv_aload_n hx hb dX7_layMatch_72 rfl (lv_at hl 0 rfl) ?_
          refine ob_gr (j := 6) hx hb hts in_own hown hK hM (q := 0) shM_0 (C := RX7) (T := TX7) (N := 18) rfl 6 (by decide) hf_25 rfl dX7_layMatch_73 ?_
          refine lv_iload hx hb dX7_layMatch_76 (lv_at hl 3 rfl) ?_
          refine lv_iload hx hb dX7_layMatch_78 (lv_at hl 2 rfl) ?_
          refine lv_iload_n hx hb dX7_layMatch_80 rfl (lv_at hl 1 rfl) ?_
          obtain ⟨v12, e12, hf⟩ := ob_e1 hf
          refine ob_calli (va_runS (As := [.int x5, .int x4, .int x3]) (rest := [.ref (ad 6)]) ⟨hx, hb, hml, hown, hts⟩ (c_X7_at l dC dI ad cI cZ hI 0 (Nat.le_refl _) g x5 x4 x3  v12 e12) (va_cwS 3 hts gX7_layMatch_X7_at rfl rfl rfl hd_X7_at (ob_R (Nat.le_trans (by decide) hd) (by decide))) (ob_preS hK hM) rfl rfl hl.1 rfl (lv_room (Nat.le_of_ble_eq_true rfl)) dX7_layMatch_81 ⟨Nat.le_refl _, Nat.le_refl _⟩) hS (fun H locs hM hS => ?_)
          refine lv_aload_n hx hb dX7_layMatch_84 rfl (lv_at hl 0 rfl) ?_
          refine lv_iload hx hb dX7_layMatch_85 (lv_at hl 3 rfl) ?_
          refine lv_aload_n hx hb dX7_layMatch_87 rfl (lv_at hl 0 rfl) ?_
          refine ob_gr (j := 2) hx hb hts in_own hown hK hM (q := 0) shM_0 (C := RX7) (T := TX7) (N := 18) rfl 2 (by decide) hf_13 rfl dX7_layMatch_88 ?_
          refine lv_iload hx hb dX7_layMatch_91 (lv_at hl 2 rfl) ?_
          obtain ⟨v13, e13, hf⟩ := ob_e1 hf
          refine ob_iald hx hb hK hM (q := 2) (n := 10) shM_2 e13 dX7_layMatch_93 ?_
          refine lv_aload_n hx hb dX7_layMatch_94 rfl (lv_at hl 0 rfl) ?_
          refine ob_gr (j := 7) hx hb hts in_own hown hK hM (q := 0) shM_0 (C := RX7) (T := TX7) (N := 18) rfl 7 (by decide) hf_28 rfl dX7_layMatch_95 ?_
          refine lv_iload hx hb dX7_layMatch_98 (lv_at hl 3 rfl) ?_
          obtain ⟨v14, e14, hf⟩ := ob_e1 hf
          refine ob_iald hx hb hK hM (q := 7) (n := 2) shM_7 e14 dX7_layMatch_100 ?_
          refine lv_iand hx hb dX7_layMatch_101 ?_
          refine lv_iload_n hx hb dX7_layMatch_102 rfl (lv_at hl 1 rfl) ?_
          refine lv_iconst (v := (-1)) hx hb dX7_layMatch_103 (by decide) ?_
          refine lv_ixor hx hb dX7_layMatch_104 ?_
          refine lv_iand hx hb dX7_layMatch_105 ?_
          refine lv_iload_n hx hb dX7_layMatch_106 rfl (lv_at hl 1 rfl) ?_
          obtain ⟨v15, g15, e15, hf⟩ := ob_e2 hf
          refine ob_calli (va_runV (As := [.int x5, .int ((v13 &&& v14) &&& (x3 ^^^ (-1))), .int x3]) (rest := [.int v12, .ref (ad 6)]) ⟨hx, hb, hml, hown, hts⟩ (c_X7_bestOf l dC dI ad cI cZ hI 1 (Nat.le_refl _) g x5 ((v13 &&& v14) &&& (x3 ^^^ (-1))) x3  v15 g15 e15) (cwV 3 hts gX7_layMatch_X7_bestOf rfl rfl rfl ⟨rfl, hd_X7_bestOf⟩ (ob_R (Nat.le_trans (by decide) hd) (by decide))) (ob_preV hK hM (q := 0) shM_0 rfl) rfl rfl hl.1 rfl (lv_room (Nat.le_of_ble_eq_true rfl)) dX7_layMatch_107 ⟨Nat.le_refl _, Nat.le_refl _⟩) hS (fun H locs hM hS => ?_)
          obtain ⟨g16, e16, hf⟩ := ob_e1 hf
          refine ob_iast hx hb hK hM hI hS (q := 6) (n := 20480) shM_6 e16 dX7_layMatch_110 (fun H locs hM hS => ?_)
          refine lv_iinc (v := (x5 + 1)) (lv' := [(5, .int (x5 + 1)), (0, .ref (ad 0)), (3, .int x3), (4, .int x4)]) hx hb dX7_layMatch_111 hl (k := 3) rfl rfl (by decide) rfl (fun ls hl => ?_)
          refine lv_goto (tgt := 57) hx hb dX7_layMatch_114 (by decide) ?_
          exact ih g16 x3 x4 (x5 + 1) _ _ hM hS _ (lv_sub hl [1, 2, 3, 0] rfl) hf
  have w_117 : ∀ (k47 : Mm → Int32 → Int32 → Option (Mm)) (hk47 : ∀ (g : Mm) (x3 x4 : Int32) (H : Heap) (locs : List Loc), va_P (dC, dI) vwCl (ob_ws shM ad cI cZ g) H → va_S (ob_A shM ad) s.heap H locs → ∀ (ls : Array Slot), lv_has ls 6 [(0, .ref (ad 0)), (3, .int x3), (4, .int x4)] → k47 g x3 x4 = some t → W p l e (rmN d) s m args below meth c H locs 0 0 (MQ below (ob_Qv (dC, dI) vwCl shM ad cI cZ t) args s 0 0 (ob_A shM ad)) (F0 m 47 ls [])), ∀ (g : Mm) (x3 x4 : Int32) (H : Heap) (locs : List Loc), va_P (dC, dI) vwCl (ob_ws shM ad cI cZ g) H → va_S (ob_A shM ad) s.heap H locs → ∀ (ls : Array Slot), lv_has ls 6 [(0, .ref (ad 0)), (3, .int x3), (4, .int x4)] → f_X7_layMatch_J117 k47 g x3 x4 = some t → W p l e (rmN d) s m args below meth c H locs 0 0 (MQ below (ob_Qv (dC, dI) vwCl shM ad cI cZ t) args s 0 0 (ob_A shM ad)) (F0 m 117 ls []) := by
    intro k47 hk47 g x3 x4 H locs hM hS ls hl hf
    unfold f_X7_layMatch_J117 at hf
    refine lv_iinc (v := (x4 + 1)) (lv' := [(4, .int (x4 + 1)), (0, .ref (ad 0)), (3, .int x3)]) hx hb dX7_layMatch_117 hl (k := 2) rfl rfl (by decide) rfl (fun ls hl => ?_)
    refine lv_goto (tgt := 47) hx hb dX7_layMatch_120 (by decide) ?_
    exact hk47 g x3 (x4 + 1) _ _ hM hS _ (lv_sub hl [1, 2, 0] rfl) hf
  have w_47 : ∀ (k40 : Mm → Int32 → Option (Mm)) (hk40 : ∀ (g : Mm) (x3 : Int32) (H : Heap) (locs : List Loc), va_P (dC, dI) vwCl (ob_ws shM ad cI cZ g) H → va_S (ob_A shM ad) s.heap H locs → ∀ (ls : Array Slot), lv_has ls 6 [(0, .ref (ad 0)), (3, .int x3)] → k40 g x3 = some t → W p l e (rmN d) s m args below meth c H locs 0 0 (MQ below (ob_Qv (dC, dI) vwCl shM ad cI cZ t) args s 0 0 (ob_A shM ad)) (F0 m 40 ls [])) (n : Nat), ∀ (g : Mm) (x3 x4 : Int32) (H : Heap) (locs : List Loc), va_P (dC, dI) vwCl (ob_ws shM ad cI cZ g) H → va_S (ob_A shM ad) s.heap H locs → ∀ (ls : Array Slot), lv_has ls 6 [(0, .ref (ad 0)), (3, .int x3), (4, .int x4)] → f_X7_layMatch_L47 k40 n g x3 x4 = some t → W p l e (rmN d) s m args below meth c H locs 0 0 (MQ below (ob_Qv (dC, dI) vwCl shM ad cI cZ t) args s 0 0 (ob_A shM ad)) (F0 m 47 ls []) := by
    intro k40 hk40 n
    induction n with
    | zero =>
      intro g x3 x4 H locs hM hS ls hl hf
      cases hf
    | succ n ih =>
      intro g x3 x4 H locs hM hS ls hl hf
      unfold f_X7_layMatch_L47 at hf
      refine lv_iload hx hb dX7_layMatch_47 (lv_at hl 2 rfl) ?_
      refine lv_bipush (v := 10) hx hb dX7_layMatch_49 (by decide) ?_
      refine lv_icmp_ge (tgt := 123) hx hb dX7_layMatch_51 (by decide) (fun c8 => ?_) (fun c8 => ?_)
      · rw [if_pos c8] at hf
        refine lv_iinc (v := (x3 + (-1))) (lv' := [(3, .int (x3 + (-1))), (0, .ref (ad 0)), (4, .int x4)]) hx hb dX7_layMatch_123 hl (k := 1) rfl rfl (by decide) rfl (fun ls hl => ?_)
        refine lv_goto (tgt := 40) hx hb dX7_layMatch_126 (by decide) ?_
        exact hk40 g (x3 + (-1)) _ _ hM hS _ (lv_sub hl [1, 0] rfl) hf
      · rw [if_neg c8] at hf
        refine lv_iconst (v := 0) hx hb dX7_layMatch_54 (by decide) ?_
        refine lv_istore (lv' := [(5, .int 0), (0, .ref (ad 0)), (3, .int x3), (4, .int x4)]) hx hb dX7_layMatch_55 hl (by decide) rfl (fun ls hl => ?_)
        exact w_57 (f_X7_layMatch_J117 (f_X7_layMatch_L47 k40 n)) (w_117 (f_X7_layMatch_L47 k40 n) ih) FU g x3 x4 0 _ _ hM hS _ (lv_sub hl [1, 2, 3, 0] rfl) hf
  have w_40 : ∀ (n : Nat), ∀ (g : Mm) (x3 : Int32) (H : Heap) (locs : List Loc), va_P (dC, dI) vwCl (ob_ws shM ad cI cZ g) H → va_S (ob_A shM ad) s.heap H locs → ∀ (ls : Array Slot), lv_has ls 6 [(0, .ref (ad 0)), (3, .int x3)] → f_X7_layMatch_L40 n g x3 = some t → W p l e (rmN d) s m args below meth c H locs 0 0 (MQ below (ob_Qv (dC, dI) vwCl shM ad cI cZ t) args s 0 0 (ob_A shM ad)) (F0 m 40 ls []) := by
    intro n
    induction n with
    | zero =>
      intro g x3 H locs hM hS ls hl hf
      cases hf
    | succ n ih =>
      intro g x3 H locs hM hS ls hl hf
      unfold f_X7_layMatch_L40 at hf
      refine lv_iload_n hx hb dX7_layMatch_40 rfl (lv_at hl 1 rfl) ?_
      refine lv_if_le (tgt := 129) hx hb dX7_layMatch_41 (by decide) (fun c7 => ?_) (fun c7 => ?_)
      · rw [if_pos c7] at hf
        exact ob_vret hx hb hr hlocks hM hS hf dX7_layMatch_129
      · rw [if_neg c7] at hf
        refine lv_iconst (v := 0) hx hb dX7_layMatch_44 (by decide) ?_
        refine lv_istore (lv' := [(4, .int 0), (0, .ref (ad 0)), (3, .int x3)]) hx hb dX7_layMatch_45 hl (by decide) rfl (fun ls hl => ?_)
        exact w_47 (f_X7_layMatch_L40 n) ih FU g x3 0 _ _ hM hS _ (lv_sub hl [1, 2, 0] rfl) hf
  subst ha
  have hl := lv_entry ([.ref (ad 0), .int x1, .int x2]) (n := 6) (Nat.le_of_ble_eq_true rfl)
  rw [lg_entry_eq]
  generalize (lg_sl ([.ref (ad 0), .int x1, .int x2]) ++ List.replicate (6 - (lg_sl ([.ref (ad 0), .int x1, .int x2])).length) Slot.unset).toArray = ls at hl ⊢
  have hl : lv_has ls 6 [(0, .ref (ad 0)), (1, .int x1), (2, .int x2)] := hl
  have hM := hM0
  have hS := hS0
  unfold f_X7_layMatch at hf
  refine lv_aload_n hx hb dX7_layMatch_0 rfl (lv_at hl 0 rfl) ?_
  refine ob_gr (j := 7) hx hb hts in_own hown hK hM (q := 0) shM_0 (C := RX7) (T := TX7) (N := 18) rfl 7 (by decide) hf_28 rfl dX7_layMatch_1 ?_
  refine lv_iconst (v := 0) hx hb dX7_layMatch_4 (by decide) ?_
  refine lv_aload_n hx hb dX7_layMatch_5 rfl (lv_at hl 0 rfl) ?_
  refine ob_gr (j := 5) hx hb hts in_own hown hK hM (q := 0) shM_0 (C := RX7) (T := TX7) (N := 18) rfl 5 (by decide) hf_22 rfl dX7_layMatch_6 ?_
  refine lv_iload_n hx hb dX7_layMatch_9 rfl (lv_at hl 1 rfl) ?_
  obtain ⟨v1, e1, hf⟩ := ob_e1 hf
  refine ob_iald hx hb hK hM (q := 5) (n := 5) shM_5 e1 dX7_layMatch_10 ?_
  refine lv_aload_n hx hb dX7_layMatch_11 rfl (lv_at hl 0 rfl) ?_
  refine lv_iload_n hx hb dX7_layMatch_12 rfl (lv_at hl 2 rfl) ?_
  obtain ⟨v2, e2, hf⟩ := ob_e1 hf
  refine ob_calli (va_runV (As := [.int x2]) (rest := [.int v1, .int 0, .ref (ad 7)]) ⟨hx, hb, hml, hown, hts⟩ (c_X7_fitOf l dC dI ad cI cZ hI 0 (Nat.le_refl _) g x2  v2 e2) (cwV 1 hts gX7_layMatch_X7_fitOf rfl rfl rfl ⟨rfl, hd_X7_fitOf⟩ (ob_R (Nat.le_trans (by decide) hd) (by decide))) (ob_preV hK hM (q := 0) shM_0 rfl) rfl rfl hl.1 rfl (lv_room (Nat.le_of_ble_eq_true rfl)) dX7_layMatch_13 ⟨Nat.le_refl _, Nat.le_refl _⟩) hS (fun H locs hM hS => ?_)
  refine lv_iand hx hb dX7_layMatch_16 ?_
  obtain ⟨g3, e3, hf⟩ := ob_e1 hf
  refine ob_iast hx hb hK hM hI hS (q := 7) (n := 2) shM_7 e3 dX7_layMatch_17 (fun H locs hM hS => ?_)
  refine lv_aload_n hx hb dX7_layMatch_18 rfl (lv_at hl 0 rfl) ?_
  refine ob_gr (j := 7) hx hb hts in_own hown hK hM (q := 0) shM_0 (C := RX7) (T := TX7) (N := 18) rfl 7 (by decide) hf_28 rfl dX7_layMatch_19 ?_
  refine lv_iconst (v := 1) hx hb dX7_layMatch_22 (by decide) ?_
  refine lv_aload_n hx hb dX7_layMatch_23 rfl (lv_at hl 0 rfl) ?_
  refine ob_gr (j := 5) hx hb hts in_own hown hK hM (q := 0) shM_0 (C := RX7) (T := TX7) (N := 18) rfl 5 (by decide) hf_22 rfl dX7_layMatch_24 ?_
  refine lv_iload_n hx hb dX7_layMatch_27 rfl (lv_at hl 2 rfl) ?_
  obtain ⟨v4, e4, hf⟩ := ob_e1 hf
  refine ob_iald hx hb hK hM (q := 5) (n := 5) shM_5 e4 dX7_layMatch_28 ?_
  refine lv_aload_n hx hb dX7_layMatch_29 rfl (lv_at hl 0 rfl) ?_
  refine lv_iload_n hx hb dX7_layMatch_30 rfl (lv_at hl 1 rfl) ?_
  obtain ⟨v5, e5, hf⟩ := ob_e1 hf
  refine ob_calli (va_runV (As := [.int x1]) (rest := [.int v4, .int 1, .ref (ad 7)]) ⟨hx, hb, hml, hown, hts⟩ (c_X7_fitOf l dC dI ad cI cZ hI 0 (Nat.le_refl _) g3 x1  v5 e5) (cwV 1 hts gX7_layMatch_X7_fitOf rfl rfl rfl ⟨rfl, hd_X7_fitOf⟩ (ob_R (Nat.le_trans (by decide) hd) (by decide))) (ob_preV hK hM (q := 0) shM_0 rfl) rfl rfl hl.1 rfl (lv_room (Nat.le_of_ble_eq_true rfl)) dX7_layMatch_31 ⟨Nat.le_refl _, Nat.le_refl _⟩) hS (fun H locs hM hS => ?_)
  refine lv_iand hx hb dX7_layMatch_34 ?_
  obtain ⟨g6, e6, hf⟩ := ob_e1 hf
  refine ob_iast hx hb hK hM hI hS (q := 7) (n := 2) shM_7 e6 dX7_layMatch_35 (fun H locs hM hS => ?_)
  refine lv_sipush (v := 1023) hx hb dX7_layMatch_36 (by decide) ?_
  refine lv_istore_n (lv' := [(3, .int 1023), (0, .ref (ad 0)), (1, .int x1), (2, .int x2)]) hx hb dX7_layMatch_39 rfl hl (by decide) rfl (fun ls hl => ?_)
  exact w_40 FU g6 1023 _ _ hM hS _ (lv_sub hl [1, 0] rfl) hf
set_option maxHeartbeats 4000000 in
set_option maxRecDepth 100000 in
theorem c_X7_toldOf (l : Launch) (dC : Nat → ClassId) (dI : Nat → Nat → Nat) (ad : Nat → Nat) (cI cZ : ClassId) (hI : ob_inj shM ad) (d : Nat) (hd : 0 ≤ d) (g : Mm) (x0 x1 x2 x3 x4 : Int32) (r : Int32) (hf : f_X7_toldOf x0 x1 x2 x3 x4 = some r) : ob_Mi l yX7_toldOf wsX7_toldOf d (dC, dI) vwCl shM ad cI cZ nwM [.int x0, .int x1, .int x2, .int x3, .int x4] g r g := by
  refine ob_ofW (cc := cX7_toldOf) (maxL := 5) (ret := (some .int)) (by decide) rfl ?_
  intro p e s m args below meth c ha hx hb hr hml hts hown hlocks hM0 hK hS0
  have hown : s.vm.findClass RX7 = some m.cls := hown
  subst ha
  have hl := lv_entry ([.int x0, .int x1, .int x2, .int x3, .int x4]) (n := 5) (Nat.le_of_ble_eq_true rfl)
  rw [lg_entry_eq]
  generalize (lg_sl ([.int x0, .int x1, .int x2, .int x3, .int x4]) ++ List.replicate (5 - (lg_sl ([.int x0, .int x1, .int x2, .int x3, .int x4])).length) Slot.unset).toArray = ls at hl ⊢
  have hl : lv_has ls 5 [(0, .int x0), (1, .int x1), (2, .int x2), (3, .int x3), (4, .int x4)] := hl
  have hM := hM0
  have hS := hS0
  unfold f_X7_toldOf at hf
  refine lv_iload_n hx hb dX7_toldOf_0 rfl (lv_at hl 1 rfl) ?_
  refine lv_if_ne (tgt := 18) hx hb dX7_toldOf_1 (by decide) (fun c1 => ?_) (fun c1 => ?_)
  · rw [if_neg c1] at hf
    refine lv_iload_n hx hb dX7_toldOf_18 rfl (lv_at hl 1 rfl) ?_
    refine lv_iconst (v := 1) hx hb dX7_toldOf_19 (by decide) ?_
    refine lv_icmp_ne (tgt := 29) hx hb dX7_toldOf_20 (by decide) (fun c2 => ?_) (fun c2 => ?_)
    · rw [if_neg c2] at hf
      refine lv_iload hx hb dX7_toldOf_29 (lv_at hl 4 rfl) ?_
      exact ob_iretR hx hb hr hlocks hM hS (v := x4) rfl hf dX7_toldOf_31
    · rw [if_pos c2] at hf
      refine lv_iload_n hx hb dX7_toldOf_23 rfl (lv_at hl 0 rfl) ?_
      refine lv_iconst (v := 2) hx hb dX7_toldOf_24 (by decide) ?_
      refine lv_idiv hx hb dX7_toldOf_25 (by decide) ?_
      refine lv_goto (tgt := 31) hx hb dX7_toldOf_26 (by decide) ?_
      exact ob_iretR hx hb hr hlocks hM hS (v := (x0 / 2)) rfl hf dX7_toldOf_31
  · rw [if_pos c1] at hf
    refine lv_iload_n hx hb dX7_toldOf_4 rfl (lv_at hl 0 rfl) ?_
    refine lv_iconst (v := 2) hx hb dX7_toldOf_5 (by decide) ?_
    refine lv_irem hx hb dX7_toldOf_6 (by decide) ?_
    refine lv_if_ne (tgt := 14) hx hb dX7_toldOf_7 (by decide) (fun c3 => ?_) (fun c3 => ?_)
    · rw [if_neg c3] at hf
      refine lv_iload_n hx hb dX7_toldOf_14 rfl (lv_at hl 3 rfl) ?_
      refine lv_goto (tgt := 31) hx hb dX7_toldOf_15 (by decide) ?_
      exact ob_iretR hx hb hr hlocks hM hS (v := x3) rfl hf dX7_toldOf_31
    · rw [if_pos c3] at hf
      refine lv_iload_n hx hb dX7_toldOf_10 rfl (lv_at hl 2 rfl) ?_
      refine lv_goto (tgt := 31) hx hb dX7_toldOf_11 (by decide) ?_
      exact ob_iretR hx hb hr hlocks hM hS (v := x2) rfl hf dX7_toldOf_31
set_option maxHeartbeats 4000000 in
set_option maxRecDepth 100000 in
theorem c_X7_match (l : Launch) (dC : Nat → ClassId) (dI : Nat → Nat → Nat) (ad : Nat → Nat) (cI cZ : ClassId) (hI : ob_inj shM ad) (d : Nat) (hd : 3 ≤ d) (g : Mm) (x1 x2 x3 : Int32) (r : Int32) (t : Mm) (hf : f_X7_match g x1 x2 x3 = some (r, t)) : ob_Mi l yX7_match wsX7_match d (dC, dI) vwCl shM ad cI cZ nwM [.ref (ad 0), .int x1, .int x2, .int x3] g r t := by
  refine ob_ofW (cc := cX7_match) (maxL := 5) (ret := (some .int)) (by decide) rfl ?_
  intro p e s m args below meth c ha hx hb hr hml hts hown hlocks hM0 hK hS0
  have hown : s.vm.findClass RX7 = some m.cls := hown
  have in_own : ∀ w ∈ wsX70, w ∈ wsX7_match := fun w h => (List.mem_cons_of_mem _ (List.mem_append_right _ h))
  have hf_28 := hts (.fieldLink RX7 28 "OneWorseModel" "can" "[I") (List.mem_cons_of_mem _ (List.mem_append_left _ (List.mem_append_left _ (List.mem_of_getElem? (i := 0) rfl))))
  have hf_101 := hts (.fieldLink RX7 101 "OneWorseModel" "chosen" "I") (List.mem_cons_of_mem _ (List.mem_append_left _ (List.mem_append_left _ (List.mem_of_getElem? (i := 1) rfl))))
  subst ha
  have hl := lv_entry ([.ref (ad 0), .int x1, .int x2, .int x3]) (n := 5) (Nat.le_of_ble_eq_true rfl)
  rw [lg_entry_eq]
  generalize (lg_sl ([.ref (ad 0), .int x1, .int x2, .int x3]) ++ List.replicate (5 - (lg_sl ([.ref (ad 0), .int x1, .int x2, .int x3])).length) Slot.unset).toArray = ls at hl ⊢
  have hl : lv_has ls 5 [(0, .ref (ad 0)), (1, .int x1), (2, .int x2), (3, .int x3)] := hl
  have hM := hM0
  have hS := hS0
  unfold f_X7_match at hf
  refine lv_iload_n hx hb dX7_match_0 rfl (lv_at hl 1 rfl) ?_
  refine lv_iload_n hx hb dX7_match_1 rfl (lv_at hl 2 rfl) ?_
  obtain ⟨v1, e1, hf⟩ := ob_e1 hf
  refine ob_calli (va_runS (As := [.int x1, .int x2]) (rest := []) ⟨hx, hb, hml, hown, hts⟩ (c_X7_areTwo l dC dI ad cI cZ hI 2 (Nat.le_refl _) g x1 x2  v1 e1) (va_cwS 2 hts gX7_match_X7_areTwo rfl rfl rfl hd_X7_areTwo (ob_R (Nat.le_trans (by decide) hd) (by decide))) (ob_preS hK hM) rfl rfl hl.1 rfl (lv_room (Nat.le_of_ble_eq_true rfl)) dX7_match_2 ⟨Nat.le_refl _, Nat.le_refl _⟩) hS (fun H locs hM hS => ?_)
  refine lv_if_ne (tgt := 10) hx hb dX7_match_5 (by decide) (fun c2 => ?_) (fun c2 => ?_)
  · rw [if_neg c2] at hf
    refine lv_iload_n hx hb dX7_match_10 rfl (lv_at hl 3 rfl) ?_
    refine lv_iconst (v := 0) hx hb dX7_match_11 (by decide) ?_
    refine lv_iconst (v := 2) hx hb dX7_match_12 (by decide) ?_
    obtain ⟨v3, e3, hf⟩ := ob_e1 hf
    refine ob_calli (va_runS (As := [.int x3, .int 0, .int 2]) (rest := []) ⟨hx, hb, hml, hown, hts⟩ (c_X7_in l dC dI ad cI cZ hI 0 (Nat.le_refl _) g x3 0 2  v3 e3) (va_cwS 3 hts gX7_match_X7_in rfl rfl rfl hd_X7_in (ob_R (Nat.le_trans (by decide) hd) (by decide))) (ob_preS hK hM) rfl rfl hl.1 rfl (lv_room (Nat.le_of_ble_eq_true rfl)) dX7_match_13 ⟨Nat.le_refl _, Nat.le_refl _⟩) hS (fun H locs hM hS => ?_)
    refine lv_if_ne (tgt := 22) hx hb dX7_match_16 (by decide) (fun c4 => ?_) (fun c4 => ?_)
    · rw [if_neg c4] at hf
      refine lv_aload_n hx hb dX7_match_22 rfl (lv_at hl 0 rfl) ?_
      refine lv_iload_n hx hb dX7_match_23 rfl (lv_at hl 1 rfl) ?_
      refine lv_iload_n hx hb dX7_match_24 rfl (lv_at hl 2 rfl) ?_
      obtain ⟨g5, e5, hf⟩ := ob_e1 hf
      refine ob_callv (va_runV (As := [.int x1, .int x2]) (rest := []) ⟨hx, hb, hml, hown, hts⟩ (c_X7_layMatch l dC dI ad cI cZ hI 2 (Nat.le_refl _) g x1 x2  g5 e5) (cwV 2 hts gX7_match_X7_layMatch rfl rfl rfl ⟨rfl, hd_X7_layMatch⟩ (ob_R (Nat.le_trans (by decide) hd) (by decide))) (ob_preV hK hM (q := 0) shM_0 rfl) rfl rfl hl.1 rfl (lv_room (Nat.le_of_ble_eq_true rfl)) dX7_match_25 ⟨Nat.le_refl _, Nat.le_refl _⟩) hS (fun H locs hM hS => ?_)
      refine lv_aload_n hx hb dX7_match_28 rfl (lv_at hl 0 rfl) ?_
      refine lv_iconst (v := 0) hx hb dX7_match_29 (by decide) ?_
      refine lv_aload_n hx hb dX7_match_30 rfl (lv_at hl 0 rfl) ?_
      refine ob_gr (j := 7) hx hb hts in_own hown hK hM (q := 0) shM_0 (C := RX7) (T := TX7) (N := 18) rfl 7 (by decide) hf_28 rfl dX7_match_31 ?_
      refine lv_iconst (v := 0) hx hb dX7_match_34 (by decide) ?_
      obtain ⟨v6, e6, hf⟩ := ob_e1 hf
      refine ob_iald hx hb hK hM (q := 7) (n := 2) shM_7 e6 dX7_match_35 ?_
      refine lv_iconst (v := 0) hx hb dX7_match_36 (by decide) ?_
      obtain ⟨v7, g7, e7, hf⟩ := ob_e2 hf
      refine ob_calli (va_runV (As := [.int 0, .int v6, .int 0]) (rest := []) ⟨hx, hb, hml, hown, hts⟩ (c_X7_bestOf l dC dI ad cI cZ hI 1 (Nat.le_refl _) g5 0 v6 0  v7 g7 e7) (cwV 3 hts gX7_match_X7_bestOf rfl rfl rfl ⟨rfl, hd_X7_bestOf⟩ (ob_R (Nat.le_trans (by decide) hd) (by decide))) (ob_preV hK hM (q := 0) shM_0 rfl) rfl rfl hl.1 rfl (lv_room (Nat.le_of_ble_eq_true rfl)) dX7_match_37 ⟨Nat.le_refl _, Nat.le_refl _⟩) hS (fun H locs hM hS => ?_)
      refine lv_istore (lv' := [(4, .int v7), (0, .ref (ad 0)), (1, .int x1), (2, .int x2), (3, .int x3)]) hx hb dX7_match_40 hl (by decide) rfl (fun ls hl => ?_)
      refine lv_iload hx hb dX7_match_42 (lv_at hl 0 rfl) ?_
      refine lv_iload_n hx hb dX7_match_44 rfl (lv_at hl 4 rfl) ?_
      refine lv_iload_n hx hb dX7_match_45 rfl (lv_at hl 2 rfl) ?_
      refine lv_iload_n hx hb dX7_match_46 rfl (lv_at hl 3 rfl) ?_
      refine lv_aload_n hx hb dX7_match_47 rfl (lv_at hl 1 rfl) ?_
      refine ob_gi hx hb hts in_own hown hK hM (q := 0) shM_0 (C := RX7) (T := TX7) (N := 18) rfl 8 (by decide) hf_101 rfl dX7_match_48 ?_
      obtain ⟨v8, e8, hf⟩ := ob_e1 hf
      refine ob_calli (va_runS (As := [.int v7, .int x3, .int x1, .int x2, .int (g7 0 8)]) (rest := []) ⟨hx, hb, hml, hown, hts⟩ (c_X7_toldOf l dC dI ad cI cZ hI 0 (Nat.le_refl _) g7 v7 x3 x1 x2 (g7 0 8)  v8 e8) (va_cwS 5 hts gX7_match_X7_toldOf rfl rfl rfl hd_X7_toldOf (ob_R (Nat.le_trans (by decide) hd) (by decide))) (ob_preS hK hM) rfl rfl hl.1 rfl (lv_room (Nat.le_of_ble_eq_true rfl)) dX7_match_51 ⟨Nat.le_refl _, Nat.le_refl _⟩) hS (fun H locs hM hS => ?_)
      exact ob_iret hx hb hr hlocks hM hS (v := v8) rfl hf dX7_match_54
    · rw [if_pos c4] at hf
      refine lv_bipush (v := (-2)) hx hb dX7_match_19 (by decide) ?_
      exact ob_iret hx hb hr hlocks hM hS (v := (-2)) rfl hf dX7_match_21
  · rw [if_pos c2] at hf
    refine lv_iconst (v := (-1)) hx hb dX7_match_8 (by decide) ?_
    exact ob_iret hx hb hr hlocks hM hS (v := (-1)) rfl hf dX7_match_9
set_option maxHeartbeats 4000000 in
set_option maxRecDepth 100000 in
theorem c_X7_middle (l : Launch) (dC : Nat → ClassId) (dI : Nat → Nat → Nat) (ad : Nat → Nat) (cI cZ : ClassId) (hI : ob_inj shM ad) (d : Nat) (hd : 3 ≤ d) (g : Mm) (x1 x2 x3 x4 x5 : Int32) (r : Int32) (t : Mm) (hf : f_X7_middle g x1 x2 x3 x4 x5 = some (r, t)) : ob_Mi l yX7_middle wsX7_middle d (dC, dI) vwCl shM ad cI cZ nwM [.ref (ad 0), .int x1, .int x2, .int x3, .int x4, .int x5] g r t := by
  refine ob_ofW (cc := cX7_middle) (maxL := 7) (ret := (some .int)) (by decide) rfl ?_
  intro p e s m args below meth c ha hx hb hr hml hts hown hlocks hM0 hK hS0
  have hown : s.vm.findClass RX7 = some m.cls := hown
  have in_own : ∀ w ∈ wsX70, w ∈ wsX7_middle := fun w h => (List.mem_cons_of_mem _ (List.mem_append_right _ h))
  have hf_13 := hts (.fieldLink RX7 13 "OneWorseModel" "book" "[I") (List.mem_cons_of_mem _ (List.mem_append_left _ (List.mem_append_left _ (List.mem_of_getElem? (i := 0) rfl))))
  have hf_28 := hts (.fieldLink RX7 28 "OneWorseModel" "can" "[I") (List.mem_cons_of_mem _ (List.mem_append_left _ (List.mem_append_left _ (List.mem_of_getElem? (i := 1) rfl))))
  have hf_101 := hts (.fieldLink RX7 101 "OneWorseModel" "chosen" "I") (List.mem_cons_of_mem _ (List.mem_append_left _ (List.mem_append_left _ (List.mem_of_getElem? (i := 2) rfl))))
  subst ha
  have hl := lv_entry ([.ref (ad 0), .int x1, .int x2, .int x3, .int x4, .int x5]) (n := 7) (Nat.le_of_ble_eq_true rfl)
  rw [lg_entry_eq]
  generalize (lg_sl ([.ref (ad 0), .int x1, .int x2, .int x3, .int x4, .int x5]) ++ List.replicate (7 - (lg_sl ([.ref (ad 0), .int x1, .int x2, .int x3, .int x4, .int x5])).length) Slot.unset).toArray = ls at hl ⊢
  have hl : lv_has ls 7 [(0, .ref (ad 0)), (1, .int x1), (2, .int x2), (3, .int x3), (4, .int x4), (5, .int x5)] := hl
  have hM := hM0
  have hS := hS0
  unfold f_X7_middle at hf
  refine lv_iload_n hx hb dX7_middle_0 rfl (lv_at hl 1 rfl) ?_
  refine lv_iload_n hx hb dX7_middle_1 rfl (lv_at hl 2 rfl) ?_
  obtain ⟨v1, e1, hf⟩ := ob_e1 hf
  refine ob_calli (va_runS (As := [.int x1, .int x2]) (rest := []) ⟨hx, hb, hml, hown, hts⟩ (c_X7_areTwo l dC dI ad cI cZ hI 2 (Nat.le_refl _) g x1 x2  v1 e1) (va_cwS 2 hts gX7_middle_X7_areTwo rfl rfl rfl hd_X7_areTwo (ob_R (Nat.le_trans (by decide) hd) (by decide))) (ob_preS hK hM) rfl rfl hl.1 rfl (lv_room (Nat.le_of_ble_eq_true rfl)) dX7_middle_2 ⟨Nat.le_refl _, Nat.le_refl _⟩) hS (fun H locs hM hS => ?_)
  refine lv_if_eq (tgt := 15) hx hb dX7_middle_5 (by decide) (fun c2 => ?_) (fun c2 => ?_)
  · rw [if_pos c2] at hf
    refine lv_iconst (v := (-1)) hx hb dX7_middle_15 (by decide) ?_
    exact ob_iret hx hb hr hlocks hM hS (v := (-1)) rfl hf dX7_middle_16
  · rw [if_neg c2] at hf
    refine lv_iload_n hx hb dX7_middle_8 rfl (lv_at hl 3 rfl) ?_
    obtain ⟨v3, e3, hf⟩ := ob_e1 hf
    refine ob_calli (va_runS (As := [.int x3]) (rest := []) ⟨hx, hb, hml, hown, hts⟩ (c_X7_isInsult l dC dI ad cI cZ hI 1 (Nat.le_refl _) g x3  v3 e3) (va_cwS 1 hts gX7_middle_X7_isInsult rfl rfl rfl hd_X7_isInsult (ob_R (Nat.le_trans (by decide) hd) (by decide))) (ob_preS hK hM) rfl rfl hl.1 rfl (lv_room (Nat.le_of_ble_eq_true rfl)) dX7_middle_9 ⟨Nat.le_refl _, Nat.le_refl _⟩) hS (fun H locs hM hS => ?_)
    refine lv_if_ne (tgt := 17) hx hb dX7_middle_12 (by decide) (fun c4 => ?_) (fun c4 => ?_)
    · rw [if_neg c4] at hf
      refine lv_iload hx hb dX7_middle_17 (lv_at hl 4 rfl) ?_
      refine lv_iconst (v := 0) hx hb dX7_middle_19 (by decide) ?_
      refine lv_sipush (v := 1023) hx hb dX7_middle_20 (by decide) ?_
      obtain ⟨v5, e5, hf⟩ := ob_e1 hf
      refine ob_calli (va_runS (As := [.int x4, .int 0, .int 1023]) (rest := []) ⟨hx, hb, hml, hown, hts⟩ (c_X7_in l dC dI ad cI cZ hI 0 (Nat.le_refl _) g x4 0 1023  v5 e5) (va_cwS 3 hts gX7_middle_X7_in rfl rfl rfl hd_X7_in (ob_R (Nat.le_trans (by decide) hd) (by decide))) (ob_preS hK hM) rfl rfl hl.1 rfl (lv_room (Nat.le_of_ble_eq_true rfl)) dX7_middle_23 ⟨Nat.le_refl _, Nat.le_refl _⟩) hS (fun H locs hM hS => ?_)
      refine lv_if_eq (tgt := 48) hx hb dX7_middle_26 (by decide) (fun c6 => ?_) (fun c6 => ?_)
      · rw [if_pos c6] at hf
        refine lv_bipush (v := (-2)) hx hb dX7_middle_48 (by decide) ?_
        exact ob_iret hx hb hr hlocks hM hS (v := (-2)) rfl hf dX7_middle_50
      · rw [if_neg c6] at hf
        refine lv_iload hx hb dX7_middle_29 (lv_at hl 4 rfl) ?_
        refine lv_iload_n hx hb dX7_middle_31 rfl (lv_at hl 3 rfl) ?_
        obtain ⟨v7, e7, hf⟩ := ob_e1 hf
        refine ob_calli (va_runS (As := [.int x4, .int x3]) (rest := []) ⟨hx, hb, hml, hown, hts⟩ (c_X7_has l dC dI ad cI cZ hI 0 (Nat.le_refl _) g x4 x3  v7 e7) (va_cwS 2 hts gX7_middle_X7_has rfl rfl rfl hd_X7_has (ob_R (Nat.le_trans (by decide) hd) (by decide))) (ob_preS hK hM) rfl rfl hl.1 rfl (lv_room (Nat.le_of_ble_eq_true rfl)) dX7_middle_32 ⟨Nat.le_refl _, Nat.le_refl _⟩) hS (fun H locs hM hS => ?_)
        refine lv_if_eq (tgt := 48) hx hb dX7_middle_35 (by decide) (fun c8 => ?_) (fun c8 => ?_)
        · rw [if_pos c8] at hf
          refine lv_bipush (v := (-2)) hx hb dX7_middle_48 (by decide) ?_
          exact ob_iret hx hb hr hlocks hM hS (v := (-2)) rfl hf dX7_middle_50
        · rw [if_neg c8] at hf
          refine lv_iload hx hb dX7_middle_38 (lv_at hl 5 rfl) ?_
          refine lv_iconst (v := 0) hx hb dX7_middle_40 (by decide) ?_
          refine lv_iconst (v := 2) hx hb dX7_middle_41 (by decide) ?_
          obtain ⟨v9, e9, hf⟩ := ob_e1 hf
          refine ob_calli (va_runS (As := [.int x5, .int 0, .int 2]) (rest := []) ⟨hx, hb, hml, hown, hts⟩ (c_X7_in l dC dI ad cI cZ hI 0 (Nat.le_refl _) g x5 0 2  v9 e9) (va_cwS 3 hts gX7_middle_X7_in rfl rfl rfl hd_X7_in (ob_R (Nat.le_trans (by decide) hd) (by decide))) (ob_preS hK hM) rfl rfl hl.1 rfl (lv_room (Nat.le_of_ble_eq_true rfl)) dX7_middle_42 ⟨Nat.le_refl _, Nat.le_refl _⟩) hS (fun H locs hM hS => ?_)
          refine lv_if_ne (tgt := 51) hx hb dX7_middle_45 (by decide) (fun c10 => ?_) (fun c10 => ?_)
          · rw [if_neg c10] at hf
            refine lv_aload_n hx hb dX7_middle_51 rfl (lv_at hl 0 rfl) ?_
            refine lv_iload_n hx hb dX7_middle_52 rfl (lv_at hl 1 rfl) ?_
            refine lv_iload_n hx hb dX7_middle_53 rfl (lv_at hl 2 rfl) ?_
            obtain ⟨g11, e11, hf⟩ := ob_e1 hf
            refine ob_callv (va_runV (As := [.int x1, .int x2]) (rest := []) ⟨hx, hb, hml, hown, hts⟩ (c_X7_layMatch l dC dI ad cI cZ hI 2 (Nat.le_refl _) g x1 x2  g11 e11) (cwV 2 hts gX7_middle_X7_layMatch rfl rfl rfl ⟨rfl, hd_X7_layMatch⟩ (ob_R (Nat.le_trans (by decide) hd) (by decide))) (ob_preV hK hM (q := 0) shM_0 rfl) rfl rfl hl.1 rfl (lv_room (Nat.le_of_ble_eq_true rfl)) dX7_middle_54 ⟨Nat.le_refl _, Nat.le_refl _⟩) hS (fun H locs hM hS => ?_)
            refine lv_aload_n hx hb dX7_middle_57 rfl (lv_at hl 0 rfl) ?_
            refine lv_iconst (v := 0) hx hb dX7_middle_58 (by decide) ?_
            refine lv_aload_n hx hb dX7_middle_59 rfl (lv_at hl 0 rfl) ?_
            refine ob_gr (j := 2) hx hb hts in_own hown hK hM (q := 0) shM_0 (C := RX7) (T := TX7) (N := 18) rfl 2 (by decide) hf_13 rfl dX7_middle_60 ?_
            refine lv_iload_n hx hb dX7_middle_63 rfl (lv_at hl 3 rfl) ?_
            obtain ⟨v12, e12, hf⟩ := ob_e1 hf
            refine ob_iald hx hb hK hM (q := 2) (n := 10) shM_2 e12 dX7_middle_64 ?_
            refine lv_aload_n hx hb dX7_middle_65 rfl (lv_at hl 0 rfl) ?_
            refine ob_gr (j := 7) hx hb hts in_own hown hK hM (q := 0) shM_0 (C := RX7) (T := TX7) (N := 18) rfl 7 (by decide) hf_28 rfl dX7_middle_66 ?_
            refine lv_iconst (v := 0) hx hb dX7_middle_69 (by decide) ?_
            obtain ⟨v13, e13, hf⟩ := ob_e1 hf
            refine ob_iald hx hb hK hM (q := 7) (n := 2) shM_7 e13 dX7_middle_70 ?_
            refine lv_iand hx hb dX7_middle_71 ?_
            refine lv_iload hx hb dX7_middle_72 (lv_at hl 4 rfl) ?_
            refine lv_iconst (v := (-1)) hx hb dX7_middle_74 (by decide) ?_
            refine lv_ixor hx hb dX7_middle_75 ?_
            refine lv_iand hx hb dX7_middle_76 ?_
            refine lv_iload hx hb dX7_middle_77 (lv_at hl 4 rfl) ?_
            obtain ⟨v14, g14, e14, hf⟩ := ob_e2 hf
            refine ob_calli (va_runV (As := [.int 0, .int ((v12 &&& v13) &&& (x4 ^^^ (-1))), .int x4]) (rest := []) ⟨hx, hb, hml, hown, hts⟩ (c_X7_bestOf l dC dI ad cI cZ hI 1 (Nat.le_refl _) g11 0 ((v12 &&& v13) &&& (x4 ^^^ (-1))) x4  v14 g14 e14) (cwV 3 hts gX7_middle_X7_bestOf rfl rfl rfl ⟨rfl, hd_X7_bestOf⟩ (ob_R (Nat.le_trans (by decide) hd) (by decide))) (ob_preV hK hM (q := 0) shM_0 rfl) rfl rfl hl.1 rfl (lv_room (Nat.le_of_ble_eq_true rfl)) dX7_middle_79 ⟨Nat.le_refl _, Nat.le_refl _⟩) hS (fun H locs hM hS => ?_)
            refine lv_istore (lv' := [(6, .int v14), (0, .ref (ad 0)), (1, .int x1), (2, .int x2), (3, .int x3), (4, .int x4), (5, .int x5)]) hx hb dX7_middle_82 hl (by decide) rfl (fun ls hl => ?_)
            refine lv_iload hx hb dX7_middle_84 (lv_at hl 0 rfl) ?_
            refine lv_iload hx hb dX7_middle_86 (lv_at hl 6 rfl) ?_
            refine lv_iload_n hx hb dX7_middle_88 rfl (lv_at hl 2 rfl) ?_
            refine lv_iload_n hx hb dX7_middle_89 rfl (lv_at hl 3 rfl) ?_
            refine lv_aload_n hx hb dX7_middle_90 rfl (lv_at hl 1 rfl) ?_
            refine ob_gi hx hb hts in_own hown hK hM (q := 0) shM_0 (C := RX7) (T := TX7) (N := 18) rfl 8 (by decide) hf_101 rfl dX7_middle_91 ?_
            obtain ⟨v15, e15, hf⟩ := ob_e1 hf
            refine ob_calli (va_runS (As := [.int v14, .int x5, .int x1, .int x2, .int (g14 0 8)]) (rest := []) ⟨hx, hb, hml, hown, hts⟩ (c_X7_toldOf l dC dI ad cI cZ hI 0 (Nat.le_refl _) g14 v14 x5 x1 x2 (g14 0 8)  v15 e15) (va_cwS 5 hts gX7_middle_X7_toldOf rfl rfl rfl hd_X7_toldOf (ob_R (Nat.le_trans (by decide) hd) (by decide))) (ob_preS hK hM) rfl rfl hl.1 rfl (lv_room (Nat.le_of_ble_eq_true rfl)) dX7_middle_94 ⟨Nat.le_refl _, Nat.le_refl _⟩) hS (fun H locs hM hS => ?_)
            exact ob_iret hx hb hr hlocks hM hS (v := v15) rfl hf dX7_middle_97
          · rw [if_pos c10] at hf
            refine lv_bipush (v := (-2)) hx hb dX7_middle_48 (by decide) ?_
            exact ob_iret hx hb hr hlocks hM hS (v := (-2)) rfl hf dX7_middle_50
    · rw [if_pos c4] at hf
      refine lv_iconst (v := (-1)) hx hb dX7_middle_15 (by decide) ?_
      exact ob_iret hx hb hr hlocks hM hS (v := (-1)) rfl hf dX7_middle_16
set_option maxHeartbeats 4000000 in
set_option maxRecDepth 100000 in
theorem c_X7_last (l : Launch) (dC : Nat → ClassId) (dI : Nat → Nat → Nat) (ad : Nat → Nat) (cI cZ : ClassId) (hI : ob_inj shM ad) (d : Nat) (hd : 3 ≤ d) (g : Mm) (x1 x2 x3 : Int32) (r : Int32) (t : Mm) (hf : f_X7_last g x1 x2 x3 = some (r, t)) : ob_Mi l yX7_last wsX7_last d (dC, dI) vwCl shM ad cI cZ nwM [.ref (ad 0), .int x1, .int x2, .int x3] g r t := by
  refine ob_ofW (cc := cX7_last) (maxL := 11) (ret := (some .int)) (by decide) rfl ?_
  intro p e s m args below meth c ha hx hb hr hml hts hown hlocks hM0 hK hS0
  have hown : s.vm.findClass RX7 = some m.cls := hown
  have in_own : ∀ w ∈ wsX70, w ∈ wsX7_last := fun w h => (List.mem_cons_of_mem _ (List.mem_append_right _ h))
  have hf_28 := hts (.fieldLink RX7 28 "OneWorseModel" "can" "[I") (List.mem_cons_of_mem _ (List.mem_append_left _ (List.mem_append_left _ (List.mem_of_getElem? (i := 0) rfl))))
  have hf_22 := hts (.fieldLink RX7 22 "OneWorseModel" "knows" "[I") (List.mem_cons_of_mem _ (List.mem_append_left _ (List.mem_append_left _ (List.mem_of_getElem? (i := 1) rfl))))
  have hf_25 := hts (.fieldLink RX7 25 "OneWorseModel" "value" "[I") (List.mem_cons_of_mem _ (List.mem_append_left _ (List.mem_append_left _ (List.mem_of_getElem? (i := 3) rfl))))
  have hf_13 := hts (.fieldLink RX7 13 "OneWorseModel" "book" "[I") (List.mem_cons_of_mem _ (List.mem_append_left _ (List.mem_append_left _ (List.mem_of_getElem? (i := 2) rfl))))
  have w_185 : ∀ (k103 : Mm → Int32 → Int32 → Int32 → Int32 → Int32 → Int32 → Option (Int32 × Mm)) (hk103 : ∀ (g : Mm) (x3 x4 x5 x6 x7 x8 : Int32) (H : Heap) (locs : List Loc), va_P (dC, dI) vwCl (ob_ws shM ad cI cZ g) H → va_S (ob_A shM ad) s.heap H locs → ∀ (ls : Array Slot), lv_has ls 11 [(0, .ref (ad 0)), (3, .int x3), (4, .int x4), (5, .int x5), (6, .int x6), (7, .int x7), (8, .int x8)] → k103 g x3 x4 x5 x6 x7 x8 = some (r, t) → W p l e (rmN d) s m args below meth c H locs 0 0 (MQ below (ob_Qi (dC, dI) vwCl shM ad cI cZ r t) args s 0 0 (ob_A shM ad)) (F0 m 103 ls [])), ∀ (g : Mm) (x3 x4 x5 x6 x8 s0 : Int32) (H : Heap) (locs : List Loc), va_P (dC, dI) vwCl (ob_ws shM ad cI cZ g) H → va_S (ob_A shM ad) s.heap H locs → ∀ (ls : Array Slot), lv_has ls 11 [(0, .ref (ad 0)), (3, .int x3), (4, .int x4), (5, .int x5), (6, .int x6), (8, .int x8)] → f_X7_last_J185 k103 g x3 x4 x5 x6 x8 s0 = some (r, t) → W p l e (rmN d) s m args below meth c H locs 0 0 (MQ below (ob_Qi (dC, dI) vwCl shM ad cI cZ r t) args s 0 0 (ob_A shM ad)) (F0 m 185 ls [.int s0]) := by
    intro k103 hk103 g x3 x4 x5 x6 x8 s0 H locs hM hS ls hl hf
    unfold f_X7_last_J185 at hf
    refine lv_istore (lv' := [(7, .int s0), (0, .ref (ad 0)), (3, .int x3), (4, .int x4), (5, .int x5), (6, .int x6), (8, .int x8)]) hx hb dX7_last_185 hl (by decide) rfl (fun ls hl => ?_)
    refine lv_iinc (v := (x8 + 1)) (lv' := [(8, .int (x8 + 1)), (7, .int s0), (0, .ref (ad 0)), (3, .int x3), (4, .int x4), (5, .int x5), (6, .int x6)]) hx hb dX7_last_187 hl (k := 6) rfl rfl (by decide) rfl (fun ls hl => ?_)
    refine lv_goto (tgt := 103) hx hb dX7_last_190 (by decide) ?_
    exact hk103 g x3 x4 x5 x6 s0 (x8 + 1) _ _ hM hS _ (lv_sub hl [2, 3, 4, 5, 6, 1, 0] rfl) hf
  have w_169 : ∀ (k103 : Mm → Int32 → Int32 → Int32 → Int32 → Int32 → Int32 → Option (Int32 × Mm)) (hk103 : ∀ (g : Mm) (x3 x4 x5 x6 x7 x8 : Int32) (H : Heap) (locs : List Loc), va_P (dC, dI) vwCl (ob_ws shM ad cI cZ g) H → va_S (ob_A shM ad) s.heap H locs → ∀ (ls : Array Slot), lv_has ls 11 [(0, .ref (ad 0)), (3, .int x3), (4, .int x4), (5, .int x5), (6, .int x6), (7, .int x7), (8, .int x8)] → k103 g x3 x4 x5 x6 x7 x8 = some (r, t) → W p l e (rmN d) s m args below meth c H locs 0 0 (MQ below (ob_Qi (dC, dI) vwCl shM ad cI cZ r t) args s 0 0 (ob_A shM ad)) (F0 m 103 ls [])), ∀ (g : Mm) (x3 x4 x5 x6 x7 x8 s0 : Int32) (H : Heap) (locs : List Loc), va_P (dC, dI) vwCl (ob_ws shM ad cI cZ g) H → va_S (ob_A shM ad) s.heap H locs → ∀ (ls : Array Slot), lv_has ls 11 [(0, .ref (ad 0)), (3, .int x3), (4, .int x4), (5, .int x5), (6, .int x6), (7, .int x7), (8, .int x8)] → f_X7_last_J169 k103 g x3 x4 x5 x6 x7 x8 s0 = some (r, t) → W p l e (rmN d) s m args below meth c H locs 0 0 (MQ below (ob_Qi (dC, dI) vwCl shM ad cI cZ r t) args s 0 0 (ob_A shM ad)) (F0 m 169 ls [.int s0]) := by
    intro k103 hk103 g x3 x4 x5 x6 x7 x8 s0 H locs hM hS ls hl hf
    unfold f_X7_last_J169 at hf
    refine lv_istore (lv' := [(10, .int s0), (0, .ref (ad 0)), (3, .int x3), (4, .int x4), (5, .int x5), (6, .int x6), (7, .int x7), (8, .int x8)]) hx hb dX7_last_169 hl (by decide) rfl (fun ls hl => ?_)
    refine lv_iload hx hb dX7_last_171 (lv_at hl 0 rfl) ?_
    refine lv_iload hx hb dX7_last_173 (lv_at hl 6 rfl) ?_
    refine lv_icmp_le (tgt := 183) hx hb dX7_last_175 (by decide) (fun c34 => ?_) (fun c34 => ?_)
    · rw [if_pos c34] at hf
      refine lv_iload hx hb dX7_last_183 (lv_at hl 6 rfl) ?_
      exact w_185 k103 hk103 g x3 x4 x5 x6 x8 x7 _ _ hM hS _ (lv_sub hl [1, 2, 3, 4, 5, 7] rfl) hf
    · rw [if_neg c34] at hf
      refine lv_iload hx hb dX7_last_178 (lv_at hl 0 rfl) ?_
      refine lv_goto (tgt := 185) hx hb dX7_last_180 (by decide) ?_
      exact w_185 k103 hk103 g x3 x4 x5 x6 x8 s0 _ _ hM hS _ (lv_sub hl [1, 2, 3, 4, 5, 7] rfl) hf
  have w_103 : ∀ (k81 : Mm → Int32 → Int32 → Int32 → Int32 → Option (Int32 × Mm)) (hk81 : ∀ (g : Mm) (x3 x4 x5 x6 : Int32) (H : Heap) (locs : List Loc), va_P (dC, dI) vwCl (ob_ws shM ad cI cZ g) H → va_S (ob_A shM ad) s.heap H locs → ∀ (ls : Array Slot), lv_has ls 11 [(0, .ref (ad 0)), (3, .int x3), (4, .int x4), (5, .int x5), (6, .int x6)] → k81 g x3 x4 x5 x6 = some (r, t) → W p l e (rmN d) s m args below meth c H locs 0 0 (MQ below (ob_Qi (dC, dI) vwCl shM ad cI cZ r t) args s 0 0 (ob_A shM ad)) (F0 m 81 ls [])) (n : Nat), ∀ (g : Mm) (x3 x4 x5 x6 x7 x8 : Int32) (H : Heap) (locs : List Loc), va_P (dC, dI) vwCl (ob_ws shM ad cI cZ g) H → va_S (ob_A shM ad) s.heap H locs → ∀ (ls : Array Slot), lv_has ls 11 [(0, .ref (ad 0)), (3, .int x3), (4, .int x4), (5, .int x5), (6, .int x6), (7, .int x7), (8, .int x8)] → f_X7_last_L103 k81 n g x3 x4 x5 x6 x7 x8 = some (r, t) → W p l e (rmN d) s m args below meth c H locs 0 0 (MQ below (ob_Qi (dC, dI) vwCl shM ad cI cZ r t) args s 0 0 (ob_A shM ad)) (F0 m 103 ls []) := by
    intro k81 hk81 n
    induction n with
    | zero =>
      intro g x3 x4 x5 x6 x7 x8 H locs hM hS ls hl hf
      cases hf
    | succ n ih =>
      intro g x3 x4 x5 x6 x7 x8 H locs hM hS ls hl hf
      unfold f_X7_last_L103 at hf
      refine lv_iload hx hb dX7_last_103 (lv_at hl 6 rfl) ?_
      refine lv_bipush (v := 10) hx hb dX7_last_105 (by decide) ?_
      refine lv_icmp_ge (tgt := 193) hx hb dX7_last_107 (by decide) (fun c25 => ?_) (fun c25 => ?_)
      · rw [if_pos c25] at hf
        refine lv_aload_n hx hb dX7_last_193 rfl (lv_at hl 0 rfl) ?_
        refine ob_gr (j := 6) hx hb hts in_own hown hK hM (q := 0) shM_0 (C := RX7) (T := TX7) (N := 18) rfl 6 (by decide) hf_25 rfl dX7_last_194 ?_
        refine lv_iload hx hb dX7_last_197 (lv_at hl 4 rfl) ?_
        refine lv_iload hx hb dX7_last_199 (lv_at hl 3 rfl) ?_
        refine lv_iload hx hb dX7_last_201 (lv_at hl 2 rfl) ?_
        obtain ⟨v26, e26, hf⟩ := ob_e1 hf
        refine ob_calli (va_runS (As := [.int x6, .int x5, .int x4]) (rest := [.ref (ad 6)]) ⟨hx, hb, hml, hown, hts⟩ (c_X7_at l dC dI ad cI cZ hI 0 (Nat.le_refl _) g x6 x5 x4  v26 e26) (va_cwS 3 hts gX7_last_X7_at rfl rfl rfl hd_X7_at (ob_R (Nat.le_trans (by decide) hd) (by decide))) (ob_preS hK hM) rfl rfl hl.1 rfl (lv_room (Nat.le_of_ble_eq_true rfl)) dX7_last_203 ⟨Nat.le_refl _, Nat.le_refl _⟩) hS (fun H locs hM hS => ?_)
        refine lv_iload hx hb dX7_last_206 (lv_at hl 5 rfl) ?_
        obtain ⟨g27, e27, hf⟩ := ob_e1 hf
        refine ob_iast hx hb hK hM hI hS (q := 6) (n := 20480) shM_6 e27 dX7_last_208 (fun H locs hM hS => ?_)
        refine lv_iinc (v := (x6 + 1)) (lv' := [(6, .int (x6 + 1)), (0, .ref (ad 0)), (3, .int x3), (4, .int x4), (5, .int x5), (7, .int x7), (8, .int x8)]) hx hb dX7_last_209 hl (k := 4) rfl rfl (by decide) rfl (fun ls hl => ?_)
        refine lv_goto (tgt := 81) hx hb dX7_last_212 (by decide) ?_
        exact hk81 g27 x3 x4 x5 (x6 + 1) _ _ hM hS _ (lv_sub hl [1, 2, 3, 4, 0] rfl) hf
      · rw [if_neg c25] at hf
        refine lv_aload_n hx hb dX7_last_110 rfl (lv_at hl 0 rfl) ?_
        refine ob_gr (j := 2) hx hb hts in_own hown hK hM (q := 0) shM_0 (C := RX7) (T := TX7) (N := 18) rfl 2 (by decide) hf_13 rfl dX7_last_111 ?_
        refine lv_iload hx hb dX7_last_114 (lv_at hl 3 rfl) ?_
        obtain ⟨v28, e28, hf⟩ := ob_e1 hf
        refine ob_iald hx hb hK hM (q := 2) (n := 10) shM_2 e28 dX7_last_116 ?_
        refine lv_aload_n hx hb dX7_last_117 rfl (lv_at hl 0 rfl) ?_
        refine ob_gr (j := 7) hx hb hts in_own hown hK hM (q := 0) shM_0 (C := RX7) (T := TX7) (N := 18) rfl 7 (by decide) hf_28 rfl dX7_last_118 ?_
        refine lv_iload hx hb dX7_last_121 (lv_at hl 4 rfl) ?_
        obtain ⟨v29, e29, hf⟩ := ob_e1 hf
        refine ob_iald hx hb hK hM (q := 7) (n := 2) shM_7 e29 dX7_last_123 ?_
        refine lv_iand hx hb dX7_last_124 ?_
        refine lv_iload hx hb dX7_last_125 (lv_at hl 2 rfl) ?_
        refine lv_iconst (v := (-1)) hx hb dX7_last_127 (by decide) ?_
        refine lv_ixor hx hb dX7_last_128 ?_
        refine lv_iand hx hb dX7_last_129 ?_
        refine lv_iload hx hb dX7_last_130 (lv_at hl 6 rfl) ?_
        obtain ⟨v30, e30, hf⟩ := ob_e1 hf
        refine ob_calli (va_runS (As := [.int ((v28 &&& v29) &&& (x4 ^^^ (-1))), .int x8]) (rest := []) ⟨hx, hb, hml, hown, hts⟩ (c_X7_has l dC dI ad cI cZ hI 0 (Nat.le_refl _) g ((v28 &&& v29) &&& (x4 ^^^ (-1))) x8  v30 e30) (va_cwS 2 hts gX7_last_X7_has rfl rfl rfl hd_X7_has (ob_R (Nat.le_trans (by decide) hd) (by decide))) (ob_preS hK hM) rfl rfl hl.1 rfl (lv_room (Nat.le_of_ble_eq_true rfl)) dX7_last_132 ⟨Nat.le_refl _, Nat.le_refl _⟩) hS (fun H locs hM hS => ?_)
        refine lv_istore (lv' := [(9, .int v30), (0, .ref (ad 0)), (3, .int x3), (4, .int x4), (5, .int x5), (6, .int x6), (7, .int x7), (8, .int x8)]) hx hb dX7_last_135 hl (by decide) rfl (fun ls hl => ?_)
        refine lv_iload hx hb dX7_last_137 (lv_at hl 0 rfl) ?_
        refine lv_if_eq (tgt := 168) hx hb dX7_last_139 (by decide) (fun c31 => ?_) (fun c31 => ?_)
        · rw [if_pos c31] at hf
          refine lv_iconst (v := 0) hx hb dX7_last_168 (by decide) ?_
          exact w_169 (f_X7_last_L103 k81 n) ih g x3 x4 x5 x6 x7 x8 0 _ _ hM hS _ (lv_sub hl [1, 2, 3, 4, 5, 6, 7] rfl) hf
        · rw [if_neg c31] at hf
          refine lv_aload_n hx hb dX7_last_142 rfl (lv_at hl 1 rfl) ?_
          refine ob_gr (j := 6) hx hb hts in_own hown hK hM (q := 0) shM_0 (C := RX7) (T := TX7) (N := 18) rfl 6 (by decide) hf_25 rfl dX7_last_143 ?_
          refine lv_iconst (v := 1) hx hb dX7_last_146 (by decide) ?_
          refine lv_iload hx hb dX7_last_147 (lv_at hl 5 rfl) ?_
          refine lv_isub hx hb dX7_last_149 ?_
          refine lv_iload hx hb dX7_last_150 (lv_at hl 7 rfl) ?_
          refine lv_iload hx hb dX7_last_152 (lv_at hl 3 rfl) ?_
          refine lv_iconst (v := 1) hx hb dX7_last_154 (by decide) ?_
          refine lv_iload hx hb dX7_last_155 (lv_at hl 7 rfl) ?_
          refine lv_ishl hx hb dX7_last_157 ?_
          refine lv_ior hx hb dX7_last_158 ?_
          obtain ⟨v32, e32, hf⟩ := ob_e1 hf
          refine ob_calli (va_runS (As := [.int (1 - x6), .int x8, .int (x4 ||| ((1 : Int32) <<< (x8 &&& 31)))]) (rest := [.ref (ad 6)]) ⟨hx, hb, hml, hown, hts⟩ (c_X7_at l dC dI ad cI cZ hI 0 (Nat.le_refl _) g (1 - x6) x8 (x4 ||| ((1 : Int32) <<< (x8 &&& 31)))  v32 e32) (va_cwS 3 hts gX7_last_X7_at rfl rfl rfl hd_X7_at (ob_R (Nat.le_trans (by decide) hd) (by decide))) (ob_preS hK hM) rfl rfl hl.1 rfl (lv_room (Nat.le_of_ble_eq_true rfl)) dX7_last_159 ⟨Nat.le_refl _, Nat.le_refl _⟩) hS (fun H locs hM hS => ?_)
          obtain ⟨v33, e33, hf⟩ := ob_e1 hf
          refine ob_iald hx hb hK hM (q := 6) (n := 20480) shM_6 e33 dX7_last_162 ?_
          refine lv_iconst (v := 1) hx hb dX7_last_163 (by decide) ?_
          refine lv_iadd hx hb dX7_last_164 ?_
          refine lv_goto (tgt := 169) hx hb dX7_last_165 (by decide) ?_
          exact w_169 (f_X7_last_L103 k81 n) ih g x3 x4 x5 x6 x7 x8 (v33 + 1) _ _ hM hS _ (lv_sub hl [1, 2, 3, 4, 5, 6, 7] rfl) hf
  have w_81 : ∀ (k215 : Mm → Int32 → Int32 → Int32 → Option (Int32 × Mm)) (hk215 : ∀ (g : Mm) (x3 x4 x5 : Int32) (H : Heap) (locs : List Loc), va_P (dC, dI) vwCl (ob_ws shM ad cI cZ g) H → va_S (ob_A shM ad) s.heap H locs → ∀ (ls : Array Slot), lv_has ls 11 [(0, .ref (ad 0)), (3, .int x3), (4, .int x4), (5, .int x5)] → k215 g x3 x4 x5 = some (r, t) → W p l e (rmN d) s m args below meth c H locs 0 0 (MQ below (ob_Qi (dC, dI) vwCl shM ad cI cZ r t) args s 0 0 (ob_A shM ad)) (F0 m 215 ls [])) (n : Nat), ∀ (g : Mm) (x3 x4 x5 x6 : Int32) (H : Heap) (locs : List Loc), va_P (dC, dI) vwCl (ob_ws shM ad cI cZ g) H → va_S (ob_A shM ad) s.heap H locs → ∀ (ls : Array Slot), lv_has ls 11 [(0, .ref (ad 0)), (3, .int x3), (4, .int x4), (5, .int x5), (6, .int x6)] → f_X7_last_L81 k215 n g x3 x4 x5 x6 = some (r, t) → W p l e (rmN d) s m args below meth c H locs 0 0 (MQ below (ob_Qi (dC, dI) vwCl shM ad cI cZ r t) args s 0 0 (ob_A shM ad)) (F0 m 81 ls []) := by
    intro k215 hk215 n
    induction n with
    | zero =>
      intro g x3 x4 x5 x6 H locs hM hS ls hl hf
      cases hf
    | succ n ih =>
      intro g x3 x4 x5 x6 H locs hM hS ls hl hf
      unfold f_X7_last_L81 at hf
      refine lv_iload hx hb dX7_last_81 (lv_at hl 4 rfl) ?_
      refine lv_iconst (v := 2) hx hb dX7_last_83 (by decide) ?_
      refine lv_icmp_ge (tgt := 215) hx hb dX7_last_84 (by decide) (fun c21 => ?_) (fun c21 => ?_)
      · rw [if_pos c21] at hf
        exact hk215 g x3 x4 x5 _ _ hM hS _ (lv_sub hl [0, 1, 2, 3] rfl) hf
      · rw [if_neg c21] at hf
        refine lv_iload hx hb dX7_last_87 (lv_at hl 2 rfl) ?_
        refine lv_iload hx hb dX7_last_89 (lv_at hl 3 rfl) ?_
        obtain ⟨v22, e22, hf⟩ := ob_e1 hf
        refine ob_calli (va_runS (As := [.int x4, .int x5]) (rest := []) ⟨hx, hb, hml, hown, hts⟩ (c_X7_has l dC dI ad cI cZ hI 0 (Nat.le_refl _) g x4 x5  v22 e22) (va_cwS 2 hts gX7_last_X7_has rfl rfl rfl hd_X7_has (ob_R (Nat.le_trans (by decide) hd) (by decide))) (ob_preS hK hM) rfl rfl hl.1 rfl (lv_room (Nat.le_of_ble_eq_true rfl)) dX7_last_91 ⟨Nat.le_refl _, Nat.le_refl _⟩) hS (fun H locs hM hS => ?_)
        refine lv_if_eq (tgt := 215) hx hb dX7_last_94 (by decide) (fun c23 => ?_) (fun c23 => ?_)
        · rw [if_pos c23] at hf
          exact hk215 g x3 x4 x5 _ _ hM hS _ (lv_sub hl [0, 1, 2, 3] rfl) hf
        · rw [if_neg c23] at hf
          refine lv_iconst (v := 0) hx hb dX7_last_97 (by decide) ?_
          refine lv_istore (lv' := [(7, .int 0), (0, .ref (ad 0)), (3, .int x3), (4, .int x4), (5, .int x5), (6, .int x6)]) hx hb dX7_last_98 hl (by decide) rfl (fun ls hl => ?_)
          refine lv_iconst (v := 0) hx hb dX7_last_100 (by decide) ?_
          refine lv_istore (lv' := [(8, .int 0), (7, .int 0), (0, .ref (ad 0)), (3, .int x3), (4, .int x4), (5, .int x5), (6, .int x6)]) hx hb dX7_last_101 hl (by decide) rfl (fun ls hl => ?_)
          exact w_103 (f_X7_last_L81 k215 n) ih FU g x3 x4 x5 x6 0 0 _ _ hM hS _ (lv_sub hl [2, 3, 4, 5, 6, 1, 0] rfl) hf
  have w_215 : ∀ (k71 : Mm → Int32 → Int32 → Int32 → Option (Int32 × Mm)) (hk71 : ∀ (g : Mm) (x3 x4 x5 : Int32) (H : Heap) (locs : List Loc), va_P (dC, dI) vwCl (ob_ws shM ad cI cZ g) H → va_S (ob_A shM ad) s.heap H locs → ∀ (ls : Array Slot), lv_has ls 11 [(0, .ref (ad 0)), (3, .int x3), (4, .int x4), (5, .int x5)] → k71 g x3 x4 x5 = some (r, t) → W p l e (rmN d) s m args below meth c H locs 0 0 (MQ below (ob_Qi (dC, dI) vwCl shM ad cI cZ r t) args s 0 0 (ob_A shM ad)) (F0 m 71 ls [])), ∀ (g : Mm) (x3 x4 x5 : Int32) (H : Heap) (locs : List Loc), va_P (dC, dI) vwCl (ob_ws shM ad cI cZ g) H → va_S (ob_A shM ad) s.heap H locs → ∀ (ls : Array Slot), lv_has ls 11 [(0, .ref (ad 0)), (3, .int x3), (4, .int x4), (5, .int x5)] → f_X7_last_J215 k71 g x3 x4 x5 = some (r, t) → W p l e (rmN d) s m args below meth c H locs 0 0 (MQ below (ob_Qi (dC, dI) vwCl shM ad cI cZ r t) args s 0 0 (ob_A shM ad)) (F0 m 215 ls []) := by
    intro k71 hk71 g x3 x4 x5 H locs hM hS ls hl hf
    unfold f_X7_last_J215 at hf
    refine lv_iinc (v := (x5 + 1)) (lv' := [(5, .int (x5 + 1)), (0, .ref (ad 0)), (3, .int x3), (4, .int x4)]) hx hb dX7_last_215 hl (k := 3) rfl rfl (by decide) rfl (fun ls hl => ?_)
    refine lv_goto (tgt := 71) hx hb dX7_last_218 (by decide) ?_
    exact hk71 g x3 x4 (x5 + 1) _ _ hM hS _ (lv_sub hl [1, 2, 3, 0] rfl) hf
  have w_71 : ∀ (k63 : Mm → Int32 → Int32 → Option (Int32 × Mm)) (hk63 : ∀ (g : Mm) (x3 x4 : Int32) (H : Heap) (locs : List Loc), va_P (dC, dI) vwCl (ob_ws shM ad cI cZ g) H → va_S (ob_A shM ad) s.heap H locs → ∀ (ls : Array Slot), lv_has ls 11 [(0, .ref (ad 0)), (3, .int x3), (4, .int x4)] → k63 g x3 x4 = some (r, t) → W p l e (rmN d) s m args below meth c H locs 0 0 (MQ below (ob_Qi (dC, dI) vwCl shM ad cI cZ r t) args s 0 0 (ob_A shM ad)) (F0 m 63 ls [])) (n : Nat), ∀ (g : Mm) (x3 x4 x5 : Int32) (H : Heap) (locs : List Loc), va_P (dC, dI) vwCl (ob_ws shM ad cI cZ g) H → va_S (ob_A shM ad) s.heap H locs → ∀ (ls : Array Slot), lv_has ls 11 [(0, .ref (ad 0)), (3, .int x3), (4, .int x4), (5, .int x5)] → f_X7_last_L71 k63 n g x3 x4 x5 = some (r, t) → W p l e (rmN d) s m args below meth c H locs 0 0 (MQ below (ob_Qi (dC, dI) vwCl shM ad cI cZ r t) args s 0 0 (ob_A shM ad)) (F0 m 71 ls []) := by
    intro k63 hk63 n
    induction n with
    | zero =>
      intro g x3 x4 x5 H locs hM hS ls hl hf
      cases hf
    | succ n ih =>
      intro g x3 x4 x5 H locs hM hS ls hl hf
      unfold f_X7_last_L71 at hf
      refine lv_iload hx hb dX7_last_71 (lv_at hl 3 rfl) ?_
      refine lv_bipush (v := 10) hx hb dX7_last_73 (by decide) ?_
      refine lv_icmp_ge (tgt := 221) hx hb dX7_last_75 (by decide) (fun c19 => ?_) (fun c19 => ?_)
      · rw [if_pos c19] at hf
        refine lv_iinc (v := (x4 + (-1))) (lv' := [(4, .int (x4 + (-1))), (0, .ref (ad 0)), (3, .int x3), (5, .int x5)]) hx hb dX7_last_221 hl (k := 2) rfl rfl (by decide) rfl (fun ls hl => ?_)
        refine lv_goto (tgt := 63) hx hb dX7_last_224 (by decide) ?_
        exact hk63 g x3 (x4 + (-1)) _ _ hM hS _ (lv_sub hl [1, 2, 0] rfl) hf
      · rw [if_neg c19] at hf
        refine lv_iconst (v := 0) hx hb dX7_last_78 (by decide) ?_
        refine lv_istore (lv' := [(6, .int 0), (0, .ref (ad 0)), (3, .int x3), (4, .int x4), (5, .int x5)]) hx hb dX7_last_79 hl (by decide) rfl (fun ls hl => ?_)
        exact w_81 (f_X7_last_J215 (f_X7_last_L71 k63 n)) (w_215 (f_X7_last_L71 k63 n) ih) FU g x3 x4 x5 0 _ _ hM hS _ (lv_sub hl [1, 2, 3, 4, 0] rfl) hf
  have w_63 : ∀ (k237 : Mm → Int32 → Int32 → Int32 → Int32 → Option (Int32 × Mm)) (hk237 : ∀ (g : Mm) (x3 x4 x5 x6 : Int32) (H : Heap) (locs : List Loc), va_P (dC, dI) vwCl (ob_ws shM ad cI cZ g) H → va_S (ob_A shM ad) s.heap H locs → ∀ (ls : Array Slot), lv_has ls 11 [(0, .ref (ad 0)), (3, .int x3), (4, .int x4), (5, .int x5), (6, .int x6)] → k237 g x3 x4 x5 x6 = some (r, t) → W p l e (rmN d) s m args below meth c H locs 0 0 (MQ below (ob_Qi (dC, dI) vwCl shM ad cI cZ r t) args s 0 0 (ob_A shM ad)) (F0 m 237 ls [])) (n : Nat), ∀ (g : Mm) (x3 x4 : Int32) (H : Heap) (locs : List Loc), va_P (dC, dI) vwCl (ob_ws shM ad cI cZ g) H → va_S (ob_A shM ad) s.heap H locs → ∀ (ls : Array Slot), lv_has ls 11 [(0, .ref (ad 0)), (3, .int x3), (4, .int x4)] → f_X7_last_L63 k237 n g x3 x4 = some (r, t) → W p l e (rmN d) s m args below meth c H locs 0 0 (MQ below (ob_Qi (dC, dI) vwCl shM ad cI cZ r t) args s 0 0 (ob_A shM ad)) (F0 m 63 ls []) := by
    intro k237 hk237 n
    induction n with
    | zero =>
      intro g x3 x4 H locs hM hS ls hl hf
      cases hf
    | succ n ih =>
      intro g x3 x4 H locs hM hS ls hl hf
      unfold f_X7_last_L63 at hf
      refine lv_iload hx hb dX7_last_63 (lv_at hl 2 rfl) ?_
      refine lv_if_le (tgt := 227) hx hb dX7_last_65 (by decide) (fun c11 => ?_) (fun c11 => ?_)
      · rw [if_pos c11] at hf
        refine lv_iconst (v := 0) hx hb dX7_last_227 (by decide) ?_
        refine lv_istore (lv' := [(4, .int 0), (0, .ref (ad 0)), (3, .int x3)]) hx hb dX7_last_228 hl (by decide) rfl (fun ls hl => ?_)
        refine lv_bipush (v := (-6)) hx hb dX7_last_230 (by decide) ?_
        refine lv_istore (lv' := [(5, .int (-6)), (4, .int 0), (0, .ref (ad 0)), (3, .int x3)]) hx hb dX7_last_232 hl (by decide) rfl (fun ls hl => ?_)
        refine lv_iconst (v := 0) hx hb dX7_last_234 (by decide) ?_
        refine lv_istore (lv' := [(6, .int 0), (5, .int (-6)), (4, .int 0), (0, .ref (ad 0)), (3, .int x3)]) hx hb dX7_last_235 hl (by decide) rfl (fun ls hl => ?_)
        exact hk237 g x3 0 (-6) 0 _ _ hM hS _ (lv_sub hl [3, 4, 2, 1, 0] rfl) hf
      · rw [if_neg c11] at hf
        refine lv_iconst (v := 0) hx hb dX7_last_68 (by decide) ?_
        refine lv_istore (lv' := [(5, .int 0), (0, .ref (ad 0)), (3, .int x3), (4, .int x4)]) hx hb dX7_last_69 hl (by decide) rfl (fun ls hl => ?_)
        exact w_71 (f_X7_last_L63 k237 n) ih FU g x3 x4 0 _ _ hM hS _ (lv_sub hl [1, 2, 3, 0] rfl) hf
  have w_311 : ∀ (k237 : Mm → Int32 → Int32 → Int32 → Int32 → Option (Int32 × Mm)) (hk237 : ∀ (g : Mm) (x3 x4 x5 x6 : Int32) (H : Heap) (locs : List Loc), va_P (dC, dI) vwCl (ob_ws shM ad cI cZ g) H → va_S (ob_A shM ad) s.heap H locs → ∀ (ls : Array Slot), lv_has ls 11 [(0, .ref (ad 0)), (3, .int x3), (4, .int x4), (5, .int x5), (6, .int x6)] → k237 g x3 x4 x5 x6 = some (r, t) → W p l e (rmN d) s m args below meth c H locs 0 0 (MQ below (ob_Qi (dC, dI) vwCl shM ad cI cZ r t) args s 0 0 (ob_A shM ad)) (F0 m 237 ls [])), ∀ (g : Mm) (x3 x5 x6 s0 : Int32) (H : Heap) (locs : List Loc), va_P (dC, dI) vwCl (ob_ws shM ad cI cZ g) H → va_S (ob_A shM ad) s.heap H locs → ∀ (ls : Array Slot), lv_has ls 11 [(0, .ref (ad 0)), (3, .int x3), (5, .int x5), (6, .int x6)] → f_X7_last_J311 k237 g x3 x5 x6 s0 = some (r, t) → W p l e (rmN d) s m args below meth c H locs 0 0 (MQ below (ob_Qi (dC, dI) vwCl shM ad cI cZ r t) args s 0 0 (ob_A shM ad)) (F0 m 311 ls [.int s0]) := by
    intro k237 hk237 g x3 x5 x6 s0 H locs hM hS ls hl hf
    unfold f_X7_last_J311 at hf
    refine lv_istore (lv' := [(4, .int s0), (0, .ref (ad 0)), (3, .int x3), (5, .int x5), (6, .int x6)]) hx hb dX7_last_311 hl (by decide) rfl (fun ls hl => ?_)
    refine lv_iinc (v := (x6 + 1)) (lv' := [(6, .int (x6 + 1)), (4, .int s0), (0, .ref (ad 0)), (3, .int x3), (5, .int x5)]) hx hb dX7_last_313 hl (k := 4) rfl rfl (by decide) rfl (fun ls hl => ?_)
    refine lv_goto (tgt := 237) hx hb dX7_last_316 (by decide) ?_
    exact hk237 g x3 s0 x5 (x6 + 1) _ _ hM hS _ (lv_sub hl [2, 3, 1, 4, 0] rfl) hf
  have w_295 : ∀ (k237 : Mm → Int32 → Int32 → Int32 → Int32 → Option (Int32 × Mm)) (hk237 : ∀ (g : Mm) (x3 x4 x5 x6 : Int32) (H : Heap) (locs : List Loc), va_P (dC, dI) vwCl (ob_ws shM ad cI cZ g) H → va_S (ob_A shM ad) s.heap H locs → ∀ (ls : Array Slot), lv_has ls 11 [(0, .ref (ad 0)), (3, .int x3), (4, .int x4), (5, .int x5), (6, .int x6)] → k237 g x3 x4 x5 x6 = some (r, t) → W p l e (rmN d) s m args below meth c H locs 0 0 (MQ below (ob_Qi (dC, dI) vwCl shM ad cI cZ r t) args s 0 0 (ob_A shM ad)) (F0 m 237 ls [])), ∀ (g : Mm) (x3 x4 x6 x7 s0 : Int32) (H : Heap) (locs : List Loc), va_P (dC, dI) vwCl (ob_ws shM ad cI cZ g) H → va_S (ob_A shM ad) s.heap H locs → ∀ (ls : Array Slot), lv_has ls 11 [(0, .ref (ad 0)), (3, .int x3), (4, .int x4), (6, .int x6), (7, .int x7)] → f_X7_last_J295 k237 g x3 x4 x6 x7 s0 = some (r, t) → W p l e (rmN d) s m args below meth c H locs 0 0 (MQ below (ob_Qi (dC, dI) vwCl shM ad cI cZ r t) args s 0 0 (ob_A shM ad)) (F0 m 295 ls [.int s0]) := by
    intro k237 hk237 g x3 x4 x6 x7 s0 H locs hM hS ls hl hf
    unfold f_X7_last_J295 at hf
    refine lv_istore (lv' := [(5, .int s0), (0, .ref (ad 0)), (3, .int x3), (4, .int x4), (6, .int x6), (7, .int x7)]) hx hb dX7_last_295 hl (by decide) rfl (fun ls hl => ?_)
    refine lv_iload hx hb dX7_last_297 (lv_at hl 5 rfl) ?_
    refine lv_iload hx hb dX7_last_299 (lv_at hl 3 rfl) ?_
    refine lv_icmp_le (tgt := 309) hx hb dX7_last_301 (by decide) (fun c24 => ?_) (fun c24 => ?_)
    · rw [if_pos c24] at hf
      refine lv_iload hx hb dX7_last_309 (lv_at hl 3 rfl) ?_
      exact w_311 k237 hk237 g x3 s0 x6 x4 _ _ hM hS _ (lv_sub hl [1, 2, 0, 4] rfl) hf
    · rw [if_neg c24] at hf
      refine lv_iload hx hb dX7_last_304 (lv_at hl 5 rfl) ?_
      refine lv_goto (tgt := 311) hx hb dX7_last_306 (by decide) ?_
      exact w_311 k237 hk237 g x3 s0 x6 x7 _ _ hM hS _ (lv_sub hl [1, 2, 0, 4] rfl) hf
  have w_279 : ∀ (k237 : Mm → Int32 → Int32 → Int32 → Int32 → Option (Int32 × Mm)) (hk237 : ∀ (g : Mm) (x3 x4 x5 x6 : Int32) (H : Heap) (locs : List Loc), va_P (dC, dI) vwCl (ob_ws shM ad cI cZ g) H → va_S (ob_A shM ad) s.heap H locs → ∀ (ls : Array Slot), lv_has ls 11 [(0, .ref (ad 0)), (3, .int x3), (4, .int x4), (5, .int x5), (6, .int x6)] → k237 g x3 x4 x5 x6 = some (r, t) → W p l e (rmN d) s m args below meth c H locs 0 0 (MQ below (ob_Qi (dC, dI) vwCl shM ad cI cZ r t) args s 0 0 (ob_A shM ad)) (F0 m 237 ls [])), ∀ (g : Mm) (x3 x4 x5 x6 s0 : Int32) (H : Heap) (locs : List Loc), va_P (dC, dI) vwCl (ob_ws shM ad cI cZ g) H → va_S (ob_A shM ad) s.heap H locs → ∀ (ls : Array Slot), lv_has ls 11 [(0, .ref (ad 0)), (3, .int x3), (4, .int x4), (5, .int x5), (6, .int x6)] → f_X7_last_J279 k237 g x3 x4 x5 x6 s0 = some (r, t) → W p l e (rmN d) s m args below meth c H locs 0 0 (MQ below (ob_Qi (dC, dI) vwCl shM ad cI cZ r t) args s 0 0 (ob_A shM ad)) (F0 m 279 ls [.int s0]) := by
    intro k237 hk237 g x3 x4 x5 x6 s0 H locs hM hS ls hl hf
    unfold f_X7_last_J279 at hf
    refine lv_istore (lv' := [(7, .int s0), (0, .ref (ad 0)), (3, .int x3), (4, .int x4), (5, .int x5), (6, .int x6)]) hx hb dX7_last_279 hl (by decide) rfl (fun ls hl => ?_)
    refine lv_iload hx hb dX7_last_281 (lv_at hl 0 rfl) ?_
    refine lv_iload hx hb dX7_last_283 (lv_at hl 3 rfl) ?_
    refine lv_icmp_le (tgt := 293) hx hb dX7_last_285 (by decide) (fun c20 => ?_) (fun c20 => ?_)
    · rw [if_pos c20] at hf
      refine lv_iload hx hb dX7_last_293 (lv_at hl 4 rfl) ?_
      exact w_295 k237 hk237 g x3 x4 x6 s0 x5 _ _ hM hS _ (lv_sub hl [1, 2, 3, 5, 0] rfl) hf
    · rw [if_neg c20] at hf
      refine lv_iload hx hb dX7_last_288 (lv_at hl 5 rfl) ?_
      refine lv_goto (tgt := 295) hx hb dX7_last_290 (by decide) ?_
      exact w_295 k237 hk237 g x3 x4 x6 s0 x6 _ _ hM hS _ (lv_sub hl [1, 2, 3, 5, 0] rfl) hf
  have w_237 : ∀ (n : Nat), ∀ (g : Mm) (x3 x4 x5 x6 : Int32) (H : Heap) (locs : List Loc), va_P (dC, dI) vwCl (ob_ws shM ad cI cZ g) H → va_S (ob_A shM ad) s.heap H locs → ∀ (ls : Array Slot), lv_has ls 11 [(0, .ref (ad 0)), (3, .int x3), (4, .int x4), (5, .int x5), (6, .int x6)] → f_X7_last_L237 n g x3 x4 x5 x6 = some (r, t) → W p l e (rmN d) s m args below meth c H locs 0 0 (MQ below (ob_Qi (dC, dI) vwCl shM ad cI cZ r t) args s 0 0 (ob_A shM ad)) (F0 m 237 ls []) := by
    intro n
    induction n with
    | zero =>
      intro g x3 x4 x5 x6 H locs hM hS ls hl hf
      cases hf
    | succ n ih =>
      intro g x3 x4 x5 x6 H locs hM hS ls hl hf
      unfold f_X7_last_L237 at hf
      refine lv_iload hx hb dX7_last_237 (lv_at hl 4 rfl) ?_
      refine lv_bipush (v := 10) hx hb dX7_last_239 (by decide) ?_
      refine lv_icmp_ge (tgt := 319) hx hb dX7_last_241 (by decide) (fun c12 => ?_) (fun c12 => ?_)
      · rw [if_pos c12] at hf
        refine lv_iload_n hx hb dX7_last_319 rfl (lv_at hl 1 rfl) ?_
        refine lv_if_ne (tgt := 328) hx hb dX7_last_320 (by decide) (fun c13 => ?_) (fun c13 => ?_)
        · rw [if_neg c13] at hf
          refine lv_iload hx hb dX7_last_328 (lv_at hl 3 rfl) ?_
          exact ob_iret hx hb hr hlocks hM hS (v := x5) rfl hf dX7_last_330
        · rw [if_pos c13] at hf
          refine lv_iload hx hb dX7_last_323 (lv_at hl 2 rfl) ?_
          refine lv_goto (tgt := 330) hx hb dX7_last_325 (by decide) ?_
          exact ob_iret hx hb hr hlocks hM hS (v := x4) rfl hf dX7_last_330
      · rw [if_neg c12] at hf
        refine lv_aload_n hx hb dX7_last_244 rfl (lv_at hl 0 rfl) ?_
        refine ob_gr (j := 7) hx hb hts in_own hown hK hM (q := 0) shM_0 (C := RX7) (T := TX7) (N := 18) rfl 7 (by decide) hf_28 rfl dX7_last_245 ?_
        refine lv_iconst (v := 0) hx hb dX7_last_248 (by decide) ?_
        obtain ⟨v14, e14, hf⟩ := ob_e1 hf
        refine ob_iald hx hb hK hM (q := 7) (n := 2) shM_7 e14 dX7_last_249 ?_
        refine lv_iload hx hb dX7_last_250 (lv_at hl 4 rfl) ?_
        obtain ⟨v15, e15, hf⟩ := ob_e1 hf
        refine ob_calli (va_runS (As := [.int v14, .int x6]) (rest := []) ⟨hx, hb, hml, hown, hts⟩ (c_X7_has l dC dI ad cI cZ hI 0 (Nat.le_refl _) g v14 x6  v15 e15) (va_cwS 2 hts gX7_last_X7_has rfl rfl rfl hd_X7_has (ob_R (Nat.le_trans (by decide) hd) (by decide))) (ob_preS hK hM) rfl rfl hl.1 rfl (lv_room (Nat.le_of_ble_eq_true rfl)) dX7_last_252 ⟨Nat.le_refl _, Nat.le_refl _⟩) hS (fun H locs hM hS => ?_)
        refine lv_if_eq (tgt := 278) hx hb dX7_last_255 (by decide) (fun c16 => ?_) (fun c16 => ?_)
        · rw [if_pos c16] at hf
          refine lv_iconst (v := 0) hx hb dX7_last_278 (by decide) ?_
          exact w_279 (f_X7_last_L237 n) ih g x3 x4 x5 x6 0 _ _ hM hS _ (lv_sub hl [0, 1, 2, 3, 4] rfl) hf
        · rw [if_neg c16] at hf
          refine lv_aload_n hx hb dX7_last_258 rfl (lv_at hl 0 rfl) ?_
          refine ob_gr (j := 6) hx hb hts in_own hown hK hM (q := 0) shM_0 (C := RX7) (T := TX7) (N := 18) rfl 6 (by decide) hf_25 rfl dX7_last_259 ?_
          refine lv_iconst (v := 1) hx hb dX7_last_262 (by decide) ?_
          refine lv_iload hx hb dX7_last_263 (lv_at hl 4 rfl) ?_
          refine lv_iconst (v := 1) hx hb dX7_last_265 (by decide) ?_
          refine lv_iload hx hb dX7_last_266 (lv_at hl 4 rfl) ?_
          refine lv_ishl hx hb dX7_last_268 ?_
          obtain ⟨v17, e17, hf⟩ := ob_e1 hf
          refine ob_calli (va_runS (As := [.int 1, .int x6, .int ((1 : Int32) <<< (x6 &&& 31))]) (rest := [.ref (ad 6)]) ⟨hx, hb, hml, hown, hts⟩ (c_X7_at l dC dI ad cI cZ hI 0 (Nat.le_refl _) g 1 x6 ((1 : Int32) <<< (x6 &&& 31))  v17 e17) (va_cwS 3 hts gX7_last_X7_at rfl rfl rfl hd_X7_at (ob_R (Nat.le_trans (by decide) hd) (by decide))) (ob_preS hK hM) rfl rfl hl.1 rfl (lv_room (Nat.le_of_ble_eq_true rfl)) dX7_last_269 ⟨Nat.le_refl _, Nat.le_refl _⟩) hS (fun H locs hM hS => ?_)
          obtain ⟨v18, e18, hf⟩ := ob_e1 hf
          refine ob_iald hx hb hK hM (q := 6) (n := 20480) shM_6 e18 dX7_last_272 ?_
          refine lv_iconst (v := 1) hx hb dX7_last_273 (by decide) ?_
          refine lv_iadd hx hb dX7_last_274 ?_
          refine lv_goto (tgt := 279) hx hb dX7_last_275 (by decide) ?_
          exact w_279 (f_X7_last_L237 n) ih g x3 x4 x5 x6 (v18 + 1) _ _ hM hS _ (lv_sub hl [0, 1, 2, 3, 4] rfl) hf
  subst ha
  have hl := lv_entry ([.ref (ad 0), .int x1, .int x2, .int x3]) (n := 11) (Nat.le_of_ble_eq_true rfl)
  rw [lg_entry_eq]
  generalize (lg_sl ([.ref (ad 0), .int x1, .int x2, .int x3]) ++ List.replicate (11 - (lg_sl ([.ref (ad 0), .int x1, .int x2, .int x3])).length) Slot.unset).toArray = ls at hl ⊢
  have hl : lv_has ls 11 [(0, .ref (ad 0)), (1, .int x1), (2, .int x2), (3, .int x3)] := hl
  have hM := hM0
  have hS := hS0
  unfold f_X7_last at hf
  refine lv_iload_n hx hb dX7_last_0 rfl (lv_at hl 1 rfl) ?_
  refine lv_iload_n hx hb dX7_last_1 rfl (lv_at hl 2 rfl) ?_
  obtain ⟨v1, e1, hf⟩ := ob_e1 hf
  refine ob_calli (va_runS (As := [.int x1, .int x2]) (rest := []) ⟨hx, hb, hml, hown, hts⟩ (c_X7_areTwo l dC dI ad cI cZ hI 2 (Nat.le_refl _) g x1 x2  v1 e1) (va_cwS 2 hts gX7_last_X7_areTwo rfl rfl rfl hd_X7_areTwo (ob_R (Nat.le_trans (by decide) hd) (by decide))) (ob_preS hK hM) rfl rfl hl.1 rfl (lv_room (Nat.le_of_ble_eq_true rfl)) dX7_last_2 ⟨Nat.le_refl _, Nat.le_refl _⟩) hS (fun H locs hM hS => ?_)
  refine lv_if_ne (tgt := 10) hx hb dX7_last_5 (by decide) (fun c2 => ?_) (fun c2 => ?_)
  · rw [if_neg c2] at hf
    refine lv_iload_n hx hb dX7_last_10 rfl (lv_at hl 3 rfl) ?_
    refine lv_iconst (v := 0) hx hb dX7_last_11 (by decide) ?_
    refine lv_iconst (v := 1) hx hb dX7_last_12 (by decide) ?_
    obtain ⟨v3, e3, hf⟩ := ob_e1 hf
    refine ob_calli (va_runS (As := [.int x3, .int 0, .int 1]) (rest := []) ⟨hx, hb, hml, hown, hts⟩ (c_X7_in l dC dI ad cI cZ hI 0 (Nat.le_refl _) g x3 0 1  v3 e3) (va_cwS 3 hts gX7_last_X7_in rfl rfl rfl hd_X7_in (ob_R (Nat.le_trans (by decide) hd) (by decide))) (ob_preS hK hM) rfl rfl hl.1 rfl (lv_room (Nat.le_of_ble_eq_true rfl)) dX7_last_13 ⟨Nat.le_refl _, Nat.le_refl _⟩) hS (fun H locs hM hS => ?_)
    refine lv_if_ne (tgt := 22) hx hb dX7_last_16 (by decide) (fun c4 => ?_) (fun c4 => ?_)
    · rw [if_neg c4] at hf
      refine lv_aload_n hx hb dX7_last_22 rfl (lv_at hl 0 rfl) ?_
      refine ob_gr (j := 7) hx hb hts in_own hown hK hM (q := 0) shM_0 (C := RX7) (T := TX7) (N := 18) rfl 7 (by decide) hf_28 rfl dX7_last_23 ?_
      refine lv_iconst (v := 0) hx hb dX7_last_26 (by decide) ?_
      refine lv_aload_n hx hb dX7_last_27 rfl (lv_at hl 0 rfl) ?_
      refine ob_gr (j := 5) hx hb hts in_own hown hK hM (q := 0) shM_0 (C := RX7) (T := TX7) (N := 18) rfl 5 (by decide) hf_22 rfl dX7_last_28 ?_
      refine lv_iload_n hx hb dX7_last_31 rfl (lv_at hl 1 rfl) ?_
      obtain ⟨v5, e5, hf⟩ := ob_e1 hf
      refine ob_iald hx hb hK hM (q := 5) (n := 5) shM_5 e5 dX7_last_32 ?_
      refine lv_aload_n hx hb dX7_last_33 rfl (lv_at hl 0 rfl) ?_
      refine lv_iload_n hx hb dX7_last_34 rfl (lv_at hl 2 rfl) ?_
      obtain ⟨v6, e6, hf⟩ := ob_e1 hf
      refine ob_calli (va_runV (As := [.int x2]) (rest := [.int v5, .int 0, .ref (ad 7)]) ⟨hx, hb, hml, hown, hts⟩ (c_X7_fitOf l dC dI ad cI cZ hI 0 (Nat.le_refl _) g x2  v6 e6) (cwV 1 hts gX7_last_X7_fitOf rfl rfl rfl ⟨rfl, hd_X7_fitOf⟩ (ob_R (Nat.le_trans (by decide) hd) (by decide))) (ob_preV hK hM (q := 0) shM_0 rfl) rfl rfl hl.1 rfl (lv_room (Nat.le_of_ble_eq_true rfl)) dX7_last_35 ⟨Nat.le_refl _, Nat.le_refl _⟩) hS (fun H locs hM hS => ?_)
      refine lv_iand hx hb dX7_last_38 ?_
      obtain ⟨g7, e7, hf⟩ := ob_e1 hf
      refine ob_iast hx hb hK hM hI hS (q := 7) (n := 2) shM_7 e7 dX7_last_39 (fun H locs hM hS => ?_)
      refine lv_aload_n hx hb dX7_last_40 rfl (lv_at hl 0 rfl) ?_
      refine ob_gr (j := 7) hx hb hts in_own hown hK hM (q := 0) shM_0 (C := RX7) (T := TX7) (N := 18) rfl 7 (by decide) hf_28 rfl dX7_last_41 ?_
      refine lv_iconst (v := 1) hx hb dX7_last_44 (by decide) ?_
      refine lv_aload_n hx hb dX7_last_45 rfl (lv_at hl 0 rfl) ?_
      refine ob_gr (j := 5) hx hb hts in_own hown hK hM (q := 0) shM_0 (C := RX7) (T := TX7) (N := 18) rfl 5 (by decide) hf_22 rfl dX7_last_46 ?_
      refine lv_iload_n hx hb dX7_last_49 rfl (lv_at hl 2 rfl) ?_
      obtain ⟨v8, e8, hf⟩ := ob_e1 hf
      refine ob_iald hx hb hK hM (q := 5) (n := 5) shM_5 e8 dX7_last_50 ?_
      refine lv_aload_n hx hb dX7_last_51 rfl (lv_at hl 0 rfl) ?_
      refine lv_iload_n hx hb dX7_last_52 rfl (lv_at hl 1 rfl) ?_
      obtain ⟨v9, e9, hf⟩ := ob_e1 hf
      refine ob_calli (va_runV (As := [.int x1]) (rest := [.int v8, .int 1, .ref (ad 7)]) ⟨hx, hb, hml, hown, hts⟩ (c_X7_fitOf l dC dI ad cI cZ hI 0 (Nat.le_refl _) g7 x1  v9 e9) (cwV 1 hts gX7_last_X7_fitOf rfl rfl rfl ⟨rfl, hd_X7_fitOf⟩ (ob_R (Nat.le_trans (by decide) hd) (by decide))) (ob_preV hK hM (q := 0) shM_0 rfl) rfl rfl hl.1 rfl (lv_room (Nat.le_of_ble_eq_true rfl)) dX7_last_53 ⟨Nat.le_refl _, Nat.le_refl _⟩) hS (fun H locs hM hS => ?_)
      refine lv_iand hx hb dX7_last_56 ?_
      obtain ⟨g10, e10, hf⟩ := ob_e1 hf
      refine ob_iast hx hb hK hM hI hS (q := 7) (n := 2) shM_7 e10 dX7_last_57 (fun H locs hM hS => ?_)
      refine lv_sipush (v := 1023) hx hb dX7_last_58 (by decide) ?_
      refine lv_istore (lv' := [(4, .int 1023), (0, .ref (ad 0)), (1, .int x1), (2, .int x2), (3, .int x3)]) hx hb dX7_last_61 hl (by decide) rfl (fun ls hl => ?_)
      exact w_63 (f_X7_last_L237 FU) (w_237 FU) FU g10 x3 1023 _ _ hM hS _ (lv_sub hl [1, 4, 0] rfl) hf
    · rw [if_pos c4] at hf
      refine lv_bipush (v := (-2)) hx hb dX7_last_19 (by decide) ?_
      exact ob_iret hx hb hr hlocks hM hS (v := (-2)) rfl hf dX7_last_21
  · rw [if_pos c2] at hf
    refine lv_iconst (v := (-1)) hx hb dX7_last_8 (by decide) ?_
    exact ob_iret hx hb hr hlocks hM hS (v := (-1)) rfl hf dX7_last_9
