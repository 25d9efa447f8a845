set_option maxHeartbeats 4000000 in
set_option maxRecDepth 100000 in
theorem c_X7_reachOf (l : Launch) (dC : Nat → ClassId) (dI : Nat → Nat → Nat) (ad : Nat → Nat) (cI cZ : ClassId) (hI : ob_inj shM ad) (d : Nat) (hd : 1 ≤ d) (g : Mm) (x1 : Int32) (r : Int32) (hf : f_X7_reachOf g x1 = some r) : ob_Mi l yX7_reachOf wsX7_reachOf d (dC, dI) vwCl shM ad cI cZ nwM [.ref (ad 0), .int x1] g r g := by
  refine ob_ofW (cc := cX7_reachOf) (maxL := 5) (ret := (some .int)) (by decide) rfl ?_
  intro p e s m args below meth c ha hx hb hr hml hts hown hlocks hM0 hK hS0
  have hown : s.vm.findClass RX7 = some m.cls := hown
  have in_own : ∀ w ∈ wsX70, w ∈ wsX7_reachOf := fun w h => (List.mem_cons_of_mem _ (List.mem_append_right _ h))
  have hf_13 := hts (.fieldLink RX7 13 "OneWorseModel" "book" "[I") (List.mem_cons_of_mem _ (List.mem_append_left _ (List.mem_of_getElem? (i := 0) rfl)))
  have w_46 : ∀ (k18 : Int32 → Int32 → Int32 → Option (Int32)) (hk18 : ∀ (x2 x3 x4 : Int32) (H : Heap) (locs : List Loc), va_P (dC, dI) vwCl (ob_ws shM ad cI cZ g) H → va_S (ob_A shM ad) s.heap H locs → ∀ (ls : Array Slot), lv_has ls 5 [(0, .ref (ad 0)), (2, .int x2), (3, .int x3), (4, .int x4)] → k18 x2 x3 x4 = some r → W p l e (rmN d) s m args below meth c H locs 0 0 (MQ below (ob_Qi (dC, dI) vwCl shM ad cI cZ r g) args s 0 0 (ob_A shM ad)) (F0 m 18 ls [])), ∀ (x3 x4 s0 s1 : Int32) (H : Heap) (locs : List Loc), va_P (dC, dI) vwCl (ob_ws shM ad cI cZ g) H → va_S (ob_A shM ad) s.heap H locs → ∀ (ls : Array Slot), lv_has ls 5 [(0, .ref (ad 0)), (3, .int x3), (4, .int x4)] → f_X7_reachOf_J46 g k18 x3 x4 s0 s1 = some r → W p l e (rmN d) s m args below meth c H locs 0 0 (MQ below (ob_Qi (dC, dI) vwCl shM ad cI cZ r g) args s 0 0 (ob_A shM ad)) (F0 m 46 ls [.int s0, .int s1]) := by
    intro k18 hk18 x3 x4 s0 s1 H locs hM hS ls hl hf
    unfold f_X7_reachOf_J46 at hf
    refine lv_ior hx hb dX7_reachOf_46 ?_
    refine lv_istore_n (lv' := [(2, .int (s1 ||| s0)), (0, .ref (ad 0)), (3, .int x3), (4, .int x4)]) hx hb dX7_reachOf_47 rfl hl (by decide) rfl (fun ls hl => ?_)
    refine lv_iinc (v := (x4 + 1)) (lv' := [(4, .int (x4 + 1)), (2, .int (s1 ||| s0)), (0, .ref (ad 0)), (3, .int x3)]) hx hb dX7_reachOf_48 hl (k := 3) rfl rfl (by decide) rfl (fun ls hl => ?_)
    refine lv_goto (tgt := 18) hx hb dX7_reachOf_51 (by decide) ?_
    exact hk18 (s1 ||| s0) x3 (x4 + 1) _ _ hM hS _ (lv_sub hl [2, 1, 3, 0] rfl) hf
  have w_18 : ∀ (k9 : Int32 → Int32 → Option (Int32)) (hk9 : ∀ (x2 x3 : Int32) (H : Heap) (locs : List Loc), va_P (dC, dI) vwCl (ob_ws shM ad cI cZ g) H → va_S (ob_A shM ad) s.heap H locs → ∀ (ls : Array Slot), lv_has ls 5 [(0, .ref (ad 0)), (2, .int x2), (3, .int x3)] → k9 x2 x3 = some r → W p l e (rmN d) s m args below meth c H locs 0 0 (MQ below (ob_Qi (dC, dI) vwCl shM ad cI cZ r g) args s 0 0 (ob_A shM ad)) (F0 m 9 ls [])) (n : Nat), ∀ (x2 x3 x4 : Int32) (H : Heap) (locs : List Loc), va_P (dC, dI) vwCl (ob_ws shM ad cI cZ g) H → va_S (ob_A shM ad) s.heap H locs → ∀ (ls : Array Slot), lv_has ls 5 [(0, .ref (ad 0)), (2, .int x2), (3, .int x3), (4, .int x4)] → f_X7_reachOf_L18 g k9 n x2 x3 x4 = some r → W p l e (rmN d) s m args below meth c H locs 0 0 (MQ below (ob_Qi (dC, dI) vwCl shM ad cI cZ r g) args s 0 0 (ob_A shM ad)) (F0 m 18 ls []) := by
    intro k9 hk9 n
    induction n with
    | zero =>
      intro x2 x3 x4 H locs hM hS ls hl hf
      cases hf
    | succ n ih =>
      intro x2 x3 x4 H locs hM hS ls hl hf
      unfold f_X7_reachOf_L18 at hf
      refine lv_iload hx hb dX7_reachOf_18 (lv_at hl 3 rfl) ?_
      refine lv_bipush (v := 10) hx hb dX7_reachOf_20 (by decide) ?_
      refine lv_icmp_ge (tgt := 54) hx hb dX7_reachOf_22 (by decide) (fun c3 => ?_) (fun c3 => ?_)
      · rw [if_pos c3] at hf
        refine lv_iinc (v := (x3 + 1)) (lv' := [(3, .int (x3 + 1)), (0, .ref (ad 0)), (2, .int x2), (4, .int x4)]) hx hb dX7_reachOf_54 hl (k := 2) rfl rfl (by decide) rfl (fun ls hl => ?_)
        refine lv_goto (tgt := 9) hx hb dX7_reachOf_57 (by decide) ?_
        exact hk9 x2 (x3 + 1) _ _ hM hS _ (lv_sub hl [1, 2, 0] rfl) hf
      · rw [if_neg c3] at hf
        refine lv_iload_n hx hb dX7_reachOf_25 rfl (lv_at hl 1 rfl) ?_
        refine lv_iload_n hx hb dX7_reachOf_26 rfl (lv_at hl 1 rfl) ?_
        refine lv_iload hx hb dX7_reachOf_27 (lv_at hl 3 rfl) ?_
        obtain ⟨v4, e4, hf⟩ := ob_e1 hf
        refine ob_calli (va_runS (As := [.int x2, .int x4]) (rest := [.int x2]) ⟨hx, hb, hml, hown, hts⟩ (c_X7_has l dC dI ad cI cZ hI 0 (Nat.le_refl _) g x2 x4  v4 e4) (va_cwS 2 hts gX7_reachOf_X7_has rfl rfl rfl hd_X7_has (ob_R (Nat.le_trans (by decide) hd) (by decide))) (ob_preS hK hM) rfl rfl hl.1 rfl (lv_room (Nat.le_of_ble_eq_true rfl)) dX7_reachOf_29 ⟨Nat.le_refl _, Nat.le_refl _⟩) hS (fun H locs hM hS => ?_)
        refine lv_if_eq (tgt := 45) hx hb dX7_reachOf_32 (by decide) (fun c5 => ?_) (fun c5 => ?_)
        · rw [if_pos c5] at hf
          refine lv_iconst (v := 0) hx hb dX7_reachOf_45 (by decide) ?_
          exact w_46 (f_X7_reachOf_L18 g k9 n) ih x3 x4 0 x2 _ _ hM hS _ (lv_sub hl [0, 2, 3] rfl) hf
        · rw [if_neg c5] at hf
          refine lv_aload_n hx hb dX7_reachOf_35 rfl (lv_at hl 0 rfl) ?_
          refine ob_gr (j := 2) hx hb hts in_own hown hK hM (q := 0) shM_0 (C := RX7) (T := TX7) (N := 18) rfl 2 (by decide) hf_13 rfl dX7_reachOf_36 ?_
          refine lv_iload hx hb dX7_reachOf_39 (lv_at hl 3 rfl) ?_
          obtain ⟨v6, e6, hf⟩ := ob_e1 hf
          refine ob_iald hx hb hK hM (q := 2) (n := 10) shM_2 e6 dX7_reachOf_41 ?_
          refine lv_goto (tgt := 46) hx hb dX7_reachOf_42 (by decide) ?_
          exact w_46 (f_X7_reachOf_L18 g k9 n) ih x3 x4 v6 x2 _ _ hM hS _ (lv_sub hl [0, 2, 3] rfl) hf
  have w_9 : ∀ (n : Nat), ∀ (x2 x3 : Int32) (H : Heap) (locs : List Loc), va_P (dC, dI) vwCl (ob_ws shM ad cI cZ g) H → va_S (ob_A shM ad) s.heap H locs → ∀ (ls : Array Slot), lv_has ls 5 [(0, .ref (ad 0)), (2, .int x2), (3, .int x3)] → f_X7_reachOf_L9 g n x2 x3 = some r → W p l e (rmN d) s m args below meth c H locs 0 0 (MQ below (ob_Qi (dC, dI) vwCl shM ad cI cZ r g) args s 0 0 (ob_A shM ad)) (F0 m 9 ls []) := by
    intro n
    induction n with
    | zero =>
      intro x2 x3 H locs hM hS ls hl hf
      cases hf
    | succ n ih =>
      intro x2 x3 H locs hM hS ls hl hf
      unfold f_X7_reachOf_L9 at hf
      refine lv_iload_n hx hb dX7_reachOf_9 rfl (lv_at hl 2 rfl) ?_
      refine lv_bipush (v := 10) hx hb dX7_reachOf_10 (by decide) ?_
      refine lv_icmp_ge (tgt := 60) hx hb dX7_reachOf_12 (by decide) (fun c2 => ?_) (fun c2 => ?_)
      · rw [if_pos c2] at hf
        refine lv_iload_n hx hb dX7_reachOf_60 rfl (lv_at hl 1 rfl) ?_
        exact ob_iretR hx hb hr hlocks hM hS (v := x2) rfl hf dX7_reachOf_61
      · rw [if_neg c2] at hf
        refine lv_iconst (v := 0) hx hb dX7_reachOf_15 (by decide) ?_
        refine lv_istore (lv' := [(4, .int 0), (0, .ref (ad 0)), (2, .int x2), (3, .int x3)]) hx hb dX7_reachOf_16 hl (by decide) rfl (fun ls hl => ?_)
        exact w_18 (f_X7_reachOf_L9 g n) ih FU x2 x3 0 _ _ hM hS _ (lv_sub hl [1, 2, 3, 0] rfl) hf
  subst ha
  have hl := lv_entry ([.ref (ad 0), .int x1]) (n := 5) (Nat.le_of_ble_eq_true rfl)
  rw [lg_entry_eq]
  generalize (lg_sl ([.ref (ad 0), .int x1]) ++ List.replicate (5 - (lg_sl ([.ref (ad 0), .int x1])).length) Slot.unset).toArray = ls at hl ⊢
  have hl : lv_has ls 5 [(0, .ref (ad 0)), (1, .int x1)] := hl
  have hM := hM0
  have hS := hS0
  unfold f_X7_reachOf at hf
  refine lv_aload_n hx hb dX7_reachOf_0 rfl (lv_at hl 0 rfl) ?_
  refine ob_gr (j := 2) hx hb hts in_own hown hK hM (q := 0) shM_0 (C := RX7) (T := TX7) (N := 18) rfl 2 (by decide) hf_13 rfl dX7_reachOf_1 ?_
  refine lv_iload_n hx hb dX7_reachOf_4 rfl (lv_at hl 1 rfl) ?_
  obtain ⟨v1, e1, hf⟩ := ob_e1 hf
  refine ob_iald hx hb hK hM (q := 2) (n := 10) shM_2 e1 dX7_reachOf_5 ?_
  refine lv_istore_n (lv' := [(2, .int v1), (0, .ref (ad 0)), (1, .int x1)]) hx hb dX7_reachOf_6 rfl hl (by decide) rfl (fun ls hl => ?_)
  refine lv_iconst (v := 0) hx hb dX7_reachOf_7 (by decide) ?_
  refine lv_istore_n (lv' := [(3, .int 0), (2, .int v1), (0, .ref (ad 0)), (1, .int x1)]) hx hb dX7_reachOf_8 rfl hl (by decide) rfl (fun ls hl => ?_)
  exact w_9 FU v1 0 _ _ hM hS _ (lv_sub hl [2, 1, 0] rfl) hf
set_option maxHeartbeats 4000000 in
set_option maxRecDepth 100000 in
theorem c_X7_rings (l : Launch) (dC : Nat → ClassId) (dI : Nat → Nat → Nat) (ad : Nat → Nat) (cI cZ : ClassId) (hI : ob_inj shM ad) (d : Nat) (hd : 2 ≤ d) (g : Mm) (x1 : Int32) (r : Int32) (hf : f_X7_rings g x1 = some r) : ob_Mi l yX7_rings wsX7_rings d (dC, dI) vwCl shM ad cI cZ nwM [.ref (ad 0), .int x1] g r g := by
  refine ob_ofW (cc := cX7_rings) (maxL := 5) (ret := (some .int)) (by decide) rfl ?_
  intro p e s m args below meth c ha hx hb hr hml hts hown hlocks hM0 hK hS0
  have hown : s.vm.findClass RX7 = some m.cls := hown
  have in_own : ∀ w ∈ wsX70, w ∈ wsX7_rings := fun w h => (List.mem_cons_of_mem _ (List.mem_append_right _ h))
  have hf_13 := hts (.fieldLink RX7 13 "OneWorseModel" "book" "[I") (List.mem_cons_of_mem _ (List.mem_append_left _ (List.mem_of_getElem? (i := 0) rfl)))
  have w_67 : ∀ (k16 : Int32 → Int32 → Int32 → Option (Int32)) (hk16 : ∀ (x1 x2 x3 : Int32) (H : Heap) (locs : List Loc), va_P (dC, dI) vwCl (ob_ws shM ad cI cZ g) H → va_S (ob_A shM ad) s.heap H locs → ∀ (ls : Array Slot), lv_has ls 5 [(0, .ref (ad 0)), (1, .int x1), (2, .int x2), (3, .int x3)] → k16 x1 x2 x3 = some r → W p l e (rmN d) s m args below meth c H locs 0 0 (MQ below (ob_Qi (dC, dI) vwCl shM ad cI cZ r g) args s 0 0 (ob_A shM ad)) (F0 m 16 ls [])), ∀ (x1 x3 s0 s1 : Int32) (H : Heap) (locs : List Loc), va_P (dC, dI) vwCl (ob_ws shM ad cI cZ g) H → va_S (ob_A shM ad) s.heap H locs → ∀ (ls : Array Slot), lv_has ls 5 [(0, .ref (ad 0)), (1, .int x1), (3, .int x3)] → f_X7_rings_J67 g k16 x1 x3 s0 s1 = some r → W p l e (rmN d) s m args below meth c H locs 0 0 (MQ below (ob_Qi (dC, dI) vwCl shM ad cI cZ r g) args s 0 0 (ob_A shM ad)) (F0 m 67 ls [.int s0, .int s1]) := by
    intro k16 hk16 x1 x3 s0 s1 H locs hM hS ls hl hf
    unfold f_X7_rings_J67 at hf
    refine lv_ior hx hb dX7_rings_67 ?_
    refine lv_istore_n (lv' := [(2, .int (s1 ||| s0)), (0, .ref (ad 0)), (1, .int x1), (3, .int x3)]) hx hb dX7_rings_68 rfl hl (by decide) rfl (fun ls hl => ?_)
    refine lv_iinc (v := (x3 + 1)) (lv' := [(3, .int (x3 + 1)), (2, .int (s1 ||| s0)), (0, .ref (ad 0)), (1, .int x1)]) hx hb dX7_rings_69 hl (k := 3) rfl rfl (by decide) rfl (fun ls hl => ?_)
    refine lv_goto (tgt := 16) hx hb dX7_rings_72 (by decide) ?_
    exact hk16 x1 (s1 ||| s0) (x3 + 1) _ _ hM hS _ (lv_sub hl [2, 3, 1, 0] rfl) hf
  have w_52 : ∀ (k16 : Int32 → Int32 → Int32 → Option (Int32)) (hk16 : ∀ (x1 x2 x3 : Int32) (H : Heap) (locs : List Loc), va_P (dC, dI) vwCl (ob_ws shM ad cI cZ g) H → va_S (ob_A shM ad) s.heap H locs → ∀ (ls : Array Slot), lv_has ls 5 [(0, .ref (ad 0)), (1, .int x1), (2, .int x2), (3, .int x3)] → k16 x1 x2 x3 = some r → W p l e (rmN d) s m args below meth c H locs 0 0 (MQ below (ob_Qi (dC, dI) vwCl shM ad cI cZ r g) args s 0 0 (ob_A shM ad)) (F0 m 16 ls [])), ∀ (x1 x2 x3 s0 : Int32) (H : Heap) (locs : List Loc), va_P (dC, dI) vwCl (ob_ws shM ad cI cZ g) H → va_S (ob_A shM ad) s.heap H locs → ∀ (ls : Array Slot), lv_has ls 5 [(0, .ref (ad 0)), (1, .int x1), (2, .int x2), (3, .int x3)] → f_X7_rings_J52 g k16 x1 x2 x3 s0 = some r → W p l e (rmN d) s m args below meth c H locs 0 0 (MQ below (ob_Qi (dC, dI) vwCl shM ad cI cZ r g) args s 0 0 (ob_A shM ad)) (F0 m 52 ls [.int s0]) := by
    intro k16 hk16 x1 x2 x3 s0 H locs hM hS ls hl hf
    unfold f_X7_rings_J52 at hf
    refine lv_istore (lv' := [(4, .int s0), (0, .ref (ad 0)), (1, .int x1), (2, .int x2), (3, .int x3)]) hx hb dX7_rings_52 hl (by decide) rfl (fun ls hl => ?_)
    refine lv_iload_n hx hb dX7_rings_54 rfl (lv_at hl 3 rfl) ?_
    refine lv_iload hx hb dX7_rings_55 (lv_at hl 0 rfl) ?_
    refine lv_if_eq (tgt := 66) hx hb dX7_rings_57 (by decide) (fun c9 => ?_) (fun c9 => ?_)
    · rw [if_pos c9] at hf
      refine lv_iconst (v := 0) hx hb dX7_rings_66 (by decide) ?_
      exact w_67 k16 hk16 x1 x3 0 x2 _ _ hM hS _ (lv_sub hl [1, 2, 4] rfl) hf
    · rw [if_neg c9] at hf
      refine lv_iconst (v := 1) hx hb dX7_rings_60 (by decide) ?_
      refine lv_iload_n hx hb dX7_rings_61 rfl (lv_at hl 4 rfl) ?_
      refine lv_ishl hx hb dX7_rings_62 ?_
      refine lv_goto (tgt := 67) hx hb dX7_rings_63 (by decide) ?_
      exact w_67 k16 hk16 x1 x3 ((1 : Int32) <<< (x3 &&& 31)) x2 _ _ hM hS _ (lv_sub hl [1, 2, 4] rfl) hf
  have w_16 : ∀ (n : Nat), ∀ (x1 x2 x3 : Int32) (H : Heap) (locs : List Loc), va_P (dC, dI) vwCl (ob_ws shM ad cI cZ g) H → va_S (ob_A shM ad) s.heap H locs → ∀ (ls : Array Slot), lv_has ls 5 [(0, .ref (ad 0)), (1, .int x1), (2, .int x2), (3, .int x3)] → f_X7_rings_L16 g n x1 x2 x3 = some r → W p l e (rmN d) s m args below meth c H locs 0 0 (MQ below (ob_Qi (dC, dI) vwCl shM ad cI cZ r g) args s 0 0 (ob_A shM ad)) (F0 m 16 ls []) := by
    intro n
    induction n with
    | zero =>
      intro x1 x2 x3 H locs hM hS ls hl hf
      cases hf
    | succ n ih =>
      intro x1 x2 x3 H locs hM hS ls hl hf
      unfold f_X7_rings_L16 at hf
      refine lv_iload_n hx hb dX7_rings_16 rfl (lv_at hl 3 rfl) ?_
      refine lv_bipush (v := 10) hx hb dX7_rings_17 (by decide) ?_
      refine lv_icmp_ge (tgt := 75) hx hb dX7_rings_19 (by decide) (fun c3 => ?_) (fun c3 => ?_)
      · rw [if_pos c3] at hf
        refine lv_iload_n hx hb dX7_rings_75 rfl (lv_at hl 2 rfl) ?_
        exact ob_iretR hx hb hr hlocks hM hS (v := x2) rfl hf dX7_rings_76
      · rw [if_neg c3] at hf
        refine lv_iload_n hx hb dX7_rings_22 rfl (lv_at hl 1 rfl) ?_
        refine lv_if_ne (tgt := 38) hx hb dX7_rings_23 (by decide) (fun c4 => ?_) (fun c4 => ?_)
        · rw [if_neg c4] at hf
          refine lv_aload_n hx hb dX7_rings_38 rfl (lv_at hl 0 rfl) ?_
          refine ob_gr (j := 2) hx hb hts in_own hown hK hM (q := 0) shM_0 (C := RX7) (T := TX7) (N := 18) rfl 2 (by decide) hf_13 rfl dX7_rings_39 ?_
          refine lv_iload_n hx hb dX7_rings_42 rfl (lv_at hl 3 rfl) ?_
          obtain ⟨v5, e5, hf⟩ := ob_e1 hf
          refine ob_iald hx hb hK hM (q := 2) (n := 10) shM_2 e5 dX7_rings_43 ?_
          refine lv_if_ne (tgt := 51) hx hb dX7_rings_44 (by decide) (fun c6 => ?_) (fun c6 => ?_)
          · rw [if_neg c6] at hf
            refine lv_iconst (v := 0) hx hb dX7_rings_51 (by decide) ?_
            exact w_52 (f_X7_rings_L16 g n) ih x1 x2 x3 0 _ _ hM hS _ (lv_sub hl [0, 1, 2, 3] rfl) hf
          · rw [if_pos c6] at hf
            refine lv_iconst (v := 1) hx hb dX7_rings_47 (by decide) ?_
            refine lv_goto (tgt := 52) hx hb dX7_rings_48 (by decide) ?_
            exact w_52 (f_X7_rings_L16 g n) ih x1 x2 x3 1 _ _ hM hS _ (lv_sub hl [0, 1, 2, 3] rfl) hf
        · rw [if_pos c4] at hf
          refine lv_aload_n hx hb dX7_rings_26 rfl (lv_at hl 0 rfl) ?_
          refine lv_iload_n hx hb dX7_rings_27 rfl (lv_at hl 3 rfl) ?_
          obtain ⟨v7, e7, hf⟩ := ob_e1 hf
          refine ob_calli (va_runV (As := [.int x3]) (rest := []) ⟨hx, hb, hml, hown, hts⟩ (c_X7_reachOf l dC dI ad cI cZ hI 1 (Nat.le_refl _) g x3  v7 e7) (cwV 1 hts gX7_rings_X7_reachOf rfl rfl rfl ⟨rfl, hd_X7_reachOf⟩ (ob_R (Nat.le_trans (by decide) hd) (by decide))) (ob_preV hK hM (q := 0) shM_0 rfl) rfl rfl hl.1 rfl (lv_room (Nat.le_of_ble_eq_true rfl)) dX7_rings_28 ⟨Nat.le_refl _, Nat.le_refl _⟩) hS (fun H locs hM hS => ?_)
          refine lv_iload_n hx hb dX7_rings_31 rfl (lv_at hl 3 rfl) ?_
          obtain ⟨v8, e8, hf⟩ := ob_e1 hf
          refine ob_calli (va_runS (As := [.int v7, .int x3]) (rest := []) ⟨hx, hb, hml, hown, hts⟩ (c_X7_has l dC dI ad cI cZ hI 0 (Nat.le_refl _) g v7 x3  v8 e8) (va_cwS 2 hts gX7_rings_X7_has rfl rfl rfl hd_X7_has (ob_R (Nat.le_trans (by decide) hd) (by decide))) (ob_preS hK hM) rfl rfl hl.1 rfl (lv_room (Nat.le_of_ble_eq_true rfl)) dX7_rings_32 ⟨Nat.le_refl _, Nat.le_refl _⟩) hS (fun H locs hM hS => ?_)
          refine lv_goto (tgt := 52) hx hb dX7_rings_35 (by decide) ?_
          exact w_52 (f_X7_rings_L16 g n) ih x1 x2 x3 v8 _ _ hM hS _ (lv_sub hl [0, 1, 2, 3] rfl) hf
  subst ha
  have hl := lv_entry ([.ref (ad 0), .int x1]) (n := 5) (Nat.le_of_ble_eq_true rfl)
  rw [lg_entry_eq]
  generalize (lg_sl ([.ref (ad 0), .int x1]) ++ List.replicate (5 - (lg_sl ([.ref (ad 0), .int x1])).length) Slot.unset).toArray = ls at hl ⊢
  have hl : lv_has ls 5 [(0, .ref (ad 0)), (1, .int x1)] := hl
  have hM := hM0
  have hS := hS0
  unfold f_X7_rings at hf
  refine lv_iload_n hx hb dX7_rings_0 rfl (lv_at hl 1 rfl) ?_
  refine lv_iconst (v := 0) hx hb dX7_rings_1 (by decide) ?_
  refine lv_iconst (v := 1) hx hb dX7_rings_2 (by decide) ?_
  obtain ⟨v1, e1, hf⟩ := ob_e1 hf
  refine ob_calli (va_runS (As := [.int x1, .int 0, .int 1]) (rest := []) ⟨hx, hb, hml, hown, hts⟩ (c_X7_in l dC dI ad cI cZ hI 0 (Nat.le_refl _) g x1 0 1  v1 e1) (va_cwS 3 hts gX7_rings_X7_in rfl rfl rfl hd_X7_in (ob_R (Nat.le_trans (by decide) hd) (by decide))) (ob_preS hK hM) rfl rfl hl.1 rfl (lv_room (Nat.le_of_ble_eq_true rfl)) dX7_rings_3 ⟨Nat.le_refl _, Nat.le_refl _⟩) hS (fun H locs hM hS => ?_)
  refine lv_if_ne (tgt := 12) hx hb dX7_rings_6 (by decide) (fun c2 => ?_) (fun c2 => ?_)
  · rw [if_neg c2] at hf
    refine lv_iconst (v := 0) hx hb dX7_rings_12 (by decide) ?_
    refine lv_istore_n (lv' := [(2, .int 0), (0, .ref (ad 0)), (1, .int x1)]) hx hb dX7_rings_13 rfl hl (by decide) rfl (fun ls hl => ?_)
    refine lv_iconst (v := 0) hx hb dX7_rings_14 (by decide) ?_
    refine lv_istore_n (lv' := [(3, .int 0), (2, .int 0), (0, .ref (ad 0)), (1, .int x1)]) hx hb dX7_rings_15 rfl hl (by decide) rfl (fun ls hl => ?_)
    exact w_16 FU x1 0 0 _ _ hM hS _ (lv_sub hl [2, 3, 1, 0] rfl) hf
  · rw [if_pos c2] at hf
    refine lv_bipush (v := (-2)) hx hb dX7_rings_9 (by decide) ?_
    exact ob_iretR hx hb hr hlocks hM hS (v := (-2)) rfl hf dX7_rings_11
set_option maxHeartbeats 4000000 in
set_option maxRecDepth 100000 in
theorem c_X7_ladder (l : Launch) (dC : Nat → ClassId) (dI : Nat → Nat → Nat) (ad : Nat → Nat) (cI cZ : ClassId) (hI : ob_inj shM ad) (d : Nat) (hd : 1 ≤ d) (g : Mm) (x1 : Int32) (r : Int32) (t : Mm) (hf : f_X7_ladder g x1 = some (r, t)) : ob_Mi l yX7_ladder wsX7_ladder d (dC, dI) vwCl shM ad cI cZ nwM [.ref (ad 0), .int x1] g r t := by
  refine ob_ofW (cc := cX7_ladder) (maxL := 7) (ret := (some .int)) (by decide) rfl ?_
  intro p e s m args below meth c ha hx hb hr hml hts hown hlocks hM0 hK hS0
  have hown : s.vm.findClass RX7 = some m.cls := hown
  have in_own : ∀ w ∈ wsX70, w ∈ wsX7_ladder := fun w h => (List.mem_cons_of_mem _ (List.mem_append_right _ h))
  have hf_44 := hts (.fieldLink RX7 44 "OneWorseModel" "back" "[I") (List.mem_cons_of_mem _ (List.mem_append_left _ (List.mem_of_getElem? (i := 0) rfl)))
  have hf_13 := hts (.fieldLink RX7 13 "OneWorseModel" "book" "[I") (List.mem_cons_of_mem _ (List.mem_append_left _ (List.mem_of_getElem? (i := 1) rfl)))
  have hf_47 := hts (.fieldLink RX7 47 "OneWorseModel" "placeOf" "[I") (List.mem_cons_of_mem _ (List.mem_append_left _ (List.mem_of_getElem? (i := 2) rfl)))
  have w_94 : ∀ (k28 : Mm → Int32 → Int32 → Int32 → Option (Int32 × Mm)) (hk28 : ∀ (g : Mm) (x1 x2 x3 : Int32) (H : Heap) (locs : List Loc), va_P (dC, dI) vwCl (ob_ws shM ad cI cZ g) H → va_S (ob_A shM ad) s.heap H locs → ∀ (ls : Array Slot), lv_has ls 7 [(0, .ref (ad 0)), (1, .int x1), (2, .int x2), (3, .int x3)] → k28 g x1 x2 x3 = some (r, t) → W p l e (rmN d) s m args below meth c H locs 0 0 (MQ below (ob_Qi (dC, dI) vwCl shM ad cI cZ r t) args s 0 0 (ob_A shM ad)) (F0 m 28 ls [])), ∀ (g : Mm) (x1 x2 x3 : Int32) (H : Heap) (locs : List Loc), va_P (dC, dI) vwCl (ob_ws shM ad cI cZ g) H → va_S (ob_A shM ad) s.heap H locs → ∀ (ls : Array Slot), lv_has ls 7 [(0, .ref (ad 0)), (1, .int x1), (2, .int x2), (3, .int x3)] → f_X7_ladder_J94 k28 g x1 x2 x3 = some (r, t) → W p l e (rmN d) s m args below meth c H locs 0 0 (MQ below (ob_Qi (dC, dI) vwCl shM ad cI cZ r t) args s 0 0 (ob_A shM ad)) (F0 m 94 ls []) := by
    intro k28 hk28 g x1 x2 x3 H locs hM hS ls hl hf
    unfold f_X7_ladder_J94 at hf
    refine lv_iinc (v := (x3 + 1)) (lv' := [(3, .int (x3 + 1)), (0, .ref (ad 0)), (1, .int x1), (2, .int x2)]) hx hb dX7_ladder_94 hl (k := 3) rfl rfl (by decide) rfl (fun ls hl => ?_)
    refine lv_goto (tgt := 28) hx hb dX7_ladder_97 (by decide) ?_
    exact hk28 g x1 x2 (x3 + 1) _ _ hM hS _ (lv_sub hl [1, 2, 3, 0] rfl) hf
  have w_93 : ∀ (k28 : Mm → Int32 → Int32 → Int32 → Option (Int32 × Mm)) (hk28 : ∀ (g : Mm) (x1 x2 x3 : Int32) (H : Heap) (locs : List Loc), va_P (dC, dI) vwCl (ob_ws shM ad cI cZ g) H → va_S (ob_A shM ad) s.heap H locs → ∀ (ls : Array Slot), lv_has ls 7 [(0, .ref (ad 0)), (1, .int x1), (2, .int x2), (3, .int x3)] → k28 g x1 x2 x3 = some (r, t) → W p l e (rmN d) s m args below meth c H locs 0 0 (MQ below (ob_Qi (dC, dI) vwCl shM ad cI cZ r t) args s 0 0 (ob_A shM ad)) (F0 m 28 ls [])), ∀ (g : Mm) (x1 x2 x3 s0 s1 : Int32) (H : Heap) (locs : List Loc), va_P (dC, dI) vwCl (ob_ws shM ad cI cZ g) H → va_S (ob_A shM ad) s.heap H locs → ∀ (ls : Array Slot), lv_has ls 7 [(0, .ref (ad 0)), (1, .int x1), (2, .int x2), (3, .int x3)] → f_X7_ladder_J93 k28 g x1 x2 x3 s0 s1 = some (r, t) → W p l e (rmN d) s m args below meth c H locs 0 0 (MQ below (ob_Qi (dC, dI) vwCl shM ad cI cZ r t) args s 0 0 (ob_A shM ad)) (F0 m 93 ls [.int s0, .int s1, .ref (ad 12)]) := by
    intro k28 hk28 g x1 x2 x3 s0 s1 H locs hM hS ls hl hf
    unfold f_X7_ladder_J93 at hf
    obtain ⟨g33, e33, hf⟩ := ob_e1 hf
    refine ob_iast hx hb hK hM hI hS (q := 12) (n := 1024) shM_12 e33 dX7_ladder_93 (fun H locs hM hS => ?_)
    exact w_94 k28 hk28 g33 x1 x2 x3 _ _ hM hS _ (lv_sub hl [0, 1, 2, 3] rfl) hf
  have w_28 : ∀ (k13 : Mm → Int32 → Int32 → Option (Int32 × Mm)) (hk13 : ∀ (g : Mm) (x1 x2 : Int32) (H : Heap) (locs : List Loc), va_P (dC, dI) vwCl (ob_ws shM ad cI cZ g) H → va_S (ob_A shM ad) s.heap H locs → ∀ (ls : Array Slot), lv_has ls 7 [(0, .ref (ad 0)), (1, .int x1), (2, .int x2)] → k13 g x1 x2 = some (r, t) → W p l e (rmN d) s m args below meth c H locs 0 0 (MQ below (ob_Qi (dC, dI) vwCl shM ad cI cZ r t) args s 0 0 (ob_A shM ad)) (F0 m 13 ls [])) (n : Nat), ∀ (g : Mm) (x1 x2 x3 : Int32) (H : Heap) (locs : List Loc), va_P (dC, dI) vwCl (ob_ws shM ad cI cZ g) H → va_S (ob_A shM ad) s.heap H locs → ∀ (ls : Array Slot), lv_has ls 7 [(0, .ref (ad 0)), (1, .int x1), (2, .int x2), (3, .int x3)] → f_X7_ladder_L28 k13 n g x1 x2 x3 = some (r, t) → W p l e (rmN d) s m args below meth c H locs 0 0 (MQ below (ob_Qi (dC, dI) vwCl shM ad cI cZ r t) args s 0 0 (ob_A shM ad)) (F0 m 28 ls []) := by
    intro k13 hk13 n
    induction n with
    | zero =>
      intro g x1 x2 x3 H locs hM hS ls hl hf
      cases hf
    | succ n ih =>
      intro g x1 x2 x3 H locs hM hS ls hl hf
      unfold f_X7_ladder_L28 at hf
      refine lv_iload_n hx hb dX7_ladder_28 rfl (lv_at hl 3 rfl) ?_
      refine lv_bipush (v := 10) hx hb dX7_ladder_29 (by decide) ?_
      refine lv_icmp_ge (tgt := 100) hx hb dX7_ladder_31 (by decide) (fun c7 => ?_) (fun c7 => ?_)
      · rw [if_pos c7] at hf
        refine lv_iinc (v := (x2 + (-1))) (lv' := [(2, .int (x2 + (-1))), (0, .ref (ad 0)), (1, .int x1), (3, .int x3)]) hx hb dX7_ladder_100 hl (k := 2) rfl rfl (by decide) rfl (fun ls hl => ?_)
        refine lv_goto (tgt := 13) hx hb dX7_ladder_103 (by decide) ?_
        exact hk13 g x1 (x2 + (-1)) _ _ hM hS _ (lv_sub hl [1, 2, 0] rfl) hf
      · rw [if_neg c7] at hf
        refine lv_iload_n hx hb dX7_ladder_34 rfl (lv_at hl 2 rfl) ?_
        refine lv_iload_n hx hb dX7_ladder_35 rfl (lv_at hl 3 rfl) ?_
        obtain ⟨v8, e8, hf⟩ := ob_e1 hf
        refine ob_calli (va_runS (As := [.int x2, .int x3]) (rest := []) ⟨hx, hb, hml, hown, hts⟩ (c_X7_has l dC dI ad cI cZ hI 0 (Nat.le_refl _) g x2 x3  v8 e8) (va_cwS 2 hts gX7_ladder_X7_has rfl rfl rfl hd_X7_has (ob_R (Nat.le_trans (by decide) hd) (by decide))) (ob_preS hK hM) rfl rfl hl.1 rfl (lv_room (Nat.le_of_ble_eq_true rfl)) dX7_ladder_36 ⟨Nat.le_refl _, Nat.le_refl _⟩) hS (fun H locs hM hS => ?_)
        refine lv_if_ne (tgt := 94) hx hb dX7_ladder_39 (by decide) (fun c9 => ?_) (fun c9 => ?_)
        · rw [if_neg c9] at hf
          exact w_94 (f_X7_ladder_L28 k13 n) ih g x1 x2 x3 _ _ hM hS _ (lv_sub hl [0, 1, 2, 3] rfl) hf
        · rw [if_pos c9] at hf
          refine lv_aload_n hx hb dX7_ladder_42 rfl (lv_at hl 0 rfl) ?_
          refine ob_gr (j := 2) hx hb hts in_own hown hK hM (q := 0) shM_0 (C := RX7) (T := TX7) (N := 18) rfl 2 (by decide) hf_13 rfl dX7_ladder_43 ?_
          refine lv_iload_n hx hb dX7_ladder_46 rfl (lv_at hl 3 rfl) ?_
          obtain ⟨v10, e10, hf⟩ := ob_e1 hf
          refine ob_iald hx hb hK hM (q := 2) (n := 10) shM_2 e10 dX7_ladder_47 ?_
          refine lv_iload_n hx hb dX7_ladder_48 rfl (lv_at hl 2 rfl) ?_
          refine lv_iand hx hb dX7_ladder_49 ?_
          obtain ⟨v11, e11, hf⟩ := ob_e1 hf
          refine ob_calli (va_runS (As := [.int (v10 &&& x2)]) (rest := []) ⟨hx, hb, hml, hown, hts⟩ (c_X7_bits l dC dI ad cI cZ hI 0 (Nat.le_refl _) g (v10 &&& x2)  v11 e11) (va_cwS 1 hts gX7_ladder_X7_bits rfl rfl rfl hd_X7_bits (ob_R (Nat.le_trans (by decide) hd) (by decide))) (ob_preS hK hM) rfl rfl hl.1 rfl (lv_room (Nat.le_of_ble_eq_true rfl)) dX7_ladder_50 ⟨Nat.le_refl _, Nat.le_refl _⟩) hS (fun H locs hM hS => ?_)
          refine lv_aload_n hx hb dX7_ladder_53 rfl (lv_at hl 0 rfl) ?_
          refine ob_gr (j := 12) hx hb hts in_own hown hK hM (q := 0) shM_0 (C := RX7) (T := TX7) (N := 18) rfl 13 (by decide) hf_44 rfl dX7_ladder_54 ?_
          refine lv_iload_n hx hb dX7_ladder_57 rfl (lv_at hl 2 rfl) ?_
          refine lv_iconst (v := 1) hx hb dX7_ladder_58 (by decide) ?_
          refine lv_iload_n hx hb dX7_ladder_59 rfl (lv_at hl 3 rfl) ?_
          refine lv_ishl hx hb dX7_ladder_60 ?_
          refine lv_ior hx hb dX7_ladder_61 ?_
          obtain ⟨v12, e12, hf⟩ := ob_e1 hf
          refine ob_iald hx hb hK hM (q := 12) (n := 1024) shM_12 e12 dX7_ladder_62 ?_
          refine lv_iadd hx hb dX7_ladder_63 ?_
          refine lv_istore (lv' := [(4, .int (v11 + v12)), (0, .ref (ad 0)), (1, .int x1), (2, .int x2), (3, .int x3)]) hx hb dX7_ladder_64 hl (by decide) rfl (fun ls hl => ?_)
          refine lv_aload_n hx hb dX7_ladder_66 rfl (lv_at hl 1 rfl) ?_
          refine ob_gr (j := 12) hx hb hts in_own hown hK hM (q := 0) shM_0 (C := RX7) (T := TX7) (N := 18) rfl 13 (by decide) hf_44 rfl dX7_ladder_67 ?_
          refine lv_iload_n hx hb dX7_ladder_70 rfl (lv_at hl 3 rfl) ?_
          refine lv_iload hx hb dX7_ladder_71 (lv_at hl 0 rfl) ?_
          refine lv_aload_n hx hb dX7_ladder_73 rfl (lv_at hl 1 rfl) ?_
          refine ob_gr (j := 12) hx hb hts in_own hown hK hM (q := 0) shM_0 (C := RX7) (T := TX7) (N := 18) rfl 13 (by decide) hf_44 rfl dX7_ladder_74 ?_
          refine lv_iload_n hx hb dX7_ladder_77 rfl (lv_at hl 3 rfl) ?_
          obtain ⟨v13, e13, hf⟩ := ob_e1 hf
          refine ob_iald hx hb hK hM (q := 12) (n := 1024) shM_12 e13 dX7_ladder_78 ?_
          refine lv_icmp_ge (tgt := 87) hx hb dX7_ladder_79 (by decide) (fun c14 => ?_) (fun c14 => ?_)
          · rw [if_pos c14] at hf
            refine lv_aload_n hx hb dX7_ladder_87 rfl (lv_at hl 1 rfl) ?_
            refine ob_gr (j := 12) hx hb hts in_own hown hK hM (q := 0) shM_0 (C := RX7) (T := TX7) (N := 18) rfl 13 (by decide) hf_44 rfl dX7_ladder_88 ?_
            refine lv_iload_n hx hb dX7_ladder_91 rfl (lv_at hl 3 rfl) ?_
            obtain ⟨v15, e15, hf⟩ := ob_e1 hf
            refine ob_iald hx hb hK hM (q := 12) (n := 1024) shM_12 e15 dX7_ladder_92 ?_
            exact w_93 (f_X7_ladder_L28 k13 n) ih g x1 x2 x3 v15 x2 _ _ hM hS _ (lv_sub hl [1, 2, 3, 4] rfl) hf
          · rw [if_neg c14] at hf
            refine lv_iload hx hb dX7_ladder_82 (lv_at hl 0 rfl) ?_
            refine lv_goto (tgt := 93) hx hb dX7_ladder_84 (by decide) ?_
            exact w_93 (f_X7_ladder_L28 k13 n) ih g x1 x2 x3 (v11 + v12) x2 _ _ hM hS _ (lv_sub hl [1, 2, 3, 4] rfl) hf
  have w_13 : ∀ (k122 : Mm → Int32 → Int32 → Int32 → Option (Int32 × Mm)) (hk122 : ∀ (g : Mm) (x1 x2 x3 : Int32) (H : Heap) (locs : List Loc), va_P (dC, dI) vwCl (ob_ws shM ad cI cZ g) H → va_S (ob_A shM ad) s.heap H locs → ∀ (ls : Array Slot), lv_has ls 7 [(0, .ref (ad 0)), (1, .int x1), (2, .int x2), (3, .int x3)] → k122 g x1 x2 x3 = some (r, t) → W p l e (rmN d) s m args below meth c H locs 0 0 (MQ below (ob_Qi (dC, dI) vwCl shM ad cI cZ r t) args s 0 0 (ob_A shM ad)) (F0 m 122 ls [])) (n : Nat), ∀ (g : Mm) (x1 x2 : Int32) (H : Heap) (locs : List Loc), va_P (dC, dI) vwCl (ob_ws shM ad cI cZ g) H → va_S (ob_A shM ad) s.heap H locs → ∀ (ls : Array Slot), lv_has ls 7 [(0, .ref (ad 0)), (1, .int x1), (2, .int x2)] → f_X7_ladder_L13 k122 n g x1 x2 = some (r, t) → W p l e (rmN d) s m args below meth c H locs 0 0 (MQ below (ob_Qi (dC, dI) vwCl shM ad cI cZ r t) args s 0 0 (ob_A shM ad)) (F0 m 13 ls []) := by
    intro k122 hk122 n
    induction n with
    | zero =>
      intro g x1 x2 H locs hM hS ls hl hf
      cases hf
    | succ n ih =>
      intro g x1 x2 H locs hM hS ls hl hf
      unfold f_X7_ladder_L13 at hf
      refine lv_iload_n hx hb dX7_ladder_13 rfl (lv_at hl 2 rfl) ?_
      refine lv_if_lt (tgt := 106) hx hb dX7_ladder_14 (by decide) (fun c2 => ?_) (fun c2 => ?_)
      · rw [if_pos c2] at hf
        refine lv_iload_n hx hb dX7_ladder_106 rfl (lv_at hl 1 rfl) ?_
        refine lv_iconst (v := (-1)) hx hb dX7_ladder_107 (by decide) ?_
        refine lv_icmp_ne (tgt := 118) hx hb dX7_ladder_108 (by decide) (fun c3 => ?_) (fun c3 => ?_)
        · rw [if_neg c3] at hf
          refine lv_iconst (v := 0) hx hb dX7_ladder_118 (by decide) ?_
          refine lv_istore_n (lv' := [(2, .int 0), (0, .ref (ad 0)), (1, .int x1)]) hx hb dX7_ladder_119 rfl hl (by decide) rfl (fun ls hl => ?_)
          refine lv_iconst (v := 0) hx hb dX7_ladder_120 (by decide) ?_
          refine lv_istore_n (lv' := [(3, .int 0), (2, .int 0), (0, .ref (ad 0)), (1, .int x1)]) hx hb dX7_ladder_121 rfl hl (by decide) rfl (fun ls hl => ?_)
          exact hk122 g x1 0 0 _ _ hM hS _ (lv_sub hl [2, 3, 1, 0] rfl) hf
        · rw [if_pos c3] at hf
          refine lv_aload_n hx hb dX7_ladder_111 rfl (lv_at hl 0 rfl) ?_
          refine ob_gr (j := 12) hx hb hts in_own hown hK hM (q := 0) shM_0 (C := RX7) (T := TX7) (N := 18) rfl 13 (by decide) hf_44 rfl dX7_ladder_112 ?_
          refine lv_iconst (v := 0) hx hb dX7_ladder_115 (by decide) ?_
          obtain ⟨v4, e4, hf⟩ := ob_e1 hf
          refine ob_iald hx hb hK hM (q := 12) (n := 1024) shM_12 e4 dX7_ladder_116 ?_
          exact ob_iret hx hb hr hlocks hM hS (v := v4) rfl hf dX7_ladder_117
      · rw [if_neg c2] at hf
        refine lv_aload_n hx hb dX7_ladder_17 rfl (lv_at hl 0 rfl) ?_
        refine ob_gr (j := 12) hx hb hts in_own hown hK hM (q := 0) shM_0 (C := RX7) (T := TX7) (N := 18) rfl 13 (by decide) hf_44 rfl dX7_ladder_18 ?_
        refine lv_iload_n hx hb dX7_ladder_21 rfl (lv_at hl 2 rfl) ?_
        refine lv_sipush (v := 1000) hx hb dX7_ladder_22 (by decide) ?_
        obtain ⟨g5, e5, hf⟩ := ob_e1 hf
        refine ob_iast hx hb hK hM hI hS (q := 12) (n := 1024) shM_12 e5 dX7_ladder_25 (fun H locs hM hS => ?_)
        refine lv_iconst (v := 0) hx hb dX7_ladder_26 (by decide) ?_
        refine lv_istore_n (lv' := [(3, .int 0), (0, .ref (ad 0)), (1, .int x1), (2, .int x2)]) hx hb dX7_ladder_27 rfl hl (by decide) rfl (fun ls hl => ?_)
        exact w_28 (f_X7_ladder_L13 k122 n) ih FU g5 x1 x2 0 _ _ hM hS _ (lv_sub hl [1, 2, 3, 0] rfl) hf
  have w_208 : ∀ (k135 : Mm → Int32 → Int32 → Int32 → Int32 → Int32 → Option (Int32 × Mm)) (hk135 : ∀ (g : Mm) (x1 x2 x3 x4 x5 : Int32) (H : Heap) (locs : List Loc), va_P (dC, dI) vwCl (ob_ws shM ad cI cZ g) H → va_S (ob_A shM ad) s.heap H locs → ∀ (ls : Array Slot), lv_has ls 7 [(0, .ref (ad 0)), (1, .int x1), (2, .int x2), (3, .int x3), (4, .int x4), (5, .int x5)] → k135 g x1 x2 x3 x4 x5 = some (r, t) → W p l e (rmN d) s m args below meth c H locs 0 0 (MQ below (ob_Qi (dC, dI) vwCl shM ad cI cZ r t) args s 0 0 (ob_A shM ad)) (F0 m 135 ls [])), ∀ (g : Mm) (x1 x2 x3 x5 s0 : Int32) (H : Heap) (locs : List Loc), va_P (dC, dI) vwCl (ob_ws shM ad cI cZ g) H → va_S (ob_A shM ad) s.heap H locs → ∀ (ls : Array Slot), lv_has ls 7 [(0, .ref (ad 0)), (1, .int x1), (2, .int x2), (3, .int x3), (5, .int x5)] → f_X7_ladder_J208 k135 g x1 x2 x3 x5 s0 = some (r, t) → W p l e (rmN d) s m args below meth c H locs 0 0 (MQ below (ob_Qi (dC, dI) vwCl shM ad cI cZ r t) args s 0 0 (ob_A shM ad)) (F0 m 208 ls [.int s0]) := by
    intro k135 hk135 g x1 x2 x3 x5 s0 H locs hM hS ls hl hf
    unfold f_X7_ladder_J208 at hf
    refine lv_istore (lv' := [(4, .int s0), (0, .ref (ad 0)), (1, .int x1), (2, .int x2), (3, .int x3), (5, .int x5)]) hx hb dX7_ladder_208 hl (by decide) rfl (fun ls hl => ?_)
    refine lv_iinc (v := (x5 + 1)) (lv' := [(5, .int (x5 + 1)), (4, .int s0), (0, .ref (ad 0)), (1, .int x1), (2, .int x2), (3, .int x3)]) hx hb dX7_ladder_210 hl (k := 5) rfl rfl (by decide) rfl (fun ls hl => ?_)
    refine lv_goto (tgt := 135) hx hb dX7_ladder_213 (by decide) ?_
    exact hk135 g x1 x2 x3 s0 (x5 + 1) _ _ hM hS _ (lv_sub hl [2, 3, 4, 5, 1, 0] rfl) hf
  have w_194 : ∀ (k135 : Mm → Int32 → Int32 → Int32 → Int32 → Int32 → Option (Int32 × Mm)) (hk135 : ∀ (g : Mm) (x1 x2 x3 x4 x5 : Int32) (H : Heap) (locs : List Loc), va_P (dC, dI) vwCl (ob_ws shM ad cI cZ g) H → va_S (ob_A shM ad) s.heap H locs → ∀ (ls : Array Slot), lv_has ls 7 [(0, .ref (ad 0)), (1, .int x1), (2, .int x2), (3, .int x3), (4, .int x4), (5, .int x5)] → k135 g x1 x2 x3 x4 x5 = some (r, t) → W p l e (rmN d) s m args below meth c H locs 0 0 (MQ below (ob_Qi (dC, dI) vwCl shM ad cI cZ r t) args s 0 0 (ob_A shM ad)) (F0 m 135 ls [])), ∀ (g : Mm) (x1 x2 x3 x5 s0 : Int32) (H : Heap) (locs : List Loc), va_P (dC, dI) vwCl (ob_ws shM ad cI cZ g) H → va_S (ob_A shM ad) s.heap H locs → ∀ (ls : Array Slot), lv_has ls 7 [(0, .ref (ad 0)), (1, .int x1), (2, .int x2), (3, .int x3), (5, .int x5)] → f_X7_ladder_J194 k135 g x1 x2 x3 x5 s0 = some (r, t) → W p l e (rmN d) s m args below meth c H locs 0 0 (MQ below (ob_Qi (dC, dI) vwCl shM ad cI cZ r t) args s 0 0 (ob_A shM ad)) (F0 m 194 ls [.int s0]) := by
    intro k135 hk135 g x1 x2 x3 x5 s0 H locs hM hS ls hl hf
    unfold f_X7_ladder_J194 at hf
    refine lv_istore (lv' := [(6, .int s0), (0, .ref (ad 0)), (1, .int x1), (2, .int x2), (3, .int x3), (5, .int x5)]) hx hb dX7_ladder_194 hl (by decide) rfl (fun ls hl => ?_)
    refine lv_iload hx hb dX7_ladder_196 (lv_at hl 0 rfl) ?_
    refine lv_if_eq (tgt := 206) hx hb dX7_ladder_198 (by decide) (fun c35 => ?_) (fun c35 => ?_)
    · rw [if_pos c35] at hf
      refine lv_bipush (v := (-6)) hx hb dX7_ladder_206 (by decide) ?_
      exact w_208 k135 hk135 g x1 x2 x3 x5 (-6) _ _ hM hS _ (lv_sub hl [1, 2, 3, 4, 5] rfl) hf
    · rw [if_neg c35] at hf
      refine lv_iload hx hb dX7_ladder_201 (lv_at hl 5 rfl) ?_
      refine lv_goto (tgt := 208) hx hb dX7_ladder_203 (by decide) ?_
      exact w_208 k135 hk135 g x1 x2 x3 x5 x5 _ _ hM hS _ (lv_sub hl [1, 2, 3, 4, 5] rfl) hf
  have w_193 : ∀ (k135 : Mm → Int32 → Int32 → Int32 → Int32 → Int32 → Option (Int32 × Mm)) (hk135 : ∀ (g : Mm) (x1 x2 x3 x4 x5 : Int32) (H : Heap) (locs : List Loc), va_P (dC, dI) vwCl (ob_ws shM ad cI cZ g) H → va_S (ob_A shM ad) s.heap H locs → ∀ (ls : Array Slot), lv_has ls 7 [(0, .ref (ad 0)), (1, .int x1), (2, .int x2), (3, .int x3), (4, .int x4), (5, .int x5)] → k135 g x1 x2 x3 x4 x5 = some (r, t) → W p l e (rmN d) s m args below meth c H locs 0 0 (MQ below (ob_Qi (dC, dI) vwCl shM ad cI cZ r t) args s 0 0 (ob_A shM ad)) (F0 m 135 ls [])), ∀ (g : Mm) (x1 x2 x3 x5 : Int32) (H : Heap) (locs : List Loc), va_P (dC, dI) vwCl (ob_ws shM ad cI cZ g) H → va_S (ob_A shM ad) s.heap H locs → ∀ (ls : Array Slot), lv_has ls 7 [(0, .ref (ad 0)), (1, .int x1), (2, .int x2), (3, .int x3), (5, .int x5)] → f_X7_ladder_J193 k135 g x1 x2 x3 x5 = some (r, t) → W p l e (rmN d) s m args below meth c H locs 0 0 (MQ below (ob_Qi (dC, dI) vwCl shM ad cI cZ r t) args s 0 0 (ob_A shM ad)) (F0 m 193 ls []) := by
    intro k135 hk135 g x1 x2 x3 x5 H locs hM hS ls hl hf
    unfold f_X7_ladder_J193 at hf
    refine lv_iconst (v := 0) hx hb dX7_ladder_193 (by decide) ?_
    exact w_194 k135 hk135 g x1 x2 x3 x5 0 _ _ hM hS _ (lv_sub hl [0, 1, 2, 3, 4] rfl) hf
  have w_135 : ∀ (k216 : Mm → Int32 → Int32 → Int32 → Int32 → Option (Int32 × Mm)) (hk216 : ∀ (g : Mm) (x1 x2 x3 x4 : Int32) (H : Heap) (locs : List Loc), va_P (dC, dI) vwCl (ob_ws shM ad cI cZ g) H → va_S (ob_A shM ad) s.heap H locs → ∀ (ls : Array Slot), lv_has ls 7 [(0, .ref (ad 0)), (1, .int x1), (2, .int x2), (3, .int x3), (4, .int x4)] → k216 g x1 x2 x3 x4 = some (r, t) → W p l e (rmN d) s m args below meth c H locs 0 0 (MQ below (ob_Qi (dC, dI) vwCl shM ad cI cZ r t) args s 0 0 (ob_A shM ad)) (F0 m 216 ls [])) (n : Nat), ∀ (g : Mm) (x1 x2 x3 x4 x5 : Int32) (H : Heap) (locs : List Loc), va_P (dC, dI) vwCl (ob_ws shM ad cI cZ g) H → va_S (ob_A shM ad) s.heap H locs → ∀ (ls : Array Slot), lv_has ls 7 [(0, .ref (ad 0)), (1, .int x1), (2, .int x2), (3, .int x3), (4, .int x4), (5, .int x5)] → f_X7_ladder_L135 k216 n g x1 x2 x3 x4 x5 = some (r, t) → W p l e (rmN d) s m args below meth c H locs 0 0 (MQ below (ob_Qi (dC, dI) vwCl shM ad cI cZ r t) args s 0 0 (ob_A shM ad)) (F0 m 135 ls []) := by
    intro k216 hk216 n
    induction n with
    | zero =>
      intro g x1 x2 x3 x4 x5 H locs hM hS ls hl hf
      cases hf
    | succ n ih =>
      intro g x1 x2 x3 x4 x5 H locs hM hS ls hl hf
      unfold f_X7_ladder_L135 at hf
      refine lv_iload hx hb dX7_ladder_135 (lv_at hl 5 rfl) ?_
      refine lv_bipush (v := 10) hx hb dX7_ladder_137 (by decide) ?_
      refine lv_icmp_ge (tgt := 216) hx hb dX7_ladder_139 (by decide) (fun c24 => ?_) (fun c24 => ?_)
      · rw [if_pos c24] at hf
        exact hk216 g x1 x2 x3 x4 _ _ hM hS _ (lv_sub hl [0, 1, 2, 3, 4] rfl) hf
      · rw [if_neg c24] at hf
        refine lv_iload hx hb dX7_ladder_142 (lv_at hl 4 rfl) ?_
        refine lv_if_ge (tgt := 216) hx hb dX7_ladder_144 (by decide) (fun c25 => ?_) (fun c25 => ?_)
        · rw [if_pos c25] at hf
          exact hk216 g x1 x2 x3 x4 _ _ hM hS _ (lv_sub hl [0, 1, 2, 3, 4] rfl) hf
        · rw [if_neg c25] at hf
          refine lv_iload_n hx hb dX7_ladder_147 rfl (lv_at hl 2 rfl) ?_
          refine lv_iload hx hb dX7_ladder_148 (lv_at hl 5 rfl) ?_
          obtain ⟨v26, e26, hf⟩ := ob_e1 hf
          refine ob_calli (va_runS (As := [.int x2, .int x5]) (rest := []) ⟨hx, hb, hml, hown, hts⟩ (c_X7_has l dC dI ad cI cZ hI 0 (Nat.le_refl _) g x2 x5  v26 e26) (va_cwS 2 hts gX7_ladder_X7_has rfl rfl rfl hd_X7_has (ob_R (Nat.le_trans (by decide) hd) (by decide))) (ob_preS hK hM) rfl rfl hl.1 rfl (lv_room (Nat.le_of_ble_eq_true rfl)) dX7_ladder_150 ⟨Nat.le_refl _, Nat.le_refl _⟩) hS (fun H locs hM hS => ?_)
          refine lv_if_ne (tgt := 193) hx hb dX7_ladder_153 (by decide) (fun c27 => ?_) (fun c27 => ?_)
          · rw [if_neg c27] at hf
            exact w_193 (f_X7_ladder_L135 k216 n) ih g x1 x2 x3 x5 _ _ hM hS _ (lv_sub hl [0, 1, 2, 3, 5] rfl) hf
          · rw [if_pos c27] at hf
            refine lv_aload_n hx hb dX7_ladder_156 rfl (lv_at hl 0 rfl) ?_
            refine ob_gr (j := 2) hx hb hts in_own hown hK hM (q := 0) shM_0 (C := RX7) (T := TX7) (N := 18) rfl 2 (by decide) hf_13 rfl dX7_ladder_157 ?_
            refine lv_iload hx hb dX7_ladder_160 (lv_at hl 5 rfl) ?_
            obtain ⟨v28, e28, hf⟩ := ob_e1 hf
            refine ob_iald hx hb hK hM (q := 2) (n := 10) shM_2 e28 dX7_ladder_162 ?_
            refine lv_iload_n hx hb dX7_ladder_163 rfl (lv_at hl 2 rfl) ?_
            refine lv_iand hx hb dX7_ladder_164 ?_
            obtain ⟨v29, e29, hf⟩ := ob_e1 hf
            refine ob_calli (va_runS (As := [.int (v28 &&& x2)]) (rest := []) ⟨hx, hb, hml, hown, hts⟩ (c_X7_bits l dC dI ad cI cZ hI 0 (Nat.le_refl _) g (v28 &&& x2)  v29 e29) (va_cwS 1 hts gX7_ladder_X7_bits rfl rfl rfl hd_X7_bits (ob_R (Nat.le_trans (by decide) hd) (by decide))) (ob_preS hK hM) rfl rfl hl.1 rfl (lv_room (Nat.le_of_ble_eq_true rfl)) dX7_ladder_165 ⟨Nat.le_refl _, Nat.le_refl _⟩) hS (fun H locs hM hS => ?_)
            refine lv_aload_n hx hb dX7_ladder_168 rfl (lv_at hl 0 rfl) ?_
            refine ob_gr (j := 12) hx hb hts in_own hown hK hM (q := 0) shM_0 (C := RX7) (T := TX7) (N := 18) rfl 13 (by decide) hf_44 rfl dX7_ladder_169 ?_
            refine lv_iload_n hx hb dX7_ladder_172 rfl (lv_at hl 2 rfl) ?_
            refine lv_iconst (v := 1) hx hb dX7_ladder_173 (by decide) ?_
            refine lv_iload hx hb dX7_ladder_174 (lv_at hl 5 rfl) ?_
            refine lv_ishl hx hb dX7_ladder_176 ?_
            refine lv_ior hx hb dX7_ladder_177 ?_
            obtain ⟨v30, e30, hf⟩ := ob_e1 hf
            refine ob_iald hx hb hK hM (q := 12) (n := 1024) shM_12 e30 dX7_ladder_178 ?_
            refine lv_iadd hx hb dX7_ladder_179 ?_
            refine lv_aload_n hx hb dX7_ladder_180 rfl (lv_at hl 0 rfl) ?_
            refine ob_gr (j := 12) hx hb hts in_own hown hK hM (q := 0) shM_0 (C := RX7) (T := TX7) (N := 18) rfl 13 (by decide) hf_44 rfl dX7_ladder_181 ?_
            refine lv_iload_n hx hb dX7_ladder_184 rfl (lv_at hl 2 rfl) ?_
            obtain ⟨v31, e31, hf⟩ := ob_e1 hf
            refine ob_iald hx hb hK hM (q := 12) (n := 1024) shM_12 e31 dX7_ladder_185 ?_
            refine lv_icmp_ne (tgt := 193) hx hb dX7_ladder_186 (by decide) (fun c32 => ?_) (fun c32 => ?_)
            · rw [if_neg c32] at hf
              exact w_193 (f_X7_ladder_L135 k216 n) ih g x1 x2 x3 x5 _ _ hM hS _ (lv_sub hl [0, 1, 2, 3, 5] rfl) hf
            · rw [if_pos c32] at hf
              refine lv_iconst (v := 1) hx hb dX7_ladder_189 (by decide) ?_
              refine lv_goto (tgt := 194) hx hb dX7_ladder_190 (by decide) ?_
              exact w_194 (f_X7_ladder_L135 k216 n) ih g x1 x2 x3 x5 1 _ _ hM hS _ (lv_sub hl [0, 1, 2, 3, 5] rfl) hf
  have w_216 : ∀ (k122 : Mm → Int32 → Int32 → Int32 → Option (Int32 × Mm)) (hk122 : ∀ (g : Mm) (x1 x2 x3 : Int32) (H : Heap) (locs : List Loc), va_P (dC, dI) vwCl (ob_ws shM ad cI cZ g) H → va_S (ob_A shM ad) s.heap H locs → ∀ (ls : Array Slot), lv_has ls 7 [(0, .ref (ad 0)), (1, .int x1), (2, .int x2), (3, .int x3)] → k122 g x1 x2 x3 = some (r, t) → W p l e (rmN d) s m args below meth c H locs 0 0 (MQ below (ob_Qi (dC, dI) vwCl shM ad cI cZ r t) args s 0 0 (ob_A shM ad)) (F0 m 122 ls [])), ∀ (g : Mm) (x1 x2 x3 x4 : Int32) (H : Heap) (locs : List Loc), va_P (dC, dI) vwCl (ob_ws shM ad cI cZ g) H → va_S (ob_A shM ad) s.heap H locs → ∀ (ls : Array Slot), lv_has ls 7 [(0, .ref (ad 0)), (1, .int x1), (2, .int x2), (3, .int x3), (4, .int x4)] → f_X7_ladder_J216 k122 g x1 x2 x3 x4 = some (r, t) → W p l e (rmN d) s m args below meth c H locs 0 0 (MQ below (ob_Qi (dC, dI) vwCl shM ad cI cZ r t) args s 0 0 (ob_A shM ad)) (F0 m 216 ls []) := by
    intro k122 hk122 g x1 x2 x3 x4 H locs hM hS ls hl hf
    unfold f_X7_ladder_J216 at hf
    refine lv_aload_n hx hb dX7_ladder_216 rfl (lv_at hl 0 rfl) ?_
    refine ob_gr (j := 13) hx hb hts in_own hown hK hM (q := 0) shM_0 (C := RX7) (T := TX7) (N := 18) rfl 14 (by decide) hf_47 rfl dX7_ladder_217 ?_
    refine lv_iload hx hb dX7_ladder_220 (lv_at hl 4 rfl) ?_
    refine lv_iload_n hx hb dX7_ladder_222 rfl (lv_at hl 3 rfl) ?_
    obtain ⟨g34, e34, hf⟩ := ob_e1 hf
    refine ob_iast hx hb hK hM hI hS (q := 13) (n := 10) shM_13 e34 dX7_ladder_223 (fun H locs hM hS => ?_)
    refine lv_iload_n hx hb dX7_ladder_224 rfl (lv_at hl 2 rfl) ?_
    refine lv_iconst (v := 1) hx hb dX7_ladder_225 (by decide) ?_
    refine lv_iload hx hb dX7_ladder_226 (lv_at hl 4 rfl) ?_
    refine lv_ishl hx hb dX7_ladder_228 ?_
    refine lv_ior hx hb dX7_ladder_229 ?_
    refine lv_istore_n (lv' := [(2, .int (x2 ||| ((1 : Int32) <<< (x4 &&& 31)))), (0, .ref (ad 0)), (1, .int x1), (3, .int x3), (4, .int x4)]) hx hb dX7_ladder_230 rfl hl (by decide) rfl (fun ls hl => ?_)
    refine lv_iinc (v := (x3 + 1)) (lv' := [(3, .int (x3 + 1)), (2, .int (x2 ||| ((1 : Int32) <<< (x4 &&& 31)))), (0, .ref (ad 0)), (1, .int x1), (4, .int x4)]) hx hb dX7_ladder_231 hl (k := 3) rfl rfl (by decide) rfl (fun ls hl => ?_)
    refine lv_goto (tgt := 122) hx hb dX7_ladder_234 (by decide) ?_
    exact hk122 g34 x1 (x2 ||| ((1 : Int32) <<< (x4 &&& 31))) (x3 + 1) _ _ hM hS _ (lv_sub hl [2, 3, 1, 0] rfl) hf
  have w_122 : ∀ (k242 : Mm → Int32 → Int32 → Int32 → Option (Int32 × Mm)) (hk242 : ∀ (g : Mm) (x1 x3 x4 : Int32) (H : Heap) (locs : List Loc), va_P (dC, dI) vwCl (ob_ws shM ad cI cZ g) H → va_S (ob_A shM ad) s.heap H locs → ∀ (ls : Array Slot), lv_has ls 7 [(0, .ref (ad 0)), (1, .int x1), (3, .int x3), (4, .int x4)] → k242 g x1 x3 x4 = some (r, t) → W p l e (rmN d) s m args below meth c H locs 0 0 (MQ below (ob_Qi (dC, dI) vwCl shM ad cI cZ r t) args s 0 0 (ob_A shM ad)) (F0 m 242 ls [])) (n : Nat), ∀ (g : Mm) (x1 x2 x3 : Int32) (H : Heap) (locs : List Loc), va_P (dC, dI) vwCl (ob_ws shM ad cI cZ g) H → va_S (ob_A shM ad) s.heap H locs → ∀ (ls : Array Slot), lv_has ls 7 [(0, .ref (ad 0)), (1, .int x1), (2, .int x2), (3, .int x3)] → f_X7_ladder_L122 k242 n g x1 x2 x3 = some (r, t) → W p l e (rmN d) s m args below meth c H locs 0 0 (MQ below (ob_Qi (dC, dI) vwCl shM ad cI cZ r t) args s 0 0 (ob_A shM ad)) (F0 m 122 ls []) := by
    intro k242 hk242 n
    induction n with
    | zero =>
      intro g x1 x2 x3 H locs hM hS ls hl hf
      cases hf
    | succ n ih =>
      intro g x1 x2 x3 H locs hM hS ls hl hf
      unfold f_X7_ladder_L122 at hf
      refine lv_iload_n hx hb dX7_ladder_122 rfl (lv_at hl 3 rfl) ?_
      refine lv_bipush (v := 10) hx hb dX7_ladder_123 (by decide) ?_
      refine lv_icmp_ge (tgt := 237) hx hb dX7_ladder_125 (by decide) (fun c6 => ?_) (fun c6 => ?_)
      · rw [if_pos c6] at hf
        refine lv_iconst (v := 0) hx hb dX7_ladder_237 (by decide) ?_
        refine lv_istore_n (lv' := [(3, .int 0), (0, .ref (ad 0)), (1, .int x1), (2, .int x2)]) hx hb dX7_ladder_238 rfl hl (by decide) rfl (fun ls hl => ?_)
        refine lv_iconst (v := 0) hx hb dX7_ladder_239 (by decide) ?_
        refine lv_istore (lv' := [(4, .int 0), (3, .int 0), (0, .ref (ad 0)), (1, .int x1), (2, .int x2)]) hx hb dX7_ladder_240 hl (by decide) rfl (fun ls hl => ?_)
        exact hk242 g x1 0 0 _ _ hM hS _ (lv_sub hl [2, 3, 1, 0] rfl) hf
      · rw [if_neg c6] at hf
        refine lv_bipush (v := (-6)) hx hb dX7_ladder_128 (by decide) ?_
        refine lv_istore (lv' := [(4, .int (-6)), (0, .ref (ad 0)), (1, .int x1), (2, .int x2), (3, .int x3)]) hx hb dX7_ladder_130 hl (by decide) rfl (fun ls hl => ?_)
        refine lv_iconst (v := 0) hx hb dX7_ladder_132 (by decide) ?_
        refine lv_istore (lv' := [(5, .int 0), (4, .int (-6)), (0, .ref (ad 0)), (1, .int x1), (2, .int x2), (3, .int x3)]) hx hb dX7_ladder_133 hl (by decide) rfl (fun ls hl => ?_)
        exact w_135 (f_X7_ladder_J216 (f_X7_ladder_L122 k242 n)) (w_216 (f_X7_ladder_L122 k242 n) ih) FU g x1 x2 x3 (-6) 0 _ _ hM hS _ (lv_sub hl [2, 3, 4, 5, 1, 0] rfl) hf
  have w_304 : ∀ (k242 : Mm → Int32 → Int32 → Int32 → Option (Int32 × Mm)) (hk242 : ∀ (g : Mm) (x1 x3 x4 : Int32) (H : Heap) (locs : List Loc), va_P (dC, dI) vwCl (ob_ws shM ad cI cZ g) H → va_S (ob_A shM ad) s.heap H locs → ∀ (ls : Array Slot), lv_has ls 7 [(0, .ref (ad 0)), (1, .int x1), (3, .int x3), (4, .int x4)] → k242 g x1 x3 x4 = some (r, t) → W p l e (rmN d) s m args below meth c H locs 0 0 (MQ below (ob_Qi (dC, dI) vwCl shM ad cI cZ r t) args s 0 0 (ob_A shM ad)) (F0 m 242 ls [])), ∀ (g : Mm) (x1 x3 x4 : Int32) (H : Heap) (locs : List Loc), va_P (dC, dI) vwCl (ob_ws shM ad cI cZ g) H → va_S (ob_A shM ad) s.heap H locs → ∀ (ls : Array Slot), lv_has ls 7 [(0, .ref (ad 0)), (1, .int x1), (3, .int x3), (4, .int x4)] → f_X7_ladder_J304 k242 g x1 x3 x4 = some (r, t) → W p l e (rmN d) s m args below meth c H locs 0 0 (MQ below (ob_Qi (dC, dI) vwCl shM ad cI cZ r t) args s 0 0 (ob_A shM ad)) (F0 m 304 ls []) := by
    intro k242 hk242 g x1 x3 x4 H locs hM hS ls hl hf
    unfold f_X7_ladder_J304 at hf
    refine lv_iinc (v := (x4 + 1)) (lv' := [(4, .int (x4 + 1)), (0, .ref (ad 0)), (1, .int x1), (3, .int x3)]) hx hb dX7_ladder_304 hl (k := 3) rfl rfl (by decide) rfl (fun ls hl => ?_)
    refine lv_goto (tgt := 242) hx hb dX7_ladder_307 (by decide) ?_
    exact hk242 g x1 x3 (x4 + 1) _ _ hM hS _ (lv_sub hl [1, 2, 3, 0] rfl) hf
  have w_242 : ∀ (n : Nat), ∀ (g : Mm) (x1 x3 x4 : Int32) (H : Heap) (locs : List Loc), va_P (dC, dI) vwCl (ob_ws shM ad cI cZ g) H → va_S (ob_A shM ad) s.heap H locs → ∀ (ls : Array Slot), lv_has ls 7 [(0, .ref (ad 0)), (1, .int x1), (3, .int x3), (4, .int x4)] → f_X7_ladder_L242 n g x1 x3 x4 = some (r, t) → W p l e (rmN d) s m args below meth c H locs 0 0 (MQ below (ob_Qi (dC, dI) vwCl shM ad cI cZ r t) args s 0 0 (ob_A shM ad)) (F0 m 242 ls []) := by
    intro n
    induction n with
    | zero =>
      intro g x1 x3 x4 H locs hM hS ls hl hf
      cases hf
    | succ n ih =>
      intro g x1 x3 x4 H locs hM hS ls hl hf
      unfold f_X7_ladder_L242 at hf
      refine lv_iload hx hb dX7_ladder_242 (lv_at hl 3 rfl) ?_
      refine lv_bipush (v := 100) hx hb dX7_ladder_244 (by decide) ?_
      refine lv_icmp_ge (tgt := 310) hx hb dX7_ladder_246 (by decide) (fun c16 => ?_) (fun c16 => ?_)
      · rw [if_pos c16] at hf
        refine lv_bipush (v := (-6)) hx hb dX7_ladder_310 (by decide) ?_
        exact ob_iret hx hb hr hlocks hM hS (v := (-6)) rfl hf dX7_ladder_312
      · rw [if_neg c16] at hf
        refine lv_aload_n hx hb dX7_ladder_249 rfl (lv_at hl 0 rfl) ?_
        refine ob_gr (j := 2) hx hb hts in_own hown hK hM (q := 0) shM_0 (C := RX7) (T := TX7) (N := 18) rfl 2 (by decide) hf_13 rfl dX7_ladder_250 ?_
        refine lv_iload hx hb dX7_ladder_253 (lv_at hl 3 rfl) ?_
        refine lv_bipush (v := 10) hx hb dX7_ladder_255 (by decide) ?_
        refine lv_idiv hx hb dX7_ladder_257 (by decide) ?_
        obtain ⟨v17, e17, hf⟩ := ob_e1 hf
        refine ob_iald hx hb hK hM (q := 2) (n := 10) shM_2 e17 dX7_ladder_258 ?_
        refine lv_iload hx hb dX7_ladder_259 (lv_at hl 3 rfl) ?_
        refine lv_bipush (v := 10) hx hb dX7_ladder_261 (by decide) ?_
        refine lv_irem hx hb dX7_ladder_263 (by decide) ?_
        obtain ⟨v18, e18, hf⟩ := ob_e1 hf
        refine ob_calli (va_runS (As := [.int v17, .int (x4 - x4 / 10 * 10)]) (rest := []) ⟨hx, hb, hml, hown, hts⟩ (c_X7_has l dC dI ad cI cZ hI 0 (Nat.le_refl _) g v17 (x4 - x4 / 10 * 10)  v18 e18) (va_cwS 2 hts gX7_ladder_X7_has rfl rfl rfl hd_X7_has (ob_R (Nat.le_trans (by decide) hd) (by decide))) (ob_preS hK hM) rfl rfl hl.1 rfl (lv_room (Nat.le_of_ble_eq_true rfl)) dX7_ladder_264 ⟨Nat.le_refl _, Nat.le_refl _⟩) hS (fun H locs hM hS => ?_)
        refine lv_if_eq (tgt := 304) hx hb dX7_ladder_267 (by decide) (fun c19 => ?_) (fun c19 => ?_)
        · rw [if_pos c19] at hf
          exact w_304 (f_X7_ladder_L242 n) ih g x1 x3 x4 _ _ hM hS _ (lv_sub hl [0, 1, 2, 3] rfl) hf
        · rw [if_neg c19] at hf
          refine lv_aload_n hx hb dX7_ladder_270 rfl (lv_at hl 0 rfl) ?_
          refine ob_gr (j := 13) hx hb hts in_own hown hK hM (q := 0) shM_0 (C := RX7) (T := TX7) (N := 18) rfl 14 (by decide) hf_47 rfl dX7_ladder_271 ?_
          refine lv_iload hx hb dX7_ladder_274 (lv_at hl 3 rfl) ?_
          refine lv_bipush (v := 10) hx hb dX7_ladder_276 (by decide) ?_
          refine lv_irem hx hb dX7_ladder_278 (by decide) ?_
          obtain ⟨v20, e20, hf⟩ := ob_e1 hf
          refine ob_iald hx hb hK hM (q := 13) (n := 10) shM_13 e20 dX7_ladder_279 ?_
          refine lv_aload_n hx hb dX7_ladder_280 rfl (lv_at hl 0 rfl) ?_
          refine ob_gr (j := 13) hx hb hts in_own hown hK hM (q := 0) shM_0 (C := RX7) (T := TX7) (N := 18) rfl 14 (by decide) hf_47 rfl dX7_ladder_281 ?_
          refine lv_iload hx hb dX7_ladder_284 (lv_at hl 3 rfl) ?_
          refine lv_bipush (v := 10) hx hb dX7_ladder_286 (by decide) ?_
          refine lv_idiv hx hb dX7_ladder_288 (by decide) ?_
          obtain ⟨v21, e21, hf⟩ := ob_e1 hf
          refine ob_iald hx hb hK hM (q := 13) (n := 10) shM_13 e21 dX7_ladder_289 ?_
          refine lv_icmp_ge (tgt := 304) hx hb dX7_ladder_290 (by decide) (fun c22 => ?_) (fun c22 => ?_)
          · rw [if_pos c22] at hf
            exact w_304 (f_X7_ladder_L242 n) ih g x1 x3 x4 _ _ hM hS _ (lv_sub hl [0, 1, 2, 3] rfl) hf
          · rw [if_neg c22] at hf
            refine lv_iload_n hx hb dX7_ladder_293 rfl (lv_at hl 2 rfl) ?_
            refine lv_iload_n hx hb dX7_ladder_294 rfl (lv_at hl 1 rfl) ?_
            refine lv_icmp_ne (tgt := 301) hx hb dX7_ladder_295 (by decide) (fun c23 => ?_) (fun c23 => ?_)
            · rw [if_neg c23] at hf
              refine lv_iinc (v := (x3 + 1)) (lv' := [(3, .int (x3 + 1)), (0, .ref (ad 0)), (1, .int x1), (4, .int x4)]) hx hb dX7_ladder_301 hl (k := 2) rfl rfl (by decide) rfl (fun ls hl => ?_)
              exact w_304 (f_X7_ladder_L242 n) ih g x1 (x3 + 1) x4 _ _ hM hS _ (lv_sub hl [1, 2, 0, 3] rfl) hf
            · rw [if_pos c23] at hf
              refine lv_iload hx hb dX7_ladder_298 (lv_at hl 3 rfl) ?_
              exact ob_iret hx hb hr hlocks hM hS (v := x4) rfl hf dX7_ladder_300
  subst ha
  have hl := lv_entry ([.ref (ad 0), .int x1]) (n := 7) (Nat.le_of_ble_eq_true rfl)
  rw [lg_entry_eq]
  generalize (lg_sl ([.ref (ad 0), .int x1]) ++ List.replicate (7 - (lg_sl ([.ref (ad 0), .int x1])).length) Slot.unset).toArray = ls at hl ⊢
  have hl : lv_has ls 7 [(0, .ref (ad 0)), (1, .int x1)] := hl
  have hM := hM0
  have hS := hS0
  unfold f_X7_ladder at hf
  refine lv_aload_n hx hb dX7_ladder_0 rfl (lv_at hl 0 rfl) ?_
  refine ob_gr (j := 12) hx hb hts in_own hown hK hM (q := 0) shM_0 (C := RX7) (T := TX7) (N := 18) rfl 13 (by decide) hf_44 rfl dX7_ladder_1 ?_
  refine lv_sipush (v := 1023) hx hb dX7_ladder_4 (by decide) ?_
  refine lv_iconst (v := 0) hx hb dX7_ladder_7 (by decide) ?_
  obtain ⟨g1, e1, hf⟩ := ob_e1 hf
  refine ob_iast hx hb hK hM hI hS (q := 12) (n := 1024) shM_12 e1 dX7_ladder_8 (fun H locs hM hS => ?_)
  refine lv_sipush (v := 1022) hx hb dX7_ladder_9 (by decide) ?_
  refine lv_istore_n (lv' := [(2, .int 1022), (0, .ref (ad 0)), (1, .int x1)]) hx hb dX7_ladder_12 rfl hl (by decide) rfl (fun ls hl => ?_)
  exact w_13 (f_X7_ladder_L122 (f_X7_ladder_L242 FU) FU) (w_122 (f_X7_ladder_L242 FU) (w_242 FU) FU) FU g1 x1 1022 _ _ hM hS _ (lv_sub hl [1, 2, 0] rfl) hf
set_option maxHeartbeats 4000000 in
set_option maxRecDepth 100000 in
theorem c_X7_between (l : Launch) (dC : Nat → ClassId) (dI : Nat → Nat → Nat) (ad : Nat → Nat) (cI cZ : ClassId) (hI : ob_inj shM ad) (d : Nat) (hd : 2 ≤ d) (g : Mm) (x1 x2 x3 x4 : Int32) (r : Int32) (hf : f_X7_between g x1 x2 x3 x4 = some r) : ob_Mi l yX7_between wsX7_between d (dC, dI) vwCl shM ad cI cZ nwM [.ref (ad 0), .int x1, .int x2, .int x3, .int x4] g r g := by
  refine ob_ofW (cc := cX7_between) (maxL := 14) (ret := (some .int)) (by decide) rfl ?_
  intro p e s m args below meth c ha hx hb hr hml hts hown hlocks hM0 hK hS0
  have hown : s.vm.findClass RX7 = some m.cls := hown
  have in_own : ∀ w ∈ wsX70, w ∈ wsX7_between := fun w h => (List.mem_cons_of_mem _ (List.mem_append_right _ h))
  have hf_13 := hts (.fieldLink RX7 13 "OneWorseModel" "book" "[I") (List.mem_cons_of_mem _ (List.mem_append_left _ (List.mem_of_getElem? (i := 0) rfl)))
  have w_39 : ∀ (k64 : Int32 → Int32 → Int32 → Int32 → Int32 → Int32 → Int32 → Option (Int32)) (hk64 : ∀ (x1 x2 x3 x4 x5 x6 x7 : Int32) (H : Heap) (locs : List Loc), va_P (dC, dI) vwCl (ob_ws shM ad cI cZ g) H → va_S (ob_A shM ad) s.heap H locs → ∀ (ls : Array Slot), lv_has ls 14 [(0, .ref (ad 0)), (1, .int x1), (2, .int x2), (3, .int x3), (4, .int x4), (5, .int x5), (6, .int x6), (7, .int x7)] → k64 x1 x2 x3 x4 x5 x6 x7 = some r → W p l e (rmN d) s m args below meth c H locs 0 0 (MQ below (ob_Qi (dC, dI) vwCl shM ad cI cZ r g) args s 0 0 (ob_A shM ad)) (F0 m 64 ls [])) (n : Nat), ∀ (x1 x2 x3 x4 x5 x6 : Int32) (H : Heap) (locs : List Loc), va_P (dC, dI) vwCl (ob_ws shM ad cI cZ g) H → va_S (ob_A shM ad) s.heap H locs → ∀ (ls : Array Slot), lv_has ls 14 [(0, .ref (ad 0)), (1, .int x1), (2, .int x2), (3, .int x3), (4, .int x4), (5, .int x5), (6, .int x6)] → f_X7_between_L39 g k64 n x1 x2 x3 x4 x5 x6 = some r → W p l e (rmN d) s m args below meth c H locs 0 0 (MQ below (ob_Qi (dC, dI) vwCl shM ad cI cZ r g) args s 0 0 (ob_A shM ad)) (F0 m 39 ls []) := by
    intro k64 hk64 n
    induction n with
    | zero =>
      intro x1 x2 x3 x4 x5 x6 H locs hM hS ls hl hf
      cases hf
    | succ n ih =>
      intro x1 x2 x3 x4 x5 x6 H locs hM hS ls hl hf
      unfold f_X7_between_L39 at hf
      refine lv_iload hx hb dX7_between_39 (lv_at hl 6 rfl) ?_
      refine lv_iload_n hx hb dX7_between_41 rfl (lv_at hl 3 rfl) ?_
      refine lv_icmp_ge (tgt := 58) hx hb dX7_between_42 (by decide) (fun c8 => ?_) (fun c8 => ?_)
      · rw [if_pos c8] at hf
        refine lv_iconst (v := 0) hx hb dX7_between_58 (by decide) ?_
        refine lv_istore (lv' := [(6, .int 0), (0, .ref (ad 0)), (1, .int x1), (2, .int x2), (3, .int x3), (4, .int x4), (5, .int x5)]) hx hb dX7_between_59 hl (by decide) rfl (fun ls hl => ?_)
        refine lv_iconst (v := 0) hx hb dX7_between_61 (by decide) ?_
        refine lv_istore (lv' := [(7, .int 0), (6, .int 0), (0, .ref (ad 0)), (1, .int x1), (2, .int x2), (3, .int x3), (4, .int x4), (5, .int x5)]) hx hb dX7_between_62 hl (by decide) rfl (fun ls hl => ?_)
        exact hk64 x1 x2 x3 x4 x5 0 0 _ _ hM hS _ (lv_sub hl [2, 3, 4, 5, 6, 7, 1, 0] rfl) hf
      · rw [if_neg c8] at hf
        refine lv_iload hx hb dX7_between_45 (lv_at hl 5 rfl) ?_
        refine lv_bipush (v := 10) hx hb dX7_between_47 (by decide) ?_
        refine lv_imul hx hb dX7_between_49 ?_
        refine lv_istore (lv' := [(5, .int (x5 * 10)), (0, .ref (ad 0)), (1, .int x1), (2, .int x2), (3, .int x3), (4, .int x4), (6, .int x6)]) hx hb dX7_between_50 hl (by decide) rfl (fun ls hl => ?_)
        refine lv_iinc (v := (x6 + 1)) (lv' := [(6, .int (x6 + 1)), (5, .int (x5 * 10)), (0, .ref (ad 0)), (1, .int x1), (2, .int x2), (3, .int x3), (4, .int x4)]) hx hb dX7_between_52 hl (k := 6) rfl rfl (by decide) rfl (fun ls hl => ?_)
        refine lv_goto (tgt := 39) hx hb dX7_between_55 (by decide) ?_
        exact ih x1 x2 x3 x4 (x5 * 10) (x6 + 1) _ _ hM hS _ (lv_sub hl [2, 3, 4, 5, 6, 1, 0] rfl) hf
  have w_151 : ∀ (k93 : Int32 → Int32 → Int32 → Int32 → Int32 → Int32 → Int32 → Int32 → Int32 → Int32 → Int32 → Int32 → Option (Int32)) (hk93 : ∀ (x1 x2 x3 x4 x5 x6 x7 x8 x9 x10 x11 x12 : Int32) (H : Heap) (locs : List Loc), va_P (dC, dI) vwCl (ob_ws shM ad cI cZ g) H → va_S (ob_A shM ad) s.heap H locs → ∀ (ls : Array Slot), lv_has ls 14 [(0, .ref (ad 0)), (1, .int x1), (2, .int x2), (3, .int x3), (4, .int x4), (5, .int x5), (6, .int x6), (7, .int x7), (8, .int x8), (9, .int x9), (10, .int x10), (11, .int x11), (12, .int x12)] → k93 x1 x2 x3 x4 x5 x6 x7 x8 x9 x10 x11 x12 = some r → W p l e (rmN d) s m args below meth c H locs 0 0 (MQ below (ob_Qi (dC, dI) vwCl shM ad cI cZ r g) args s 0 0 (ob_A shM ad)) (F0 m 93 ls [])), ∀ (x1 x2 x3 x4 x5 x6 x7 x8 x10 x12 x13 s0 : Int32) (H : Heap) (locs : List Loc), va_P (dC, dI) vwCl (ob_ws shM ad cI cZ g) H → va_S (ob_A shM ad) s.heap H locs → ∀ (ls : Array Slot), lv_has ls 14 [(0, .ref (ad 0)), (1, .int x1), (2, .int x2), (3, .int x3), (4, .int x4), (5, .int x5), (6, .int x6), (7, .int x7), (8, .int x8), (10, .int x10), (12, .int x12), (13, .int x13)] → f_X7_between_J151 g k93 x1 x2 x3 x4 x5 x6 x7 x8 x10 x12 x13 s0 = some r → W p l e (rmN d) s m args below meth c H locs 0 0 (MQ below (ob_Qi (dC, dI) vwCl shM ad cI cZ r g) args s 0 0 (ob_A shM ad)) (F0 m 151 ls [.int s0]) := by
    intro k93 hk93 x1 x2 x3 x4 x5 x6 x7 x8 x10 x12 x13 s0 H locs hM hS ls hl hf
    unfold f_X7_between_J151 at hf
    refine lv_istore (lv' := [(11, .int s0), (0, .ref (ad 0)), (1, .int x1), (2, .int x2), (3, .int x3), (4, .int x4), (5, .int x5), (6, .int x6), (7, .int x7), (8, .int x8), (10, .int x10), (12, .int x12), (13, .int x13)]) hx hb dX7_between_151 hl (by decide) rfl (fun ls hl => ?_)
    refine lv_iload hx hb dX7_between_153 (lv_at hl 10 rfl) ?_
    refine lv_iconst (v := 1) hx hb dX7_between_155 (by decide) ?_
    refine lv_iload hx hb dX7_between_156 (lv_at hl 12 rfl) ?_
    refine lv_ishl hx hb dX7_between_158 ?_
    refine lv_ior hx hb dX7_between_159 ?_
    refine lv_istore (lv' := [(10, .int (x10 ||| ((1 : Int32) <<< (x13 &&& 31)))), (11, .int s0), (0, .ref (ad 0)), (1, .int x1), (2, .int x2), (3, .int x3), (4, .int x4), (5, .int x5), (6, .int x6), (7, .int x7), (8, .int x8), (12, .int x12), (13, .int x13)]) hx hb dX7_between_160 hl (by decide) rfl (fun ls hl => ?_)
    refine lv_iload hx hb dX7_between_162 (lv_at hl 12 rfl) ?_
    refine lv_istore (lv' := [(9, .int x13), (10, .int (x10 ||| ((1 : Int32) <<< (x13 &&& 31)))), (11, .int s0), (0, .ref (ad 0)), (1, .int x1), (2, .int x2), (3, .int x3), (4, .int x4), (5, .int x5), (6, .int x6), (7, .int x7), (8, .int x8), (12, .int x12), (13, .int x13)]) hx hb dX7_between_164 hl (by decide) rfl (fun ls hl => ?_)
    refine lv_iinc (v := (x12 + 1)) (lv' := [(12, .int (x12 + 1)), (9, .int x13), (10, .int (x10 ||| ((1 : Int32) <<< (x13 &&& 31)))), (11, .int s0), (0, .ref (ad 0)), (1, .int x1), (2, .int x2), (3, .int x3), (4, .int x4), (5, .int x5), (6, .int x6), (7, .int x7), (8, .int x8), (13, .int x13)]) hx hb dX7_between_166 hl (k := 12) rfl rfl (by decide) rfl (fun ls hl => ?_)
    refine lv_goto (tgt := 93) hx hb dX7_between_169 (by decide) ?_
    exact hk93 x1 x2 x3 x4 x5 x6 x7 x8 x13 (x10 ||| ((1 : Int32) <<< (x13 &&& 31))) s0 (x12 + 1) _ _ hM hS _ (lv_sub hl [4, 5, 6, 7, 8, 9, 10, 11, 12, 1, 2, 3, 0] rfl) hf
  have w_150 : ∀ (k93 : Int32 → Int32 → Int32 → Int32 → Int32 → Int32 → Int32 → Int32 → Int32 → Int32 → Int32 → Int32 → Option (Int32)) (hk93 : ∀ (x1 x2 x3 x4 x5 x6 x7 x8 x9 x10 x11 x12 : Int32) (H : Heap) (locs : List Loc), va_P (dC, dI) vwCl (ob_ws shM ad cI cZ g) H → va_S (ob_A shM ad) s.heap H locs → ∀ (ls : Array Slot), lv_has ls 14 [(0, .ref (ad 0)), (1, .int x1), (2, .int x2), (3, .int x3), (4, .int x4), (5, .int x5), (6, .int x6), (7, .int x7), (8, .int x8), (9, .int x9), (10, .int x10), (11, .int x11), (12, .int x12)] → k93 x1 x2 x3 x4 x5 x6 x7 x8 x9 x10 x11 x12 = some r → W p l e (rmN d) s m args below meth c H locs 0 0 (MQ below (ob_Qi (dC, dI) vwCl shM ad cI cZ r g) args s 0 0 (ob_A shM ad)) (F0 m 93 ls [])), ∀ (x1 x2 x3 x4 x5 x6 x7 x8 x10 x12 x13 : Int32) (H : Heap) (locs : List Loc), va_P (dC, dI) vwCl (ob_ws shM ad cI cZ g) H → va_S (ob_A shM ad) s.heap H locs → ∀ (ls : Array Slot), lv_has ls 14 [(0, .ref (ad 0)), (1, .int x1), (2, .int x2), (3, .int x3), (4, .int x4), (5, .int x5), (6, .int x6), (7, .int x7), (8, .int x8), (10, .int x10), (12, .int x12), (13, .int x13)] → f_X7_between_J150 g k93 x1 x2 x3 x4 x5 x6 x7 x8 x10 x12 x13 = some r → W p l e (rmN d) s m args below meth c H locs 0 0 (MQ below (ob_Qi (dC, dI) vwCl shM ad cI cZ r g) args s 0 0 (ob_A shM ad)) (F0 m 150 ls []) := by
    intro k93 hk93 x1 x2 x3 x4 x5 x6 x7 x8 x10 x12 x13 H locs hM hS ls hl hf
    unfold f_X7_between_J150 at hf
    refine lv_iconst (v := 0) hx hb dX7_between_150 (by decide) ?_
    exact w_151 k93 hk93 x1 x2 x3 x4 x5 x6 x7 x8 x10 x12 x13 0 _ _ hM hS _ (lv_sub hl [0, 1, 2, 3, 4, 5, 6, 7, 8, 9, 10, 11] rfl) hf
  have w_93 : ∀ (k172 : Int32 → Int32 → Int32 → Int32 → Int32 → Int32 → Int32 → Int32 → Int32 → Option (Int32)) (hk172 : ∀ (x1 x2 x3 x4 x5 x6 x7 x9 x11 : Int32) (H : Heap) (locs : List Loc), va_P (dC, dI) vwCl (ob_ws shM ad cI cZ g) H → va_S (ob_A shM ad) s.heap H locs → ∀ (ls : Array Slot), lv_has ls 14 [(0, .ref (ad 0)), (1, .int x1), (2, .int x2), (3, .int x3), (4, .int x4), (5, .int x5), (6, .int x6), (7, .int x7), (9, .int x9), (11, .int x11)] → k172 x1 x2 x3 x4 x5 x6 x7 x9 x11 = some r → W p l e (rmN d) s m args below meth c H locs 0 0 (MQ below (ob_Qi (dC, dI) vwCl shM ad cI cZ r g) args s 0 0 (ob_A shM ad)) (F0 m 172 ls [])) (n : Nat), ∀ (x1 x2 x3 x4 x5 x6 x7 x8 x9 x10 x11 x12 : Int32) (H : Heap) (locs : List Loc), va_P (dC, dI) vwCl (ob_ws shM ad cI cZ g) H → va_S (ob_A shM ad) s.heap H locs → ∀ (ls : Array Slot), lv_has ls 14 [(0, .ref (ad 0)), (1, .int x1), (2, .int x2), (3, .int x3), (4, .int x4), (5, .int x5), (6, .int x6), (7, .int x7), (8, .int x8), (9, .int x9), (10, .int x10), (11, .int x11), (12, .int x12)] → f_X7_between_L93 g k172 n x1 x2 x3 x4 x5 x6 x7 x8 x9 x10 x11 x12 = some r → W p l e (rmN d) s m args below meth c H locs 0 0 (MQ below (ob_Qi (dC, dI) vwCl shM ad cI cZ r g) args s 0 0 (ob_A shM ad)) (F0 m 93 ls []) := by
    intro k172 hk172 n
    induction n with
    | zero =>
      intro x1 x2 x3 x4 x5 x6 x7 x8 x9 x10 x11 x12 H locs hM hS ls hl hf
      cases hf
    | succ n ih =>
      intro x1 x2 x3 x4 x5 x6 x7 x8 x9 x10 x11 x12 H locs hM hS ls hl hf
      unfold f_X7_between_L93 at hf
      refine lv_iload hx hb dX7_between_93 (lv_at hl 12 rfl) ?_
      refine lv_iload_n hx hb dX7_between_95 rfl (lv_at hl 3 rfl) ?_
      refine lv_icmp_ge (tgt := 172) hx hb dX7_between_96 (by decide) (fun c11 => ?_) (fun c11 => ?_)
      · rw [if_pos c11] at hf
        exact hk172 x1 x2 x3 x4 x5 x6 x7 x9 x11 _ _ hM hS _ (lv_sub hl [0, 1, 2, 3, 4, 5, 6, 7, 9, 11] rfl) hf
      · rw [if_neg c11] at hf
        refine lv_iload hx hb dX7_between_99 (lv_at hl 11 rfl) ?_
        refine lv_if_eq (tgt := 172) hx hb dX7_between_101 (by decide) (fun c12 => ?_) (fun c12 => ?_)
        · rw [if_pos c12] at hf
          exact hk172 x1 x2 x3 x4 x5 x6 x7 x9 x11 _ _ hM hS _ (lv_sub hl [0, 1, 2, 3, 4, 5, 6, 7, 9, 11] rfl) hf
        · rw [if_neg c12] at hf
          refine lv_iload hx hb dX7_between_104 (lv_at hl 8 rfl) ?_
          refine lv_bipush (v := 10) hx hb dX7_between_106 (by decide) ?_
          refine lv_idiv hx hb dX7_between_108 (by decide) ?_
          refine lv_istore (lv' := [(8, .int (x8 / 10)), (0, .ref (ad 0)), (1, .int x1), (2, .int x2), (3, .int x3), (4, .int x4), (5, .int x5), (6, .int x6), (7, .int x7), (9, .int x9), (10, .int x10), (11, .int x11), (12, .int x12)]) hx hb dX7_between_109 hl (by decide) rfl (fun ls hl => ?_)
          refine lv_iload hx hb dX7_between_111 (lv_at hl 8 rfl) ?_
          refine lv_iload hx hb dX7_between_113 (lv_at hl 0 rfl) ?_
          obtain ⟨u13, e13, hf⟩ := ob_e1 hf
          refine lv_idiv hx hb dX7_between_115 (ob_nz_in e13) ?_
          refine lv_bipush (v := 10) hx hb dX7_between_116 (by decide) ?_
          refine lv_irem hx hb dX7_between_118 (by decide) ?_
          refine lv_istore (lv' := [(13, .int ((x7 / (x8 / 10)) - (x7 / (x8 / 10)) / 10 * 10)), (8, .int (x8 / 10)), (0, .ref (ad 0)), (1, .int x1), (2, .int x2), (3, .int x3), (4, .int x4), (5, .int x5), (6, .int x6), (7, .int x7), (9, .int x9), (10, .int x10), (11, .int x11), (12, .int x12)]) hx hb dX7_between_119 hl (by decide) rfl (fun ls hl => ?_)
          refine lv_aload_n hx hb dX7_between_121 rfl (lv_at hl 2 rfl) ?_
          refine ob_gr (j := 2) hx hb hts in_own hown hK hM (q := 0) shM_0 (C := RX7) (T := TX7) (N := 18) rfl 2 (by decide) hf_13 rfl dX7_between_122 ?_
          refine lv_iload hx hb dX7_between_125 (lv_at hl 10 rfl) ?_
          obtain ⟨v14, e14, hf⟩ := ob_e1 hf
          refine ob_iald hx hb hK hM (q := 2) (n := 10) shM_2 e14 dX7_between_127 ?_
          refine lv_iload hx hb dX7_between_128 (lv_at hl 0 rfl) ?_
          obtain ⟨v15, e15, hf⟩ := ob_e1 hf
          refine ob_calli (va_runS (As := [.int v14, .int ((x7 / (x8 / 10)) - (x7 / (x8 / 10)) / 10 * 10)]) (rest := []) ⟨hx, hb, hml, hown, hts⟩ (c_X7_has l dC dI ad cI cZ hI 0 (Nat.le_refl _) g v14 ((x7 / (x8 / 10)) - (x7 / (x8 / 10)) / 10 * 10)  v15 e15) (va_cwS 2 hts gX7_between_X7_has rfl rfl rfl hd_X7_has (ob_R (Nat.le_trans (by decide) hd) (by decide))) (ob_preS hK hM) rfl rfl hl.1 rfl (lv_room (Nat.le_of_ble_eq_true rfl)) dX7_between_130 ⟨Nat.le_refl _, Nat.le_refl _⟩) hS (fun H locs hM hS => ?_)
          refine lv_if_eq (tgt := 150) hx hb dX7_between_133 (by decide) (fun c16 => ?_) (fun c16 => ?_)
          · rw [if_pos c16] at hf
            exact w_150 (f_X7_between_L93 g k172 n) ih x1 x2 x3 x4 x5 x6 x7 (x8 / 10) x10 x12 ((x7 / (x8 / 10)) - (x7 / (x8 / 10)) / 10 * 10) _ _ hM hS _ (lv_sub hl [2, 3, 4, 5, 6, 7, 8, 9, 1, 11, 13, 0] rfl) hf
          · rw [if_neg c16] at hf
            refine lv_iload hx hb dX7_between_136 (lv_at hl 11 rfl) ?_
            refine lv_iload hx hb dX7_between_138 (lv_at hl 0 rfl) ?_
            obtain ⟨v17, e17, hf⟩ := ob_e1 hf
            refine ob_calli (va_runS (As := [.int x10, .int ((x7 / (x8 / 10)) - (x7 / (x8 / 10)) / 10 * 10)]) (rest := []) ⟨hx, hb, hml, hown, hts⟩ (c_X7_has l dC dI ad cI cZ hI 0 (Nat.le_refl _) g x10 ((x7 / (x8 / 10)) - (x7 / (x8 / 10)) / 10 * 10)  v17 e17) (va_cwS 2 hts gX7_between_X7_has rfl rfl rfl hd_X7_has (ob_R (Nat.le_trans (by decide) hd) (by decide))) (ob_preS hK hM) rfl rfl hl.1 rfl (lv_room (Nat.le_of_ble_eq_true rfl)) dX7_between_140 ⟨Nat.le_refl _, Nat.le_refl _⟩) hS (fun H locs hM hS => ?_)
            refine lv_if_ne (tgt := 150) hx hb dX7_between_143 (by decide) (fun c18 => ?_) (fun c18 => ?_)
            · rw [if_neg c18] at hf
              exact w_150 (f_X7_between_L93 g k172 n) ih x1 x2 x3 x4 x5 x6 x7 (x8 / 10) x10 x12 ((x7 / (x8 / 10)) - (x7 / (x8 / 10)) / 10 * 10) _ _ hM hS _ (lv_sub hl [2, 3, 4, 5, 6, 7, 8, 9, 1, 11, 13, 0] rfl) hf
            · rw [if_pos c18] at hf
              refine lv_iconst (v := 1) hx hb dX7_between_146 (by decide) ?_
              refine lv_goto (tgt := 151) hx hb dX7_between_147 (by decide) ?_
              exact w_151 (f_X7_between_L93 g k172 n) ih x1 x2 x3 x4 x5 x6 x7 (x8 / 10) x10 x12 ((x7 / (x8 / 10)) - (x7 / (x8 / 10)) / 10 * 10) 1 _ _ hM hS _ (lv_sub hl [2, 3, 4, 5, 6, 7, 8, 9, 1, 11, 13, 0] rfl) hf
  have w_207 : ∀ (k64 : Int32 → Int32 → Int32 → Int32 → Int32 → Int32 → Int32 → Option (Int32)) (hk64 : ∀ (x1 x2 x3 x4 x5 x6 x7 : Int32) (H : Heap) (locs : List Loc), va_P (dC, dI) vwCl (ob_ws shM ad cI cZ g) H → va_S (ob_A shM ad) s.heap H locs → ∀ (ls : Array Slot), lv_has ls 14 [(0, .ref (ad 0)), (1, .int x1), (2, .int x2), (3, .int x3), (4, .int x4), (5, .int x5), (6, .int x6), (7, .int x7)] → k64 x1 x2 x3 x4 x5 x6 x7 = some r → W p l e (rmN d) s m args below meth c H locs 0 0 (MQ below (ob_Qi (dC, dI) vwCl shM ad cI cZ r g) args s 0 0 (ob_A shM ad)) (F0 m 64 ls [])), ∀ (x1 x2 x3 x4 x5 x6 x7 : Int32) (H : Heap) (locs : List Loc), va_P (dC, dI) vwCl (ob_ws shM ad cI cZ g) H → va_S (ob_A shM ad) s.heap H locs → ∀ (ls : Array Slot), lv_has ls 14 [(0, .ref (ad 0)), (1, .int x1), (2, .int x2), (3, .int x3), (4, .int x4), (5, .int x5), (6, .int x6), (7, .int x7)] → f_X7_between_J207 g k64 x1 x2 x3 x4 x5 x6 x7 = some r → W p l e (rmN d) s m args below meth c H locs 0 0 (MQ below (ob_Qi (dC, dI) vwCl shM ad cI cZ r g) args s 0 0 (ob_A shM ad)) (F0 m 207 ls []) := by
    intro k64 hk64 x1 x2 x3 x4 x5 x6 x7 H locs hM hS ls hl hf
    unfold f_X7_between_J207 at hf
    refine lv_iinc (v := (x7 + 1)) (lv' := [(7, .int (x7 + 1)), (0, .ref (ad 0)), (1, .int x1), (2, .int x2), (3, .int x3), (4, .int x4), (5, .int x5), (6, .int x6)]) hx hb dX7_between_207 hl (k := 7) rfl rfl (by decide) rfl (fun ls hl => ?_)
    refine lv_goto (tgt := 64) hx hb dX7_between_210 (by decide) ?_
    exact hk64 x1 x2 x3 x4 x5 x6 (x7 + 1) _ _ hM hS _ (lv_sub hl [1, 2, 3, 4, 5, 6, 7, 0] rfl) hf
  have w_172 : ∀ (k64 : Int32 → Int32 → Int32 → Int32 → Int32 → Int32 → Int32 → Option (Int32)) (hk64 : ∀ (x1 x2 x3 x4 x5 x6 x7 : Int32) (H : Heap) (locs : List Loc), va_P (dC, dI) vwCl (ob_ws shM ad cI cZ g) H → va_S (ob_A shM ad) s.heap H locs → ∀ (ls : Array Slot), lv_has ls 14 [(0, .ref (ad 0)), (1, .int x1), (2, .int x2), (3, .int x3), (4, .int x4), (5, .int x5), (6, .int x6), (7, .int x7)] → k64 x1 x2 x3 x4 x5 x6 x7 = some r → W p l e (rmN d) s m args below meth c H locs 0 0 (MQ below (ob_Qi (dC, dI) vwCl shM ad cI cZ r g) args s 0 0 (ob_A shM ad)) (F0 m 64 ls [])), ∀ (x1 x2 x3 x4 x5 x6 x7 x9 x11 : Int32) (H : Heap) (locs : List Loc), va_P (dC, dI) vwCl (ob_ws shM ad cI cZ g) H → va_S (ob_A shM ad) s.heap H locs → ∀ (ls : Array Slot), lv_has ls 14 [(0, .ref (ad 0)), (1, .int x1), (2, .int x2), (3, .int x3), (4, .int x4), (5, .int x5), (6, .int x6), (7, .int x7), (9, .int x9), (11, .int x11)] → f_X7_between_J172 g k64 x1 x2 x3 x4 x5 x6 x7 x9 x11 = some r → W p l e (rmN d) s m args below meth c H locs 0 0 (MQ below (ob_Qi (dC, dI) vwCl shM ad cI cZ r g) args s 0 0 (ob_A shM ad)) (F0 m 172 ls []) := by
    intro k64 hk64 x1 x2 x3 x4 x5 x6 x7 x9 x11 H locs hM hS ls hl hf
    unfold f_X7_between_J172 at hf
    refine lv_iload hx hb dX7_between_172 (lv_at hl 9 rfl) ?_
    refine lv_if_eq (tgt := 207) hx hb dX7_between_174 (by decide) (fun c19 => ?_) (fun c19 => ?_)
    · rw [if_pos c19] at hf
      exact w_207 k64 hk64 x1 x2 x3 x4 x5 x6 x7 _ _ hM hS _ (lv_sub hl [0, 1, 2, 3, 4, 5, 6, 7] rfl) hf
    · rw [if_neg c19] at hf
      refine lv_aload_n hx hb dX7_between_177 rfl (lv_at hl 0 rfl) ?_
      refine ob_gr (j := 2) hx hb hts in_own hown hK hM (q := 0) shM_0 (C := RX7) (T := TX7) (N := 18) rfl 2 (by decide) hf_13 rfl dX7_between_178 ?_
      refine lv_iload hx hb dX7_between_181 (lv_at hl 8 rfl) ?_
      obtain ⟨v20, e20, hf⟩ := ob_e1 hf
      refine ob_iald hx hb hK hM (q := 2) (n := 10) shM_2 e20 dX7_between_183 ?_
      refine lv_iload_n hx hb dX7_between_184 rfl (lv_at hl 2 rfl) ?_
      obtain ⟨v21, e21, hf⟩ := ob_e1 hf
      refine ob_calli (va_runS (As := [.int v20, .int x2]) (rest := []) ⟨hx, hb, hml, hown, hts⟩ (c_X7_has l dC dI ad cI cZ hI 0 (Nat.le_refl _) g v20 x2  v21 e21) (va_cwS 2 hts gX7_between_X7_has rfl rfl rfl hd_X7_has (ob_R (Nat.le_trans (by decide) hd) (by decide))) (ob_preS hK hM) rfl rfl hl.1 rfl (lv_room (Nat.le_of_ble_eq_true rfl)) dX7_between_185 ⟨Nat.le_refl _, Nat.le_refl _⟩) hS (fun H locs hM hS => ?_)
      refine lv_if_eq (tgt := 207) hx hb dX7_between_188 (by decide) (fun c22 => ?_) (fun c22 => ?_)
      · rw [if_pos c22] at hf
        exact w_207 k64 hk64 x1 x2 x3 x4 x5 x6 x7 _ _ hM hS _ (lv_sub hl [0, 1, 2, 3, 4, 5, 6, 7] rfl) hf
      · rw [if_neg c22] at hf
        refine lv_iload hx hb dX7_between_191 (lv_at hl 6 rfl) ?_
        refine lv_iload hx hb dX7_between_193 (lv_at hl 4 rfl) ?_
        refine lv_icmp_ne (tgt := 204) hx hb dX7_between_195 (by decide) (fun c23 => ?_) (fun c23 => ?_)
        · rw [if_neg c23] at hf
          refine lv_iinc (v := (x6 + 1)) (lv' := [(6, .int (x6 + 1)), (0, .ref (ad 0)), (1, .int x1), (2, .int x2), (3, .int x3), (4, .int x4), (5, .int x5), (7, .int x7), (9, .int x9), (11, .int x11)]) hx hb dX7_between_204 hl (k := 6) rfl rfl (by decide) rfl (fun ls hl => ?_)
          exact w_207 k64 hk64 x1 x2 x3 x4 x5 (x6 + 1) x7 _ _ hM hS _ (lv_sub hl [1, 2, 3, 4, 5, 6, 0, 7] rfl) hf
        · rw [if_pos c23] at hf
          refine lv_iload hx hb dX7_between_198 (lv_at hl 5 rfl) ?_
          refine lv_iload hx hb dX7_between_200 (lv_at hl 7 rfl) ?_
          refine lv_iadd hx hb dX7_between_202 ?_
          exact ob_iretR hx hb hr hlocks hM hS (v := (x5 + x7)) rfl hf dX7_between_203
  have w_64 : ∀ (n : Nat), ∀ (x1 x2 x3 x4 x5 x6 x7 : Int32) (H : Heap) (locs : List Loc), va_P (dC, dI) vwCl (ob_ws shM ad cI cZ g) H → va_S (ob_A shM ad) s.heap H locs → ∀ (ls : Array Slot), lv_has ls 14 [(0, .ref (ad 0)), (1, .int x1), (2, .int x2), (3, .int x3), (4, .int x4), (5, .int x5), (6, .int x6), (7, .int x7)] → f_X7_between_L64 g n x1 x2 x3 x4 x5 x6 x7 = some r → W p l e (rmN d) s m args below meth c H locs 0 0 (MQ below (ob_Qi (dC, dI) vwCl shM ad cI cZ r g) args s 0 0 (ob_A shM ad)) (F0 m 64 ls []) := by
    intro n
    induction n with
    | zero =>
      intro x1 x2 x3 x4 x5 x6 x7 H locs hM hS ls hl hf
      cases hf
    | succ n ih =>
      intro x1 x2 x3 x4 x5 x6 x7 H locs hM hS ls hl hf
      unfold f_X7_between_L64 at hf
      refine lv_iload hx hb dX7_between_64 (lv_at hl 7 rfl) ?_
      refine lv_iload hx hb dX7_between_66 (lv_at hl 5 rfl) ?_
      refine lv_icmp_ge (tgt := 213) hx hb dX7_between_68 (by decide) (fun c9 => ?_) (fun c9 => ?_)
      · rw [if_pos c9] at hf
        refine lv_iload hx hb dX7_between_213 (lv_at hl 4 rfl) ?_
        refine lv_iconst (v := (-1)) hx hb dX7_between_215 (by decide) ?_
        refine lv_icmp_ne (tgt := 224) hx hb dX7_between_216 (by decide) (fun c10 => ?_) (fun c10 => ?_)
        · rw [if_neg c10] at hf
          refine lv_bipush (v := (-6)) hx hb dX7_between_224 (by decide) ?_
          exact ob_iretR hx hb hr hlocks hM hS (v := (-6)) rfl hf dX7_between_226
        · rw [if_pos c10] at hf
          refine lv_iload hx hb dX7_between_219 (lv_at hl 6 rfl) ?_
          refine lv_goto (tgt := 226) hx hb dX7_between_221 (by decide) ?_
          exact ob_iretR hx hb hr hlocks hM hS (v := x6) rfl hf dX7_between_226
      · rw [if_neg c9] at hf
        refine lv_iload hx hb dX7_between_71 (lv_at hl 5 rfl) ?_
        refine lv_istore (lv' := [(8, .int x5), (0, .ref (ad 0)), (1, .int x1), (2, .int x2), (3, .int x3), (4, .int x4), (5, .int x5), (6, .int x6), (7, .int x7)]) hx hb dX7_between_73 hl (by decide) rfl (fun ls hl => ?_)
        refine lv_iload_n hx hb dX7_between_75 rfl (lv_at hl 2 rfl) ?_
        refine lv_istore (lv' := [(9, .int x1), (8, .int x5), (0, .ref (ad 0)), (1, .int x1), (2, .int x2), (3, .int x3), (4, .int x4), (5, .int x5), (6, .int x6), (7, .int x7)]) hx hb dX7_between_76 hl (by decide) rfl (fun ls hl => ?_)
        refine lv_iconst (v := 1) hx hb dX7_between_78 (by decide) ?_
        refine lv_iload_n hx hb dX7_between_79 rfl (lv_at hl 3 rfl) ?_
        refine lv_ishl hx hb dX7_between_80 ?_
        refine lv_iconst (v := 1) hx hb dX7_between_81 (by decide) ?_
        refine lv_iload_n hx hb dX7_between_82 rfl (lv_at hl 4 rfl) ?_
        refine lv_ishl hx hb dX7_between_83 ?_
        refine lv_ior hx hb dX7_between_84 ?_
        refine lv_istore (lv' := [(10, .int (((1 : Int32) <<< (x1 &&& 31)) ||| ((1 : Int32) <<< (x2 &&& 31)))), (9, .int x1), (8, .int x5), (0, .ref (ad 0)), (1, .int x1), (2, .int x2), (3, .int x3), (4, .int x4), (5, .int x5), (6, .int x6), (7, .int x7)]) hx hb dX7_between_85 hl (by decide) rfl (fun ls hl => ?_)
        refine lv_iconst (v := 1) hx hb dX7_between_87 (by decide) ?_
        refine lv_istore (lv' := [(11, .int 1), (10, .int (((1 : Int32) <<< (x1 &&& 31)) ||| ((1 : Int32) <<< (x2 &&& 31)))), (9, .int x1), (8, .int x5), (0, .ref (ad 0)), (1, .int x1), (2, .int x2), (3, .int x3), (4, .int x4), (5, .int x5), (6, .int x6), (7, .int x7)]) hx hb dX7_between_88 hl (by decide) rfl (fun ls hl => ?_)
        refine lv_iconst (v := 0) hx hb dX7_between_90 (by decide) ?_
        refine lv_istore (lv' := [(12, .int 0), (11, .int 1), (10, .int (((1 : Int32) <<< (x1 &&& 31)) ||| ((1 : Int32) <<< (x2 &&& 31)))), (9, .int x1), (8, .int x5), (0, .ref (ad 0)), (1, .int x1), (2, .int x2), (3, .int x3), (4, .int x4), (5, .int x5), (6, .int x6), (7, .int x7)]) hx hb dX7_between_91 hl (by decide) rfl (fun ls hl => ?_)
        exact w_93 (f_X7_between_J172 g (f_X7_between_L64 g n)) (w_172 (f_X7_between_L64 g n) ih) FU x1 x2 x3 x4 x5 x6 x7 x5 x1 (((1 : Int32) <<< (x1 &&& 31)) ||| ((1 : Int32) <<< (x2 &&& 31))) 1 0 _ _ hM hS _ (lv_sub hl [5, 6, 7, 8, 9, 10, 11, 12, 4, 3, 2, 1, 0] rfl) hf
  subst ha
  have hl := lv_entry ([.ref (ad 0), .int x1, .int x2, .int x3, .int x4]) (n := 14) (Nat.le_of_ble_eq_true rfl)
  rw [lg_entry_eq]
  generalize (lg_sl ([.ref (ad 0), .int x1, .int x2, .int x3, .int x4]) ++ List.replicate (14 - (lg_sl ([.ref (ad 0), .int x1, .int x2, .int x3, .int x4])).length) Slot.unset).toArray = ls at hl ⊢
  have hl : lv_has ls 14 [(0, .ref (ad 0)), (1, .int x1), (2, .int x2), (3, .int x3), (4, .int x4)] := hl
  have hM := hM0
  have hS := hS0
  unfold f_X7_between at hf
  refine lv_iload_n hx hb dX7_between_0 rfl (lv_at hl 1 rfl) ?_
  obtain ⟨v1, e1, hf⟩ := ob_e1 hf
  refine ob_calli (va_runS (As := [.int x1]) (rest := []) ⟨hx, hb, hml, hown, hts⟩ (c_X7_isInsult l dC dI ad cI cZ hI 1 (Nat.le_refl _) g x1  v1 e1) (va_cwS 1 hts gX7_between_X7_isInsult rfl rfl rfl hd_X7_isInsult (ob_R (Nat.le_trans (by decide) hd) (by decide))) (ob_preS hK hM) rfl rfl hl.1 rfl (lv_room (Nat.le_of_ble_eq_true rfl)) dX7_between_1 ⟨Nat.le_refl _, Nat.le_refl _⟩) hS (fun H locs hM hS => ?_)
  refine lv_if_eq (tgt := 19) hx hb dX7_between_4 (by decide) (fun c2 => ?_) (fun c2 => ?_)
  · rw [if_pos c2] at hf
    refine lv_iconst (v := (-1)) hx hb dX7_between_19 (by decide) ?_
    exact ob_iretR hx hb hr hlocks hM hS (v := (-1)) rfl hf dX7_between_20
  · rw [if_neg c2] at hf
    refine lv_iload_n hx hb dX7_between_7 rfl (lv_at hl 2 rfl) ?_
    obtain ⟨v3, e3, hf⟩ := ob_e1 hf
    refine ob_calli (va_runS (As := [.int x2]) (rest := []) ⟨hx, hb, hml, hown, hts⟩ (c_X7_isInsult l dC dI ad cI cZ hI 1 (Nat.le_refl _) g x2  v3 e3) (va_cwS 1 hts gX7_between_X7_isInsult rfl rfl rfl hd_X7_isInsult (ob_R (Nat.le_trans (by decide) hd) (by decide))) (ob_preS hK hM) rfl rfl hl.1 rfl (lv_room (Nat.le_of_ble_eq_true rfl)) dX7_between_8 ⟨Nat.le_refl _, Nat.le_refl _⟩) hS (fun H locs hM hS => ?_)
    refine lv_if_eq (tgt := 19) hx hb dX7_between_11 (by decide) (fun c4 => ?_) (fun c4 => ?_)
    · rw [if_pos c4] at hf
      refine lv_iconst (v := (-1)) hx hb dX7_between_19 (by decide) ?_
      exact ob_iretR hx hb hr hlocks hM hS (v := (-1)) rfl hf dX7_between_20
    · rw [if_neg c4] at hf
      refine lv_iload_n hx hb dX7_between_14 rfl (lv_at hl 1 rfl) ?_
      refine lv_iload_n hx hb dX7_between_15 rfl (lv_at hl 2 rfl) ?_
      refine lv_icmp_ne (tgt := 21) hx hb dX7_between_16 (by decide) (fun c5 => ?_) (fun c5 => ?_)
      · rw [if_neg c5] at hf
        refine lv_iload_n hx hb dX7_between_21 rfl (lv_at hl 3 rfl) ?_
        refine lv_iconst (v := 0) hx hb dX7_between_22 (by decide) ?_
        refine lv_iconst (v := 4) hx hb dX7_between_23 (by decide) ?_
        obtain ⟨v6, e6, hf⟩ := ob_e1 hf
        refine ob_calli (va_runS (As := [.int x3, .int 0, .int 4]) (rest := []) ⟨hx, hb, hml, hown, hts⟩ (c_X7_in l dC dI ad cI cZ hI 0 (Nat.le_refl _) g x3 0 4  v6 e6) (va_cwS 3 hts gX7_between_X7_in rfl rfl rfl hd_X7_in (ob_R (Nat.le_trans (by decide) hd) (by decide))) (ob_preS hK hM) rfl rfl hl.1 rfl (lv_room (Nat.le_of_ble_eq_true rfl)) dX7_between_24 ⟨Nat.le_refl _, Nat.le_refl _⟩) hS (fun H locs hM hS => ?_)
        refine lv_if_ne (tgt := 33) hx hb dX7_between_27 (by decide) (fun c7 => ?_) (fun c7 => ?_)
        · rw [if_neg c7] at hf
          refine lv_iconst (v := 1) hx hb dX7_between_33 (by decide) ?_
          refine lv_istore (lv' := [(5, .int 1), (0, .ref (ad 0)), (1, .int x1), (2, .int x2), (3, .int x3), (4, .int x4)]) hx hb dX7_between_34 hl (by decide) rfl (fun ls hl => ?_)
          refine lv_iconst (v := 0) hx hb dX7_between_36 (by decide) ?_
          refine lv_istore (lv' := [(6, .int 0), (5, .int 1), (0, .ref (ad 0)), (1, .int x1), (2, .int x2), (3, .int x3), (4, .int x4)]) hx hb dX7_between_37 hl (by decide) rfl (fun ls hl => ?_)
          exact w_39 (f_X7_between_L64 g FU) (w_64 FU) FU x1 x2 x3 x4 1 0 _ _ hM hS _ (lv_sub hl [2, 3, 4, 5, 6, 1, 0] rfl) hf
        · rw [if_pos c7] at hf
          refine lv_bipush (v := (-2)) hx hb dX7_between_30 (by decide) ?_
          exact ob_iretR hx hb hr hlocks hM hS (v := (-2)) rfl hf dX7_between_32
      · rw [if_pos c5] at hf
        refine lv_iconst (v := (-1)) hx hb dX7_between_19 (by decide) ?_
        exact ob_iretR hx hb hr hlocks hM hS (v := (-1)) rfl hf dX7_between_20
set_option maxHeartbeats 4000000 in
set_option maxRecDepth 100000 in
theorem c_X7_high (l : Launch) (dC : Nat → ClassId) (dI : Nat → Nat → Nat) (ad : Nat → Nat) (cI cZ : ClassId) (hI : ob_inj shM ad) (d : Nat) (hd : 2 ≤ d) (g : Mm) (x1 : Int32) (r : Int32) (t : Mm) (hf : f_X7_high g x1 = some (r, t)) : ob_Mi l yX7_high wsX7_high d (dC, dI) vwCl shM ad cI cZ nwM [.ref (ad 0), .int x1] g r t := by
  refine ob_ofW (cc := cX7_high) (maxL := 7) (ret := (some .int)) (by decide) rfl ?_
  intro p e s m args below meth c ha hx hb hr hml hts hown hlocks hM0 hK hS0
  have hown : s.vm.findClass RX7 = some m.cls := hown
  have in_own : ∀ w ∈ wsX70, w ∈ wsX7_high := fun w h => (List.mem_cons_of_mem _ (List.mem_append_right _ h))
  have hf_50 := hts (.fieldLink RX7 50 "OneWorseModel" "high" "[I") (List.mem_cons_of_mem _ (List.mem_append_left _ (List.mem_of_getElem? (i := 1) rfl)))
  have hf_13 := hts (.fieldLink RX7 13 "OneWorseModel" "book" "[I") (List.mem_cons_of_mem _ (List.mem_append_left _ (List.mem_of_getElem? (i := 0) rfl)))
  have w_104 : ∀ (k31 : Mm → Int32 → Int32 → Int32 → Int32 → Int32 → Option (Int32 × Mm)) (hk31 : ∀ (g : Mm) (x1 x2 x3 x4 x5 : Int32) (H : Heap) (locs : List Loc), va_P (dC, dI) vwCl (ob_ws shM ad cI cZ g) H → va_S (ob_A shM ad) s.heap H locs → ∀ (ls : Array Slot), lv_has ls 7 [(0, .ref (ad 0)), (1, .int x1), (2, .int x2), (3, .int x3), (4, .int x4), (5, .int x5)] → k31 g x1 x2 x3 x4 x5 = some (r, t) → W p l e (rmN d) s m args below meth c H locs 0 0 (MQ below (ob_Qi (dC, dI) vwCl shM ad cI cZ r t) args s 0 0 (ob_A shM ad)) (F0 m 31 ls [])), ∀ (g : Mm) (x1 x2 x3 x5 s0 : Int32) (H : Heap) (locs : List Loc), va_P (dC, dI) vwCl (ob_ws shM ad cI cZ g) H → va_S (ob_A shM ad) s.heap H locs → ∀ (ls : Array Slot), lv_has ls 7 [(0, .ref (ad 0)), (1, .int x1), (2, .int x2), (3, .int x3), (5, .int x5)] → f_X7_high_J104 k31 g x1 x2 x3 x5 s0 = some (r, t) → W p l e (rmN d) s m args below meth c H locs 0 0 (MQ below (ob_Qi (dC, dI) vwCl shM ad cI cZ r t) args s 0 0 (ob_A shM ad)) (F0 m 104 ls [.int s0]) := by
    intro k31 hk31 g x1 x2 x3 x5 s0 H locs hM hS ls hl hf
    unfold f_X7_high_J104 at hf
    refine lv_istore (lv' := [(4, .int s0), (0, .ref (ad 0)), (1, .int x1), (2, .int x2), (3, .int x3), (5, .int x5)]) hx hb dX7_high_104 hl (by decide) rfl (fun ls hl => ?_)
    refine lv_iinc (v := (x5 + 1)) (lv' := [(5, .int (x5 + 1)), (4, .int s0), (0, .ref (ad 0)), (1, .int x1), (2, .int x2), (3, .int x3)]) hx hb dX7_high_106 hl (k := 5) rfl rfl (by decide) rfl (fun ls hl => ?_)
    refine lv_goto (tgt := 31) hx hb dX7_high_109 (by decide) ?_
    exact hk31 g x1 x2 x3 s0 (x5 + 1) _ _ hM hS _ (lv_sub hl [2, 3, 4, 5, 1, 0] rfl) hf
  have w_88 : ∀ (k31 : Mm → Int32 → Int32 → Int32 → Int32 → Int32 → Option (Int32 × Mm)) (hk31 : ∀ (g : Mm) (x1 x2 x3 x4 x5 : Int32) (H : Heap) (locs : List Loc), va_P (dC, dI) vwCl (ob_ws shM ad cI cZ g) H → va_S (ob_A shM ad) s.heap H locs → ∀ (ls : Array Slot), lv_has ls 7 [(0, .ref (ad 0)), (1, .int x1), (2, .int x2), (3, .int x3), (4, .int x4), (5, .int x5)] → k31 g x1 x2 x3 x4 x5 = some (r, t) → W p l e (rmN d) s m args below meth c H locs 0 0 (MQ below (ob_Qi (dC, dI) vwCl shM ad cI cZ r t) args s 0 0 (ob_A shM ad)) (F0 m 31 ls [])), ∀ (g : Mm) (x1 x2 x3 x4 x5 s0 : Int32) (H : Heap) (locs : List Loc), va_P (dC, dI) vwCl (ob_ws shM ad cI cZ g) H → va_S (ob_A shM ad) s.heap H locs → ∀ (ls : Array Slot), lv_has ls 7 [(0, .ref (ad 0)), (1, .int x1), (2, .int x2), (3, .int x3), (4, .int x4), (5, .int x5)] → f_X7_high_J88 k31 g x1 x2 x3 x4 x5 s0 = some (r, t) → W p l e (rmN d) s m args below meth c H locs 0 0 (MQ below (ob_Qi (dC, dI) vwCl shM ad cI cZ r t) args s 0 0 (ob_A shM ad)) (F0 m 88 ls [.int s0]) := by
    intro k31 hk31 g x1 x2 x3 x4 x5 s0 H locs hM hS ls hl hf
    unfold f_X7_high_J88 at hf
    refine lv_istore (lv' := [(6, .int s0), (0, .ref (ad 0)), (1, .int x1), (2, .int x2), (3, .int x3), (4, .int x4), (5, .int x5)]) hx hb dX7_high_88 hl (by decide) rfl (fun ls hl => ?_)
    refine lv_iload hx hb dX7_high_90 (lv_at hl 0 rfl) ?_
    refine lv_iload hx hb dX7_high_92 (lv_at hl 5 rfl) ?_
    refine lv_icmp_le (tgt := 102) hx hb dX7_high_94 (by decide) (fun c14 => ?_) (fun c14 => ?_)
    · rw [if_pos c14] at hf
      refine lv_iload hx hb dX7_high_102 (lv_at hl 5 rfl) ?_
      exact w_104 k31 hk31 g x1 x2 x3 x5 x4 _ _ hM hS _ (lv_sub hl [1, 2, 3, 4, 6] rfl) hf
    · rw [if_neg c14] at hf
      refine lv_iload hx hb dX7_high_97 (lv_at hl 0 rfl) ?_
      refine lv_goto (tgt := 104) hx hb dX7_high_99 (by decide) ?_
      exact w_104 k31 hk31 g x1 x2 x3 x5 s0 _ _ hM hS _ (lv_sub hl [1, 2, 3, 4, 6] rfl) hf
  have w_31 : ∀ (k112 : Mm → Int32 → Int32 → Int32 → Int32 → Option (Int32 × Mm)) (hk112 : ∀ (g : Mm) (x1 x2 x3 x4 : Int32) (H : Heap) (locs : List Loc), va_P (dC, dI) vwCl (ob_ws shM ad cI cZ g) H → va_S (ob_A shM ad) s.heap H locs → ∀ (ls : Array Slot), lv_has ls 7 [(0, .ref (ad 0)), (1, .int x1), (2, .int x2), (3, .int x3), (4, .int x4)] → k112 g x1 x2 x3 x4 = some (r, t) → W p l e (rmN d) s m args below meth c H locs 0 0 (MQ below (ob_Qi (dC, dI) vwCl shM ad cI cZ r t) args s 0 0 (ob_A shM ad)) (F0 m 112 ls [])) (n : Nat), ∀ (g : Mm) (x1 x2 x3 x4 x5 : Int32) (H : Heap) (locs : List Loc), va_P (dC, dI) vwCl (ob_ws shM ad cI cZ g) H → va_S (ob_A shM ad) s.heap H locs → ∀ (ls : Array Slot), lv_has ls 7 [(0, .ref (ad 0)), (1, .int x1), (2, .int x2), (3, .int x3), (4, .int x4), (5, .int x5)] → f_X7_high_L31 k112 n g x1 x2 x3 x4 x5 = some (r, t) → W p l e (rmN d) s m args below meth c H locs 0 0 (MQ below (ob_Qi (dC, dI) vwCl shM ad cI cZ r t) args s 0 0 (ob_A shM ad)) (F0 m 31 ls []) := by
    intro k112 hk112 n
    induction n with
    | zero =>
      intro g x1 x2 x3 x4 x5 H locs hM hS ls hl hf
      cases hf
    | succ n ih =>
      intro g x1 x2 x3 x4 x5 H locs hM hS ls hl hf
      unfold f_X7_high_L31 at hf
      refine lv_iload hx hb dX7_high_31 (lv_at hl 5 rfl) ?_
      refine lv_bipush (v := 10) hx hb dX7_high_33 (by decide) ?_
      refine lv_icmp_ge (tgt := 112) hx hb dX7_high_35 (by decide) (fun c6 => ?_) (fun c6 => ?_)
      · rw [if_pos c6] at hf
        exact hk112 g x1 x2 x3 x4 _ _ hM hS _ (lv_sub hl [0, 1, 2, 3, 4] rfl) hf
      · rw [if_neg c6] at hf
        refine lv_iload_n hx hb dX7_high_38 rfl (lv_at hl 2 rfl) ?_
        refine lv_iload_n hx hb dX7_high_39 rfl (lv_at hl 3 rfl) ?_
        obtain ⟨v7, e7, hf⟩ := ob_e1 hf
        refine ob_calli (va_runS (As := [.int x2, .int x3]) (rest := []) ⟨hx, hb, hml, hown, hts⟩ (c_X7_has l dC dI ad cI cZ hI 0 (Nat.le_refl _) g x2 x3  v7 e7) (va_cwS 2 hts gX7_high_X7_has rfl rfl rfl hd_X7_has (ob_R (Nat.le_trans (by decide) hd) (by decide))) (ob_preS hK hM) rfl rfl hl.1 rfl (lv_room (Nat.le_of_ble_eq_true rfl)) dX7_high_40 ⟨Nat.le_refl _, Nat.le_refl _⟩) hS (fun H locs hM hS => ?_)
        refine lv_if_eq (tgt := 112) hx hb dX7_high_43 (by decide) (fun c8 => ?_) (fun c8 => ?_)
        · rw [if_pos c8] at hf
          exact hk112 g x1 x2 x3 x4 _ _ hM hS _ (lv_sub hl [0, 1, 2, 3, 4] rfl) hf
        · rw [if_neg c8] at hf
          refine lv_aload_n hx hb dX7_high_46 rfl (lv_at hl 0 rfl) ?_
          refine ob_gr (j := 2) hx hb hts in_own hown hK hM (q := 0) shM_0 (C := RX7) (T := TX7) (N := 18) rfl 2 (by decide) hf_13 rfl dX7_high_47 ?_
          refine lv_iload_n hx hb dX7_high_50 rfl (lv_at hl 3 rfl) ?_
          obtain ⟨v9, e9, hf⟩ := ob_e1 hf
          refine ob_iald hx hb hK hM (q := 2) (n := 10) shM_2 e9 dX7_high_51 ?_
          refine lv_iload_n hx hb dX7_high_52 rfl (lv_at hl 2 rfl) ?_
          refine lv_iconst (v := (-1)) hx hb dX7_high_53 (by decide) ?_
          refine lv_ixor hx hb dX7_high_54 ?_
          refine lv_iand hx hb dX7_high_55 ?_
          refine lv_iload hx hb dX7_high_56 (lv_at hl 5 rfl) ?_
          obtain ⟨v10, e10, hf⟩ := ob_e1 hf
          refine ob_calli (va_runS (As := [.int (v9 &&& (x2 ^^^ (-1))), .int x5]) (rest := []) ⟨hx, hb, hml, hown, hts⟩ (c_X7_has l dC dI ad cI cZ hI 0 (Nat.le_refl _) g (v9 &&& (x2 ^^^ (-1))) x5  v10 e10) (va_cwS 2 hts gX7_high_X7_has rfl rfl rfl hd_X7_has (ob_R (Nat.le_trans (by decide) hd) (by decide))) (ob_preS hK hM) rfl rfl hl.1 rfl (lv_room (Nat.le_of_ble_eq_true rfl)) dX7_high_58 ⟨Nat.le_refl _, Nat.le_refl _⟩) hS (fun H locs hM hS => ?_)
          refine lv_if_eq (tgt := 87) hx hb dX7_high_61 (by decide) (fun c11 => ?_) (fun c11 => ?_)
          · rw [if_pos c11] at hf
            refine lv_iconst (v := 0) hx hb dX7_high_87 (by decide) ?_
            exact w_88 (f_X7_high_L31 k112 n) ih g x1 x2 x3 x4 x5 0 _ _ hM hS _ (lv_sub hl [0, 1, 2, 3, 4, 5] rfl) hf
          · rw [if_neg c11] at hf
            refine lv_aload_n hx hb dX7_high_64 rfl (lv_at hl 0 rfl) ?_
            refine ob_gr (j := 14) hx hb hts in_own hown hK hM (q := 0) shM_0 (C := RX7) (T := TX7) (N := 18) rfl 15 (by decide) hf_50 rfl dX7_high_65 ?_
            refine lv_sipush (v := 1024) hx hb dX7_high_68 (by decide) ?_
            refine lv_iload hx hb dX7_high_71 (lv_at hl 5 rfl) ?_
            refine lv_imul hx hb dX7_high_73 ?_
            refine lv_iload_n hx hb dX7_high_74 rfl (lv_at hl 2 rfl) ?_
            refine lv_iconst (v := 1) hx hb dX7_high_75 (by decide) ?_
            refine lv_iload hx hb dX7_high_76 (lv_at hl 5 rfl) ?_
            refine lv_ishl hx hb dX7_high_78 ?_
            refine lv_ior hx hb dX7_high_79 ?_
            refine lv_iadd hx hb dX7_high_80 ?_
            obtain ⟨v12, e12, hf⟩ := ob_e1 hf
            refine ob_iald hx hb hK hM (q := 14) (n := 10240) shM_14 e12 dX7_high_81 ?_
            refine lv_iconst (v := 1) hx hb dX7_high_82 (by decide) ?_
            refine lv_iadd hx hb dX7_high_83 ?_
            refine lv_goto (tgt := 88) hx hb dX7_high_84 (by decide) ?_
            exact w_88 (f_X7_high_L31 k112 n) ih g x1 x2 x3 x4 x5 (v12 + 1) _ _ hM hS _ (lv_sub hl [0, 1, 2, 3, 4, 5] rfl) hf
  have w_112 : ∀ (k19 : Mm → Int32 → Int32 → Int32 → Option (Int32 × Mm)) (hk19 : ∀ (g : Mm) (x1 x2 x3 : Int32) (H : Heap) (locs : List Loc), va_P (dC, dI) vwCl (ob_ws shM ad cI cZ g) H → va_S (ob_A shM ad) s.heap H locs → ∀ (ls : Array Slot), lv_has ls 7 [(0, .ref (ad 0)), (1, .int x1), (2, .int x2), (3, .int x3)] → k19 g x1 x2 x3 = some (r, t) → W p l e (rmN d) s m args below meth c H locs 0 0 (MQ below (ob_Qi (dC, dI) vwCl shM ad cI cZ r t) args s 0 0 (ob_A shM ad)) (F0 m 19 ls [])), ∀ (g : Mm) (x1 x2 x3 x4 : Int32) (H : Heap) (locs : List Loc), va_P (dC, dI) vwCl (ob_ws shM ad cI cZ g) H → va_S (ob_A shM ad) s.heap H locs → ∀ (ls : Array Slot), lv_has ls 7 [(0, .ref (ad 0)), (1, .int x1), (2, .int x2), (3, .int x3), (4, .int x4)] → f_X7_high_J112 k19 g x1 x2 x3 x4 = some (r, t) → W p l e (rmN d) s m args below meth c H locs 0 0 (MQ below (ob_Qi (dC, dI) vwCl shM ad cI cZ r t) args s 0 0 (ob_A shM ad)) (F0 m 112 ls []) := by
    intro k19 hk19 g x1 x2 x3 x4 H locs hM hS ls hl hf
    unfold f_X7_high_J112 at hf
    refine lv_aload_n hx hb dX7_high_112 rfl (lv_at hl 0 rfl) ?_
    refine ob_gr (j := 14) hx hb hts in_own hown hK hM (q := 0) shM_0 (C := RX7) (T := TX7) (N := 18) rfl 15 (by decide) hf_50 rfl dX7_high_113 ?_
    refine lv_sipush (v := 1024) hx hb dX7_high_116 (by decide) ?_
    refine lv_iload_n hx hb dX7_high_119 rfl (lv_at hl 3 rfl) ?_
    refine lv_imul hx hb dX7_high_120 ?_
    refine lv_iload_n hx hb dX7_high_121 rfl (lv_at hl 2 rfl) ?_
    refine lv_iadd hx hb dX7_high_122 ?_
    refine lv_iload hx hb dX7_high_123 (lv_at hl 4 rfl) ?_
    obtain ⟨g13, e13, hf⟩ := ob_e1 hf
    refine ob_iast hx hb hK hM hI hS (q := 14) (n := 10240) shM_14 e13 dX7_high_125 (fun H locs hM hS => ?_)
    refine lv_iinc (v := (x3 + 1)) (lv' := [(3, .int (x3 + 1)), (0, .ref (ad 0)), (1, .int x1), (2, .int x2), (4, .int x4)]) hx hb dX7_high_126 hl (k := 3) rfl rfl (by decide) rfl (fun ls hl => ?_)
    refine lv_goto (tgt := 19) hx hb dX7_high_129 (by decide) ?_
    exact hk19 g13 x1 x2 (x3 + 1) _ _ hM hS _ (lv_sub hl [1, 2, 3, 0] rfl) hf
  have w_19 : ∀ (k13 : Mm → Int32 → Int32 → Option (Int32 × Mm)) (hk13 : ∀ (g : Mm) (x1 x2 : Int32) (H : Heap) (locs : List Loc), va_P (dC, dI) vwCl (ob_ws shM ad cI cZ g) H → va_S (ob_A shM ad) s.heap H locs → ∀ (ls : Array Slot), lv_has ls 7 [(0, .ref (ad 0)), (1, .int x1), (2, .int x2)] → k13 g x1 x2 = some (r, t) → W p l e (rmN d) s m args below meth c H locs 0 0 (MQ below (ob_Qi (dC, dI) vwCl shM ad cI cZ r t) args s 0 0 (ob_A shM ad)) (F0 m 13 ls [])) (n : Nat), ∀ (g : Mm) (x1 x2 x3 : Int32) (H : Heap) (locs : List Loc), va_P (dC, dI) vwCl (ob_ws shM ad cI cZ g) H → va_S (ob_A shM ad) s.heap H locs → ∀ (ls : Array Slot), lv_has ls 7 [(0, .ref (ad 0)), (1, .int x1), (2, .int x2), (3, .int x3)] → f_X7_high_L19 k13 n g x1 x2 x3 = some (r, t) → W p l e (rmN d) s m args below meth c H locs 0 0 (MQ below (ob_Qi (dC, dI) vwCl shM ad cI cZ r t) args s 0 0 (ob_A shM ad)) (F0 m 19 ls []) := by
    intro k13 hk13 n
    induction n with
    | zero =>
      intro g x1 x2 x3 H locs hM hS ls hl hf
      cases hf
    | succ n ih =>
      intro g x1 x2 x3 H locs hM hS ls hl hf
      unfold f_X7_high_L19 at hf
      refine lv_iload_n hx hb dX7_high_19 rfl (lv_at hl 3 rfl) ?_
      refine lv_bipush (v := 10) hx hb dX7_high_20 (by decide) ?_
      refine lv_icmp_ge (tgt := 132) hx hb dX7_high_22 (by decide) (fun c5 => ?_) (fun c5 => ?_)
      · rw [if_pos c5] at hf
        refine lv_iinc (v := (x2 + (-1))) (lv' := [(2, .int (x2 + (-1))), (0, .ref (ad 0)), (1, .int x1), (3, .int x3)]) hx hb dX7_high_132 hl (k := 2) rfl rfl (by decide) rfl (fun ls hl => ?_)
        refine lv_goto (tgt := 13) hx hb dX7_high_135 (by decide) ?_
        exact hk13 g x1 (x2 + (-1)) _ _ hM hS _ (lv_sub hl [1, 2, 0] rfl) hf
      · rw [if_neg c5] at hf
        refine lv_iconst (v := 0) hx hb dX7_high_25 (by decide) ?_
        refine lv_istore (lv' := [(4, .int 0), (0, .ref (ad 0)), (1, .int x1), (2, .int x2), (3, .int x3)]) hx hb dX7_high_26 hl (by decide) rfl (fun ls hl => ?_)
        refine lv_iconst (v := 0) hx hb dX7_high_28 (by decide) ?_
        refine lv_istore (lv' := [(5, .int 0), (4, .int 0), (0, .ref (ad 0)), (1, .int x1), (2, .int x2), (3, .int x3)]) hx hb dX7_high_29 hl (by decide) rfl (fun ls hl => ?_)
        exact w_31 (f_X7_high_J112 (f_X7_high_L19 k13 n)) (w_112 (f_X7_high_L19 k13 n) ih) FU g x1 x2 x3 0 0 _ _ hM hS _ (lv_sub hl [2, 3, 4, 5, 1, 0] rfl) hf
  have w_13 : ∀ (n : Nat), ∀ (g : Mm) (x1 x2 : Int32) (H : Heap) (locs : List Loc), va_P (dC, dI) vwCl (ob_ws shM ad cI cZ g) H → va_S (ob_A shM ad) s.heap H locs → ∀ (ls : Array Slot), lv_has ls 7 [(0, .ref (ad 0)), (1, .int x1), (2, .int x2)] → f_X7_high_L13 n g x1 x2 = some (r, t) → W p l e (rmN d) s m args below meth c H locs 0 0 (MQ below (ob_Qi (dC, dI) vwCl shM ad cI cZ r t) args s 0 0 (ob_A shM ad)) (F0 m 13 ls []) := by
    intro n
    induction n with
    | zero =>
      intro g x1 x2 H locs hM hS ls hl hf
      cases hf
    | succ n ih =>
      intro g x1 x2 H locs hM hS ls hl hf
      unfold f_X7_high_L13 at hf
      refine lv_iload_n hx hb dX7_high_13 rfl (lv_at hl 2 rfl) ?_
      refine lv_if_le (tgt := 138) hx hb dX7_high_14 (by decide) (fun c3 => ?_) (fun c3 => ?_)
      · rw [if_pos c3] at hf
        refine lv_aload_n hx hb dX7_high_138 rfl (lv_at hl 0 rfl) ?_
        refine ob_gr (j := 14) hx hb hts in_own hown hK hM (q := 0) shM_0 (C := RX7) (T := TX7) (N := 18) rfl 15 (by decide) hf_50 rfl dX7_high_139 ?_
        refine lv_sipush (v := 1024) hx hb dX7_high_142 (by decide) ?_
        refine lv_iload_n hx hb dX7_high_145 rfl (lv_at hl 1 rfl) ?_
        refine lv_imul hx hb dX7_high_146 ?_
        refine lv_iconst (v := 1) hx hb dX7_high_147 (by decide) ?_
        refine lv_iload_n hx hb dX7_high_148 rfl (lv_at hl 1 rfl) ?_
        refine lv_ishl hx hb dX7_high_149 ?_
        refine lv_iadd hx hb dX7_high_150 ?_
        obtain ⟨v4, e4, hf⟩ := ob_e1 hf
        refine ob_iald hx hb hK hM (q := 14) (n := 10240) shM_14 e4 dX7_high_151 ?_
        exact ob_iret hx hb hr hlocks hM hS (v := v4) rfl hf dX7_high_152
      · rw [if_neg c3] at hf
        refine lv_iconst (v := 0) hx hb dX7_high_17 (by decide) ?_
        refine lv_istore_n (lv' := [(3, .int 0), (0, .ref (ad 0)), (1, .int x1), (2, .int x2)]) hx hb dX7_high_18 rfl hl (by decide) rfl (fun ls hl => ?_)
        exact w_19 (f_X7_high_L13 n) ih FU g x1 x2 0 _ _ hM hS _ (lv_sub hl [1, 2, 3, 0] rfl) hf
  subst ha
  have hl := lv_entry ([.ref (ad 0), .int x1]) (n := 7) (Nat.le_of_ble_eq_true rfl)
  rw [lg_entry_eq]
  generalize (lg_sl ([.ref (ad 0), .int x1]) ++ List.replicate (7 - (lg_sl ([.ref (ad 0), .int x1])).length) Slot.unset).toArray = ls at hl ⊢
  have hl : lv_has ls 7 [(0, .ref (ad 0)), (1, .int x1)] := hl
  have hM := hM0
  have hS := hS0
  unfold f_X7_high at hf
  refine lv_iload_n hx hb dX7_high_0 rfl (lv_at hl 1 rfl) ?_
  obtain ⟨v1, e1, hf⟩ := ob_e1 hf
  refine ob_calli (va_runS (As := [.int x1]) (rest := []) ⟨hx, hb, hml, hown, hts⟩ (c_X7_isInsult l dC dI ad cI cZ hI 1 (Nat.le_refl _) g x1  v1 e1) (va_cwS 1 hts gX7_high_X7_isInsult rfl rfl rfl hd_X7_isInsult (ob_R (Nat.le_trans (by decide) hd) (by decide))) (ob_preS hK hM) rfl rfl hl.1 rfl (lv_room (Nat.le_of_ble_eq_true rfl)) dX7_high_1 ⟨Nat.le_refl _, Nat.le_refl _⟩) hS (fun H locs hM hS => ?_)
  refine lv_if_ne (tgt := 9) hx hb dX7_high_4 (by decide) (fun c2 => ?_) (fun c2 => ?_)
  · rw [if_neg c2] at hf
    refine lv_sipush (v := 1023) hx hb dX7_high_9 (by decide) ?_
    refine lv_istore_n (lv' := [(2, .int 1023), (0, .ref (ad 0)), (1, .int x1)]) hx hb dX7_high_12 rfl hl (by decide) rfl (fun ls hl => ?_)
    exact w_13 FU g x1 1023 _ _ hM hS _ (lv_sub hl [1, 2, 0] rfl) hf
  · rw [if_pos c2] at hf
    refine lv_iconst (v := (-1)) hx hb dX7_high_7 (by decide) ?_
    exact ob_iret hx hb hr hlocks hM hS (v := (-1)) rfl hf dX7_high_8
