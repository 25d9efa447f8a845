theorem la_and (x : Int32) : ∃ j, j < 32 ∧ x &&& 31 = nI j := pk_andE x 5 (by decide +kernel)
theorem la_more {i L : Nat} (hL : L ≤ 3072) (hi : i ≤ L) (h6 : i % 6 = 0) (h : ¬ Int32.ofNat L - 6 < nI i) : i + 6 ≤ L := by
  rcases Nat.lt_or_ge L (i + 6) with q | q
  · refine absurd ?_ h
    rcases Nat.lt_or_ge L 6 with z | z
    · have : i = 0 := by omega
      subst this
      rcases (show L = 0 ∨ L = 1 ∨ L = 2 ∨ L = 3 ∨ L = 4 ∨ L = 5 by omega) with rfl | rfl | rfl | rfl | rfl | rfl <;> decide +kernel
    · obtain ⟨M, rfl⟩ : ∃ M, L = M + 6 := ⟨L - 6, by omega⟩
      have e : Int32.ofNat (M + 6) - 6 = nI M := by
        show nI (M + 6) - nI 6 = nI M
        rw [← nI_add M 6, Int32.add_sub_cancel]
      rw [e]
      exact nI_lt (by omega) (by omega)
  · exact q
set_option maxHeartbeats 4000000 in
set_option maxRecDepth 100000 in
theorem la_loop {p : Program} {l : Launch} {e : Env} {s : State} {m : MethodId} {below : List Frame} {meth : Method} {c : Code} {b L : Nat} {xs : Nat → Int32} {dC : Nat → ClassId} {dI : Nat → Nat → Nat} {cI cZ : ClassId} {adX adM : Nat → Nat} (C : la_C p s m meth c b L xs dC dI cI cZ adX adM) : ∀ (n k : Nat) (gX gM : Mm) (H : Heap) (locs : List Loc) (ls : Array Slot), 6 * k ≤ L → L < 6 * (k + n) → la_J s dC dI cI cZ adX adM k gX gM H locs → lv_has ls 4 [(0, .ref b), (1, .ref (adX 0)), (2, .ref (adM 0)), (3, .int (nI (6 * k)))] → W p l e room_1 s m #[Value.ref b] below meth c H locs 600000 7302250 (lw_Z below #[Value.ref b] s) (F0 m 18 ls []) := by
  obtain ⟨⟨hx, hb, hr, hml, hown, hts, hX0, hbl, hlocks, hgv⟩, hL, -⟩ := id C
  have hbA : ¬ (fun q : Nat => s.heap.size ≤ q) b := Nat.not_le.mpr hbl
  intro n
  induction n with
  | zero =>
    intro k gX gM H locs ls h1 h2
    exact absurd h2 (by omega)
  | succ n ih =>
    intro k gX gM H locs ls h1 h2 J hl
    have hS := J.2.2.1
    refine lv_iload_n hx hb dL_law_18 rfl (lv_at hl 3 rfl) ?_
    refine lv_aload_n hx hb dL_law_19 rfl (lv_at hl 0 rfl) ?_
    refine va_slen hx hb hX0 hbl hbA hS dL_law_20 ?_
    refine lv_bipush (v := 6) hx hb dL_law_21 (by decide) ?_
    refine lv_isub hx hb dL_law_23 ?_
    refine lv_icmp_gt (tgt := 904) hx hb dL_law_24 (by decide) (fun c1 => ?_) (fun c1 => ?_)
    · refine lv_iconst (v := 1) hx hb dL_law_904 (by decide) ?_
      refine va_forget (fun q hq => hS.2.2 q hq) ?_
      exact lw_ret hx hb hr hlocks dL_law_905
    · have hk := la_more hL h1 (by omega) c1
      have tail : ∀ (gX gM : Mm) (H : Heap) (locs : List Loc), la_J s dC dI cI cZ adX adM (k + 1) gX gM H locs → W p l e room_1 s m #[Value.ref b] below meth c H locs 600000 7302250 (lw_Z below #[Value.ref b] s) (F0 m 898 ls []) := by
        intro gX gM H locs J
        refine lv_iinc (v := nI (6 * (k + 1))) (lv' := [(3, .int (nI (6 * (k + 1)))), (0, .ref b), (1, .ref (adX 0)), (2, .ref (adM 0))]) hx hb dL_law_898 hl (k := 3) rfl ?_ (by decide) rfl (fun ls hl => ?_)
        · exact nI_add (6 * k) 6
        · refine lv_goto (tgt := 18) hx hb dL_law_901 (by decide) ?_
          exact ih (k + 1) gX gM H locs ls (by omega) (by omega) J (lv_sub hl [1, 2, 3, 0] rfl)
      refine lv_aload_n hx hb dL_law_27 rfl (lv_at hl 0 rfl) ?_
      refine lv_iload_n hx hb dL_law_28 rfl (lv_at hl 3 rfl) ?_
      refine va_sld hx hb hX0 hbl hbA hS (vp_in_nI (show 6 * k < L by omega) (by omega)) dL_law_29 ?_
      refine lv_bipush (v := 31) hx hb dL_law_30 (by decide) ?_
      refine lv_iand hx hb dL_law_32 ?_
      obtain ⟨j, hj, ej⟩ := la_and (xs (nI (6 * k)).toNatClampNeg)
      rw [ej]
      rcases Nat.lt_or_ge j 24 with q | q
      · rcases (show j = 0 ∨ j = 1 ∨ j = 2 ∨ j = 3 ∨ j = 4 ∨ j = 5 ∨ j = 6 ∨ j = 7 ∨ j = 8 ∨ j = 9 ∨ j = 10 ∨ j = 11 ∨ j = 12 ∨ j = 13 ∨ j = 14 ∨ j = 15 ∨ j = 16 ∨ j = 17 ∨ j = 18 ∨ j = 19 ∨ j = 20 ∨ j = 21 ∨ j = 22 ∨ j = 23 by omega) with rfl | rfl | rfl | rfl | rfl | rfl | rfl | rfl | rfl | rfl | rfl | rfl | rfl | rfl | rfl | rfl | rfl | rfl | rfl | rfl | rfl | rfl | rfl | rfl
        · exact lv_tableIn (off := 111) (tgt := 144) hx hb dL_law_33 (by decide) (by decide) (by decide) (by decide) (la_0 C hk J hl tail)
        · exact lv_tableIn (off := 134) (tgt := 167) hx hb dL_law_33 (by decide) (by decide) (by decide) (by decide) (la_1 C hk J hl tail)
        · exact lv_tableIn (off := 147) (tgt := 180) hx hb dL_law_33 (by decide) (by decide) (by decide) (by decide) (la_2 C hk J hl tail)
        · exact lv_tableIn (off := 170) (tgt := 203) hx hb dL_law_33 (by decide) (by decide) (by decide) (by decide) (la_3 C hk J hl tail)
        · exact lv_tableIn (off := 183) (tgt := 216) hx hb dL_law_33 (by decide) (by decide) (by decide) (by decide) (la_4 C hk J hl tail)
        · exact lv_tableIn (off := 242) (tgt := 275) hx hb dL_law_33 (by decide) (by decide) (by decide) (by decide) (la_5 C hk J hl tail)
        · exact lv_tableIn (off := 275) (tgt := 308) hx hb dL_law_33 (by decide) (by decide) (by decide) (by decide) (la_6 C hk J hl tail)
        · exact lv_tableIn (off := 318) (tgt := 351) hx hb dL_law_33 (by decide) (by decide) (by decide) (by decide) (la_7 C hk J hl tail)
        · exact lv_tableIn (off := 341) (tgt := 374) hx hb dL_law_33 (by decide) (by decide) (by decide) (by decide) (la_8 C hk J hl tail)
        · exact lv_tableIn (off := 364) (tgt := 397) hx hb dL_law_33 (by decide) (by decide) (by decide) (by decide) (la_9 C hk J hl tail)
        · exact lv_tableIn (off := 407) (tgt := 440) hx hb dL_law_33 (by decide) (by decide) (by decide) (by decide) (la_10 C hk J hl tail)
        · exact lv_tableIn (off := 470) (tgt := 503) hx hb dL_law_33 (by decide) (by decide) (by decide) (by decide) (la_11 C hk J hl tail)
        · exact lv_tableIn (off := 513) (tgt := 546) hx hb dL_law_33 (by decide) (by decide) (by decide) (by decide) (la_12 C hk J hl tail)
        · exact lv_tableIn (off := 562) (tgt := 595) hx hb dL_law_33 (by decide) (by decide) (by decide) (by decide) (la_13 C hk J hl tail)
        · exact lv_tableIn (off := 585) (tgt := 618) hx hb dL_law_33 (by decide) (by decide) (by decide) (by decide) (la_14 C hk J hl tail)
        · exact lv_tableIn (off := 618) (tgt := 651) hx hb dL_law_33 (by decide) (by decide) (by decide) (by decide) (la_15 C hk J hl tail)
        · exact lv_tableIn (off := 651) (tgt := 684) hx hb dL_law_33 (by decide) (by decide) (by decide) (by decide) (la_16 C hk J hl tail)
        · exact lv_tableIn (off := 674) (tgt := 707) hx hb dL_law_33 (by decide) (by decide) (by decide) (by decide) (la_17 C hk J hl tail)
        · exact lv_tableIn (off := 697) (tgt := 730) hx hb dL_law_33 (by decide) (by decide) (by decide) (by decide) (la_18 C hk J hl tail)
        · exact lv_tableIn (off := 750) (tgt := 783) hx hb dL_law_33 (by decide) (by decide) (by decide) (by decide) (la_19 C hk J hl tail)
        · exact lv_tableIn (off := 773) (tgt := 806) hx hb dL_law_33 (by decide) (by decide) (by decide) (by decide) (la_20 C hk J hl tail)
        · exact lv_tableIn (off := 796) (tgt := 829) hx hb dL_law_33 (by decide) (by decide) (by decide) (by decide) (la_21 C hk J hl tail)
        · exact lv_tableIn (off := 819) (tgt := 852) hx hb dL_law_33 (by decide) (by decide) (by decide) (by decide) (la_22 C hk J hl tail)
        · exact lv_tableIn (off := 842) (tgt := 875) hx hb dL_law_33 (by decide) (by decide) (by decide) (by decide) (la_23 C hk J hl tail)
      · refine lv_tableOut (tgt := 898) hx hb dL_law_33 (Or.inr ?_) (by decide) (tail gX gM H locs ⟨J.1, J.2.1, J.2.2.1, J.2.2.2.mono (Nat.le_succ k)⟩)
        rw [nI_toInt (by omega)]
        omega
