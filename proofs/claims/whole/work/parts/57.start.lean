theorem la_fm {α β : Type} {f : α → Option β} : ∀ {is : List α} {w : List β}, is.map f = w.map some → is.filterMap f = w
  | [], [], _ => rfl
  | [], _ :: _, h => by cases h
  | _ :: _, [], h => by cases h
  | i :: is, x :: w, h => by
    rw [List.map_cons, List.map_cons] at h
    injection h with h1 h2
    simp [List.filterMap_cons, h1, la_fm h2]
theorem la_left {D : va_G} {cl : List vw_C} {w1 w2 : va_W} {H : Heap} (h : va_P D cl (w1 ++ w2) H) : va_P D cl w1 H := fun k q hk => h k q (by rw [List.getElem?_append_left (List.getElem?_eq_some_iff.mp hk).1]; exact hk)
theorem la_right {D : va_G} {cl : List vw_C} {w1 w2 : va_W} {H : Heap} (h : va_P D cl (w1 ++ w2) H) : va_P D cl w2 H := fun k q hk => h (w1.length + k) q (by rw [List.getElem?_append_right (Nat.le_add_right _ _), Nat.add_sub_cancel_left]; exact hk)
theorem la_inA {A : Nat → Prop} {sh : List ob_S} {ad : Nat → Nat} {cI cZ : ClassId} {g : Mm} (h : va_D A (ob_ws sh ad cI cZ g)) : ∀ a, ob_A sh ad a → A a := by
  rintro a ⟨q, hq, rfl⟩
  exact h.2 q _ (ob_look (List.getElem?_eq_getElem hq))
theorem la_inH {D : va_G} {cl : List vw_C} {sh : List ob_S} {ad : Nat → Nat} {cI cZ : ClassId} {g : Mm} {H : Heap} (h : va_P D cl (ob_ws sh ad cI cZ g) H) : ∀ a, ob_A sh ad a → a < H.size := by
  rintro a ⟨q, hq, rfl⟩
  exact (h q _ (ob_look (List.getElem?_eq_getElem hq))).lt
theorem la_apart {A : Nat → Prop} {sh : List ob_S} {ad : Nat → Nat} {cI cZ : ClassId} {g : Mm} {x : Nat × va_E} (h : va_D A (ob_ws sh ad cI cZ g ++ [x])) : ∀ a, ob_A sh ad a → a ≠ x.1 := by
  rintro a ⟨q, hq, rfl⟩ e
  have hlen : (ob_ws sh ad cI cZ g).length = sh.length := by simp [ob_ws]
  have h1 : (ob_ws sh ad cI cZ g ++ [x])[q]? = some (ad q, ob_cell ad cI cZ (g q) sh[q]) := by
    rw [List.getElem?_append_left (by rw [hlen]; exact hq)]
    exact ob_look (List.getElem?_eq_getElem hq)
  have h2 : (ob_ws sh ad cI cZ g ++ [x])[sh.length]? = some x := by
    rw [List.getElem?_append_right (by rw [hlen]; exact Nat.le_refl _), hlen, Nat.sub_self]
    rfl
  have := h.1 q sh.length _ _ h1 h2 e
  omega
theorem la_lastA {A : Nat → Prop} {sh : List ob_S} {ad : Nat → Nat} {cI cZ : ClassId} {g : Mm} {x : Nat × va_E} (h : va_D A (ob_ws sh ad cI cZ g ++ [x])) : A x.1 := by
  refine h.2 sh.length x ?_
  have hlen : (ob_ws sh ad cI cZ g).length = sh.length := by simp [ob_ws]
  rw [List.getElem?_append_right (by rw [hlen]; exact Nat.le_refl _), hlen, Nat.sub_self]
  rfl
set_option maxHeartbeats 16000000 in
set_option maxRecDepth 100000 in
theorem whole_start {p : Program} {e : Env} {s : State} {m : MethodId} {below : List Frame} {meth : Method} {c : Code} (l : Launch) (hflags : l.flags = flags0) {b L : Nat} {xs : Nat → Int32} (hL : L ≤ 3072) (C0 : lw_At p s m meth c b L xs) : W p l e room_1 s m #[Value.ref b] below meth c s.heap [] 0 0 (lw_Z below #[Value.ref b] s) (entryFrame m ([Value.ref b] : List Value).toArray 4) := by
  obtain ⟨hx, hb, hr, hml, hown, hts, hX0, hbl, hlocks, hgv⟩ := id C0
  have hown : s.vm.findClass RL = some m.cls := hown
  have hT : ∀ w ∈ wsL_law, w.before #[Value.ref b] s = true := fun w h => hts w (wsL_law_in w h)
  have hA : ∀ q : Nat, s.heap.size ≤ q → (fun q : Nat => s.heap.size ≤ q) q := fun _ h => h
  obtain ⟨dC, dI, hKc⟩ := classes_known hts
  obtain ⟨cI, cZ, hKa⟩ := two_classes (hts (.arrayClass .int) (by decide +kernel)) (hts (.arrayClass .boolean) (by decide +kernel))
  have hK : va_K (dC, dI) vwCl [(cI, .int), (cZ, .boolean)] s := ⟨hKc, hKa⟩
  have hKX : ob_K (dC, dI) vwCl cI cZ nwX s := ⟨hK, nests_in hts⟩
  have hKM : ob_K (dC, dI) vwCl cI cZ nwM s := ⟨hK, fun q h => absurd h List.not_mem_nil⟩
  have hS : va_S (fun q : Nat => s.heap.size ≤ q) s.heap s.heap [] := va_S.rf
  have hP : va_P (dC, dI) vwCl [] s.heap := fun k q h => by simp at h
  have hD : va_D (fun q : Nat => s.heap.size ≤ q) [] := ⟨fun i j p q h => by simp at h, fun k q h => by simp at h⟩
  have hl := lv_entry ([.ref b]) (n := 4) (Nat.le_of_ble_eq_true rfl)
  rw [lg_entry_eq]
  generalize (lg_sl ([.ref b]) ++ List.replicate (4 - (lg_sl ([.ref b])).length) Slot.unset).toArray = ls at hl ⊢
  have hl : lv_has ls 4 [(0, .ref b)] := hl
  refine va_new (ci := 6) (fs := [.null, .null, .null, .null, .null, .null, .null, .null]) (C := RX6) (T := TX6) (N := 8) hx hb hts inX6 tyX6 tyX6_ok hown (hT (.classLink RL 7 RX6) (by decide +kernel)) (hT (.instantiable RX6 8) (by decide +kernel)) (hT (.initialized RX6) (by decide +kernel)) hK hP hD hS hA rfl (fun j hj => by rcases (show j = 0 ∨ j = 1 ∨ j = 2 ∨ j = 3 ∨ j = 4 ∨ j = 5 ∨ j = 6 ∨ j = 7 by omega) with rfl | rfl | rfl | rfl | rfl | rfl | rfl | rfl <;> rfl) (Nat.le_of_ble_eq_true rfl) (Nat.le_of_ble_eq_true rfl) dL_law_0 (fun h0 H hP hD hS => ?_)
  have hP : va_P (dC, dI) vwCl [(h0, .inr (6, [.null, .null, .null, .null, .null, .null, .null, .null]))] H := hP
  have hD : va_D (fun q : Nat => s.heap.size ≤ q) [(h0, .inr (6, [.null, .null, .null, .null, .null, .null, .null, .null]))] := hD
  refine W.widen (k := 1) (n := 8) (Nat.le_of_ble_eq_true rfl) (Nat.le_of_ble_eq_true rfl) ?_
  refine lv_dup hx hb dL_law_3 rfl ?_
  have hFc := va_free (wc := [(h0, .inr (6, [.null, .null, .null, .null, .null, .null, .null, .null]))]) hD hS hA [0] rfl
  refine va_callv (va_runI (As := []) (rest := [.ref h0]) ⟨hx, hb, hml, hown, hT⟩ (k_X6_init l dC dI cI cZ h0 H.size) (cwI 0 hT gL_law_X6_init rfl rfl rfl (hT (.initialized RX6) (by decide +kernel)) (hT (.methodLink RL 9 yX6_init) (by decide +kernel)) (hT (.instanceMethod yX6_init) (by decide +kernel)) rfl (by decide +kernel) ⟨Nat.le_of_ble_eq_true rfl, Nat.le_of_ble_eq_true rfl⟩) ⟨fun a U g mk q => by obtain ⟨q0, q1, qP, qK, qD⟩ := q; exact ⟨q0, q1, qP, ⟨va_K.moved (u := U) (U := U.calling g mk a) (Vm.Alike.refl U.vm) qK.1, fun q hq => va_Nw.same rfl (rfl : U.vm = (U.calling g mk a).vm) (qK.2 q hq)⟩, qD⟩, fun U hU hW => ⟨rfl, by rw [hU], by rw [hU]; exact hP, hKX.moved hW, hD.weaken (fun _ _ _ _ => trivial)⟩⟩ rfl rfl hl.1 rfl (lv_room (Nat.le_of_ble_eq_true rfl)) dL_law_4 ⟨Nat.le_of_ble_eq_true rfl, Nat.le_of_ble_eq_true rfl⟩) hS (fun q _ h => hFc q h) hFc (fun u t H1 locs ht hvm hw hB hz1 hk1 hS => ?_)
  obtain ⟨w1, ⟨o1, o1_1, o2, o2_1, o2_2, o2_3, o2_4, o3, o3_1, o3_2, o3_3, o3_4, o4, o4_1, o4_2, o4_3, o4_4, o5, o5_1, o6, o6_1, o6_2, o6_3, o6_4, o7, o7_1, o7_2, o7_3, o7_4, o8, rfl⟩, hP1, hD1⟩ := hB
  rw [ht] at hP1
  obtain ⟨adX, had, hPX, hDX⟩ : ∃ adX : Nat → Nat, adX 0 = h0 ∧ va_P (dC, dI) vwCl (ob_ws shX adX cI cZ gX0) H1 ∧ va_D (fun q : Nat => s.heap.size ≤ q) (ob_ws shX adX cI cZ gX0) := by
    have hw := (wX_perm h0 o1 o1_1 o2 o2_1 o2_2 o2_3 o2_4 o3 o3_1 o3_2 o3_3 o3_4 o4 o4_1 o4_2 o4_3 o4_4 o5 o5_1 o6 o6_1 o6_2 o6_3 o6_4 o7 o7_1 o7_2 o7_3 o7_4 o8 cI cZ)
    exact ⟨_, rfl, hP1.sub _ (la_fm hw), ((hD1.weaken (fun k q _ h => hFc _ h)).sub _ (by decide) hw)⟩
  subst had
  clear hP1 hD1
  refine W.widen (k := 31) (n := 11701) (Nat.le_of_ble_eq_true rfl) (Nat.le_of_ble_eq_true rfl) ?_
  refine lv_astore_n (lv' := [(1, .ref (adX 0)), (0, .ref b)]) hx hb dL_law_7 rfl hl (by decide) rfl (fun ls hl => ?_)
  refine va_new (ci := 7) (fs := [.int 0, .null, .null, .null, .null, .null, .null, .null, .int 0, .null, .null, .null, .null, .null, .null, .null, .null, .null]) (C := RX7) (T := TX7) (N := 18) hx hb hts inX7 tyX7 tyX7_ok hown (hT (.classLink RL 10 RX7) (by decide +kernel)) (hT (.instantiable RX7 18) (by decide +kernel)) (hT (.initialized RX7) (by decide +kernel)) hK hPX hDX hS hA rfl (fun j hj => by rcases (show j = 0 ∨ j = 1 ∨ j = 2 ∨ j = 3 ∨ j = 4 ∨ j = 5 ∨ j = 6 ∨ j = 7 ∨ j = 8 ∨ j = 9 ∨ j = 10 ∨ j = 11 ∨ j = 12 ∨ j = 13 ∨ j = 14 ∨ j = 15 ∨ j = 16 ∨ j = 17 by omega) with rfl | rfl | rfl | rfl | rfl | rfl | rfl | rfl | rfl | rfl | rfl | rfl | rfl | rfl | rfl | rfl | rfl | rfl <;> rfl) (Nat.le_of_ble_eq_true rfl) (Nat.le_of_ble_eq_true rfl) dL_law_8 (fun m0 H hP2 hD2 hS => ?_)
  have hPX := la_left hP2
  have hPm := la_right hP2
  have hne := la_apart hD2
  have hm0 : s.heap.size ≤ m0 := la_lastA hD2
  refine W.widen (k := 32) (n := 11719) (Nat.le_of_ble_eq_true rfl) (Nat.le_of_ble_eq_true rfl) ?_
  refine lv_dup hx hb dL_law_11 rfl ?_
  have hDm : va_D (fun _ => True) [(m0, (.inr (7, [.int 0, .null, .null, .null, .null, .null, .null, .null, .int 0, .null, .null, .null, .null, .null, .null, .null, .null, .null]) : va_E))] := by
    refine ⟨fun i j p q hp hq _ => ?_, fun _ _ _ => trivial⟩
    have h1 := (List.getElem?_eq_some_iff.mp hp).1
    have h2 := (List.getElem?_eq_some_iff.mp hq).1
    simp only [List.length_cons, List.length_nil] at h1 h2
    omega
  have hFm : ∀ q, va_A [(m0, (.inr (7, [.int 0, .null, .null, .null, .null, .null, .null, .null, .int 0, .null, .null, .null, .null, .null, .null, .null, .null, .null]) : va_E))] H.size q → q = m0 ∨ H.size ≤ q := by
    rintro q (⟨k, e, he⟩ | h)
    · have h1 := (List.getElem?_eq_some_iff.mp he).1
      simp only [List.length_cons, List.length_nil] at h1
      rw [show k = 0 by omega] at he
      cases he
      exact Or.inl rfl
    · exact Or.inr h
  have hFs : ∀ q, va_A [(m0, (.inr (7, [.int 0, .null, .null, .null, .null, .null, .null, .null, .int 0, .null, .null, .null, .null, .null, .null, .null, .null, .null]) : va_E))] H.size q → s.heap.size ≤ q := by
    intro q h
    rcases hFm q h with rfl | h
    · exact hm0
    · exact Nat.le_trans hS.1 h
  have hFX : ∀ a, ob_A shX adX a → a < H.size → ¬ va_A [(m0, (.inr (7, [.int 0, .null, .null, .null, .null, .null, .null, .null, .int 0, .null, .null, .null, .null, .null, .null, .null, .null, .null]) : va_E))] H.size a := by
    intro a h1 h2 h3
    rcases hFm a h3 with h | h
    · exact hne a h1 h
    · omega
  have hlt := la_inH hPX
  refine va_callv (va_runI (As := []) (rest := [.ref m0]) ⟨hx, hb, hml, hown, hT⟩ (k_X7_init l dC dI cI cZ m0 H.size) (cwI 0 hT gL_law_X7_init rfl rfl rfl (hT (.initialized RX7) (by decide +kernel)) (hT (.methodLink RL 12 yX7_init) (by decide +kernel)) (hT (.instanceMethod yX7_init) (by decide +kernel)) rfl (by decide +kernel) ⟨Nat.le_of_ble_eq_true rfl, Nat.le_of_ble_eq_true rfl⟩) ⟨fun a U g mk q => by obtain ⟨q0, q1, qP, qK, qD⟩ := q; exact ⟨q0, q1, qP, va_K.moved (u := U) (U := U.calling g mk a) (Vm.Alike.refl U.vm) qK, qD⟩, fun U hU hW => ⟨rfl, by rw [hU], by rw [hU]; exact hPm, va_K.moved hW.alike hK, hDm⟩⟩ rfl rfl hl.1 rfl (lv_room (Nat.le_of_ble_eq_true rfl)) dL_law_12 ⟨Nat.le_of_ble_eq_true rfl, Nat.le_of_ble_eq_true rfl⟩) hS (fun q _ h => hFs q h) hFs (fun u t H1 locs ht hvm hw hB hz1 hk1 hS => ?_)
  obtain ⟨w1, ⟨q1, q2, q3, q4, q5, q6, q7, q8, q9, q10, q11, q12, q13, q14, q15, q16, rfl⟩, hP1, hD1⟩ := hB
  rw [ht] at hP1
  obtain ⟨adM, had, hPM, hDM⟩ : ∃ adM : Nat → Nat, adM 0 = m0 ∧ va_P (dC, dI) vwCl (ob_ws shM adM cI cZ gM0) H1 ∧ va_D (va_A [(m0, (.inr (7, [.int 0, .null, .null, .null, .null, .null, .null, .null, .int 0, .null, .null, .null, .null, .null, .null, .null, .null, .null]) : va_E))] H.size) (ob_ws shM adM cI cZ gM0) := by
    have hw := wM_perm m0 q1 q2 q3 q4 q5 q6 q7 q8 q9 q10 q11 q12 q13 q14 q15 q16 cI cZ
    exact ⟨_, rfl, hw ▸ hP1, hw ▸ hD1⟩
  clear hP1 hD1
  have hPX := la_kept hPX hk1 hFX
  refine W.widen (k := 600000) (n := 7302250) (Nat.le_of_ble_eq_true rfl) (Nat.le_of_ble_eq_true rfl) ?_
  refine lv_astore_n (lv' := [(2, .ref m0), (1, .ref (adX 0)), (0, .ref b)]) hx hb dL_law_15 rfl hl (by decide) rfl (fun ls hl => ?_)
  refine lv_iconst (v := 0) hx hb dL_law_16 (by decide) ?_
  refine lv_istore_n (lv' := [(3, .int 0), (2, .ref m0), (1, .ref (adX 0)), (0, .ref b)]) hx hb dL_law_17 rfl hl (by decide) rfl (fun ls hl => ?_)
  have C : la_C p s m meth c b L xs dC dI cI cZ adX adM := ⟨C0, hL, inj_of hDX, inj_of hDM, la_inA hDX, fun a h => hFs a (la_inA hDM a h), fun a h1 h2 => hFX a h1 (hlt a h1) (la_inA hDM a h2), hKX, hKM⟩
  subst had
  exact la_loop C (L + 1) 0 gX0 gM0 _ _ ls (Nat.zero_le L) (by omega) ⟨hPX, hPM, hS, rel0⟩ (lv_sub hl [3, 2, 1, 0] rfl)
