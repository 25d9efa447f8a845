/-! From the middle; the longest; how high. -/
theorem ag_middle {k : Nat} {s u : Mm} (h : Rel k s u) (hk : k ≤ 512) (a b i f c : Int32) : ∃ r s' u', f_X6_middle s a b i f c = some (r, s') ∧ f_X7_middle u a b i f c = some (r, u') ∧ Rel (k + 1) s' u' := by
  cases h2 : two a b
  · refine ⟨-1, s, u, ?_, ?_, h.mono (by omega)⟩
    · unfold f_X6_middle
      rw [ob_b1_s (fx_areTwo a b), h2, if_pos bf0]
    · unfold f_X7_middle
      rw [ob_b1_s (fm_areTwo a b), h2, if_pos bf0]
  cases h3 : inr i 0 9
  · refine ⟨-1, s, u, ?_, ?_, h.mono (by omega)⟩
    · unfold f_X6_middle
      rw [ob_b1_s (fx_areTwo a b), h2, if_neg (bnot rfl), ob_b1_s (fx_isInsult i), h3, if_pos bf0]
    · unfold f_X7_middle
      rw [ob_b1_s (fm_areTwo a b), h2, if_neg (bnot rfl), ob_b1_s (fm_isInsult i), h3, if_pos bf0]
  cases h4 : inr f 0 1023
  · refine ⟨-2, s, u, ?_, ?_, h.mono (by omega)⟩
    · unfold f_X6_middle
      rw [ob_b1_s (fx_areTwo a b), h2, if_neg (bnot rfl), ob_b1_s (fx_isInsult i), h3, if_neg (bnot rfl), ob_b1_s (fx_within f 0 1023), h4, if_pos bf0]
    · unfold f_X7_middle
      rw [ob_b1_s (fm_areTwo a b), h2, if_neg (bnot rfl), ob_b1_s (fm_isInsult i), h3, if_neg (bnot rfl), ob_b1_s (fm_in f 0 1023), h4, if_pos bf0]
  obtain ⟨m, o, hm, ho, -, rfl, rfl⟩ := two_of h2
  obtain ⟨x, hx, rfl⟩ := inr_of (n := 9) (by decide) h3
  obtain ⟨fl, hf, rfl⟩ := inr_of (n := 1023) (by decide) h4
  cases h5 : fl.testBit x
  · refine ⟨-2, s, u, ?_, ?_, h.mono (by omega)⟩
    · unfold f_X6_middle
      rw [ob_b1_s (fx_areTwo _ _), h2, if_neg (bnot rfl), ob_b1_s (fx_isInsult _), h3, if_neg (bnot rfl), ob_b1_s (fx_within _ 0 1023), h4, if_neg (bnot rfl), ob_b1_s (fx_has (by omega) (by omega)), h5, if_pos bf0]
    · unfold f_X7_middle
      rw [ob_b1_s (fm_areTwo _ _), h2, if_neg (bnot rfl), ob_b1_s (fm_isInsult _), h3, if_neg (bnot rfl), ob_b1_s (fm_in _ 0 1023), h4, if_neg (bnot rfl), ob_b1_s (fm_has (by omega) (by omega)), h5, if_pos bf0]
  cases h6 : inr c 0 2
  · refine ⟨-2, s, u, ?_, ?_, h.mono (by omega)⟩
    · unfold f_X6_middle
      rw [ob_b1_s (fx_areTwo _ _), h2, if_neg (bnot rfl), ob_b1_s (fx_isInsult _), h3, if_neg (bnot rfl), ob_b1_s (fx_within _ 0 1023), h4, if_neg (bnot rfl), ob_b1_s (fx_has (by omega) (by omega)), h5, if_neg (bnot rfl), ob_b1_s (fx_within c 0 2), h6, if_pos bf0]
    · unfold f_X7_middle
      rw [ob_b1_s (fm_areTwo _ _), h2, if_neg (bnot rfl), ob_b1_s (fm_isInsult _), h3, if_neg (bnot rfl), ob_b1_s (fm_in _ 0 1023), h4, if_neg (bnot rfl), ob_b1_s (fm_has (by omega) (by omega)), h5, if_neg (bnot rfl), ob_b1_s (fm_in c 0 2), h6, if_pos bf0]
  obtain ⟨w, hw, rfl⟩ := inr_of (n := 2) (by decide) h6
  obtain ⟨⟨W, N, T, K, hR, hT⟩, -, -, -, ⟨R, hR16, hRM⟩, -⟩ := id h
  have hA : K m &&& FI N T o < 1024 := and_lt (hR.k m hm)
  have hB : K o &&& FI N T m < 1024 := and_lt (hR.k o ho)
  have hX := hT.x
  have hWx := hR.w x (by omega)
  have hl : (K m &&& FI N T o) &&& W x < 1024 := and_lt hA
  have hf2 : fl < 1024 := by omega
  obtain ⟨s', e1, k1, k2⟩ := fx_fight (b := decide (w = 0)) hR.w (by omega) hX.1 hRM (fl := fl) hf2 (dif_lt (b := fl) hl) hA hB (dif_apt hl) (fun i _ hh => by
    rw [dif_bit hl, Nat.testBit_and] at hh
    simp only [Bool.and_eq_true] at hh
    exact mem_or_l hh.1.1)
  generalize hmv : dif ((K m &&& FI N T o) &&& W x) fl = mv at e1 k1 k2
  have hmvl : mv < 1024 := by rw [← hmv]; exact dif_lt hl
  have hmva : apt mv fl := by rw [← hmv]; exact dif_apt hl
  have ex1 : f_X6_middle s (nI m) (nI o) (nI x) (nI fl) (nI w) = some ((if w = 0 then nI (tellV (SC trn W mv fl (K m &&& FI N T o) (K o &&& FI N T m)) m o) else if w = 1 then nI (tellN (SC trn W mv fl (K m &&& FI N T o) (K o &&& FI N T m))) else if SC trn W mv fl (K m &&& FI N T o) (K o &&& FI N T m) = 0 then -6 else nI (arg (ex trn W mv fl (K m &&& FI N T o) (K o &&& FI N T m)) 10)), s') := by
    have eo := fx_outcome (m := m) (o := o) hw rfl k2
    unfold f_X6_middle
    rw [ob_b1_s (fx_areTwo _ _), h2, if_neg (bnot rfl), ob_b1_s (fx_isInsult _), h3, if_neg (bnot rfl), ob_b1_s (fx_within _ 0 1023), h4, if_neg (bnot rfl), ob_b1_s (fx_has (by omega) (by omega)), h5, if_neg (bnot rfl), ob_b1_s (fx_within _ 0 2), h6, if_neg (bnot rfl), ob_b1_s (fx_sayable hX.2.1 hX.2.2.1 hX.2.2.2 hR.n hm ho), ob_b1_s (fx_worse (by omega)), ob_b1_s (fx_sayable hX.2.1 hX.2.2.1 hX.2.2.2 hR.n ho hm)]
    rw [show s (2 + 1) x = nI (W x) from hX.1 x (by omega), pb_and, pb_dif hl, hmv]
    by_cases hw0 : w = 0
    · rw [if_pos (show nI w = 0 by rw [hw0]; rfl)]
      unfold f_X6_middle_J112
      have e2 : bI (decide (w = 0)) = 1 := by simp [hw0]
      rw [e2] at e1
      rw [ob_b1_s e1, ob_b1_s eo]
    · rw [if_neg (nI_ne0 (by omega) (by omega))]
      unfold f_X6_middle_J112
      have e2 : bI (decide (w = 0)) = 0 := by simp [hw0]
      rw [e2] at e1
      rw [ob_b1_s e1, ob_b1_s eo]
  obtain ⟨g0, u1, f1, f2, f3, f4, f5⟩ := fm_layMatch hR hT.u hm ho
  obtain ⟨u2, f6, f7⟩ := fm_best0 hR.w f5 (fl := fl) hf2 hmvl hmva
  have hld : ob_ld u1 7 2 0 = some (nI (K m &&& FI N T o)) := by
    rw [show ob_ld u1 7 2 0 = some (u1 7 0) from ob_ld_nI (i := 0) (by decide) (by decide), f5.1 7 0 (by decide) (by decide), f3]
  have hu1 : u1 2 x = nI (W x) := (hT.u.fr (fr_X7_layMatch _ _ _ _ f1) (by decide)).1 x (by omega)
  have ex2 : f_X7_middle u (nI m) (nI o) (nI x) (nI fl) (nI w) = some ((if w = 0 then nI (tellV (SC trn W mv fl (K m &&& FI N T o) (K o &&& FI N T m)) m o) else if w = 1 then nI (tellN (SC trn W mv fl (K m &&& FI N T o) (K o &&& FI N T m))) else if SC trn W mv fl (K m &&& FI N T o) (K o &&& FI N T m) = 0 then -6 else nI (arg (ex trn W mv fl (K m &&& FI N T o) (K o &&& FI N T m)) 10)), u2) := by
    unfold f_X7_middle
    rw [ob_b1_s (fm_areTwo _ _), h2, if_neg (bnot rfl), ob_b1_s (fm_isInsult _), h3, if_neg (bnot rfl), ob_b1_s (fm_in _ 0 1023), h4, if_neg (bnot rfl), ob_b1_s (fm_has (by omega) (by omega)), h5, if_neg (bnot rfl), ob_b1_s (fm_in _ 0 2), h6, if_neg (bnot rfl), ob_b1_s f1, ob_b1_s (ob_ld_nI (by omega) (by decide)), ob_b1_s hld, hu1, pb_and, Nat.and_comm (W x), pb_dif hl, hmv, ob_b2_s f6, ob_b1_s (fm_toldOf (SC39 hR.w hmvl hmva) hw), f7]
  exact ⟨_, s', u2, ex1, ex2, h.scr (fr_X6_middle _ _ _ _ _ _ _ _ ex1) (fr_X7_middle _ _ _ _ _ _ _ _ ex2) (by decide) (by decide) (by decide) (RM.one hR16 k1)⟩
theorem ag_last {k : Nat} {s u : Mm} (h : Rel k s u) (hk : k ≤ 512) (a b c : Int32) : ∃ r s' u', f_X6_last s a b c = some (r, s') ∧ f_X7_last u a b c = some (r, u') ∧ Rel (k + 1) s' u' := by
  cases h2 : two a b
  · refine ⟨-1, s, u, ?_, ?_, h.mono (by omega)⟩
    · unfold f_X6_last
      rw [ob_b1_s (fx_areTwo a b), h2, if_pos bf0]
    · unfold f_X7_last
      rw [ob_b1_s (fm_areTwo a b), h2, if_pos bf0]
  cases h3 : inr c 0 1
  · refine ⟨-2, s, u, ?_, ?_, h.mono (by omega)⟩
    · unfold f_X6_last
      rw [ob_b1_s (fx_areTwo a b), h2, if_neg (bnot rfl), ob_b1_s (fx_within c 0 1), h3, if_pos bf0]
    · unfold f_X7_last
      rw [ob_b1_s (fm_areTwo a b), h2, if_neg (bnot rfl), ob_b1_s (fm_in c 0 1), h3, if_pos bf0]
  obtain ⟨m, o, hm, ho, -, rfl, rfl⟩ := two_of h2
  obtain ⟨w, hw, rfl⟩ := inr_of (n := 1) (by decide) h3
  obtain ⟨⟨W, N, T, K, hR, hT⟩, -, -, -, ⟨R, hR16, hRM⟩, -⟩ := id h
  have hA : K m &&& FI N T o < 1024 := and_lt (hR.k m hm)
  have hB : K o &&& FI N T m < 1024 := and_lt (hR.k o ho)
  have hX := hT.x
  obtain ⟨s', e1, k1, r, r1, r2, r3, r4⟩ := fx_spin hR.w (by omega) hX.1 hRM (fl := 0) (by decide) hA hA hB (apt_0 _) (fun i _ hh => mem_or_l hh)
  have e1' : f_X0_spin s (nI (K m &&& FI N T o)) 0 (nI (K m &&& FI N T o)) (nI (K o &&& FI N T m)) = some s' := e1
  have r5 : r = SC trs W (K m &&& FI N T o) 0 (K m &&& FI N T o) (K o &&& FI N T m) := r3
  have r6 := r4 (Or.inl rfl)
  have hmx := SC_mxs (tr := trs) hR.w (K m &&& FI N T o) (K o &&& FI N T m) hA (apt_0 (K m &&& FI N T o))
  have ex1 : f_X6_last s (nI m) (nI o) (nI w) = some ((if w = 0 then nI (mxs (ex trs W (K m &&& FI N T o) 0 (K m &&& FI N T o) (K o &&& FI N T m)) 10) else if mxs (ex trs W (K m &&& FI N T o) 0 (K m &&& FI N T o) (K o &&& FI N T m)) 10 = 0 then -6 else nI (arg (ex trs W (K m &&& FI N T o) 0 (K m &&& FI N T o) (K o &&& FI N T m)) 10)), s') := by
    unfold f_X6_last
    rw [ob_b1_s (fx_areTwo _ _), h2, if_neg (bnot rfl), ob_b1_s (fx_within _ 0 1), h3, if_neg (bnot rfl), ob_b1_s (fx_sayable hX.2.1 hX.2.2.1 hX.2.2.2 hR.n hm ho), ob_b1_s (fx_sayable hX.2.1 hX.2.2.1 hX.2.2.2 hR.n ho hm), ob_b1_s e1']
    by_cases hw0 : w = 0
    · subst hw0
      rw [if_pos (show nI 0 = 0 from rfl), if_pos rfl]
      unfold f_X0_spun
      show some (s' 17 5, s') = _
      rw [r1, r5, hmx]
    · rw [if_neg (nI_ne0 (by omega) (by omega)), if_neg hw0]
      unfold f_X0_firstMove
      show some (s' 17 6, s') = _
      rw [r6, r5, hmx]
      rfl
  have hn := hR.n
  obtain ⟨d1, d2, d3, d4⟩ := hT.u
  have hb : TW (ob_up (ob_up u 7 0 (nI (K m &&& FI N T o))) 7 1 (nI (K o &&& FI N T m))) 2 10 W := (d1.ne (by decide)).ne (by decide)
  have ha0 : ob_up (ob_up u 7 0 (nI (K m &&& FI N T o))) 7 1 (nI (K o &&& FI N T m)) 7 0 = nI (K m &&& FI N T o) := by rw [ob_up_k (by decide), ob_up_s]
  have ha1 : ob_up (ob_up u 7 0 (nI (K m &&& FI N T o))) 7 1 (nI (K o &&& FI N T m)) 7 1 = nI (K o &&& FI N T m) := ob_up_s _ _ _ _
  obtain ⟨z, hz⟩ := FU_ge (n := 2000) (by decide)
  obtain ⟨q, q1, q2⟩ := ls_63 (Q := fun q => q.1 = (if w = 0 then nI (mxs (ex trs W (K m &&& FI N T o) 0 (K m &&& FI N T o) (K o &&& FI N T m)) 10) else if mxs (ex trs W (K m &&& FI N T o) 0 (K m &&& FI N T o) (K o &&& FI N T m)) 10 = 0 then -6 else nI (arg (ex trs W (K m &&& FI N T o) 0 (K m &&& FI N T o) (K o &&& FI N T m)) 10))) hR.w hb ha0 ha1 hA hB (nI w) (f_X7_last_L237 FU) (fun g hL => by
    have := ls_237 hR.w ha0 ha1 hA hB hL w (by omega) FU 0 (by omega) (by omega)
    exact ⟨_, this, rfl⟩) FU 1023 _ (by decide) (by omega) ⟨fun _ _ _ _ => rfl, fun fl' x' side' hf' _ _ _ hd => by unfold done_ at hd; omega⟩
  have q1' : f_X7_last_L63 (f_X7_last_L237 FU) FU (ob_up (ob_up u 7 0 (nI (K m &&& FI N T o))) 7 1 (nI (K o &&& FI N T m))) (nI w) 1023 = some q := q1
  have ex2 : f_X7_last u (nI m) (nI o) (nI w) = some (q.1, q.2) := by
    unfold f_X7_last
    rw [ob_b1_s (fm_areTwo _ _), h2, if_neg (bnot rfl), ob_b1_s (fm_in _ 0 1), h3, if_neg (bnot rfl), ob_b1_s (ob_ld_nI hm (by decide)), ob_b1_s (fm_fitOf d2 d3 hn ho), d4 m hm, pb_and, ob_b1_s (show ob_st u 7 2 0 _ = some (ob_up u 7 0 _) from ob_st_nI (i := 0) (by decide) (by decide)),
      ob_b1_s (ob_ld_nI ho (by decide)), ob_b1_s (fm_fitOf (d2.ne (by decide)) (d3.ne (by decide)) hn hm), ob_up_r (by decide), d4 o ho, pb_and, ob_b1_s (show ob_st _ 7 2 1 _ = some (ob_up _ 7 1 _) from ob_st_nI (i := 1) (by decide) (by decide)), q1']
  rw [q2] at ex2
  exact ⟨_, s', q.2, ex1, ex2, h.scr (fr_X6_last _ _ _ _ _ _ ex1) (fr_X7_last _ _ _ _ _ _ ex2) (by decide) (by decide) (by decide) (RM.one hR16 k1)⟩
theorem and_1023 {a : Nat} (h : a < 1024) : a &&& 1023 = a := by
  rw [show 1023 = 2 ^ 10 - 1 from rfl, Nat.and_two_pow_sub_one_eq_mod]
  exact Nat.mod_eq_of_lt h
theorem ag_high {k : Nat} {s u : Mm} (h : Rel k s u) (hk : k ≤ 512) (a : Int32) : ∃ r s' u', f_X6_high s a = some (r, s') ∧ f_X7_high u a = some (r, u') ∧ Rel (k + 1) s' u' := by
  cases h2 : inr a 0 9
  · refine ⟨-1, s, u, ?_, ?_, h.mono (by omega)⟩
    · unfold f_X6_high
      rw [ob_b1_s (fx_isInsult a), h2, if_pos bf0]
    · unfold f_X7_high
      rw [ob_b1_s (fm_isInsult a), h2, if_pos bf0]
  obtain ⟨x, hx, rfl⟩ := inr_of (n := 9) (by decide) h2
  obtain ⟨⟨W, N, T, K, hR, hT⟩, -, -, -, ⟨R, hR16, hRM⟩, -⟩ := id h
  have hX := hT.x
  have hWx := hR.1 x (by omega)
  have hxx : 2 ^ x < 1024 := pow_lt x (by omega)
  have hap : apt (W x) (2 ^ x) := by
    intro i hi
    rw [Nat.testBit_two_pow]
    apply decide_eq_false
    intro e
    subst e
    rw [hWx.2.1] at hi
    cases hi
  obtain ⟨s', e1, k1, r, r1, r2, r3, r4⟩ := fx_spin hR.w (by omega) hX.1 hRM hxx hWx.1 (p := 1023) (q := 1023) (by decide) (by decide) hap (fun i hi _ => by rw [Nat.or_self, b1023]; simp [hi])
  have e1' : f_X0_spin s (nI (W x)) (nI (2 ^ x)) 1023 1023 = some s' := e1
  have r5 : r = SC trs W (W x) (2 ^ x) 1023 1023 := r3
  have e3 : AF trs W (2 ^ x) x 1023 1023 = SC trs W (W x) (2 ^ x) 1023 1023 := by
    unfold AF
    rw [and_1023 hWx.1]
    have e4 : dif (W x) (2 ^ x) = W x := by
      apply bit_ext
      intro i
      rw [dif_bit hWx.1]
      cases hb : (W x).testBit i
      · rfl
      · rw [hap i hb]; rfl
    rw [e4]
  have ex1 : f_X6_high s (nI x) = some (nI (AF trs W (2 ^ x) x 1023 1023), s') := by
    unfold f_X6_high
    rw [ob_b1_s (fx_isInsult _), h2, if_neg (bnot rfl), ob_b1_s (fx_worse (by omega)), show s (2 + 1) x = nI (W x) from hX.1 x (by omega), pb_sh1 x (by omega), ob_b1_s e1']
    unfold f_X0_spun
    show some (s' 17 5, s') = _
    rw [r1, r5, e3]
  obtain ⟨z, hz⟩ := FU_ge (n := 2000) (by decide)
  obtain ⟨u', e5⟩ := hh_13 hR.w hT.u.1 (x := x) (by omega) FU 1023 u (by decide) (by omega) ⟨fun _ _ _ => rfl, fun s' i' hs' _ _ hd => by omega⟩
  have e5' : f_X7_high_L13 FU u (nI x) 1023 = some (nI (AF trs W (2 ^ x) x 1023 1023), u') := e5
  have ex2 : f_X7_high u (nI x) = some (nI (AF trs W (2 ^ x) x 1023 1023), u') := by
    unfold f_X7_high
    rw [ob_b1_s (fm_isInsult _), h2, if_neg (bnot rfl), e5']
  exact ⟨_, s', u', ex1, ex2, h.scr (fr_X6_high _ _ _ _ ex1) (fr_X7_high _ _ _ _ ex2) (by decide) (by decide) (by decide) (RM.one hR16 k1)⟩
