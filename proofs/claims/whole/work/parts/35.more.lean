/-! Steps, signs, images, what is told. -/
def tot (W : Nat → Nat) : Nat → Nat
  | 0 => 0
  | n + 1 => tot W n + card (W n)
theorem fx_countSteps {b : Nat} {g : Mm} {W : Nat → Nat} (hT : TW g (b + 1) 10 W) (hW : ∀ i, i < 10 → W i < 1024) : f_X4_countSteps b g = some (nI (tot W 10)) := by
  have key : ∀ (n i : Nat), i ≤ 10 → 10 < i + n → f_X4_countSteps_L4 b g n (nI (tot W i)) (nI i) = some (nI (tot W 10)) := by
    intro n
    induction n with
    | zero => intro i h1 h2; omega
    | succ n ih =>
      intro i h1 h2
      unfold f_X4_countSteps_L4
      rcases Nat.lt_or_ge i 10 with q | q
      · rw [if_neg (show ¬ (10 : Int32) ≤ nI i from nI_ge q (by decide)), ob_b1_s (fx_worse q), hT i q, ob_b1_s (bitCount_ok (hW i q)), nI_add, nI_1]
        exact ih (i + 1) (by omega) (by omega)
      · have e : i = 10 := by omega
        subst e
        rw [if_pos (show (10 : Int32) ≤ nI 10 by decide)]
  unfold f_X4_countSteps
  obtain ⟨z, hz⟩ := FU_ge (n := 11) (by decide)
  exact key FU 0 (by omega) (by omega)
theorem fm_bits {a : Nat} (ha : a < 1024) : f_X7_bits (nI a) = some (nI (card a)) := by
  have key : ∀ (n i : Nat), i ≤ 10 → 10 < i + n → f_X7_bits_L4 n (nI a) (nI (pc a i)) (nI i) = some (nI (pc a 10)) := by
    intro n
    induction n with
    | zero => intro i h1 h2; omega
    | succ n ih =>
      intro i h1 h2
      unfold f_X7_bits_L4
      rcases Nat.lt_or_ge i 10 with q | q
      · rw [if_neg (show ¬ (10 : Int32) ≤ nI i from nI_ge q (by decide)), pb_bit (by omega) (by omega), nI_add, nI_1]
        exact ih (i + 1) (by omega) (by omega)
      · have e : i = 10 := by omega
        subst e
        rw [if_pos (show (10 : Int32) ≤ nI 10 by decide)]
  unfold f_X7_bits
  obtain ⟨z, hz⟩ := FU_ge (n := 11) (by decide)
  exact key FU 0 (by omega) (by omega)
theorem fm_allSteps {g : Mm} {W : Nat → Nat} (hT : TW g 2 10 W) (hW : ∀ i, i < 10 → W i < 1024) : f_X7_allSteps g = some (nI (tot W 10)) := by
  have key : ∀ (n i : Nat), i ≤ 10 → 10 < i + n → f_X7_allSteps_L4 g n (nI (tot W i)) (nI i) = some (nI (tot W 10)) := by
    intro n
    induction n with
    | zero => intro i h1 h2; omega
    | succ n ih =>
      intro i h1 h2
      unfold f_X7_allSteps_L4
      rcases Nat.lt_or_ge i 10 with q | q
      · rw [if_neg (show ¬ (10 : Int32) ≤ nI i from nI_ge q (by decide)), ob_b1_s (ob_ld_nI q (by decide)), hT i q, ob_b1_s (fm_bits (hW i q)), nI_add, nI_1]
        exact ih (i + 1) (by omega) (by omega)
      · have e : i = 10 := by omega
        subst e
        rw [if_pos (show (10 : Int32) ≤ nI 10 by decide)]
  unfold f_X7_allSteps
  obtain ⟨z, hz⟩ := FU_ge (n := 11) (by decide)
  exact key FU 0 (by omega) (by omega)
theorem inr_of2 {x : Int32} {lo hi : Nat} (hl : lo < 2 ^ 31) (hh : hi < 2 ^ 31) (h : inr x (nI lo) (nI hi) = true) : ∃ i, lo ≤ i ∧ i ≤ hi ∧ x = nI i := by
  unfold inr at h
  simp at h
  have h0 : ¬ x < 0 := by
    intro z
    have h1 : nI lo ≤ x := h.1
    have h2 : (0 : Int32) ≤ nI lo := nI_pos' hl
    exact Int32.not_lt.mpr (Int32.le_trans h2 h1) z
  obtain ⟨i, h3, rfl⟩ := nI_of2 (nI_toInt hh) h0 h.2
  refine ⟨i, ?_, h3, rfl⟩
  exact (nI_leI hl (by omega)).mp h.1
theorem inr_in2 {lo hi i : Nat} (hh : hi < 2 ^ 31) (h1 : lo ≤ i) (h2 : i ≤ hi) : inr (nI i) (nI lo) (nI hi) = true := by
  unfold inr
  have h3 : ¬ nI i < nI lo := nI_nlt h1 (by omega)
  have h4 : ¬ nI hi < nI i := nI_nlt h2 hh
  simp [h3, h4]
theorem ag_say {k : Nat} {s u : Mm} (h : Rel k s u) (a : Int32) : ∃ r s' u', f_X6_say s a = some (r, s') ∧ f_X7_say u a = some (r, u') ∧ Rel (k + 1) s' u' := by
  cases h2 : inr a 33 126
  · refine ⟨-2, s, u, ?_, ?_, h.mono (by omega)⟩
    · unfold f_X6_say
      rw [ob_b1_s (fx_within a 33 126), h2, if_pos bf0]
    · unfold f_X7_say
      rw [ob_b1_s (fm_in a 33 126), h2, if_pos bf0]
  obtain ⟨v, hv1, hv2, rfl⟩ := inr_of2 (lo := 33) (hi := 126) (by decide) (by decide) h2
  obtain ⟨hT, ⟨n, S, p1, p2, p3, p4⟩, -⟩ := id h
  by_cases hn : n = 40
  · subst hn
    refine ⟨-4, s, u, ?_, ?_, h.mono (by omega)⟩
    · unfold f_X6_say f_X3_isFull
      rw [ob_b1_s (fx_within _ 33 126), h2, if_neg (bnot rfl), p2, if_neg (show ¬ nI 40 < 40 by decide), ob_b1_s rfl, if_neg (by decide)]
    · unfold f_X7_say
      rw [ob_b1_s (fm_in _ 33 126), h2, if_neg (bnot rfl), p3, if_pos (show nI 40 = 40 from rfl)]
  have hn2 : n < 40 := by omega
  have ex1 : f_X6_say s (nI v) = some (nI (n + 1), ob_up (ob_up s 30 n (nI v)) 1 1 (nI (n + 1))) := by
    unfold f_X6_say f_X3_isFull f_X3_put f_X3_size
    rw [ob_b1_s (fx_within _ 33 126), h2, if_neg (bnot rfl), p2, if_pos (show nI n < 40 from nI_lt hn2 (by decide)), ob_b1_s rfl, if_pos rfl, if_neg (nI_pos (by omega)), if_pos (show nI n < 40 from nI_lt hn2 (by decide)), ob_b1_s (ob_st_nI hn2 (by decide)), ob_b1_s rfl, ob_b1_s rfl, ob_up_s, ob_up_r (by decide), p2, nI_1]
  have ex2 : f_X7_say u (nI v) = some (nI (n + 1), ob_up (ob_up u 1 n (nI v)) 0 0 (nI (n + 1))) := by
    unfold f_X7_say
    rw [ob_b1_s (fm_in _ 33 126), h2, if_neg (bnot rfl), p3, if_neg (show ¬ nI n = 40 from fun z => hn ((nI_eq (b := 40) (by omega) (by decide)).mp z)), ob_b1_s (ob_st_nI hn2 (by decide)), ob_up_s, ob_up_r (by decide), p3, nI_1]
  have f1 := fr_X6_say _ _ _ _ ex1
  have f2 := fr_X7_say _ _ _ _ ex2
  obtain ⟨W, N, T, K, hR, hT⟩ := hT
  refine ⟨_, _, _, ex1, ex2, h.newPT (f1.mono (by decide) (by decide)) (f2.mono (by decide) (by decide)) ⟨W, N, T, K, hR, hT.fr f1 f2 (by decide) (by decide)⟩ ⟨n + 1, fun j => if j = n then v else S j, by omega, ob_up_s _ _ _ _, ob_up_s _ _ _ _, fun i hi => ?_⟩⟩
  by_cases e : i = n
  · have e0 : (fun j => if j = n then v else S j) i = v := if_pos e
    rw [e0]
    subst e
    exact ⟨hv1, hv2, by rw [ob_up_r (by decide), ob_up_s], by rw [ob_up_r (by decide), ob_up_s]⟩
  · have e0 : (fun j => if j = n then v else S j) i = S i := if_neg e
    rw [e0]
    obtain ⟨a1, a2, a3, a4⟩ := p4 i (by omega)
    exact ⟨a1, a2, by rw [ob_up_r (by decide), ob_up_k e]; exact a3, by rw [ob_up_r (by decide), ob_up_k e]; exact a4⟩
theorem ag_wipe {k : Nat} {s u : Mm} (h : Rel k s u) : ∃ r s' u', f_X6_wipe s = some (r, s') ∧ f_X7_wipe u = some (r, u') ∧ Rel (k + 1) s' u' := by
  obtain ⟨⟨W, N, T, K, hR, hT⟩, ⟨n, S, p1, p2, p3, p4⟩, -⟩ := id h
  have ex1 : f_X6_wipe s = some (nI n, ob_up s 1 1 0) := by
    unfold f_X6_wipe f_X3_size f_X3_clear
    rw [ob_b1_s rfl, ob_b1_s rfl, p2]
  have ex2 : f_X7_wipe u = some (nI n, ob_up u 0 0 0) := by
    unfold f_X7_wipe
    rw [p3]
  have f1 := fr_X6_wipe _ _ _ ex1
  have f2 := fr_X7_wipe _ _ _ ex2
  exact ⟨_, _, _, ex1, ex2, h.newPT (f1.mono (by decide) (by decide)) (f2.mono (by decide) (by decide)) ⟨W, N, T, K, hR, hT.fr f1 f2 (by decide) (by decide)⟩ ⟨0, S, by omega, ob_up_s _ _ _ _, ob_up_s _ _ _ _, fun i hi => absurd hi (Nat.not_lt_zero i)⟩⟩
/-- a step set or struck -/
def sst (a t : Nat) (is : Bool) : Nat := if is then dif a (2 ^ t) ||| 2 ^ t else dif a (2 ^ t)
theorem sst_lt {a t : Nat} {is : Bool} (ha : a < 1024) (ht : t < 10) : sst a t is < 1024 := by
  unfold sst
  split
  · exact or_lt (dif_lt ha) (pow_lt t ht)
  · exact dif_lt ha
theorem sst_bit {a t : Nat} {is : Bool} (ha : a < 1024) (i : Nat) : (sst a t is).testBit i = if i = t then is else a.testBit i := by
  unfold sst
  cases is
  · rw [if_neg (by decide), dif_bit ha, Nat.testBit_two_pow]
    by_cases e : i = t
    · subst e; simp
    · have e2 : ¬ t = i := fun z => e z.symm
      simp [e, e2]
  · rw [if_pos rfl, Nat.testBit_or, dif_bit ha, Nat.testBit_two_pow]
    by_cases e : i = t
    · subst e; simp
    · have e2 : ¬ t = i := fun z => e z.symm
      simp [e, e2]
theorem sst_or {a t : Nat} (ha : a < 1024) : sst a t true = a ||| 2 ^ t := by
  apply bit_ext
  intro i
  rw [sst_bit ha, Nat.testBit_or, Nat.testBit_two_pow]
  by_cases e : i = t
  · subst e; simp
  · have e2 : ¬ t = i := fun z => e z.symm
    simp [e, e2]
theorem fx_setStep {b : Nat} {g : Mm} {W : Nat → Nat} {f t : Nat} {is : Bool} (hT : TW g (b + 1) 10 W) (hW : ∀ i, i < 10 → W i < 1024) (hf : f < 10) (ht : t < 10) : f_X4_setStep b g (nI f) (nI t) (bI is) = some (ob_up g (b + 1) f (nI (sst (W f) t is))) := by
  have h1 : inr (nI f) 0 9 = true := inr_in (n := 9) (by decide) (by omega)
  have h2 : inr (nI t) 0 9 = true := inr_in (n := 9) (by decide) (by omega)
  unfold f_X4_setStep f_X4_setStep_J48
  rw [ob_b1_s (fx_isInsult _), h1, if_neg (bnot rfl), ob_b1_s (fx_isInsult _), h2, if_neg (bnot rfl), ob_b1_s (fx_worse hf), hT f hf, pb_sh1 t (by omega), pb_dif (hW f hf)]
  unfold sst
  cases is
  · rw [if_pos bf0, ob_b1_s (fx_store hf (by decide))]
    rfl
  · rw [if_neg (bnot rfl), pb_or, ob_b1_s (fx_store hf (by decide))]
    rfl
theorem ag_step {k : Nat} {s u : Mm} (h : Rel k s u) (a b : Int32) (is : Bool) : ∃ r s' u', f_X6_step s a b (bI is) = some (r, s') ∧ f_X7_step u a b (bI is) = some (r, u') ∧ Rel (k + 1) s' u' := by
  cases h2 : inr a 0 9
  · refine ⟨-1, s, u, ?_, ?_, h.mono (by omega)⟩
    · unfold f_X6_step
      rw [ob_b1_s (fx_isInsult a), h2, if_pos bf0]
    · unfold f_X7_step
      rw [ob_b1_s (fm_isInsult a), h2, if_pos bf0]
  cases h3 : inr b 0 9
  · refine ⟨-1, s, u, ?_, ?_, h.mono (by omega)⟩
    · unfold f_X6_step
      rw [ob_b1_s (fx_isInsult a), h2, if_neg (bnot rfl), ob_b1_s (fx_isInsult b), h3, if_pos bf0]
    · unfold f_X7_step
      rw [ob_b1_s (fm_isInsult a), h2, if_neg (bnot rfl), ob_b1_s (fm_isInsult b), h3, if_pos bf0]
  by_cases h4 : a = b
  · refine ⟨-1, s, u, ?_, ?_, h.mono (by omega)⟩
    · unfold f_X6_step
      rw [ob_b1_s (fx_isInsult a), h2, if_neg (bnot rfl), ob_b1_s (fx_isInsult b), h3, if_neg (bnot rfl), if_pos h4]
    · unfold f_X7_step
      rw [ob_b1_s (fm_isInsult a), h2, if_neg (bnot rfl), ob_b1_s (fm_isInsult b), h3, if_neg (bnot rfl), if_pos h4]
  obtain ⟨f, hf, rfl⟩ := inr_of (n := 9) (by decide) h2
  obtain ⟨t, ht, rfl⟩ := inr_of (n := 9) (by decide) h3
  have hft : f ≠ t := fun e => h4 (by rw [e])
  obtain ⟨⟨W, N, T, K, hR, hT⟩, hP, -⟩ := id h
  have hX := hT.x
  have hU := hT.u
  have hWf := hR.w f (by omega)
  have ex1 : f_X6_step s (nI f) (nI t) (bI is) = some (bI ((W f).testBit t), ob_up s 3 f (nI (sst (W f) t is))) := by
    unfold f_X6_step f_X6_step_J41
    rw [ob_b1_s (fx_isInsult _), h2, if_neg (bnot rfl), ob_b1_s (fx_isInsult _), h3, if_neg (bnot rfl), if_neg h4, ob_b1_s (fx_worse (by omega)), show s (2 + 1) f = nI (W f) from hX.1 f (by omega), ob_b1_s (fx_has (by omega) (by omega))]
    have e := fx_setStep (b := 2) (g := s) (is := is) hX.1 hR.w (f := f) (t := t) (by omega) (by omega)
    cases hb : (W f).testBit t
    · rw [if_pos bf0, ob_b1_s e]
      rfl
    · rw [if_neg (bnot rfl), ob_b1_s e]
      rfl
  have ex2 : f_X7_step u (nI f) (nI t) (bI is) = some (bI ((W f).testBit t), ob_up u 2 f (nI (sst (W f) t is))) := by
    unfold f_X7_step f_X7_step_J67
    rw [ob_b1_s (fm_isInsult _), h2, if_neg (bnot rfl), ob_b1_s (fm_isInsult _), h3, if_neg (bnot rfl), if_neg h4, ob_b1_s (ob_ld_nI (by omega) (by decide)), hU.1 f (by omega), pb_bit (by omega) (by omega)]
    have eb : nI (if (W f).testBit t = true then 1 else 0) = bI ((W f).testBit t) := by cases (W f).testBit t <;> rfl
    rw [eb, pb_sh1 t (by omega)]
    cases is
    · rw [if_pos bf0, ob_b1_s (ob_ld_nI (by omega) (by decide)), hU.1 f (by omega), pb_dif hWf, ob_b1_s (ob_st_nI (by omega) (by decide))]
      rfl
    · rw [if_neg (bnot rfl), ob_b1_s (ob_ld_nI (by omega) (by decide)), hU.1 f (by omega), pb_or, ob_b1_s (ob_st_nI (by omega) (by decide)), sst_or hWf]
  refine ⟨_, _, _, ex1, ex2, h.newPT ((fr_X6_step _ _ _ _ _ _ ex1).mono (by decide) (by decide)) ((fr_X7_step _ _ _ _ _ _ ex2).mono (by decide) (by decide)) ⟨fun j => if j = f then sst (W f) t is else W j, N, T, K, ⟨fun j hj => ⟨?_, ?_, (hR.1 j hj).2.2⟩, hR.2⟩, hX.1.up, hX.2.1.ne (by decide), hX.2.2.1.ne (by decide), hX.2.2.2.ne (by decide), hU.1.up, hU.2.1.ne (by decide), hU.2.2.1.ne (by decide), hU.2.2.2.ne (by decide)⟩ (hP.fr (fr_X6_step _ _ _ _ _ _ ex1) (fr_X7_step _ _ _ _ _ _ ex2) (by decide) (by decide))⟩
  · show (if j = f then sst (W f) t is else W j) < 1024
    split
    · exact sst_lt hWf (by omega)
    · exact hR.w j hj
  · show (if j = f then sst (W f) t is else W j).testBit j = false
    by_cases e : j = f
    · subst e
      rw [if_pos rfl, sst_bit hWf, if_neg hft]
      exact (hR.1 j hj).2.1
    · rw [if_neg e]
      exact (hR.1 j hj).2.1
