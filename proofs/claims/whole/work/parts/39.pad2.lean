/-! Steps from the pad, the judge, what is told. -/
theorem PX.up {g : Mm} {n : Nat} {S : Nat → Nat} {i : Nat} {v : Int32} (h : PX g n S) : PX (ob_up g 3 i v) n S :=
  ⟨h.1, by rw [ob_up_r (by decide)]; exact h.2.1, fun j hj => ⟨(h.2.2 j hj).1, by rw [ob_up_r (by decide)]; exact (h.2.2 j hj).2⟩⟩
theorem PU.up {g : Mm} {n : Nat} {S : Nat → Nat} {i : Nat} {v : Int32} (h : PU g n S) : PU (ob_up g 2 i v) n S :=
  ⟨h.1, by rw [ob_up_r (by decide)]; exact h.2.1, fun j hj => ⟨(h.2.2 j hj).1, by rw [ob_up_r (by decide)]; exact (h.2.2 j hj).2⟩⟩
theorem steps_loop {n : Nat} {S : Nat → Nat} (hodd : n % 2 = 1) (hok : ∀ k, k < n → okS S k = true) {N T K : Nat → Nat} : ∀ (m j : Nat) (s u : Mm) (W : Nat → Nat), PX s n S → PU u n S → Rng W N T K → RT s u W N T K → 2 * j < n + 1 → n < 2 * j + m →
    ∃ r s' u' W', f_X6_steps_L17 m s (nI (2 * j + 2)) = some (r, s') ∧ f_X7_steps_L12 m u (nI (2 * j + 1)) = some (r, u') ∧ Rng W' N T K ∧ RT s' u' W' N T K ∧ s' 1 1 = nI 0 ∧ u' 0 0 = nI 0 := by
  intro m
  induction m with
  | zero => intro j s u W _ _ _ _ h1 h2; omega
  | succ m ih =>
    intro j s u W hX hU hR hT h1 h2
    have h40 := hX.1
    unfold f_X6_steps_L17 f_X7_steps_L12
    have e1 : f_X3_size s = some (nI n) := by unfold f_X3_size; rw [hX.2.1]
    rw [ob_b1_s e1, hU.2.1]
    by_cases q : 2 * j + 2 < n
    · rw [if_neg (nI_ge q (by omega)), if_neg (nI_ge (show 2 * j + 1 < n by omega) (by omega)), show (1 : Int32) = nI 1 from rfl, pk_sub (by omega), show 2 * j + 2 - 1 = 2 * j + 1 by omega, ob_b1_s (fx_signAt hX (by omega)), sg_in (show 2 * j + 1 < n by omega), ob_b1_s (ob_ld_nI (by omega) (by decide)), (hU.2.2 (2 * j + 1) (by omega)).2]
      have hS1 := (hX.2.2 (2 * j + 1) (by omega)).1
      unfold f_X6_steps_J69 f_X7_steps_J63
      have next : ∀ (s1 u1 : Mm) (W1 : Nat → Nat), PX s1 n S → PU u1 n S → Rng W1 N T K → RT s1 u1 W1 N T K → ∃ r s' u' W', f_X6_steps_L17 m s1 (nI (2 * j + 2) + 2) = some (r, s') ∧ f_X7_steps_L12 m u1 (nI (2 * j + 1) + 2) = some (r, u') ∧ Rng W' N T K ∧ RT s' u' W' N T K ∧ s' 1 1 = nI 0 ∧ u' 0 0 = nI 0 := by
        intro s1 u1 W1 a1 a2 a3 a4
        rw [show (2 : Int32) = nI 2 from rfl, nI_add, nI_add, show 2 * j + 2 + 2 = 2 * (j + 1) + 2 by omega, show 2 * j + 1 + 2 = 2 * (j + 1) + 1 by omega]
        exact ih (j + 1) s1 u1 W1 a1 a2 a3 a4 (by omega) (by omega)
      by_cases h62 : S (2 * j + 1) = 62
      · have hk0 := hok (2 * j) (by omega)
        have hk2 := hok (2 * j + 2) (by omega)
        unfold okS at hk0 hk2
        rw [if_pos (by omega)] at hk0 hk2
        have hN0 : isN (S (2 * j)) = true := by simp only [Bool.and_eq_true] at hk0; exact hk0.1
        have hN2 : isN (S (2 * j + 2)) = true := by simp only [Bool.and_eq_true] at hk2; exact hk2.1
        have hne : S (2 * j) ≠ S (2 * j + 2) := by
          intro z
          simp only [Bool.and_eq_true] at hk2
          have h3 := hk2.2
          rw [show 2 * j + 2 - 1 = 2 * j + 1 by omega, show 2 * j + 2 - 2 = 2 * j by omega] at h3
          simp [h62, z] at h3
        have l0 := isN_le hN0
        have l2 := isN_le hN2
        have hf : S (2 * j) - 97 < 10 := by omega
        have ht : S (2 * j + 2) - 97 < 10 := by omega
        have hWf := hR.w _ hf
        have eS := fx_setStep (b := 2) (g := s) (is := true) hT.x.1 hR.w hf ht
        rw [if_pos (show nI (S (2 * j + 1)) = 62 by rw [h62]; rfl), if_pos (show nI (S (2 * j + 1)) = 62 by rw [h62]; rfl), show (2 : Int32) = nI 2 from rfl, pk_sub (by omega), show 2 * j + 2 - 2 = 2 * j by omega, ob_b1_s (fx_insultAt hX (by omega)), sg_in (show 2 * j < n by omega), hN0, if_pos rfl, ob_b1_s (fx_insultAt hX (by omega)), sg_in q, hN2, if_pos rfl, show nI 1 = bI true from rfl, ob_b1_s eS]
        rw [show bI true = nI 1 from rfl, pk_sub (by omega), show 2 * j + 1 - 1 = 2 * j by omega, ob_b1_s (ob_ld_nI (by omega) (by decide)), (hU.2.2 (2 * j) (by omega)).2, show (97 : Int32) = nI 97 from rfl, pk_sub l0.1, ob_b1_s (ob_ld_nI hf (by decide)), hT.u.1 _ hf, show nI (2 * j + 1) + nI 1 = nI (2 * j + 2) by rw [nI_add], ob_b1_s (ob_ld_nI (by omega) (by decide)), (hU.2.2 (2 * j + 2) q).2, pk_sub l2.1, show nI 1 = (1 : Int32) from rfl, pb_sh1 _ (by omega), pb_or, ob_b1_s (ob_st_nI hf (by decide)), ← sst_or hWf]
        refine next _ _ (fun i => if i = S (2 * j) - 97 then sst (W (S (2 * j) - 97)) (S (2 * j + 2) - 97) true else W i) hX.up hU.up ⟨fun i hi => ⟨?_, ?_, (hR.1 i hi).2.2⟩, hR.2⟩ ⟨hT.x.1.up, hT.x.2.1.ne (by decide), hT.x.2.2.1.ne (by decide), hT.x.2.2.2.ne (by decide), hT.u.1.up, hT.u.2.1.ne (by decide), hT.u.2.2.1.ne (by decide), hT.u.2.2.2.ne (by decide)⟩
        · show (if i = S (2 * j) - 97 then sst (W (S (2 * j) - 97)) (S (2 * j + 2) - 97) true else W i) < 1024
          split
          · exact sst_lt hWf ht
          · exact hR.w i hi
        · show (if i = S (2 * j) - 97 then sst (W (S (2 * j) - 97)) (S (2 * j + 2) - 97) true else W i).testBit i = false
          by_cases e : i = S (2 * j) - 97
          · rw [if_pos e, sst_bit hWf, if_neg (by omega), e]
            exact (hR.1 _ hf).2.1
          · rw [if_neg e]
            exact (hR.1 i hi).2.1
      · rw [if_neg (show ¬ nI (S (2 * j + 1)) = 62 from fun z => h62 ((nI_eq (b := 62) (by omega) (by decide)).mp z)), if_neg (show ¬ nI (S (2 * j + 1)) = 62 from fun z => h62 ((nI_eq (b := 62) (by omega) (by decide)).mp z))]
        exact next s u W hX hU hR hT
    · rw [if_pos (nI_le (show n ≤ 2 * j + 2 by omega) (by omega)), if_pos (nI_le (show n ≤ 2 * j + 1 by omega) (by omega))]
      have hT' : RT (ob_up s 1 1 0) (ob_up u 0 0 0) W N T K := ⟨hT.x.1.ne (by decide), hT.x.2.1.ne (by decide), hT.x.2.2.1.ne (by decide), hT.x.2.2.2.ne (by decide), hT.u.1.ne (by decide), hT.u.2.1.ne (by decide), hT.u.2.2.1.ne (by decide), hT.u.2.2.2.ne (by decide)⟩
      have ec : f_X3_clear s = some (ob_up s 1 1 0) := rfl
      have a1 := fx_countSteps (b := 2) hT'.x.1 hR.w
      have a2 := fm_allSteps hT'.u.1 hR.w
      rw [ob_b1_s ec, ob_b1_s a1, ob_b1_s a2]
      exact ⟨_, _, _, W, rfl, rfl, hR, hT', ob_up_s _ _ _ _, ob_up_s _ _ _ _⟩
theorem ag_steps {k : Nat} {s u : Mm} (h : Rel k s u) : ∃ r s' u', f_X6_steps s = some (r, s') ∧ f_X7_steps u = some (r, u') ∧ Rel (k + 1) s' u' := by
  obtain ⟨⟨W, N, T, K, hR, hT⟩, hP, -⟩ := id h
  obtain ⟨n, S, hX, hU⟩ := hP.px
  have hno : ∀ v : Int32, sr (okS S) n (finS n S) n = v → ¬ v = -6 → ¬ v < 0 → ∃ r s' u', f_X6_steps s = some (r, s') ∧ f_X7_steps u = some (r, u') ∧ Rel (k + 1) s' u' := by
    intro v hv h1 h2
    refine ⟨-5, s, u, ?_, ?_, h.mono (by omega)⟩
    · unfold f_X6_steps
      rw [ob_b1_s (fx_faultAsSteps hX), hv, if_neg h1]
    · unfold f_X7_steps
      rw [ob_b1_s (fm_stepsFault hU), hv, if_neg h2]
  rcases sr_or (okS S) n (finS n S) n (Nat.le_refl n) with ⟨h1, h2⟩ | ⟨i, h1, h2⟩
  rotate_left
  · exact hno _ h2 (nI_ne_m6 (by have := hX.1; omega)) (nI_pos (by have := hX.1; omega))
  · by_cases hf : n % 2 = 1 ∧ 1 < n ∧ S (n - 2) = 62
    rotate_left
    · have e : finS n S = nI n := if_neg hf
      rw [e] at h1
      exact hno _ (by rw [e]; exact h1) (nI_ne_m6 (by have := hX.1; omega)) (nI_pos (by have := hX.1; omega))
    · have e : finS n S = -6 := if_pos hf
      obtain ⟨z, hz⟩ := FU_ge (n := 50) (by decide)
      obtain ⟨r, s', u', W', a1, a2, a3, a4, a5, a6⟩ := steps_loop hf.1 (fun i hi => h2 i (by omega) hi) FU 0 s u W hX hU hR hT (by omega) (by have := hX.1; omega)
      have ex1 : f_X6_steps s = some (r, s') := by
        unfold f_X6_steps
        rw [ob_b1_s (fx_faultAsSteps hX), h1, e, if_pos rfl]
        exact a1
      have ex2 : f_X7_steps u = some (r, u') := by
        unfold f_X7_steps
        rw [ob_b1_s (fm_stepsFault hU), h1, e, if_pos (by decide)]
        exact a2
      exact ⟨r, s', u', ex1, ex2, h.newPT ((fr_X6_steps _ _ _ ex1).mono (by decide) (by decide)) ((fr_X7_steps _ _ _ ex2).mono (by decide) (by decide)) ⟨W', N, T, K, a3, a4⟩ ⟨0, S, by omega, a5, a6, fun i hi => absurd hi (Nat.not_lt_zero i)⟩⟩
/-! The judge. -/
theorem why_tail {s u : Mm} {W N T K : Nat → Nat} (hR : Rng W N T K) (hT : RT s u W N T K) {m i : Nat} (hm : m < 5) (hi : i < 10) {v v' : Int32} (hv : (∃ o, o < 5 ∧ v = nI o ∧ v' = nI o) ∨ (v = -1 ∧ v' < 0)) : ∃ w, w ≤ 4 ∧ f_X6_whyNone_J117 s (nI m) (nI i) v = some (nI w) ∧ f_X7_whyNot_J147 u (nI m) (nI i) 0 v' = some (nI w) := by
  have key : ∃ w, w ≤ 4 ∧ f_X6_whyNone_J145 s (nI m) (nI i) = some (nI w) ∧ f_X7_whyNot_J180 u (nI m) (nI i) = some (nI w) := by
    have hK := hR.k m hm
    unfold f_X6_whyNone_J145 f_X7_whyNot_J180
    rw [ob_b1_s (fx_known hm), show s (2 + 4) m = nI (K m) from hT.x.2.2.2 m hm, ob_b1_s (fx_has (by omega) (by omega)), ob_b1_s (ob_ld_nI hm (by decide)), hT.u.2.2.2 m hm, ob_b1_s (fm_has (by omega) (by omega))]
    cases (K m).testBit i
    · exact ⟨4, by omega, by rw [if_pos bf0]; rfl, by rw [if_pos bf0]; rfl⟩
    · exact ⟨0, by omega, by rw [if_neg (bnot rfl)]; rfl, by rw [if_neg (bnot rfl)]; rfl⟩
  obtain ⟨w, h1, h2, h3⟩ := key
  unfold f_X6_whyNone_J117 f_X7_whyNot_J147
  rw [ob_b1_s (fx_isMan v), if_pos rfl]
  rcases hv with ⟨o, ho, rfl, rfl⟩ | ⟨rfl, h4⟩
  · have e : inr (nI o) 0 4 = true := inr_in (n := 4) (by decide) (by omega)
    have hF := FI_lt N T o
    rw [e, if_neg (bnot rfl), if_neg (nI_pos (by omega)), ob_b1_s (fx_fitting hT.x.2.1 hT.x.2.2.1 hR.n ho), ob_b1_s (fx_has (by omega) (by omega)), ob_b1_s (fm_fitOf hT.u.2.1 hT.u.2.2.1 hR.n ho), ob_b1_s (fm_has (by omega) (by omega))]
    cases (FI N T o).testBit i
    · exact ⟨3, by omega, by rw [if_pos bf0]; rfl, by rw [if_pos bf0]; rfl⟩
    · exact ⟨w, h1, by rw [if_neg (bnot rfl)]; exact h2, by rw [if_neg (bnot rfl)]; exact h3⟩
  · rw [show inr (-1) 0 4 = false from by decide, if_pos bf0, if_pos h4]
    exact ⟨w, h1, h2, h3⟩
theorem ag_why {s u : Mm} {W N T K : Nat → Nat} (hR : Rng W N T K) (hT : RT s u W N T K) {n : Nat} {S : Nat → Nat} (hX : PX s n S) (hU : PU u n S) (hev : n % 2 = 0) (hok : ∀ k, k < n → okQ S k = true) {t : Nat} (ht : 2 * t < n) : ∃ w, w ≤ 4 ∧ f_X6_whyNone s (nI t) = some (nI w) ∧ f_X7_whyNot u (nI t) = some (nI w) := by
  have h40 := hX.1
  have hD : ∀ j, 2 * j < n → isD (S (2 * j)) = true := by
    intro j hj
    have h1 := hok (2 * j) hj
    unfold okQ at h1
    rw [if_neg (by omega)] at h1
    simp only [Bool.and_eq_true] at h1
    exact h1.1
  have hN : ∀ j, 2 * j + 1 < n → isN (S (2 * j + 1)) = true := by
    intro j hj
    have h1 := hok (2 * j + 1) hj
    unfold okQ at h1
    rw [if_pos (by omega)] at h1
    exact h1
  have xm : ∀ j, 2 * j < n → f_X3_manAt s (nI (2 * j)) = some (nI (S (2 * j) - 48)) := by
    intro j hj
    rw [fx_manAt hX (by omega), sg_in hj, hD j hj, if_pos rfl]
  have xi : ∀ j, 2 * j + 1 < n → f_X3_insultAt s (nI (2 * j + 1)) = some (nI (S (2 * j + 1) - 97)) := by
    intro j hj
    rw [fx_insultAt hX (by omega), sg_in hj, hN j hj, if_pos rfl]
  have um : ∀ j, 2 * j < n → ob_ld u 1 40 (nI (2 * j)) = some (nI (S (2 * j))) := by
    intro j hj
    rw [ob_ld_nI (by omega) (by decide), (hU.2.2 _ hj).2]
  have ui : ∀ j, 2 * j + 1 < n → ob_ld u 1 40 (nI (2 * j + 1)) = some (nI (S (2 * j + 1))) := by
    intro j hj
    rw [ob_ld_nI (by omega) (by decide), (hU.2.2 _ hj).2]
  have lm : ∀ j, 2 * j < n → 48 ≤ S (2 * j) ∧ S (2 * j) ≤ 52 := fun j hj => isD_le (hD j hj)
  have li : ∀ j, 2 * j + 1 < n → 97 ≤ S (2 * j + 1) ∧ S (2 * j + 1) ≤ 106 := fun j hj => isN_le (hN j hj)
  have two : ∀ j, (2 : Int32) * nI j = nI (2 * j) := fun j => by rw [show (2 : Int32) = nI 2 from rfl, pk_mul]
  have hm : S (2 * t) - 48 < 5 := by have := lm t ht; omega
  have hi : S (2 * t + 1) - 97 < 10 := by have := li t (by omega); omega
  have ltm := lm t ht
  have lti := li t (by omega)
  -- the loops over the turns ahead
  have loop : ∀ (f j x : Nat), j ≤ t → x ≤ 1 → t < j + f →
      (∃ w, w ≤ 4 ∧ (x = 0 → f_X6_whyNone_L59 s (f_X6_whyNone_J117 s) f (nI t) (nI (S (2 * t) - 48)) (nI (S (2 * t + 1) - 97)) (nI j) = some (nI w)) ∧ (x = 1 → w = 2) ∧ f_X7_whyNot_L63 u (f_X7_whyNot_J147 u) f (nI t) (nI (S (2 * t) - 48)) (nI (S (2 * t + 1) - 97)) (nI x) (nI j) = some (nI w)) := by
    intro f
    induction f with
    | zero => intro j x h1 h2 h3; omega
    | succ f ih =>
      intro j x h1 hx h3
      unfold f_X6_whyNone_L59 f_X7_whyNot_L63
      by_cases q : j < t
      · rw [if_neg (nI_ge q (by omega)), if_neg (nI_ge q (by omega)), two]
        unfold f_X7_whyNot_J92 f_X7_whyNot_J97
        rw [show (1 : Int32) = nI 1 from rfl, nI_add, nI_add]
        by_cases hx0 : x = 0
        · subst hx0
          rw [if_pos (show nI 0 = 0 from rfl), ob_b1_s (xi j (by omega)), ob_b1_s (ui j (by omega)), show (97 : Int32) = nI 97 from rfl, pk_sub (li j (by omega)).1]
          by_cases e : S (2 * j + 1) - 97 = S (2 * t + 1) - 97
          · rw [e, if_pos rfl, if_pos rfl]
            obtain ⟨w, a1, a2, a3, a4⟩ := ih (j + 1) 1 (by omega) (by omega) (by omega)
            exact ⟨w, a1, fun _ => by rw [a3 rfl]; rfl, fun z => by omega, a4⟩
          · have hji := li j (by omega)
            have ne : ¬ nI (S (2 * j + 1) - 97) = nI (S (2 * t + 1) - 97) := fun z => e ((nI_eq (by omega) (by omega)).mp z)
            rw [if_neg ne, if_neg ne]
            exact ih (j + 1) 0 (by omega) (by omega) (by omega)
        · have hx1 : x = 1 := by omega
          subst hx1
          rw [if_neg (by decide)]
          obtain ⟨w, a1, a2, a3, a4⟩ := ih (j + 1) 1 (by omega) (by omega) (by omega)
          exact ⟨w, a1, fun z => by omega, a3, a4⟩
      · have e : j = t := by omega
        subst e
        rw [if_pos (nI_le (Nat.le_refl j) (by omega)), if_pos (nI_le (Nat.le_refl j) (by omega)), hU.2.1]
        by_cases hx0 : x = 0
        · subst hx0
          by_cases t0 : j = 0
          · subst t0
            rw [if_pos (show nI 0 ≤ 0 by decide), if_pos (show nI 0 ≤ 0 by decide)]
            by_cases n2 : n ≤ 2
            · have eman : f_X3_manAt s 2 = some (-1) := fx_manOf (a := 0) (by decide) (by
                have := fx_signAt hX (i := 2) (by decide)
                unfold sg at this
                rw [if_neg (by omega)] at this
                exact this)
              rw [if_pos (show nI n ≤ 2 from nI_le (b := 2) n2 (by decide)), ob_b1_s eman]
              obtain ⟨w, b1, b2, b3⟩ := why_tail hR hT hm hi (v := -1) (v' := -6) (Or.inr ⟨rfl, by decide⟩)
              exact ⟨w, b1, fun _ => b2, fun z => by omega, b3⟩
            · have l1 := lm 1 (by omega)
              rw [if_neg (show ¬ nI n ≤ 2 from nI_ge (a := 2) (by omega) (by omega)), ob_b1_s (show f_X3_manAt s 2 = some (nI (S (2 * 1) - 48)) from xm 1 (by omega)), ob_b1_s (show ob_ld u 1 40 2 = some (nI (S (2 * 1))) from um 1 (by omega)), show (48 : Int32) = nI 48 from rfl, pk_sub l1.1]
              obtain ⟨w, b1, b2, b3⟩ := why_tail hR hT hm hi (v := nI (S (2 * 1) - 48)) (v' := nI (S (2 * 1) - 48)) (Or.inl ⟨_, by omega, rfl, rfl⟩)
              exact ⟨w, b1, fun _ => b2, fun z => by omega, b3⟩
          · have l1 := lm (j - 1) (by omega)
            have e2 : 2 * j - 2 = 2 * (j - 1) := by omega
            rw [if_neg (show ¬ nI j ≤ 0 from nI_ge (a := 0) (by omega) (by omega)), if_neg (show ¬ nI j ≤ 0 from nI_ge (a := 0) (by omega) (by omega)), two, show (2 : Int32) = nI 2 from rfl, pk_sub (by omega), e2, ob_b1_s (xm (j - 1) (by omega)), ob_b1_s (um (j - 1) (by omega)), show (48 : Int32) = nI 48 from rfl, pk_sub l1.1]
            obtain ⟨w, b1, b2, b3⟩ := why_tail hR hT hm hi (v := nI (S (2 * (j - 1)) - 48)) (v' := nI (S (2 * (j - 1)) - 48)) (Or.inl ⟨_, by omega, rfl, rfl⟩)
            exact ⟨w, b1, fun _ => b2, fun z => by omega, b3⟩
        · have hx1 : x = 1 := by omega
          subst hx1
          have hJ : ∀ y : Int32, f_X7_whyNot_J147 u (nI (S (2 * j) - 48)) (nI (S (2 * j + 1) - 97)) (nI 1) y = some (nI 2) := by
            intro y
            unfold f_X7_whyNot_J147
            rw [if_neg (by decide)]
            rfl
          refine ⟨2, by omega, fun z => by omega, fun _ => rfl, ?_⟩
          by_cases t0 : j = 0
          · subst t0
            rw [if_pos (show nI 0 ≤ 0 by decide)]
            by_cases n2 : n ≤ 2
            · rw [if_pos (show nI n ≤ 2 from nI_le (b := 2) n2 (by decide))]
              exact hJ _
            · rw [if_neg (show ¬ nI n ≤ 2 from nI_ge (a := 2) (by omega) (by omega)), ob_b1_s (show ob_ld u 1 40 2 = some (nI (S (2 * 1))) from um 1 (by omega))]
              exact hJ _
          · have e2 : 2 * j - 2 = 2 * (j - 1) := by omega
            rw [if_neg (show ¬ nI j ≤ 0 from nI_ge (a := 0) (by omega) (by omega)), two, show (2 : Int32) = nI 2 from rfl, pk_sub (by omega), e2, ob_b1_s (um (j - 1) (by omega))]
            exact hJ _
  obtain ⟨z, hz⟩ := FU_ge (n := 50) (by decide)
  obtain ⟨w, a1, a2, -, a4⟩ := loop FU 0 0 (by omega) (by omega) (by omega)
  have a5 := a2 rfl
  unfold f_X6_whyNone f_X7_whyNot f_X6_whyNone_J56 f_X7_whyNot_J57
  rw [two, show (1 : Int32) = nI 1 from rfl, nI_add, ob_b1_s (xm t ht), ob_b1_s (xi t (by omega)), ob_b1_s (um t ht), ob_b1_s (ui t (by omega)), show (48 : Int32) = nI 48 from rfl, pk_sub ltm.1, show (97 : Int32) = nI 97 from rfl, pk_sub lti.1]
  by_cases t0 : t = 0
  · subst t0
    rw [if_pos (show nI 0 ≤ 0 by decide), if_pos (show nI 0 ≤ 0 by decide)]
    exact ⟨w, a1, a5, a4⟩
  · have e1 : 2 * t - 1 = 2 * (t - 1) + 1 := by omega
    have l1 := li (t - 1) (by omega)
    have hb : S (2 * (t - 1) + 1) - 97 < 10 := by omega
    have hW := hR.w _ hb
    rw [if_neg (show ¬ nI t ≤ 0 from nI_ge (a := 0) (by omega) (by omega)), if_neg (show ¬ nI t ≤ 0 from nI_ge (a := 0) (by omega) (by omega)), pk_sub (by omega), e1, ob_b1_s (xi (t - 1) (by omega)), ob_b1_s (ui (t - 1) (by omega)), pk_sub l1.1, ob_b1_s (fx_worse hb), show s (2 + 1) _ = nI (W _) from hT.x.1 _ hb, ob_b1_s (fx_has (by omega) (by omega)), ob_b1_s (ob_ld_nI hb (by decide)), hT.u.1 _ hb, ob_b1_s (fm_has (by omega) (by omega))]
    cases (W (S (2 * (t - 1) + 1) - 97)).testBit (S (2 * t + 1) - 97)
    · rw [if_pos bf0, if_pos bf0]
      exact ⟨1, by omega, rfl, rfl⟩
    · rw [if_neg (bnot rfl), if_neg (bnot rfl)]
      exact ⟨w, a1, a5, a4⟩
theorem ag_judge {k : Nat} {s u : Mm} (h : Rel k s u) (a : Int32) : ∃ r, f_X6_judge s a = some r ∧ f_X7_judge u a = some r := by
  obtain ⟨⟨W, N, T, K, hR, hT⟩, hP, -⟩ := h
  obtain ⟨n, S, hX, hU⟩ := hP.px
  have h40 := hX.1
  unfold f_X6_judge f_X7_judge
  rw [ob_b1_s (fx_within a 0 1), ob_b1_s (fm_in a 0 1)]
  cases h0 : inr a 0 1
  · exact ⟨-2, by rw [if_pos bf0], by rw [if_pos bf0]⟩
  rw [if_neg (bnot rfl), if_neg (bnot rfl), ob_b1_s (fx_faultAsQuarrel hX), ob_b1_s (fm_quarrelFault hU)]
  have hno : ∀ v : Int32, sr (okQ S) n (finQ n) n = v → ¬ v = -6 → ¬ v < 0 → ∃ r, (if sr (okQ S) n (finQ n) n = -6 then ob_b1 (f_X3_size s) fun v5 => f_X6_judge_L39 s FU a (v5 / 2) 0 else some (-5)) = some r ∧ (if sr (okQ S) n (finQ n) n < 0 then f_X7_judge_L24 u FU a 0 else some (-5)) = some r := by
    intro v hv h1 h2
    exact ⟨-5, by rw [hv, if_neg h1], by rw [hv, if_neg h2]⟩
  rcases sr_or (okQ S) n (finQ n) n (Nat.le_refl n) with ⟨h1, h2⟩ | ⟨i, h1, h2⟩
  rotate_left
  · exact hno _ h2 (nI_ne_m6 (by omega)) (nI_pos (by omega))
  · by_cases hf : 0 < n ∧ n % 2 = 0
    rotate_left
    · have e : finQ n = nI n := if_neg hf
      rw [e] at h1
      exact hno _ (by rw [e]; exact h1) (nI_ne_m6 (by omega)) (nI_pos (by omega))
    · have e : finQ n = -6 := if_pos hf
      have es : f_X3_size s = some (nI n) := by unfold f_X3_size; rw [hX.2.1]
      rw [h1, e, if_pos rfl, if_pos (by decide), ob_b1_s es, show (2 : Int32) = nI 2 from rfl, pk_div (by omega) (by decide) (by decide)]
      have key : ∀ (m t : Nat), 2 * t ≤ n → n < t + m → ∃ r, f_X6_judge_L39 s m a (nI (n / 2)) (nI t) = some r ∧ f_X7_judge_L24 u m a (nI t) = some r := by
        intro m
        induction m with
        | zero => intro t h1 h2; omega
        | succ m ih =>
          intro t h3 h4
          unfold f_X6_judge_L39 f_X7_judge_L24
          rw [hU.2.1, show (2 : Int32) * nI t = nI (2 * t) by rw [show (2 : Int32) = nI 2 from rfl, pk_mul]]
          by_cases q : 2 * t < n
          · obtain ⟨w, b1, b2, b3⟩ := ag_why hR hT hX hU hf.2 (fun i hi => h2 i (by omega) hi) q
            rw [if_neg (nI_ge (show t < n / 2 by omega) (by omega)), if_neg (nI_ge q (by omega)), ob_b1_s b2, ob_b1_s b3, nI_1]
            by_cases w0 : w = 0
            · subst w0
              rw [if_pos (show nI 0 = 0 from rfl), if_pos (show nI 0 ≤ 0 by decide)]
              exact ih (t + 1) (by omega) (by omega)
            · rw [if_neg (show ¬ nI w = 0 from fun z => w0 ((nI_eq (b := 0) (by omega) (by decide)).mp z)), if_neg (show ¬ nI w ≤ 0 from nI_ge (a := 0) (by omega) (by omega))]
              by_cases a0 : a = 0
              · rw [if_pos a0]
                exact ⟨_, rfl, rfl⟩
              · rw [if_neg a0]
                exact ⟨_, rfl, rfl⟩
          · rw [if_pos (nI_le (show n / 2 ≤ t by omega) (by omega)), if_pos (nI_le (show n ≤ 2 * t by omega) (by omega))]
            exact ⟨_, rfl, rfl⟩
      obtain ⟨z, hz⟩ := FU_ge (n := 50) (by decide)
      exact key FU 0 (by omega) (by omega)
theorem ag_told {k : Nat} {s u : Mm} (h : Rel k s u) (a : Int32) : ∃ r, f_X6_told s a = some r ∧ f_X7_told u a = some r := by
  obtain ⟨⟨W, N, T, K, hR, hT⟩, ⟨n, S, p1, p2, p3, p4⟩, -⟩ := h
  unfold f_X6_told f_X7_told
  have rt : ∀ i, i < 100 → nI i - nI i / 10 * 10 = nI (i % 10) := fun i hi => pk_rem (d := 10) (by omega) (by decide) (by decide)
  by_cases h0 : a = 0
  · subst h0
    refine ⟨nI n, ?_, ?_⟩
    · rw [if_pos rfl]
      unfold f_X3_size
      rw [ob_b1_s rfl, p2]
    · rw [ob_b1_s (fm_in _ _ _), show inr 0 10 19 = false from by decide, if_pos bf0, ob_b1_s (fm_in _ _ _), show inr 0 20 24 = false from by decide, if_pos bf0, ob_b1_s (fm_in _ _ _), show inr 0 30 34 = false from by decide, if_pos bf0, ob_b1_s (fm_in _ _ _), show inr 0 40 49 = false from by decide, if_pos bf0, if_pos rfl, p3]
  by_cases h1 : a = 1
  · subst h1
    refine ⟨nI (tot W 10), ?_, ?_⟩
    · rw [if_neg (by decide), if_pos rfl, ob_b1_s (fx_countSteps (b := 2) hT.x.1 hR.w)]
    · rw [ob_b1_s (fm_in _ _ _), show inr 1 10 19 = false from by decide, if_pos bf0, ob_b1_s (fm_in _ _ _), show inr 1 20 24 = false from by decide, if_pos bf0, ob_b1_s (fm_in _ _ _), show inr 1 30 34 = false from by decide, if_pos bf0, ob_b1_s (fm_in _ _ _), show inr 1 40 49 = false from by decide, if_pos bf0, if_neg (by decide), if_pos rfl, ob_b1_s (fm_allSteps hT.u.1 hR.w)]
  rw [if_neg h0, if_neg h1, ob_b1_s (fx_within _ _ _), ob_b1_s (fm_in _ _ _)]
  cases c1 : inr a 10 19
  rotate_left
  · obtain ⟨i, i1, i2, rfl⟩ := inr_of2 (lo := 10) (hi := 19) (by decide) (by decide) c1
    refine ⟨nI (N (i - 10)), ?_, ?_⟩
    · rw [if_neg (bnot rfl), show (10 : Int32) = nI 10 from rfl, pk_sub i1, ob_b1_s (fx_needed (by omega)), show s (2 + 2) _ = nI (N _) from hT.x.2.1 _ (by omega)]
    · rw [if_neg (bnot rfl), rt i (by omega), ob_b1_s (ob_ld_nI (by omega) (by decide)), hT.u.2.1 _ (by omega), show i % 10 = i - 10 by omega]
  rw [if_pos bf0, if_pos bf0, ob_b1_s (fx_within _ _ _), ob_b1_s (fm_in _ _ _)]
  cases c2 : inr a 20 24
  rotate_left
  · obtain ⟨i, i1, i2, rfl⟩ := inr_of2 (lo := 20) (hi := 24) (by decide) (by decide) c2
    refine ⟨nI (T (i - 20)), ?_, ?_⟩
    · rw [if_neg (bnot rfl), show (20 : Int32) = nI 20 from rfl, pk_sub i1, ob_b1_s (fx_traits (by omega)), show s (2 + 3) _ = nI (T _) from hT.x.2.2.1 _ (by omega)]
    · rw [if_neg (bnot rfl), rt i (by omega), ob_b1_s (ob_ld_nI (by omega) (by decide)), hT.u.2.2.1 _ (by omega), show i % 10 = i - 20 by omega]
  rw [if_pos bf0, if_pos bf0, ob_b1_s (fx_within _ _ _), ob_b1_s (fm_in _ _ _)]
  cases c3 : inr a 30 34
  rotate_left
  · obtain ⟨i, i1, i2, rfl⟩ := inr_of2 (lo := 30) (hi := 34) (by decide) (by decide) c3
    refine ⟨nI (K (i - 30)), ?_, ?_⟩
    · rw [if_neg (bnot rfl), show (30 : Int32) = nI 30 from rfl, pk_sub i1, ob_b1_s (fx_known (by omega)), show s (2 + 4) _ = nI (K _) from hT.x.2.2.2 _ (by omega)]
    · rw [if_neg (bnot rfl), rt i (by omega), ob_b1_s (ob_ld_nI (by omega) (by decide)), hT.u.2.2.2 _ (by omega), show i % 10 = i - 30 by omega]
  rw [if_pos bf0, if_pos bf0, ob_b1_s (fx_within _ _ _), ob_b1_s (fm_in _ _ _)]
  cases c4 : inr a 40 49
  rotate_left
  · obtain ⟨i, i1, i2, rfl⟩ := inr_of2 (lo := 40) (hi := 49) (by decide) (by decide) c4
    refine ⟨nI (W (i - 40)), ?_, ?_⟩
    · rw [if_neg (bnot rfl), show (40 : Int32) = nI 40 from rfl, pk_sub i1, ob_b1_s (fx_worse (by omega)), show s (2 + 1) _ = nI (W _) from hT.x.1 _ (by omega)]
    · rw [if_neg (bnot rfl), rt i (by omega), ob_b1_s (ob_ld_nI (by omega) (by decide)), hT.u.1 _ (by omega), show i % 10 = i - 40 by omega]
  exact ⟨-2, by rw [if_pos bf0], by rw [if_pos bf0, if_neg h0, if_neg h1]⟩
