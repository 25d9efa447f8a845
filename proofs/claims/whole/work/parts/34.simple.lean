/-! The book, men, images: the plain calls. -/
theorem Fr.mono {S S' : List Nat} {F F' : List (Nat × Nat)} {g t : Mm} (h : Fr S F g t) (hS : ∀ q, q ∈ S → q ∈ S') (hF : ∀ q, q ∈ F → q ∈ F') : Fr S' F' g t := Fr.rf.tr h hS hF
theorem Rel.newPT {k : Nat} {s u s' u' : Mm} (h : Rel k s u) (hs : Fr [3, 4, 5, 6, 30] [(1, 1), (2, 4)] s s') (hu : Fr [1, 2, 3, 4, 5] [(0, 0)] u u') (hT : ∃ W N T K, Rng W N T K ∧ RT s' u' W N T K) (hP : RP s' u') : Rel (k + 1) s' u' := by
  obtain ⟨-, -, h4, h5, h6, h7⟩ := h
  exact ⟨hT, hP, h4.fr hs hu (by decide) (by decide) (by decide) (by decide), h5.fr hs hu (by decide) (by decide) (by decide) (by decide), (h6.fr hs (by decide) (by decide)).mono (by omega), h7.fr hs (by decide) (by decide)⟩
theorem ag_fit {k : Nat} {s u : Mm} (h : Rel k s u) (a : Int32) : ∃ r, f_X6_fit s a = some r ∧ f_X7_fit u a = some r := by
  unfold f_X6_fit f_X7_fit
  rw [ob_b1_s (fx_isMan a), ob_b1_s (fm_isMan a)]
  cases h2 : inr a 0 4
  · rw [if_pos bf0, if_pos bf0]; exact ⟨_, rfl, rfl⟩
  · obtain ⟨m, hm, rfl⟩ := inr_of (n := 4) (by decide) h2
    obtain ⟨⟨W, N, T, K, hR, hT⟩, -⟩ := h
    rw [if_neg (bnot rfl), if_neg (bnot rfl), ob_b1_s (fx_fitting hT.x.2.1 hT.x.2.2.1 hR.n (by omega)), ob_b1_s (fm_fitOf hT.u.2.1 hT.u.2.2.1 hR.n (by omega))]
    exact ⟨_, rfl, rfl⟩
def orK (f : Nat → Nat) (m : Nat) : Nat → Nat
  | 0 => 0
  | n + 1 => orK f m n ||| (if n = m then 0 else f n)
theorem orK_and (f : Nat → Nat) (m q : Nat) : ∀ n, orK (fun j => f j &&& q) m n = orK f m n &&& q
  | 0 => (Nat.zero_and q).symm
  | n + 1 => by
    unfold orK
    rw [orK_and f m q n]
    split
    · rw [Nat.or_zero, Nat.or_zero]
    · apply bit_ext
      intro i
      simp only [Nat.testBit_or, Nat.testBit_and]
      cases (orK f m n).testBit i <;> cases (f n).testBit i <;> cases q.testBit i <;> rfl
theorem orK_lt {f : Nat → Nat} (hf : ∀ j, j < 5 → f j < 1024) (m : Nat) : ∀ n, n ≤ 5 → orK f m n < 1024
  | 0, _ => by show 0 < 1024; decide
  | n + 1, h => by
    unfold orK
    refine or_lt (orK_lt hf m n (by omega)) ?_
    split
    · decide
    · exact hf n (by omega)
theorem ag_safe {k : Nat} {s u : Mm} (h : Rel k s u) (a : Int32) : ∃ r, f_X6_safe s a = some r ∧ f_X7_safe u a = some r := by
  unfold f_X6_safe f_X7_safe
  rw [ob_b1_s (fx_isMan a), ob_b1_s (fm_isMan a)]
  cases h2 : inr a 0 4
  · rw [if_pos bf0, if_pos bf0]; exact ⟨_, rfl, rfl⟩
  · obtain ⟨m, hm, rfl⟩ := inr_of (n := 4) (by decide) h2
    obtain ⟨⟨W, N, T, K, hR, hT⟩, -⟩ := h
    rw [if_neg (bnot rfl), if_neg (bnot rfl)]
    have hX := hT.x
    have hU := hT.u
    have kx : ∀ (n i : Nat), i ≤ 5 → 5 < i + n → f_X6_safe_L13 s n (nI m) (nI (orK (fun j => K j &&& FI N T m) m i)) (nI i) = some (if orK (fun j => K j &&& FI N T m) m 5 = 0 then 1 else 0) := by
      intro n
      induction n with
      | zero => intro i h1 h2; omega
      | succ n ih =>
        intro i h1 h2
        unfold f_X6_safe_L13
        rcases Nat.lt_or_ge i 5 with q | q
        rotate_left
        · have e5 : i = 5 := by omega
          subst e5
          rw [if_pos (show (5 : Int32) ≤ nI 5 by decide)]
          have hl := orK_lt (f := fun j => K j &&& FI N T m) (fun j hj => and_lt (hR.k j hj)) m 5 (by omega)
          by_cases h0 : orK (fun j => K j &&& FI N T m) m 5 = 0
          · rw [if_pos (show nI _ = 0 by rw [h0]; rfl), if_pos h0]
          · rw [if_neg (nI_ne0 (by omega) (by omega)), if_neg h0]
        rw [if_neg (show ¬ (5 : Int32) ≤ nI i from nI_ge q (by decide))]
        have em : orK (fun j => K j &&& FI N T m) m (i + 1) = orK (fun j => K j &&& FI N T m) m i ||| (if i = m then 0 else K i &&& FI N T m) := rfl
        have e3 := ih (i + 1) (by omega) (by omega)
        rw [em] at e3
        by_cases hi : i = m
        · subst hi
          rw [if_pos rfl]
          unfold f_X6_safe_J35
          rw [nI_1]
          rw [if_pos rfl, Nat.or_zero] at e3
          exact e3
        · rw [if_neg (fun z => hi ((nI_eq (by omega) (by omega)).mp z)), ob_b1_s (fx_sayable hX.2.1 hX.2.2.1 hX.2.2.2 hR.n q (by omega))]
          unfold f_X6_safe_J35
          rw [nI_1, pb_or]
          rw [if_neg hi] at e3
          exact e3
    have km : ∀ (n i : Nat), i ≤ 5 → 5 < i + n → f_X7_safe_L13 u n (nI m) (nI (orK K m i)) (nI i) = some (if orK K m 5 &&& FI N T m = 0 then 1 else 0) := by
      intro n
      induction n with
      | zero => intro i h1 h2; omega
      | succ n ih =>
        intro i h1 h2
        unfold f_X7_safe_L13
        rcases Nat.lt_or_ge i 5 with q | q
        rotate_left
        · have e5 : i = 5 := by omega
          subst e5
          rw [if_pos (show (5 : Int32) ≤ nI 5 by decide), ob_b1_s (fm_fitOf hU.2.1 hU.2.2.1 hR.n (by omega)), pb_and]
          have hl : orK K m 5 &&& FI N T m < 1024 := and_lt (orK_lt (fun j hj => hR.k j hj) m 5 (by omega))
          by_cases h0 : orK K m 5 &&& FI N T m = 0
          · rw [if_pos (show nI _ = 0 by rw [h0]; rfl), if_pos h0]
          · rw [if_neg (nI_ne0 (by omega) (by omega)), if_neg h0]
        rw [if_neg (show ¬ (5 : Int32) ≤ nI i from nI_ge q (by decide))]
        have em : orK K m (i + 1) = orK K m i ||| (if i = m then 0 else K i) := rfl
        have e3 := ih (i + 1) (by omega) (by omega)
        rw [em] at e3
        by_cases hi : i = m
        · subst hi
          rw [if_pos rfl]
          unfold f_X7_safe_J34
          rw [nI_1, show (0 : Int32) = nI 0 from rfl, pb_or]
          rw [if_pos rfl] at e3
          exact e3
        · rw [if_neg (fun z => hi ((nI_eq (by omega) (by omega)).mp z)), ob_b1_s (ob_ld_nI q (by decide)), hU.2.2.2 i q]
          unfold f_X7_safe_J34
          rw [nI_1, pb_or]
          rw [if_neg hi] at e3
          exact e3
    obtain ⟨z, hz⟩ := FU_ge (n := 6) (by decide)
    have e1 := kx FU 0 (by omega) (by omega)
    have e2 := km FU 0 (by omega) (by omega)
    rw [orK_and K m (FI N T m) 5] at e1
    exact ⟨_, e1, e2⟩
theorem ag_needs {k : Nat} {s u : Mm} (h : Rel k s u) (a b : Int32) : ∃ r s' u', f_X6_needs s a b = some (r, s') ∧ f_X7_needs u a b = some (r, u') ∧ Rel (k + 1) s' u' := by
  cases h2 : inr a 0 9
  · refine ⟨-1, s, u, ?_, ?_, h.mono (by omega)⟩
    · unfold f_X6_needs
      rw [ob_b1_s (fx_isInsult a), h2, if_pos bf0]
    · unfold f_X7_needs
      rw [ob_b1_s (fm_isInsult a), h2, if_pos bf0]
  cases h3 : inr b 0 63
  · refine ⟨-2, s, u, ?_, ?_, h.mono (by omega)⟩
    · unfold f_X6_needs
      rw [ob_b1_s (fx_isInsult a), h2, if_neg (bnot rfl), ob_b1_s (fx_within b 0 63), h3, if_pos bf0]
    · unfold f_X7_needs
      rw [ob_b1_s (fm_isInsult a), h2, if_neg (bnot rfl), ob_b1_s (fm_in b 0 63), h3, if_pos bf0]
  obtain ⟨i, hi, rfl⟩ := inr_of (n := 9) (by decide) h2
  obtain ⟨v, hv, rfl⟩ := inr_of (n := 63) (by decide) h3
  obtain ⟨⟨W, N, T, K, hR, hT⟩, hP, -⟩ := id h
  have hX := hT.x
  have hU := hT.u
  have ex1 : f_X6_needs s (nI i) (nI v) = some (nI (N i), ob_up s 4 i (nI v)) := by
    unfold f_X6_needs
    rw [ob_b1_s (fx_isInsult _), h2, if_neg (bnot rfl), ob_b1_s (fx_within _ 0 63), h3, if_neg (bnot rfl), ob_b1_s (fx_needed (by omega)), show s (2 + 2) i = nI (N i) from hX.2.1 i (by omega), ob_b1_s (fx_setNeeded (by omega))]
  have ex2 : f_X7_needs u (nI i) (nI v) = some (nI (N i), ob_up u 3 i (nI v)) := by
    unfold f_X7_needs
    rw [ob_b1_s (fm_isInsult _), h2, if_neg (bnot rfl), ob_b1_s (fm_in _ 0 63), h3, if_neg (bnot rfl), ob_b1_s (ob_ld_nI (by omega) (by decide)), hU.2.1 i (by omega), ob_b1_s (ob_st_nI (by omega) (by decide))]
  refine ⟨_, _, _, ex1, ex2, h.newPT ((fr_X6_needs _ _ _ _ _ ex1).mono (by decide) (by decide)) ((fr_X7_needs _ _ _ _ _ ex2).mono (by decide) (by decide)) ⟨W, fun j => if j = i then v else N j, T, K, ⟨fun j hj => ⟨(hR.1 j hj).1, (hR.1 j hj).2.1, ?_⟩, hR.2⟩, hX.1.ne (by decide), hX.2.1.up, hX.2.2.1.ne (by decide), hX.2.2.2.ne (by decide), hU.1.ne (by decide), hU.2.1.up, hU.2.2.1.ne (by decide), hU.2.2.2.ne (by decide)⟩ (hP.fr (fr_X6_needs _ _ _ _ _ ex1) (fr_X7_needs _ _ _ _ _ ex2) (by decide) (by decide))⟩
  show (if j = i then v else N j) < 64
  split
  · omega
  · exact hR.n j hj
theorem ag_man {k : Nat} {s u : Mm} (h : Rel k s u) (a b c : Int32) : ∃ r s' u', f_X6_man s a b c = some (r, s') ∧ f_X7_man u a b c = some (r, u') ∧ Rel (k + 1) s' u' := by
  cases h2 : inr a 0 4
  · refine ⟨-1, s, u, ?_, ?_, h.mono (by omega)⟩
    · unfold f_X6_man
      rw [ob_b1_s (fx_isMan a), h2, if_pos bf0]
    · unfold f_X7_man
      rw [ob_b1_s (fm_isMan a), h2, if_pos bf0]
  cases h3 : inr b 0 1
  · refine ⟨-2, s, u, ?_, ?_, h.mono (by omega)⟩
    · unfold f_X6_man
      rw [ob_b1_s (fx_isMan a), h2, if_neg (bnot rfl), ob_b1_s (fx_within b 0 1), h3, if_pos bf0]
    · unfold f_X7_man
      rw [ob_b1_s (fm_isMan a), h2, if_neg (bnot rfl), ob_b1_s (fm_in b 0 1), h3, if_pos bf0]
  obtain ⟨m, hm, rfl⟩ := inr_of (n := 4) (by decide) h2
  obtain ⟨w, hw, rfl⟩ := inr_of (n := 1) (by decide) h3
  obtain ⟨⟨W, N, T, K, hR, hT⟩, hP, -⟩ := id h
  have hX := hT.x
  have hU := hT.u
  by_cases hw0 : w = 0
  · subst hw0
    cases h4 : inr c 0 63
    · refine ⟨-2, s, u, ?_, ?_, h.mono (by omega)⟩
      · unfold f_X6_man f_X6_man_J35
        rw [ob_b1_s (fx_isMan _), h2, if_neg (bnot rfl), ob_b1_s (fx_within _ 0 1), h3, if_neg (bnot rfl), if_pos (show nI 0 = 0 from rfl), ob_b1_s (fx_within c 0 63), h4, if_pos bf0]
      · unfold f_X7_man f_X7_man_J32
        rw [ob_b1_s (fm_isMan _), h2, if_neg (bnot rfl), ob_b1_s (fm_in _ 0 1), h3, if_neg (bnot rfl), if_pos (show nI 0 = 0 from rfl), ob_b1_s (fm_in c 0 63), h4, if_pos bf0]
    obtain ⟨v, hv, rfl⟩ := inr_of (n := 63) (by decide) h4
    have ex1 : f_X6_man s (nI m) (nI 0) (nI v) = some (nI (T m), ob_up s 5 m (nI v)) := by
      unfold f_X6_man f_X6_man_J35
      rw [ob_b1_s (fx_isMan _), h2, if_neg (bnot rfl), ob_b1_s (fx_within _ 0 1), h3, if_neg (bnot rfl), if_pos (show nI 0 = 0 from rfl), ob_b1_s (fx_within _ 0 63), h4, if_neg (bnot rfl), if_pos (show nI 0 = 0 from rfl), ob_b1_s (fx_traits (by omega)), show s (2 + 3) m = nI (T m) from hX.2.2.1 m (by omega), ob_b1_s (fx_setTraits (by omega))]
    have ex2 : f_X7_man u (nI m) (nI 0) (nI v) = some (nI (T m), ob_up u 4 m (nI v)) := by
      unfold f_X7_man f_X7_man_J32 f_X7_man_J60
      rw [ob_b1_s (fm_isMan _), h2, if_neg (bnot rfl), ob_b1_s (fm_in _ 0 1), h3, if_neg (bnot rfl), if_pos (show nI 0 = 0 from rfl), ob_b1_s (fm_in _ 0 63), h4, if_neg (bnot rfl), if_pos (show nI 0 = 0 from rfl), ob_b1_s (ob_ld_nI (by omega) (by decide)), hU.2.2.1 m (by omega), if_pos (show nI 0 = 0 from rfl), ob_b1_s (ob_st_nI (by omega) (by decide))]
    refine ⟨_, _, _, ex1, ex2, h.newPT ((fr_X6_man _ _ _ _ _ _ ex1).mono (by decide) (by decide)) ((fr_X7_man _ _ _ _ _ _ ex2).mono (by decide) (by decide)) ⟨W, N, fun j => if j = m then v else T j, K, ⟨hR.1, fun j hj => ⟨?_, (hR.2 j hj).2⟩⟩, hX.1.ne (by decide), hX.2.1.ne (by decide), hX.2.2.1.up, hX.2.2.2.ne (by decide), hU.1.ne (by decide), hU.2.1.ne (by decide), hU.2.2.1.up, hU.2.2.2.ne (by decide)⟩ (hP.fr (fr_X6_man _ _ _ _ _ _ ex1) (fr_X7_man _ _ _ _ _ _ ex2) (by decide) (by decide))⟩
    show (if j = m then v else T j) < 64
    split
    · omega
    · exact (hR.2 j hj).1
  · have hw1 : ¬ nI w = 0 := nI_ne0 (by omega) (by omega)
    cases h4 : inr c 0 1023
    · refine ⟨-2, s, u, ?_, ?_, h.mono (by omega)⟩
      · unfold f_X6_man f_X6_man_J35
        rw [ob_b1_s (fx_isMan _), h2, if_neg (bnot rfl), ob_b1_s (fx_within _ 0 1), h3, if_neg (bnot rfl), if_neg hw1, ob_b1_s (fx_within c 0 1023), h4, if_pos bf0]
      · unfold f_X7_man f_X7_man_J32
        rw [ob_b1_s (fm_isMan _), h2, if_neg (bnot rfl), ob_b1_s (fm_in _ 0 1), h3, if_neg (bnot rfl), if_neg hw1, ob_b1_s (fm_in c 0 1023), h4, if_pos bf0]
    obtain ⟨v, hv, rfl⟩ := inr_of (n := 1023) (by decide) h4
    have ex1 : f_X6_man s (nI m) (nI w) (nI v) = some (nI (K m), ob_up s 6 m (nI v)) := by
      unfold f_X6_man f_X6_man_J35
      rw [ob_b1_s (fx_isMan _), h2, if_neg (bnot rfl), ob_b1_s (fx_within _ 0 1), h3, if_neg (bnot rfl), if_neg hw1, ob_b1_s (fx_within _ 0 1023), h4, if_neg (bnot rfl), if_neg hw1, ob_b1_s (fx_known (by omega)), show s (2 + 4) m = nI (K m) from hX.2.2.2 m (by omega), ob_b1_s (fx_setKnown (by omega))]
    have ex2 : f_X7_man u (nI m) (nI w) (nI v) = some (nI (K m), ob_up u 5 m (nI v)) := by
      unfold f_X7_man f_X7_man_J32 f_X7_man_J60
      rw [ob_b1_s (fm_isMan _), h2, if_neg (bnot rfl), ob_b1_s (fm_in _ 0 1), h3, if_neg (bnot rfl), if_neg hw1, ob_b1_s (fm_in _ 0 1023), h4, if_neg (bnot rfl), if_neg hw1, ob_b1_s (ob_ld_nI (by omega) (by decide)), hU.2.2.2 m (by omega), if_neg hw1, ob_b1_s (ob_st_nI (by omega) (by decide))]
    refine ⟨_, _, _, ex1, ex2, h.newPT ((fr_X6_man _ _ _ _ _ _ ex1).mono (by decide) (by decide)) ((fr_X7_man _ _ _ _ _ _ ex2).mono (by decide) (by decide)) ⟨W, N, T, fun j => if j = m then v else K j, ⟨hR.1, fun j hj => ⟨(hR.2 j hj).1, ?_⟩⟩, hX.1.ne (by decide), hX.2.1.ne (by decide), hX.2.2.1.ne (by decide), hX.2.2.2.up, hU.1.ne (by decide), hU.2.1.ne (by decide), hU.2.2.1.ne (by decide), hU.2.2.2.up⟩ (hP.fr (fr_X6_man _ _ _ _ _ _ ex1) (fr_X7_man _ _ _ _ _ _ ex2) (by decide) (by decide))⟩
    show (if j = m then v else K j) < 1024
    split
    · omega
    · exact (hR.2 j hj).2
