/-! Whom to send; what an insult is worth. -/
theorem fx_comesOff {W N T K : Nat → Nat} {g : Mm} {m o kn R : Nat} (hR : Rng W N T K) (hX : TX g W N T K) (hRM : RMx g R) (hR9 : R < 100000) (hm : m < 5) (ho : o < 5) (hk : kn < 1024) (op : Bool) :
    ∃ g', f_X6_comesOff g (nI m) (nI kn) (nI o) (bI op) = some (bI (if op then !pay W (kn &&& FI N T o) (K o &&& FI N T m) else pay W (K o &&& FI N T m) (kn &&& FI N T o)), g') ∧ RMx g' (R + 1) ∧ TX g' W N T K := by
  have hA : kn &&& FI N T o < 1024 := and_lt hk
  have hB : K o &&& FI N T m < 1024 := and_lt (hR.k o ho)
  have hgo : ∃ g', f_X6_comesOff g (nI m) (nI kn) (nI o) (bI op) = some (bI (if op then !pay W (kn &&& FI N T o) (K o &&& FI N T m) else pay W (K o &&& FI N T m) (kn &&& FI N T o)), g') ∧ RMx g' (R + 1) := by
    unfold f_X6_comesOff
    rw [ob_b1_s (fx_fitting hX.2.1 hX.2.2.1 hR.n ho), ob_b1_s (fx_sayable hX.2.1 hX.2.2.1 hX.2.2.2 hR.n ho hm)]
    cases op
    · obtain ⟨g', e1, k1, k2⟩ := fx_fight (b := true) hR.w hR9 hX.1 hRM (fl := 0) (by decide) hB hB hA (apt_0 _) (fun i _ hh => mem_or_l hh)
      have e1' : f_X0_fight g (nI (K o &&& FI N T m)) 0 (nI (K o &&& FI N T m)) (nI (kn &&& FI N T o)) 1 = some g' := e1
      rw [if_pos bf0, pb_and, ob_b1_s e1', ob_b1_s (fx_moverPays k2), ob_b1_s (zb_b _)]
      exact ⟨g', rfl, k1⟩
    · obtain ⟨g', e1, k1, k2⟩ := fx_fight (b := true) hR.w hR9 hX.1 hRM (fl := 0) (by decide) hA hA hB (apt_0 _) (fun i _ hh => mem_or_l hh)
      have e1' : f_X0_fight g (nI (kn &&& FI N T o)) 0 (nI (kn &&& FI N T o)) (nI (K o &&& FI N T m)) 1 = some g' := e1
      rw [if_neg (bnot rfl), pb_and, ob_b1_s e1', ob_b1_s (fx_moverPays k2)]
      refine ⟨g', ?_, k1⟩
      show (if bI (pay W (kn &&& FI N T o) (K o &&& FI N T m)) = 0 then some ((1 : Int32), g') else some (0, g')) = _
      cases pay W (kn &&& FI N T o) (K o &&& FI N T m) <;> rfl
  obtain ⟨g', e1, k1⟩ := hgo
  exact ⟨g', e1, k1, hX.fr (fr_X6_comesOff _ _ _ _ _ _ _ e1) (by decide)⟩
theorem fm_payer {W N T K : Nat → Nat} {u : Mm} {m o : Nat} (hR : Rng W N T K) (hU : TU u W N T K) (hm : m < 5) (ho : o < 5) :
    ∃ u', f_X7_payer u (nI m) (nI o) = some (nI (if pay W (K m &&& FI N T o) (K o &&& FI N T m) then m else o), u') ∧ TU u' W N T K := by
  have hA : K m &&& FI N T o < 1024 := and_lt (hR.k m hm)
  obtain ⟨g0, u1, f1, f2, f3, f4, f5⟩ := fm_layMatch hR hU hm ho
  obtain ⟨u2, f6, -⟩ := fm_best0 hR.w f5 (fl := 0) (by decide) hA (apt_0 _)
  have f6' : f_X7_bestOf u1 0 (nI (K m &&& FI N T o)) 0 = some (nI (enc 0 (SC trn W (K m &&& FI N T o) 0 (K m &&& FI N T o) (K o &&& FI N T m))), u2) := f6
  have hld : ob_ld u1 7 2 0 = some (nI (K m &&& FI N T o)) := by
    rw [show ob_ld u1 7 2 0 = some (u1 7 0) from ob_ld_nI (i := 0) (by decide) (by decide), f5.1 7 0 (by decide) (by decide), f3]
  have hV := SC39 hR.w hA (apt_0 (K m &&& FI N T o)) (p := K m &&& FI N T o) (q := K o &&& FI N T m)
  have e1 : f_X7_payer u (nI m) (nI o) = some (nI (if pay W (K m &&& FI N T o) (K o &&& FI N T m) then m else o), u2) := by
    unfold f_X7_payer
    rw [ob_b1_s f1, ob_b1_s hld, ob_b2_s f6']
    unfold pay
    by_cases hv : SC trn W (K m &&& FI N T o) 0 (K m &&& FI N T o) (K o &&& FI N T m) < 20
    · rw [if_pos ((enc0_2 hV).mpr hv), if_pos (decide_eq_true hv)]
    · rw [if_neg (fun z => hv ((enc0_2 hV).mp z)), if_neg (by simp [hv])]
  exact ⟨u2, e1, hU.fr (fr_X7_payer _ _ _ _ _ e1) (by decide)⟩
/-- whether k does not pay against m, opening or answering -/
def good (W N T K : Nat → Nat) (m k : Nat) (op : Bool) : Bool := !decide (k = m) && (if op then !pay W (K k &&& FI N T m) (K m &&& FI N T k) else pay W (K m &&& FI N T k) (K k &&& FI N T m))
theorem nI_bool {op : Bool} {x : Int32} (h : x = 0 ↔ op = false) : (x = 0) = (op = false) := propext h
theorem ag_sent {k : Nat} {s u : Mm} (h : Rel k s u) (hk : k ≤ 512) (a : Int32) (op : Bool) : ∃ r s' u', f_X6_sent s a (bI op) = some (r, s') ∧ f_X7_sent u a (bI op) = some (r, u') ∧ Rel (k + 1) s' u' := by
  cases h2 : inr a 0 4
  · refine ⟨-1, s, u, ?_, ?_, h.mono (by omega)⟩
    · unfold f_X6_sent
      rw [ob_b1_s (fx_isMan a), h2, if_pos bf0]
    · unfold f_X7_sent
      rw [ob_b1_s (fm_isMan a), h2, if_pos bf0]
  obtain ⟨m, hm, rfl⟩ := inr_of (n := 4) (by decide) h2
  obtain ⟨⟨W, N, T, K, hR, hT⟩, -, -, -, ⟨R, hR16, hRM⟩, -⟩ := id h
  have kx : ∀ (n i R1 : Nat) (g : Mm), i ≤ 5 → 5 < i + n → R1 ≤ R + i → RMx g R1 → TX g W N T K → ∃ g' R2, f_X6_sent_L14 n g (nI m) (bI op) (nI (mk (fun j => good W N T K m j op) i)) (nI i) = some (nI (mk (fun j => good W N T K m j op) 5), g') ∧ R2 ≤ R + 5 ∧ RMx g' R2 := by
    intro n
    induction n with
    | zero => intro i R1 g h1 h2; omega
    | succ n ih =>
      intro i R1 g h1 h2 h3 h4 h5
      unfold f_X6_sent_L14
      rcases Nat.lt_or_ge i 5 with q | q
      rotate_left
      · have e5 : i = 5 := by omega
        subst e5
        rw [if_pos (show (5 : Int32) ≤ nI 5 by decide)]
        exact ⟨g, R1, rfl, by omega, h4⟩
      rw [if_neg (show ¬ (5 : Int32) ≤ nI i from nI_ge q (by decide))]
      have em : mk (fun j => good W N T K m j op) (i + 1) = mk (fun j => good W N T K m j op) i ||| (if good W N T K m i op then 2 ^ i else 0) := rfl
      by_cases hi : i = m
      · subst hi
        rw [if_pos rfl]
        unfold f_X6_sent_J53
        rw [nI_1]
        have e3 := ih (i + 1) R1 g (by omega) (by omega) (by omega) h4 h5
        rw [em, if_neg (by simp [good]), Nat.or_zero] at e3
        exact e3
      · rw [if_neg (fun z => hi ((nI_eq (by omega) (by omega)).mp z)), ob_b1_s (fx_known q), show g (2 + 4) i = nI (K i) from h5.2.2.2 i q]
        obtain ⟨g', e1, k1, k2⟩ := fx_comesOff hR h5 h4 (by omega) q (show m < 5 by omega) (hR.k i q) op
        rw [ob_b2_s e1]
        have eg : good W N T K m i op = (if op then !pay W (K i &&& FI N T m) (K m &&& FI N T i) else pay W (K m &&& FI N T i) (K i &&& FI N T m)) := by
          unfold good
          simp [hi]
        rw [← eg]
        have e3 := ih (i + 1) (R1 + 1) g' (by omega) (by omega) (by omega) k1 k2
        rw [em] at e3
        cases hg : good W N T K m i op
        · rw [if_pos bf0]
          unfold f_X6_sent_J53
          rw [nI_1]
          rw [hg, if_neg (by decide), Nat.or_zero] at e3
          exact e3
        · rw [if_neg (bnot rfl)]
          unfold f_X6_sent_J53
          rw [nI_1, pb_sh1 i (by omega), pb_or]
          rw [hg, if_pos rfl] at e3
          exact e3
  have km : ∀ (n i : Nat) (g : Mm), i ≤ 5 → 5 < i + n → TU g W N T K → ∃ g', f_X7_sent_L14 n g (nI m) (bI op) (nI (mk (fun j => good W N T K m j op) i)) (nI i) = some (nI (mk (fun j => good W N T K m j op) 5), g') := by
    intro n
    induction n with
    | zero => intro i g h1 h2; omega
    | succ n ih =>
      intro i g h1 h2 h5
      unfold f_X7_sent_L14
      rcases Nat.lt_or_ge i 5 with q | q
      rotate_left
      · have e5 : i = 5 := by omega
        subst e5
        rw [if_pos (show (5 : Int32) ≤ nI 5 by decide)]
        exact ⟨g, rfl⟩
      rw [if_neg (show ¬ (5 : Int32) ≤ nI i from nI_ge q (by decide))]
      have em : mk (fun j => good W N T K m j op) (i + 1) = mk (fun j => good W N T K m j op) i ||| (if good W N T K m i op then 2 ^ i else 0) := rfl
      by_cases hi : i = m
      · subst hi
        rw [if_pos rfl]
        unfold f_X7_sent_J67
        rw [nI_1]
        have e3 := ih (i + 1) g (by omega) (by omega) h5
        rw [em, if_neg (by simp [good]), Nat.or_zero] at e3
        exact e3
      · rw [if_neg (fun z => hi ((nI_eq (by omega) (by omega)).mp z))]
        have hfin : ∀ (v : Nat) (g' : Mm), v < 5 → TU g' W N T K → (v = i ↔ good W N T K m i op = false) → ∃ g2, f_X7_sent_J47 (f_X7_sent_L14 n) g' (nI m) (bI op) (nI (mk (fun j => good W N T K m j op) i)) (nI i) (nI v) = some (nI (mk (fun j => good W N T K m j op) 5), g2) := by
          intro v g' hv hU' hiff
          have e3 := ih (i + 1) g' (by omega) (by omega) hU'
          rw [em] at e3
          unfold f_X7_sent_J47 f_X7_sent_J65 f_X7_sent_J67
          cases hg : good W N T K m i op
          · rw [if_pos (show nI v = nI i by rw [hiff.mpr hg]), nI_1, show (0 : Int32) = nI 0 from rfl, pb_or]
            rw [hg, if_neg (by decide)] at e3
            exact e3
          · rw [if_neg (fun z => by
              have e9 := (nI_eq (by omega) (by omega)).mp z
              rw [hiff.mp e9] at hg
              cases hg), nI_1, pb_sh1 i (by omega), pb_or]
            rw [hg, if_pos rfl] at e3
            exact e3
        have eg : good W N T K m i op = (if op then !pay W (K i &&& FI N T m) (K m &&& FI N T i) else pay W (K m &&& FI N T i) (K i &&& FI N T m)) := by
          unfold good
          simp [hi]
        cases op
        · rw [if_pos bf0]
          obtain ⟨g', e1, k2⟩ := fm_payer hR h5 (show m < 5 by omega) q
          rw [ob_b2_s e1]
          refine hfin _ g' (by split <;> omega) k2 ?_
          rw [eg]
          cases pay W (K m &&& FI N T i) (K i &&& FI N T m)
          · simp
          · simp; exact fun z => hi z.symm
        · rw [if_neg (bnot rfl)]
          obtain ⟨g', e1, k2⟩ := fm_payer hR h5 q (show m < 5 by omega)
          rw [ob_b2_s e1]
          refine hfin _ g' (by split <;> omega) k2 ?_
          rw [eg]
          cases pay W (K i &&& FI N T m) (K m &&& FI N T i)
          · simp; exact fun z => hi z.symm
          · simp
  obtain ⟨z, hz⟩ := FU_ge (n := 6) (by decide)
  obtain ⟨s', R2, e1, e2, e3⟩ := kx FU 0 R s (by omega) (by omega) (by omega) hRM hT.x
  obtain ⟨u', e4⟩ := km FU 0 u (by omega) (by omega) hT.u
  have ex1 : f_X6_sent s (nI m) (bI op) = some (nI (mk (fun j => good W N T K m j op) 5), s') := by
    unfold f_X6_sent
    rw [ob_b1_s (fx_isMan _), h2, if_neg (bnot rfl)]
    exact e1
  have ex2 : f_X7_sent u (nI m) (bI op) = some (nI (mk (fun j => good W N T K m j op) 5), u') := by
    unfold f_X7_sent
    rw [ob_b1_s (fm_isMan _), h2, if_neg (bnot rfl)]
    exact e4
  exact ⟨_, s', u', ex1, ex2, h.scr (fr_X6_sent _ _ _ _ _ ex1) (fr_X7_sent _ _ _ _ _ ex2) (by decide) (by decide) (by decide) ⟨R2, by omega, e3⟩⟩
/-- in how many matches he does not pay, of those with the first n, if he knows kn -/
def gm (W N T K : Nat → Nat) (m kn : Nat) : Nat → Nat
  | 0 => 0
  | n + 1 => gm W N T K m kn n + (if n = m then 0 else (if pay W (kn &&& FI N T n) (K n &&& FI N T m) then 0 else 1) + (if pay W (K n &&& FI N T m) (kn &&& FI N T n) then 1 else 0))
theorem gm_le (W N T K : Nat → Nat) (m kn : Nat) : ∀ n, gm W N T K m kn n ≤ 2 * n
  | 0 => Nat.le_refl 0
  | n + 1 => by
    have h := gm_le W N T K m kn n
    unfold gm
    split
    · omega
    · split <;> split <;> omega
theorem fx_goodMatches {W N T K : Nat → Nat} {g : Mm} {m kn R : Nat} (hR : Rng W N T K) (hX : TX g W N T K) (hRM : RMx g R) (hR9 : R < 90000) (hm : m < 5) (hk : kn < 1024) : ∃ g' R2, f_X6_goodMatches g (nI m) (nI kn) = some (nI (gm W N T K m kn 5), g') ∧ R2 ≤ R + 8 ∧ RMx g' R2 ∧ TX g' W N T K := by
  have key : ∀ (n i R1 : Nat) (g : Mm), i ≤ 5 → 5 < i + n → R1 + (if m < i then 2 else 0) ≤ R + 2 * i → RMx g R1 → TX g W N T K → ∃ g' R2, f_X6_goodMatches_L5 n g (nI m) (nI kn) (nI (gm W N T K m kn i)) (nI i) = some (nI (gm W N T K m kn 5), g') ∧ R2 ≤ R + 8 ∧ RMx g' R2 ∧ TX g' W N T K := by
    intro n
    induction n with
    | zero => intro i R1 g h1 h2; omega
    | succ n ih =>
      intro i R1 g h1 h2 h3 h4 h5
      unfold f_X6_goodMatches_L5
      rcases Nat.lt_or_ge i 5 with q | q
      rotate_left
      · have e5 : i = 5 := by omega
        subst e5
        rw [if_pos (show (5 : Int32) ≤ nI 5 by decide)]
        rw [if_pos hm] at h3
        exact ⟨g, R1, rfl, by omega, h4, h5⟩
      rw [if_neg (show ¬ (5 : Int32) ≤ nI i from nI_ge q (by decide))]
      have em : gm W N T K m kn (i + 1) = gm W N T K m kn i + (if i = m then 0 else (if pay W (kn &&& FI N T i) (K i &&& FI N T m) then 0 else 1) + (if pay W (K i &&& FI N T m) (kn &&& FI N T i) then 1 else 0)) := rfl
      by_cases hi : i = m
      · subst hi
        rw [if_pos rfl]
        unfold f_X6_goodMatches_J50
        rw [nI_1]
        rw [if_neg (by omega)] at h3
        have e3 := ih (i + 1) R1 g (by omega) (by omega) (by rw [if_pos (by omega)]; omega) h4 h5
        rw [em, if_pos rfl, Nat.add_zero] at e3
        exact e3
      · rw [if_neg (fun z => hi ((nI_eq (by omega) (by omega)).mp z))]
        obtain ⟨g1, e1, k1, k2⟩ := fx_comesOff hR h5 h4 (by omega) hm q hk true
        have e1' : f_X6_comesOff g (nI m) (nI kn) (nI i) 1 = some (bI (!pay W (kn &&& FI N T i) (K i &&& FI N T m)), g1) := e1
        rw [ob_b2_s e1']
        have hsec : ∀ c : Nat, c = gm W N T K m kn i + (if pay W (kn &&& FI N T i) (K i &&& FI N T m) then 0 else 1) → ∃ g' R2, f_X6_goodMatches_J35 (f_X6_goodMatches_L5 n) g1 (nI m) (nI kn) (nI c) (nI i) = some (nI (gm W N T K m kn 5), g') ∧ R2 ≤ R + 8 ∧ RMx g' R2 ∧ TX g' W N T K := by
          intro c hc
          obtain ⟨g2, e2, k3, k4⟩ := fx_comesOff hR k2 k1 (by omega) hm q hk false
          have e2' : f_X6_comesOff g1 (nI m) (nI kn) (nI i) 0 = some (bI (pay W (K i &&& FI N T m) (kn &&& FI N T i)), g2) := e2
          unfold f_X6_goodMatches_J35
          rw [ob_b2_s e2']
          have h3' : R1 + 1 + 1 + (if m < i + 1 then 2 else 0) ≤ R + 2 * (i + 1) := by
            by_cases hmi : m < i
            · rw [if_pos hmi] at h3; rw [if_pos (by omega)]; omega
            · rw [if_neg hmi] at h3; rw [if_neg (by omega)]; omega
          have e3 := ih (i + 1) (R1 + 1 + 1) g2 (by omega) (by omega) h3' k3 k4
          rw [em, if_neg hi] at e3
          cases hp : pay W (K i &&& FI N T m) (kn &&& FI N T i)
          · rw [if_pos bf0]
            unfold f_X6_goodMatches_J50
            rw [nI_1, hc]
            rw [hp] at e3
            simp only [Bool.false_eq_true, if_false, Nat.add_zero] at e3
            exact e3
          · rw [if_neg (bnot rfl)]
            unfold f_X6_goodMatches_J50
            rw [nI_1, nI_1, hc]
            rw [hp, if_pos rfl, ← Nat.add_assoc] at e3
            exact e3
        cases hp : pay W (kn &&& FI N T i) (K i &&& FI N T m)
        · rw [if_neg (bnot (by rfl)), nI_1]
          exact hsec _ (by rw [hp]; rfl)
        · rw [if_pos (show bI (!true) = 0 from rfl)]
          exact hsec _ (by rw [hp]; rfl)
  unfold f_X6_goodMatches
  obtain ⟨z, hz⟩ := FU_ge (n := 6) (by decide)
  exact key FU 0 R g (by omega) (by omega) (by rw [if_neg (by omega)]; omega) hRM hX
theorem fm_freeMatches {W N T K : Nat → Nat} {g : Mm} {m : Nat} (hR : Rng W N T K) (hU : TU g W N T K) (hm : m < 5) : ∃ g', f_X7_freeMatches g (nI m) = some (nI (gm W N T K m (K m) 5), g') ∧ TU g' W N T K := by
  have key : ∀ (n i : Nat) (g : Mm), i ≤ 5 → 5 < i + n → TU g W N T K → ∃ g', f_X7_freeMatches_L4 n g (nI m) (nI (gm W N T K m (K m) i)) (nI i) = some (nI (gm W N T K m (K m) 5), g') ∧ TU g' W N T K := by
    intro n
    induction n with
    | zero => intro i g h1 h2; omega
    | succ n ih =>
      intro i g h1 h2 h5
      unfold f_X7_freeMatches_L4
      rcases Nat.lt_or_ge i 5 with q | q
      rotate_left
      · have e5 : i = 5 := by omega
        subst e5
        rw [if_pos (show (5 : Int32) ≤ nI 5 by decide)]
        exact ⟨g, rfl, h5⟩
      rw [if_neg (show ¬ (5 : Int32) ≤ nI i from nI_ge q (by decide))]
      have em : gm W N T K m (K m) (i + 1) = gm W N T K m (K m) i + (if i = m then 0 else (if pay W (K m &&& FI N T i) (K i &&& FI N T m) then 0 else 1) + (if pay W (K i &&& FI N T m) (K m &&& FI N T i) then 1 else 0)) := rfl
      by_cases hi : i = m
      · subst hi
        rw [if_pos rfl]
        unfold f_X7_freeMatches_J50
        rw [nI_1]
        have e3 := ih (i + 1) g (by omega) (by omega) h5
        rw [em, if_pos rfl, Nat.add_zero] at e3
        exact e3
      · rw [if_neg (fun z => hi ((nI_eq (by omega) (by omega)).mp z))]
        obtain ⟨g1, e1, k2⟩ := fm_payer hR h5 hm q
        rw [ob_b2_s e1]
        have hsec : ∀ c : Nat, c = (if pay W (K m &&& FI N T i) (K i &&& FI N T m) then 0 else 1) → ∃ g', f_X7_freeMatches_J30 (f_X7_freeMatches_L4 n) g1 (nI m) (nI i) (nI c) (nI (gm W N T K m (K m) i)) = some (nI (gm W N T K m (K m) 5), g') ∧ TU g' W N T K := by
          intro c hc
          obtain ⟨g2, e2, k4⟩ := fm_payer hR k2 q hm
          unfold f_X7_freeMatches_J30
          rw [ob_b2_s e2]
          have e3 := ih (i + 1) g2 (by omega) (by omega) k4
          rw [em, if_neg hi, ← hc, ← Nat.add_assoc] at e3
          cases hp : pay W (K i &&& FI N T m) (K m &&& FI N T i)
          · rw [if_pos (show nI (if false = true then i else m) = nI m from rfl)]
            unfold f_X7_freeMatches_J48 f_X7_freeMatches_J50
            rw [nI_1, nI_add, show (0 : Int32) = nI 0 from rfl, nI_add]
            rw [hp] at e3
            simp only [Bool.false_eq_true, if_false] at e3
            exact e3
          · rw [if_neg (show ¬ nI (if true = true then i else m) = nI m from fun z => hi ((nI_eq (a := i) (by omega) (by omega)).mp z))]
            unfold f_X7_freeMatches_J48 f_X7_freeMatches_J50
            rw [nI_1, nI_add, nI_1]
            rw [hp, if_pos rfl] at e3
            exact e3
        cases hp : pay W (K m &&& FI N T i) (K i &&& FI N T m)
        · rw [if_neg (show ¬ nI (if false = true then m else i) = nI m from fun z => hi ((nI_eq (a := i) (by omega) (by omega)).mp z))]
          exact hsec 1 (by rw [hp]; rfl)
        · rw [if_pos (show nI (if true = true then m else i) = nI m from rfl)]
          exact hsec 0 (by rw [hp]; rfl)
  unfold f_X7_freeMatches
  obtain ⟨z, hz⟩ := FU_ge (n := 6) (by decide)
  exact key FU 0 g (by omega) (by omega) hU
theorem gm_cong {W N T K K' : Nat → Nat} {m kn : Nat} (h : ∀ j, j ≠ m → K' j = K j) : ∀ n, gm W N T K' m kn n = gm W N T K m kn n
  | 0 => rfl
  | n + 1 => by
    unfold gm
    rw [gm_cong h n]
    by_cases e : n = m
    · rw [if_pos e, if_pos e]
    · rw [if_neg e, if_neg e, h n e]
theorem ag_worth {k : Nat} {s u : Mm} (h : Rel k s u) (hk : k ≤ 512) (a b : Int32) : ∃ r s' u', f_X6_worth s a b = some (r, s') ∧ f_X7_worth u a b = some (r, u') ∧ Rel (k + 1) s' u' := by
  cases h2 : inr a 0 9
  · refine ⟨-1, s, u, ?_, ?_, h.mono (by omega)⟩
    · unfold f_X6_worth
      rw [ob_b1_s (fx_isInsult a), h2, if_pos bf0]
    · unfold f_X7_worth
      rw [ob_b1_s (fm_isInsult a), h2, if_pos bf0]
  cases h3 : inr b 0 4
  · refine ⟨-1, s, u, ?_, ?_, h.mono (by omega)⟩
    · unfold f_X6_worth
      rw [ob_b1_s (fx_isInsult a), h2, if_neg (bnot rfl), ob_b1_s (fx_isMan b), h3, if_pos bf0]
    · unfold f_X7_worth
      rw [ob_b1_s (fm_isInsult a), h2, if_neg (bnot rfl), ob_b1_s (fm_isMan b), h3, if_pos bf0]
  obtain ⟨i, hi, rfl⟩ := inr_of (n := 9) (by decide) h2
  obtain ⟨m, hm, rfl⟩ := inr_of (n := 4) (by decide) h3
  obtain ⟨⟨W, N, T, K, hR, hT⟩, -, -, -, ⟨R, hR16, hRM⟩, -⟩ := id h
  have hm5 : m < 5 := by omega
  have hX := hT.x
  have hU := hT.u
  have hKm := hR.k m hm5
  cases h4 : (K m).testBit i
  rotate_left
  · refine ⟨-3, s, u, ?_, ?_, h.mono (by omega)⟩
    · unfold f_X6_worth
      rw [ob_b1_s (fx_isInsult _), h2, if_neg (bnot rfl), ob_b1_s (fx_isMan _), h3, if_neg (bnot rfl), ob_b1_s (fx_known hm5), show s (2 + 4) m = nI (K m) from hX.2.2.2 m hm5, ob_b1_s (fx_has (by omega) (by omega)), h4, if_neg (bnot rfl)]
    · unfold f_X7_worth
      rw [ob_b1_s (fm_isInsult _), h2, if_neg (bnot rfl), ob_b1_s (fm_isMan _), h3, if_neg (bnot rfl), ob_b1_s (ob_ld_nI hm5 (by decide)), hU.2.2.2 m hm5, ob_b1_s (fm_has (by omega) (by omega)), h4, if_neg (bnot rfl)]
  have hpi := pow_lt i (by omega)
  have hkn : K m ||| 2 ^ i < 1024 := or_lt hKm hpi
  obtain ⟨s1, R1, e1, e2, e3, e4⟩ := fx_goodMatches hR hX hRM (by omega) hm5 hkn
  obtain ⟨s2, R2, e5, e6, e7, e8⟩ := fx_goodMatches hR e4 e3 (by omega) hm5 hKm
  have ex1 : f_X6_worth s (nI i) (nI m) = some (100 + (nI (gm W N T K m (K m ||| 2 ^ i) 5) - nI (gm W N T K m (K m) 5)), s2) := by
    unfold f_X6_worth
    rw [ob_b1_s (fx_isInsult _), h2, if_neg (bnot rfl), ob_b1_s (fx_isMan _), h3, if_neg (bnot rfl), ob_b1_s (fx_known hm5), show s (2 + 4) m = nI (K m) from hX.2.2.2 m hm5, ob_b1_s (fx_has (by omega) (by omega)), h4, if_pos bf0, pb_sh1 i (by omega), pb_or, ob_b2_s e1, ob_b2_s e5]
  obtain ⟨u1, f1, f2⟩ := fm_freeMatches hR hU hm5
  let K' : Nat → Nat := fun j => if j = m then K m ||| 2 ^ i else K j
  have hR' : Rng W N T K' := ⟨hR.1, fun j hj => ⟨(hR.2 j hj).1, by
    show (if j = m then K m ||| 2 ^ i else K j) < 1024
    split
    · exact hkn
    · exact hR.k j hj⟩⟩
  have hU' : TU (ob_up u1 5 m (nI (K m ||| 2 ^ i))) W N T K' := ⟨f2.1.ne (by decide), f2.2.1.ne (by decide), f2.2.2.1.ne (by decide), f2.2.2.2.up⟩
  obtain ⟨u2, f3, f4⟩ := fm_freeMatches hR' hU' hm5
  have eK' : K' m = K m ||| 2 ^ i := if_pos rfl
  have eK2 : ∀ j, j ≠ m → K' j = K j := fun j hj => if_neg hj
  rw [eK', gm_cong eK2] at f3
  have hback : nI (K m ||| 2 ^ i) &&& (nI (2 ^ i) ^^^ (-1)) = nI (K m) := by
    rw [pb_dif hkn]
    congr 1
    apply bit_ext
    intro j
    rw [dif_bit hkn, Nat.testBit_or, Nat.testBit_two_pow]
    by_cases e : i = j
    · subst e
      simp [h4]
    · simp [e]
  have hu2 : u2 5 m = nI (K m ||| 2 ^ i) := by rw [f4.2.2.2 m hm5, eK']
  have ex2 : f_X7_worth u (nI i) (nI m) = some ((nI (gm W N T K m (K m ||| 2 ^ i) 5) - nI (gm W N T K m (K m) 5)) + 100, ob_up u2 5 m (nI (K m))) := by
    unfold f_X7_worth
    rw [ob_b1_s (fm_isInsult _), h2, if_neg (bnot rfl), ob_b1_s (fm_isMan _), h3, if_neg (bnot rfl), ob_b1_s (ob_ld_nI hm5 (by decide)), hU.2.2.2 m hm5, ob_b1_s (fm_has (by omega) (by omega)), h4, if_pos bf0, ob_b2_s f1, ob_b1_s (ob_ld_nI hm5 (by decide)), f2.2.2.2 m hm5, pb_sh1 i (by omega), pb_or, ob_b1_s (ob_st_nI hm5 (by decide)), ob_b2_s f3, ob_b1_s (ob_ld_nI hm5 (by decide)), hu2, hback, ob_b1_s (ob_st_nI hm5 (by decide))]
  rw [Int32.add_comm] at ex2
  have hF2 := fr_X7_worth _ _ _ _ _ ex2
  have hF1 := fr_X6_worth _ _ _ _ _ ex1
  have hTU : TU (ob_up u2 5 m (nI (K m))) W N T K := by
    refine ⟨f4.1.ne (by decide), f4.2.1.ne (by decide), f4.2.2.1.ne (by decide), fun j hj => ?_⟩
    by_cases e : j = m
    · subst e; exact ob_up_s _ _ _ _
    · rw [ob_up_k e, f4.2.2.2 j hj, eK2 j e]
  -- all but cell 5 of the reference as in Rel.scr; cell 5 is as it was
  have hfr5 : Fr [6, 7] [(0, 8)] u (ob_up u2 5 m (nI (K m))) ∨ True := Or.inr trivial
  obtain ⟨-, g3, g4, g5, g6, g7⟩ := h
  have hX2 := hX.fr hF1 (by decide)
  refine ⟨_, s2, _, ex1, ex2, ⟨W, N, T, K, hR, hX2.1, hX2.2.1, hX2.2.2.1, hX2.2.2.2, hTU.1, hTU.2.1, hTU.2.2.1, hTU.2.2.2⟩, g3.fr hF1 hF2 (by decide) (by decide), g4.fr hF1 hF2 (by decide) (by decide) (by decide) (by decide), g5.fr hF1 hF2 (by decide) (by decide) (by decide) (by decide), ⟨R2, by omega, e7⟩, g7.fr hF1 (by decide) (by decide)⟩
