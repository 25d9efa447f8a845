/-! Images. -/
def bq (n : Nat) : Nat := if n = 0 then 7 else 12
theorem bq_town {n : Nat} : isTown (bq n) := by
  unfold bq
  split
  · exact isTown_7
  · exact isTown_12
theorem fx_imageOf {g : Mm} {n : Nat} (hn : n < 2) : f_X6_imageOf g (nI n) = some (bq n) := by
  unfold f_X6_imageOf bq
  rcases (show n = 0 ∨ n = 1 by omega) with rfl | rfl
  · rw [if_pos (show nI 0 = 0 from rfl), if_pos rfl]
  · rw [if_neg (show ¬ nI 1 = 0 by decide), if_neg (by decide)]
theorem fx_copy {b b1 : Nat} (hb : isTown b) (hb1 : isTown b1) (hne : b ≠ b1) {g : Mm} {W N T K : Nat → Nat} (h1 : TW g (b1 + 1) 10 W) (h2 : TW g (b1 + 2) 10 N) (h3 : TW g (b1 + 3) 5 T) (h4 : TW g (b1 + 4) 5 K) :
    ∃ g', f_X4_copy b b1 g = some g' ∧ TW g' (b + 1) 10 W ∧ TW g' (b + 2) 10 N ∧ TW g' (b + 3) 5 T ∧ TW g' (b + 4) 5 K ∧ g' b 4 = 1 := by
  have far : ∀ i j, i ≤ 4 → j ≤ 4 → ¬ b1 + i = b + j := by
    intro i j hi hj
    rcases hb with rfl | rfl | rfl <;> rcases hb1 with rfl | rfl | rfl <;> omega
  have k2 : ∀ (n i : Nat) (g : Mm), i ≤ 5 → 5 < i + n → TW g (b1 + 3) 5 T → TW g (b1 + 4) 5 K → TW g (b + 1) 10 W → TW g (b + 2) 10 N → (∀ j, j < i → g (b + 3) j = nI (T j) ∧ g (b + 4) j = nI (K j)) → ∃ g', f_X4_copy_L42 b b1 n g (nI i) = some g' ∧ TW g' (b + 1) 10 W ∧ TW g' (b + 2) 10 N ∧ TW g' (b + 3) 5 T ∧ TW g' (b + 4) 5 K ∧ g' b 4 = 1 := by
    intro n
    induction n with
    | zero => intro i g h1 h2; omega
    | succ n ih =>
      intro i g q1 q2 q3 q4 q5 q6 q7
      unfold f_X4_copy_L42
      rcases Nat.lt_or_ge i 5 with q | q
      · rw [if_neg (show ¬ (5 : Int32) ≤ nI i from nI_ge q (by decide)), ob_b1_s (fx_traits q), q3 i q, ob_b1_s (fx_store q (by decide)), ob_b1_s (fx_known q), ob_up_r (far 4 3 (by decide) (by decide)), q4 i q, ob_b1_s (fx_store q (by decide)), nI_1]
        refine ih (i + 1) _ (by omega) (by omega) ((q3.ne (far 3 3 (by decide) (by decide))).ne (far 3 4 (by decide) (by decide))) ((q4.ne (far 4 3 (by decide) (by decide))).ne (far 4 4 (by decide) (by decide))) ((q5.ne (by omega)).ne (by omega)) ((q6.ne (by omega)).ne (by omega)) (fun j hj => ?_)
        by_cases e : j = i
        · subst e
          exact ⟨by rw [ob_up_r (by omega), ob_up_s], ob_up_s _ _ _ _⟩
        · obtain ⟨a1, a2⟩ := q7 j (by omega)
          exact ⟨by rw [ob_up_r (by omega), ob_up_k e]; exact a1, by rw [ob_up_k e, ob_up_r (by omega)]; exact a2⟩
      · have e : i = 5 := by omega
        subst e
        rw [if_pos (show (5 : Int32) ≤ nI 5 by decide)]
        exact ⟨_, rfl, q5.ne (by omega), q6.ne (by omega), fun j hj => by rw [ob_up_r (by omega)]; exact (q7 j hj).1, fun j hj => by rw [ob_up_r (by omega)]; exact (q7 j hj).2, ob_up_s _ _ _ _⟩
  have k1 : ∀ (n i : Nat) (g : Mm), i ≤ 10 → 10 < i + n → TW g (b1 + 1) 10 W → TW g (b1 + 2) 10 N → TW g (b1 + 3) 5 T → TW g (b1 + 4) 5 K → (∀ j, j < i → g (b + 1) j = nI (W j) ∧ g (b + 2) j = nI (N j)) → ∃ g', f_X4_copy_L2 b b1 (f_X4_copy_L42 b b1 FU) n g (nI i) = some g' ∧ TW g' (b + 1) 10 W ∧ TW g' (b + 2) 10 N ∧ TW g' (b + 3) 5 T ∧ TW g' (b + 4) 5 K ∧ g' b 4 = 1 := by
    intro n
    induction n with
    | zero => intro i g h1 h2; omega
    | succ n ih =>
      intro i g q1 q2 q3 q4 q5 q6 q7
      unfold f_X4_copy_L2
      rcases Nat.lt_or_ge i 10 with q | q
      · rw [if_neg (show ¬ (10 : Int32) ≤ nI i from nI_ge q (by decide)), ob_b1_s (fx_worse q), q3 i q, ob_b1_s (fx_store q (by decide)), ob_b1_s (fx_needed q), ob_up_r (far 2 1 (by decide) (by decide)), q4 i q, ob_b1_s (fx_store q (by decide)), nI_1]
        refine ih (i + 1) _ (by omega) (by omega) ((q3.ne (far 1 1 (by decide) (by decide))).ne (far 1 2 (by decide) (by decide))) ((q4.ne (far 2 1 (by decide) (by decide))).ne (far 2 2 (by decide) (by decide))) ((q5.ne (far 3 1 (by decide) (by decide))).ne (far 3 2 (by decide) (by decide))) ((q6.ne (far 4 1 (by decide) (by decide))).ne (far 4 2 (by decide) (by decide))) (fun j hj => ?_)
        by_cases e : j = i
        · subst e
          exact ⟨by rw [ob_up_r (by omega), ob_up_s], ob_up_s _ _ _ _⟩
        · obtain ⟨a1, a2⟩ := q7 j (by omega)
          exact ⟨by rw [ob_up_r (by omega), ob_up_k e]; exact a1, by rw [ob_up_k e, ob_up_r (by omega)]; exact a2⟩
      · have e : i = 10 := by omega
        subst e
        rw [if_pos (show (10 : Int32) ≤ nI 10 by decide)]
        obtain ⟨z, hz⟩ := FU_ge (n := 6) (by decide)
        exact k2 FU 0 g (by omega) (by omega) q5 q6 (fun j hj => (q7 j hj).1) (fun j hj => (q7 j hj).2) (fun j hj => absurd hj (Nat.not_lt_zero j))
  unfold f_X4_copy
  obtain ⟨z, hz⟩ := FU_ge (n := 11) (by decide)
  exact k1 FU 0 g (by omega) (by omega) h1 h2 h3 h4 (fun j hj => absurd hj (Nat.not_lt_zero j))
theorem ix30 (n i : Nat) : (30 : Int32) * nI n + nI i = nI (30 * n + i) := by
  rw [show (30 : Int32) = nI 30 from rfl, pk_mul, nI_add]
theorem ix30b (n c i : Nat) : ((30 : Int32) * nI n + nI c) + nI i = nI (30 * n + c + i) := by
  rw [ix30, nI_add]
theorem fm_image {u : Mm} {W N T K : Nat → Nat} {n : Nat} (hU : TU u W N T K) (hn : n < 2) : ∃ u', f_X7_image u (nI n) = some (1, u') ∧ (∀ q k, ¬ q = 15 → ¬ (q = 16 ∧ k = n) → u' q k = u q k) ∧ u' 16 n = 1 ∧ (∀ p, (p < 30 * n ∨ 30 * n + 30 ≤ p) → u' 15 p = u 15 p) ∧ (∀ i, i < 10 → u' 15 (30 * n + i) = nI (W i) ∧ u' 15 (30 * n + 10 + i) = nI (N i)) ∧ ∀ i, i < 5 → u' 15 (30 * n + 20 + i) = nI (T i) ∧ u' 15 (30 * n + 25 + i) = nI (K i) := by
  obtain ⟨h1, h2, h3, h4⟩ := hU
  have k2 : ∀ (m i : Nat) (g : Mm), i ≤ 5 → 5 < i + m → (∀ q k, ¬ q = 15 → g q k = u q k) → (∀ p, (p < 30 * n ∨ 30 * n + 30 ≤ p) → g 15 p = u 15 p) → (∀ j, j < 10 → g 15 (30 * n + j) = nI (W j) ∧ g 15 (30 * n + 10 + j) = nI (N j)) → (∀ j, j < i → g 15 (30 * n + 20 + j) = nI (T j) ∧ g 15 (30 * n + 25 + j) = nI (K j)) → ∃ u', f_X7_image_L65 m g (nI n) (nI i) = some (1, u') ∧ (∀ q k, ¬ q = 15 → ¬ (q = 16 ∧ k = n) → u' q k = u q k) ∧ u' 16 n = 1 ∧ (∀ p, (p < 30 * n ∨ 30 * n + 30 ≤ p) → u' 15 p = u 15 p) ∧ (∀ i, i < 10 → u' 15 (30 * n + i) = nI (W i) ∧ u' 15 (30 * n + 10 + i) = nI (N i)) ∧ ∀ i, i < 5 → u' 15 (30 * n + 20 + i) = nI (T i) ∧ u' 15 (30 * n + 25 + i) = nI (K i) := by
    intro m
    induction m with
    | zero => intro i g q1 q2; omega
    | succ m ih =>
      intro i g q1 q2 q3 q4 q5 q6
      unfold f_X7_image_L65
      rcases Nat.lt_or_ge i 5 with q | q
      · have z1 : 30 * n + 20 + i < 60 := by omega
        have z2 : 30 * n + 25 + i < 60 := by omega
        rw [if_neg (show ¬ (5 : Int32) ≤ nI i from nI_ge q (by decide)), ob_b1_s (ob_ld_nI q (by decide)), q3 4 i (by decide), h3 i q, show (20 : Int32) = nI 20 from rfl, ix30b, ob_b1_s (ob_st_nI z1 (by decide)), ob_b1_s (ob_ld_nI q (by decide)), ob_up_r (by decide), q3 5 i (by decide), h4 i q, show (25 : Int32) = nI 25 from rfl, ix30b, ob_b1_s (ob_st_nI z2 (by decide)), nI_1]
        refine ih (i + 1) _ (by omega) (by omega) (fun a b ha => by rw [ob_up_r ha, ob_up_r ha]; exact q3 a b ha) (fun p hp => by rw [ob_up_k (by omega), ob_up_k (by omega)]; exact q4 p hp) (fun j hj => ?_) (fun j hj => ?_)
        · rw [ob_up_k (by omega), ob_up_k (by omega), ob_up_k (by omega), ob_up_k (by omega)]
          exact q5 j hj
        · by_cases e : j = i
          · subst e
            exact ⟨by rw [ob_up_k (by omega), ob_up_s], ob_up_s _ _ _ _⟩
          · rw [ob_up_k (by omega), ob_up_k (by omega), ob_up_k (by omega), ob_up_k (by omega)]
            exact q6 j (by omega)
      · have e : i = 5 := by omega
        subst e
        rw [if_pos (show (5 : Int32) ≤ nI 5 by decide), ob_b1_s (show ob_sz g 16 2 (nI n) 1 = some (ob_up g 16 n 1) from ob_sz_nI (b := true) hn (by decide))]
        refine ⟨_, rfl, fun a b ha hb => ?_, ob_up_s _ _ _ _, fun p hp => by rw [ob_up_r (by decide)]; exact q4 p hp, fun j hj => by rw [ob_up_r (by decide), ob_up_r (by decide)]; exact q5 j hj, fun j hj => by rw [ob_up_r (by decide), ob_up_r (by decide)]; exact q6 j hj⟩
        by_cases h16 : a = 16
        · rw [ob_up_k (fun z => hb ⟨h16, z⟩)]; exact q3 a b ha
        · rw [ob_up_r h16]; exact q3 a b ha
  have k1 : ∀ (m i : Nat) (g : Mm), i ≤ 10 → 10 < i + m → (∀ q k, ¬ q = 15 → g q k = u q k) → (∀ p, (p < 30 * n ∨ 30 * n + 30 ≤ p) → g 15 p = u 15 p) → (∀ j, j < i → g 15 (30 * n + j) = nI (W j) ∧ g 15 (30 * n + 10 + j) = nI (N j)) → ∃ u', f_X7_image_L14 (f_X7_image_L65 FU) m g (nI n) (nI i) = some (1, u') ∧ (∀ q k, ¬ q = 15 → ¬ (q = 16 ∧ k = n) → u' q k = u q k) ∧ u' 16 n = 1 ∧ (∀ p, (p < 30 * n ∨ 30 * n + 30 ≤ p) → u' 15 p = u 15 p) ∧ (∀ i, i < 10 → u' 15 (30 * n + i) = nI (W i) ∧ u' 15 (30 * n + 10 + i) = nI (N i)) ∧ ∀ i, i < 5 → u' 15 (30 * n + 20 + i) = nI (T i) ∧ u' 15 (30 * n + 25 + i) = nI (K i) := by
    intro m
    induction m with
    | zero => intro i g q1 q2; omega
    | succ m ih =>
      intro i g q1 q2 q3 q4 q5
      unfold f_X7_image_L14
      rcases Nat.lt_or_ge i 10 with q | q
      · have z1 : 30 * n + i < 60 := by omega
        have z2 : 30 * n + 10 + i < 60 := by omega
        rw [if_neg (show ¬ (10 : Int32) ≤ nI i from nI_ge q (by decide)), ob_b1_s (ob_ld_nI q (by decide)), q3 2 i (by decide), h1 i q, ix30, ob_b1_s (ob_st_nI z1 (by decide)), ob_b1_s (ob_ld_nI q (by decide)), ob_up_r (by decide), q3 3 i (by decide), h2 i q, show (10 : Int32) = nI 10 from rfl, ix30b, ob_b1_s (ob_st_nI z2 (by decide)), nI_1]
        refine ih (i + 1) _ (by omega) (by omega) (fun a b ha => by rw [ob_up_r ha, ob_up_r ha]; exact q3 a b ha) (fun p hp => by rw [ob_up_k (by omega), ob_up_k (by omega)]; exact q4 p hp) (fun j hj => ?_)
        by_cases e : j = i
        · subst e
          exact ⟨by rw [ob_up_k (by omega), ob_up_s], ob_up_s _ _ _ _⟩
        · rw [ob_up_k (by omega), ob_up_k (by omega), ob_up_k (by omega), ob_up_k (by omega)]
          exact q5 j (by omega)
      · have e : i = 10 := by omega
        subst e
        rw [if_pos (show (10 : Int32) ≤ nI 10 by decide)]
        obtain ⟨z, hz⟩ := FU_ge (n := 6) (by decide)
        exact k2 FU 0 g (by omega) (by omega) q3 q4 q5 (fun j hj => absurd hj (Nat.not_lt_zero j))
  unfold f_X7_image
  rw [ob_b1_s (fm_in _ 0 1), show inr (nI n) 0 1 = true from inr_in (n := 1) (by decide) (by omega), if_neg (bnot rfl)]
  obtain ⟨z, hz⟩ := FU_ge (n := 11) (by decide)
  exact k1 FU 0 u (by omega) (by omega) (fun _ _ _ => rfl) (fun _ _ => rfl) (fun j hj => absurd hj (Nat.not_lt_zero j))
theorem RI.keepI {s u s' u' : Mm} {b m : Nat} (h : RI s u b m) (h0 : s' b 4 = s b 4) (h1 : ∀ i, i < 4 → ∀ k, s' (b + 1 + i) k = s (b + 1 + i) k) (h2 : u' 16 m = u 16 m) (h3 : ∀ j, j < 30 → u' 15 (30 * m + j) = u 15 (30 * m + j)) : RI s' u' b m := by
  obtain ⟨kept, a1, a2, a3⟩ := h
  refine ⟨kept, h0.trans a1, h2.trans a2, fun hk => ?_⟩
  obtain ⟨W, N, T, K, b1, ⟨c1, c2, c3, c4⟩, b2, b3⟩ := a3 hk
  refine ⟨W, N, T, K, b1, ⟨fun i hi => (h1 0 (by decide) i).trans (c1 i hi), fun i hi => (h1 1 (by decide) i).trans (c2 i hi), fun i hi => (h1 2 (by decide) i).trans (c3 i hi), fun i hi => (h1 3 (by decide) i).trans (c4 i hi)⟩, fun i hi => ?_, fun i hi => ?_⟩
  · have e1 := h3 i (by omega)
    have e2 := h3 (10 + i) (by omega)
    rw [← Nat.add_assoc] at e2
    exact ⟨e1.trans (b2 i hi).1, e2.trans (b2 i hi).2⟩
  · have e1 := h3 (20 + i) (by omega)
    have e2 := h3 (25 + i) (by omega)
    rw [← Nat.add_assoc] at e1 e2
    exact ⟨e1.trans (b3 i hi).1, e2.trans (b3 i hi).2⟩
theorem ag_image {k : Nat} {s u : Mm} (h : Rel k s u) (a : Int32) : ∃ r s' u', f_X6_image s a = some (r, s') ∧ f_X7_image u a = some (r, u') ∧ Rel (k + 1) s' u' := by
  cases h2 : inr a 0 1
  · refine ⟨-2, s, u, ?_, ?_, h.mono (by omega)⟩
    · unfold f_X6_image
      rw [ob_b1_s (fx_isImage a), h2, if_pos bf0]
    · unfold f_X7_image
      rw [ob_b1_s (fm_in a 0 1), h2, if_pos bf0]
  obtain ⟨n, hn, rfl⟩ := inr_of (n := 1) (by decide) h2
  have hn2 : n < 2 := by omega
  obtain ⟨⟨W, N, T, K, hR, hT⟩, hP, hI0, hI1, hM, hO⟩ := h
  have hX := hT.x
  have hne : bq n ≠ 2 := by unfold bq; split <;> decide
  obtain ⟨s', c1, c2, c3, c4, c5, c6⟩ := fx_copy bq_town isTown_2 hne hX.1 hX.2.1 hX.2.2.1 hX.2.2.2
  obtain ⟨u', d1, d2, d3, d4, d5, d6⟩ := fm_image hT.u hn2
  have ex1 : f_X6_image s (nI n) = some (1, s') := by
    unfold f_X6_image
    rw [ob_b1_s (fx_isImage _), h2, if_neg (bnot rfl), ob_b1_s (fx_imageOf hn2), ob_b1_s c1]
  have f1 := fr_X4_copy _ _ _ _ c1
  have f2 : Fr [15, 16] [] u u' := fr_X7_image _ _ _ _ d1
  have hnew : RI s' u' (bq n) n := ⟨true, c6, d3, fun _ => ⟨W, N, T, K, hR, ⟨c2, c3, c4, c5⟩, d5, d6⟩⟩
  rcases (show n = 0 ∨ n = 1 by omega) with rfl | rfl
  · have f1' : Fr [8, 9, 10, 11] [(7, 4)] s s' := f1
    refine ⟨_, s', u', ex1, d1, ⟨W, N, T, K, hR, hT.fr f1' f2 (by decide) (by decide)⟩, hP.fr f1' f2 (by decide) (by decide), hnew, hI1.keepI (f1' 12 4 (by decide) (by decide)) (fun i hi j => f1'.row ?_ j) (d2 16 1 (by decide) (by decide)) (fun j hj => d4 _ (by omega)), (hM.fr f1' (by decide) (by decide)).mono (by omega), hO.fr f1' (by decide) (by decide)⟩
    rcases (show i = 0 ∨ i = 1 ∨ i = 2 ∨ i = 3 by omega) with rfl | rfl | rfl | rfl <;> decide
  · have f1' : Fr [13, 14, 15, 16] [(12, 4)] s s' := f1
    refine ⟨_, s', u', ex1, d1, ⟨W, N, T, K, hR, hT.fr f1' f2 (by decide) (by decide)⟩, hP.fr f1' f2 (by decide) (by decide), hI0.keepI (f1' 7 4 (by decide) (by decide)) (fun i hi j => f1'.row ?_ j) (d2 16 0 (by decide) (by decide)) (fun j hj => d4 _ (by omega)), hnew, (hM.fr f1' (by decide) (by decide)).mono (by omega), hO.fr f1' (by decide) (by decide)⟩
    rcases (show i = 0 ∨ i = 1 ∨ i = 2 ∨ i = 3 by omega) with rfl | rfl | rfl | rfl <;> decide
theorem Rel.img {k : Nat} {s u : Mm} (h : Rel k s u) {n : Nat} (hn : n < 2) : RI s u (bq n) n := by
  obtain ⟨-, -, h1, h2, -⟩ := h
  rcases (show n = 0 ∨ n = 1 by omega) with rfl | rfl
  · exact h1
  · exact h2
theorem fx_isKept {b : Nat} {g : Mm} {kept : Bool} (h : g b 4 = bI kept) : f_X4_isKept b g = some (bI kept) := by
  unfold f_X4_isKept
  rw [h, ob_b1_s (zb_b kept)]
theorem fm_restore {u : Mm} {W N T K : Nat → Nat} {n : Nat} (hn : n < 2) (e1 : ∀ i, i < 10 → u 15 (30 * n + i) = nI (W i) ∧ u 15 (30 * n + 10 + i) = nI (N i)) (e2 : ∀ i, i < 5 → u 15 (30 * n + 20 + i) = nI (T i) ∧ u 15 (30 * n + 25 + i) = nI (K i)) : ∃ u', f_X7_restore_L26 (f_X7_restore_L77 FU) FU u (nI n) 0 = some (1, u') ∧ TU u' W N T K := by
  have k2 : ∀ (m i : Nat) (g : Mm), i ≤ 5 → 5 < i + m → (∀ p, g 15 p = u 15 p) → TW g 2 10 W → TW g 3 10 N → (∀ j, j < i → g 4 j = nI (T j) ∧ g 5 j = nI (K j)) → ∃ u', f_X7_restore_L77 m g (nI n) (nI i) = some (1, u') ∧ TU u' W N T K := by
    intro m
    induction m with
    | zero => intro i g q1 q2; omega
    | succ m ih =>
      intro i g q1 q2 q3 q4 q5 q6
      unfold f_X7_restore_L77
      rcases Nat.lt_or_ge i 5 with q | q
      · have z1 : 30 * n + 20 + i < 60 := by omega
        have z2 : 30 * n + 25 + i < 60 := by omega
        rw [if_neg (show ¬ (5 : Int32) ≤ nI i from nI_ge q (by decide)), show (20 : Int32) = nI 20 from rfl, ix30b, ob_b1_s (ob_ld_nI z1 (by decide)), q3, (e2 i q).1, ob_b1_s (ob_st_nI q (by decide)), show (25 : Int32) = nI 25 from rfl, ix30b, ob_b1_s (ob_ld_nI z2 (by decide)), ob_up_r (by decide), q3, (e2 i q).2, ob_b1_s (ob_st_nI q (by decide)), nI_1]
        refine ih (i + 1) _ (by omega) (by omega) (fun p => by rw [ob_up_r (by decide), ob_up_r (by decide)]; exact q3 p) ((q4.ne (by decide)).ne (by decide)) ((q5.ne (by decide)).ne (by decide)) (fun j hj => ?_)
        by_cases e : j = i
        · subst e
          exact ⟨by rw [ob_up_r (by decide), ob_up_s], ob_up_s _ _ _ _⟩
        · rw [ob_up_r (by decide), ob_up_k e, ob_up_k e, ob_up_r (by decide)]
          exact q6 j (by omega)
      · have e : i = 5 := by omega
        subst e
        rw [if_pos (show (5 : Int32) ≤ nI 5 by decide)]
        exact ⟨_, rfl, q4, q5, fun j hj => (q6 j hj).1, fun j hj => (q6 j hj).2⟩
  have k1 : ∀ (m i : Nat) (g : Mm), i ≤ 10 → 10 < i + m → (∀ p, g 15 p = u 15 p) → (∀ j, j < i → g 2 j = nI (W j) ∧ g 3 j = nI (N j)) → ∃ u', f_X7_restore_L26 (f_X7_restore_L77 FU) m g (nI n) (nI i) = some (1, u') ∧ TU u' W N T K := by
    intro m
    induction m with
    | zero => intro i g q1 q2; omega
    | succ m ih =>
      intro i g q1 q2 q3 q6
      unfold f_X7_restore_L26
      rcases Nat.lt_or_ge i 10 with q | q
      · have z1 : 30 * n + i < 60 := by omega
        have z2 : 30 * n + 10 + i < 60 := by omega
        rw [if_neg (show ¬ (10 : Int32) ≤ nI i from nI_ge q (by decide)), ix30, ob_b1_s (ob_ld_nI z1 (by decide)), q3, (e1 i q).1, ob_b1_s (ob_st_nI q (by decide)), show (10 : Int32) = nI 10 from rfl, ix30b, ob_b1_s (ob_ld_nI z2 (by decide)), ob_up_r (by decide), q3, (e1 i q).2, ob_b1_s (ob_st_nI q (by decide)), nI_1]
        refine ih (i + 1) _ (by omega) (by omega) (fun p => by rw [ob_up_r (by decide), ob_up_r (by decide)]; exact q3 p) (fun j hj => ?_)
        by_cases e : j = i
        · subst e
          exact ⟨by rw [ob_up_r (by decide), ob_up_s], ob_up_s _ _ _ _⟩
        · rw [ob_up_r (by decide), ob_up_k e, ob_up_k e, ob_up_r (by decide)]
          exact q6 j (by omega)
      · have e : i = 10 := by omega
        subst e
        rw [if_pos (show (10 : Int32) ≤ nI 10 by decide)]
        obtain ⟨z, hz⟩ := FU_ge (n := 6) (by decide)
        exact k2 FU 0 g (by omega) (by omega) q3 (fun j hj => (q6 j hj).1) (fun j hj => (q6 j hj).2) (fun j hj => absurd hj (Nat.not_lt_zero j))
  obtain ⟨z, hz⟩ := FU_ge (n := 11) (by decide)
  exact k1 FU 0 u (by omega) (by omega) (fun _ => rfl) (fun j hj => absurd hj (Nat.not_lt_zero j))
theorem ag_restore {k : Nat} {s u : Mm} (h : Rel k s u) (a : Int32) : ∃ r s' u', f_X6_restore s a = some (r, s') ∧ f_X7_restore u a = some (r, u') ∧ Rel (k + 1) s' u' := by
  cases h2 : inr a 0 1
  · refine ⟨-2, s, u, ?_, ?_, h.mono (by omega)⟩
    · unfold f_X6_restore
      rw [ob_b1_s (fx_isImage a), h2, if_pos bf0]
    · unfold f_X7_restore
      rw [ob_b1_s (fm_in a 0 1), h2, if_pos bf0]
  obtain ⟨n, hn, rfl⟩ := inr_of (n := 1) (by decide) h2
  have hn2 : n < 2 := by omega
  obtain ⟨kept, i1, i2, i3⟩ := h.img hn2
  cases kept
  · refine ⟨-3, s, u, ?_, ?_, h.mono (by omega)⟩
    · unfold f_X6_restore
      rw [ob_b1_s (fx_isImage _), h2, if_neg (bnot rfl), ob_b1_s (fx_imageOf hn2), ob_b1_s (fx_isKept i1), if_pos bf0]
    · unfold f_X7_restore
      rw [ob_b1_s (fm_in _ 0 1), h2, if_neg (bnot rfl), ob_b1_s (ob_ld_nI hn2 (by decide)), i2, if_pos bf0]
  obtain ⟨W, N, T, K, hR, ⟨m1, m2, m3, m4⟩, m5, m6⟩ := i3 rfl
  have hne : 2 ≠ bq n := by unfold bq; split <;> decide
  obtain ⟨s', c1, c2, c3, c4, c5, c6⟩ := fx_copy isTown_2 bq_town hne m1 m2 m3 m4
  obtain ⟨u', d1, d2⟩ := fm_restore hn2 m5 m6
  have ex1 : f_X6_restore s (nI n) = some (1, s') := by
    unfold f_X6_restore
    rw [ob_b1_s (fx_isImage _), h2, if_neg (bnot rfl), ob_b1_s (fx_imageOf hn2), ob_b1_s (fx_isKept i1), if_neg (bnot rfl), ob_b1_s (fx_imageOf hn2), ob_b1_s c1]
  have ex2 : f_X7_restore u (nI n) = some (1, u') := by
    unfold f_X7_restore
    rw [ob_b1_s (fm_in _ 0 1), h2, if_neg (bnot rfl), ob_b1_s (ob_ld_nI hn2 (by decide)), i2, if_neg (bnot rfl), d1]
  have f1 := fr_X6_restore _ _ _ _ ex1
  have f2 := fr_X7_restore _ _ _ _ ex2
  exact ⟨_, s', u', ex1, ex2, h.newPT (f1.mono (by decide) (by decide)) (f2.mono (by decide) (by decide)) ⟨W, N, T, K, hR, c2, c3, c4, c5, d2.1, d2.2.1, d2.2.2.1, d2.2.2.2⟩ (h.2.1.fr f1 f2 (by decide) (by decide))⟩
theorem ag_join {k : Nat} {s u : Mm} (h : Rel k s u) (a : Int32) : ∃ r s' u', f_X6_join s a = some (r, s') ∧ f_X7_join u a = some (r, u') ∧ Rel (k + 1) s' u' := by
  cases h2 : inr a 0 1
  · refine ⟨-2, s, u, ?_, ?_, h.mono (by omega)⟩
    · unfold f_X6_join
      rw [ob_b1_s (fx_isImage a), h2, if_pos bf0]
    · unfold f_X7_join
      rw [ob_b1_s (fm_in a 0 1), h2, if_pos bf0]
  obtain ⟨n, hn, rfl⟩ := inr_of (n := 1) (by decide) h2
  have hn2 : n < 2 := by omega
  obtain ⟨kept, i1, i2, i3⟩ := h.img hn2
  cases kept
  · refine ⟨-3, s, u, ?_, ?_, h.mono (by omega)⟩
    · unfold f_X6_join
      rw [ob_b1_s (fx_isImage _), h2, if_neg (bnot rfl), ob_b1_s (fx_imageOf hn2), ob_b1_s (fx_isKept i1), if_pos bf0]
    · unfold f_X7_join
      rw [ob_b1_s (fm_in _ 0 1), h2, if_neg (bnot rfl), ob_b1_s (ob_ld_nI hn2 (by decide)), i2, if_pos bf0]
  obtain ⟨V, N2, T2, K2, hR2, ⟨m1, -, -, -⟩, m5, -⟩ := i3 rfl
  obtain ⟨⟨W, N, T, K, hR, hT⟩, hP, -⟩ := id h
  have hX := hT.x
  have hU := hT.u
  have hJ : ∀ j, j < 10 → W j ||| V j < 1024 := fun j hj => or_lt (hR.w j hj) (hR2.w j hj)
  have hb3 : ¬ bq n + 1 = 3 := by unfold bq; split <;> decide
  have kx : ∀ (m i : Nat) (g : Mm), i ≤ 10 → 10 < i + m → TW g (bq n + 1) 10 V → (∀ j, j < 10 → g 3 j = nI (if j < i then W j ||| V j else W j)) → ∃ s', f_X4_addSteps_L2 2 (bq n) m g (nI i) = some s' ∧ TW s' 3 10 (fun j => W j ||| V j) := by
    intro m
    induction m with
    | zero => intro i g q1 q2; omega
    | succ m ih =>
      intro i g q1 q2 q3 q4
      unfold f_X4_addSteps_L2
      rcases Nat.lt_or_ge i 10 with q | q
      · rw [if_neg (show ¬ (10 : Int32) ≤ nI i from nI_ge q (by decide)), ob_b1_s (fx_worse q), ob_b1_s (fx_worse q), show g (2 + 1) i = nI (W i) from by rw [show 2 + 1 = 3 from rfl, q4 i q, if_neg (Nat.lt_irrefl i)], q3 i q, pb_or, ob_b1_s (fx_store q (by decide)), nI_1]
        refine ih (i + 1) _ (by omega) (by omega) (q3.ne hb3) (fun j hj => ?_)
        by_cases e : j = i
        · subst e
          rw [if_pos (by omega)]
          exact ob_up_s _ _ _ _
        · have e2 : (j < i + 1) ↔ j < i := by omega
          rw [ob_up_k e, q4 j hj]
          simp only [e2]
      · have e : i = 10 := by omega
        subst e
        rw [if_pos (show (10 : Int32) ≤ nI 10 by decide)]
        exact ⟨g, rfl, fun j hj => by rw [q4 j hj, if_pos hj]⟩
  have km : ∀ (m i : Nat) (g : Mm), i ≤ 10 → 10 < i + m → (∀ j, j < 10 → g 15 (30 * n + j) = nI (V j)) → (∀ j, j < 10 → g 2 j = nI (if j < i then W j ||| V j else W j)) → ∃ u', f_X7_join_L26 m g (nI n) (nI i) = some (nI (tot (fun j => W j ||| V j) 10), u') ∧ TW u' 2 10 (fun j => W j ||| V j) := by
    intro m
    induction m with
    | zero => intro i g q1 q2; omega
    | succ m ih =>
      intro i g q1 q2 q3 q4
      unfold f_X7_join_L26
      rcases Nat.lt_or_ge i 10 with q | q
      · have z1 : 30 * n + i < 60 := by omega
        rw [if_neg (show ¬ (10 : Int32) ≤ nI i from nI_ge q (by decide)), ob_b1_s (ob_ld_nI q (by decide)), q4 i q, if_neg (Nat.lt_irrefl i), ix30, ob_b1_s (ob_ld_nI z1 (by decide)), q3 i q, pb_or, ob_b1_s (ob_st_nI q (by decide)), nI_1]
        refine ih (i + 1) _ (by omega) (by omega) (fun j hj => by rw [ob_up_r (by decide)]; exact q3 j hj) (fun j hj => ?_)
        by_cases e : j = i
        · subst e
          rw [if_pos (by omega)]
          exact ob_up_s _ _ _ _
        · have e2 : (j < i + 1) ↔ j < i := by omega
          rw [ob_up_k e, q4 j hj]
          simp only [e2]
      · have e : i = 10 := by omega
        subst e
        have hTW : TW g 2 10 (fun j => W j ||| V j) := fun j hj => by rw [q4 j hj, if_pos hj]
        rw [if_pos (show (10 : Int32) ≤ nI 10 by decide), ob_b1_s (fm_allSteps hTW hJ)]
        exact ⟨g, rfl, hTW⟩
  obtain ⟨z, hz⟩ := FU_ge (n := 11) (by decide)
  obtain ⟨s', c1, c2⟩ := kx FU 0 s (by omega) (by omega) m1 (fun j hj => by rw [if_neg (Nat.not_lt_zero j)]; exact hX.1 j hj)
  obtain ⟨u', d1, d2⟩ := km FU 0 u (by omega) (by omega) (fun j hj => (m5 j hj).1) (fun j hj => by rw [if_neg (Nat.not_lt_zero j)]; exact hU.1 j hj)
  have c1' : f_X4_addSteps 2 (bq n) s = some s' := c1
  have d1' : f_X7_join_L26 FU u (nI n) 0 = some (nI (tot (fun j => W j ||| V j) 10), u') := d1
  have ex1 : f_X6_join s (nI n) = some (nI (tot (fun j => W j ||| V j) 10), s') := by
    unfold f_X6_join
    rw [ob_b1_s (fx_isImage _), h2, if_neg (bnot rfl), ob_b1_s (fx_imageOf hn2), ob_b1_s (fx_isKept i1), if_neg (bnot rfl), ob_b1_s (fx_imageOf hn2), ob_b1_s c1', ob_b1_s (fx_countSteps (b := 2) c2 hJ)]
  have ex2 : f_X7_join u (nI n) = some (nI (tot (fun j => W j ||| V j) 10), u') := by
    unfold f_X7_join
    rw [ob_b1_s (fm_in _ 0 1), h2, if_neg (bnot rfl), ob_b1_s (ob_ld_nI hn2 (by decide)), i2, if_neg (bnot rfl), d1']
  have f1 := fr_X6_join _ _ _ _ ex1
  have f2 := fr_X7_join _ _ _ _ ex2
  refine ⟨_, s', u', ex1, ex2, h.newPT (f1.mono (by decide) (by decide)) (f2.mono (by decide) (by decide)) ⟨fun j => W j ||| V j, N, T, K, ⟨fun j hj => ⟨hJ j hj, ?_, hR.n j hj⟩, hR.2⟩, c2, hX.2.1.fr f1 (by decide) (by decide), hX.2.2.1.fr f1 (by decide) (by decide), hX.2.2.2.fr f1 (by decide) (by decide), d2, hU.2.1.fr f2 (by decide) (by decide), hU.2.2.1.fr f2 (by decide) (by decide), hU.2.2.2.fr f2 (by decide) (by decide)⟩ (hP.fr f1 f2 (by decide) (by decide))⟩
  show (W j ||| V j).testBit j = false
  rw [Nat.testBit_or, (hR.1 j hj).2.1, (hR2.1 j hj).2.1]
  rfl
