/-! Crowds agree. -/
theorem TU.fr9 {g g' : Mm} {W N T K : Nat → Nat} (h : TU g W N T K) (hf : ∀ q k, q < 8 → g' q k = g q k) : TU g' W N T K :=
  ⟨fun i hi => by rw [hf _ _ (by decide)]; exact h.1 i hi, fun i hi => by rw [hf _ _ (by decide)]; exact h.2.1 i hi, fun i hi => by rw [hf _ _ (by decide)]; exact h.2.2.1 i hi, fun i hi => by rw [hf _ _ (by decide)]; exact h.2.2.2 i hi⟩
theorem pow5_le : ∀ n, n ≤ 5 → 5 ^ n ≤ 3125 := by decide
theorem card_5 : ∀ s, s < 32 → card s ≤ 5 := by decide +kernel
theorem card_0 : ∀ s, s < 32 → card s = 0 → s = 0 := by decide +kernel
def day10 (g g' : Mm) (set : Nat) : Prop := ∀ q k, q ≠ 8 → q ≠ 9 → ¬ (q = 10 ∧ k = set) → g' q k = g q k
theorem fm_codes {W N T K : Nat → Nat} {dy : Nat → Bool} (hR : Rng W N T K) (hdy : ∀ s, dy s = true ↔ DY W (FI N T) K s) {set : Nat} (hs : set < 32) (h0 : set ≠ 0) : ∀ (m c : Nat) (g : Mm), c ≤ 5 ^ card set → 5 ^ card set < c + m → TU g W N T K → g 10 set = 0 → (∀ c', c' < c → ¬ (fset (Md c') (card set) = set ∧ el0 W (FI N T) K (seg (Md c') 0 (card set)) = true)) → ∃ g', f_X7_layDay_L44 m g (nI set) (nI (card set)) (nI (5 ^ card set)) (nI c) = some g' ∧ g' 10 set = bI (dy set) ∧ day10 g g' set := by
  have hn := card_5 set hs
  have hp := pow5_le _ hn
  have hn0 : 0 < card set := by
    rcases Nat.eq_zero_or_pos (card set) with h | h
    · exact absurd (card_0 set hs h) h0
    · exact h
  intro m
  induction m with
  | zero => intro c g h1 h2; omega
  | succ m ih =>
    intro c g h1 h2 hT hz hno
    have hL : f_X7_layDay_L44 (m + 1) g (nI set) (nI (card set)) (nI (5 ^ card set)) (nI c) = if nI (5 ^ card set) ≤ nI c then some g else ob_b1 (ob_ld g 10 32 (nI set)) fun v6 => if v6 = 0 then ob_b2 (f_X7_layRow g (nI c) (nI set) (nI (card set))) fun v8 g8 => if v8 = 0 then f_X7_layDay_J87 (f_X7_layDay_L44 m) g8 (nI set) (nI (card set)) (nI (5 ^ card set)) (nI c) (nI set) else ob_b2 (f_X7_canSay g8 (nI (card set))) fun v10 g10 => if v10 = 0 then f_X7_layDay_J87 (f_X7_layDay_L44 m) g10 (nI set) (nI (card set)) (nI (5 ^ card set)) (nI c) (nI set) else f_X7_layDay_J88 (f_X7_layDay_L44 m) g10 (nI set) (nI (card set)) (nI (5 ^ card set)) (nI c) 1 (nI set) else some g := rfl
    rw [hL]
    rcases Nat.lt_or_ge c (5 ^ card set) with q | q
    · rw [if_neg (nI_ge q (by omega)), ob_b1_s (ob_ld_nI hs (by decide)), hz, if_pos rfl]
      obtain ⟨g1, a1, a2, a3⟩ := fm_layRow (g := g) (code := c) (by omega) hn hs rfl
      rw [ob_b2_s a1]
      have hT1 : TU g1 W N T K := hT.fr9 (fun q k hq => a3 q k (by omega))
      have no : ∀ g2 : Mm, TU g2 W N T K → (∀ q k, q ≠ 8 → q ≠ 9 → g2 q k = g q k) → ¬ (fset (Md c) (card set) = set ∧ el0 W (FI N T) K (seg (Md c) 0 (card set)) = true) → ∃ g', f_X7_layDay_J87 (f_X7_layDay_L44 m) g2 (nI set) (nI (card set)) (nI (5 ^ card set)) (nI c) (nI set) = some g' ∧ g' 10 set = bI (dy set) ∧ day10 g g' set := by
        intro g2 b1 b2 b3
        unfold f_X7_layDay_J87 f_X7_layDay_J88
        have esz : ob_sz g2 10 32 (nI set) 0 = some (ob_up g2 10 set 0) := ob_sz_nI (b := false) hs (by decide)
        rw [ob_b1_s esz, nI_1]
        obtain ⟨g', c1, c2, c3⟩ := ih (c + 1) (ob_up g2 10 set 0) (by omega) (by omega) (b1.fr9 (fun q k hq => ob_up_r (by omega))) (ob_up_s _ _ _ _) (fun c' hc' => by
          by_cases e : c' = c
          · rw [e]; exact b3
          · exact hno c' (by omega))
        refine ⟨g', c1, c2, fun q k h8 h9 h10 => ?_⟩
        rw [c3 q k h8 h9 h10]
        simp only [ob_up]
        rw [if_neg h10, b2 q k h8 h9]
      by_cases hf : fset (Md c) (card set) = set
      · rw [decide_eq_true hf, if_neg (bnot rfl)]
        have hM : MU W N T K (Md c) (card set) g1 := ⟨hT1, hn, fun j hj => ⟨Md_lt c j, a2 j hj⟩⟩
        obtain ⟨g2, d1, d2⟩ := fm_canSay hR hM hn0
        rw [ob_b2_s d1]
        have hT2 : TU g2 W N T K := hT1.fr9 (fun q k hq => d2 q k (by omega))
        have hfr : ∀ q k, q ≠ 8 → q ≠ 9 → g2 q k = g q k := fun q k h8 h9 => by rw [d2 q k h9, a3 q k h8]
        cases he : el0 W (FI N T) K (seg (Md c) 0 (card set))
        · rw [if_pos bf0]
          exact no g2 hT2 hfr (fun z => by rw [he] at z; exact absurd z.2 (by decide))
        · have hd : dy set = true := (hdy set).mpr ((DY_code hs).mpr ⟨c, q, hf, he⟩)
          rw [if_neg (bnot rfl)]
          unfold f_X7_layDay_J88
          have esz : ob_sz g2 10 32 (nI set) 1 = some (ob_up g2 10 set 1) := ob_sz_nI (b := true) hs (by decide)
          rw [ob_b1_s esz]
          obtain ⟨m, rfl⟩ : ∃ m', m = m' + 1 := ⟨m - 1, by omega⟩
          have hend : f_X7_layDay_L44 (m + 1) (ob_up g2 10 set 1) (nI set) (nI (card set)) (nI (5 ^ card set)) (nI c + 1) = some (ob_up g2 10 set 1) := by
            unfold f_X7_layDay_L44
            by_cases c9 : nI (5 ^ card set) ≤ nI c + 1
            · rw [if_pos c9]
            · rw [if_neg c9, ob_b1_s (ob_ld_nI hs (by decide)), ob_up_s, if_neg (by decide)]
          refine ⟨_, hend, by rw [ob_up_s, hd]; rfl, fun q k h8 h9 h10 => ?_⟩
          simp only [ob_up]
          rw [if_neg h10, hfr q k h8 h9]
      · rw [decide_eq_false hf, if_pos bf0]
        exact no g1 hT1 (fun q k h8 _ => a3 q k h8) (fun z => hf z.1)
    · have e : c = 5 ^ card set := by omega
      rw [if_pos (nI_le q (by omega))]
      refine ⟨g, rfl, ?_, fun _ _ _ _ _ => rfl⟩
      cases hd : dy set
      · exact hz
      · obtain ⟨c', h3, h4⟩ := (DY_code hs).mp ((hdy set).mp hd)
        exact absurd h4 (hno c' (by omega))
theorem fm_layDay {W N T K : Nat → Nat} {dy : Nat → Bool} (hR : Rng W N T K) (hdy : ∀ s, dy s = true ↔ DY W (FI N T) K s) {set : Nat} (hs : set < 32) {g : Mm} (hT : TU g W N T K) : ∃ g', f_X7_layDay g (nI set) = some g' ∧ g' 10 set = bI (dy set) ∧ day10 g g' set := by
  have hn := card_5 set hs
  have hp := pow5_le _ hn
  obtain ⟨z, hz⟩ := FU_ge (n := 4000) (by decide)
  have start : ∃ g', f_X7_layDay_L10 f_X7_layDay_J40 1 g (nI set) (nI (card set)) (nI (5 ^ card set)) (nI (card set)) = some g' ∧ g' 10 set = bI (dy set) ∧ day10 g g' set := by
    unfold f_X7_layDay_L10 f_X7_layDay_J40
    rw [if_pos (nI_le (Nat.le_refl _) (by omega))]
    by_cases h0 : set = 0
    · subst h0
      have c0 : card 0 = 0 := by decide
      have esz : ob_sz g 10 32 (nI 0) 1 = some (ob_up g 10 0 1) := ob_sz_nI (b := true) (by decide) (by decide)
      rw [c0, if_pos (show nI 0 = 0 from rfl), ob_b1_s esz]
      have hd : dy 0 = true := (hdy 0).mpr ⟨[], rfl, rfl⟩
      have hFU : FU = (FU - 1) + 1 := by omega
      have hend : f_X7_layDay_L44 FU (ob_up g 10 0 1) (nI 0) (nI 0) (nI (5 ^ 0)) 0 = some (ob_up g 10 0 1) := by
        rw [hFU]
        unfold f_X7_layDay_L44
        rw [if_neg (show ¬ nI (5 ^ 0) ≤ 0 by decide), ob_b1_s (ob_ld_nI (by decide) (by decide)), ob_up_s, if_neg (by decide)]
      refine ⟨_, hend, by rw [ob_up_s, hd]; rfl, fun q k h8 h9 h10 => ?_⟩
      simp only [ob_up]
      rw [if_neg h10]
    · have hn0 : card set ≠ 0 := fun z => h0 (card_0 set hs z)
      have esz : ob_sz g 10 32 (nI set) 0 = some (ob_up g 10 set 0) := ob_sz_nI (b := false) hs (by decide)
      rw [if_neg (show ¬ nI (card set) = 0 from fun z => hn0 ((nI_eq (b := 0) (by omega) (by decide)).mp z)), ob_b1_s esz]
      obtain ⟨g', c1, c2, c3⟩ := fm_codes hR hdy hs h0 FU 0 (ob_up g 10 set 0) (Nat.zero_le _) (by omega) (hT.fr9 (fun q k hq => ob_up_r (by omega))) (ob_up_s _ _ _ _) (fun c' h => absurd h (Nat.not_lt_zero _))
      refine ⟨g', c1, c2, fun q k h8 h9 h10 => ?_⟩
      rw [c3 q k h8 h9 h10]
      simp only [ob_up]
      rw [if_neg h10]
  have codes : ∀ (m j : Nat), j ≤ card set → card set < j + m → f_X7_layDay_L10 f_X7_layDay_J40 m g (nI set) (nI (card set)) (nI (5 ^ j)) (nI j) = f_X7_layDay_L10 f_X7_layDay_J40 1 g (nI set) (nI (card set)) (nI (5 ^ card set)) (nI (card set)) := by
    intro m
    induction m with
    | zero => intro j h1 h2; omega
    | succ m ih =>
      intro j h1 h2
      rcases Nat.lt_or_ge j (card set) with h | h
      · conv => lhs; unfold f_X7_layDay_L10
        rw [if_neg (nI_ge h (by omega)), show (5 : Int32) = nI 5 from rfl, pk_mul, nI_1, ← Nat.pow_succ]
        exact ih (j + 1) (by omega) (by omega)
      · have e : j = card set := by omega
        rw [e]
        unfold f_X7_layDay_L10
        rw [if_pos (nI_le (Nat.le_refl _) (by omega)), if_pos (nI_le (Nat.le_refl _) (by omega))]
  unfold f_X7_layDay
  rw [ob_b1_s (fm_bits (show set < 1024 by omega))]
  have h1 := codes FU 0 (by omega) (by omega)
  obtain ⟨g', c1, c2, c3⟩ := start
  exact ⟨g', h1.trans c1, c2, c3⟩
theorem fm_bySets {dy : Nat → Bool} {men t : Nat} (k169 : Mm → Int32 → Int32 → Int32 → Option (Int32 × Mm)) (x1 x2 : Int32) (ht : t < 32) (hsub : sub10 t men) : ∀ (m i : Nat) (g : Mm), i ≤ t → t < i + m → (∀ s, s ≤ t → sub10 s men → g 10 s = bI (dy s)) → (∀ s, s < t → sub10 s men → g 11 s = fvT dy t s) → g 11 t = fb dy (fvT dy t) t i → ∃ g', f_X7_crowd_L62 k169 m g x1 x2 (nI t) (nI (i + 1)) = k169 g' x1 x2 (nI t) ∧ g' 11 t = fb dy (fvT dy t) t t ∧ ∀ q k, ¬ (q = 11 ∧ k = t) → g' q k = g q k := by
  intro m
  induction m with
  | zero => intro i g h1 h2; omega
  | succ m ih =>
    intro i g h1 h2 h10 h11 hb
    unfold f_X7_crowd_L62
    rcases Nat.lt_or_ge i t with q | q
    · unfold f_X7_crowd_J105 f_X7_crowd_J106 f_X7_crowd_J144 f_X7_crowd_J163
      rw [if_neg (nI_nlt (show i + 1 ≤ t by omega) (by omega)), pb_dif (show i + 1 < 1024 by omega), pb_dif (show t < 1024 by omega)]
      have e3 : fb dy (fvT dy t) t (i + 1) = fbs dy (fvT dy t) t (i + 1) (fb dy (fvT dy t) t i) := rfl
      unfold fbs at e3
      have skip : fb dy (fvT dy t) t (i + 1) = fb dy (fvT dy t) t i → ∃ g', f_X7_crowd_L62 k169 m g x1 x2 (nI t) (nI (i + 1) + 1) = k169 g' x1 x2 (nI t) ∧ g' 11 t = fb dy (fvT dy t) t t ∧ ∀ q k, ¬ (q = 11 ∧ k = t) → g' q k = g q k := by
        intro h
        rw [nI_1]
        exact ih (i + 1) g (by omega) (by omega) h10 h11 (by rw [h]; exact hb)
      by_cases hd : dif (i + 1) t = 0
      · have hsub2 : sub10 (i + 1) men := sub_tr ((dif_zero (by omega)).mp hd) hsub
        have hl := dif_less (show t < 1024 by omega) hd (by omega) (by omega)
        have hsub3 : sub10 (dif t (i + 1)) men := sub_tr (dif_sub (by omega)) hsub
        rw [if_pos hd] at e3
        rw [if_pos (show nI _ = 0 by rw [hd]; rfl), ob_b1_s (ob_ld_nI (show i + 1 < 32 by omega) (by decide)), h10 _ (by omega) hsub2]
        have eld : ob_ld g 11 32 (nI (dif t (i + 1))) = some (fvT dy t (dif t (i + 1))) := by
          rw [ob_ld_nI (show dif t (i + 1) < 32 by omega) (by decide), h11 _ hl hsub3]
        have elt : ob_ld g 11 32 (nI t) = some (fb dy (fvT dy t) t i) := by
          rw [ob_ld_nI ht (by decide), hb]
        cases hdy : dy (i + 1)
        · rw [hdy, if_neg (by decide)] at e3
          rw [if_pos bf0, if_pos rfl]
          exact skip e3
        · rw [hdy, if_pos rfl] at e3
          rw [if_neg (bnot rfl), ob_b1_s eld]
          rcases fvT_vd dy t (by omega) _ hl with c1 | ⟨k, hk, c1⟩
          · rw [if_pos c1] at e3
            rw [if_pos (show fvT dy t (dif t (i + 1)) < 0 by rw [c1]; decide), if_pos rfl]
            exact skip e3
          · have hne6 : ¬ fvT dy t (dif t (i + 1)) = -6 := by rw [c1]; exact nI_ne_m6 (by omega)
            have hnn : ¬ fvT dy t (dif t (i + 1)) < 0 := by rw [c1]; exact nI_pos (by omega)
            rw [if_neg hne6] at e3
            rw [if_neg hnn, if_neg (by decide), ob_b1_s elt]
            have take : fb dy (fvT dy t) t (i + 1) = fvT dy t (dif t (i + 1)) + 1 → ∃ g', (ob_b1 (ob_ld g 11 32 (nI (dif t (i + 1)))) fun v26 => ob_b1 (ob_st g 11 32 (nI t) (v26 + 1)) fun g27 => f_X7_crowd_L62 k169 m g27 x1 x2 (nI t) (nI (i + 1) + 1)) = k169 g' x1 x2 (nI t) ∧ g' 11 t = fb dy (fvT dy t) t t ∧ ∀ q k, ¬ (q = 11 ∧ k = t) → g' q k = g q k := by
              intro h
              rw [ob_b1_s eld, ob_b1_s (ob_st_nI ht (by decide)), nI_1]
              obtain ⟨g', a1, a2, a3⟩ := ih (i + 1) (ob_up g 11 t (fvT dy t (dif t (i + 1)) + 1)) (by omega) (by omega) (fun s h3 h4 => by rw [ob_up_r (by decide)]; exact h10 s h3 h4) (fun s h3 h4 => by rw [ob_up_k (by omega)]; exact h11 s h3 h4) (by rw [ob_up_s, h])
              refine ⟨g', a1, a2, fun q k hq => ?_⟩
              rw [a3 q k hq]
              simp only [ob_up]
              rw [if_neg hq]
            rcases fb_vd (dy := dy) ht (fvT_vd dy t (by omega)) i (by omega) with c2 | ⟨k2, hk2, c2⟩
            · rw [if_pos c2] at e3
              rw [if_pos (show fb dy (fvT dy t) t i < 0 by rw [c2]; decide)]
              exact take e3
            · have hne : ¬ fb dy (fvT dy t) t i = -6 := by rw [c2]; exact nI_ne_m6 (by omega)
              have hn2 : ¬ fb dy (fvT dy t) t i < 0 := by rw [c2]; exact nI_pos (by omega)
              rw [if_neg hne] at e3
              rw [if_neg hn2, ob_b1_s eld, ob_b1_s elt]
              by_cases c3 : fb dy (fvT dy t) t i ≤ fvT dy t (dif t (i + 1)) + 1
              · rw [if_pos c3] at e3
                rw [if_pos c3]
                exact skip e3
              · rw [if_neg c3] at e3
                rw [if_neg c3]
                exact take e3
      · have hl := dif_lt (a := i + 1) (b := t) (by omega)
        rw [if_neg hd] at e3
        rw [if_neg (show ¬ nI _ = 0 from fun z => hd ((nI_eq (b := 0) (by omega) (by decide)).mp z)), if_pos rfl]
        exact skip e3
    · have e : i = t := by omega
      subst e
      rw [if_pos (nI_lt (show i < i + 1 by omega) (by omega))]
      exact ⟨g, rfl, hb, fun _ _ _ => rfl⟩
theorem fm_crowd {W N T K : Nat → Nat} {dy : Nat → Bool} (hR : Rng W N T K) (hdy : ∀ s, dy s = true ↔ DY W (FI N T) K s) {men : Nat} (hm : men < 32) (x2 : Int32) : ∀ (m t : Nat) (g : Mm), t ≤ 32 → 32 < t + m → TU g W N T K → (∀ s, s < t → sub10 s men → g 10 s = bI (dy s) ∧ g 11 s = fvT dy t s) → ∃ g', f_X7_crowd_L24 m g (nI men) x2 (nI t) = some (if x2 = 1 then fvT dy 32 men else bI (dy men), g') := by
  intro m
  induction m with
  | zero => intro t g h1 h2; omega
  | succ m ih =>
    intro t g h1 h2 hT hI
    have hL : f_X7_crowd_L24 (m + 1) g (nI men) x2 (nI t) = if (32 : Int32) ≤ nI t then if x2 = 1 then ob_b1 (ob_ld g 11 32 (nI men)) fun v9 => some (v9, g) else ob_b1 (ob_ld g 10 32 (nI men)) fun v7 => if v7 = 0 then some (0, g) else some (1, g) else if (nI t &&& (nI men ^^^ (-1))) = 0 then ob_b1 (f_X7_layDay g (nI t)) fun g11 => if nI t = 0 then f_X7_crowd_J58 (f_X7_crowd_L24 m) g11 (nI men) x2 (nI t) 0 (nI t) else f_X7_crowd_J58 (f_X7_crowd_L24 m) g11 (nI men) x2 (nI t) (-6) (nI t) else f_X7_crowd_J169 (f_X7_crowd_L24 m) g (nI men) x2 (nI t) := rfl
    rw [hL]
    rcases Nat.lt_or_ge t 32 with q | q
    · rw [if_neg (show ¬ (32 : Int32) ≤ nI t from nI_ge (b := 32) q (by decide)), pb_dif (show t < 1024 by omega)]
      by_cases hs : dif t men = 0
      · have hsub := (dif_zero (show t < 1024 by omega)).mp hs
        obtain ⟨g1, a1, a2, a3⟩ := fm_layDay hR hdy q hT
        rw [if_pos (show nI _ = 0 by rw [hs]; rfl), ob_b1_s a1]
        have hT1 : TU g1 W N T K := hT.fr9 (fun q k hq => a3 q k (by omega) (by omega) (by omega))
        have h10 : ∀ s, s ≤ t → sub10 s men → g1 10 s = bI (dy s) := by
          intro s h3 h4
          by_cases e : s = t
          · rw [e]; exact a2
          · rw [a3 10 s (by decide) (by decide) (fun z => e z.2)]; exact (hI s (by omega) h4).1
        have h11 : ∀ s, s < t → sub10 s men → g1 11 s = fvT dy t s := by
          intro s h3 h4
          rw [a3 11 s (by decide) (by decide) (fun z => absurd z.1 (by decide))]
          exact (hI s h3 h4).2
        have next : ∀ g2 : Mm, TU g2 W N T K → (∀ s, s ≤ t → sub10 s men → g2 10 s = bI (dy s)) → (∀ s, s < t → sub10 s men → g2 11 s = fvT dy t s) → g2 11 t = (if t = 0 then 0 else fb dy (fvT dy t) t t) → ∃ g', f_X7_crowd_J169 (f_X7_crowd_L24 m) g2 (nI men) x2 (nI t) = some (if x2 = 1 then fvT dy 32 men else bI (dy men), g') := by
          intro g2 b1 b2 b3 b4
          unfold f_X7_crowd_J169
          rw [nI_1]
          refine ih (t + 1) g2 (by omega) (by omega) b1 (fun s h3 h4 => ⟨b2 s (by omega) h4, ?_⟩)
          rw [fvT_s]
          by_cases e : s = t
          · rw [if_pos e, e]; exact b4
          · rw [if_neg e]; exact b3 s (by omega) h4
        have hFU : ∃ f, FU = f + 33 := ⟨FU - 33, by unfold FU; omega⟩
        obtain ⟨f, hFU⟩ := hFU
        by_cases h0 : t = 0
        · rw [if_pos (show nI t = 0 by rw [h0]; rfl)]
          unfold f_X7_crowd_J58
          have est : ob_st g1 11 32 (nI t) 0 = some (ob_up g1 11 t 0) := ob_st_nI q (by decide)
          have hstop : f_X7_crowd_L62 (f_X7_crowd_J169 (f_X7_crowd_L24 m)) FU (ob_up g1 11 t 0) (nI men) x2 (nI t) 1 = f_X7_crowd_J169 (f_X7_crowd_L24 m) (ob_up g1 11 t 0) (nI men) x2 (nI t) := by
            rw [hFU]
            conv => lhs; unfold f_X7_crowd_L62
            rw [if_pos (show nI t < 1 by rw [h0]; decide)]
          rw [ob_b1_s est, hstop]
          exact next _ (hT1.fr9 (fun q k hq => ob_up_r (by omega))) (fun s h3 h4 => by rw [ob_up_r (by decide)]; exact h10 s h3 h4) (fun s h3 h4 => by omega) (by rw [ob_up_s, if_pos h0])
        · rw [if_neg (show ¬ nI t = 0 from fun z => h0 ((nI_eq (b := 0) (by omega) (by decide)).mp z))]
          unfold f_X7_crowd_J58
          have est : ob_st g1 11 32 (nI t) (-6) = some (ob_up g1 11 t (-6)) := ob_st_nI q (by decide)
          obtain ⟨g2, d1, d2, d3⟩ := fm_bySets (dy := dy) (men := men) (f_X7_crowd_J169 (f_X7_crowd_L24 m)) (nI men) x2 q hsub FU 0 (ob_up g1 11 t (-6)) (by omega) (by omega) (fun s h3 h4 => by rw [ob_up_r (by decide)]; exact h10 s h3 h4) (fun s h3 h4 => by rw [ob_up_k (by omega)]; exact h11 s h3 h4) (ob_up_s _ _ _ _)
          have d4 : f_X7_crowd_L62 (f_X7_crowd_J169 (f_X7_crowd_L24 m)) FU (ob_up g1 11 t (-6)) (nI men) x2 (nI t) 1 = f_X7_crowd_J169 (f_X7_crowd_L24 m) g2 (nI men) x2 (nI t) := d1
          rw [ob_b1_s est, d4]
          exact next g2 (hT1.fr9 (fun q k hq => by rw [d3 q k (fun z => by omega), ob_up_r (by omega)])) (fun s h3 h4 => by rw [d3 10 s (fun z => absurd z.1 (by decide)), ob_up_r (by decide)]; exact h10 s h3 h4) (fun s h3 h4 => by rw [d3 11 s (fun z => by omega), ob_up_k (by omega)]; exact h11 s h3 h4) (by rw [d2, if_neg h0])
      · have hl := dif_lt (a := t) (b := men) (by omega)
        rw [if_neg (show ¬ nI _ = 0 from fun z => hs ((nI_eq (b := 0) (by omega) (by decide)).mp z))]
        unfold f_X7_crowd_J169
        rw [nI_1]
        refine ih (t + 1) g (by omega) (by omega) hT (fun s h3 h4 => ?_)
        rw [fvT_s]
        by_cases e : s = t
        · rw [e] at h4
          exact absurd ((dif_zero (by omega)).mpr h4) hs
        · rw [if_neg e]
          exact hI s (by omega) h4
    · have e : t = 32 := by omega
      subst e
      rw [if_pos (show (32 : Int32) ≤ nI 32 by decide)]
      by_cases hx : x2 = 1
      · rw [if_pos hx, if_pos hx, ob_b1_s (ob_ld_nI hm (by decide)), (hI men hm (fun _ h => h)).2]
        exact ⟨g, rfl⟩
      · rw [if_neg hx, if_neg hx, ob_b1_s (ob_ld_nI hm (by decide)), (hI men hm (fun _ h => h)).1]
        cases dy men
        · rw [if_pos bf0]
          exact ⟨g, rfl⟩
        · rw [if_neg (bnot rfl)]
          exact ⟨g, rfl⟩
theorem ag_crowd {k : Nat} {s u : Mm} (h : Rel k s u) (a b : Int32) : ∃ r s' u', f_X6_crowd s a b = some (r, s') ∧ f_X7_crowd u a b = some (r, u') ∧ Rel (k + 1) s' u' := by
  obtain ⟨⟨W, N, T, K, hR, hT⟩, -, -, -, hM, -⟩ := id h
  have he : ∃ r s' u', f_X6_crowd s a b = some (r, s') ∧ f_X7_crowd u a b = some (r, u') := by
    unfold f_X6_crowd f_X7_crowd
    rw [ob_b1_s (fx_within a 0 31), ob_b1_s (fm_in a 0 31)]
    cases h1 : inr a 0 31
    · exact ⟨-2, s, u, by rw [if_pos bf0], by rw [if_pos bf0]⟩
    rw [if_neg (bnot rfl), if_neg (bnot rfl), ob_b1_s (fx_within b 0 1), ob_b1_s (fm_in b 0 1)]
    cases h2 : inr b 0 1
    · exact ⟨-2, s, u, by rw [if_pos bf0], by rw [if_pos bf0]⟩
    obtain ⟨men, hmen, rfl⟩ := inr_of (n := 31) (by decide) h1
    have hm : men < 32 := by omega
    have hF : ∀ i, i < 5 → FI N T i < 1024 := fun i _ => FI_lt N T i
    obtain ⟨dy, hdy⟩ : ∃ dy : Nat → Bool, ∀ s, dy s = true ↔ DY W (FI N T) K s := ⟨fun s => @decide (DY W (FI N T) K s) (Classical.propDecidable _), fun s => by simp⟩
    obtain ⟨g1, p1, p2⟩ := fx_prepare hT.x hR.w hR.n hR.k hm
    obtain ⟨z, hz⟩ := FU_ge (n := 50) (by decide)
    obtain ⟨u', m1⟩ := fm_crowd hR hdy hm b FU 0 u (by omega) (by omega) hT.u (fun s h => by omega)
    have m2 : f_X7_crowd_L24 FU u (nI men) b 0 = some (if b = 1 then fvT dy 32 men else bI (dy men), u') := m1
    rw [if_neg (bnot rfl), if_neg (bnot rfl), m2]
    by_cases hb : b = 1
    · obtain ⟨g2, q1⟩ := fx_days hdy hR.w hF hm FU 0 g1 (by omega) (by omega) p2 (fun s h => by omega)
      have e1 : f_X1_fewestDays s (nI men) = some (fvT dy 32 men, g2) := by
        unfold f_X1_fewestDays
        rw [ob_b1_s p1]
        exact q1
      rw [if_pos hb, if_pos hb, ob_b2_s e1]
      exact ⟨_, g2, u', rfl, rfl⟩
    · obtain ⟨c, q1, q2⟩ := fx_canSpeak p2 hR.w hF hm (fun _ h => h)
      have hc : c = dy men := by
        cases c
        · cases hd : dy men
          · rfl
          · exact absurd (q2.mpr ((hdy men).mp hd)) (by decide)
        · exact ((hdy men).mpr (q2.mp rfl)).symm
      have e1 : f_X1_isOneDayEnough s (nI men) = some (bI (dy men), g1) := by
        unfold f_X1_isOneDayEnough
        rw [ob_b1_s p1, ob_b1_s q1, ob_b1_s (zb_b c), hc]
      rw [if_neg hb, if_neg hb, ob_b2_s e1]
      cases dy men
      · rw [if_pos bf0]
        exact ⟨_, g1, u', rfl, rfl⟩
      · rw [if_neg (bnot rfl)]
        exact ⟨_, g1, u', rfl, rfl⟩
  obtain ⟨r, s', u', e1, e2⟩ := he
  have f1 := fr_X6_crowd _ _ _ _ _ e1
  have f2 := fr_X7_crowd _ _ _ _ _ e2
  exact ⟨r, s', u', e1, e2, h.scr f1 f2 (by decide) (by decide) (by decide) ((hM.fr f1 (by decide) (by decide)).mono (by omega))⟩
