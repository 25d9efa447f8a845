/-! The class prepares; the fewest days. -/
def lead (W : Nat → Nat) (a : Nat) : Nat := mk (fun x => !((W x &&& a) == 0)) 10
theorem fx_leadingTo {g : Mm} {W : Nat → Nat} (hT : TW g 3 10 W) (hW : ∀ i, i < 10 → W i < 1024) (a : Nat) : f_X1_leadingTo g (nI a) = some (nI (lead W a)) := by
  have key : ∀ (m i : Nat), i ≤ 10 → 10 < i + m → f_X1_leadingTo_L4 g m (nI a) (nI (mk (fun x => !((W x &&& a) == 0)) i)) (nI i) = some (nI (lead W a)) := by
    intro m
    induction m with
    | zero => intro i h1 h2; omega
    | succ m ih =>
      intro i h1 h2
      unfold f_X1_leadingTo_L4
      rcases Nat.lt_or_ge i 10 with q | q
      · have hand := and_lt (b := a) (hW i q)
        rw [if_neg (show ¬ (10 : Int32) ≤ nI i from nI_ge q (by decide)), ob_b1_s (fx_worse q), show g (2 + 1) i = nI (W i) from hT i q, pb_and]
        unfold f_X1_leadingTo_J29
        have e2 := ih (i + 1) (by omega) (by omega)
        rw [mk_s] at e2
        by_cases h0 : W i &&& a = 0
        · rw [show (!((W i &&& a) == 0)) = false by rw [h0]; rfl, if_neg (by decide), Nat.or_zero] at e2
          rw [if_pos (show nI _ = 0 by rw [h0]; rfl), nI_1]
          exact e2
        · rw [show (!((W i &&& a) == 0)) = true by simp [h0], if_pos rfl] at e2
          rw [if_neg (show ¬ nI _ = 0 from fun z => h0 ((nI_eq (b := 0) (by omega) (by decide)).mp z)), pb_sh1 i (by omega), pb_or, nI_1]
          exact e2
      · have e : i = 10 := by omega
        subst e
        rw [if_pos (show (10 : Int32) ≤ nI 10 by decide)]
        rfl
  unfold f_X1_leadingTo
  obtain ⟨z, hz⟩ := FU_ge (n := 11) (by decide)
  exact key FU 0 (by omega) (by omega)
theorem lead_bit {W : Nat → Nat} {a x y : Nat} (hx : x < 10) (h1 : (W x).testBit y = true) (h2 : a.testBit y = true) : (lead W a).testBit x = true := by
  unfold lead
  rw [mk_bit]
  have h3 : (W x &&& a) ≠ 0 := by
    intro e
    have h4 : (W x &&& a).testBit y = true := by rw [Nat.testBit_and, h1, h2]; rfl
    rw [e, Nat.zero_testBit] at h4
    cases h4
  simp [hx, h3]
theorem fx_hopeAhead {W F K : Nat → Nat} {men t : Nat} {g : Mm} (hC : CX W F K men t g) (hW : ∀ i, i < 10 → W i < 1024) (hF : ∀ i, i < 5 → F i < 1024) (hK : ∀ i, i < 5 → K i < 1024) (ht : t < 32) (hs : sub10 t men) : ∃ g', f_X1_hopeAheadOf g (nI t) = some g' ∧ CX W F K men (t + 1) g' := by
  have answers : ∀ (k40 : Mm → Int32 → Int32 → Int32 → Option Mm) (m i a : Nat), i ≤ 5 → 5 < i + m → a < 1024 → (∀ j, j < i → t.testBit j = true → ∀ y, y < 10 → (K j).testBit y = true → (∃ l fl, lst l (dif t (2 ^ j)) ∧ el1 W F K l j y fl = true) → a.testBit y = true) →
      ∃ a', f_X1_hopeAheadOf_L4 k40 m g (nI t) (nI a) (nI i) = k40 g (nI t) (nI a') 0 ∧ a' < 1024 ∧ ∀ j, j < 5 → t.testBit j = true → ∀ y, y < 10 → (K j).testBit y = true → (∃ l fl, lst l (dif t (2 ^ j)) ∧ el1 W F K l j y fl = true) → a'.testBit y = true := by
    intro k40 m
    induction m with
    | zero => intro i a h1 h2; omega
    | succ m ih =>
      intro i a h1 h2 ha hA
      unfold f_X1_hopeAheadOf_L4
      rcases Nat.lt_or_ge i 5 with q | q
      · rw [if_neg (show ¬ (5 : Int32) ≤ nI i from nI_ge q (by decide)), ob_b1_s (fx_has (by omega) (by omega))]
        unfold f_X1_hopeAheadOf_J32
        cases hb : t.testBit i
        · rw [if_pos bf0, nI_1]
          refine ih (i + 1) a (by omega) (by omega) ha (fun j hj hbj => ?_)
          by_cases e : j = i
          · rw [e, hb] at hbj; cases hbj
          · exact hA j (by omega) hbj
        · have h3 : dif t (2 ^ i) < t := by
            have h4 := dif_ne (show t < 1024 by omega) hb
            have h5 : dif t (2 ^ i) ≤ t := dif_le
            omega
          obtain ⟨h, e1, e2⟩ := hC.2.2.2 (dif t (2 ^ i)) i h3 (fun k hk => hs k (dif_sub (by omega) k hk)) q (dif_no (by omega))
          rw [if_neg (bnot rfl), pb_sh1 i (by omega), pb_dif (show t < 1024 by omega), ob_b1_s (fx_hopeful (by omega) q), e1, pb_or, nI_1]
          refine ih (i + 1) (a ||| h) (by omega) (by omega) (or_lt ha e2.1) (fun j hj hbj y hy hKy hex => ?_)
          rw [Nat.testBit_or]
          by_cases e : j = i
          · subst e
            rw [e2.2.2 y hy hKy hex, Bool.or_true]
          · rw [hA j (by omega) hbj y hy hKy hex]; rfl
      · have e : i = 5 := by omega
        subst e
        rw [if_pos (show (5 : Int32) ≤ nI 5 by decide)]
        exact ⟨a, rfl, ha, hA⟩
  have stores : ∀ (a : Nat), a < 1024 → (∀ j, j < 5 → t.testBit j = true → ∀ y, y < 10 → (K j).testBit y = true → (∃ l fl, lst l (dif t (2 ^ j)) ∧ el1 W F K l j y fl = true) → a.testBit y = true) → ∀ (m i : Nat) (g1 : Mm), i ≤ 5 → 5 < i + m → TW g1 3 10 W → TW g1 6 5 K → TW g1 20 5 F → (∀ j, j < i → t.testBit j = false → ∃ h, g1 21 (t * 5 + j) = nI h ∧ HP W F K t j h) →
      ∃ g', f_X1_hopeAheadOf_L40 m g1 (nI t) (nI a) (nI i) = some g' ∧ TW g' 3 10 W ∧ TW g' 6 5 K ∧ TW g' 20 5 F ∧ (∀ j, j < 5 → t.testBit j = false → ∃ h, g' 21 (t * 5 + j) = nI h ∧ HP W F K t j h) ∧ ∀ k, k < t * 5 → g' 21 k = g1 21 k := by
    intro a ha hA m
    induction m with
    | zero => intro i g1 h1 h2; omega
    | succ m ih =>
      intro i g1 h1 h2 h3 h4 h5 h6
      unfold f_X1_hopeAheadOf_L40
      rcases Nat.lt_or_ge i 5 with q | q
      · rw [if_neg (show ¬ (5 : Int32) ≤ nI i from nI_ge q (by decide)), ob_b1_s (fx_has (by omega) (by omega))]
        unfold f_X1_hopeAheadOf_J80 f_X1_hopeAheadOf_J105
        cases hb : t.testBit i
        · have hKi := hK i q
          have put : ∀ h, HP W F K t i h → ∃ g', f_X1_hopeAheadOf_L40 m (ob_up g1 21 (t * 5 + i) (nI h)) (nI t) (nI a) (nI i + 1) = some g' ∧ TW g' 3 10 W ∧ TW g' 6 5 K ∧ TW g' 20 5 F ∧ (∀ j, j < 5 → t.testBit j = false → ∃ h, g' 21 (t * 5 + j) = nI h ∧ HP W F K t j h) ∧ ∀ k, k < t * 5 → g' 21 k = g1 21 k := by
            intro h hH
            rw [nI_1]
            obtain ⟨g', c1, c2, c3, c4, c5, c6⟩ := ih (i + 1) (ob_up g1 21 (t * 5 + i) (nI h)) (by omega) (by omega) (h3.ne (by decide)) (h4.ne (by decide)) (h5.ne (by decide)) (fun j hj hbj => by
              by_cases e : j = i
              · subst e
                exact ⟨h, ob_up_s _ _ _ _, hH⟩
              · rw [ob_up_k (by omega)]
                exact h6 j (by omega) hbj)
            exact ⟨g', c1, c2, c3, c4, c5, fun k hk => by rw [c6 k hk, ob_up_k (by omega)]⟩
          rw [if_pos bf0]
          by_cases h0 : t = 0
          · rw [if_pos (show nI t = 0 by rw [h0]; rfl), ob_b1_s (fx_known q), show g1 (2 + 4) i = nI (K i) from h4 i q, show (1023 : Int32) = nI 1023 from rfl, pb_and, show (5 : Int32) = nI 5 from rfl, pk_mul, nI_add, ob_b1_s (fx_store (by omega) (by decide))]
            refine put _ ⟨Nat.lt_of_le_of_lt Nat.and_le_left (by decide), fun y hy => ?_, fun x hx hKx _ => ?_⟩
            · rw [Nat.testBit_and, Bool.and_eq_true] at hy
              exact hy.2
            · rw [Nat.testBit_and, hKx, b1023 x]
              simp [hx]
          · rw [if_neg (show ¬ nI t = 0 from fun z => h0 ((nI_eq (b := 0) (by omega) (by decide)).mp z)), ob_b1_s (fx_at q (by decide)), h5 i q, pb_and, ob_b1_s (fx_leadingTo h3 hW _), ob_b1_s (fx_known q), show g1 (2 + 4) i = nI (K i) from h4 i q, pb_and, show (5 : Int32) = nI 5 from rfl, pk_mul, nI_add, ob_b1_s (fx_store (by omega) (by decide))]
            refine put _ ⟨and_lt (mk_lt _ 10), fun y hy => ?_, fun x hx hKx hex => ?_⟩
            · rw [Nat.testBit_and, Bool.and_eq_true] at hy
              exact hy.2
            · obtain ⟨l, fl, d1, d2⟩ := hex
              cases l with
              | nil => exact absurd d1 h0
              | cons j l =>
                obtain ⟨y, y1, y2, y3, y4, y5, y6⟩ := el1_iff.mp d2
                have hay := hA j d1.1 d1.2.1 y y1 y2 ⟨l, _, d1.2.2, y6⟩
                rw [Nat.testBit_and, hKx, lead_bit (a := a &&& F i) hx y3 (by rw [Nat.testBit_and, hay, y4]; rfl)]
                rfl
        · rw [if_neg (bnot rfl), nI_1]
          refine ih (i + 1) g1 (by omega) (by omega) h3 h4 h5 (fun j hj hbj => ?_)
          by_cases e : j = i
          · rw [e, hb] at hbj; cases hbj
          · exact h6 j (by omega) hbj
      · have e : i = 5 := by omega
        subst e
        rw [if_pos (show (5 : Int32) ≤ nI 5 by decide)]
        exact ⟨g1, rfl, h3, h4, h5, h6, fun _ _ => rfl⟩
  obtain ⟨z, hz⟩ := FU_ge (n := 11) (by decide)
  unfold f_X1_hopeAheadOf
  obtain ⟨a, a1, a2, a3⟩ := answers (f_X1_hopeAheadOf_L40 FU) FU 0 0 (by omega) (by omega) (by decide) (fun j hj => by omega)
  obtain ⟨g', b1, b2, b3, b4, b5, b6⟩ := stores a a2 a3 FU 0 g (by omega) (by omega) hC.1 hC.2.1 hC.2.2.1 (fun j hj => by omega)
  refine ⟨g', a1.trans b1, b2, b3, b4, fun rest man hr hsub hm hb => ?_⟩
  by_cases e : rest = t
  · subst e
    exact b5 man hm hb
  · rw [b6 _ (by omega)]
    exact hC.2.2.2 rest man (by omega) hsub hm hb
theorem fx_prepare {N T : Nat → Nat} {W K : Nat → Nat} {men : Nat} {g : Mm} (hX : TX g W N T K) (hW : ∀ i, i < 10 → W i < 1024) (hN : ∀ i, i < 10 → N i < 64) (hK : ∀ i, i < 5 → K i < 1024) (hm : men < 32) : ∃ g', f_X1_prepare g (nI men) = some g' ∧ CX W (FI N T) K men 32 g' := by
  obtain ⟨z, hz⟩ := FU_ge (n := 50) (by decide)
  have hF : ∀ i, i < 5 → FI N T i < 1024 := fun i _ => FI_lt N T i
  have sets : ∀ (m t : Nat) (g1 : Mm), t ≤ 32 → 32 < t + m → CX W (FI N T) K men t g1 → ∃ g', f_X1_prepare_L31 m g1 (nI men) (nI t) = some g' ∧ CX W (FI N T) K men 32 g' := by
    intro m
    induction m with
    | zero => intro t g1 h1 h2; omega
    | succ m ih =>
      intro t g1 h1 h2 hC
      unfold f_X1_prepare_L31
      rcases Nat.lt_or_ge t 32 with q | q
      · rw [if_neg (show ¬ (31 : Int32) < nI t from nI_nlt (a := 31) (by omega) (by decide)), pb_dif (show t < 1024 by omega)]
        unfold f_X1_prepare_J50
        by_cases hs : dif t men = 0
        · obtain ⟨g2, a1, a2⟩ := fx_hopeAhead hC hW hF hK q ((dif_zero (by omega)).mp hs)
          rw [if_pos (show nI _ = 0 by rw [hs]; rfl), ob_b1_s a1, nI_1]
          exact ih (t + 1) g2 (by omega) (by omega) a2
        · have hl := dif_lt (a := t) (b := men) (by omega)
          rw [if_neg (show ¬ nI _ = 0 from fun z => hs ((nI_eq (b := 0) (by omega) (by decide)).mp z)), nI_1]
          refine ih (t + 1) g1 (by omega) (by omega) ⟨hC.1, hC.2.1, hC.2.2.1, fun rest man hr hsub hm hb => ?_⟩
          by_cases e : rest = t
          · rw [e] at hsub
            exact absurd ((dif_zero (by omega)).mpr hsub) hs
          · exact hC.2.2.2 rest man (by omega) hsub hm hb
      · have e : t = 32 := by omega
        subst e
        rw [if_pos (show (31 : Int32) < nI 32 by decide)]
        exact ⟨g1, rfl, hC⟩
  have fits : ∀ (m i : Nat) (g1 : Mm), i ≤ 5 → 5 < i + m → TX g1 W N T K → TW g1 20 i (FI N T) → ∃ g', f_X1_prepare_L2 (f_X1_prepare_L31 FU) m g1 (nI men) (nI i) = some g' ∧ CX W (FI N T) K men 32 g' := by
    intro m
    induction m with
    | zero => intro i g1 h1 h2; omega
    | succ m ih =>
      intro i g1 h1 h2 hX1 hF1
      unfold f_X1_prepare_L2
      rcases Nat.lt_or_ge i 5 with q | q
      · rw [if_neg (show ¬ (5 : Int32) ≤ nI i from nI_ge q (by decide)), ob_b1_s (fx_fitting hX1.2.1 hX1.2.2.1 hN q), ob_b1_s (fx_store q (by decide)), nI_1]
        refine ih (i + 1) _ (by omega) (by omega) ⟨hX1.1.ne (by decide), hX1.2.1.ne (by decide), hX1.2.2.1.ne (by decide), hX1.2.2.2.ne (by decide)⟩ (fun j hj => ?_)
        by_cases e : j = i
        · subst e
          exact ob_up_s _ _ _ _
        · rw [ob_up_k e]
          exact hF1 j (by omega)
      · have e : i = 5 := by omega
        subst e
        rw [if_pos (show (5 : Int32) ≤ nI 5 by decide)]
        exact sets FU 0 g1 (by omega) (by omega) ⟨hX1.1, hX1.2.2.2, hF1, fun rest man hr => by omega⟩
  unfold f_X1_prepare
  exact fits FU 0 g (by omega) (by omega) hX (fun j hj => by omega)
/-! The fewest days, by sets. -/
def fbs (dy : Nat → Bool) (fv : Nat → Int32) (set day : Nat) (best : Int32) : Int32 := if dif day set = 0 then (if dy day then (if fv (dif set day) = -6 then best else if best = -6 then fv (dif set day) + 1 else if best ≤ fv (dif set day) + 1 then best else fv (dif set day) + 1) else best) else best
def fb (dy : Nat → Bool) (fv : Nat → Int32) (set : Nat) : Nat → Int32
  | 0 => -6
  | n + 1 => fbs dy fv set (n + 1) (fb dy fv set n)
def fvT (dy : Nat → Bool) : Nat → Nat → Int32
  | 0, _ => -6
  | t + 1, s => if s = t then (if t = 0 then 0 else fb dy (fvT dy t) t t) else fvT dy t s
def vd (s : Nat) (v : Int32) : Prop := v = -6 ∨ ∃ k, k ≤ s ∧ v = nI k
theorem dif_less {a b : Nat} (ha : a < 1024) (h : dif b a = 0) (hb : b < 1024) (h0 : b ≠ 0) : dif a b < a := by
  have h1 : dif a b ≤ a := dif_le
  have h2 : dif a b ≠ a := by
    intro e
    apply h0
    apply bit_ext
    intro i
    rw [Nat.zero_testBit]
    cases hbi : b.testBit i
    · rfl
    · have h3 := (dif_zero hb).mp h i hbi
      have h4 := dif_bit (b := b) ha i
      rw [e, h3, hbi] at h4
      cases h4
  omega
theorem fb_vd {dy : Nat → Bool} {fv : Nat → Int32} {set : Nat} (hs : set < 32) (hv : ∀ s, s < set → vd s (fv s)) : ∀ n, n < 32 → vd set (fb dy fv set n)
  | 0, _ => Or.inl rfl
  | n + 1, hn => by
    have ih := fb_vd (dy := dy) hs hv n (by omega)
    show vd set (fbs dy fv set (n + 1) (fb dy fv set n))
    unfold fbs
    split
    · rename_i h1
      split
      · split
        · exact ih
        · rename_i h3
          have hl := dif_less (by omega) h1 (by omega) (by omega)
          have hx : vd set (fv (dif set (n + 1)) + 1) := by
            rcases hv _ hl with h4 | ⟨k, h4, h5⟩
            · exact absurd h4 h3
            · exact Or.inr ⟨k + 1, by omega, by rw [h5, nI_1]⟩
          split
          · exact hx
          · split
            · exact ih
            · exact hx
      · exact ih
    · exact ih
theorem fvT_vd (dy : Nat → Bool) : ∀ t, t ≤ 32 → ∀ s, s < t → vd s (fvT dy t s)
  | 0, _, s, h => by omega
  | t + 1, ht, s, h => by
    show vd s (if s = t then (if t = 0 then 0 else fb dy (fvT dy t) t t) else fvT dy t s)
    by_cases e : s = t
    · rw [if_pos e]
      by_cases e0 : t = 0
      · rw [if_pos e0]
        exact Or.inr ⟨0, by omega, rfl⟩
      · rw [if_neg e0, e]
        exact fb_vd (by omega) (fvT_vd dy t (by omega)) t (by omega)
    · rw [if_neg e]
      exact fvT_vd dy t (by omega) s (by omega)
theorem fvT_s (dy : Nat → Bool) (t s : Nat) : fvT dy (t + 1) s = if s = t then (if t = 0 then 0 else fb dy (fvT dy t) t t) else fvT dy t s := rfl
theorem sub_tr {a b c : Nat} (h1 : sub10 a b) (h2 : sub10 b c) : sub10 a c := fun i h => h2 i (h1 i h)
theorem fx_bySets {g : Mm} {dy : Nat → Bool} {men set : Nat} (hs : set < 32) (hsub : sub10 set men) (h22 : ∀ s, s ≤ set → sub10 s men → g 22 s = bI (dy s)) (h23 : ∀ s, s < set → sub10 s men → g 23 s = fvT dy set s) : f_X1_fewestBySets g (nI set) = some (fb dy (fvT dy set) set set) := by
  have key : ∀ (m i : Nat), i ≤ set → set < i + m → f_X1_fewestBySets_L5 g m (nI set) (fb dy (fvT dy set) set i) (nI (i + 1)) = some (fb dy (fvT dy set) set set) := by
    intro m
    induction m with
    | zero => intro i h1 h2; omega
    | succ m ih =>
      intro i h1 h2
      unfold f_X1_fewestBySets_L5
      rcases Nat.lt_or_ge i set with q | q
      · rw [if_neg (nI_nlt (show i + 1 ≤ set by omega) (by omega)), if_neg (show ¬ (32 : Int32) ≤ nI (i + 1) from nI_ge (b := 32) (by omega) (by decide)), pb_dif (show i + 1 < 1024 by omega), pb_dif (show set < 1024 by omega)]
        have e2 := ih (i + 1) (by omega) (by omega)
        have e3 : fb dy (fvT dy set) set (i + 1) = fbs dy (fvT dy set) set (i + 1) (fb dy (fvT dy set) set i) := rfl
        rw [e3] at e2
        unfold f_X1_fewestBySets_J74 f_X1_fewestBySets_J79
        unfold fbs at e2
        rw [nI_1]
        by_cases hd : dif (i + 1) set = 0
        · have hsub2 : sub10 (i + 1) men := sub_tr ((dif_zero (by omega)).mp hd) hsub
          have hl := dif_less (show set < 1024 by omega) hd (by omega) (by omega)
          rw [if_pos hd] at e2
          rw [if_pos (show nI _ = 0 by rw [hd]; rfl), ob_b1_s (ob_ld_nI (show i + 1 < 32 by omega) (by decide)), h22 _ (by omega) hsub2, ob_b1_s (fx_at (show dif set (i + 1) < 32 by omega) (by decide)), h23 _ hl (sub_tr (dif_sub (by omega)) hsub)]
          cases hdy : dy (i + 1)
          · rw [hdy, if_neg (by decide)] at e2
            rw [if_pos bf0]
            exact e2
          · rw [hdy, if_pos rfl] at e2
            rw [if_neg (bnot rfl)]
            by_cases c1 : fvT dy set (dif set (i + 1)) = -6
            · rw [if_pos c1] at e2
              rw [if_pos c1]
              exact e2
            · rw [if_neg c1] at e2
              rw [if_neg c1]
              by_cases c2 : fb dy (fvT dy set) set i = -6
              · rw [if_pos c2] at e2
                rw [if_pos c2]
                exact e2
              · rw [if_neg c2] at e2
                rw [if_neg c2]
                by_cases c3 : fb dy (fvT dy set) set i ≤ fvT dy set (dif set (i + 1)) + 1
                · rw [if_pos c3] at e2
                  rw [if_pos c3]
                  exact e2
                · rw [if_neg c3] at e2
                  rw [if_neg c3]
                  exact e2
        · have hl := dif_lt (a := i + 1) (b := set) (by omega)
          rw [if_neg hd] at e2
          rw [if_neg (show ¬ nI _ = 0 from fun z => hd ((nI_eq (b := 0) (by omega) (by decide)).mp z))]
          exact e2
      · have e : i = set := by omega
        subst e
        rw [if_pos (nI_lt (show i < i + 1 by omega) (by omega))]
  unfold f_X1_fewestBySets
  obtain ⟨z, hz⟩ := FU_ge (n := 50) (by decide)
  exact key FU 0 (by omega) (by omega)
theorem CX.upd {W F K : Nat → Nat} {men t : Nat} {g : Mm} {q k : Nat} {v : Int32} (h : CX W F K men t g) (h3 : ¬ 3 = q) (h6 : ¬ 6 = q) (h20 : ¬ 20 = q) (h21 : ¬ 21 = q) : CX W F K men t (ob_up g q k v) :=
  ⟨h.1.ne h3, h.2.1.ne h6, h.2.2.1.ne h20, fun rest man a b c d => by rw [ob_up_r h21]; exact h.2.2.2 rest man a b c d⟩
theorem fx_days {W F K : Nat → Nat} {men : Nat} {dy : Nat → Bool} (hdy : ∀ s, dy s = true ↔ DY W F K s) (hW : ∀ i, i < 10 → W i < 1024) (hF : ∀ i, i < 5 → F i < 1024) (hm : men < 32) : ∀ (m t : Nat) (g : Mm), t ≤ 32 → 32 < t + m → CX W F K men 32 g → (∀ s, s < t → sub10 s men → g 22 s = bI (dy s) ∧ g 23 s = fvT dy t s) → ∃ g', f_X1_fewestDays_L7 m g (nI men) (nI t) = some (fvT dy 32 men, g') := by
  intro m
  induction m with
  | zero => intro t g h1 h2; omega
  | succ m ih =>
    intro t g h1 h2 hC hI
    unfold f_X1_fewestDays_L7
    rcases Nat.lt_or_ge t 32 with q | q
    · rw [if_neg (show ¬ (32 : Int32) ≤ nI t from nI_ge q (by decide)), pb_dif (show t < 1024 by omega)]
      unfold f_X1_fewestDays_J56 f_X1_fewestDays_J59
      by_cases hs : dif t men = 0
      · have hsub := (dif_zero (show t < 1024 by omega)).mp hs
        obtain ⟨b, e1, e2⟩ := fx_canSpeak hC hW hF q hsub
        have hb : b = dy t := by
          cases b
          · cases hd : dy t
            · rfl
            · exact absurd (e2.mpr ((hdy t).mp hd)) (by decide)
          · exact ((hdy t).mpr (e2.mp rfl)).symm
        have esz : ob_sz g 22 32 (nI t) (bI (dy t)) = some (ob_up g 22 t (bI (dy t))) := ob_sz_nI q (by decide)
        rw [if_pos (show nI _ = 0 by rw [hs]; rfl), ob_b1_s e1, hb, ob_b1_s esz]
        have step : ∀ v, v = (if t = 0 then 0 else fb dy (fvT dy t) t t) → ∃ g', f_X1_fewestDays_L7 m (ob_up (ob_up g 22 t (bI (dy t))) 23 t v) (nI men) (nI t + 1) = some (fvT dy 32 men, g') := by
          intro v hv
          rw [nI_1]
          refine ih (t + 1) _ (by omega) (by omega) ((hC.upd (by decide) (by decide) (by decide) (by decide)).upd (by decide) (by decide) (by decide) (by decide)) (fun s h3 h4 => ?_)
          rw [fvT_s]
          by_cases e : s = t
          · subst e
            rw [ob_up_r (by decide), ob_up_s, ob_up_s, if_pos rfl]
            exact ⟨rfl, hv⟩
          · rw [ob_up_r (by decide), ob_up_k e, ob_up_k e, ob_up_r (by decide), if_neg e]
            exact hI s (by omega) h4
        by_cases h0 : t = 0
        · have esto : f_X6_store 23 32 (ob_up g 22 t (bI (dy t))) (nI t) 0 = some (ob_up (ob_up g 22 t (bI (dy t))) 23 t 0) := fx_store q (by decide)
          rw [if_pos (show nI t = 0 by rw [h0]; rfl), ob_b1_s esto]
          exact step 0 (by rw [if_pos h0])
        · have e3 := fx_bySets (g := ob_up g 22 t (bI (dy t))) (dy := dy) (men := men) q hsub (fun s h3 h4 => by
            by_cases e : s = t
            · subst e; exact ob_up_s _ _ _ _
            · rw [ob_up_k e]; exact (hI s (by omega) h4).1) (fun s h3 h4 => by rw [ob_up_r (by decide)]; exact (hI s h3 h4).2)
          rw [if_neg (show ¬ nI t = 0 from fun z => h0 ((nI_eq (b := 0) (by omega) (by decide)).mp z)), ob_b1_s e3]
          have esto : f_X6_store 23 32 (ob_up g 22 t (bI (dy t))) (nI t) (fb dy (fvT dy t) t t) = some (ob_up (ob_up g 22 t (bI (dy t))) 23 t (fb dy (fvT dy t) t t)) := fx_store q (by decide)
          rw [ob_b1_s esto]
          exact step _ (by rw [if_neg h0])
      · have hl := dif_lt (a := t) (b := men) (by omega)
        rw [if_neg (show ¬ nI _ = 0 from fun z => hs ((nI_eq (b := 0) (by omega) (by decide)).mp z)), nI_1]
        refine ih (t + 1) g (by omega) (by omega) hC (fun s h3 h4 => ?_)
        rw [fvT_s]
        by_cases e : s = t
        · rw [e] at h4
          exact absurd ((dif_zero (by omega)).mpr h4) hs
        · rw [if_neg e]
          exact hI s (by omega) h4
    · have e : t = 32 := by omega
      subst e
      rw [if_pos (show (32 : Int32) ≤ nI 32 by decide), ob_b1_s (fx_at hm (by decide)), (hI men hm (fun _ h => h)).2]
      exact ⟨g, rfl⟩
