/-! The reference's crowd: its search is right. -/
def seg (M : Nat → Nat) : Nat → Nat → List Nat
  | _, 0 => []
  | p, r + 1 => M p :: seg M (p + 1) r
def fset (w : Nat → Nat) : Nat → Nat
  | 0 => 0
  | p + 1 => fset w p ||| 2 ^ w p
theorem fset_lt {w : Nat → Nat} : ∀ p, (∀ j, j < p → w j < 10) → fset w p < 1024
  | 0, _ => by show 0 < 1024; decide
  | p + 1, h => or_lt (fset_lt p (fun j hj => h j (by omega))) (pow_lt _ (h p (by omega)))
theorem fset_cong {w v : Nat → Nat} : ∀ p, (∀ j, j < p → w j = v j) → fset w p = fset v p
  | 0, _ => rfl
  | p + 1, h => by
    show fset w p ||| 2 ^ w p = fset v p ||| 2 ^ v p
    rw [fset_cong p (fun j hj => h j (by omega)), h p (by omega)]
/-- the reference's search, while the men stand in order M -/
def MU (W N T K M : Nat → Nat) (n : Nat) (g : Mm) : Prop := TU g W N T K ∧ n ≤ 5 ∧ ∀ j, j < n → M j < 5 ∧ g 8 j = nI (M j)
def okA (W F K M : Nat → Nat) (n p : Nat) (w : Nat → Nat) (y : Nat) : Bool := ((K (M p)).testBit y && (if p = 0 then (decide (n ≤ 1) || (F (M 1)).testBit y) else ((W (w (p - 1))).testBit y && (F (M (p - 1))).testBit y))) && !(fset w p).testBit y
theorem fm_fallen {g : Mm} {w : Nat → Nat} {p y : Nat} (hp : p < 5) (hw : ∀ j, j < p → w j < 10 ∧ g 9 j = nI (w j)) (hy : y < 10) (c : Bool) : f_X7_fitsAt_J116 g (nI p) (nI y) (bI c) = some (bI (c && !(fset w p).testBit y)) := by
  have key : ∀ (m i : Nat), i ≤ p → p < i + m → f_X7_fitsAt_L119 g m (nI p) (nI y) (bI (c && !(fset w i).testBit y)) (nI i) = some (bI (c && !(fset w p).testBit y)) := by
    intro m
    induction m with
    | zero => intro i h1 h2; omega
    | succ m ih =>
      intro i h1 h2
      unfold f_X7_fitsAt_L119
      rcases Nat.lt_or_ge i p with q | q
      · have hwi := hw i q
        have e2 := ih (i + 1) (by omega) (by omega)
        have e3 : (fset w (i + 1)).testBit y = ((fset w i).testBit y || decide (w i = y)) := by
          show (fset w i ||| 2 ^ w i).testBit y = _
          rw [Nat.testBit_or, Nat.testBit_two_pow]
        rw [e3] at e2
        rw [if_neg (nI_ge q (by omega))]
        unfold f_X7_fitsAt_J145 f_X7_fitsAt_J146
        rw [nI_1]
        cases hc : (c && !(fset w i).testBit y)
        · have e4 : (c && !((fset w i).testBit y || decide (w i = y))) = false := by
            cases c
            · rfl
            · cases hb : (fset w i).testBit y
              · rw [hb] at hc; cases hc
              · rfl
          rw [e4] at e2
          rw [if_pos bf0]
          exact e2
        · rw [if_neg (bnot rfl), ob_b1_s (ob_ld_nI (by omega) (by decide)), hwi.2]
          have hc' : c = true ∧ (fset w i).testBit y = false := by
            simp only [Bool.and_eq_true, Bool.not_eq_true'] at hc
            exact hc
          by_cases e : w i = y
          · rw [hc'.1, hc'.2, show decide (w i = y) = true from decide_eq_true e] at e2
            rw [if_pos (by rw [e]), hc'.1]
            exact e2
          · rw [hc'.1, hc'.2, show decide (w i = y) = false from decide_eq_false e] at e2
            rw [if_neg (fun z => e ((nI_eq (by omega) (by omega)).mp z)), hc'.1]
            exact e2
      · have e : i = p := by omega
        subst e
        rw [if_pos (nI_le (Nat.le_refl _) (by omega)), zb_b]
        rfl
  unfold f_X7_fitsAt_J116
  obtain ⟨z, hz⟩ := FU_ge (n := 11) (by decide)
  have h0 := key FU 0 (by omega) (by omega)
  have e : (c && !(fset w 0).testBit y) = c := by
    show (c && !(Nat.testBit 0 y)) = c
    rw [Nat.zero_testBit]
    simp
  rw [e] at h0
  exact h0
theorem fm_fitsAt {W N T K M : Nat → Nat} {n : Nat} {g : Mm} (hR : Rng W N T K) (hU : MU W N T K M n g) {w : Nat → Nat} {p y : Nat} (hp : p < n) (hw : ∀ j, j < p → w j < 10 ∧ g 9 j = nI (w j)) (hy : y < 10) (hg : g 9 p = nI y) : f_X7_fitsAt g (nI p) (nI n) = some (bI (okA W (FI N T) K M n p w y)) := by
  obtain ⟨hT, hn, hM⟩ := hU
  have hMp := hM p hp
  have hKp := hR.k _ hMp.1
  unfold f_X7_fitsAt okA
  unfold f_X7_fitsAt_J113 f_X7_fitsAt_J114 f_X7_fitsAt_J76 f_X7_fitsAt_J77
  rw [ob_b1_s (ob_ld_nI (by omega) (by decide)), hg, ob_b1_s (ob_ld_nI (by omega) (by decide)), hMp.2, ob_b1_s (ob_ld_nI hMp.1 (by decide)), hT.2.2.2 _ hMp.1, ob_b1_s (fm_has (by omega) (by omega))]
  have fall := fm_fallen (g := g) (w := w) (p := p) (y := y) (by omega) hw hy
  by_cases h0 : p = 0
  · rw [if_pos (show nI p ≤ 0 by rw [h0]; decide), if_pos h0]
    by_cases h1 : n ≤ 1
    · rw [if_pos (show nI n ≤ 1 from nI_le (b := 1) h1 (by decide)), fall, decide_eq_true h1, Bool.true_or, Bool.and_true]
    · have hM1 := hM 1 (by omega)
      have hF1 := FI_lt N T (M 1)
      rw [if_neg (show ¬ nI n ≤ 1 from nI_ge (a := 1) (by omega) (by omega)), decide_eq_false h1, Bool.false_or]
      cases hK1 : (K (M p)).testBit y
      · rw [if_pos bf0]
        exact fall false
      · rw [if_neg (bnot rfl), show (1 : Int32) = nI 1 from rfl, ob_b1_s (ob_ld_nI (by decide) (by decide)), hM1.2, ob_b1_s (fm_fitOf hT.2.1 hT.2.2.1 hR.n hM1.1), ob_b1_s (fm_has (by omega) (by omega))]
        cases hF2 : (FI N T (M 1)).testBit y
        · rw [if_pos bf0]
          exact fall false
        · rw [if_neg (bnot rfl)]
          exact fall true
  · have hM1 := hM (p - 1) (by omega)
    have hF1 := FI_lt N T (M (p - 1))
    have hw1 := hw (p - 1) (by omega)
    have hW1 := hR.w _ hw1.1
    rw [if_neg (show ¬ nI p ≤ 0 from nI_ge (a := 0) (by omega) (by omega)), if_neg h0]
    cases hK1 : (K (M p)).testBit y
    · rw [if_pos bf0]
      exact fall false
    · rw [if_neg (bnot rfl), show (1 : Int32) = nI 1 from rfl, pk_sub (by omega), ob_b1_s (ob_ld_nI (by omega) (by decide)), hw1.2, ob_b1_s (ob_ld_nI hw1.1 (by decide)), hT.1 _ hw1.1, ob_b1_s (fm_has (by omega) (by omega))]
      cases hW2 : (W (w (p - 1))).testBit y
      · rw [if_pos bf0]
        exact fall false
      · rw [if_neg (bnot rfl), ob_b1_s (ob_ld_nI (by omega) (by decide)), hM1.2, ob_b1_s (fm_fitOf hT.2.1 hT.2.2.1 hR.n hM1.1), ob_b1_s (fm_has (by omega) (by omega))]
        cases hF2 : (FI N T (M (p - 1))).testBit y
        · rw [if_pos bf0]
          exact fall false
        · rw [if_neg (bnot rfl)]
          exact fall true
/-- whether it can be gone on from place p -/
def elp (W F K M : Nat → Nat) (n p : Nat) (w : Nat → Nat) : Bool := if p = 0 then el0 W F K (seg M 0 n) else el1 W F K (seg M p (n - p)) (M (p - 1)) (w (p - 1)) (fset w p)
theorem elp_iff {W F K M : Nat → Nat} {n p : Nat} {w : Nat → Nat} (hp : p < n) : elp W F K M n p w = true ↔ ∃ y, y < 10 ∧ okA W F K M n p w y = true ∧ elp W F K M n (p + 1) (fun j => if j = p then y else w j) = true := by
  have step : ∀ y, elp W F K M n (p + 1) (fun j => if j = p then y else w j) = el1 W F K (seg M (p + 1) (n - (p + 1))) (M p) y (fset w p ||| 2 ^ y) := by
    intro y
    unfold elp
    rw [if_neg (by omega)]
    have e1 : fset (fun j => if j = p then y else w j) (p + 1) = fset w p ||| 2 ^ y := by
      show fset (fun j => if j = p then y else w j) p ||| 2 ^ (if p = p then y else w p) = _
      rw [if_pos rfl, fset_cong p (fun j hj => if_neg (by omega))]
    rw [e1]
    show el1 W F K (seg M (p + 1) (n - (p + 1))) (M (p + 1 - 1)) (if p + 1 - 1 = p then y else w (p + 1 - 1)) (fset w p ||| 2 ^ y) = _
    rw [show p + 1 - 1 = p by omega, if_pos rfl]
  have hseg : seg M p (n - p) = M p :: seg M (p + 1) (n - (p + 1)) := by
    rw [show n - p = (n - (p + 1)) + 1 by omega]
    rfl
  by_cases h0 : p = 0
  · subst h0
    have hs0 : seg M 0 n = M 0 :: seg M 1 (n - 1) := hseg
    have e0 : elp W F K M n 0 w = el0 W F K (M 0 :: seg M 1 (n - 1)) := by
      unfold elp
      rw [if_pos rfl, hs0]
    rw [e0, el0_iff]
    have hh : ∀ y, hdF F (seg M 1 (n - 1)) y = (decide (n ≤ 1) || (F (M 1)).testBit y) := by
      intro y
      by_cases h1 : n ≤ 1
      · rw [show n - 1 = 0 by omega, decide_eq_true h1, Bool.true_or]
        rfl
      · rw [show n - 1 = (n - 2) + 1 by omega, decide_eq_false h1, Bool.false_or]
        rfl
    constructor
    · rintro ⟨y, a1, a2, a3, a4⟩
      refine ⟨y, a1, ?_, ?_⟩
      · unfold okA
        rw [if_pos rfl, a2, ← hh y, a3]
        show (true && true && !(Nat.testBit 0 y)) = true
        rw [Nat.zero_testBit]
        rfl
      · rw [step y]
        show el1 W F K (seg M 1 (n - 1)) (M 0) y (0 ||| 2 ^ y) = true
        rw [Nat.zero_or]
        exact a4
    · rintro ⟨y, a1, a2, a3⟩
      unfold okA at a2
      rw [if_pos rfl, ← hh y] at a2
      simp only [Bool.and_eq_true] at a2
      rw [step y] at a3
      have a4 : el1 W F K (seg M 1 (n - 1)) (M 0) y (0 ||| 2 ^ y) = true := a3
      rw [Nat.zero_or] at a4
      exact ⟨y, a1, a2.1.1, a2.1.2, a4⟩
  · have e0 : elp W F K M n p w = el1 W F K (seg M p (n - p)) (M (p - 1)) (w (p - 1)) (fset w p) := by
      unfold elp
      rw [if_neg h0]
    rw [e0, hseg, el1_iff]
    constructor
    · rintro ⟨y, a1, a2, a3, a4, a5, a6⟩
      refine ⟨y, a1, ?_, by rw [step y]; exact a6⟩
      unfold okA
      rw [if_neg h0, a2, a3, a4, a5]
      rfl
    · rintro ⟨y, a1, a2, a3⟩
      unfold okA at a2
      rw [if_neg h0] at a2
      simp only [Bool.and_eq_true, Bool.not_eq_true'] at a2
      rw [step y] at a3
      exact ⟨y, a1, a2.1.1, a2.1.2.1, a2.1.2.2, a2.2, a3⟩
theorem elp_end {W F K M : Nat → Nat} {n : Nat} {w : Nat → Nat} : elp W F K M n n w = true := by
  unfold elp
  by_cases h : n = 0
  · rw [if_pos h, h]
    rfl
  · rw [if_neg h, Nat.sub_self]
    rfl
theorem elp_cong {W F K M : Nat → Nat} {n p : Nat} {w v : Nat → Nat} (h : ∀ j, j < p → w j = v j) : elp W F K M n p w = elp W F K M n p v := by
  unfold elp
  by_cases h0 : p = 0
  · rw [if_pos h0, if_pos h0]
  · rw [if_neg h0, if_neg h0, fset_cong p h, h (p - 1) (by omega)]
def Bd : Nat → Nat
  | 0 => 1
  | r + 1 => 11 * (Bd r + 1)
theorem MU.upd {W N T K M : Nat → Nat} {n : Nat} {g g' : Mm} (h : MU W N T K M n g) (hf : ∀ q k, q ≠ 9 → g' q k = g q k) : MU W N T K M n g' :=
  ⟨⟨fun i hi => by rw [hf _ _ (by decide)]; exact h.1.1 i hi, fun i hi => by rw [hf _ _ (by decide)]; exact h.1.2.1 i hi, fun i hi => by rw [hf _ _ (by decide)]; exact h.1.2.2.1 i hi, fun i hi => by rw [hf _ _ (by decide)]; exact h.1.2.2.2 i hi⟩, h.2.1, fun j hj => by rw [hf _ _ (by decide)]; exact h.2.2 j hj⟩
theorem fm_search {W N T K M : Nat → Nat} {n : Nat} (hR : Rng W N T K) (hn0 : 0 < n) : ∀ (r p : Nat) (w : Nat → Nat) (g : Mm) (f : Nat), p + r = n → MU W N T K M n g → (∀ j, j < p → w j < 10 ∧ g 9 j = nI (w j)) → (0 < r → g 9 p = -1) → Bd r ≤ f →
    (elp W (FI N T) K M n p w = true → ∃ g', f_X7_canSay_L9 f_X7_canSay_J72 f g (nI n) (nI p) = some (1, g') ∧ ∀ q k, q ≠ 9 → g' q k = g q k) ∧
    (elp W (FI N T) K M n p w = false → ∃ g' f', f ≤ f' + Bd r ∧ f_X7_canSay_L9 f_X7_canSay_J72 f g (nI n) (nI p) = f_X7_canSay_L9 f_X7_canSay_J72 f' g' (nI n) (nI p + (-1)) ∧ (∀ q k, q ≠ 9 → g' q k = g q k) ∧ ∀ j, j < p → g' 9 j = g 9 j) := by
  intro r
  induction r with
  | zero =>
    intro p w g f h1 h2 h3 h4 h5
    have e : p = n := by omega
    subst e
    refine ⟨fun _ => ?_, fun z => by rw [elp_end] at z; cases z⟩
    obtain ⟨f, rfl⟩ : ∃ f', f = f' + 1 := ⟨f - 1, by unfold Bd at h5; omega⟩
    have hp5 := h2.2.1
    unfold f_X7_canSay_L9 f_X7_canSay_J72
    rw [if_neg (nI_pos (by omega)), if_pos (nI_le (Nat.le_refl _) (by omega)), if_pos rfl]
    exact ⟨g, rfl, fun _ _ _ => rfl⟩
  | succ r ih =>
    intro p w g f h1 h2 h3 h4 h5
    have hp : p < n := by omega
    have hn5 := h2.2.1
    have inner : ∀ (d v : Nat) (g1 : Mm) (f1 : Nat), v + d = 10 → MU W N T K M n g1 → (∀ j, j < p → w j < 10 ∧ g1 9 j = nI (w j)) → g1 9 p = nI v + (-1) → d * (Bd r + 1) + 1 ≤ f1 → (∀ y, y < v → ¬ (okA W (FI N T) K M n p w y = true ∧ elp W (FI N T) K M n (p + 1) (fun j => if j = p then y else w j) = true)) →
        (elp W (FI N T) K M n p w = true → ∃ g', f_X7_canSay_L9 f_X7_canSay_J72 f1 g1 (nI n) (nI p) = some (1, g') ∧ ∀ q k, q ≠ 9 → g' q k = g1 q k) ∧
        (elp W (FI N T) K M n p w = false → ∃ g' f', f1 ≤ f' + (d * (Bd r + 1) + 1) ∧ f_X7_canSay_L9 f_X7_canSay_J72 f1 g1 (nI n) (nI p) = f_X7_canSay_L9 f_X7_canSay_J72 f' g' (nI n) (nI p + (-1)) ∧ (∀ q k, q ≠ 9 → g' q k = g1 q k) ∧ ∀ j, j < p → g' 9 j = g1 9 j) := by
      intro d
      induction d with
      | zero =>
        intro v g1 f1 k1 k2 k3 k4 k5 k6
        have e : v = 10 := by omega
        subst e
        obtain ⟨f1, rfl⟩ : ∃ f', f1 = f' + 1 := ⟨f1 - 1, by omega⟩
        have hL : f_X7_canSay_L9 f_X7_canSay_J72 (f1 + 1) g1 (nI n) (nI p) = f_X7_canSay_L9 f_X7_canSay_J72 f1 (ob_up g1 9 p (nI 10 + (-1) + 1)) (nI n) (nI p + (-1)) := by
          conv => lhs; unfold f_X7_canSay_L9
          rw [if_neg (nI_pos (by omega)), if_neg (nI_ge hp (by omega)), ob_b1_s (ob_ld_nI (by omega) (by decide)), k4, ob_b1_s (ob_st_nI (by omega) (by decide)), ob_b1_s (ob_ld_nI (by omega) (by decide)), ob_up_s, if_neg (show ¬ nI 10 + (-1) + 1 ≤ 9 by decide)]
        rw [hL]
        refine ⟨fun z => ?_, fun _ => ⟨ob_up g1 9 p (nI 10 + (-1) + 1), f1, by omega, rfl, fun q k hq => ob_up_r hq, fun j hj => ob_up_k (by omega)⟩⟩
        obtain ⟨y, y1, y2, y3⟩ := (elp_iff hp).mp z
        exact absurd ⟨y2, y3⟩ (k6 y y1)
      | succ d ihd =>
        intro v g1 f1 k1 k2 k3 k4 k5 k6
        have hv : v < 10 := by omega
        obtain ⟨f1, rfl⟩ : ∃ f', f1 = f' + 1 := ⟨f1 - 1, by omega⟩
        have ev : nI v + (-1) + 1 = nI v := by rw [Int32.add_assoc, show (-1 : Int32) + 1 = 0 from by decide, Int32.add_zero]
        have hk5 : d * (Bd r + 1) + 1 + Bd r ≤ f1 := by
          rw [Nat.succ_mul] at k5
          omega
        have h2' : MU W N T K M n (ob_up g1 9 p (nI v)) := k2.upd (fun q k hq => ob_up_r hq)
        have h3' : ∀ j, j < p → w j < 10 ∧ ob_up g1 9 p (nI v) 9 j = nI (w j) := fun j hj => by rw [ob_up_k (by omega)]; exact k3 j hj
        have h4' : ob_up g1 9 p (nI v) 9 p = nI v := ob_up_s _ _ _ _
        have hfit := fm_fitsAt hR h2' hp h3' hv h4'
        have hL : f_X7_canSay_L9 f_X7_canSay_J72 (f1 + 1) g1 (nI n) (nI p) = (if bI (okA W (FI N T) K M n p w v) = 0 then f_X7_canSay_L9 f_X7_canSay_J72 f1 (ob_up g1 9 p (nI v)) (nI n) (nI p) else if nI n ≤ nI (p + 1) then f_X7_canSay_L9 f_X7_canSay_J72 f1 (ob_up g1 9 p (nI v)) (nI n) (nI (p + 1)) else ob_b1 (ob_st (ob_up g1 9 p (nI v)) 9 5 (nI (p + 1)) (-1)) fun g11 => f_X7_canSay_L9 f_X7_canSay_J72 f1 g11 (nI n) (nI (p + 1))) := by
          conv => lhs; unfold f_X7_canSay_L9
          rw [if_neg (nI_pos (by omega)), if_neg (nI_ge hp (by omega)), ob_b1_s (ob_ld_nI (by omega) (by decide)), k4, ev, ob_b1_s (ob_st_nI (by omega) (by decide)), ob_b1_s (ob_ld_nI (by omega) (by decide)), ob_up_s, if_pos (show nI v ≤ 9 from nI_le (b := 9) (by omega) (by decide)), ob_b1_s hfit, nI_1]
        -- the next word for this place
        have again : ∀ (g2 : Mm) (f2 : Nat), MU W N T K M n g2 → (∀ j, j < p → w j < 10 ∧ g2 9 j = nI (w j)) → g2 9 p = nI v → d * (Bd r + 1) + 1 ≤ f2 → f1 ≤ f2 + Bd r → (∀ q k, q ≠ 9 → g2 q k = g1 q k) → ¬ (okA W (FI N T) K M n p w v = true ∧ elp W (FI N T) K M n (p + 1) (fun j => if j = p then v else w j) = true) →
            f_X7_canSay_L9 f_X7_canSay_J72 (f1 + 1) g1 (nI n) (nI p) = f_X7_canSay_L9 f_X7_canSay_J72 f2 g2 (nI n) (nI p) →
            (elp W (FI N T) K M n p w = true → ∃ g', f_X7_canSay_L9 f_X7_canSay_J72 (f1 + 1) g1 (nI n) (nI p) = some (1, g') ∧ ∀ q k, q ≠ 9 → g' q k = g1 q k) ∧
            (elp W (FI N T) K M n p w = false → ∃ g' f', f1 + 1 ≤ f' + ((d + 1) * (Bd r + 1) + 1) ∧ f_X7_canSay_L9 f_X7_canSay_J72 (f1 + 1) g1 (nI n) (nI p) = f_X7_canSay_L9 f_X7_canSay_J72 f' g' (nI n) (nI p + (-1)) ∧ (∀ q k, q ≠ 9 → g' q k = g1 q k) ∧ ∀ j, j < p → g' 9 j = g1 9 j) := by
          intro g2 f2 m1 m2 m3 m4 m5 m6 m7 m8
          have hx := ihd (v + 1) g2 f2 (by omega) m1 m2 (by rw [m3, nI_down]) m4 (fun y hy => by
            by_cases e : y = v
            · rw [e]; exact m7
            · exact k6 y (by omega))
          rw [m8]
          refine ⟨fun z => ?_, fun z => ?_⟩
          · obtain ⟨g', c1, c2⟩ := hx.1 z
            exact ⟨g', c1, fun q k hq => by rw [c2 q k hq, m6 q k hq]⟩
          · obtain ⟨g', f', c1, c2, c3, c4⟩ := hx.2 z
            refine ⟨g', f', by rw [Nat.succ_mul]; omega, c2, fun q k hq => by rw [c3 q k hq, m6 q k hq], fun j hj => by rw [c4 j hj, (m2 j hj).2, (k3 j hj).2]⟩
        cases hok : okA W (FI N T) K M n p w v
        · refine again (ob_up g1 9 p (nI v)) f1 h2' h3' h4' (by omega) (by omega) (fun q k hq => ob_up_r hq) (fun z => by rw [hok] at z; exact absurd z.1 (by decide)) ?_
          rw [hL, hok, if_pos bf0]
        · -- it stands: the next place
          have deeper : ∀ g2 : Mm, MU W N T K M n g2 → (∀ j, j < p → g2 9 j = g1 9 j) → g2 9 p = nI v → (0 < r → g2 9 (p + 1) = -1) → (∀ q k, q ≠ 9 → g2 q k = g1 q k) → f_X7_canSay_L9 f_X7_canSay_J72 (f1 + 1) g1 (nI n) (nI p) = f_X7_canSay_L9 f_X7_canSay_J72 f1 g2 (nI n) (nI (p + 1)) →
              (elp W (FI N T) K M n p w = true → ∃ g', f_X7_canSay_L9 f_X7_canSay_J72 (f1 + 1) g1 (nI n) (nI p) = some (1, g') ∧ ∀ q k, q ≠ 9 → g' q k = g1 q k) ∧
              (elp W (FI N T) K M n p w = false → ∃ g' f', f1 + 1 ≤ f' + ((d + 1) * (Bd r + 1) + 1) ∧ f_X7_canSay_L9 f_X7_canSay_J72 (f1 + 1) g1 (nI n) (nI p) = f_X7_canSay_L9 f_X7_canSay_J72 f' g' (nI n) (nI p + (-1)) ∧ (∀ q k, q ≠ 9 → g' q k = g1 q k) ∧ ∀ j, j < p → g' 9 j = g1 9 j) := by
            intro g2 m1 m2 m3 m4 m5 m6
            have hx := ih (p + 1) (fun j => if j = p then v else w j) g2 f1 (by omega) m1 (fun j hj => by
              show (if j = p then v else w j) < 10 ∧ g2 9 j = nI (if j = p then v else w j)
              by_cases e : j = p
              · rw [if_pos e, e]; exact ⟨hv, m3⟩
              · rw [if_neg e, m2 j (by omega)]; exact k3 j (by omega)) m4 (by omega)
            cases he : elp W (FI N T) K M n (p + 1) (fun j => if j = p then v else w j)
            · obtain ⟨g', f', c1, c2, c3, c4⟩ := hx.2 he
              refine again g' f' (m1.upd c3) (fun j hj => ⟨(k3 j hj).1, by rw [c4 j (by omega), m2 j hj]; exact (k3 j hj).2⟩) (by rw [c4 p (by omega)]; exact m3) (by omega) (by omega) (fun q k hq => by rw [c3 q k hq, m5 q k hq]) (fun z => by rw [he] at z; exact absurd z.2 (by decide)) ?_
              rw [m6, c2, nI_down]
            · obtain ⟨g', c1, c2⟩ := hx.1 he
              refine ⟨fun _ => ⟨g', by rw [m6]; exact c1, fun q k hq => by rw [c2 q k hq, m5 q k hq]⟩, fun z => ?_⟩
              have := (elp_iff hp).mpr ⟨v, hv, hok, he⟩
              rw [z] at this
              cases this
          by_cases hlast : n ≤ p + 1
          · refine deeper (ob_up g1 9 p (nI v)) h2' (fun j hj => ob_up_k (by omega)) h4' (fun z => by omega) (fun q k hq => ob_up_r hq) ?_
            rw [hL, hok, if_neg (bnot rfl), if_pos (nI_le hlast (by omega))]
          · have hp5 : p + 1 < 5 := by omega
            refine deeper (ob_up (ob_up g1 9 p (nI v)) 9 (p + 1) (-1)) (h2'.upd (fun q k hq => ob_up_r hq)) (fun j hj => by rw [ob_up_k (by omega), ob_up_k (by omega)]) (by rw [ob_up_k (by omega)]; exact h4') (fun _ => ob_up_s _ _ _ _) (fun q k hq => by rw [ob_up_r hq, ob_up_r hq]) ?_
            rw [hL, hok, if_neg (bnot rfl), if_neg (nI_ge (by omega) (by omega)), ob_b1_s (ob_st_nI hp5 (by decide))]
    have hB : Bd (r + 1) = 11 * (Bd r + 1) := rfl
    have hx := inner 10 0 g f (by omega) h2 h3 (by rw [h4 (by omega)]; decide) (by omega) (fun y hy => by omega)
    refine ⟨hx.1, fun z => ?_⟩
    obtain ⟨g', f', c1, c2⟩ := hx.2 z
    exact ⟨g', f', by omega, c2⟩
