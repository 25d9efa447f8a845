/-! The order that brings the fewest steps back. -/
theorem nI_down (j : Nat) : nI (j + 1) + (-1) = nI j := by
  rw [← nI_1, Int32.add_assoc, show (1 : Int32) + (-1) = 0 from by decide, Int32.add_zero]
theorem mn_s (f : Nat → Nat) (n : Nat) : mn f (n + 1) = if f n < mn f n then f n else mn f n := rfl
theorem amn_s (f : Nat → Nat) (n : Nat) : amn f (n + 1) = if f n < mn f n then n else amn f n := rfl
theorem mn_top (f : Nat → Nat) : ∀ n, mn f n ≤ 1000
  | 0 => Nat.le_refl _
  | n + 1 => by
    have := mn_top f n
    rw [mn_s]
    split <;> omega
theorem mn_le (f : Nat → Nat) : ∀ n i, i < n → mn f n ≤ f i
  | 0, i, h => by omega
  | n + 1, i, h => by
    rw [mn_s]
    by_cases e : i = n
    · subst e
      split <;> omega
    · have := mn_le f n i (by omega)
      split <;> omega
theorem mn_at (f : Nat → Nat) : ∀ n, mn f n < 1000 → amn f n < n ∧ f (amn f n) = mn f n ∧ ∀ j, j < amn f n → mn f n < f j
  | 0, h => absurd h (by show ¬ (1000 < 1000); omega)
  | n + 1, h => by
    rw [mn_s] at h ⊢
    rw [amn_s]
    by_cases c : f n < mn f n
    · rw [if_pos c] at h ⊢
      rw [if_pos c]
      refine ⟨by omega, rfl, fun j hj => ?_⟩
      have := mn_le f n j hj
      omega
    · rw [if_neg c] at h ⊢
      rw [if_neg c]
      obtain ⟨h1, h2, h3⟩ := mn_at f n h
      exact ⟨by omega, h2, h3⟩
theorem mn_cong {f g : Nat → Nat} : ∀ n, (∀ i, i < n → f i = g i) → mn f n = mn g n
  | 0, _ => rfl
  | n + 1, h => by
    rw [mn_s, mn_s, mn_cong n (fun i hi => h i (by omega)), h n (by omega)]
theorem full_or {s : Nat} (hs : s < 1024) : s = 1023 ∨ ∃ x, x < 10 ∧ s.testBit x = false := by
  by_cases c : ∃ x, x < 10 ∧ s.testBit x = false
  · exact Or.inr c
  · left
    apply bit_ext10 hs (by decide)
    intro i hi
    rw [b1023 i]
    cases hb : s.testBit i
    · exact absurd ⟨i, hi, hb⟩ c
    · simp [hi]
theorem card_lt {s x : Nat} (hx : x < 10) (h : s.testBit x = false) : card s < 10 := by
  have h1 := card_le s
  rcases Nat.lt_or_ge (card s) 10 with h2 | h2
  · exact h2
  · rw [pcs_full 10 h2 x hx] at h; cases h
theorem card_1023 : card 1023 = 10 := by decide
theorem ne_1023 {s x : Nat} (hx : x < 10) (h : s.testBit x = false) : s ≠ 1023 := by
  intro e
  have := card_lt hx h
  rw [e, card_1023] at this
  omega
theorem lt_or {s x : Nat} (h : s.testBit x = false) : s < s ||| 2 ^ x := by
  have h1 : s ≤ s ||| 2 ^ x := Nat.left_le_or
  have h2 : s ≠ s ||| 2 ^ x := by
    intro e
    have h3 : (s ||| 2 ^ x).testBit x = true := by rw [Nat.testBit_or, Nat.testBit_two_pow_self, Bool.or_true]
    rw [← e, h] at h3
    cases h3
  omega
theorem or_lt2 {s x : Nat} (hs : s < 1024) (hx : x < 10) : s ||| 2 ^ x < 1024 := or_lt hs (pow_lt x hx)
theorem bk_full (A : Nat → Nat) : bk A 1023 = 0 := by
  unfold bk
  rw [card_1023]
  rfl
theorem bkn_s (A : Nat → Nat) (n s : Nat) : bkn A (n + 1) s = mn (fun x => if s.testBit x then 1000 else card (A x &&& s) + bkn A n (s ||| 2 ^ x)) 10 := rfl
theorem bk_eq (A : Nat → Nat) {s x : Nat} (hx : x < 10) (h : s.testBit x = false) : bk A s = mn (cst A s) 10 := by
  have h1 := card_lt hx h
  have e : bk A s = bkn A (10 - card s) s := rfl
  rw [e, show 10 - card s = (9 - card s) + 1 by omega, bkn_s]
  apply mn_cong
  intro i hi
  unfold cst
  show (if s.testBit i = true then 1000 else card (A i &&& s) + bkn A (9 - card s) (s ||| 2 ^ i)) = _
  cases hb : s.testBit i
  · have e2 : bk A (s ||| 2 ^ i) = bkn A (10 - card (s ||| 2 ^ i)) (s ||| 2 ^ i) := rfl
    rw [e2, card_or hi hb, show 10 - (card s + 1) = 9 - card s by omega]
  · rfl
theorem cst_out {A : Nat → Nat} {s x : Nat} (h : s.testBit x = false) : cst A s x = card (A x &&& s) + bk A (s ||| 2 ^ x) := by
  unfold cst
  rw [h, if_neg (by decide)]
theorem cst_in {A : Nat → Nat} {s x : Nat} (h : s.testBit x = true) : cst A s x = 1000 := by
  unfold cst
  rw [h, if_pos rfl]
theorem bk_bound (A : Nat → Nat) : ∀ (n s : Nat), s < 1024 → 10 - card s = n → bk A s ≤ 10 * n
  | 0, s, hs, h => by
    rcases full_or hs with e | ⟨x, hx, hb⟩
    · rw [e, bk_full]; omega
    · have := card_lt hx hb; omega
  | n + 1, s, hs, h => by
    rcases full_or hs with e | ⟨x, hx, hb⟩
    · rw [e, card_1023] at h; omega
    · rw [bk_eq A hx hb]
      have h1 := mn_le (cst A s) 10 x hx
      rw [cst_out hb] at h1
      have h2 := bk_bound A n (s ||| 2 ^ x) (or_lt2 hs hx) (by rw [card_or hx hb]; omega)
      have h3 := card_le (A x &&& s)
      omega
theorem bk_100 (A : Nat → Nat) {s : Nat} (hs : s < 1024) : bk A s ≤ 100 := by
  have := bk_bound A _ s hs rfl
  omega
theorem nx_ok (A : Nat → Nat) {s x : Nat} (hs : s < 1024) (hx : x < 10) (h : s.testBit x = false) : nx A s < 10 ∧ s.testBit (nx A s) = false ∧ cst A s (nx A s) = bk A s ∧ ∀ j, j < nx A s → s.testBit j = false → cst A s j ≠ bk A s := by
  have h1 := bk_100 A hs
  rw [bk_eq A hx h] at h1 ⊢
  obtain ⟨h2, h3, h4⟩ := mn_at (cst A s) 10 (by omega)
  have e : nx A s = amn (cst A s) 10 := rfl
  rw [e]
  refine ⟨h2, ?_, h3, fun j hj _ => by have := h4 j hj; omega⟩
  cases hb : s.testBit (amn (cst A s) 10)
  · rfl
  · have h5 : cst A s (amn (cst A s) 10) = 1000 := cst_in hb
    omega
theorem pl_s (A : Nat → Nat) (p : Nat) : pl A (p + 1) = pl A p ||| 2 ^ nx A (pl A p) := rfl
theorem pl_ok (A : Nat → Nat) : ∀ p, p ≤ 10 → pl A p < 1024 ∧ card (pl A p) = p
  | 0, _ => ⟨by show 0 < 1024; decide, by show card 0 = 0; decide⟩
  | p + 1, h => by
    obtain ⟨h1, h2⟩ := pl_ok A p (by omega)
    rcases full_or h1 with e | ⟨x, hx, hb⟩
    · rw [e, card_1023] at h2; omega
    · obtain ⟨h3, h4, -⟩ := nx_ok A h1 hx hb
      rw [pl_s]
      exact ⟨or_lt2 h1 h3, by rw [card_or h3 h4, h2]⟩
theorem pl_free (A : Nat → Nat) {p : Nat} (hp : p < 10) : ∃ x, x < 10 ∧ (pl A p).testBit x = false := by
  obtain ⟨h1, h2⟩ := pl_ok A p (by omega)
  rcases full_or h1 with e | h
  · rw [e, card_1023] at h2; omega
  · exact h
theorem pl_nx (A : Nat → Nat) {p : Nat} (hp : p < 10) : nx A (pl A p) < 10 ∧ (pl A p).testBit (nx A (pl A p)) = false := by
  obtain ⟨x, hx, hb⟩ := pl_free A hp
  have h := nx_ok A (pl_ok A p (by omega)).1 hx hb
  exact ⟨h.1, h.2.1⟩
theorem pl_bit (A : Nat → Nat) (p x : Nat) : (pl A (p + 1)).testBit x = ((pl A p).testBit x || decide (nx A (pl A p) = x)) := by
  rw [pl_s, Nat.testBit_or, Nat.testBit_two_pow]
theorem pl_all (A : Nat → Nat) {x : Nat} (hx : x < 10) : (pl A 10).testBit x = true := pcs_full 10 (by have := (pl_ok A 10 (by omega)).2; unfold card at this; omega) x hx
theorem rkn_s (A : Nat → Nat) (p x : Nat) : rkn A (p + 1) x = if nx A (pl A p) = x then p else rkn A p x := rfl
theorem rkn_ok (A : Nat → Nat) : ∀ p x, (pl A p).testBit x = true → rkn A p x < p ∧ nx A (pl A (rkn A p x)) = x
  | 0, x, h => by
    have : (0 : Nat).testBit x = true := h
    rw [Nat.zero_testBit] at this
    cases this
  | p + 1, x, h => by
    rw [rkn_s]
    by_cases e : nx A (pl A p) = x
    · rw [if_pos e]
      exact ⟨by omega, e⟩
    · rw [if_neg e]
      rw [pl_bit] at h
      simp only [e, decide_false, Bool.or_false] at h
      obtain ⟨h1, h2⟩ := rkn_ok A p x h
      exact ⟨by omega, h2⟩
theorem rk_lt (A : Nat → Nat) {x : Nat} (hx : x < 10) : rk A x < 10 := (rkn_ok A 10 x (pl_all A hx)).1
theorem rk_inj (A : Nat → Nat) {x y : Nat} (hx : x < 10) (hy : y < 10) (h : rk A x = rk A y) : x = y := by
  have h1 := (rkn_ok A 10 x (pl_all A hx)).2
  have h2 := (rkn_ok A 10 y (pl_all A hy)).2
  have h3 : rkn A 10 x = rkn A 10 y := h
  rw [h3, h2] at h1
  exact h1.symm
/-! The class arranges. -/
theorem fx_backWith {g : Mm} {A : Nat → Nat} {s x : Nat} (hT : TW g 3 10 A) (hA : ∀ i, i < 10 → A i < 1024) (hs : s < 1024) (hx : x < 10) (hb : s.testBit x = false) (hB : ∀ t, s < t → t < 1024 → g 26 t = nI (bk A t)) : f_X2_backWith g (nI s) (nI x) = some (nI (cst A s x)) := by
  unfold f_X2_backWith
  have h1 := or_lt2 hs hx
  rw [ob_b1_s (fx_worse hx), show g (2 + 1) x = nI (A x) from hT x hx, pb_and, ob_b1_s (bitCount_ok (and_lt (hA x hx))), pb_sh1 x (by omega), pb_or, ob_b1_s (fx_at h1 (by decide)), hB _ (lt_or hb) h1, nI_add, cst_out hb]
theorem fx_nextAfter {g : Mm} {A : Nat → Nat} {s : Nat} (hT : TW g 3 10 A) (hA : ∀ i, i < 10 → A i < 1024) (hs : s < 1024) (hB : ∀ t, s < t → t < 1024 → g 26 t = nI (bk A t)) : f_X2_nextAfter g (nI s) = some (nI (nx A s)) := by
  have key : ∀ (m i : Nat), i ≤ 10 → 10 < i + m → f_X2_nextAfter_L9 g m (nI s) (nI (mn (cst A s) i)) (nI (amn (cst A s) i)) (nI i) = some (nI (nx A s)) := by
    intro m
    induction m with
    | zero => intro i h1 h2; omega
    | succ m ih =>
      intro i h1 h2
      unfold f_X2_nextAfter_L9
      rcases Nat.lt_or_ge i 10 with q | q
      · rw [if_neg (show ¬ (10 : Int32) ≤ nI i from nI_ge q (by decide)), ob_b1_s (fx_has (by omega) (by omega))]
        unfold f_X2_nextAfter_J49
        have e2 := ih (i + 1) (by omega) (by omega)
        have hm := mn_top (cst A s) i
        rw [mn_s, amn_s] at e2
        cases hb : s.testBit i
        · have hc : cst A s i ≤ 110 := by
            rw [cst_out hb]
            have := card_le (A i &&& s)
            have := bk_100 A (or_lt2 hs q)
            omega
          rw [if_pos bf0, ob_b1_s (fx_backWith hT hA hs q hb hB)]
          by_cases c : cst A s i < mn (cst A s) i
          · rw [if_pos c, if_pos c] at e2
            rw [if_neg (nI_ge c (by omega)), nI_1]
            exact e2
          · rw [if_neg c, if_neg c] at e2
            rw [if_pos (nI_le (by omega) (by omega)), nI_1]
            exact e2
        · have hc : cst A s i = 1000 := by unfold cst; rw [hb, if_pos rfl]
          have c : ¬ cst A s i < mn (cst A s) i := by omega
          rw [if_neg c, if_neg c] at e2
          rw [if_neg (bnot rfl), nI_1]
          exact e2
      · have e : i = 10 := by omega
        subst e
        rw [if_pos (show (10 : Int32) ≤ nI 10 by decide)]
        rfl
  unfold f_X2_nextAfter
  obtain ⟨z, hz⟩ := FU_ge (n := 11) (by decide)
  exact key FU 0 (by omega) (by omega)
theorem fx_back {A : Nat → Nat} (hA : ∀ i, i < 10 → A i < 1024) (k62 : Mm → Int32 → Int32 → Option Mm) : ∀ (m j : Nat) (g : Mm), j < 1024 → j < m → TW g 3 10 A → (∀ t, j ≤ t → t < 1024 → g 26 t = nI (bk A t)) → ∃ g', f_X2_arrange_L30 k62 m g (nI j + (-1)) = k62 g' 0 0 ∧ TW g' 26 1024 (bk A) ∧ ∀ q k, q ≠ 26 → g' q k = g q k := by
  intro m
  induction m with
  | zero => intro j g h1 h2; omega
  | succ m ih =>
    intro j g h1 h2 hT hB
    unfold f_X2_arrange_L30
    cases j with
    | zero =>
      rw [if_pos (show nI 0 + (-1) < 0 by decide)]
      exact ⟨g, rfl, fun t ht => hB t (Nat.zero_le _) ht, fun _ _ _ => rfl⟩
    | succ j =>
      have hj : j < 1024 := by omega
      have hne : j ≠ 1023 := by omega
      rcases full_or hj with e | ⟨x, hx, hb⟩
      · exact absurd e hne
      obtain ⟨n1, n2, n3, -⟩ := nx_ok A hj hx hb
      have hB' : ∀ t, j < t → t < 1024 → g 26 t = nI (bk A t) := fun t h3 h4 => hB t h3 h4
      rw [nI_down, if_neg (nI_pos (by omega)), ob_b1_s (fx_nextAfter hT hA hj hB'), ob_b1_s (fx_backWith hT hA hj n1 n2 hB'), n3, ob_b1_s (fx_store hj (by decide))]
      obtain ⟨g', a1, a2, a3⟩ := ih j (ob_up g 26 j (nI (bk A j))) hj (by omega) (hT.ne (by decide)) (fun t h3 h4 => by
        by_cases e : t = j
        · subst e; exact ob_up_s _ _ _ _
        · rw [ob_up_k e]; exact hB t (by omega) h4)
      exact ⟨g', a1, a2, fun q k hq => by rw [a3 q k hq, ob_up_r hq]⟩
theorem fx_ranks {A : Nat → Nat} (hA : ∀ i, i < 10 → A i < 1024) (k97 : Mm → Int32 → Option Mm) : ∀ (m p : Nat) (g : Mm), p ≤ 10 → 10 < p + m → TW g 3 10 A → TW g 26 1024 (bk A) → (∀ x, x < 10 → (pl A p).testBit x = true → g 27 x = nI (rkn A p x)) → ∃ g', f_X2_arrange_L62 k97 m g (nI (pl A p)) (nI p) = k97 g' 0 ∧ TW g' 27 10 (rk A) ∧ ∀ q k, q ≠ 27 → g' q k = g q k := by
  intro m
  induction m with
  | zero => intro p g h1 h2; omega
  | succ m ih =>
    intro p g h1 h2 hT hB hK
    unfold f_X2_arrange_L62
    rcases Nat.lt_or_ge p 10 with q | q
    · have hp := pl_ok A p h1
      obtain ⟨n1, n2⟩ := pl_nx A q
      rw [if_neg (show ¬ (10 : Int32) ≤ nI p from nI_ge q (by decide)), ob_b1_s (fx_nextAfter hT hA hp.1 (fun t _ h4 => hB t h4)), ob_b1_s (fx_store n1 (by decide)), pb_sh1 _ (by omega), pb_or, nI_1, ← pl_s]
      obtain ⟨g', a1, a2, a3⟩ := ih (p + 1) (ob_up g 27 (nx A (pl A p)) (nI p)) (by omega) (by omega) (hT.ne (by decide)) (hB.ne (by decide)) (fun x hx hbx => by
        rw [rkn_s]
        by_cases e : nx A (pl A p) = x
        · rw [if_pos e, ← e]; exact ob_up_s _ _ _ _
        · rw [if_neg e, ob_up_k (fun z => e z.symm)]
          rw [pl_bit] at hbx
          simp only [e, decide_false, Bool.or_false] at hbx
          exact hK x hx hbx)
      exact ⟨g', a1, a2, fun q k hq => by rw [a3 q k hq, ob_up_r hq]⟩
    · have e : p = 10 := by omega
      subst e
      rw [if_pos (show (10 : Int32) ≤ nI 10 by decide)]
      exact ⟨g, rfl, fun x hx => hK x hx (pl_all A hx), fun _ _ _ => rfl⟩
theorem fx_copyBook {A : Nat → Nat} : ∀ (m i : Nat) (g : Mm), i ≤ 10 → 10 < i + m → TW g 3 10 A → TW g 28 i A → ∃ g', f_X2_arrange_L97 m g (nI i) = some g' ∧ TW g' 28 10 A ∧ g' 24 5 = 1 ∧ ∀ q k, q ≠ 28 → ¬ (q = 24) → g' q k = g q k := by
  intro m
  induction m with
  | zero => intro i g h1 h2; omega
  | succ m ih =>
    intro i g h1 h2 hT hK
    unfold f_X2_arrange_L97
    rcases Nat.lt_or_ge i 10 with q | q
    · rw [if_neg (show ¬ (10 : Int32) ≤ nI i from nI_ge q (by decide)), ob_b1_s (fx_worse q), show g (2 + 1) i = nI (A i) from hT i q, ob_b1_s (fx_store q (by decide)), nI_1]
      obtain ⟨g', a1, a2, a3, a4⟩ := ih (i + 1) (ob_up g 28 i (nI (A i))) (by omega) (by omega) (hT.ne (by decide)) (fun j hj => by
        by_cases e : j = i
        · subst e; exact ob_up_s _ _ _ _
        · rw [ob_up_k e]; exact hK j (by omega))
      exact ⟨g', a1, a2, a3, fun q k hq h24 => by rw [a4 q k hq h24, ob_up_r hq]⟩
    · have e : i = 10 := by omega
      subst e
      rw [if_pos (show (10 : Int32) ≤ nI 10 by decide)]
      exact ⟨_, rfl, hK.ne (by decide), ob_up_s _ _ _ _, fun q k _ h24 => ob_up_r h24⟩
def ARR (g : Mm) (A : Nat → Nat) : Prop := g 24 5 = 1 ∧ TW g 3 10 A ∧ TW g 28 10 A ∧ TW g 26 1024 (bk A) ∧ TW g 27 10 (rk A)
theorem fx_arrangeNew {g : Mm} {A : Nat → Nat} (hT : TW g 3 10 A) (hA : ∀ i, i < 10 → A i < 1024) : ∃ g', f_X2_arrange_J15 g = some g' ∧ ARR g' A := by
  obtain ⟨z, hz⟩ := FU_ge (n := 1100) (by decide)
  unfold f_X2_arrange_J15
  rw [show (1023 : Int32) = nI 1023 from rfl, ob_b1_s (fx_store (by decide) (by decide)), show (1022 : Int32) = nI 1023 + (-1) from by decide]
  obtain ⟨g1, a1, a2, a3⟩ := fx_back hA (f_X2_arrange_L62 (f_X2_arrange_L97 FU) FU) FU 1023 (ob_up g 26 1023 0) (by omega) (by omega) (hT.ne (by decide)) (fun t h1 h2 => by
    have e : t = 1023 := by omega
    subst e
    rw [ob_up_s, bk_full]
    rfl)
  have hT1 : TW g1 3 10 A := fun i hi => by rw [a3 3 i (by decide), ob_up_r (by decide)]; exact hT i hi
  obtain ⟨g2, b1, b2, b3⟩ := fx_ranks hA (f_X2_arrange_L97 FU) FU 0 g1 (by omega) (by omega) hT1 a2 (fun x hx hb => by
    have : (0 : Nat).testBit x = true := hb
    rw [Nat.zero_testBit] at this
    cases this)
  have hT2 : TW g2 3 10 A := fun i hi => by rw [b3 3 i (by decide)]; exact hT1 i hi
  obtain ⟨g3, c1, c2, c3, c4⟩ := fx_copyBook (A := A) FU 0 g2 (by omega) (by omega) hT2 (fun j hj => by omega)
  refine ⟨g3, ?_, c3, fun i hi => by rw [c4 3 i (by decide) (by decide)]; exact hT2 i hi, c2, fun i hi => ?_, fun i hi => by rw [c4 27 i (by decide) (by decide)]; exact b2 i hi⟩
  · exact a1.trans (b1.trans c1)
  · rw [c4 26 i (by decide) (by decide), b3 26 i (by decide)]
    exact a2 i hi
theorem fx_sameBook {g : Mm} {W A : Nat → Nat} (hT : TW g 3 10 W) (hW : ∀ i, i < 10 → W i < 1024) (hK : TW g 28 10 A) (hA : ∀ i, i < 10 → A i < 1024) : (f_X2_isSameBook g = some 1 ∧ ∀ i, i < 10 → A i = W i) ∨ f_X2_isSameBook g = some 0 := by
  have key : ∀ (m i : Nat), i ≤ 10 → 10 < i + m → (∀ j, j < i → A j = W j) → (f_X2_isSameBook_L2 g m (nI i) = some 1 ∧ ∀ i, i < 10 → A i = W i) ∨ f_X2_isSameBook_L2 g m (nI i) = some 0 := by
    intro m
    induction m with
    | zero => intro i h1 h2; omega
    | succ m ih =>
      intro i h1 h2 h3
      unfold f_X2_isSameBook_L2
      rcases Nat.lt_or_ge i 10 with q | q
      · have h4 := hA i q
        have h5 := hW i q
        rw [if_neg (show ¬ (10 : Int32) ≤ nI i from nI_ge q (by decide)), ob_b1_s (fx_at q (by decide)), hK i q, ob_b1_s (fx_worse q), show g (2 + 1) i = nI (W i) from hT i q]
        by_cases e : A i = W i
        · rw [if_pos (by rw [e]), nI_1]
          exact ih (i + 1) (by omega) (by omega) (fun j hj => by
            by_cases e2 : j = i
            · rw [e2]; exact e
            · exact h3 j (by omega))
        · rw [if_neg (fun z => e ((nI_eq (by omega) (by omega)).mp z))]
          exact Or.inr rfl
      · have e : i = 10 := by omega
        subst e
        rw [if_pos (show (10 : Int32) ≤ nI 10 by decide)]
        exact Or.inl ⟨rfl, h3⟩
  obtain ⟨z, hz⟩ := FU_ge (n := 11) (by decide)
  exact key FU 0 (by omega) (by omega) (fun j hj => by omega)
theorem fx_arrange {g : Mm} {W : Nat → Nat} (hT : TW g 3 10 W) (hW : ∀ i, i < 10 → W i < 1024) (hO : RO g) : ∃ g' A, f_X2_arrange g = some g' ∧ ARR g' A ∧ ∀ i, i < 10 → A i = W i := by
  obtain ⟨g1, n1, n2⟩ := fx_arrangeNew hT hW
  unfold f_X2_arrange
  rcases hO with h0 | ⟨h1, A, h2, h3, h4, h5⟩
  · rw [if_pos h0]
    exact ⟨g1, W, n1, n2, fun _ _ => rfl⟩
  · rw [if_neg (show ¬ g 24 5 = 0 by rw [h1]; decide)]
    rcases fx_sameBook hT hW h3 h2 with ⟨e, h6⟩ | e
    · rw [ob_b1_s e, if_neg (by decide)]
      exact ⟨g, A, rfl, ⟨h1, fun i hi => by rw [hT i hi, h6 i hi], h3, h4, h5⟩, h6⟩
    · rw [ob_b1_s e, if_pos rfl]
      exact ⟨g1, W, n1, n2, fun _ _ => rfl⟩
