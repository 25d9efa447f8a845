/-! The ladder. -/
def skP (A : Nat → Nat) (q : Nat) : Bool := (A (q / 10)).testBit (q % 10) && decide (rk A (q % 10) ≤ rk A (q / 10))
/-- from pair 100 - j on, with so many struck before -/
def sk (A : Nat → Nat) (x : Int32) : Nat → Nat → Int32
  | 0, _ => -6
  | j + 1, c => if skP A (99 - j) then (if nI c = x then nI (99 - j) else sk A x j (c + 1)) else sk A x j c
theorem sk_s (A : Nat → Nat) (x : Int32) (q c : Nat) (hq : q < 100) : sk A x (100 - q) c = if skP A q then (if nI c = x then nI q else sk A x (100 - (q + 1)) (c + 1)) else sk A x (100 - (q + 1)) c := by
  have e : 100 - q = (100 - (q + 1)) + 1 := by omega
  rw [e]
  show (if skP A (99 - (100 - (q + 1))) then (if nI c = x then nI (99 - (100 - (q + 1))) else sk A x (100 - (q + 1)) (c + 1)) else sk A x (100 - (q + 1)) c) = _
  rw [show 99 - (100 - (q + 1)) = q by omega]
theorem fx_struck {g : Mm} {A : Nat → Nat} (hG : ARR g A) (hA : ∀ i, i < 10 → A i < 1024) (x : Int32) : f_X2_struck g x = some (sk A x 100 0) := by
  obtain ⟨-, hT, -, -, hK⟩ := hG
  have inner : ∀ (k4 : Int32 → Int32 → Int32 → Option Int32) (f : Nat), f < 10 → (∀ c, c ≤ 10 * (f + 1) → k4 x (nI c) (nI (f + 1)) = some (sk A x (100 - 10 * (f + 1)) c)) → ∀ (m t c : Nat), t ≤ 10 → 10 < t + m → c ≤ 10 * f + t → f_X2_struck_L13 g k4 m x (nI c) (nI f) (nI t) = some (sk A x (100 - (10 * f + t)) c) := by
    intro k4 f hf hk m
    induction m with
    | zero => intro t c h1 h2; omega
    | succ m ih =>
      intro t c h1 h2 hc
      unfold f_X2_struck_L13
      rcases Nat.lt_or_ge t 10 with q | q
      · have hAf := hA f hf
        have r1 := rk_lt A hf
        have r2 := rk_lt A q
        rw [sk_s A x _ c (by omega), if_neg (show ¬ (10 : Int32) ≤ nI t from nI_ge q (by decide)), ob_b1_s (fx_worse hf), show g (2 + 1) f = nI (A f) from hT f hf, ob_b1_s (fx_has (by omega) (by omega))]
        have e1 : (10 * f + t) / 10 = f := by omega
        have e2 : (10 * f + t) % 10 = t := by omega
        unfold skP f_X2_struck_J75
        rw [e1, e2]
        have n0 := ih (t + 1) c (by omega) (by omega) (by omega)
        have n1 := ih (t + 1) (c + 1) (by omega) (by omega) (by omega)
        rw [show 10 * f + (t + 1) = 10 * f + t + 1 by omega] at n0 n1
        cases hb : (A f).testBit t
        · rw [if_pos bf0, nI_1, Bool.false_and, if_neg (by decide)]
          exact n0
        · rw [if_neg (bnot rfl), ob_b1_s (fx_at hf (by decide)), hK f hf, ob_b1_s (fx_at q (by decide)), hK t q, Bool.true_and]
          by_cases c1 : rk A t ≤ rk A f
          · rw [if_pos (nI_le c1 (by omega)), if_pos (decide_eq_true c1)]
            by_cases c2 : nI c = x
            · rw [if_pos c2, if_pos c2, show (10 : Int32) = nI 10 from rfl, pk_mul, nI_add]
            · rw [if_neg c2, if_neg c2, nI_1, nI_1]
              exact n1
          · rw [if_neg (nI_ge (by omega) (by omega)), if_neg (by simp [c1]), nI_1]
            exact n0
      · have e : t = 10 := by omega
        subst e
        rw [if_pos (show (10 : Int32) ≤ nI 10 by decide), nI_1, hk c (by omega), show 10 * (f + 1) = 10 * f + 10 by omega]
  obtain ⟨z, hz⟩ := FU_ge (n := 11) (by decide)
  have outer : ∀ (m f c : Nat), f ≤ 10 → 10 < f + m → c ≤ 100 → c ≤ 10 * f → f_X2_struck_L4 g m x (nI c) (nI f) = some (sk A x (100 - 10 * f) c) := by
    intro m
    induction m with
    | zero => intro f c h1 h2; omega
    | succ m ih =>
      intro f c h1 h2 hc hcf
      unfold f_X2_struck_L4
      rcases Nat.lt_or_ge f 10 with q | q
      · rw [if_neg (show ¬ (10 : Int32) ≤ nI f from nI_ge q (by decide))]
        have hk : ∀ c', c' ≤ 10 * (f + 1) → f_X2_struck_L4 g m x (nI c') (nI (f + 1)) = some (sk A x (100 - 10 * (f + 1)) c') := fun c' h => ih (f + 1) c' (by omega) (by omega) (by omega) h
        exact inner _ f q hk FU 0 c (by omega) (by omega) (by omega)
      · have e : f = 10 := by omega
        subst e
        rw [if_pos (show (10 : Int32) ≤ nI 10 by decide)]
        rfl
  unfold f_X2_struck
  exact outer FU 0 0 (by omega) (by omega) (by omega) (by omega)
/-! The reference's order. -/
theorem fm_backIn {A : Nat → Nat} (hA : ∀ i, i < 10 → A i < 1024) (k13 : Mm → Int32 → Int32 → Option (Int32 × Mm)) (x1 : Int32) {s : Nat} (hs : s < 1024) : ∀ (m i : Nat) (g : Mm), i ≤ 10 → 10 < i + m → TW g 2 10 A → (∀ t, s < t → t < 1024 → g 12 t = nI (bk A t)) → g 12 s = nI (mn (cst A s) i) → ∃ g', f_X7_ladder_L28 k13 m g x1 (nI s) (nI i) = k13 g' x1 (nI s + (-1)) ∧ g' 12 s = nI (mn (cst A s) 10) ∧ ∀ q k, ¬ (q = 12 ∧ k = s) → g' q k = g q k := by
  intro m
  induction m with
  | zero => intro i g h1 h2; omega
  | succ m ih =>
    intro i g h1 h2 hT hB hv
    unfold f_X7_ladder_L28
    rcases Nat.lt_or_ge i 10 with q | q
    · rw [if_neg (show ¬ (10 : Int32) ≤ nI i from nI_ge q (by decide)), ob_b1_s (fm_has (by omega) (by omega))]
      unfold f_X7_ladder_J93 f_X7_ladder_J94
      have hm := mn_top (cst A s) i
      have ms := mn_s (cst A s) i
      cases hb : s.testBit i
      · have h3 := or_lt2 hs q
        have hc : cst A s i ≤ 110 := by
          rw [cst_out hb]
          have := card_le (A i &&& s)
          have := bk_100 A h3
          omega
        rw [if_pos bf0, ob_b1_s (ob_ld_nI q (by decide)), hT i q, pb_and, ob_b1_s (fm_bits (and_lt (hA i q))), pb_sh1 i (by omega), pb_or, ob_b1_s (ob_ld_nI h3 (by decide)), hB _ (lt_or hb) h3, ob_b1_s (ob_ld_nI hs (by decide)), hv, nI_add, ← cst_out hb]
        have hT' : ∀ v, TW (ob_up g 12 s v) 2 10 A := fun v => hT.ne (by decide)
        have hB' : ∀ v t, s < t → t < 1024 → ob_up g 12 s v 12 t = nI (bk A t) := fun v t h5 h6 => by rw [ob_up_k (by omega)]; exact hB t h5 h6
        have hF : ∀ (g' : Mm) v, (∀ q k, ¬ (q = 12 ∧ k = s) → g' q k = ob_up g 12 s v q k) → ∀ q k, ¬ (q = 12 ∧ k = s) → g' q k = g q k := by
          intro g' v h5 q k h6
          rw [h5 q k h6]
          simp only [ob_up]
          rw [if_neg h6]
        by_cases c : cst A s i < mn (cst A s) i
        · rw [if_neg (nI_ge c (by omega)), ob_b1_s (ob_st_nI hs (by decide)), nI_1]
          obtain ⟨g', a1, a2, a3⟩ := ih (i + 1) _ (by omega) (by omega) (hT' _) (hB' _) (by rw [ob_up_s, ms, if_pos c])
          exact ⟨g', a1, a2, hF g' _ a3⟩
        · rw [if_pos (nI_le (by omega) (by omega)), ob_b1_s (ob_ld_nI hs (by decide)), hv, ob_b1_s (ob_st_nI hs (by decide)), nI_1]
          obtain ⟨g', a1, a2, a3⟩ := ih (i + 1) _ (by omega) (by omega) (hT' _) (hB' _) (by rw [ob_up_s, ms, if_neg c])
          exact ⟨g', a1, a2, hF g' _ a3⟩
      · have hc : cst A s i = 1000 := cst_in hb
        rw [if_neg (bnot rfl), nI_1]
        exact ih (i + 1) g (by omega) (by omega) hT hB (by rw [ms, if_neg (by omega)]; exact hv)
    · have e : i = 10 := by omega
      subst e
      rw [if_pos (show (10 : Int32) ≤ nI 10 by decide)]
      exact ⟨g, rfl, hv, fun _ _ _ => rfl⟩
theorem fm_back {A : Nat → Nat} (hA : ∀ i, i < 10 → A i < 1024) (k122 : Mm → Int32 → Int32 → Int32 → Option (Int32 × Mm)) (x1 : Int32) : ∀ (m j : Nat) (g : Mm), j < 1024 → j < m → TW g 2 10 A → (∀ t, j ≤ t → t < 1024 → g 12 t = nI (bk A t)) → ∃ g', f_X7_ladder_L13 k122 m g x1 (nI j + (-1)) = (if x1 = (-1) then ob_b1 (ob_ld g' 12 1024 0) fun v4 => some (v4, g') else k122 g' x1 0 0) ∧ TW g' 12 1024 (bk A) ∧ ∀ q k, q ≠ 12 → g' q k = g q k := by
  intro m
  induction m with
  | zero => intro j g h1 h2; omega
  | succ m ih =>
    intro j g h1 h2 hT hB
    unfold f_X7_ladder_L13
    cases j with
    | zero =>
      rw [if_pos (show nI 0 + (-1) < 0 by decide)]
      exact ⟨g, rfl, fun t ht => hB t (Nat.zero_le _) ht, fun _ _ _ => rfl⟩
    | succ j =>
      have hj : j < 1024 := by omega
      have hne : j ≠ 1023 := by omega
      rcases full_or hj with e | ⟨x, hx, hb⟩
      · exact absurd e hne
      rw [nI_down, if_neg (nI_pos (by omega)), ob_b1_s (ob_st_nI hj (by decide))]
      obtain ⟨z, hz⟩ := FU_ge (n := 11) (by decide)
      obtain ⟨g1, a1, a2, a3⟩ := fm_backIn hA (f_X7_ladder_L13 k122 m) x1 hj FU 0 (ob_up g 12 j 1000) (by omega) (by omega) (hT.ne (by decide)) (fun t h3 h4 => by rw [ob_up_k (by omega)]; exact hB t h3 h4) (ob_up_s _ _ _ _)
      have hT1 : TW g1 2 10 A := fun i hi => by rw [a3 2 i (fun z => absurd z.1 (by decide)), ob_up_r (by decide)]; exact hT i hi
      obtain ⟨g', b1, b2, b3⟩ := ih j g1 hj (by omega) hT1 (fun t h3 h4 => by
        by_cases e : t = j
        · subst e; rw [a2, bk_eq A hx hb]
        · rw [a3 12 t (fun z => e z.2), ob_up_k e]; exact hB t (by omega) h4)
      exact ⟨g', a1.trans b1, b2, fun q k hq => by rw [b3 q k hq, a3 q k (fun z => hq z.1), ob_up_r hq]⟩
theorem fm_first {A : Nat → Nat} (hA : ∀ i, i < 10 → A i < 1024) (k216 : Mm → Int32 → Int32 → Int32 → Int32 → Option (Int32 × Mm)) (x1 : Int32) {g : Mm} {p : Nat} (hp : p < 10) (hT : TW g 2 10 A) (hB : TW g 12 1024 (bk A)) : ∀ (m i : Nat), i ≤ nx A (pl A p) → nx A (pl A p) + 1 < i + m → f_X7_ladder_L135 k216 m g x1 (nI (pl A p)) (nI p) (-6) (nI i) = k216 g x1 (nI (pl A p)) (nI p) (nI (nx A (pl A p))) := by
  have hs := (pl_ok A p (by omega)).1
  obtain ⟨x, hx, hb⟩ := pl_free A hp
  obtain ⟨n1, n2, n3, n4⟩ := nx_ok A hs hx hb
  intro m
  induction m with
  | zero => intro i h1 h2; omega
  | succ m ih =>
    intro i h1 h2
    have q : i < 10 := by omega
    unfold f_X7_ladder_L135
    rw [if_neg (show ¬ (10 : Int32) ≤ nI i from nI_ge q (by decide)), if_neg (show ¬ (0 : Int32) ≤ -6 by decide), ob_b1_s (fm_has (by omega) (by omega))]
    unfold f_X7_ladder_J193 f_X7_ladder_J194 f_X7_ladder_J208
    cases hbi : (pl A p).testBit i
    · have h3 := or_lt2 hs q
      have hbs := bk_100 A hs
      have hc : cst A (pl A p) i ≤ 110 := by
        rw [cst_out hbi]
        have := card_le (A i &&& pl A p)
        have := bk_100 A h3
        omega
      rw [if_pos bf0, ob_b1_s (ob_ld_nI q (by decide)), hT i q, pb_and, ob_b1_s (fm_bits (and_lt (hA i q))), pb_sh1 i (by omega), pb_or, ob_b1_s (ob_ld_nI h3 (by decide)), hB _ h3, ob_b1_s (ob_ld_nI hs (by decide)), hB _ hs, nI_add, ← cst_out hbi]
      by_cases e : i = nx A (pl A p)
      · rw [if_pos (show nI (cst A (pl A p) i) = nI (bk A (pl A p)) by rw [e, n3]), if_neg (by decide), nI_1]
        cases m with
        | zero => omega
        | succ m =>
          unfold f_X7_ladder_L135
          rw [← e]
          by_cases c10 : (10 : Int32) ≤ nI (i + 1)
          · rw [if_pos c10]
          · rw [if_neg c10, if_pos (nI_pos' (by omega))]
      · have h5 := n4 i (by omega) hbi
        rw [if_neg (fun z => h5 ((nI_eq (by omega) (by omega)).mp z)), if_pos rfl, nI_1]
        exact ih (i + 1) (by omega) (by omega)
    · have e : i ≠ nx A (pl A p) := fun z => by rw [z, n2] at hbi; cases hbi
      rw [if_neg (bnot rfl), if_pos rfl, nI_1]
      exact ih (i + 1) (by omega) (by omega)
theorem fm_ranks {A : Nat → Nat} (hA : ∀ i, i < 10 → A i < 1024) (k242 : Mm → Int32 → Int32 → Int32 → Option (Int32 × Mm)) (x1 : Int32) : ∀ (m p : Nat) (g : Mm), p ≤ 10 → 10 < p + m → TW g 2 10 A → TW g 12 1024 (bk A) → (∀ x, x < 10 → (pl A p).testBit x = true → g 13 x = nI (rkn A p x)) → ∃ g', f_X7_ladder_L122 k242 m g x1 (nI (pl A p)) (nI p) = k242 g' x1 0 0 ∧ TW g' 13 10 (rk A) ∧ ∀ q k, q ≠ 13 → g' q k = g q k := by
  intro m
  induction m with
  | zero => intro p g h1 h2; omega
  | succ m ih =>
    intro p g h1 h2 hT hB hK
    unfold f_X7_ladder_L122
    rcases Nat.lt_or_ge p 10 with q | q
    · have hp := pl_ok A p h1
      obtain ⟨n1, n2⟩ := pl_nx A q
      obtain ⟨z, hz⟩ := FU_ge (n := 20) (by decide)
      rw [if_neg (show ¬ (10 : Int32) ≤ nI p from nI_ge q (by decide)), show (0 : Int32) = nI 0 from rfl, fm_first hA _ x1 q hT hB FU 0 (by omega) (by omega)]
      unfold f_X7_ladder_J216
      rw [ob_b1_s (ob_st_nI n1 (by decide)), pb_sh1 _ (by omega), pb_or, nI_1, ← pl_s]
      obtain ⟨g', a1, a2, a3⟩ := ih (p + 1) (ob_up g 13 (nx A (pl A p)) (nI p)) (by omega) (by omega) (hT.ne (by decide)) (hB.ne (by decide)) (fun x hx hbx => by
        rw [rkn_s]
        by_cases e : nx A (pl A p) = x
        · rw [if_pos e, ← e]; exact ob_up_s _ _ _ _
        · rw [if_neg e, ob_up_k (fun z => e z.symm)]
          rw [pl_bit] at hbx
          simp only [e, decide_false, Bool.or_false] at hbx
          exact hK x hx hbx)
      exact ⟨g', a1, a2, fun q k hq => by rw [a3 q k hq, ob_up_r hq]⟩
    · have e : p = 10 := by omega
      subst e
      rw [if_pos (show (10 : Int32) ≤ nI 10 by decide)]
      exact ⟨g, rfl, fun x hx => hK x hx (pl_all A hx), fun _ _ _ => rfl⟩
theorem fm_struck {A : Nat → Nat} (hA : ∀ i, i < 10 → A i < 1024 ∧ (A i).testBit i = false) {g : Mm} (x : Int32) (hT : TW g 2 10 A) (hK : TW g 13 10 (rk A)) : ∀ (m q c : Nat), q ≤ 100 → 100 < q + m → c ≤ q → f_X7_ladder_L242 m g x (nI c) (nI q) = some (sk A x (100 - q) c, g) := by
  intro m
  induction m with
  | zero => intro q c h1 h2; omega
  | succ m ih =>
    intro q c h1 h2 hc
    unfold f_X7_ladder_L242
    rcases Nat.lt_or_ge q 100 with h | h
    · have h10 : q / 10 < 10 := by omega
      have hm : q % 10 < 10 := by omega
      have hAf := hA _ h10
      have r1 := rk_lt A h10
      have r2 := rk_lt A hm
      rw [sk_s A x q c h, if_neg (show ¬ (100 : Int32) ≤ nI q from nI_ge h (by decide)), show (10 : Int32) = nI 10 from rfl, pk_rem (by omega) (by decide) (by decide), pk_div (by omega) (by decide) (by decide), ob_b1_s (ob_ld_nI h10 (by decide)), hT _ h10, ob_b1_s (fm_has (by omega) (by omega))]
      unfold f_X7_ladder_J304 skP
      have n0 := ih (q + 1) c (by omega) (by omega) (by omega)
      have n1 := ih (q + 1) (c + 1) (by omega) (by omega) (by omega)
      cases hb : (A (q / 10)).testBit (q % 10)
      · rw [if_pos bf0, nI_1, Bool.false_and, if_neg (by decide)]
        exact n0
      · have hne : q / 10 ≠ q % 10 := by
          intro e
          rw [e] at hb
          rw [(hA _ hm).2] at hb
          cases hb
        have hrk : rk A (q / 10) ≠ rk A (q % 10) := fun z => hne (rk_inj A h10 hm z)
        rw [if_neg (bnot rfl), ob_b1_s (ob_ld_nI hm (by decide)), hK _ hm, ob_b1_s (ob_ld_nI h10 (by decide)), hK _ h10, Bool.true_and]
        by_cases c1 : rk A (q % 10) ≤ rk A (q / 10)
        · rw [if_neg (nI_ge (by omega) (by omega)), if_pos (decide_eq_true c1)]
          by_cases c2 : nI c = x
          · rw [if_pos c2, if_pos c2]
          · rw [if_neg c2, if_neg c2, nI_1, nI_1]
            exact n1
        · rw [if_pos (nI_le (by omega) (by omega)), if_neg (by simp [c1]), nI_1]
          exact n0
    · have e : q = 100 := by omega
      subst e
      rw [if_pos (show (100 : Int32) ≤ nI 100 by decide)]
      rfl
theorem fm_ladder {A : Nat → Nat} (hA : ∀ i, i < 10 → A i < 1024 ∧ (A i).testBit i = false) {g : Mm} (x : Int32) (hT : TW g 2 10 A) : ∃ g', f_X7_ladder g x = some (if x = (-1) then nI (bk A 0) else sk A x 100 0, g') := by
  obtain ⟨z, hz⟩ := FU_ge (n := 1100) (by decide)
  have hA1 : ∀ i, i < 10 → A i < 1024 := fun i hi => (hA i hi).1
  unfold f_X7_ladder
  rw [show (1023 : Int32) = nI 1023 from rfl, ob_b1_s (ob_st_nI (by decide) (by decide)), show (1022 : Int32) = nI 1023 + (-1) from by decide]
  obtain ⟨g1, a1, a2, a3⟩ := fm_back hA1 (f_X7_ladder_L122 (f_X7_ladder_L242 FU) FU) x FU 1023 (ob_up g 12 1023 0) (by omega) (by omega) (hT.ne (by decide)) (fun t h1 h2 => by
    have e : t = 1023 := by omega
    subst e
    rw [ob_up_s, bk_full]
    rfl)
  have hT1 : TW g1 2 10 A := fun i hi => by rw [a3 2 i (by decide), ob_up_r (by decide)]; exact hT i hi
  rw [a1]
  by_cases hx : x = -1
  · rw [if_pos hx, if_pos hx, show (0 : Int32) = nI 0 from rfl, ob_b1_s (ob_ld_nI (by decide) (by decide)), a2 0 (by decide)]
    exact ⟨g1, rfl⟩
  · rw [if_neg hx, if_neg hx]
    obtain ⟨g2, b1, b2, b3⟩ := fm_ranks hA1 (f_X7_ladder_L242 FU) x FU 0 g1 (by omega) (by omega) hT1 a2 (fun x hx hb => by
      have : (0 : Nat).testBit x = true := hb
      rw [Nat.zero_testBit] at this
      cases this)
    have hT2 : TW g2 2 10 A := fun i hi => by rw [b3 2 i (by decide)]; exact hT1 i hi
    exact ⟨g2, b1.trans (fm_struck hA x hT2 b2 FU 0 0 (by omega) (by omega) (by omega))⟩
theorem ag_ladder {k : Nat} {s u : Mm} (h : Rel k s u) (a : Int32) : ∃ r s' u', f_X6_ladder s a = some (r, s') ∧ f_X7_ladder u a = some (r, u') ∧ Rel (k + 1) s' u' := by
  obtain ⟨⟨W, N, T, K, hR, hT⟩, hP, h4, h5, hM, hO⟩ := h
  obtain ⟨s', A, e1, hG, hAW⟩ := fx_arrange hT.x.1 hR.w hO
  have hA : ∀ i, i < 10 → A i < 1024 ∧ (A i).testBit i = false := fun i hi => by rw [hAW i hi]; exact ⟨(hR.1 i hi).1, (hR.1 i hi).2.1⟩
  have hA1 : ∀ i, i < 10 → A i < 1024 := fun i hi => (hA i hi).1
  have hTu : TW u 2 10 A := fun i hi => by rw [hAW i hi]; exact hT.u.1 i hi
  obtain ⟨u', e2⟩ := fm_ladder hA a hTu
  have e3 : f_X6_ladder s a = some (if a = (-1) then nI (bk A 0) else sk A a 100 0, s') := by
    unfold f_X6_ladder
    rw [ob_b1_s e1]
    by_cases hx : a = -1
    · rw [if_pos hx, if_pos hx]
      have e4 : f_X2_countStruck s' = some (nI (bk A 0)) := by
        unfold f_X2_countStruck
        rw [show (0 : Int32) = nI 0 from rfl, ob_b1_s (fx_at (by decide) (by decide)), hG.2.2.2.1 0 (by decide)]
      rw [ob_b1_s e4]
    · rw [if_neg hx, if_neg hx, ob_b1_s (fx_struck hG hA1 a)]
  have f1 := fr_X6_ladder _ _ _ _ e3
  have f2 := fr_X7_ladder _ _ _ _ e2
  exact ⟨_, s', u', e3, e2, ⟨W, N, T, K, hR, hT.fr f1 f2 (by decide) (by decide)⟩, hP.fr f1 f2 (by decide) (by decide), h4.fr f1 f2 (by decide) (by decide) (by decide) (by decide), h5.fr f1 f2 (by decide) (by decide) (by decide) (by decide), (hM.fr f1 (by decide) (by decide)).mono (by omega), Or.inr ⟨hG.1, A, hA1, hG.2.2.1, hG.2.2.2.1, hG.2.2.2.2⟩⟩
