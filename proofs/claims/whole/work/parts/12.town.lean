/-! The small functions of both sides. -/
def inr (x a b : Int32) : Bool := !decide (x < a) && !decide (b < x)
theorem fx_within (x a b : Int32) : f_X6_within x a b = some (bI (inr x a b)) := by
  unfold f_X6_within inr
  by_cases h : x < a
  · rw [if_pos h]; simp [h]
  · rw [if_neg h]
    by_cases h2 : b < x
    · rw [if_pos h2]; simp [h, h2]
    · rw [if_neg h2]; simp [h, h2]
theorem fm_in (x a b : Int32) : f_X7_in x a b = some (bI (inr x a b)) := fx_within x a b
theorem fx_isInsult (x : Int32) : f_X6_isInsult x = some (bI (inr x 0 9)) := by
  unfold f_X6_isInsult
  rw [ob_b1_s (fx_within x 0 9), ob_b1_s (zb_b _)]
theorem fx_isMan (x : Int32) : f_X6_isMan x = some (bI (inr x 0 4)) := by
  unfold f_X6_isMan
  rw [ob_b1_s (fx_within x 0 4), ob_b1_s (zb_b _)]
theorem fx_isImage (x : Int32) : f_X6_isImage x = some (bI (inr x 0 1)) := by
  unfold f_X6_isImage
  rw [ob_b1_s (fx_within x 0 1), ob_b1_s (zb_b _)]
theorem fm_isInsult (x : Int32) : f_X7_isInsult x = some (bI (inr x 0 9)) := by
  unfold f_X7_isInsult
  rw [ob_b1_s (fm_in x 0 9), ob_b1_s (zb_b _)]
theorem fm_isMan (x : Int32) : f_X7_isMan x = some (bI (inr x 0 4)) := by
  unfold f_X7_isMan
  rw [ob_b1_s (fm_in x 0 4), ob_b1_s (zb_b _)]
theorem fm_isName (x : Int32) : f_X7_isName x = some (bI (inr x 97 106)) := by
  unfold f_X7_isName
  rw [ob_b1_s (fm_in x 97 106), ob_b1_s (zb_b _)]
def two (x y : Int32) : Bool := inr x 0 4 && inr y 0 4 && !decide (x = y)
theorem fx_areTwo (x y : Int32) : f_X6_areTwo x y = some (bI (two x y)) := by
  unfold f_X6_areTwo two
  rw [ob_b1_s (fx_isMan x)]
  cases hx : inr x 0 4
  · rw [if_pos (bI_ne.mpr rfl)]; rfl
  · rw [if_neg (fun h => Bool.noConfusion (bI_ne.mp h)), ob_b1_s (fx_isMan y)]
    cases hy : inr y 0 4
    · rw [if_pos (bI_ne.mpr rfl)]; rfl
    · rw [if_neg (fun h => Bool.noConfusion (bI_ne.mp h))]
      by_cases h : x = y
      · rw [if_pos h]; simp [h]
      · rw [if_neg h]; simp [h]
theorem fm_areTwo (x y : Int32) : f_X7_areTwo x y = some (bI (two x y)) := by
  unfold f_X7_areTwo two
  rw [ob_b1_s (fm_isMan x)]
  cases hx : inr x 0 4
  · rw [if_pos (bI_ne.mpr rfl)]; rfl
  · rw [if_neg (fun h => Bool.noConfusion (bI_ne.mp h)), ob_b1_s (fm_isMan y)]
    cases hy : inr y 0 4
    · rw [if_pos (bI_ne.mpr rfl)]; rfl
    · rw [if_neg (fun h => Bool.noConfusion (bI_ne.mp h))]
      by_cases h : x = y
      · rw [if_pos h]; simp [h]
      · rw [if_neg h]; simp [h]
theorem inr_of {x : Int32} {n : Nat} (hn : n < 2 ^ 31) (h : inr x 0 (nI n) = true) : ∃ i, i ≤ n ∧ x = nI i := by
  unfold inr at h
  simp at h
  exact nI_of2 (nI_toInt hn) (Int32.not_lt.mpr h.1) h.2
theorem inr_in {i n : Nat} (hn : n < 2 ^ 31) (h : i ≤ n) : inr (nI i) 0 (nI n) = true := by
  unfold inr
  have h1 : ¬ nI i < 0 := nI_pos (by omega)
  have h2 : ¬ nI n < nI i := nI_nlt h hn
  simp [h1, h2]
theorem inr_out {i n : Nat} (hi : i < 2 ^ 31) (h : n < i) : inr (nI i) 0 (nI n) = false := by
  unfold inr
  have h2 : nI n < nI i := nI_lt h hi
  simp [h2]
theorem fx_has {a i : Nat} (ha : a < 2 ^ 31) (hi : i < 32) : f_X6_has (nI a) (nI i) = some (bI (a.testBit i)) := by
  unfold f_X6_has
  rw [pb_bit ha hi]
  cases a.testBit i <;> rfl
theorem fm_has {a i : Nat} (ha : a < 2 ^ 31) (hi : i < 32) : f_X7_has (nI a) (nI i) = some (bI (a.testBit i)) := by
  unfold f_X7_has
  rw [pb_bit ha hi]
  cases a.testBit i <;> rfl
theorem fx_at {g : Mm} {q n i : Nat} (h : i < n) (hn : n < 2 ^ 31) : f_X6_at g q n (nI i) = some (g q i) := by
  unfold f_X6_at
  rw [if_neg (nI_pos (by omega)), if_neg (show ¬ Int32.ofNat n ≤ nI i from nI_ge h hn), ob_b1_s (ob_ld_nI h hn)]
theorem fx_at0 {g : Mm} {q n : Nat} {x : Int32} (h : x < 0) : f_X6_at g q n x = some 0 := by
  unfold f_X6_at
  rw [if_pos h]
theorem fx_store {g : Mm} {q n i : Nat} {x : Int32} (h : i < n) (hn : n < 2 ^ 31) : f_X6_store q n g (nI i) x = some (ob_up g q i x) := by
  unfold f_X6_store
  rw [if_neg (nI_pos (by omega)), if_neg (show ¬ Int32.ofNat n ≤ nI i from nI_ge h hn), ob_b1_s (ob_st_nI h hn)]
theorem fx_worse {b : Nat} {g : Mm} {i : Nat} (h : i < 10) : f_X4_worseThan b g (nI i) = some (g (b + 1) i) := by
  unfold f_X4_worseThan
  rw [ob_b1_s (fx_at h (by decide))]
theorem fx_needed {b : Nat} {g : Mm} {i : Nat} (h : i < 10) : f_X4_neededBy b g (nI i) = some (g (b + 2) i) := by
  unfold f_X4_neededBy
  rw [ob_b1_s (fx_at h (by decide))]
theorem fx_traits {b : Nat} {g : Mm} {i : Nat} (h : i < 5) : f_X4_traitsOf b g (nI i) = some (g (b + 3) i) := by
  unfold f_X4_traitsOf
  rw [ob_b1_s (fx_at h (by decide))]
theorem fx_known {b : Nat} {g : Mm} {i : Nat} (h : i < 5) : f_X4_knownTo b g (nI i) = some (g (b + 4) i) := by
  unfold f_X4_knownTo
  rw [ob_b1_s (fx_at h (by decide))]
theorem fx_setNeeded {b : Nat} {g : Mm} {i : Nat} {x : Int32} (h : i < 10) : f_X4_setNeeded b g (nI i) x = some (ob_up g (b + 2) i x) := by
  unfold f_X4_setNeeded
  rw [ob_b1_s (fx_store h (by decide))]
theorem fx_setTraits {b : Nat} {g : Mm} {i : Nat} {x : Int32} (h : i < 5) : f_X4_setTraits b g (nI i) x = some (ob_up g (b + 3) i x) := by
  unfold f_X4_setTraits
  rw [ob_b1_s (fx_store h (by decide))]
theorem fx_setKnown {b : Nat} {g : Mm} {i : Nat} {x : Int32} (h : i < 5) : f_X4_setKnown b g (nI i) x = some (ob_up g (b + 4) i x) := by
  unfold f_X4_setKnown
  rw [ob_b1_s (fx_store h (by decide))]
/-- what stands in a row -/
def TW (g : Mm) (q n : Nat) (f : Nat → Nat) : Prop := ∀ i, i < n → g q i = nI (f i)
theorem TW.up {g : Mm} {q n i v : Nat} {f : Nat → Nat} (h : TW g q n f) : TW (ob_up g q i (nI v)) q n (fun j => if j = i then v else f j) := by
  intro j hj
  by_cases e : j = i
  · subst e; simp [ob_up]
  · simp [ob_up, e, h j hj]
theorem TW.ne {g : Mm} {q q2 n i : Nat} {v : Int32} {f : Nat → Nat} (h : TW g q n f) (hq : ¬ q = q2) : TW (ob_up g q2 i v) q n f := by
  intro j hj
  rw [ob_up_r hq]
  exact h j hj
theorem TW.fr {g t : Mm} {S : List Nat} {F : List (Nat × Nat)} {q n : Nat} {f : Nat → Nat} (h : TW g q n f) (hF : Fr S F g t) (hq : ¬ q ∈ S) (hf : ∀ x, x ∈ F → ¬ x.1 = q) : TW t q n f := by
  intro j hj
  rw [hF q j hq (fun z => hf _ z rfl)]
  exact h j hj
/-- who fits: the set of the insults that fit a man -/
def fitB (N T : Nat → Nat) (m i : Nat) : Bool := dif (N i) (T m) == 0
def FI (N T : Nat → Nat) (m : Nat) : Nat := mk (fitB N T m) 10
theorem FI_lt (N T : Nat → Nat) (m : Nat) : FI N T m < 1024 := mk_lt _ 10
theorem FI_bit {N T : Nat → Nat} {m i : Nat} (hi : i < 10) : (FI N T m).testBit i = fitB N T m i := by
  unfold FI
  rw [mk_bit]
  simp [hi]
theorem if_bit {a i : Nat} {b : Bool} (hi : i < 31) : nI a ||| (if b then (1 : Int32) <<< (nI i &&& 31) else 0) = nI (a ||| (if b then 2 ^ i else 0)) := by
  cases b
  · show nI a ||| nI 0 = _
    rw [pb_or]
    rfl
  · show nI a ||| ((1 : Int32) <<< (nI i &&& 31)) = _
    rw [pb_sh1 i hi, pb_or]
    rfl
theorem fx_fitting {b : Nat} {g : Mm} {N T : Nat → Nat} {m : Nat} (hN : TW g (b + 2) 10 N) (hT : TW g (b + 3) 5 T) (rN : ∀ i, i < 10 → N i < 64) (hm : m < 5) : f_X4_fitting b g (nI m) = some (nI (FI N T m)) := by
  have key : ∀ (n i : Nat), i ≤ 10 → 10 < i + n → f_X4_fitting_L11 b g n (nI (T m)) (nI (mk (fitB N T m) i)) (nI i) = some (nI (FI N T m)) := by
    intro n
    induction n with
    | zero => intro i h1 h2; omega
    | succ n ih =>
      intro i h1 h2
      unfold f_X4_fitting_L11
      rcases Nat.lt_or_ge i 10 with q | q
      · rw [if_neg (show ¬ (10 : Int32) ≤ nI i from nI_ge q (by decide)), ob_b1_s (fx_needed q), hN i q, pb_dif (by have := rN i q; omega)]
        have e : mk (fitB N T m) (i + 1) = mk (fitB N T m) i ||| (if fitB N T m i then 2 ^ i else 0) := rfl
        have e0 : (nI (dif (N i) (T m)) = 0) ↔ fitB N T m i = true := by
          show nI _ = nI 0 ↔ _
          rw [nI_eq (by have := dif_lt (a := N i) (b := T m) (by have := rN i q; omega); omega) (by decide)]
          unfold fitB
          simp
        by_cases hc : fitB N T m i = true
        · rw [if_pos (e0.mpr hc)]
          unfold f_X4_fitting_J38
          rw [pb_sh1 i (by omega), pb_or, nI_1]
          have e2 := ih (i + 1) (by omega) (by omega)
          rw [e, if_pos hc] at e2
          exact e2
        · rw [if_neg (fun z => hc (e0.mp z))]
          unfold f_X4_fitting_J38
          rw [nI_1]
          have e2 := ih (i + 1) (by omega) (by omega)
          rw [e, if_neg hc, Nat.or_zero] at e2
          exact e2
      · have hi : i = 10 := by omega
        subst hi
        rw [if_pos (show (10 : Int32) ≤ nI 10 by decide)]
        rfl
  unfold f_X4_fitting
  rw [ob_b1_s (fx_traits hm), hT m hm]
  obtain ⟨z, hz⟩ := FU_ge (n := 11) (by decide)
  exact key FU 0 (by omega) (by omega)
