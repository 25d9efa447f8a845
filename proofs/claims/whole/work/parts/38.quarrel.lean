/-! The pad read as a quarrel; faults, steps, judgement, what is told. -/
def okQ (S : Nat → Nat) (k : Nat) : Bool := if k % 2 = 1 then isN (S k) else isD (S k) && !(decide (0 < k) && decide (S k = S (k - 2)))
def finQ (n : Nat) : Int32 := if 0 < n ∧ n % 2 = 0 then -6 else nI n
theorem isD_le {a : Nat} (h : isD a = true) : 48 ≤ a ∧ a ≤ 52 := by unfold isD at h; simpa using h
theorem isN_le {a : Nat} (h : isN a = true) : 97 ≤ a ∧ a ≤ 106 := by unfold isN at h; simpa using h
theorem fx_standsInQuarrel {g : Mm} {n : Nat} {S : Nat → Nat} (h : PX g n S) {k : Nat} (hk : k < n) : f_X3_standsInQuarrel g (nI k) = some (bI (okQ S k)) := by
  have h40 := h.1
  have hS := (h.2.2 k hk).1
  have hk2 : k % 2 < 2 := Nat.mod_lt _ (by decide)
  unfold f_X3_standsInQuarrel okQ
  rw [rem2 (by omega)]
  by_cases e : k % 2 = 1
  · rw [if_pos (show nI (k % 2) = 1 by rw [e]; rfl), if_pos e, ob_b1_s (fx_insultAt h (by omega)), sg_in hk]
    cases hN : isN (S k)
    · rw [if_pos (show (if false = true then nI (S k - 97) else (-1:Int32)) < 0 from (by decide : (-1:Int32) < 0))]
      rfl
    · rw [if_neg (show ¬ (if true = true then nI (S k - 97) else (-1:Int32)) < 0 from nI_pos (by omega))]
      rfl
  · have e0 : k % 2 = 0 := by omega
    rw [if_neg (show ¬ nI (k % 2) = 1 by rw [e0]; decide), if_neg e, ob_b1_s (fx_manAt h (by omega)), sg_in hk]
    cases hD : isD (S k)
    · rw [if_pos (show (if false = true then nI (S k - 48) else (-1:Int32)) < 0 from (by decide : (-1:Int32) < 0))]
      rfl
    · have hDk := isD_le hD
      rw [if_neg (show ¬ (if true = true then nI (S k - 48) else (-1:Int32)) < 0 from nI_pos (by omega)), ob_b1_s (fx_manAt h (by omega)), sg_in hk, hD]
      by_cases hk0 : 0 < k
      · have hk22 : 2 ≤ k := by omega
        have hS2 := (h.2.2 (k - 2) (by omega)).1
        rw [show (2 : Int32) = nI 2 from rfl, pk_sub hk22, ob_b1_s (fx_manAt h (by omega)), sg_in (show k - 2 < n by omega)]
        by_cases e2 : S k = S (k - 2)
        · rw [← e2, hD, if_pos rfl]
          simp [hk0]
        · have hne : ¬ nI (S k - 48) = (if isD (S (k - 2)) then nI (S (k - 2) - 48) else -1) := by
            cases hD2 : isD (S (k - 2))
            · rw [if_neg (by decide)]
              exact nI_ne_m1 (by omega)
            · rw [if_pos rfl]
              have hD2' := isD_le hD2
              intro z
              have := (nI_eq (by omega) (by omega)).mp z
              omega
          rw [if_neg (show ¬ (if true = true then nI (S k - 48) else (-1:Int32)) = (if isD (S (k - 2)) = true then nI (S (k - 2) - 48) else -1) from hne)]
          simp [e2]
      · have hk00 : k = 0 := by omega
        subst hk00
        have hm : f_X3_manAt g (nI 0 - 2) = some (-1) := fx_manOf (a := 0) (by decide) (fx_signNeg h (by decide))
        rw [ob_b1_s hm, if_neg (show ¬ (if true = true then nI (S 0 - 48) else (-1:Int32)) = -1 from nI_ne_m1 (by omega))]
        rfl
theorem fx_faultAsQuarrel {g : Mm} {n : Nat} {S : Nat → Nat} (h : PX g n S) : f_X3_faultAsQuarrel g = some (sr (okQ S) n (finQ n) n) := by
  have h40 := h.1
  have key : ∀ (m k : Nat), k ≤ n → n < k + m → f_X3_faultAsQuarrel_L2 g (f_X3_faultAsQuarrel_J46 g) (f_X3_faultAsQuarrel_J47 g) m (nI k) = some (sr (okQ S) n (finQ n) (n - k)) := by
    intro m
    induction m with
    | zero => intro k h1 h2; omega
    | succ m ih =>
      intro k h1 h2
      unfold f_X3_faultAsQuarrel_L2
      rw [h.2.1]
      rcases Nat.lt_or_ge k n with q | q
      · rw [if_neg (nI_ge q (by omega)), ob_b1_s (fx_standsInQuarrel h q)]
        have e : n - k = (n - (k + 1)) + 1 := by omega
        rw [e]
        have e2 : n - ((n - (k + 1)) + 1) = k := by omega
        have e3 : sr (okQ S) n (finQ n) (n - (k + 1) + 1) = if okQ S (n - ((n - (k + 1)) + 1)) then sr (okQ S) n (finQ n) (n - (k + 1)) else nI (n - ((n - (k + 1)) + 1)) := rfl
        rw [e3, e2]
        cases okQ S k
        · rw [if_pos bf0, if_neg (by decide)]
        · rw [if_neg (bnot rfl), if_pos rfl, nI_1]
          exact ih (k + 1) (by omega) (by omega)
      · have e : k = n := by omega
        subst e
        rw [if_pos (nI_le (Nat.le_refl k) (by omega)), Nat.sub_self, rem2 (by omega)]
        show _ = some (finQ k)
        unfold finQ f_X3_faultAsQuarrel_J46 f_X3_faultAsQuarrel_J47
        by_cases hk0 : 0 < k
        · rw [if_neg (show ¬ nI k ≤ 0 from nI_ge (a := 0) hk0 (by omega))]
          by_cases hev : k % 2 = 0
          · rw [if_pos (show nI (k % 2) = 0 by rw [hev]; rfl), if_neg (by decide), if_pos ⟨hk0, hev⟩]
          · have e1 : k % 2 = 1 := by omega
            rw [if_neg (show ¬ nI (k % 2) = 0 by rw [e1]; decide), if_pos rfl, if_neg (fun z => hev z.2), h.2.1]
        · have hk00 : k = 0 := by omega
          subst hk00
          rw [if_pos (show nI 0 ≤ 0 by decide), if_pos rfl, if_neg (by decide), h.2.1]
  unfold f_X3_faultAsQuarrel
  obtain ⟨z, hz⟩ := FU_ge (n := 50) (by decide)
  exact key FU 0 (by omega) (by omega)
theorem fm_quarrelFault {g : Mm} {n : Nat} {S : Nat → Nat} (h : PU g n S) : f_X7_quarrelFault g = some (sr (okQ S) n (finQ n) n) := by
  have h40 := h.1
  have key : ∀ (m k : Nat), k ≤ n → n < k + m → f_X7_quarrelFault_L2 g (f_X7_quarrelFault_J101 g) m (nI k) = some (sr (okQ S) n (finQ n) (n - k)) := by
    intro m
    induction m with
    | zero => intro k h1 h2; omega
    | succ m ih =>
      intro k h1 h2
      unfold f_X7_quarrelFault_L2
      rw [h.2.1]
      rcases Nat.lt_or_ge k n with q | q
      · have hS := (h.2.2 k q).1
        have hk2 : k % 2 < 2 := Nat.mod_lt _ (by decide)
        have e : n - k = (n - (k + 1)) + 1 := by omega
        have e2 : n - ((n - (k + 1)) + 1) = k := by omega
        have e3 : sr (okQ S) n (finQ n) (n - (k + 1) + 1) = if okQ S (n - ((n - (k + 1)) + 1)) then sr (okQ S) n (finQ n) (n - (k + 1)) else nI (n - ((n - (k + 1)) + 1)) := rfl
        rw [if_neg (nI_ge q (by omega)), e, e3, e2, rem2 (by omega)]
        have hgo : ∀ b : Bool, okQ S k = b → f_X7_quarrelFault_J71 g (f_X7_quarrelFault_L2 g (f_X7_quarrelFault_J101 g) m) (nI k) (bI b) = some (if okQ S k then sr (okQ S) n (finQ n) (n - (k + 1)) else nI k) := by
          intro b hb
          unfold f_X7_quarrelFault_J71
          rw [hb]
          cases b
          · rw [if_pos bf0, if_neg (by decide)]
          · rw [if_neg (bnot rfl), if_pos rfl, nI_1]
            exact ih (k + 1) (by omega) (by omega)
        have hgo0 : okQ S k = false → f_X7_quarrelFault_J70 g (f_X7_quarrelFault_L2 g (f_X7_quarrelFault_J101 g) m) (nI k) = some (if okQ S k then sr (okQ S) n (finQ n) (n - (k + 1)) else nI k) := fun z => hgo false z
        have hgo1 : okQ S k = true → f_X7_quarrelFault_J66 g (f_X7_quarrelFault_L2 g (f_X7_quarrelFault_J101 g) m) (nI k) = some (if okQ S k then sr (okQ S) n (finQ n) (n - (k + 1)) else nI k) := fun z => hgo true z
        by_cases e1 : k % 2 = 1
        · rw [if_pos (show nI (k % 2) = 1 by rw [e1]; rfl), ob_b1_s (ob_ld_nI (by omega) (by decide)), (h.2.2 k q).2, ob_b1_s (fm_isName _), inrN hS]
          exact hgo _ (by unfold okQ; rw [if_pos e1])
        · have e0 : k % 2 = 0 := by omega
          have eok : okQ S k = (isD (S k) && !(decide (0 < k) && decide (S k = S (k - 2)))) := by unfold okQ; rw [if_neg e1]
          rw [if_neg (show ¬ nI (k % 2) = 1 by rw [e0]; decide), ob_b1_s (ob_ld_nI (by omega) (by decide)), (h.2.2 k q).2, ob_b1_s (fm_in _ _ _), inrD hS]
          cases hD : isD (S k)
          · rw [if_pos bf0]
            exact hgo0 (by rw [eok, hD]; rfl)
          · rw [if_neg (bnot rfl)]
            by_cases hk0 : k = 0
            · rw [if_pos (show nI k = 0 by rw [hk0]; rfl)]
              exact hgo1 (by rw [eok, hD, hk0]; rfl)
            · rw [if_neg (show ¬ nI k = 0 from fun z => hk0 ((nI_eq (b := 0) (by omega) (by decide)).mp z)), ob_b1_s (ob_ld_nI (by omega) (by decide)), (h.2.2 k q).2, show (2 : Int32) = nI 2 from rfl, pk_sub (by omega), ob_b1_s (ob_ld_nI (by omega) (by decide)), (h.2.2 (k - 2) (by omega)).2]
              have hS2 := (h.2.2 (k - 2) (by omega)).1
              have hk1 : 0 < k := by omega
              by_cases e4 : S k = S (k - 2)
              · rw [if_pos (by rw [e4])]
                exact hgo0 (by rw [eok, hD]; simp [hk1, ← e4])
              · rw [if_neg (fun z => e4 ((nI_eq (by omega) (by omega)).mp z))]
                exact hgo1 (by rw [eok, hD]; simp [e4])
      · have e : k = n := by omega
        subst e
        have hk2 : k % 2 < 2 := Nat.mod_lt _ (by decide)
        rw [if_pos (nI_le (Nat.le_refl k) (by omega)), Nat.sub_self, rem2 (by omega)]
        show _ = some (finQ k)
        unfold finQ f_X7_quarrelFault_J101
        by_cases hk0 : k = 0
        · subst hk0
          rw [if_pos (show nI 0 = 0 from rfl), if_neg (by decide), h.2.1]
        · rw [if_neg (show ¬ nI k = 0 from fun z => hk0 ((nI_eq (b := 0) (by omega) (by decide)).mp z))]
          by_cases hodd : k % 2 = 1
          · rw [if_pos (show nI (k % 2) = 1 by rw [hodd]; rfl), if_neg (fun z => by omega), h.2.1]
          · have e0 : k % 2 = 0 := by omega
            rw [if_neg (show ¬ nI (k % 2) = 1 by rw [e0]; decide), if_pos ⟨by omega, e0⟩]
  unfold f_X7_quarrelFault
  obtain ⟨z, hz⟩ := FU_ge (n := 50) (by decide)
  exact key FU 0 (by omega) (by omega)
theorem RP.px {s u : Mm} (h : RP s u) : ∃ (n : Nat) (S : Nat → Nat), PX s n S ∧ PU u n S := by
  obtain ⟨n, S, h1, h2, h3, h4⟩ := h
  exact ⟨n, S, ⟨h1, h2, fun i hi => ⟨(h4 i hi).2.1, (h4 i hi).2.2.1⟩⟩, ⟨h1, h3, fun i hi => ⟨(h4 i hi).2.1, (h4 i hi).2.2.2⟩⟩⟩
theorem inr01 (a : Int32) : inr a 0 1 = false ∨ a = 0 ∨ a = 1 := by
  cases h : inr a 0 1
  · exact Or.inl rfl
  · obtain ⟨i, hi, rfl⟩ := inr_of (n := 1) (by decide) h
    rcases (show i = 0 ∨ i = 1 by omega) with rfl | rfl
    · exact Or.inr (Or.inl rfl)
    · exact Or.inr (Or.inr rfl)
theorem ag_fault {k : Nat} {s u : Mm} (h : Rel k s u) (a : Int32) : ∃ r, f_X6_fault s a = some r ∧ f_X7_fault u a = some r := by
  obtain ⟨-, hP, -⟩ := h
  obtain ⟨n, S, hX, hU⟩ := hP.px
  unfold f_X6_fault f_X7_fault
  rw [ob_b1_s (fx_within a 0 1)]
  rcases inr01 a with h0 | rfl | rfl
  · have a0 : ¬ a = 0 := fun z => by rw [z] at h0; exact absurd h0 (by decide)
    have a1 : ¬ a = 1 := fun z => by rw [z] at h0; exact absurd h0 (by decide)
    exact ⟨-2, by rw [h0, if_pos bf0], by rw [if_neg a0, if_neg a1]⟩
  · refine ⟨sr (okS S) n (finS n S) n, ?_, ?_⟩
    rotate_left
    · rw [if_pos rfl, ob_b1_s (fm_stepsFault hU)]
    · rw [show inr 0 0 1 = true from by decide, if_neg (bnot rfl), if_pos rfl, ob_b1_s (fx_faultAsSteps hX)]
  · refine ⟨sr (okQ S) n (finQ n) n, ?_, ?_⟩
    rotate_left
    · rw [if_neg (by decide), if_pos rfl, ob_b1_s (fm_quarrelFault hU)]
    · rw [show inr 1 0 1 = true from by decide, if_neg (bnot rfl), if_neg (by decide), ob_b1_s (fx_faultAsQuarrel hX)]
/-- either all stand and the end speaks, or a place is named -/
theorem sr_or (ok : Nat → Bool) (n : Nat) (fin : Int32) : ∀ j, j ≤ n → (sr ok n fin j = fin ∧ ∀ i, n - j ≤ i → i < n → ok i = true) ∨ ∃ i, i < n ∧ sr ok n fin j = nI i
  | 0, _ => Or.inl ⟨rfl, fun i h1 h2 => by omega⟩
  | j + 1, hj => by
    have e : sr ok n fin (j + 1) = if ok (n - (j + 1)) then sr ok n fin j else nI (n - (j + 1)) := rfl
    cases h : ok (n - (j + 1))
    · exact Or.inr ⟨n - (j + 1), by omega, by rw [e, h]; rfl⟩
    · rcases sr_or ok n fin j (by omega) with ⟨h1, h2⟩ | ⟨i, h1, h2⟩
      · refine Or.inl ⟨by rw [e, h, if_pos rfl]; exact h1, fun i h3 h4 => ?_⟩
        by_cases e5 : i = n - (j + 1)
        · rw [e5]; exact h
        · exact h2 i (by omega) h4
      · exact Or.inr ⟨i, h1, by rw [e, h, if_pos rfl]; exact h2⟩
theorem nI_ne_m6 {a : Nat} (h : a < 2 ^ 31) : ¬ nI a = -6 := fun z => nI_pos h (by rw [z]; decide)
