/-! The pad: its faults. -/
def PX (g : Mm) (n : Nat) (S : Nat → Nat) : Prop := n ≤ 40 ∧ g 1 1 = nI n ∧ ∀ i, i < n → S i ≤ 126 ∧ g 30 i = nI (S i)
def PU (g : Mm) (n : Nat) (S : Nat → Nat) : Prop := n ≤ 40 ∧ g 0 0 = nI n ∧ ∀ i, i < n → S i ≤ 126 ∧ g 1 i = nI (S i)
/-- the sign at a place, 0 where there is none -/
def sg (n : Nat) (S : Nat → Nat) (i : Nat) : Nat := if i < n then S i else 0
theorem sg_lt {g : Mm} {n : Nat} {S : Nat → Nat} (h : PX g n S) (i : Nat) : sg n S i ≤ 126 := by
  unfold sg
  split
  · rename_i hi; exact (h.2.2 i hi).1
  · omega
theorem sg_in {n : Nat} {S : Nat → Nat} {i : Nat} (h : i < n) : sg n S i = S i := if_pos h
theorem fx_signAt {g : Mm} {n : Nat} {S : Nat → Nat} (h : PX g n S) {i : Nat} (hi : i < 1000) : f_X3_signAt g (nI i) = some (nI (sg n S i)) := by
  obtain ⟨h1, h2, h3⟩ := h
  unfold f_X3_signAt sg
  rw [h2]
  by_cases c : i < n
  · rw [if_neg (nI_ge c (by omega)), if_pos c, ob_b1_s (fx_at (by omega) (by decide)), (h3 i c).2]
  · rw [if_pos (nI_le (by omega) (by omega)), if_neg c]
    rfl
theorem fx_signNeg {g : Mm} {n : Nat} {S : Nat → Nat} (h : PX g n S) {x : Int32} (hx : x < 0) : f_X3_signAt g x = some 0 := by
  obtain ⟨h1, h2, h3⟩ := h
  unfold f_X3_signAt
  rw [h2]
  by_cases c : nI n ≤ x
  · rw [if_pos c]
  · rw [if_neg c, ob_b1_s (fx_at0 hx)]
def isN (a : Nat) : Bool := decide (97 ≤ a) && decide (a ≤ 106)
def isD (a : Nat) : Bool := decide (48 ≤ a) && decide (a ≤ 52)
theorem inr_sub {a lo c : Nat} (ha : a ≤ 126) (hlo : lo ≤ 126) (hc : c ≤ 9) : inr (nI a - nI lo) 0 (nI c) = (decide (lo ≤ a) && decide (a ≤ lo + c)) := by
  by_cases h : lo ≤ a
  · rw [pk_sub h]
    by_cases h2 : a ≤ lo + c
    · rw [inr_in (by omega) (by omega)]; simp [h, h2]
    · rw [inr_out (by omega) (by omega)]; simp [h2]
  · have h3 : nI a - nI lo < 0 := pk_sneg (by omega) (by omega)
    unfold inr
    simp [h, h3]
theorem fx_insultOf {g : Mm} {x : Int32} {a : Nat} (ha : a ≤ 126) (h : f_X3_signAt g x = some (nI a)) : f_X3_insultAt g x = some (if isN a then nI (a - 97) else -1) := by
  unfold f_X3_insultAt
  rw [ob_b1_s h, ob_b1_s (fx_isInsult _), show (97 : Int32) = nI 97 from rfl, show (9 : Int32) = nI 9 from rfl, inr_sub ha (by decide) (by decide)]
  unfold isN
  by_cases c : (decide (97 ≤ a) && decide (a ≤ 97 + 9)) = true
  · have c' := c
    simp only [Bool.and_eq_true, decide_eq_true_eq] at c'
    have c2 : (decide (97 ≤ a) && decide (a ≤ 106)) = true := c
    rw [c, if_neg (bnot rfl), if_pos rfl, pk_sub c'.1]
  · have c1 : (decide (97 ≤ a) && decide (a ≤ 97 + 9)) = false := by simpa using c
    have c2 : (decide (97 ≤ a) && decide (a ≤ 106)) = false := c1
    rw [c1, if_pos bf0]
    rfl
theorem fx_manOf {g : Mm} {x : Int32} {a : Nat} (ha : a ≤ 126) (h : f_X3_signAt g x = some (nI a)) : f_X3_manAt g x = some (if isD a then nI (a - 48) else -1) := by
  unfold f_X3_manAt
  rw [ob_b1_s h, ob_b1_s (fx_isMan _), show (48 : Int32) = nI 48 from rfl, show (4 : Int32) = nI 4 from rfl, inr_sub ha (by decide) (by decide)]
  unfold isD
  by_cases c : (decide (48 ≤ a) && decide (a ≤ 48 + 4)) = true
  · have c' := c
    simp only [Bool.and_eq_true, decide_eq_true_eq] at c'
    have c2 : (decide (48 ≤ a) && decide (a ≤ 52)) = true := c
    rw [c, if_neg (bnot rfl), if_pos rfl, pk_sub c'.1]
  · have c1 : (decide (48 ≤ a) && decide (a ≤ 48 + 4)) = false := by simpa using c
    have c2 : (decide (48 ≤ a) && decide (a ≤ 52)) = false := c1
    rw [c1, if_pos bf0]
    rfl
theorem fx_insultAt {g : Mm} {n : Nat} {S : Nat → Nat} (h : PX g n S) {i : Nat} (hi : i < 1000) : f_X3_insultAt g (nI i) = some (if isN (sg n S i) then nI (sg n S i - 97) else -1) := fx_insultOf (sg_lt h i) (fx_signAt h hi)
theorem fx_manAt {g : Mm} {n : Nat} {S : Nat → Nat} (h : PX g n S) {i : Nat} (hi : i < 1000) : f_X3_manAt g (nI i) = some (if isD (sg n S i) then nI (sg n S i - 48) else -1) := fx_manOf (sg_lt h i) (fx_signAt h hi)
/-- from place n - j on: the first place that does not stand -/
def sr (ok : Nat → Bool) (n : Nat) (fin : Int32) : Nat → Int32
  | 0 => fin
  | j + 1 => if ok (n - (j + 1)) then sr ok n fin j else nI (n - (j + 1))
def okS (S : Nat → Nat) (k : Nat) : Bool := if k % 2 = 0 then isN (S k) && !(decide (0 < k) && decide (S (k - 1) = 62) && decide (S k = S (k - 2))) else decide (S k = 62) || (decide (S k = 44) && decide (1 < k) && decide (S (k - 2) = 62))
def finS (n : Nat) (S : Nat → Nat) : Int32 := if n % 2 = 1 ∧ 1 < n ∧ S (n - 2) = 62 then -6 else nI n
theorem neg_lt (a b : Nat) (h : a < b) (hb : b < 100) : nI a - nI b < 0 := pk_sneg (by omega) h
theorem nI_ne_m1 {a : Nat} (h : a < 2 ^ 31) : ¬ nI a = -1 := fun z => nI_pos h (by rw [z]; decide)
theorem fx_standsInSteps {g : Mm} {n : Nat} {S : Nat → Nat} (h : PX g n S) {k : Nat} (hk : k < n) : f_X3_standsInSteps g (nI k) = some (bI (okS S k)) := by
  have h40 := h.1
  have hS := (h.2.2 k hk).1
  have hk2 : k % 2 < 2 := Nat.mod_lt _ (by decide)
  unfold f_X3_standsInSteps okS
  rw [rem2 (by omega)]
  by_cases e : k % 2 = 0
  · rw [if_pos (show nI (k % 2) = 0 by rw [e]; rfl), if_pos e, ob_b1_s (fx_insultAt h (by omega)), sg_in hk]
    have hJ : ∀ f : Int32, (f = 0 ∨ f = 1) → (f = 1 ↔ (0 < k ∧ S (k - 1) = 62)) → f_X3_standsInSteps_J29 g (nI k) (if isN (S k) then nI (S k - 97) else -1) f = some (bI (isN (S k) && !(decide (0 < k) && decide (S (k - 1) = 62) && decide (S k = S (k - 2))))) := by
      intro f hf01 hfi
      unfold f_X3_standsInSteps_J29 f_X3_standsInSteps_J49
      cases hN : isN (S k)
      · rw [if_pos (show (if false = true then nI (S k - 97) else (-1:Int32)) < 0 from (by decide : (-1:Int32) < 0))]
        rfl
      · rw [if_neg (show ¬ (if true = true then nI (S k - 97) else (-1:Int32)) < 0 from nI_pos (by omega))]
        by_cases hf : f = 0
        · rw [if_pos hf]
          have h0 : ¬ (0 < k ∧ S (k - 1) = 62) := fun z => by
            have := hfi.mpr z
            rw [hf] at this
            cases this
          by_cases hk0 : 0 < k
          · have h62 : ¬ S (k - 1) = 62 := fun z => h0 ⟨hk0, z⟩
            simp [h62]
          · simp [hk0]
        · rw [if_neg hf]
          have h1 : f = 1 := by rcases hf01 with h | h; exact absurd h hf; exact h
          obtain ⟨hk0, h62⟩ := hfi.mp h1
          have hk22 : 2 ≤ k := by omega
          rw [show (2 : Int32) = nI 2 from rfl, pk_sub hk22, ob_b1_s (fx_insultAt h (by omega)), sg_in (show k - 2 < n by omega)]
          have hS2 := (h.2.2 (k - 2) (by omega)).1
          have hNk : 97 ≤ S k ∧ S k ≤ 106 := by unfold isN at hN; simpa using hN
          by_cases e2 : S k = S (k - 2)
          · rw [← e2, hN, if_pos rfl]
            simp [hk0, h62]
          · have hne : ¬ (if isN (S (k - 2)) then nI (S (k - 2) - 97) else -1) = nI (S k - 97) := by
              cases hN2 : isN (S (k - 2))
              · rw [if_neg (by decide)]
                exact fun z => nI_ne_m1 (by omega) z.symm
              · rw [if_pos rfl]
                have hN2' : 97 ≤ S (k - 2) ∧ S (k - 2) ≤ 106 := by unfold isN at hN2; simpa using hN2
                intro z
                have := (nI_eq (by omega) (by omega)).mp z
                omega
            rw [if_neg (show ¬ (if isN (S (k - 2)) = true then nI (S (k - 2) - 97) else -1) = (if true = true then nI (S k - 97) else -1) from hne)]
            simp [e2]
    by_cases hk0 : 0 < k
    · rw [show (1 : Int32) = nI 1 from rfl, pk_sub (by omega), ob_b1_s (fx_signAt h (by omega)), sg_in (show k - 1 < n by omega)]
      have hS1 := (h.2.2 (k - 1) (by omega)).1
      by_cases h62 : S (k - 1) = 62
      · rw [if_pos (show nI (S (k - 1)) = 62 by rw [h62]; rfl)]
        exact hJ _ (Or.inr rfl) ⟨fun _ => ⟨hk0, h62⟩, fun _ => rfl⟩
      · rw [if_neg (show ¬ nI (S (k - 1)) = 62 from fun z => h62 ((nI_eq (b := 62) (by omega) (by decide)).mp z))]
        exact hJ 0 (Or.inl rfl) ⟨fun z => absurd z (by decide), fun z => absurd z.2 h62⟩
    · have hk00 : k = 0 := by omega
      subst hk00
      rw [ob_b1_s (fx_signNeg h (x := nI 0 - 1) (by decide)), if_neg (by decide)]
      exact hJ 0 (Or.inl rfl) ⟨fun z => absurd z (by decide), fun z => absurd z.1 (by decide)⟩
  · have e1 : k % 2 = 1 := by omega
    rw [if_neg (show ¬ nI (k % 2) = 0 by rw [e1]; decide), if_neg e, ob_b1_s (fx_signAt h (by omega)), sg_in hk]
    by_cases h62 : S k = 62
    · rw [if_pos (show nI (S k) = 62 by rw [h62]; rfl)]
      simp [h62]
    · rw [if_neg (show ¬ nI (S k) = 62 from fun z => h62 ((nI_eq (b := 62) (by omega) (by decide)).mp z)), ob_b1_s (fx_signAt h (by omega)), sg_in hk]
      by_cases h44 : S k = 44
      · rw [if_pos (show nI (S k) = 44 by rw [h44]; rfl)]
        by_cases hk1 : 1 < k
        · rw [show (2 : Int32) = nI 2 from rfl, pk_sub (by omega), ob_b1_s (fx_signAt h (by omega)), sg_in (show k - 2 < n by omega)]
          have hS2 := (h.2.2 (k - 2) (by omega)).1
          by_cases h622 : S (k - 2) = 62
          · rw [if_pos (show nI (S (k - 2)) = 62 by rw [h622]; rfl)]
            simp [h44, hk1, h622]
          · rw [if_neg (show ¬ nI (S (k - 2)) = 62 from fun z => h622 ((nI_eq (b := 62) (by omega) (by decide)).mp z))]
            simp [h62, h622]
        · have hk11 : k = 1 := by omega
          subst hk11
          rw [ob_b1_s (fx_signNeg h (x := nI 1 - 2) (by decide)), if_neg (by decide)]
          simp [h62]
      · rw [if_neg (show ¬ nI (S k) = 44 from fun z => h44 ((nI_eq (b := 44) (by omega) (by decide)).mp z))]
        simp [h62, h44]
theorem fx_faultAsSteps {g : Mm} {n : Nat} {S : Nat → Nat} (h : PX g n S) : f_X3_faultAsSteps g = some (sr (okS S) n (finS n S) n) := by
  have h40 := h.1
  have key : ∀ (m k : Nat), k ≤ n → n < k + m → f_X3_faultAsSteps_L2 g (f_X3_faultAsSteps_J55 g) (f_X3_faultAsSteps_J56 g) m (nI k) = some (sr (okS S) n (finS n S) (n - k)) := by
    intro m
    induction m with
    | zero => intro k h1 h2; omega
    | succ m ih =>
      intro k h1 h2
      unfold f_X3_faultAsSteps_L2
      rw [h.2.1]
      rcases Nat.lt_or_ge k n with q | q
      · rw [if_neg (nI_ge q (by omega)), ob_b1_s (fx_standsInSteps h q)]
        have e : n - k = (n - (k + 1)) + 1 := by omega
        rw [e]
        have e2 : n - ((n - (k + 1)) + 1) = k := by omega
        have e3 : sr (okS S) n (finS n S) (n - (k + 1) + 1) = if okS S (n - ((n - (k + 1)) + 1)) then sr (okS S) n (finS n S) (n - (k + 1)) else nI (n - ((n - (k + 1)) + 1)) := rfl
        rw [e3, e2]
        cases okS S k
        · rw [if_pos bf0, if_neg (by decide)]
        · rw [if_neg (bnot rfl), if_pos rfl, nI_1]
          exact ih (k + 1) (by omega) (by omega)
      · have e : k = n := by omega
        subst e
        rw [if_pos (nI_le (Nat.le_refl k) (by omega)), Nat.sub_self, rem2 (by omega)]
        show _ = some (finS k S)
        unfold finS
        by_cases hodd : k % 2 = 1
        · rw [if_pos (show nI (k % 2) = 1 by rw [hodd]; rfl)]
          by_cases hk1 : 1 < k
          · rw [show (2 : Int32) = nI 2 from rfl, pk_sub (by omega), ob_b1_s (fx_signAt h (by omega)), sg_in (show k - 2 < k by omega)]
            have hS2 := (h.2.2 (k - 2) (by omega)).1
            by_cases h62 : S (k - 2) = 62
            · rw [if_pos (show nI (S (k - 2)) = 62 by rw [h62]; rfl), if_pos ⟨hodd, hk1, h62⟩]
              rfl
            · rw [if_neg (show ¬ nI (S (k - 2)) = 62 from fun z => h62 ((nI_eq (b := 62) (by omega) (by decide)).mp z)), if_neg (fun z => h62 z.2.2)]
              unfold f_X3_faultAsSteps_J55 f_X3_faultAsSteps_J56
              rw [if_pos rfl, h.2.1]
          · have hk11 : k = 1 := by omega
            subst hk11
            rw [ob_b1_s (fx_signNeg h (x := nI 1 - 2) (by decide)), if_neg (by decide), if_neg (fun z => absurd z.2.1 (by decide))]
            unfold f_X3_faultAsSteps_J55 f_X3_faultAsSteps_J56
            rw [if_pos rfl, h.2.1]
        · have hev : k % 2 = 0 := by omega
          rw [if_neg (show ¬ nI (k % 2) = 1 by rw [hev]; decide), if_neg (fun z => hodd z.1)]
          unfold f_X3_faultAsSteps_J55 f_X3_faultAsSteps_J56
          rw [if_pos rfl, h.2.1]
  unfold f_X3_faultAsSteps
  obtain ⟨z, hz⟩ := FU_ge (n := 50) (by decide)
  exact key FU 0 (by omega) (by omega)
/-- the reference's state ahead of place k -/
def stt (S : Nat → Nat) (k : Nat) : Nat := if k % 2 = 0 then (if 0 < k ∧ S (k - 1) = 62 then 2 else 0) else (if 1 < k ∧ S (k - 2) = 62 then 3 else 1)
theorem inrN {a : Nat} (ha : a ≤ 126) : inr (nI a) 97 106 = isN a := by
  unfold isN inr
  by_cases h1 : 97 ≤ a
  · by_cases h2 : a ≤ 106
    · have e1 : ¬ nI a < 97 := nI_nlt (b := 97) h1 (by omega)
      have e2 : ¬ 106 < nI a := nI_nlt (a := 106) h2 (by decide)
      simp [h1, h2, e1, e2]
    · have e2 : 106 < nI a := nI_lt (a := 106) (by omega) (by omega)
      simp [h2, e2]
  · have e1 : nI a < 97 := nI_lt (b := 97) (by omega) (by decide)
    simp [h1, e1]
theorem inrD {a : Nat} (ha : a ≤ 126) : inr (nI a) 48 52 = isD a := by
  unfold isD inr
  by_cases h1 : 48 ≤ a
  · by_cases h2 : a ≤ 52
    · have e1 : ¬ nI a < 48 := nI_nlt (b := 48) h1 (by omega)
      have e2 : ¬ 52 < nI a := nI_nlt (a := 52) h2 (by decide)
      simp [h1, h2, e1, e2]
    · have e2 : 52 < nI a := nI_lt (a := 52) (by omega) (by omega)
      simp [h2, e2]
  · have e1 : nI a < 48 := nI_lt (b := 48) (by omega) (by decide)
    simp [h1, e1]
theorem fm_stepsFault {g : Mm} {n : Nat} {S : Nat → Nat} (h : PU g n S) : f_X7_stepsFault g = some (sr (okS S) n (finS n S) n) := by
  have h40 := h.1
  have key : ∀ (m k : Nat), k ≤ n → n < k + m → f_X7_stepsFault_L4 g m (nI (stt S k)) (nI k) = some (sr (okS S) n (finS n S) (n - k)) := by
    intro m
    induction m with
    | zero => intro k h1 h2; omega
    | succ m ih =>
      intro k h1 h2
      unfold f_X7_stepsFault_L4
      rw [h.2.1]
      rcases Nat.lt_or_ge k n with q | q
      · have hS := (h.2.2 k q).1
        rw [if_neg (nI_ge q (by omega)), ob_b1_s (ob_ld_nI (by omega) (by decide)), (h.2.2 k q).2]
        have e : n - k = (n - (k + 1)) + 1 := by omega
        have e2 : n - ((n - (k + 1)) + 1) = k := by omega
        have e3 : sr (okS S) n (finS n S) (n - (k + 1) + 1) = if okS S (n - ((n - (k + 1)) + 1)) then sr (okS S) n (finS n S) (n - (k + 1)) else nI (n - ((n - (k + 1)) + 1)) := rfl
        rw [e, e3, e2]
        have hgo : ∀ v : Int32, (okS S k = true → v = nI (stt S (k + 1))) → (okS S k = false → v = -6) → f_X7_stepsFault_J105 g (f_X7_stepsFault_L4 g m) (nI k) v = some (if okS S k then sr (okS S) n (finS n S) (n - (k + 1)) else nI k) := by
          intro v h3 h4
          unfold f_X7_stepsFault_J105
          cases ho : okS S k
          · rw [h4 ho, if_neg (by decide), if_neg (by decide)]
          · have hst : stt S (k + 1) ≤ 3 := by unfold stt; split <;> split <;> omega
            rw [h3 ho, if_pos (nI_pos' (by omega)), if_pos rfl, nI_1]
            exact ih (k + 1) (by omega) (by omega)
        unfold f_X7_stepsFault_J36 f_X7_stepsFault_J69 f_X7_stepsFault_J71 f_X7_stepsFault_J101 f_X7_stepsFault_J103
        by_cases hev : k % 2 = 0
        · have hk1 : (k + 1) % 2 = 1 := by omega
          by_cases hc : 0 < k ∧ S (k - 1) = 62
          · have est : stt S k = 2 := by unfold stt; rw [if_pos hev, if_pos hc]
            have est2 : stt S (k + 1) = 3 := by
              unfold stt
              rw [if_neg (by omega), if_pos ⟨by omega, by rw [show k + 1 - 2 = k - 1 by omega]; exact hc.2⟩]
            have eok : okS S k = (isN (S k) && !decide (S k = S (k - 2))) := by
              unfold okS
              rw [if_pos hev]
              simp [hc.1, hc.2]
            rw [est, if_neg (show ¬ nI 2 = 0 by decide), if_pos (show nI 2 = 2 from rfl), ob_b1_s (fm_isName _), inrN hS]
            cases hN : isN (S k)
            · rw [if_pos bf0]
              exact hgo _ (fun z => by rw [eok, hN] at z; cases z) (fun _ => rfl)
            · have hS2 := (h.2.2 (k - 2) (by omega))
              rw [if_neg (bnot rfl), show (2 : Int32) = nI 2 from rfl, pk_sub (by omega), ob_b1_s (ob_ld_nI (by omega) (by decide)), hS2.2]
              by_cases e4 : S k = S (k - 2)
              · rw [if_pos (by rw [e4])]
                exact hgo _ (fun z => by rw [eok, hN] at z; simp [e4] at z) (fun _ => rfl)
              · rw [if_neg (fun z => e4 ((nI_eq (by omega) (by omega)).mp z))]
                exact hgo _ (fun _ => by rw [est2]; rfl) (fun z => by rw [eok, hN] at z; simp [e4] at z)
          · have est : stt S k = 0 := by unfold stt; rw [if_pos hev, if_neg hc]
            have est2 : stt S (k + 1) = 1 := by
              unfold stt
              rw [if_neg (by omega), if_neg (fun z => hc ⟨by omega, by have := z.2; rw [show k + 1 - 2 = k - 1 by omega] at this; exact this⟩)]
            have eok : okS S k = isN (S k) := by
              unfold okS
              rw [if_pos hev]
              by_cases hk0 : 0 < k
              · have h62 : ¬ S (k - 1) = 62 := fun z => hc ⟨hk0, z⟩
                simp [h62]
              · simp [hk0]
            rw [est, if_pos (show nI 0 = 0 from rfl), ob_b1_s (fm_isName _), inrN hS]
            cases hN : isN (S k)
            · rw [if_pos bf0]
              exact hgo _ (fun z => by rw [eok, hN] at z; cases z) (fun _ => rfl)
            · rw [if_neg (bnot rfl)]
              exact hgo _ (fun _ => by rw [est2]; rfl) (fun z => by rw [eok, hN] at z; cases z)
        · have hodd : k % 2 = 1 := by omega
          have hk1 : (k + 1) % 2 = 0 := by omega
          have eok : okS S k = (decide (S k = 62) || (decide (S k = 44) && decide (1 < k) && decide (S (k - 2) = 62))) := by unfold okS; rw [if_neg hev]
          have est2 : stt S (k + 1) = if S k = 62 then 2 else 0 := by
            unfold stt
            rw [if_pos hk1, show k + 1 - 1 = k by omega]
            by_cases h62 : S k = 62
            · rw [if_pos ⟨by omega, h62⟩, if_pos h62]
            · rw [if_neg (fun z => h62 z.2), if_neg h62]
          have est : stt S k = if 1 < k ∧ S (k - 2) = 62 then 3 else 1 := by unfold stt; rw [if_neg hev]
          have hst0 : ¬ nI (stt S k) = 0 := by rw [est]; split <;> decide
          have hst2 : ¬ nI (stt S k) = 2 := by rw [est]; split <;> decide
          rw [if_neg hst0, if_neg hst2]
          by_cases h62 : S k = 62
          · rw [if_pos (show nI (S k) = 62 by rw [h62]; rfl)]
            exact hgo _ (fun _ => by rw [est2, if_pos h62]; rfl) (fun z => by rw [eok] at z; simp [h62] at z)
          · rw [if_neg (show ¬ nI (S k) = 62 from fun z => h62 ((nI_eq (b := 62) (by omega) (by decide)).mp z))]
            by_cases h44 : S k = 44
            · rw [if_pos (show nI (S k) = 44 by rw [h44]; rfl)]
              by_cases hc : 1 < k ∧ S (k - 2) = 62
              · rw [if_pos (show nI (stt S k) = 3 by rw [est, if_pos hc]; rfl)]
                exact hgo _ (fun _ => by rw [est2, if_neg h62]; rfl) (fun z => by rw [eok] at z; simp [h44, hc.1, hc.2] at z)
              · rw [if_neg (show ¬ nI (stt S k) = 3 by rw [est, if_neg hc]; decide)]
                refine hgo _ (fun z => ?_) (fun _ => rfl)
                rw [eok] at z
                simp only [Bool.or_eq_true, Bool.and_eq_true, decide_eq_true_eq] at z
                rcases z with z | ⟨⟨-, z1⟩, z2⟩
                · exact absurd z h62
                · exact absurd ⟨z1, z2⟩ hc
            · rw [if_neg (show ¬ nI (S k) = 44 from fun z => h44 ((nI_eq (b := 44) (by omega) (by decide)).mp z))]
              refine hgo _ (fun z => ?_) (fun _ => rfl)
              rw [eok] at z
              simp [h62, h44] at z
      · have e : k = n := by omega
        subst e
        rw [if_pos (nI_le (Nat.le_refl k) (by omega)), Nat.sub_self]
        show _ = some (finS k S)
        unfold finS
        by_cases hc : k % 2 = 1 ∧ 1 < k ∧ S (k - 2) = 62
        · have est : stt S k = 3 := by unfold stt; rw [if_neg (by omega), if_pos hc.2]
          rw [est, if_pos (show nI 3 = 3 from rfl), if_pos hc]
        · have est : ¬ nI (stt S k) = 3 := by
            unfold stt
            by_cases hev : k % 2 = 0
            · rw [if_pos hev]; split <;> decide
            · rw [if_neg hev, if_neg (fun z => hc ⟨by omega, z⟩)]; decide
          rw [if_neg est, if_neg hc]
  unfold f_X7_stepsFault
  obtain ⟨z, hz⟩ := FU_ge (n := 50) (by decide)
  have h0 := key FU 0 (by omega) (by omega)
  exact h0
