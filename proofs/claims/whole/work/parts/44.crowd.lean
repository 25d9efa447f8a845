/-! A crowd: who can speak on one day. -/
theorem ff_t {P : Prop} (h : false = true) : P := by cases h
def an (f : Nat → Bool) : Nat → Bool
  | 0 => false
  | n + 1 => an f n || f n
theorem an_iff (f : Nat → Bool) : ∀ n, an f n = true ↔ ∃ i, i < n ∧ f i = true
  | 0 => ⟨ff_t, fun ⟨i, h, _⟩ => absurd h (Nat.not_lt_zero i)⟩
  | n + 1 => by
    show (an f n || f n) = true ↔ _
    rw [Bool.or_eq_true, an_iff f n]
    constructor
    · rintro (⟨i, h1, h2⟩ | h)
      · exact ⟨i, by omega, h2⟩
      · exact ⟨n, by omega, h⟩
    · rintro ⟨i, h1, h2⟩
      by_cases e : i = n
      · right; rw [← e]; exact h2
      · left; exact ⟨i, by omega, h2⟩
def el1 (W F K : Nat → Nat) : List Nat → Nat → Nat → Nat → Bool
  | [], _, _, _ => true
  | m :: l, pm, last, fl => an (fun y => (((K m).testBit y && ((W last).testBit y && (F pm).testBit y)) && !fl.testBit y) && el1 W F K l m y (fl ||| 2 ^ y)) 10
def hdF (F : Nat → Nat) : List Nat → Nat → Bool
  | [], _ => true
  | m :: _, y => (F m).testBit y
def el0 (W F K : Nat → Nat) : List Nat → Bool
  | [] => true
  | m :: l => an (fun y => ((K m).testBit y && hdF F l y) && el1 W F K l m y (2 ^ y)) 10
def lst : List Nat → Nat → Prop
  | [], r => r = 0
  | m :: l, r => m < 5 ∧ r.testBit m = true ∧ lst l (dif r (2 ^ m))
theorem el1_iff {W F K : Nat → Nat} {m : Nat} {l : List Nat} {pm last fl : Nat} : el1 W F K (m :: l) pm last fl = true ↔ ∃ y, y < 10 ∧ (K m).testBit y = true ∧ (W last).testBit y = true ∧ (F pm).testBit y = true ∧ fl.testBit y = false ∧ el1 W F K l m y (fl ||| 2 ^ y) = true := by
  show an _ 10 = true ↔ _
  rw [an_iff]
  constructor
  · rintro ⟨y, h1, h2⟩
    simp only [Bool.and_eq_true, Bool.not_eq_true'] at h2
    exact ⟨y, h1, h2.1.1.1, h2.1.1.2.1, h2.1.1.2.2, h2.1.2, h2.2⟩
  · rintro ⟨y, h1, h2, h3, h4, h5, h6⟩
    refine ⟨y, h1, ?_⟩
    simp only [Bool.and_eq_true, Bool.not_eq_true']
    exact ⟨⟨⟨h2, h3, h4⟩, h5⟩, h6⟩
theorem el0_iff {W F K : Nat → Nat} {m : Nat} {l : List Nat} : el0 W F K (m :: l) = true ↔ ∃ y, y < 10 ∧ (K m).testBit y = true ∧ hdF F l y = true ∧ el1 W F K l m y (2 ^ y) = true := by
  show an _ 10 = true ↔ _
  rw [an_iff]
  constructor
  · rintro ⟨y, h1, h2⟩
    simp only [Bool.and_eq_true] at h2
    exact ⟨y, h1, h2.1.1, h2.1.2, h2.2⟩
  · rintro ⟨y, h1, h2, h3, h4⟩
    refine ⟨y, h1, ?_⟩
    simp only [Bool.and_eq_true]
    exact ⟨⟨h2, h3⟩, h4⟩
def DY (W F K : Nat → Nat) (set : Nat) : Prop := ∃ l, lst l set ∧ el0 W F K l = true
def GO (W F K : Nat → Nat) (rest man fl x : Nat) : Prop := ∃ l, lst l rest ∧ (fl = 2 ^ x → hdF F l x = true) ∧ el1 W F K l man x fl = true
def HP (W F K : Nat → Nat) (rest man h : Nat) : Prop := h < 1024 ∧ sub10 h (K man) ∧ ∀ x, x < 10 → (K man).testBit x = true → (∃ l fl, lst l rest ∧ el1 W F K l man x fl = true) → h.testBit x = true
/-- what the class has laid out for its search -/
def CX (W F K : Nat → Nat) (men : Nat) (t : Nat) (g : Mm) : Prop := TW g 3 10 W ∧ TW g 6 5 K ∧ TW g 20 5 F ∧ ∀ rest man, rest < t → sub10 rest men → man < 5 → rest.testBit man = false → ∃ h, g 21 (rest * 5 + man) = nI h ∧ HP W F K rest man h
theorem dif_or {a m : Nat} (ha : a < 1024) (h : a.testBit m = true) : dif a (2 ^ m) ||| 2 ^ m = a := by
  apply bit_ext
  intro i
  rw [Nat.testBit_or, dif_bit ha, Nat.testBit_two_pow]
  by_cases e : m = i
  · subst e; simp [h]
  · simp [e]
theorem dif_no {a m : Nat} (ha : a < 1024) : (dif a (2 ^ m)).testBit m = false := by
  rw [dif_bit ha, Nat.testBit_two_pow_self]
  simp
theorem dif_id {a m : Nat} (ha : a < 1024) (h : a.testBit m = false) : dif a (2 ^ m) = a := by
  apply bit_ext
  intro i
  rw [dif_bit ha, Nat.testBit_two_pow]
  by_cases e : m = i
  · subst e; simp [h]
  · simp [e]
theorem dif_ne {a m : Nat} (ha : a < 1024) (h : a.testBit m = true) : dif a (2 ^ m) ≠ a := by
  intro e
  have h1 := dif_no (m := m) ha
  rw [e, h] at h1
  cases h1
theorem dif_sub {a b : Nat} (ha : a < 1024) : sub10 (dif a b) a := by
  intro i h
  rw [dif_bit ha, Bool.and_eq_true] at h
  exact h.1
theorem dif_le {a b : Nat} : dif a b ≤ a := Nat.and_le_left
theorem dif_zero {a b : Nat} (ha : a < 1024) : dif a b = 0 ↔ sub10 a b := by
  constructor
  · intro h i hi
    have h1 := dif_bit (b := b) ha i
    rw [h, Nat.zero_testBit, hi] at h1
    simpa using h1.symm
  · intro h
    apply bit_ext
    intro i
    rw [dif_bit ha, Nat.zero_testBit]
    cases h1 : a.testBit i
    · rfl
    · rw [h i h1]; rfl
theorem card_dif {a m : Nat} (ha : a < 1024) (hm : m < 10) (h : a.testBit m = true) : card (dif a (2 ^ m)) + 1 = card a := by
  have h1 := card_or hm (dif_no (m := m) ha)
  rw [dif_or ha h] at h1
  exact h1.symm
theorem lt_32 {a m : Nat} (h : a < 32) (hb : a.testBit m = true) : m < 5 := by
  rcases Nat.lt_or_ge m 5 with h1 | h1
  · exact h1
  · rw [bit_lt (n := 5) h h1] at hb; cases hb
theorem GO_iff {W F K : Nat → Nat} {rest man fl x : Nat} (hr : rest < 1024) (h0 : rest ≠ 0) (hx : fl.testBit x = true) : GO W F K rest man fl x ↔ ∃ j, j < 5 ∧ rest.testBit j = true ∧ (fl = 2 ^ x → (F j).testBit x = true) ∧ ∃ y, y < 10 ∧ (W x).testBit y = true ∧ (F man).testBit y = true ∧ fl.testBit y = false ∧ (K j).testBit y = true ∧ GO W F K (dif rest (2 ^ j)) j (fl ||| 2 ^ y) y := by
  constructor
  · rintro ⟨l, h1, h2, h3⟩
    cases l with
    | nil => exact absurd h1 h0
    | cons m l =>
      obtain ⟨y, a1, a2, a3, a4, a5, a6⟩ := el1_iff.mp h3
      refine ⟨m, h1.1, h1.2.1, h2, y, a1, a3, a4, a5, a2, l, h1.2.2, fun z => ?_, a6⟩
      exfalso
      have h4 : (fl ||| 2 ^ y).testBit x = true := by rw [Nat.testBit_or, hx]; rfl
      rw [z, Nat.testBit_two_pow] at h4
      have h5 : y = x := by simpa using h4
      rw [h5, hx] at a5
      cases a5
  · rintro ⟨j, h1, h2, h3, y, a1, a2, a3, a4, a5, l, b1, b2, b3⟩
    exact ⟨j :: l, ⟨h1, h2, b1⟩, h3, el1_iff.mpr ⟨y, a1, a5, a2, a3, a4, b3⟩⟩
theorem DY_iff {W F K : Nat → Nat} {set : Nat} (h0 : set ≠ 0) : DY W F K set ↔ ∃ j, j < 5 ∧ set.testBit j = true ∧ ∃ y, y < 10 ∧ (K j).testBit y = true ∧ GO W F K (dif set (2 ^ j)) j (2 ^ y) y := by
  constructor
  · rintro ⟨l, h1, h2⟩
    cases l with
    | nil => exact absurd h1 h0
    | cons m l =>
      obtain ⟨y, a1, a2, a3, a4⟩ := el0_iff.mp h2
      exact ⟨m, h1.1, h1.2.1, y, a1, a2, l, h1.2.2, fun _ => a3, a4⟩
  · rintro ⟨j, h1, h2, y, a1, a2, l, b1, b2, b3⟩
    exact ⟨j :: l, ⟨h1, h2, b1⟩, el0_iff.mpr ⟨y, a1, a2, b2 rfl, b3⟩⟩
theorem fx_hopeful {g : Mm} {rest man : Nat} (hr : rest < 32) (hm : man < 5) : f_X1_hopeful g (nI rest) (nI man) = some (g 21 (rest * 5 + man)) := by
  unfold f_X1_hopeful
  rw [show (5 : Int32) = nI 5 from rfl, pk_mul, nI_add, ob_b1_s (fx_at (by omega) (by decide))]
/-- the inner choice, with and without the class's spared searches -/
theorem hope_same {W F K : Nat → Nat} {rest j h ans fl : Nat} (hh : HP W F K rest j h) : (∃ y, y < 10 ∧ (ans &&& h).testBit y = true ∧ GO W F K rest j (fl ||| 2 ^ y) y) ↔ ∃ y, y < 10 ∧ ans.testBit y = true ∧ (K j).testBit y = true ∧ GO W F K rest j (fl ||| 2 ^ y) y := by
  constructor
  · rintro ⟨y, a1, a2, a3⟩
    rw [Nat.testBit_and, Bool.and_eq_true] at a2
    exact ⟨y, a1, a2.1, hh.2.1 y a2.2, a3⟩
  · rintro ⟨y, a1, a2, a3, l, b1, b2, b3⟩
    refine ⟨y, a1, ?_, l, b1, b2, b3⟩
    rw [Nat.testBit_and, a2, hh.2.2 y a1 a3 ⟨l, _, b1, b3⟩]
    rfl
theorem fx_canSayOne {W F K : Nat → Nat} {men : Nat} {g : Mm} (hC : CX W F K men 32 g) (hW : ∀ i, i < 10 → W i < 1024) (hF : ∀ i, i < 5 → F i < 1024) : ∀ (n rest man fl say : Nat), card rest < n → rest < 32 → sub10 rest men → man < 5 → rest.testBit man = false → fl < 1024 → say < 1024 → ∃ b, fN_X1_canSayOne n g (nI rest) (nI man) (nI fl) (nI say) = some (bI b) ∧ (b = true ↔ ∃ x, x < 10 ∧ say.testBit x = true ∧ GO W F K rest man (fl ||| 2 ^ x) x) := by
  obtain ⟨z, hz⟩ := FU_ge (n := 11) (by decide)
  intro n
  induction n with
  | zero => intro rest man fl say h; omega
  | succ n ih =>
    intro rest man fl say hc hr hs hm hrm hfl hsay
    -- going on after an insult
    have goOn : ∀ (fl x : Nat), fl < 1024 → x < 10 → fl.testBit x = true → ∃ b, f_X1_canGoOn (fN_X1_canSayOne n) g (nI rest) (nI man) (nI fl) (nI x) = some (bI b) ∧ (b = true ↔ GO W F K rest man fl x) := by
      intro fl x hfl hx hfx
      unfold f_X1_canGoOn
      by_cases h0 : rest = 0
      · rw [if_pos (show nI rest = 0 by rw [h0]; rfl)]
        exact ⟨true, rfl, fun _ => ⟨[], h0, fun _ => rfl, rfl⟩, fun _ => rfl⟩
      · have hWx := hW x hx
        have hFm := hF man hm
        have hand := and_lt (b := F man) hWx
        have hans := dif_lt (b := fl) hand
        have ansb : ∀ y, (dif (W x &&& F man) fl).testBit y = (((W x).testBit y && (F man).testBit y) && !fl.testBit y) := fun y => by rw [dif_bit hand, Nat.testBit_and]
        rw [if_neg (show ¬ nI rest = 0 from fun z => h0 ((nI_eq (b := 0) (by omega) (by decide)).mp z)), ob_b1_s (fx_worse hx), show g (2 + 1) x = nI (W x) from hC.1 x hx, ob_b1_s (fx_at hm (by decide)), hC.2.2.1 man hm, pb_and, pb_dif hand]
        by_cases ha0 : dif (W x &&& F man) fl = 0
        · rw [if_pos (show nI _ = 0 by rw [ha0]; rfl)]
          refine ⟨false, rfl, ff_t, fun z => ?_⟩
          obtain ⟨j, -, -, -, y, -, b2, b3, b4, -, -⟩ := (GO_iff (by omega) h0 hfx).mp z
          have := ansb y
          rw [ha0, Nat.zero_testBit, b2, b3, b4] at this
          cases this
        · have key : ∀ (s0 : Int32) (first : Prop), (s0 = 0 → ¬ first) → (¬ s0 = 0 → first) → (first ↔ fl = 2 ^ x) → ∀ (m i : Nat), i ≤ 5 → 5 < i + m →
              (∀ j, j < i → ¬ (rest.testBit j = true ∧ (fl = 2 ^ x → (F j).testBit x = true) ∧ ∃ y, y < 10 ∧ (dif (W x &&& F man) fl).testBit y = true ∧ (K j).testBit y = true ∧ GO W F K (dif rest (2 ^ j)) j (fl ||| 2 ^ y) y)) →
              ∃ b, f_X1_canGoOn_L55 (fN_X1_canSayOne n) g m (nI rest) (nI fl) (nI x) (nI (dif (W x &&& F man) fl)) s0 (nI i) = some (bI b) ∧ (b = true ↔ ∃ j, j < 5 ∧ rest.testBit j = true ∧ (fl = 2 ^ x → (F j).testBit x = true) ∧ ∃ y, y < 10 ∧ (dif (W x &&& F man) fl).testBit y = true ∧ (K j).testBit y = true ∧ GO W F K (dif rest (2 ^ j)) j (fl ||| 2 ^ y) y) := by
            intro s0 first hs1 hs2 hs3 m
            induction m with
            | zero => intro i h1 h2; omega
            | succ m ihm =>
              intro i h1 h2 h3
              unfold f_X1_canGoOn_L55
              rcases Nat.lt_or_ge i 5 with q | q
              · rw [if_neg (show ¬ (5 : Int32) ≤ nI i from nI_ge q (by decide)), pb_sh1 i (by omega), pb_dif (show rest < 1024 by omega)]
                unfold f_X1_canGoOn_J127 f_X1_canGoOn_J102
                have next : ¬ (rest.testBit i = true ∧ (fl = 2 ^ x → (F i).testBit x = true) ∧ ∃ y, y < 10 ∧ (dif (W x &&& F man) fl).testBit y = true ∧ (K i).testBit y = true ∧ GO W F K (dif rest (2 ^ i)) i (fl ||| 2 ^ y) y) → ∃ b, f_X1_canGoOn_L55 (fN_X1_canSayOne n) g m (nI rest) (nI fl) (nI x) (nI (dif (W x &&& F man) fl)) s0 (nI i + 1) = some (bI b) ∧ (b = true ↔ ∃ j, j < 5 ∧ rest.testBit j = true ∧ (fl = 2 ^ x → (F j).testBit x = true) ∧ ∃ y, y < 10 ∧ (dif (W x &&& F man) fl).testBit y = true ∧ (K j).testBit y = true ∧ GO W F K (dif rest (2 ^ j)) j (fl ||| 2 ^ y) y) := by
                  intro h4
                  rw [nI_1]
                  refine ihm (i + 1) (by omega) (by omega) (fun j hj => ?_)
                  by_cases e : j = i
                  · rw [e]; exact h4
                  · exact h3 j (by omega)
                cases hb : rest.testBit i
                · rw [if_pos (by rw [dif_id (by omega) hb])]
                  exact next (fun z => by rw [hb] at z; exact absurd z.1 (by decide))
                · have hne := dif_ne (show rest < 1024 by omega) hb
                  have hl32 : dif rest (2 ^ i) < 32 := Nat.lt_of_le_of_lt dif_le hr
                  rw [if_neg (fun z => hne ((nI_eq (by omega) (by omega)).mp z))]
                  have hcard := card_dif (show rest < 1024 by omega) (show i < 10 by omega) hb
                  have hsub : sub10 (dif rest (2 ^ i)) men := fun k hk => hs k (dif_sub (by omega) k hk)
                  obtain ⟨h, e1, e2⟩ := hC.2.2.2 (dif rest (2 ^ i)) i hl32 hsub q (dif_no (by omega))
                  obtain ⟨b, e3, e4⟩ := ih (dif rest (2 ^ i)) i fl (dif (W x &&& F man) fl &&& h) (by omega) hl32 hsub q (dif_no (by omega)) hfl (and_lt hans)
                  rw [hope_same e2] at e4
                  have try' : (fl = 2 ^ x → (F i).testBit x = true) → ∃ b, (ob_b1 (f_X1_hopeful g (nI (dif rest (2 ^ i))) (nI i)) fun v12 => ob_b1 (fN_X1_canSayOne n g (nI (dif rest (2 ^ i))) (nI i) (nI fl) (nI (dif (W x &&& F man) fl) &&& v12)) fun v13 => if v13 = 0 then f_X1_canGoOn_L55 (fN_X1_canSayOne n) g m (nI rest) (nI fl) (nI x) (nI (dif (W x &&& F man) fl)) s0 (nI i + 1) else some 1) = some (bI b) ∧ (b = true ↔ ∃ j, j < 5 ∧ rest.testBit j = true ∧ (fl = 2 ^ x → (F j).testBit x = true) ∧ ∃ y, y < 10 ∧ (dif (W x &&& F man) fl).testBit y = true ∧ (K j).testBit y = true ∧ GO W F K (dif rest (2 ^ j)) j (fl ||| 2 ^ y) y) := by
                    intro hfirst
                    rw [ob_b1_s (fx_hopeful hl32 q), e1, pb_and, ob_b1_s e3]
                    cases b
                    · rw [if_pos bf0]
                      exact next (fun z => absurd (e4.mpr z.2.2) (by decide))
                    · rw [if_neg (bnot rfl)]
                      exact ⟨true, rfl, fun _ => ⟨i, q, hb, hfirst, e4.mp rfl⟩, fun _ => rfl⟩
                  by_cases hs0 : s0 = 0
                  · rw [if_pos hs0]
                    exact try' (fun z => absurd (hs3.mpr z) (hs1 hs0))
                  · have hFi := hF i q
                    rw [if_neg hs0, ob_b1_s (fx_at q (by decide)), hC.2.2.1 i q, ob_b1_s (fx_has (by omega) (by omega))]
                    cases hb2 : (F i).testBit x
                    · rw [if_pos bf0]
                      exact next (fun z => by have := z.2.1 (hs3.mp (hs2 hs0)); rw [hb2] at this; cases this)
                    · rw [if_neg (bnot rfl)]
                      exact try' (fun _ => hb2)
              · have e : i = 5 := by omega
                subst e
                rw [if_pos (show (5 : Int32) ≤ nI 5 by decide)]
                refine ⟨false, rfl, ff_t, fun ⟨j, h4, h5⟩ => absurd h5 (h3 j h4)⟩
          have fin : (∃ j, j < 5 ∧ rest.testBit j = true ∧ (fl = 2 ^ x → (F j).testBit x = true) ∧ ∃ y, y < 10 ∧ (dif (W x &&& F man) fl).testBit y = true ∧ (K j).testBit y = true ∧ GO W F K (dif rest (2 ^ j)) j (fl ||| 2 ^ y) y) ↔ GO W F K rest man fl x := by
            rw [GO_iff (by omega) h0 hfx]
            constructor
            · rintro ⟨j, b1, b2, b3, y, b4, b5, b6, b7⟩
              rw [ansb y] at b5
              simp only [Bool.and_eq_true, Bool.not_eq_true'] at b5
              exact ⟨j, b1, b2, b3, y, b4, b5.1.1, b5.1.2, b5.2, b6, b7⟩
            · rintro ⟨j, b1, b2, b3, y, b4, b5, b6, b7, b8, b9⟩
              exact ⟨j, b1, b2, b3, y, b4, by rw [ansb y, b5, b6, b7]; rfl, b8, b9⟩
          have h2x := pow_lt x hx
          rw [if_neg (show ¬ nI _ = 0 from fun z => ha0 ((nI_eq (b := 0) (by omega) (by decide)).mp z)), pb_sh1 x (by omega)]
          unfold f_X1_canGoOn_J50
          by_cases hf : fl = 2 ^ x
          · rw [if_pos (by rw [hf])]
            obtain ⟨b, c1, c2⟩ := key 1 True (fun z => absurd z (by decide)) (fun _ => trivial) ⟨fun _ => hf, fun _ => trivial⟩ FU 0 (by omega) (by omega) (fun j hj => by omega)
            exact ⟨b, c1, c2.trans fin⟩
          · rw [if_neg (fun z => hf ((nI_eq (by omega) (by omega)).mp z))]
            obtain ⟨b, c1, c2⟩ := key 0 False (fun _ z => z) (fun z => absurd rfl z) ⟨fun z => z.elim, fun z => absurd z hf⟩ FU 0 (by omega) (by omega) (fun j hj => by omega)
            exact ⟨b, c1, c2.trans fin⟩
    -- the loop over what he may say
    have loop : ∀ (m i : Nat), i ≤ 10 → 10 < i + m → (∀ x, x < i → ¬ (say.testBit x = true ∧ GO W F K rest man (fl ||| 2 ^ x) x)) → ∃ b, f_X1_canSayOne_L3 (f_X1_canGoOn (fN_X1_canSayOne n)) g m (nI rest) (nI man) (nI fl) (nI say) (nI i) = some (bI b) ∧ (b = true ↔ ∃ x, x < 10 ∧ say.testBit x = true ∧ GO W F K rest man (fl ||| 2 ^ x) x) := by
      intro m
      induction m with
      | zero => intro i h1 h2; omega
      | succ m ihm =>
        intro i h1 h2 h3
        unfold f_X1_canSayOne_L3
        rcases Nat.lt_or_ge i 10 with q | q
        · rw [if_neg (show ¬ (10 : Int32) ≤ nI i from nI_ge q (by decide)), ob_b1_s (fx_has (by omega) (by omega))]
          unfold f_X1_canSayOne_J39
          have next : ¬ (say.testBit i = true ∧ GO W F K rest man (fl ||| 2 ^ i) i) → ∃ b, f_X1_canSayOne_L3 (f_X1_canGoOn (fN_X1_canSayOne n)) g m (nI rest) (nI man) (nI fl) (nI say) (nI i + 1) = some (bI b) ∧ (b = true ↔ ∃ x, x < 10 ∧ say.testBit x = true ∧ GO W F K rest man (fl ||| 2 ^ x) x) := by
            intro h4
            rw [nI_1]
            refine ihm (i + 1) (by omega) (by omega) (fun j hj => ?_)
            by_cases e : j = i
            · rw [e]; exact h4
            · exact h3 j (by omega)
          cases hb : say.testBit i
          · rw [if_pos bf0]
            exact next (fun z => by rw [hb] at z; exact absurd z.1 (by decide))
          · have hfb : (fl ||| 2 ^ i).testBit i = true := by rw [Nat.testBit_or, Nat.testBit_two_pow_self, Bool.or_true]
            obtain ⟨b, e1, e2⟩ := goOn (fl ||| 2 ^ i) i (or_lt2 hfl q) q hfb
            rw [if_neg (bnot rfl), pb_sh1 i (by omega), pb_or, ob_b1_s e1]
            cases b
            · rw [if_pos bf0]
              exact next (fun z => absurd (e2.mpr z.2) (by decide))
            · rw [if_neg (bnot rfl)]
              exact ⟨true, rfl, fun _ => ⟨i, q, hb, e2.mp rfl⟩, fun _ => rfl⟩
        · have e : i = 10 := by omega
          subst e
          rw [if_pos (show (10 : Int32) ≤ nI 10 by decide)]
          exact ⟨false, rfl, ff_t, fun ⟨x, h4, h5⟩ => absurd h5 (h3 x h4)⟩
    exact loop FU 0 (by omega) (by omega) (fun j hj => by omega)
theorem fx_canSpeak {W F K : Nat → Nat} {men : Nat} {g : Mm} (hC : CX W F K men 32 g) (hW : ∀ i, i < 10 → W i < 1024) (hF : ∀ i, i < 5 → F i < 1024) {set : Nat} (hs : set < 32) (hsub : sub10 set men) : ∃ b, f_X1_canSpeak g (nI set) = some (bI b) ∧ (b = true ↔ DY W F K set) := by
  unfold f_X1_canSpeak
  by_cases h0 : set = 0
  · rw [if_pos (show nI set = 0 by rw [h0]; rfl)]
    exact ⟨true, rfl, fun _ => ⟨[], h0, rfl⟩, fun _ => rfl⟩
  · rw [if_neg (show ¬ nI set = 0 from fun z => h0 ((nI_eq (b := 0) (by omega) (by decide)).mp z)), DY_iff h0]
    have key : ∀ (m i : Nat), i ≤ 5 → 5 < i + m → (∀ j, j < i → ¬ (set.testBit j = true ∧ ∃ y, y < 10 ∧ (K j).testBit y = true ∧ GO W F K (dif set (2 ^ j)) j (2 ^ y) y)) → ∃ b, f_X1_canSpeak_L8 g m (nI set) (nI i) = some (bI b) ∧ (b = true ↔ ∃ j, j < 5 ∧ set.testBit j = true ∧ ∃ y, y < 10 ∧ (K j).testBit y = true ∧ GO W F K (dif set (2 ^ j)) j (2 ^ y) y) := by
      intro m
      induction m with
      | zero => intro i h1 h2; omega
      | succ m ihm =>
        intro i h1 h2 h3
        unfold f_X1_canSpeak_L8
        rcases Nat.lt_or_ge i 5 with q | q
        · rw [if_neg (show ¬ (5 : Int32) ≤ nI i from nI_ge q (by decide)), pb_sh1 i (by omega), pb_dif (show set < 1024 by omega)]
          unfold f_X1_canSpeak_J44
          have next : ¬ (set.testBit i = true ∧ ∃ y, y < 10 ∧ (K i).testBit y = true ∧ GO W F K (dif set (2 ^ i)) i (2 ^ y) y) → ∃ b, f_X1_canSpeak_L8 g m (nI set) (nI i + 1) = some (bI b) ∧ (b = true ↔ ∃ j, j < 5 ∧ set.testBit j = true ∧ ∃ y, y < 10 ∧ (K j).testBit y = true ∧ GO W F K (dif set (2 ^ j)) j (2 ^ y) y) := by
            intro h4
            rw [nI_1]
            refine ihm (i + 1) (by omega) (by omega) (fun j hj => ?_)
            by_cases e : j = i
            · rw [e]; exact h4
            · exact h3 j (by omega)
          cases hb : set.testBit i
          · rw [if_pos (by rw [dif_id (by omega) hb])]
            exact next (fun z => by rw [hb] at z; exact absurd z.1 (by decide))
          · have hne := dif_ne (show set < 1024 by omega) hb
            have hl32 : dif set (2 ^ i) < 32 := Nat.lt_of_le_of_lt dif_le hs
            have hsub' : sub10 (dif set (2 ^ i)) men := fun k hk => hsub k (dif_sub (by omega) k hk)
            obtain ⟨h, e1, e2⟩ := hC.2.2.2 (dif set (2 ^ i)) i hl32 hsub' q (dif_no (by omega))
            have hcd : card (dif set (2 ^ i)) < 7 := by
              have h5 : ∀ a, a < 32 → card a < 7 := by decide +kernel
              exact h5 _ hl32
            obtain ⟨b, e3, e4⟩ := fx_canSayOne hC hW hF 7 (dif set (2 ^ i)) i 0 h hcd hl32 hsub' q (dif_no (by omega)) (by decide) e2.1
            have e5 : (∃ x, x < 10 ∧ h.testBit x = true ∧ GO W F K (dif set (2 ^ i)) i (0 ||| 2 ^ x) x) ↔ ∃ y, y < 10 ∧ (K i).testBit y = true ∧ GO W F K (dif set (2 ^ i)) i (2 ^ y) y := by
              constructor
              · rintro ⟨x, c1, c2, c3⟩
                rw [Nat.zero_or] at c3
                exact ⟨x, c1, e2.2.1 x c2, c3⟩
              · rintro ⟨x, c1, c2, l, d1, d2, d3⟩
                exact ⟨x, c1, e2.2.2 x c1 c2 ⟨l, _, d1, d3⟩, by rw [Nat.zero_or]; exact ⟨l, d1, d2, d3⟩⟩
            rw [e5] at e4
            rw [if_neg (fun z => hne ((nI_eq (by omega) (by omega)).mp z)), ob_b1_s (fx_hopeful hl32 q), e1, ob_b1_s (show fN_X1_canSayOne 7 g (nI (dif set (2 ^ i))) (nI i) 0 (nI h) = some (bI b) from e3)]
            cases b
            · rw [if_pos bf0]
              exact next (fun z => absurd (e4.mpr z.2) (by decide))
            · rw [if_neg (bnot rfl)]
              exact ⟨true, rfl, fun _ => ⟨i, q, hb, e4.mp rfl⟩, fun _ => rfl⟩
        · have e : i = 5 := by omega
          subst e
          rw [if_pos (show (5 : Int32) ≤ nI 5 by decide)]
          exact ⟨false, rfl, ff_t, fun ⟨x, h4, h5⟩ => absurd h5 (h3 x h4)⟩
    obtain ⟨z, hz⟩ := FU_ge (n := 11) (by decide)
    exact key FU 0 (by omega) (by omega) (fun j hj => by omega)
