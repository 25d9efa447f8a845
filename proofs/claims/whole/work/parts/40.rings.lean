/-! Rings. -/
def sub10 (a b : Nat) : Prop := ∀ i, a.testBit i = true → b.testBit i = true
def clo (W : Nat → Nat) (C : Nat) : Prop := ∀ i, C.testBit i = true → sub10 (W i) C
def Qr (W : Nat → Nat) (x y : Nat) : Prop := ∀ C, C < 1024 → sub10 (W x) C → clo W C → C.testBit y = true
theorem pcs_sub {a b : Nat} (h : sub10 a b) : ∀ n, pc a n ≤ pc b n
  | 0 => Nat.le_refl _
  | n + 1 => by
    have h1 := pcs_sub h n
    show pc a n + (if a.testBit n then 1 else 0) ≤ pc b n + (if b.testBit n then 1 else 0)
    cases ha : a.testBit n
    · rw [if_neg (by decide)]; omega
    · rw [h n ha]; omega
theorem pc_subs {a b j : Nat} (h : sub10 a b) (h1 : a.testBit j = false) (h2 : b.testBit j = true) : ∀ n, j < n → pc a n < pc b n
  | 0, hj => by omega
  | n + 1, hj => by
    show pc a n + (if a.testBit n then 1 else 0) < pc b n + (if b.testBit n then 1 else 0)
    by_cases e : j = n
    · subst e
      rw [h1, h2, if_neg (by decide), if_pos rfl]
      have := pcs_sub h j
      omega
    · have h3 := pc_subs h h1 h2 n (by omega)
      cases ha : a.testBit n
      · rw [if_neg (by decide)]; omega
      · rw [h n ha]; omega
theorem pcs_full {a : Nat} : ∀ n, n ≤ pc a n → ∀ i, i < n → a.testBit i = true
  | 0, _, i, hi => by omega
  | n + 1, h, i, hi => by
    have h1 : n + 1 ≤ pc a n + (if a.testBit n then 1 else 0) := h
    have h2 := pc_le a n
    cases ha : a.testBit n
    · rw [ha, if_neg (by decide)] at h1; omega
    · rw [ha, if_pos rfl] at h1
      by_cases e : i = n
      · rw [e]; exact ha
      · exact pcs_full n (by omega) i (by omega)
/-- one pass of the reference -/
def psr (W : Nat → Nat) (T : Nat) : Nat → Nat
  | 0 => T
  | n + 1 => if (psr W T n).testBit n then psr W T n ||| W n else psr W T n
def rch (W : Nat → Nat) (T : Nat) : Nat → Nat
  | 0 => T
  | n + 1 => psr W (rch W T n) 10
theorem psr_lt {W : Nat → Nat} (hW : ∀ i, i < 10 → W i < 1024) {T : Nat} (hT : T < 1024) : ∀ n, n ≤ 10 → psr W T n < 1024
  | 0, _ => hT
  | n + 1, h => by
    have h1 := psr_lt hW hT n (by omega)
    show (if (psr W T n).testBit n then psr W T n ||| W n else psr W T n) < 1024
    split
    · exact or_lt h1 (hW n (by omega))
    · exact h1
theorem psr_up {W : Nat → Nat} {T : Nat} : ∀ n, sub10 T (psr W T n)
  | 0 => fun _ h => h
  | n + 1 => fun i h => by
    have h1 := psr_up (W := W) n i h
    show (if (psr W T n).testBit n then psr W T n ||| W n else psr W T n).testBit i = true
    split
    · rw [Nat.testBit_or, h1]; rfl
    · exact h1
theorem psr_step {W : Nat → Nat} {T : Nat} : ∀ n i, i < n → T.testBit i = true → sub10 (W i) (psr W T n)
  | 0, i, hi, _ => by omega
  | n + 1, i, hi, h => fun j hj => by
    show (if (psr W T n).testBit n then psr W T n ||| W n else psr W T n).testBit j = true
    by_cases e : i = n
    · subst e
      rw [if_pos (psr_up i i h), Nat.testBit_or, hj, Bool.or_true]
    · have h1 := psr_step n i (by omega) h j hj
      split
      · rw [Nat.testBit_or, h1]; rfl
      · exact h1
theorem psr_clo {W : Nat → Nat} {T : Nat} (h : clo W T) : ∀ n, psr W T n = T
  | 0 => rfl
  | n + 1 => by
    show (if (psr W T n).testBit n then psr W T n ||| W n else psr W T n) = T
    rw [psr_clo h n]
    by_cases c : T.testBit n = true
    · rw [if_pos c]
      apply bit_ext
      intro i
      rw [Nat.testBit_or]
      cases hT : T.testBit i
      · cases hw : (W n).testBit i
        · rfl
        · rw [h n c i hw] at hT; cases hT
      · rfl
    · rw [if_neg c]
theorem psr_snd {W : Nat → Nat} {T x : Nat} (h : ∀ y, T.testBit y = true → Qr W x y) : ∀ n y, (psr W T n).testBit y = true → Qr W x y
  | 0, y, hy => h y hy
  | n + 1, y, hy => by
    have ih := psr_snd h n
    have hy2 : (if (psr W T n).testBit n then psr W T n ||| W n else psr W T n).testBit y = true := hy
    by_cases c : (psr W T n).testBit n = true
    · rw [if_pos c, Nat.testBit_or] at hy2
      cases h1 : (psr W T n).testBit y
      · rw [h1, Bool.false_or] at hy2
        exact fun C hC h2 h3 => h3 n (ih n c C hC h2 h3) y hy2
      · exact ih y h1
    · rw [if_neg c] at hy2
      exact ih y hy2
theorem rch_lt {W : Nat → Nat} (hW : ∀ i, i < 10 → W i < 1024) {T : Nat} (hT : T < 1024) : ∀ n, rch W T n < 1024
  | 0 => hT
  | n + 1 => psr_lt hW (rch_lt hW hT n) 10 (by omega)
theorem rch_up {W : Nat → Nat} {T : Nat} : ∀ n, sub10 T (rch W T n)
  | 0 => fun _ h => h
  | n + 1 => fun i h => psr_up 10 i (rch_up n i h)
theorem rch_snd {W : Nat → Nat} {T x : Nat} (h : ∀ y, T.testBit y = true → Qr W x y) : ∀ n y, (rch W T n).testBit y = true → Qr W x y
  | 0, y, hy => h y hy
  | n + 1, y, hy => psr_snd (rch_snd h n) 10 y hy
theorem rch_grow {W : Nat → Nat} (hW : ∀ i, i < 10 → W i < 1024) {T : Nat} (hT : T < 1024) : ∀ n, clo W (rch W T n) ∨ n ≤ card (rch W T n)
  | 0 => Or.inr (Nat.zero_le _)
  | n + 1 => by
    have hr := rch_lt hW hT n
    rcases rch_grow hW hT n with h | h
    · left
      show clo W (psr W (rch W T n) 10)
      rw [psr_clo h 10]
      exact h
    · by_cases c : clo W (rch W T n)
      · left
        show clo W (psr W (rch W T n) 10)
        rw [psr_clo c 10]
        exact c
      · right
        have h1 : ∃ i j, (rch W T n).testBit i = true ∧ (W i).testBit j = true ∧ (rch W T n).testBit j = false := by
          apply Classical.byContradiction
          intro z
          apply c
          intro i hi j hj
          cases hb : (rch W T n).testBit j
          · exact absurd ⟨i, j, hi, hj, hb⟩ z
          · rfl
        obtain ⟨i, j, h2, h3, h4⟩ := h1
        have hi : i < 10 := bit_in hr h2
        have hj : j < 10 := bit_in (hW i hi) h3
        have h5 := psr_step (W := W) (T := rch W T n) 10 i hi h2 j h3
        have h6 := pc_subs (psr_up (W := W) (T := rch W T n) 10) h4 h5 10 hj
        show n + 1 ≤ pc (psr W (rch W T n) 10) 10
        have h7 : n ≤ pc (rch W T n) 10 := h
        omega
theorem rch_clo {W : Nat → Nat} (hW : ∀ i, i < 10 → W i < 1024) {T : Nat} (hT : T < 1024) : clo W (rch W T 10) := by
  rcases rch_grow hW hT 10 with h | h
  · exact h
  · intro i hi j hj
    have hr := rch_lt hW hT 10
    exact pcs_full 10 h j (bit_in (hW i (bit_in hr hi)) hj)
theorem fm_reachOf {g : Mm} {W : Nat → Nat} (hT : TW g 2 10 W) (hW : ∀ i, i < 10 → W i < 1024) {x : Nat} (hx : x < 10) : f_X7_reachOf g (nI x) = some (nI (rch W (W x) 10)) := by
  obtain ⟨z, hz⟩ := FU_ge (n := 11) (by decide)
  have inner : ∀ (k9 : Int32 → Int32 → Option Int32) (p T : Nat), T < 1024 → ∀ (m i : Nat), i ≤ 10 → 10 < i + m → f_X7_reachOf_L18 g k9 m (nI (psr W T i)) (nI p) (nI i) = k9 (nI (psr W T 10)) (nI (p + 1)) := by
    intro k9 p T hT0 m
    induction m with
    | zero => intro i h1 h2; omega
    | succ m ih =>
      intro i h1 h2
      unfold f_X7_reachOf_L18
      have hlt := psr_lt hW hT0 i h1
      rcases Nat.lt_or_ge i 10 with q | q
      · rw [if_neg (show ¬ (10 : Int32) ≤ nI i from nI_ge q (by decide)), ob_b1_s (fm_has (by omega) (by omega))]
        have e : psr W T (i + 1) = if (psr W T i).testBit i then psr W T i ||| W i else psr W T i := rfl
        have e2 := ih (i + 1) (by omega) (by omega)
        rw [e] at e2
        unfold f_X7_reachOf_J46
        cases hb : (psr W T i).testBit i
        · rw [hb, if_neg (by decide)] at e2
          rw [if_pos bf0, show (0 : Int32) = nI 0 from rfl, pb_or, Nat.or_zero, nI_1]
          exact e2
        · rw [hb, if_pos rfl] at e2
          rw [if_neg (bnot rfl), ob_b1_s (ob_ld_nI q (by decide)), hT i q, pb_or, nI_1]
          exact e2
      · have e : i = 10 := by omega
        subst e
        rw [if_pos (show (10 : Int32) ≤ nI 10 by decide), nI_1]
  have outer : ∀ (m p : Nat), p ≤ 10 → 10 < p + m → f_X7_reachOf_L9 g m (nI (rch W (W x) p)) (nI p) = some (nI (rch W (W x) 10)) := by
    intro m
    induction m with
    | zero => intro p h1 h2; omega
    | succ m ih =>
      intro p h1 h2
      unfold f_X7_reachOf_L9
      rcases Nat.lt_or_ge p 10 with q | q
      · rw [if_neg (show ¬ (10 : Int32) ≤ nI p from nI_ge q (by decide))]
        have h3 := inner (f_X7_reachOf_L9 g m) p (rch W (W x) p) (rch_lt hW (hW x hx) p) FU 0 (by omega) (by omega)
        have h4 := ih (p + 1) (by omega) (by omega)
        exact h3.trans h4
      · have e : p = 10 := by omega
        subst e
        rw [if_pos (show (10 : Int32) ≤ nI 10 by decide)]
  unfold f_X7_reachOf
  rw [ob_b1_s (ob_ld_nI hx (by decide)), hT x hx]
  exact outer FU 0 (by omega) (by omega)
/-- the bits of what the reference answers -/
def rgb (W : Nat → Nat) (x : Nat) : Bool := (rch W (W x) 10).testBit x
def tpb (W : Nat → Nat) (x : Nat) : Bool := W x == 0
theorem mk_s (p : Nat → Bool) (i : Nat) : mk p (i + 1) = mk p i ||| (if p i then 2 ^ i else 0) := rfl
theorem fm_rings0 {g : Mm} {W : Nat → Nat} (hT : TW g 2 10 W) (hW : ∀ i, i < 10 → W i < 1024) : f_X7_rings_L16 g FU 0 0 0 = some (nI (mk (rgb W) 10)) := by
  have key : ∀ (m i : Nat), i ≤ 10 → 10 < i + m → f_X7_rings_L16 g m 0 (nI (mk (rgb W) i)) (nI i) = some (nI (mk (rgb W) 10)) := by
    intro m
    induction m with
    | zero => intro i h1 h2; omega
    | succ m ih =>
      intro i h1 h2
      unfold f_X7_rings_L16
      rcases Nat.lt_or_ge i 10 with q | q
      · have hlt := rch_lt hW (hW i q) 10
        rw [if_neg (show ¬ (10 : Int32) ≤ nI i from nI_ge q (by decide)), if_pos rfl, ob_b1_s (fm_reachOf hT hW q), ob_b1_s (fm_has (by omega) (by omega))]
        have e2 := ih (i + 1) (by omega) (by omega)
        rw [mk_s] at e2
        unfold f_X7_rings_J52 f_X7_rings_J67
        have eb : rgb W i = (rch W (W i) 10).testBit i := rfl
        cases hb : (rch W (W i) 10).testBit i
        · rw [eb, hb, if_neg (by decide)] at e2
          rw [if_pos bf0, show (0 : Int32) = nI 0 from rfl, pb_or, nI_1]
          exact e2
        · rw [eb, hb, if_pos rfl] at e2
          rw [if_neg (bnot rfl), pb_sh1 i (by omega), pb_or, nI_1]
          exact e2
      · have e : i = 10 := by omega
        subst e
        rw [if_pos (show (10 : Int32) ≤ nI 10 by decide)]
  obtain ⟨z, hz⟩ := FU_ge (n := 11) (by decide)
  exact key FU 0 (by omega) (by omega)
theorem fm_rings1 {g : Mm} {W : Nat → Nat} (hT : TW g 2 10 W) (hW : ∀ i, i < 10 → W i < 1024) : f_X7_rings_L16 g FU 1 0 0 = some (nI (mk (tpb W) 10)) := by
  have key : ∀ (m i : Nat), i ≤ 10 → 10 < i + m → f_X7_rings_L16 g m 1 (nI (mk (tpb W) i)) (nI i) = some (nI (mk (tpb W) 10)) := by
    intro m
    induction m with
    | zero => intro i h1 h2; omega
    | succ m ih =>
      intro i h1 h2
      unfold f_X7_rings_L16
      rcases Nat.lt_or_ge i 10 with q | q
      · rw [if_neg (show ¬ (10 : Int32) ≤ nI i from nI_ge q (by decide)), if_neg (by decide), ob_b1_s (ob_ld_nI q (by decide)), hT i q]
        have hw := hW i q
        have e2 := ih (i + 1) (by omega) (by omega)
        rw [mk_s] at e2
        unfold f_X7_rings_J52 f_X7_rings_J67
        by_cases hb : W i = 0
        · have eb : tpb W i = true := by unfold tpb; rw [hb]; rfl
          rw [eb, if_pos rfl] at e2
          rw [if_pos (show nI (W i) = 0 by rw [hb]; rfl), if_neg (by decide), pb_sh1 i (by omega), pb_or, nI_1]
          exact e2
        · have eb : tpb W i = false := by unfold tpb; simp [hb]
          rw [eb, if_neg (by decide)] at e2
          rw [if_neg (show ¬ nI (W i) = 0 from fun z => hb ((nI_eq (b := 0) (by omega) (by decide)).mp z)), if_pos rfl, show (0 : Int32) = nI 0 from rfl, pb_or, nI_1]
          exact e2
      · have e : i = 10 := by omega
        subst e
        rw [if_pos (show (10 : Int32) ≤ nI 10 by decide)]
  obtain ⟨z, hz⟩ := FU_ge (n := 11) (by decide)
  exact key FU 0 (by omega) (by omega)
theorem fx_tops {g : Mm} {W : Nat → Nat} (hT : TW g 3 10 W) (hW : ∀ i, i < 10 → W i < 1024) : f_X2_tops g = some (nI (mk (tpb W) 10)) := by
  have key : ∀ (m i : Nat), i ≤ 10 → 10 < i + m → f_X2_tops_L4 g m (nI (mk (tpb W) i)) (nI i) = some (nI (mk (tpb W) 10)) := by
    intro m
    induction m with
    | zero => intro i h1 h2; omega
    | succ m ih =>
      intro i h1 h2
      unfold f_X2_tops_L4
      rcases Nat.lt_or_ge i 10 with q | q
      · rw [if_neg (show ¬ (10 : Int32) ≤ nI i from nI_ge q (by decide)), ob_b1_s (fx_worse q), show g (2 + 1) i = nI (W i) from hT i q]
        have hw := hW i q
        have e2 := ih (i + 1) (by omega) (by omega)
        rw [mk_s] at e2
        unfold f_X2_tops_J27
        by_cases hb : W i = 0
        · have eb : tpb W i = true := by unfold tpb; rw [hb]; rfl
          rw [eb, if_pos rfl] at e2
          rw [if_pos (show nI (W i) = 0 by rw [hb]; rfl), pb_sh1 i (by omega), pb_or, nI_1]
          exact e2
        · have eb : tpb W i = false := by unfold tpb; simp [hb]
          rw [eb, if_neg (by decide), Nat.or_zero] at e2
          rw [if_neg (show ¬ nI (W i) = 0 from fun z => hb ((nI_eq (b := 0) (by omega) (by decide)).mp z)), nI_1]
          exact e2
      · have e : i = 10 := by omega
        subst e
        rw [if_pos (show (10 : Int32) ≤ nI 10 by decide)]
  unfold f_X2_tops
  obtain ⟨z, hz⟩ := FU_ge (n := 11) (by decide)
  exact key FU 0 (by omega) (by omega)
/-! The class's rings. -/
def wst (r : Nat → Nat) (b x : Nat) : Nat := if (r x).testBit b then r x ||| r b else r x
theorem wst_b (r : Nat → Nat) (b : Nat) : wst r b b = r b := by
  unfold wst
  split
  · exact Nat.or_self _
  · rfl
theorem wst_bit {r : Nat → Nat} {b x y : Nat} (h : (wst r b x).testBit y = true) : (r x).testBit y = true ∨ ((r x).testBit b = true ∧ (r b).testBit y = true) := by
  unfold wst at h
  by_cases c : (r x).testBit b = true
  · rw [if_pos c, Nat.testBit_or, Bool.or_eq_true] at h
    rcases h with h | h
    · exact Or.inl h
    · exact Or.inr ⟨c, h⟩
  · rw [if_neg c] at h
    exact Or.inl h
theorem wst_up {r : Nat → Nat} {b x y : Nat} (h : (r x).testBit y = true) : (wst r b x).testBit y = true := by
  unfold wst
  split
  · rw [Nat.testBit_or, h]; rfl
  · exact h
theorem wst_add {r : Nat → Nat} {b x y : Nat} (h1 : (r x).testBit b = true) (h2 : (r b).testBit y = true) : (wst r b x).testBit y = true := by
  unfold wst
  rw [if_pos h1, Nat.testBit_or, h2, Bool.or_true]
/-- what holds when those below b are handled -/
def WI (W r : Nat → Nat) (b : Nat) : Prop := (∀ x, x < 10 → r x < 1024 ∧ sub10 (W x) (r x) ∧ ∀ y, (r x).testBit y = true → Qr W x y) ∧ ∀ x z, x < 10 → z < b → (r x).testBit z = true → sub10 (r z) (r x)
theorem WI.step {W r : Nat → Nat} {b : Nat} (h : WI W r b) (hb : b < 10) : WI W (wst r b) (b + 1) := by
  obtain ⟨h1, h2⟩ := h
  refine ⟨fun x hx => ⟨?_, fun y hy => wst_up ((h1 x hx).2.1 y hy), fun y hy => ?_⟩, fun x z hx hz hxz y hy => ?_⟩
  · unfold wst
    split
    · exact or_lt (h1 x hx).1 (h1 b hb).1
    · exact (h1 x hx).1
  · rcases wst_bit hy with h3 | ⟨h3, h4⟩
    · exact (h1 x hx).2.2 y h3
    · intro C hC h5 h6
      have h7 := (h1 x hx).2.2 b h3 C hC h5 h6
      exact (h1 b hb).2.2 y h4 C hC (h6 b h7) h6
  · by_cases e : z = b
    · subst e
      rw [wst_b] at hy
      rcases wst_bit hxz with h3 | ⟨h3, -⟩
      · exact wst_add h3 hy
      · exact wst_add h3 hy
    · have hzb : z < b := by omega
      have hz10 : z < 10 := by omega
      rcases wst_bit hxz with h3 | ⟨h3, h4⟩
      · rcases wst_bit hy with h5 | ⟨h5, h6⟩
        · exact wst_up (h2 x z hx hzb h3 y h5)
        · exact wst_add (h2 x z hx hzb h3 b h5) h6
      · rcases wst_bit hy with h5 | ⟨h5, h6⟩
        · exact wst_add h3 (h2 b z hb hzb h4 y h5)
        · exact wst_add h3 h6
theorem WI.end {W r : Nat → Nat} (hW : ∀ i, i < 10 → W i < 1024) (h : WI W r 10) {x : Nat} (hx : x < 10) (y : Nat) : (r x).testBit y = (rch W (W x) 10).testBit y := by
  have hT := rch_lt hW (hW x hx) 10
  have a1 : (r x).testBit y = true → (rch W (W x) 10).testBit y = true := fun hy => (h.1 x hx).2.2 y hy _ hT (rch_up 10) (rch_clo hW (hW x hx))
  have a2 : (rch W (W x) 10).testBit y = true → (r x).testBit y = true := by
    intro hy
    refine rch_snd (x := x) (fun z hz C hC h2 h3 => h2 z hz) 10 y hy (r x) (h.1 x hx).1 (h.1 x hx).2.1 ?_
    intro i hi j hj
    have hi10 : i < 10 := bit_in (h.1 x hx).1 hi
    exact h.2 x i hx hi10 hi j ((h.1 i hi10).2.1 j hj)
  cases c1 : (r x).testBit y
  · cases c2 : (rch W (W x) 10).testBit y
    · rfl
    · rw [a2 c2] at c1; cases c1
  · rw [a1 c1]
theorem fx_inRings {g : Mm} {W : Nat → Nat} (hT : TW g 3 10 W) (hW : ∀ i, i < 10 → W i < 1024) : ∃ g', f_X2_inRings g = some (nI (mk (rgb W) 10), g') := by
  obtain ⟨z, hz⟩ := FU_ge (n := 11) (by decide)
  have last : ∀ (r : Nat → Nat) (g1 : Mm), TW g1 25 10 r → (∀ x, x < 10 → r x < 1024 ∧ (r x).testBit x = rgb W x) → ∀ (m i : Nat), i ≤ 10 → 10 < i + m → f_X2_inRings_L102 m g1 (nI (mk (rgb W) i)) (nI i) = some (nI (mk (rgb W) 10), g1) := by
    intro r g1 h1 h2 m
    induction m with
    | zero => intro i h1 h2; omega
    | succ m ih =>
      intro i h3 h4
      unfold f_X2_inRings_L102
      rcases Nat.lt_or_ge i 10 with q | q
      · have hr := h2 i q
        rw [if_neg (show ¬ (10 : Int32) ≤ nI i from nI_ge q (by decide)), ob_b1_s (fx_at q (by decide)), h1 i q, ob_b1_s (fx_has (by omega) (by omega)), hr.2]
        have e2 := ih (i + 1) (by omega) (by omega)
        rw [mk_s] at e2
        unfold f_X2_inRings_J129
        cases hb : rgb W i
        · rw [hb, if_neg (by decide), Nat.or_zero] at e2
          rw [if_pos bf0, nI_1]
          exact e2
        · rw [hb, if_pos rfl] at e2
          rw [if_neg (bnot rfl), pb_sh1 i (by omega), pb_or, nI_1]
          exact e2
      · have e : i = 10 := by omega
        subst e
        rw [if_pos (show (10 : Int32) ≤ nI 10 by decide)]
  have inner : ∀ (k32 : Mm → Int32 → Option (Int32 × Mm)) (r : Nat → Nat) (b : Nat), b < 10 → (∀ x, x < 10 → r x < 1024) → ∀ (m i : Nat) (g1 : Mm), i ≤ 10 → 10 < i + m → TW g1 25 10 (fun j => if j < i then wst r b j else r j) →
      ∃ g2, f_X2_inRings_L40 k32 m g1 (nI b) (nI i) = k32 g2 (nI (b + 1)) ∧ TW g2 25 10 (wst r b) := by
    intro k32 r b hb hr m
    induction m with
    | zero => intro i g1 h1 h2; omega
    | succ m ih =>
      intro i g1 h1 h2 h3
      unfold f_X2_inRings_L40
      rcases Nat.lt_or_ge i 10 with q | q
      · have hri := hr i q
        have ei : g1 25 i = nI (r i) := by rw [h3 i q]; show nI (if i < i then _ else _) = _; rw [if_neg (by omega)]
        have eb : g1 25 b = nI (r b) := by
          rw [h3 b hb]
          show nI (if b < i then wst r b b else r b) = _
          rw [wst_b, ite_self]
        rw [if_neg (show ¬ (10 : Int32) ≤ nI i from nI_ge q (by decide)), ob_b1_s (fx_at q (by decide)), ei, ob_b1_s (fx_has (by omega) (by omega))]
        unfold f_X2_inRings_J86
        cases hc : (r i).testBit b
        · rw [if_pos bf0, nI_1]
          refine ih (i + 1) g1 (by omega) (by omega) (fun j hj => ?_)
          rw [h3 j hj]
          show nI (if j < i then wst r b j else r j) = nI (if j < i + 1 then wst r b j else r j)
          by_cases e : j = i
          · subst e
            rw [if_neg (by omega), if_pos (by omega)]
            unfold wst
            rw [hc, if_neg (by decide)]
          · by_cases e2 : j < i
            · rw [if_pos e2, if_pos (by omega)]
            · rw [if_neg e2, if_neg (by omega)]
        · rw [if_neg (bnot rfl), ob_b1_s (fx_at q (by decide)), ei, ob_b1_s (fx_at hb (by decide)), eb, pb_or, ob_b1_s (fx_store q (by decide)), nI_1]
          refine ih (i + 1) _ (by omega) (by omega) (fun j hj => ?_)
          show _ = nI (if j < i + 1 then wst r b j else r j)
          by_cases e : j = i
          · subst e
            rw [ob_up_s, if_pos (by omega)]
            unfold wst
            rw [hc, if_pos rfl]
          · rw [ob_up_k e, h3 j hj]
            show nI (if j < i then wst r b j else r j) = _
            by_cases e2 : j < i
            · rw [if_pos e2, if_pos (by omega)]
            · rw [if_neg e2, if_neg (by omega)]
      · have e : i = 10 := by omega
        subst e
        rw [if_pos (show (10 : Int32) ≤ nI 10 by decide), nI_1]
        refine ⟨g1, rfl, fun j hj => ?_⟩
        rw [h3 j hj]
        show nI (if j < 10 then wst r b j else r j) = _
        rw [if_pos hj]
  have outer : ∀ (m b : Nat) (r : Nat → Nat) (g1 : Mm), b ≤ 10 → 10 < b + m → TW g1 25 10 r → WI W r b → ∃ g', f_X2_inRings_L32 (f_X2_inRings_L102 FU) m g1 (nI b) = some (nI (mk (rgb W) 10), g') := by
    intro m
    induction m with
    | zero => intro b r g1 h1 h2; omega
    | succ m ih =>
      intro b r g1 h1 h2 h3 h4
      unfold f_X2_inRings_L32
      rcases Nat.lt_or_ge b 10 with q | q
      · rw [if_neg (show ¬ (10 : Int32) ≤ nI b from nI_ge q (by decide))]
        obtain ⟨g2, a1, a2⟩ := inner (f_X2_inRings_L32 (f_X2_inRings_L102 FU) m) r b q (fun x hx => (h4.1 x hx).1) FU 0 g1 (by omega) (by omega) (fun j hj => by rw [h3 j hj]; show _ = nI (if j < 0 then _ else _); rw [if_neg (by omega)])
        obtain ⟨g', a3⟩ := ih (b + 1) (wst r b) g2 (by omega) (by omega) a2 (h4.step q)
        exact ⟨g', a1.trans a3⟩
      · have e : b = 10 := by omega
        subst e
        rw [if_pos (show (10 : Int32) ≤ nI 10 by decide)]
        exact ⟨g1, last r g1 h3 (fun x hx => ⟨(h4.1 x hx).1, h4.end hW hx x⟩) FU 0 (by omega) (by omega)⟩
  have first : ∀ (m i : Nat) (g1 : Mm), i ≤ 10 → 10 < i + m → TW g1 3 10 W → TW g1 25 i W → ∃ g', f_X2_inRings_L2 (f_X2_inRings_L32 (f_X2_inRings_L102 FU) FU) m g1 (nI i) = some (nI (mk (rgb W) 10), g') := by
    intro m
    induction m with
    | zero => intro i g1 h1 h2; omega
    | succ m ih =>
      intro i g1 h1 h2 h3 h4
      unfold f_X2_inRings_L2
      rcases Nat.lt_or_ge i 10 with q | q
      · rw [if_neg (show ¬ (10 : Int32) ≤ nI i from nI_ge q (by decide)), ob_b1_s (fx_worse q), show g1 (2 + 1) i = nI (W i) from h3 i q, ob_b1_s (fx_store q (by decide)), nI_1]
        refine ih (i + 1) _ (by omega) (by omega) (h3.ne (by decide)) (fun j hj => ?_)
        by_cases e : j = i
        · subst e
          exact ob_up_s _ _ _ _
        · rw [ob_up_k e]
          exact h4 j (by omega)
      · have e : i = 10 := by omega
        subst e
        rw [if_pos (show (10 : Int32) ≤ nI 10 by decide)]
        exact outer FU 0 W g1 (by omega) (by omega) h4 ⟨fun x hx => ⟨hW x hx, fun _ h => h, fun y hy C hC h5 h6 => h5 y hy⟩, fun x z hx hz => by omega⟩
  unfold f_X2_inRings
  exact first FU 0 g (by omega) (by omega) hT (fun j hj => by omega)
theorem ag_rings {k : Nat} {s u : Mm} (h : Rel k s u) (a : Int32) : ∃ r s', f_X6_rings s a = some (r, s') ∧ f_X7_rings u a = some r ∧ Rel (k + 1) s' u := by
  obtain ⟨⟨W, N, T, K, hR, hT⟩, -, -, -, hM, -⟩ := id h
  have he : ∃ r s', f_X6_rings s a = some (r, s') ∧ f_X7_rings u a = some r := by
    unfold f_X6_rings f_X7_rings
    rw [ob_b1_s (fx_within a 0 1), ob_b1_s (fm_in a 0 1)]
    rcases inr01 a with h0 | rfl | rfl
    · exact ⟨-2, s, by rw [h0, if_pos bf0], by rw [h0, if_pos bf0]⟩
    · obtain ⟨g', e1⟩ := fx_inRings hT.x.1 hR.w
      refine ⟨nI (mk (rgb W) 10), g', ?_, ?_⟩
      · rw [show inr 0 0 1 = true from by decide, if_neg (bnot rfl), if_pos rfl, ob_b2_s e1]
      · rw [show inr 0 0 1 = true from by decide, if_neg (bnot rfl), fm_rings0 hT.u.1 hR.w]
    · refine ⟨nI (mk (tpb W) 10), s, ?_, ?_⟩
      · rw [show inr 1 0 1 = true from by decide, if_neg (bnot rfl), if_neg (by decide), ob_b1_s (fx_tops hT.x.1 hR.w)]
      · rw [show inr 1 0 1 = true from by decide, if_neg (bnot rfl), fm_rings1 hT.u.1 hR.w]
  obtain ⟨r, s', e1, e2⟩ := he
  have f1 := fr_X6_rings _ _ _ _ e1
  have f2 : Fr [] [] u u := fun _ _ _ _ => rfl
  exact ⟨r, s', e1, e2, h.scr f1 f2 (by decide) (by decide) (by decide) ((hM.fr f1 (by decide) (by decide)).mono (by omega))⟩
