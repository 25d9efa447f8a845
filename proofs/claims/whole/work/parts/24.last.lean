/-! The reference: the longest ones. -/
theorem max_row {b o : Nat} (h : b < 2 ^ 31) (h2 : o < 2 ^ 31) {α : Type} (f : Int32 → α) : (if nI o ≤ nI b then f (nI b) else f (nI o)) = f (nI (if b < o then o else b)) := by
  by_cases c : b < o
  · rw [if_neg (nI_ge c h2), if_pos c]
  · rw [if_pos (nI_le (by omega) h), if_neg c]
section Last
variable {W : Nat → Nat} {A B : Nat}
theorem exs_le (hW : ∀ i, i < 10 → W i < 1024) {mv fl p q x : Nat} (hx : x < 10) (hp : p < 1024) (hq : q < 1024) : ex trs W mv fl p q x ≤ 11 := by
  cases hb : mv.testBit x
  · rw [ex_no hb]; omega
  · rw [ex_yes hb]
    have h := sp_AF_le hW (fl := fl ||| 2 ^ x) hx hq hp
    show _ + 1 ≤ 11
    omega
theorem ls_103 (hW : ∀ i, i < 10 → W i < 1024) {g0 : Mm} (hB : TW g0 2 10 W) (hA0 : g0 7 0 = nI A) (hA1 : g0 7 1 = nI B) (hA : A < 1024) (hBB : B < 1024) {fl x side : Nat} (hf : fl < 1024) (hx : x < 10) (hs : side < 2) (w : Int32) {Q : Int32 × Mm → Prop} (k : Mm → Int32 → Int32 → Int32 → Int32 → Option (Int32 × Mm)) (hk : ∀ g, LI W A B (valS W A B) g0 g fl x (side + 1) → ∃ r, k g w (nI fl) (nI x) (nI (side + 1)) = some r ∧ Q r) : ∀ (n i : Nat) (g : Mm), i ≤ 10 → 10 < i + n → LI W A B (valS W A B) g0 g fl x side → ∃ r, f_X7_last_L103 k n g w (nI fl) (nI x) (nI side) (nI (mxs (ex trs W (dif (W x &&& cn A B side) fl) fl (cn A B side) (cn A B (1 - side))) i)) (nI i) = some r ∧ Q r := by
  have hl : W x &&& cn A B side < 1024 := and_lt (hW x hx)
  have hc0 : cn A B side < 1024 := cn_lt hA hBB
  have hc1 : cn A B (1 - side) < 1024 := cn_lt hA hBB
  generalize hE : ex trs W (dif (W x &&& cn A B side) fl) fl (cn A B side) (cn A B (1 - side)) = E
  have hE11 : ∀ i, i < 10 → E i ≤ 11 := fun i hi => by rw [← hE]; exact exs_le hW hi hc0 hc1
  intro n
  induction n with
  | zero => intro i g h1 h2; omega
  | succ n ih =>
    intro i g h1 h2 hL
    have hm11 : mxs E i ≤ 11 := mxs_ub (fun j hj => hE11 j (by omega))
    unfold f_X7_last_L103
    rcases Nat.lt_or_ge i 10 with hi | hi
    rotate_left
    · have e10 : i = 10 := by omega
      subst e10
      rw [if_pos (show (10 : Int32) ≤ nI 10 by decide), ob_b1_s (fm_at _ _ _), ob_b1_s (ob_st_nI (slotM_lt hs hx hf) (by decide)), nI_1]
      refine hk _ (hL.lay but8.rf hf hx ?_)
      unfold valS AF
      rw [SC_mxs hW _ _ (dif_lt hl) (dif_apt hl), hE]
    rw [if_neg (show ¬ (10 : Int32) ≤ nI i from nI_ge hi (by decide)), ob_b1_s (ob_ld_nI hx (by decide)), ob_b1_s (ob_ld_nI hs (by decide)), hL.cn hA0 hA1 hs, hL.1 2 x (by decide) (by omega), hB x hx, pb_and, pb_dif hl, ob_b1_s (fm_has (by have := dif_lt (b := fl) hl; omega) (by omega))]
    have hnext : ∀ o : Nat, o = E i → ∃ r, f_X7_last_J169 (f_X7_last_L103 k n) g w (nI fl) (nI x) (nI side) (nI (mxs E i)) (nI i) (nI o) = some r ∧ Q r := by
      intro o ho
      have ho11 := hE11 i hi
      unfold f_X7_last_J169 f_X7_last_J185
      rw [max_row (by omega) (by omega) (fun z => f_X7_last_L103 k n g w (nI fl) (nI x) (nI side) z (nI i + 1)), nI_1, ho, ← mxs_s]
      exact ih (i + 1) g (by omega) (by omega) hL
    cases hbit : (dif (W x &&& cn A B side) fl).testBit i
    · rw [if_pos (bI_ne.mpr rfl)]
      exact hnext 0 (by rw [← hE, ex_no hbit])
    · rw [if_neg (fun h => Bool.noConfusion (bI_ne.mp h))]
      have hx0 : fl.testBit i = false := dif_apt hl i hbit
      have hf2 : fl ||| 2 ^ i < 1024 := or_lt hf (pow_lt i hi)
      have e1s : (1 : Int32) - nI side = nI (1 - side) := pk_sub (a := 1) (by omega)
      rw [pb_sh1 i (by omega), pb_or, e1s, ob_b1_s (fm_at _ _ _), ob_b1_s (ob_ld_nI (slotM_lt (by omega) hi hf2) (by decide)), hL.2 (fl ||| 2 ^ i) i (1 - side) hf2 hi (by omega) (by rw [Nat.testBit_or, Nat.testBit_two_pow]; simp) (Or.inl (or_gt hx0)), nI_1]
      refine hnext _ ?_
      rw [← hE, ex_yes hbit]
      unfold valS
      rw [cn_2 side hs]
      rfl
theorem ls_81 (hW : ∀ i, i < 10 → W i < 1024) {g0 : Mm} (hB : TW g0 2 10 W) (hA0 : g0 7 0 = nI A) (hA1 : g0 7 1 = nI B) (hA : A < 1024) (hBB : B < 1024) {fl x : Nat} (hf : fl < 1024) (hx : x < 10) (w : Int32) {Q : Int32 × Mm → Prop} (k : Mm → Int32 → Int32 → Int32 → Option (Int32 × Mm)) (hk : ∀ g, LI W A B (valS W A B) g0 g fl (x + 1) 0 → ∃ r, k g w (nI fl) (nI x) = some r ∧ Q r) : ∀ (n side : Nat) (g : Mm), side ≤ 2 → 2 < side + n → LI W A B (valS W A B) g0 g fl x side → ∃ r, f_X7_last_L81 k n g w (nI fl) (nI x) (nI side) = some r ∧ Q r := by
  intro n
  induction n with
  | zero => intro side g h1 h2; omega
  | succ n ih =>
    intro side g h1 h2 hL
    unfold f_X7_last_L81
    rcases Nat.lt_or_ge side 2 with hs | hs
    rotate_left
    · have e2 : side = 2 := by omega
      subst e2
      rw [if_pos (show (2 : Int32) ≤ nI 2 by decide)]
      exact hk g hL.next
    rw [if_neg (show ¬ (2 : Int32) ≤ nI side from nI_ge hs (by decide)), ob_b1_s (fm_has (by omega) (by omega))]
    cases hbit : fl.testBit x
    · rw [if_pos (bI_ne.mpr rfl)]
      exact hk g (hL.no hbit)
    · rw [if_neg (fun h => Bool.noConfusion (bI_ne.mp h))]
      obtain ⟨z, hz⟩ := FU_ge (n := 11) (by decide)
      exact ls_103 hW hB hA0 hA1 hA hBB hf hx hs w _ (fun g1 hL1 => ih (side + 1) g1 (by omega) (by omega) hL1) FU 0 g (by omega) (by omega) hL
theorem ls_71 (hW : ∀ i, i < 10 → W i < 1024) {g0 : Mm} (hB : TW g0 2 10 W) (hA0 : g0 7 0 = nI A) (hA1 : g0 7 1 = nI B) (hA : A < 1024) (hBB : B < 1024) {fl : Nat} (hf : fl < 1024) (w : Int32) {Q : Int32 × Mm → Prop} (k : Mm → Int32 → Int32 → Option (Int32 × Mm)) (hk : ∀ g, LI W A B (valS W A B) g0 g fl 10 0 → ∃ r, k g w (nI fl + (-1)) = some r ∧ Q r) : ∀ (n x : Nat) (g : Mm), x ≤ 10 → 10 < x + n → LI W A B (valS W A B) g0 g fl x 0 → ∃ r, f_X7_last_L71 k n g w (nI fl) (nI x) = some r ∧ Q r := by
  intro n
  induction n with
  | zero => intro x g h1 h2; omega
  | succ n ih =>
    intro x g h1 h2 hL
    unfold f_X7_last_L71
    rcases Nat.lt_or_ge x 10 with hx | hx
    rotate_left
    · have e2 : x = 10 := by omega
      subst e2
      rw [if_pos (show (10 : Int32) ≤ nI 10 by decide)]
      exact hk g hL
    rw [if_neg (show ¬ (10 : Int32) ≤ nI x from nI_ge hx (by decide))]
    obtain ⟨z, hz⟩ := FU_ge (n := 3) (by decide)
    refine ls_81 hW hB hA0 hA1 hA hBB hf hx w _ (fun g1 hL1 => ?_) FU 0 g (by omega) (by omega) hL
    unfold f_X7_last_J215
    rw [nI_1]
    exact ih (x + 1) g1 (by omega) (by omega) hL1
theorem ls_63 (hW : ∀ i, i < 10 → W i < 1024) {g0 : Mm} (hB : TW g0 2 10 W) (hA0 : g0 7 0 = nI A) (hA1 : g0 7 1 = nI B) (hA : A < 1024) (hBB : B < 1024) (w : Int32) {Q : Int32 × Mm → Prop} (k : Mm → Int32 → Int32 → Int32 → Int32 → Option (Int32 × Mm)) (hk : ∀ g, LI W A B (valS W A B) g0 g 0 0 0 → ∃ r, k g w 0 (-6) 0 = some r ∧ Q r) : ∀ (n fl : Nat) (g : Mm), fl < 1024 → fl < n → LI W A B (valS W A B) g0 g fl 0 0 → ∃ r, f_X7_last_L63 k n g w (nI fl) = some r ∧ Q r := by
  intro n
  induction n with
  | zero => intro fl g h1 h2; omega
  | succ n ih =>
    intro fl g hf hn hL
    unfold f_X7_last_L63
    cases fl with
    | zero =>
      rw [if_pos (show nI 0 ≤ 0 by decide)]
      exact hk g hL
    | succ fl =>
      rw [if_neg (nI_nle (by omega) (by omega))]
      obtain ⟨z, hz⟩ := FU_ge (n := 11) (by decide)
      refine ls_71 hW hB hA0 hA1 hA hBB hf w _ (fun g1 hL1 => ?_) FU 0 g (by omega) (by omega) hL
      rw [pk_m1]
      exact ih fl g1 (by omega) (by omega) hL1.down
theorem ls_237 (hW : ∀ i, i < 10 → W i < 1024) {g0 g : Mm} (hA0 : g0 7 0 = nI A) (hA1 : g0 7 1 = nI B) (hA : A < 1024) (hBB : B < 1024) (hL : LI W A B (valS W A B) g0 g 0 0 0) (w : Nat) (hw : w < 2 ^ 31) : ∀ (n i : Nat), i ≤ 10 → 10 < i + n → f_X7_last_L237 n g (nI w) (nI (mxs (ex trs W A 0 A B) i)) (if mxs (ex trs W A 0 A B) i = 0 then -6 else nI (arg (ex trs W A 0 A B) i)) (nI i) = some (if w = 0 then nI (mxs (ex trs W A 0 A B) 10) else if mxs (ex trs W A 0 A B) 10 = 0 then -6 else nI (arg (ex trs W A 0 A B) 10), g) := by
  generalize hE : ex trs W A 0 A B = E
  have hE11 : ∀ i, i < 10 → E i ≤ 11 := fun i hi => by rw [← hE]; exact exs_le hW hi hA hBB
  intro n
  induction n with
  | zero => intro i h1 h2; omega
  | succ n ih =>
    intro i h1 h2
    have hm11 : mxs E i ≤ 11 := mxs_ub (fun j hj => hE11 j (by omega))
    unfold f_X7_last_L237
    rcases Nat.lt_or_ge i 10 with hi | hi
    rotate_left
    · have e10 : i = 10 := by omega
      subst e10
      rw [if_pos (show (10 : Int32) ≤ nI 10 by decide)]
      by_cases hw0 : w = 0
      · subst hw0
        rw [if_pos (show nI 0 = 0 from rfl), if_pos rfl]
      · rw [if_neg (nI_ne0 (by omega) hw), if_neg hw0]
    rw [if_neg (show ¬ (10 : Int32) ≤ nI i from nI_ge hi (by decide)), ob_b1_s (show ob_ld g 7 2 0 = some (g 7 0) from ob_ld_nI (i := 0) (by decide) (by decide)), hL.1 7 0 (by decide) (by omega), hA0, ob_b1_s (fm_has (by omega) (by omega))]
    have hnext : ∀ o : Nat, o = E i → f_X7_last_J279 (f_X7_last_L237 n) g (nI w) (nI (mxs E i)) (if mxs E i = 0 then -6 else nI (arg E i)) (nI i) (nI o) = some (if w = 0 then nI (mxs E 10) else if mxs E 10 = 0 then -6 else nI (arg E 10), g) := by
      intro o ho
      have ho11 := hE11 i hi
      have h3 := ih (i + 1) (by omega) (by omega)
      unfold f_X7_last_J279 f_X7_last_J295 f_X7_last_J311
      by_cases hc : mxs E i < E i
      · rw [if_neg (nI_ge (by omega) (by omega)), if_neg (nI_ge (by omega) (by omega)), nI_1, ho]
        rw [mxs_s, arg_s, if_pos hc, if_pos hc, if_neg (by omega)] at h3
        exact h3
      · rw [if_pos (nI_le (by omega) (by omega)), if_pos (nI_le (by omega) (by omega)), nI_1]
        rw [mxs_s, arg_s, if_neg hc, if_neg hc] at h3
        exact h3
    cases hbit : A.testBit i
    · rw [if_pos (bI_ne.mpr rfl)]
      exact hnext 0 (by rw [← hE, ex_no hbit])
    · rw [if_neg (fun h => Bool.noConfusion (bI_ne.mp h))]
      have hf2 : 2 ^ i < 1024 := pow_lt i hi
      rw [pb_sh1 i (by omega), show (1 : Int32) = nI 1 from rfl, ob_b1_s (fm_at _ _ _), ob_b1_s (ob_ld_nI (slotM_lt (by omega) hi hf2) (by decide)), hL.2 (2 ^ i) i 1 hf2 hi (by omega) (by rw [Nat.testBit_two_pow]; simp) (Or.inl (Nat.two_pow_pos i)), nI_add]
      refine hnext _ ?_
      rw [← hE, ex_yes hbit, Nat.zero_or]
      rfl
/-- the reference's long games: what stands in cell 14 -/
def HI (W : Nat → Nat) (g0 g : Mm) (st i : Nat) : Prop := (∀ a b, ¬ a = 14 → g a b = g0 a b) ∧ ∀ s' i', s' < 1024 → i' < 10 → s'.testBit i' = true → (st < s' ∨ (s' = st ∧ i' < i)) → g 14 (1024 * i' + s') = nI (AF trs W s' i' 1023 1023)
theorem hh_31 (hW : ∀ i, i < 10 → W i < 1024) {g0 g : Mm} (hB : TW g0 2 10 W) {st i : Nat} (hst : st < 1024) (hi : i < 10) (hL : HI W g0 g st i) (w : Int32) {Q : Int32 × Mm → Prop} (k : Mm → Int32 → Int32 → Int32 → Int32 → Option (Int32 × Mm)) (hk : ∀ v, (st.testBit i = true → v = AF trs W st i 1023 1023) → ∃ r, k g w (nI st) (nI i) (nI v) = some r ∧ Q r) : ∀ (n j : Nat), j ≤ 10 → 10 < j + n → ∃ r, f_X7_high_L31 k n g w (nI st) (nI i) (nI (mxs (ex trs W (dif (W i &&& 1023) st) st 1023 1023) j)) (nI j) = some r ∧ Q r := by
  have hl : W i &&& 1023 < 1024 := and_lt (hW i hi)
  have hl2 : W i &&& 1023 = W i := by
    rw [show 1023 = 2 ^ 10 - 1 from rfl, Nat.and_two_pow_sub_one_eq_mod]
    exact Nat.mod_eq_of_lt (hW i hi)
  generalize hE : ex trs W (dif (W i &&& 1023) st) st 1023 1023 = E
  have hE11 : ∀ j, j < 10 → E j ≤ 11 := fun j hj => by rw [← hE]; exact exs_le hW hj (by decide) (by decide)
  intro n
  induction n with
  | zero => intro j h1 h2; omega
  | succ n ih =>
    intro j h1 h2
    have hm11 : mxs E j ≤ 11 := mxs_ub (fun a ha => hE11 a (by omega))
    unfold f_X7_high_L31
    rcases Nat.lt_or_ge j 10 with hj | hj
    rotate_left
    · have e10 : j = 10 := by omega
      subst e10
      rw [if_pos (show (10 : Int32) ≤ nI 10 by decide)]
      refine hk _ (fun _ => ?_)
      unfold AF
      rw [SC_mxs hW _ _ (dif_lt hl) (dif_apt hl), hE]
    rw [if_neg (show ¬ (10 : Int32) ≤ nI j from nI_ge hj (by decide)), ob_b1_s (fm_has (by omega) (by omega))]
    cases hbi : st.testBit i
    · rw [if_pos (bI_ne.mpr rfl)]
      exact hk _ (fun h => by rw [hbi] at h; cases h)
    rw [if_neg (fun h => Bool.noConfusion (bI_ne.mp h)), ob_b1_s (ob_ld_nI hi (by decide)), hL.1 2 i (by decide), hB i hi, pb_dif (hW i hi), ob_b1_s (fm_has (by have := dif_lt (b := st) (hW i hi); omega) (by omega))]
    rw [hl2] at hE hl
    have hnext : ∀ o : Nat, o = E j → ∃ r, f_X7_high_J88 (f_X7_high_L31 k n) g w (nI st) (nI i) (nI (mxs E j)) (nI j) (nI o) = some r ∧ Q r := by
      intro o ho
      have ho11 := hE11 j hj
      unfold f_X7_high_J88 f_X7_high_J104
      rw [max_row (by omega) (by omega) (fun z => f_X7_high_L31 k n g w (nI st) (nI i) z (nI j + 1)), nI_1, ho, ← mxs_s]
      exact ih (j + 1) (by omega) (by omega)
    cases hbit : (dif (W i) st).testBit j
    · rw [if_pos (bI_ne.mpr rfl)]
      exact hnext 0 (by rw [← hE, ex_no hbit])
    · rw [if_neg (fun h => Bool.noConfusion (bI_ne.mp h))]
      have hx0 : st.testBit j = false := dif_apt hl j hbit
      have hf2 : st ||| 2 ^ j < 1024 := or_lt hst (pow_lt j hj)
      rw [pb_sh1 j (by omega), pb_or, show (1024 : Int32) = nI 1024 from rfl, pk_mul, nI_add, ob_b1_s (ob_ld_nI (by omega) (by decide)), hL.2 (st ||| 2 ^ j) j hf2 hj (by rw [Nat.testBit_or, Nat.testBit_two_pow]; simp) (Or.inl (or_gt hx0)), nI_1]
      refine hnext _ ?_
      rw [← hE, ex_yes hbit]
      rfl
theorem hh_19 (hW : ∀ i, i < 10 → W i < 1024) {g0 : Mm} (hB : TW g0 2 10 W) {st : Nat} (hst : st < 1024) (w : Int32) {Q : Int32 × Mm → Prop} (k : Mm → Int32 → Int32 → Option (Int32 × Mm)) (hk : ∀ g, HI W g0 g st 10 → ∃ r, k g w (nI st + (-1)) = some r ∧ Q r) : ∀ (n i : Nat) (g : Mm), i ≤ 10 → 10 < i + n → HI W g0 g st i → ∃ r, f_X7_high_L19 k n g w (nI st) (nI i) = some r ∧ Q r := by
  intro n
  induction n with
  | zero => intro i g h1 h2; omega
  | succ n ih =>
    intro i g h1 h2 hL
    unfold f_X7_high_L19
    rcases Nat.lt_or_ge i 10 with hi | hi
    rotate_left
    · have e2 : i = 10 := by omega
      subst e2
      rw [if_pos (show (10 : Int32) ≤ nI 10 by decide)]
      exact hk g hL
    rw [if_neg (show ¬ (10 : Int32) ≤ nI i from nI_ge hi (by decide))]
    obtain ⟨z, hz⟩ := FU_ge (n := 11) (by decide)
    refine hh_31 hW hB hst hi hL w _ (fun v hv => ?_) FU 0 (by omega) (by omega)
    unfold f_X7_high_J112
    rw [show (1024 : Int32) = nI 1024 from rfl, pk_mul, nI_add, ob_b1_s (ob_st_nI (by omega) (by decide)), nI_1]
    refine ih (i + 1) _ (by omega) (by omega) ⟨fun a b ha => by rw [ob_up_r ha]; exact hL.1 a b ha, fun s' i' hs' hi' ht hd => ?_⟩
    by_cases e : 1024 * i' + s' = 1024 * i + st
    · have e1 : i' = i := by omega
      have e2 : s' = st := by omega
      subst e1
      subst e2
      rw [ob_up_s, hv ht]
    · rw [ob_up_k e]
      refine hL.2 s' i' hs' hi' ht ?_
      rcases hd with hd | ⟨h3, h4⟩
      · exact Or.inl hd
      · subst h3
        refine Or.inr ⟨rfl, ?_⟩
        rcases Nat.lt_or_ge i' i with q | q
        · exact q
        · have e4 : i' = i := by omega
          subst e4
          exact absurd rfl e
theorem hh_13 (hW : ∀ i, i < 10 → W i < 1024) {g0 : Mm} (hB : TW g0 2 10 W) {x : Nat} (hx : x < 10) : ∀ (n st : Nat) (g : Mm), st < 1024 → st < n → HI W g0 g st 0 → ∃ g', f_X7_high_L13 n g (nI x) (nI st) = some (nI (AF trs W (2 ^ x) x 1023 1023), g') := by
  intro n
  induction n with
  | zero => intro st g h1 h2; omega
  | succ n ih =>
    intro st g hf hn hL
    unfold f_X7_high_L13
    cases st with
    | zero =>
      have hf2 := pow_lt x hx
      rw [if_pos (show nI 0 ≤ 0 by decide), pb_sh1 x (by omega), show (1024 : Int32) = nI 1024 from rfl, pk_mul, nI_add, ob_b1_s (ob_ld_nI (by omega) (by decide)), hL.2 (2 ^ x) x hf2 hx (by rw [Nat.testBit_two_pow]; simp) (Or.inl (Nat.two_pow_pos x))]
      exact ⟨g, rfl⟩
    | succ st =>
      rw [if_neg (nI_nle (by omega) (by omega))]
      obtain ⟨z, hz⟩ := FU_ge (n := 11) (by decide)
      have h := hh_19 hW hB hf (nI x) (Q := fun r => r.1 = nI (AF trs W (2 ^ x) x 1023 1023)) (f_X7_high_L13 n) (fun g1 hL1 => by
        rw [pk_m1]
        obtain ⟨g', e9⟩ := ih st g1 (by omega) (by omega) ⟨hL1.1, fun s' i' hs' hi' ht hd => hL1.2 s' i' hs' hi' ht (by omega)⟩
        exact ⟨_, e9, rfl⟩) FU 0 g (by omega) (by omega) hL
      obtain ⟨r, h3, h4⟩ := h
      refine ⟨r.2, ?_⟩
      show f_X7_high_L19 (f_X7_high_L13 n) FU g (nI x) (nI (st + 1)) (nI 0) = _
      rw [h3, ← h4]
end Last
