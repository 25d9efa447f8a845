/-! The reference's tables. -/
def enc (side s : Nat) : Nat := if s < 20 then 2 * s + side else 2 * (40 - s) + (1 - side)
def cn (A B side : Nat) : Nat := if side = 0 then A else B
theorem enc_le {side s : Nat} (hs : side < 2) (h : s ≤ 39) : enc side s ≤ 41 := by unfold enc; split <;> omega
theorem enc_own {side a : Nat} (hs : side < 2) (h : gd 10 a) : enc (1 - side) a + 2 = enc side (trn a) := by
  unfold gd at h
  unfold enc trn
  rcases (show side = 0 ∨ side = 1 by omega) with rfl | rfl <;> (by_cases c : a < 20) <;> simp only [c, if_true, if_false] <;> split <;> omega
theorem gd_10 {c r : Nat} (hc : c ≤ 10) (h : gd c r) : gd 10 r := by unfold gd at h ⊢; omega
theorem rem2 {n : Nat} (hn : n < 2 ^ 31) : nI n - nI n / 2 * 2 = nI (n % 2) := pk_rem hn (by decide) (by decide)
theorem fm_better {side u v : Nat} (hs : side < 2) (hu : gd 10 u) (hv : gd 10 v) : f_X7_isBetter (nI side) (nI (enc side u)) (nI (enc side v)) = some (bI (decide (v < u))) := by
  have u39 := gd_40 (by omega) hu
  have v39 := gd_40 (by omega) hv
  have eu := enc_le hs u39
  have ev := enc_le hs v39
  have pu : (nI (enc side u) - nI (enc side u) / 2 * 2 = nI side) ↔ u < 20 := by
    rw [rem2 (by omega), nI_eq (by omega) (by omega)]
    unfold enc
    split <;> omega
  have pv : (nI (enc side v) - nI (enc side v) / 2 * 2 = nI side) ↔ v < 20 := by
    rw [rem2 (by omega), nI_eq (by omega) (by omega)]
    unfold enc
    split <;> omega
  unfold f_X7_isBetter f_X7_isBetter_J12
  by_cases cu : u < 20
  · rw [if_pos (pu.mpr cu)]
    by_cases cv : v < 20
    · rw [if_pos (pv.mpr cv)]
      unfold f_X7_isBetter_J25
      rw [if_pos rfl, if_neg (by decide)]
      by_cases hc : v < u
      · rw [if_neg (nI_ge (by unfold enc; rw [if_pos cu, if_pos cv]; omega) (by omega))]; simp [hc]
      · rw [if_pos (nI_le (by unfold enc; rw [if_pos cu, if_pos cv]; omega) (by omega))]; simp [hc]
    · rw [if_neg (fun z => cv (pv.mp z))]
      unfold f_X7_isBetter_J25
      rw [if_neg (by decide), ob_b1_s (show ob_zb 0 = some () from rfl)]
      have hc : ¬ v < u := by omega
      simp [hc]
  · rw [if_neg (fun z => cu (pu.mp z))]
    by_cases cv : v < 20
    · rw [if_pos (pv.mpr cv)]
      unfold f_X7_isBetter_J25
      rw [if_neg (by decide), ob_b1_s (show ob_zb 1 = some () from rfl)]
      have hc : v < u := by omega
      simp [hc]
    · rw [if_neg (fun z => cv (pv.mp z))]
      unfold f_X7_isBetter_J25
      rw [if_pos rfl, if_pos rfl]
      by_cases hc : v < u
      · rw [if_neg (nI_ge (by unfold enc; rw [if_neg cu, if_neg cv]; omega) (by omega))]; simp [hc]
      · rw [if_pos (nI_le (by unfold enc; rw [if_neg cu, if_neg cv]; omega) (by omega))]; simp [hc]
def slotM (side x fl : Nat) : Nat := (10 * side + x) * 1024 + fl
theorem slotM_lt {side x fl : Nat} (hs : side < 2) (hx : x < 10) (hf : fl < 1024) : slotM side x fl < 20480 := by unfold slotM; omega
theorem slotM_inj {s x f s2 x2 f2 : Nat} (hx : x < 10) (hx2 : x2 < 10) (hf : f < 1024) (hf2 : f2 < 1024) (h : slotM s x f = slotM s2 x2 f2) : s = s2 ∧ x = x2 ∧ f = f2 := by unfold slotM at h; omega
theorem fm_at (s x f : Nat) : f_X7_at (nI s) (nI x) (nI f) = some (nI (slotM s x f)) := by
  unfold f_X7_at slotM
  rw [show (10 : Int32) = nI 10 from rfl, show (1024 : Int32) = nI 1024 from rfl, pk_mul, nI_add, pk_mul, nI_add]
/-- all but the chosen one is as it was -/
def but8 (g t : Mm) : Prop := ∀ a b, ¬ (a = 0 ∧ b = 8) → t a b = g a b
theorem but8.rf {g : Mm} : but8 g g := fun _ _ _ => rfl
theorem but8.up {g t : Mm} {v : Int32} (h : but8 g t) : but8 g (ob_up t 0 8 v) := fun a b hn => by
  rw [← h a b hn]
  by_cases ha : a = 0
  · rw [ob_up_k (fun e => hn ⟨ha, e⟩)]
  · rw [ob_up_r ha]
theorem but8.row {g t : Mm} (h : but8 g t) {a : Nat} (ha : ¬ a = 0) (b : Nat) : t a b = g a b := h a b (fun z => ha z.1)
/-- the entries that are laid already: those of greater sets; of this one, those ahead -/
def done_ (fl x side fl' x' side' : Nat) : Prop := fl < fl' ∨ (fl' = fl ∧ (x' < x ∨ (x' = x ∧ side' < side)))
def TI (val : Nat → Nat → Nat → Nat) (g : Mm) (fl x side : Nat) : Prop := ∀ fl' x' side', fl' < 1024 → x' < 10 → side' < 2 → fl'.testBit x' = true → done_ fl x side fl' x' side' → g 6 (slotM side' x' fl') = nI (val side' x' fl')
section Tab
variable {W : Nat → Nat} {A B : Nat}
def valF (W : Nat → Nat) (A B : Nat) (side x fl : Nat) : Nat := enc side (AF trn W fl x (cn A B side) (cn A B (1 - side)))
def valS (W : Nat → Nat) (A B : Nat) (side x fl : Nat) : Nat := AF trs W fl x (cn A B side) (cn A B (1 - side))
theorem or_gt {fl x : Nat} (h : fl.testBit x = false) : fl < fl ||| 2 ^ x := by
  have h1 : fl ≤ fl ||| 2 ^ x := Nat.left_le_or
  rcases Nat.lt_or_ge fl (fl ||| 2 ^ x) with q | q
  · exact q
  · have e : fl ||| 2 ^ x = fl := by omega
    have h2 : (fl ||| 2 ^ x).testBit x = true := by rw [Nat.testBit_or, Nat.testBit_two_pow]; simp
    rw [e, h] at h2
    cases h2
theorem cn_2 (side : Nat) (hs : side < 2) : cn A B (1 - (1 - side)) = cn A B side := by
  rw [show 1 - (1 - side) = side by omega]
theorem fm_bestOf (hW : ∀ i, i < 10 → W i < 1024) {g : Mm} {fl side mv : Nat} (hs : side < 2) (hf : fl < 1024) (hm : mv < 1024) (ha : apt mv fl) (hT : ∀ x' side', x' < 10 → side' < 2 → ∀ fl', fl < fl' → fl' < 1024 → fl'.testBit x' = true → g 6 (slotM side' x' fl') = nI (valF W A B side' x' fl')) :
    ∃ g', f_X7_bestOf g (nI side) (nI mv) (nI fl) = some (nI (enc side (SC trn W mv fl (cn A B side) (cn A B (1 - side)))), g') ∧ but8 g g' ∧ g' 0 8 = if SC trn W mv fl (cn A B side) (cn A B (1 - side)) = 0 then -6 else nI (arg (ex trn W mv fl (cn A B side) (cn A B (1 - side))) 10) := by
  rw [SC_mxs hW (cn A B side) (cn A B (1 - side)) hm ha]
  generalize hE : ex trn W mv fl (cn A B side) (cn A B (1 - side)) = E
  have hgd : ∀ i, i < 10 → gd 10 (E i) := fun i hi => by rw [← hE]; exact gd_10 (by omega) (ex_gd hW _ _ hi ha)
  have hgm : ∀ n, n ≤ 10 → gd 10 (mxs E n) := gd_mxs hgd
  have key : ∀ (n x : Nat) (g1 : Mm), x ≤ 10 → 10 < x + n → but8 g g1 → g1 0 8 = (if mxs E x = 0 then -6 else nI (arg E x)) →
      ∃ g', f_X7_bestOf_L13 n g1 (nI side) (nI mv) (nI fl) (if mxs E x = 0 then -6 else nI (enc side (mxs E x))) (nI x) = some (nI (enc side (mxs E 10)), g') ∧ but8 g g' ∧ g' 0 8 = if mxs E 10 = 0 then -6 else nI (arg E 10) := by
    intro n
    induction n with
    | zero => intro x g1 h1 h2; omega
    | succ n ih =>
      intro x g1 h1 h2 hb h8
      unfold f_X7_bestOf_L13
      rcases Nat.lt_or_ge x 10 with hx | hx
      rotate_left
      · have e10 : x = 10 := by omega
        subst e10
        rw [if_pos (show (10 : Int32) ≤ nI 10 by decide)]
        by_cases h0 : mxs E 10 = 0
        · rw [if_pos h0, if_neg (by decide), h0]
          refine ⟨g1, ?_, hb, ?_⟩
          · unfold enc; rw [if_pos (by decide)]; simp
          · rw [h8, h0]
        · have h39 := gd_40 (by omega) (hgm 10 (by omega))
          have h41 := enc_le hs h39
          rw [if_neg h0, if_pos (nI_pos' (by omega)), if_neg h0]
          refine ⟨g1, rfl, hb, ?_⟩
          rw [h8, if_neg h0]
      rw [if_neg (show ¬ (10 : Int32) ≤ nI x from nI_ge hx (by decide)), ob_b1_s (fm_has (by omega) (by omega))]
      cases hbit : mv.testBit x
      · rw [if_pos (bI_ne.mpr rfl)]
        unfold f_X7_bestOf_J78
        have hE0 : E x = 0 := by rw [← hE]; exact ex_no hbit
        have hm1 : mxs E (x + 1) = mxs E x := by rw [mxs_s, if_neg (by omega)]
        have ha1 : arg E (x + 1) = arg E x := by rw [arg_s, if_neg (by omega)]
        have h3 := ih (x + 1) g1 (by omega) (by omega) hb (by rw [hm1, ha1]; exact h8)
        rw [hm1] at h3
        rw [nI_1]
        exact h3
      · rw [if_neg (fun h => Bool.noConfusion (bI_ne.mp h))]
        have hx0 : fl.testBit x = false := ha x hbit
        have hf2 : fl ||| 2 ^ x < 1024 := or_lt hf (pow_lt x hx)
        have e1s : (1 : Int32) - nI side = nI (1 - side) := pk_sub (a := 1) (by omega)
        rw [pb_sh1 x (by omega), pb_or, e1s, ob_b1_s (fm_at _ _ _), ob_b1_s (ob_ld_nI (slotM_lt (by omega) hx hf2) (by decide)), hb.row (by decide), hT x (1 - side) hx (by omega) (fl ||| 2 ^ x) (or_gt hx0) hf2 (by rw [Nat.testBit_or, Nat.testBit_two_pow]; simp)]
        have hav : gd 10 (AF trn W (fl ||| 2 ^ x) x (cn A B (1 - side)) (cn A B (1 - (1 - side)))) := gd_10 (by omega) (AF_gd hW _ _ hx)
        have hEx : E x = trn (AF trn W (fl ||| 2 ^ x) x (cn A B (1 - side)) (cn A B (1 - (1 - side)))) := by rw [← hE, ex_yes hbit, cn_2 side hs]
        have eown : nI (valF W A B (1 - side) x (fl ||| 2 ^ x)) + 2 = nI (enc side (E x)) := by
          rw [show (2 : Int32) = nI 2 from rfl, nI_add]
          unfold valF
          rw [enc_own hs hav, hEx]
        rw [eown]
        have hpos : 0 < E x := by rw [hEx]; exact trn_pos (by omega) hav
        have hx39 := gd_40 (by omega) (hgd x hx)
        have hm39 := gd_40 (by omega) (hgm x (by omega))
        by_cases h0 : mxs E x = 0
        · rw [if_pos h0, if_pos (by decide)]
          unfold f_X7_bestOf_J68 f_X7_bestOf_J78
          have hm1 : mxs E (x + 1) = E x := by rw [mxs_s, if_pos (by omega)]
          have ha1 : arg E (x + 1) = x := by rw [arg_s, if_pos (by omega)]
          have h3 := ih (x + 1) (ob_up g1 0 8 (nI x)) (by omega) (by omega) hb.up (by rw [hm1, ha1, if_neg (by omega), ob_up_s])
          rw [hm1, if_neg (by omega)] at h3
          rw [nI_1]
          exact h3
        · have h41 := enc_le hs hm39
          rw [if_neg h0, if_neg (nI_pos (by omega)), ob_b1_s (fm_better hs (hgd x hx) (hgm x (by omega)))]
          by_cases hlt : mxs E x < E x
          · rw [if_neg (by simp [hlt])]
            unfold f_X7_bestOf_J68 f_X7_bestOf_J78
            have hm1 : mxs E (x + 1) = E x := by rw [mxs_s, if_pos hlt]
            have ha1 : arg E (x + 1) = x := by rw [arg_s, if_pos hlt]
            have h3 := ih (x + 1) (ob_up g1 0 8 (nI x)) (by omega) (by omega) hb.up (by rw [hm1, ha1, if_neg (by omega), ob_up_s])
            rw [hm1, if_neg (by omega)] at h3
            rw [nI_1]
            exact h3
          · rw [if_pos (by simp [hlt])]
            unfold f_X7_bestOf_J78
            have hm1 : mxs E (x + 1) = mxs E x := by rw [mxs_s, if_neg hlt]
            have ha1 : arg E (x + 1) = arg E x := by rw [arg_s, if_neg hlt]
            have h3 := ih (x + 1) g1 (by omega) (by omega) hb (by rw [hm1, ha1]; exact h8)
            rw [hm1, if_neg h0] at h3
            rw [nI_1]
            exact h3
  unfold f_X7_bestOf
  obtain ⟨z, hz⟩ := FU_ge (n := 11) (by decide)
  exact key FU 0 (ob_up g 0 8 (-6)) (by omega) (by omega) but8.rf.up (by rw [ob_up_s]; rfl)
/-- while the tables are laid: the book, both hands, and what is laid -/
def LI (W : Nat → Nat) (A B : Nat) (val : Nat → Nat → Nat → Nat) (g0 g : Mm) (fl x side : Nat) : Prop :=
  (∀ a b, ¬ a = 6 → ¬ (a = 0 ∧ b = 8) → g a b = g0 a b) ∧ TI val g fl x side
theorem LI.lay {val : Nat → Nat → Nat → Nat} {g0 g g1 : Mm} {fl x side v : Nat} (h : LI W A B val g0 g fl x side) (hb : but8 g g1) (hf : fl < 1024) (hx : x < 10) (hv : v = val side x fl) : LI W A B val g0 (ob_up g1 6 (slotM side x fl) (nI v)) fl x (side + 1) := by
  refine ⟨fun a b h1 h2 => by rw [ob_up_r h1, hb a b h2]; exact h.1 a b h1 h2, fun fl' x' side' hf' hx' hs' ht hd => ?_⟩
  by_cases e : slotM side' x' fl' = slotM side x fl
  · obtain ⟨e1, e2, e3⟩ := slotM_inj hx' hx hf' hf e
    subst e1; subst e2; subst e3
    rw [ob_up_s, hv]
  · rw [ob_up_k e, hb.row (by decide)]
    refine h.2 fl' x' side' hf' hx' hs' ht ?_
    unfold done_ at hd ⊢
    rcases hd with hd | ⟨h1, hd | ⟨h2, h3⟩⟩
    · exact Or.inl hd
    · exact Or.inr ⟨h1, Or.inl hd⟩
    · refine Or.inr ⟨h1, Or.inr ⟨h2, ?_⟩⟩
      rcases Nat.lt_or_ge side' side with q | q
      · exact q
      · have e4 : side' = side := by omega
        subst h1
        subst h2
        subst e4
        exact absurd rfl e
theorem LI.skip {val : Nat → Nat → Nat → Nat} {g0 g : Mm} {fl x side x2 side2 : Nat} (h : LI W A B val g0 g fl x side) (hh : ∀ x' side', x' < 10 → side' < 2 → fl.testBit x' = true → (x' < x2 ∨ (x' = x2 ∧ side' < side2)) → (x' < x ∨ (x' = x ∧ side' < side))) : LI W A B val g0 g fl x2 side2 := by
  refine ⟨h.1, fun fl' x' side' hf' hx' hs' ht hd => h.2 fl' x' side' hf' hx' hs' ht ?_⟩
  unfold done_ at hd ⊢
  rcases hd with hd | ⟨h1, hd⟩
  · exact Or.inl hd
  · subst h1
    exact Or.inr ⟨rfl, hh x' side' hx' hs' ht hd⟩
theorem LI.down {val : Nat → Nat → Nat → Nat} {g0 g : Mm} {fl : Nat} (h : LI W A B val g0 g (fl + 1) 10 0) : LI W A B val g0 g fl 0 0 := by
  refine ⟨h.1, fun fl' x' side' hf' hx' hs' ht hd => h.2 fl' x' side' hf' hx' hs' ht ?_⟩
  unfold done_ at hd ⊢
  omega
theorem LI.next {val : Nat → Nat → Nat → Nat} {g0 g : Mm} {fl x : Nat} (h : LI W A B val g0 g fl x 2) : LI W A B val g0 g fl (x + 1) 0 := h.skip (fun x' side' hx' hs' _ hd => by omega)
theorem LI.no {val : Nat → Nat → Nat → Nat} {g0 g : Mm} {fl x side : Nat} (h : LI W A B val g0 g fl x side) (hb : fl.testBit x = false) : LI W A B val g0 g fl (x + 1) 0 := h.skip (fun x' side' hx' hs' ht hd => by
  by_cases e : x' = x
  · subst e
    rw [hb] at ht
    cases ht
  · omega)
theorem LI.cn {val : Nat → Nat → Nat → Nat} {g0 g : Mm} {fl x side s : Nat} (h : LI W A B val g0 g fl x side) (hA0 : g0 7 0 = nI A) (hA1 : g0 7 1 = nI B) (hs : s < 2) : g 7 s = nI (cn A B s) := by
  rw [h.1 7 s (by decide) (by omega)]
  rcases (show s = 0 ∨ s = 1 by omega) with rfl | rfl
  · exact hA0
  · exact hA1
theorem cn_lt {s : Nat} (hA : A < 1024) (hB : B < 1024) : cn A B s < 1024 := by unfold cn; split <;> assumption
theorem lay_57 (hW : ∀ i, i < 10 → W i < 1024) {g0 : Mm} (hB : TW g0 2 10 W) (hA0 : g0 7 0 = nI A) (hA1 : g0 7 1 = nI B) {fl x : Nat} (hf : fl < 1024) (hx : x < 10) {Q : Mm → Prop} (k : Mm → Int32 → Int32 → Option Mm) (hk : ∀ g, LI W A B (valF W A B) g0 g fl (x + 1) 0 → ∃ r, k g (nI fl) (nI x) = some r ∧ Q r) : ∀ (n side : Nat) (g : Mm), side ≤ 2 → 2 < side + n → LI W A B (valF W A B) g0 g fl x side → ∃ r, f_X7_layMatch_L57 k n g (nI fl) (nI x) (nI side) = some r ∧ Q r := by
  intro n
  induction n with
  | zero => intro side g h1 h2; omega
  | succ n ih =>
    intro side g h1 h2 hL
    unfold f_X7_layMatch_L57
    rcases Nat.lt_or_ge side 2 with hs | hs
    rotate_left
    · have e2 : side = 2 := by omega
      subst e2
      rw [if_pos (show (2 : Int32) ≤ nI 2 by decide)]
      exact hk g hL.next
    rw [if_neg (show ¬ (2 : Int32) ≤ nI side from nI_ge hs (by decide)), ob_b1_s (fm_has (by omega) (by omega))]
    cases hbit : fl.testBit x
    · rw [if_pos (bI_ne.mpr rfl)]
      exact hk g (hL.no hbit)
    · rw [if_neg (fun h => Bool.noConfusion (bI_ne.mp h)), ob_b1_s (fm_at _ _ _), ob_b1_s (ob_ld_nI hx (by decide)), ob_b1_s (ob_ld_nI hs (by decide)), hL.cn hA0 hA1 hs, hL.1 2 x (by decide) (by omega), hB x hx, pb_and]
      have hl : W x &&& cn A B side < 1024 := and_lt (hW x hx)
      rw [pb_dif hl]
      obtain ⟨g', e1, hb, -⟩ := fm_bestOf (A := A) (B := B) (g := g) hW hs hf (dif_lt hl) (dif_apt hl) (fun x' side' hx' hs' fl' hlt hf' ht => hL.2 fl' x' side' hf' hx' hs' ht (Or.inl hlt))
      rw [ob_b2_s e1, ob_b1_s (ob_st_nI (slotM_lt hs hx hf) (by decide)), nI_1]
      exact ih (side + 1) _ (by omega) (by omega) (hL.lay hb hf hx rfl)
theorem lay_47 (hW : ∀ i, i < 10 → W i < 1024) {g0 : Mm} (hB : TW g0 2 10 W) (hA0 : g0 7 0 = nI A) (hA1 : g0 7 1 = nI B) {fl : Nat} (hf : fl < 1024) {Q : Mm → Prop} (k : Mm → Int32 → Option Mm) (hk : ∀ g, LI W A B (valF W A B) g0 g fl 10 0 → ∃ r, k g (nI fl + (-1)) = some r ∧ Q r) : ∀ (n x : Nat) (g : Mm), x ≤ 10 → 10 < x + n → LI W A B (valF W A B) g0 g fl x 0 → ∃ r, f_X7_layMatch_L47 k n g (nI fl) (nI x) = some r ∧ Q r := by
  intro n
  induction n with
  | zero => intro x g h1 h2; omega
  | succ n ih =>
    intro x g h1 h2 hL
    unfold f_X7_layMatch_L47
    rcases Nat.lt_or_ge x 10 with hx | hx
    rotate_left
    · have e2 : x = 10 := by omega
      subst e2
      rw [if_pos (show (10 : Int32) ≤ nI 10 by decide)]
      exact hk g hL
    rw [if_neg (show ¬ (10 : Int32) ≤ nI x from nI_ge hx (by decide))]
    obtain ⟨z, hz⟩ := FU_ge (n := 3) (by decide)
    refine lay_57 hW hB hA0 hA1 hf hx _ (fun g1 hL1 => ?_) FU 0 g (by omega) (by omega) hL
    unfold f_X7_layMatch_J117
    rw [nI_1]
    exact ih (x + 1) g1 (by omega) (by omega) hL1
theorem lay_40 (hW : ∀ i, i < 10 → W i < 1024) {g0 : Mm} (hB : TW g0 2 10 W) (hA0 : g0 7 0 = nI A) (hA1 : g0 7 1 = nI B) : ∀ (n fl : Nat) (g : Mm), fl < 1024 → fl < n → LI W A B (valF W A B) g0 g fl 0 0 → ∃ g', f_X7_layMatch_L40 n g (nI fl) = some g' ∧ LI W A B (valF W A B) g0 g' 0 0 0 := by
  intro n
  induction n with
  | zero => intro fl g h1 h2; omega
  | succ n ih =>
    intro fl g hf hn hL
    unfold f_X7_layMatch_L40
    cases fl with
    | zero =>
      rw [if_pos (show nI 0 ≤ 0 by decide)]
      exact ⟨g, rfl, hL⟩
    | succ fl =>
      rw [if_neg (nI_nle (by omega) (by omega))]
      obtain ⟨z, hz⟩ := FU_ge (n := 11) (by decide)
      refine lay_47 hW hB hA0 hA1 hf _ (fun g1 hL1 => ?_) FU 0 g (by omega) (by omega) hL
      rw [pk_m1]
      exact ih fl g1 (by omega) (by omega) hL1.down
end Tab
