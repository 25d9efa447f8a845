/-! Matches: both sides answer the same. -/
theorem two_of {a b : Int32} (h : two a b = true) : ∃ m o : Nat, m < 5 ∧ o < 5 ∧ m ≠ o ∧ a = nI m ∧ b = nI o := by
  unfold two at h
  simp only [Bool.and_eq_true] at h
  obtain ⟨⟨h1, h2⟩, h3⟩ := h
  obtain ⟨m, hm, rfl⟩ := inr_of (n := 4) (by decide) h1
  obtain ⟨o, ho, rfl⟩ := inr_of (n := 4) (by decide) h2
  refine ⟨m, o, by omega, by omega, fun e => ?_, rfl, rfl⟩
  subst e
  simp at h3
theorem apt_0 (a : Nat) : apt a 0 := fun i _ => by simp
theorem mem_or_l {p q i : Nat} (h : p.testBit i = true) : (p ||| q).testBit i = true := by rw [Nat.testBit_or, h]; rfl
/-- the class's town, as the game needs it -/
def TX (g : Mm) (W N T K : Nat → Nat) : Prop := TW g 3 10 W ∧ TW g 4 10 N ∧ TW g 5 5 T ∧ TW g 6 5 K
def TU (g : Mm) (W N T K : Nat → Nat) : Prop := TW g 2 10 W ∧ TW g 3 10 N ∧ TW g 4 5 T ∧ TW g 5 5 K
theorem TX.fr {g g' : Mm} {W N T K : Nat → Nat} (h : TX g W N T K) {F : List (Nat × Nat)} (hF : Fr [18] F g g') (d : ∀ q ∈ [3, 4, 5, 6], ∀ x, x ∈ F → ¬ x.1 = q) : TX g' W N T K :=
  ⟨h.1.fr hF (by decide) (d 3 (by decide)), h.2.1.fr hF (by decide) (d 4 (by decide)), h.2.2.1.fr hF (by decide) (d 5 (by decide)), h.2.2.2.fr hF (by decide) (d 6 (by decide))⟩
theorem TU.fr {g g' : Mm} {W N T K : Nat → Nat} (h : TU g W N T K) {F : List (Nat × Nat)} (hF : Fr [6, 7] F g g') (d : ∀ q ∈ [2, 3, 4, 5], ∀ x, x ∈ F → ¬ x.1 = q) : TU g' W N T K :=
  ⟨h.1.fr hF (by decide) (d 2 (by decide)), h.2.1.fr hF (by decide) (d 3 (by decide)), h.2.2.1.fr hF (by decide) (d 4 (by decide)), h.2.2.2.fr hF (by decide) (d 5 (by decide))⟩
theorem RT.x {s u : Mm} {W N T K : Nat → Nat} (h : RT s u W N T K) : TX s W N T K := ⟨h.1, h.2.1, h.2.2.1, h.2.2.2.1⟩
theorem RT.u {s u : Mm} {W N T K : Nat → Nat} (h : RT s u W N T K) : TU u W N T K := ⟨h.2.2.2.2.1, h.2.2.2.2.2.1, h.2.2.2.2.2.2.1, h.2.2.2.2.2.2.2⟩
theorem Rng.w {W N T K : Nat → Nat} (h : Rng W N T K) : ∀ i, i < 10 → W i < 1024 := fun i hi => (h.1 i hi).1
theorem Rng.n {W N T K : Nat → Nat} (h : Rng W N T K) : ∀ i, i < 10 → N i < 64 := fun i hi => (h.1 i hi).2.2
theorem Rng.k {W N T K : Nat → Nat} (h : Rng W N T K) : ∀ i, i < 5 → K i < 1024 := fun i hi => (h.2 i hi).2
/-- the opener pays -/
def pay (W : Nat → Nat) (A B : Nat) : Bool := decide (SC trn W A 0 A B < 20)
theorem fm_layMatch {W N T K : Nat → Nat} {u : Mm} {m o : Nat} (hR : Rng W N T K) (hU : TU u W N T K) (hm : m < 5) (ho : o < 5) :
    ∃ g0 u', f_X7_layMatch u (nI m) (nI o) = some u' ∧ TW g0 2 10 W ∧ g0 7 0 = nI (K m &&& FI N T o) ∧ g0 7 1 = nI (K o &&& FI N T m) ∧ LI W (K m &&& FI N T o) (K o &&& FI N T m) (valF W (K m &&& FI N T o) (K o &&& FI N T m)) g0 u' 0 0 0 := by
  obtain ⟨h1, h2, h3, h4⟩ := hU
  have hn := hR.n
  unfold f_X7_layMatch
  rw [ob_b1_s (ob_ld_nI hm (by decide)), ob_b1_s (fm_fitOf h2 h3 hn ho), h4 m hm, pb_and, ob_b1_s (show ob_st u 7 2 0 _ = some (ob_up u 7 0 _) from ob_st_nI (i := 0) (by decide) (by decide)),
    ob_b1_s (ob_ld_nI ho (by decide)), ob_b1_s (fm_fitOf (h2.ne (by decide)) (h3.ne (by decide)) hn hm), ob_up_r (by decide), h4 o ho, pb_and, ob_b1_s (show ob_st _ 7 2 1 _ = some (ob_up _ 7 1 _) from ob_st_nI (i := 1) (by decide) (by decide))]
  have hA : K m &&& FI N T o < 1024 := and_lt (hR.k m hm)
  have hB : K o &&& FI N T m < 1024 := and_lt (hR.k o ho)
  obtain ⟨z, hz⟩ := FU_ge (n := 2000) (by decide)
  have hb : TW (ob_up (ob_up u 7 0 (nI (K m &&& FI N T o))) 7 1 (nI (K o &&& FI N T m))) 2 10 W := (h1.ne (by decide)).ne (by decide)
  have ha0 : ob_up (ob_up u 7 0 (nI (K m &&& FI N T o))) 7 1 (nI (K o &&& FI N T m)) 7 0 = nI (K m &&& FI N T o) := by rw [ob_up_k (by decide), ob_up_s]
  have ha1 : ob_up (ob_up u 7 0 (nI (K m &&& FI N T o))) 7 1 (nI (K o &&& FI N T m)) 7 1 = nI (K o &&& FI N T m) := ob_up_s _ _ _ _
  obtain ⟨u', e2, e3⟩ := lay_40 hR.w hb ha0 ha1 FU 1023 _ (by decide) (by omega) ⟨fun _ _ _ _ => rfl, fun fl' x' side' hf' _ _ _ hd => by unfold done_ at hd; omega⟩
  exact ⟨_, u', e2, hb, ha0, ha1, e3⟩
theorem fm_best0 {W : Nat → Nat} {A B : Nat} {g0 u : Mm} {mv fl : Nat} (hW : ∀ i, i < 10 → W i < 1024) (hL : LI W A B (valF W A B) g0 u 0 0 0) (hf : fl < 1024) (hm : mv < 1024) (ha : apt mv fl) :
    ∃ u', f_X7_bestOf u 0 (nI mv) (nI fl) = some (nI (enc 0 (SC trn W mv fl A B)), u') ∧ u' 0 8 = if SC trn W mv fl A B = 0 then -6 else nI (arg (ex trn W mv fl A B) 10) := by
  obtain ⟨u', e2, -, e3⟩ := fm_bestOf (A := A) (B := B) (side := 0) hW (by decide) hf hm ha (fun x' side' hx' hs' fl' hlt hf' ht => hL.2 fl' x' side' hf' hx' hs' ht (Or.inl (by omega)))
  exact ⟨u', e2, e3⟩
theorem enc0_2 {V : Nat} (h : V ≤ 39) : (nI (enc 0 V) - nI (enc 0 V) / 2 * 2 = 0) ↔ V < 20 := by
  have h1 := enc_le (side := 0) (by decide) h
  rw [rem2 (by omega)]
  show nI _ = nI 0 ↔ _
  rw [nI_eq (by omega) (by decide)]
  unfold enc
  split <;> omega
theorem fm_toldOf {V m o w : Nat} {c : Int32} (hV : V ≤ 39) (hw : w ≤ 2) : f_X7_toldOf (nI (enc 0 V)) (nI w) (nI m) (nI o) c = some (if w = 0 then nI (tellV V m o) else if w = 1 then nI (tellN V) else c) := by
  have h1 := enc_le (side := 0) (by decide) hV
  unfold f_X7_toldOf
  by_cases h0 : w = 0
  · subst h0
    rw [if_pos (show nI 0 = 0 from rfl), if_pos rfl]
    unfold tellV
    by_cases hv : V < 20
    · rw [if_pos ((enc0_2 hV).mpr hv), if_pos hv]
    · rw [if_neg (fun z => hv ((enc0_2 hV).mp z)), if_neg hv]
  · rw [if_neg (nI_ne0 (by omega) (by omega)), if_neg h0]
    by_cases hw1 : w = 1
    · subst hw1
      rw [if_pos (show nI 1 = 1 from rfl), if_pos rfl, show (2 : Int32) = nI 2 from rfl, pk_div (by omega) (by decide) (by decide)]
      unfold tellN enc
      split
      · rw [show (2 * V + 0) / 2 = V by omega]
      · rw [show (2 * (40 - V) + (1 - 0)) / 2 = 40 - V by omega]
    · have hw2 : w = 2 := by omega
      subst hw2
      rfl
theorem SC39 {W : Nat → Nat} (hW : ∀ i, i < 10 → W i < 1024) {mv fl p q : Nat} (hm : mv < 1024) (ha : apt mv fl) : SC trn W mv fl p q ≤ 39 := gd_40 (by omega) (SC_gd hW 10 mv fl p q hm ha (by omega))
theorem RM.one {s' : Mm} {k R : Nat} (hR : R ≤ 16 * k) (h : RMx s' (R + 1)) : RM s' (k + 1) := ⟨R + 1, by omega, h⟩
theorem bf0 : bI false = 0 := rfl
theorem bnot {b : Bool} (h : b = true) : ¬ bI b = 0 := fun z => by rw [bI_ne.mp z] at h; cases h
theorem ag_match {k : Nat} {s u : Mm} (h : Rel k s u) (hk : k ≤ 512) (a b c : Int32) : ∃ r s' u', f_X6_match s a b c = some (r, s') ∧ f_X7_match u a b c = some (r, u') ∧ Rel (k + 1) s' u' := by
  cases h2 : two a b
  · refine ⟨-1, s, u, ?_, ?_, h.mono (by omega)⟩
    · unfold f_X6_match
      rw [ob_b1_s (fx_areTwo a b), h2, if_pos bf0]
    · unfold f_X7_match
      rw [ob_b1_s (fm_areTwo a b), h2, if_pos bf0]
  cases h3 : inr c 0 2
  · refine ⟨-2, s, u, ?_, ?_, h.mono (by omega)⟩
    · unfold f_X6_match
      rw [ob_b1_s (fx_areTwo a b), h2, if_neg (bnot rfl), ob_b1_s (fx_within c 0 2), h3, if_pos bf0]
    · unfold f_X7_match
      rw [ob_b1_s (fm_areTwo a b), h2, if_neg (bnot rfl), ob_b1_s (fm_in c 0 2), h3, if_pos bf0]
  obtain ⟨m, o, hm, ho, -, rfl, rfl⟩ := two_of h2
  obtain ⟨w, hw, rfl⟩ := inr_of (n := 2) (by decide) h3
  obtain ⟨⟨W, N, T, K, hR, hT⟩, -, -, -, ⟨R, hR16, hRM⟩, -⟩ := id h
  have hA : K m &&& FI N T o < 1024 := and_lt (hR.k m hm)
  have hB : K o &&& FI N T m < 1024 := and_lt (hR.k o ho)
  have hX := hT.x
  obtain ⟨s', e1, k1, k2⟩ := fx_fight (b := decide (w = 0)) hR.w (by omega) hX.1 hRM (fl := 0) (by decide) hA hA hB (apt_0 _) (fun i _ hh => mem_or_l hh)
  have e1' : f_X0_fight s (nI (K m &&& FI N T o)) 0 (nI (K m &&& FI N T o)) (nI (K o &&& FI N T m)) (bI (decide (w = 0))) = some s' := e1
  have ex1 : f_X6_match s (nI m) (nI o) (nI w) = some ((if w = 0 then nI (tellV (SC trn W (K m &&& FI N T o) 0 (K m &&& FI N T o) (K o &&& FI N T m)) m o) else if w = 1 then nI (tellN (SC trn W (K m &&& FI N T o) 0 (K m &&& FI N T o) (K o &&& FI N T m))) else if SC trn W (K m &&& FI N T o) 0 (K m &&& FI N T o) (K o &&& FI N T m) = 0 then -6 else nI (arg (ex trn W (K m &&& FI N T o) 0 (K m &&& FI N T o) (K o &&& FI N T m)) 10)), s') := by
    have eo := fx_outcome (m := m) (o := o) hw rfl k2
    unfold f_X6_match
    rw [ob_b1_s (fx_areTwo _ _), h2, if_neg (bnot rfl), ob_b1_s (fx_within _ 0 2), h3, if_neg (bnot rfl), ob_b1_s (fx_sayable hX.2.1 hX.2.2.1 hX.2.2.2 hR.n hm ho), ob_b1_s (fx_sayable hX.2.1 hX.2.2.1 hX.2.2.2 hR.n ho hm)]
    by_cases hw0 : w = 0
    · rw [if_pos (show nI w = 0 by rw [hw0]; rfl)]
      unfold f_X6_match_J60
      have e2 : bI (decide (w = 0)) = 1 := by simp [hw0]
      rw [e2] at e1'
      rw [ob_b1_s e1', ob_b1_s eo]
    · rw [if_neg (nI_ne0 (by omega) (by omega))]
      unfold f_X6_match_J60
      have e2 : bI (decide (w = 0)) = 0 := by simp [hw0]
      rw [e2] at e1'
      rw [ob_b1_s e1', ob_b1_s eo]
  obtain ⟨g0, u1, f1, f2, f3, f4, f5⟩ := fm_layMatch hR hT.u hm ho
  obtain ⟨u2, f6, f7⟩ := fm_best0 hR.w f5 (fl := 0) (by decide) hA (apt_0 _)
  have f6' : f_X7_bestOf u1 0 (nI (K m &&& FI N T o)) 0 = some (nI (enc 0 (SC trn W (K m &&& FI N T o) 0 (K m &&& FI N T o) (K o &&& FI N T m))), u2) := f6
  have hld : ob_ld u1 7 2 0 = some (nI (K m &&& FI N T o)) := by
    rw [show ob_ld u1 7 2 0 = some (u1 7 0) from ob_ld_nI (i := 0) (by decide) (by decide), f5.1 7 0 (by decide) (by decide), f3]
  have ex2 : f_X7_match u (nI m) (nI o) (nI w) = some ((if w = 0 then nI (tellV (SC trn W (K m &&& FI N T o) 0 (K m &&& FI N T o) (K o &&& FI N T m)) m o) else if w = 1 then nI (tellN (SC trn W (K m &&& FI N T o) 0 (K m &&& FI N T o) (K o &&& FI N T m))) else if SC trn W (K m &&& FI N T o) 0 (K m &&& FI N T o) (K o &&& FI N T m) = 0 then -6 else nI (arg (ex trn W (K m &&& FI N T o) 0 (K m &&& FI N T o) (K o &&& FI N T m)) 10)), u2) := by
    unfold f_X7_match
    rw [ob_b1_s (fm_areTwo _ _), h2, if_neg (bnot rfl), ob_b1_s (fm_in _ 0 2), h3, if_neg (bnot rfl), ob_b1_s f1, ob_b1_s hld, ob_b2_s f6', ob_b1_s (fm_toldOf (SC39 hR.w hA (apt_0 _)) hw), f7]
  exact ⟨_, s', u2, ex1, ex2, h.scr (fr_X6_match _ _ _ _ _ _ ex1) (fr_X7_match _ _ _ _ _ _ ex2) (by decide) (by decide) (by decide) (RM.one hR16 k1)⟩
