/-! The class: a run of the search. -/
def RMx (g : Mm) (R : Nat) : Prop := g 17 2 = nI R ∧ ∀ s, s < 10240 → ∃ v, g 18 s = nI v ∧ v < (R + 1) * 64
theorem old_note {v R : Nat} (h : v < (R + 1) * 64) : v < (R + 1 + 1) * 64 ∧ ¬ v / 64 = R + 1 := by omega
theorem MI.run {W : Nat → Nat} {P Q par R : Nat} {sp : Bool} {e : Nat} {g : Mm} (h : MI W P Q par R sp e g) : RMx g R := by
  obtain ⟨h1, -, -, -, h5⟩ := h
  refine ⟨h1, fun s hs => ?_⟩
  obtain ⟨v, h6, h7, -⟩ := h5 (s / 10) (s % 10) (by omega) (by omega)
  rw [show s / 10 * 10 + s % 10 = s by omega] at h6
  exact ⟨v, h6, h7⟩
/-- what a run leaves: its score and its first move -/
def Ran (W : Nat → Nat) (sp : Bool) (e mv fl p q : Nat) (g : Mm) : Prop :=
  ∃ r, g 17 5 = nI r ∧ r ≤ 39 ∧ okv sp e (10 - card fl) r (SC (trf sp) W mv fl p q) ∧ ((sp = true ∨ e = 39) → g 17 6 = if r = 0 then -6 else nI (arg (ex (trf sp) W mv fl p q) 10))
/-- a run's start: forget, then the best score, kept -/
def st_go (g : Mm) (x1 x2 x3 x4 : Int32) : Option (Mm) := ob_b1 (f_X0_forget g) fun g2 => ob_b2 (fN_X0_best 12 g2 x1 x2 x3 x4 0) fun v3 g3 => some (ob_up g3 17 5 v3)
theorem fx_start {W : Nat → Nat} {R : Nat} {sp : Bool} {e mv fl p q : Nat} {g : Mm} (hW : ∀ i, i < 10 → W i < 1024) (hR : R < 100000) (he : e = 39 ∨ e = 20) (hT : TW g 3 10 W) (hM : RMx g R) (hs : g 17 3 = bI sp) (hee : sp = false → g 17 4 = nI e) (hf : fl < 1024) (hm : mv < 1024) (hp : p < 1024) (hq : q < 1024) (ha : apt mv fl) (hsub : ∀ i, i < 10 → mv.testBit i = true → (p ||| q).testBit i = true) :
    ∃ g', st_go g (nI mv) (nI fl) (nI p) (nI q) = some g' ∧ RMx g' (R + 1) ∧ Ran W sp e mv fl p q g' := by
  obtain ⟨h1, h2⟩ := hM
  have e0 : f_X0_forget g = some (ob_up (ob_up g 17 2 (nI (R + 1))) 17 6 (-6)) := by
    unfold f_X0_forget
    rw [h1, nI_1]
  unfold st_go
  rw [ob_b1_s e0]
  have hpar : card fl % 2 < 2 := Nat.mod_lt _ (by decide)
  have hMI : MI W p q (card fl % 2) (R + 1) sp e (ob_up (ob_up g 17 2 (nI (R + 1))) 17 6 (-6)) := by
    apply MI.six
    refine ⟨ob_up_s _ _ _ _, by rw [ob_up_k (by decide)]; exact hs, fun z => by rw [ob_up_k (by decide)]; exact hee z, hT.ne (by decide), fun fl2 x2 hf2 hx2 => ?_⟩
    rw [ob_up_r (by decide)]
    obtain ⟨v, h3, h4⟩ := h2 (fl2 * 10 + x2) (by omega)
    exact ⟨v, h3, (old_note h4).1, fun h5 _ => absurd h5 (old_note h4).2⟩
  obtain ⟨r, g', e1, k1, k2, -, k4⟩ := best_ok hW hp hq hpar he (R := R + 1) (by omega) 12 0 (by omega) (by omega) _ fl mv hMI hf hm ha hsub (Nat.zero_le _)
  have em : mineOf p q (card fl % 2) fl = p := by unfold mineOf; rw [if_pos rfl]
  have eh : hisOf p q (card fl % 2) fl = q := by unfold hisOf; rw [if_pos rfl]
  rw [em, eh] at e1 k2 k4
  clear em eh
  have e1' : fN_X0_best 12 (ob_up (ob_up g 17 2 (nI (R + 1))) 17 6 (-6)) (nI mv) (nI fl) (nI p) (nI q) 0 = some (nI r, g') := e1
  rw [ob_b2_s e1']
  have hr : r ≤ 39 := by
    unfold okv at k2
    cases sp
    · exact gd_40 (by omega) k2.1
    · have h3 : r = SC trs W mv fl p q := k2
      have h4 := sp_le hW (or_lt hp hq) 10 mv fl p q hm ha hsub (fun i _ hh => by rw [Nat.testBit_or, hh]; rfl) (fun i _ hh => by rw [Nat.testBit_or, hh, Bool.or_true])
      have h5 := card_le (dif (p ||| q) fl)
      have h6 : SC trs W mv fl p q = sc trs W 10 mv fl p q := rfl
      omega
  have hrun := k1.run
  refine ⟨_, rfl, ⟨by rw [ob_up_k (by decide)]; exact hrun.1, fun s hs2 => by rw [ob_up_r (by decide)]; exact hrun.2 s hs2⟩, r, ob_up_s _ _ _ _, hr, k2, fun hor => ?_⟩
  rw [ob_up_k (by decide), k4 rfl hor]
  rfl
theorem fx_fight {W : Nat → Nat} {R : Nat} {mv fl p q : Nat} {b : Bool} {g : Mm} (hW : ∀ i, i < 10 → W i < 1024) (hR : R < 100000) (hT : TW g 3 10 W) (hM : RMx g R) (hf : fl < 1024) (hm : mv < 1024) (hp : p < 1024) (hq : q < 1024) (ha : apt mv fl) (hsub : ∀ i, i < 10 → mv.testBit i = true → (p ||| q).testBit i = true) :
    ∃ g', f_X0_fight g (nI mv) (nI fl) (nI p) (nI q) (bI b) = some g' ∧ RMx g' (R + 1) ∧ Ran W false (if b then 20 else 39) mv fl p q g' := by
  have hgo : ∀ e : Nat, (e = 39 ∨ e = 20) → ∃ g', f_X0_fight_J18 (ob_up g 17 3 0) (nI mv) (nI fl) (nI p) (nI q) (nI e) = some g' ∧ RMx g' (R + 1) ∧ Ran W false e mv fl p q g' := by
    intro e he
    unfold f_X0_fight_J18
    obtain ⟨g', e1, k1, k2⟩ := fx_start (sp := false) (e := e) (g := ob_up (ob_up g 17 3 0) 17 4 (nI e)) hW hR he ((hT.ne (by decide)).ne (by decide)) ⟨by rw [ob_up_k (by decide), ob_up_k (by decide)]; exact hM.1, fun s hs => by rw [ob_up_r (by decide), ob_up_r (by decide)]; exact hM.2 s hs⟩ (by rw [ob_up_k (by decide), ob_up_s]; rfl) (fun _ => ob_up_s _ _ _ _) hf hm hp hq ha hsub
    exact ⟨g', e1, k1, k2⟩
  unfold f_X0_fight
  cases b
  · rw [if_pos (show bI false = 0 from rfl)]
    exact hgo 39 (Or.inl rfl)
  · rw [if_neg (by decide)]
    exact hgo 20 (Or.inr rfl)
theorem fx_spin {W : Nat → Nat} {R : Nat} {mv fl p q : Nat} {g : Mm} (hW : ∀ i, i < 10 → W i < 1024) (hR : R < 100000) (hT : TW g 3 10 W) (hM : RMx g R) (hf : fl < 1024) (hm : mv < 1024) (hp : p < 1024) (hq : q < 1024) (ha : apt mv fl) (hsub : ∀ i, i < 10 → mv.testBit i = true → (p ||| q).testBit i = true) :
    ∃ g', f_X0_spin g (nI mv) (nI fl) (nI p) (nI q) = some g' ∧ RMx g' (R + 1) ∧ Ran W true 39 mv fl p q g' := by
  unfold f_X0_spin
  obtain ⟨g', e1, k1, k2⟩ := fx_start (sp := true) (e := 39) (g := ob_up g 17 3 1) hW hR (Or.inl rfl) (hT.ne (by decide)) ⟨by rw [ob_up_k (by decide)]; exact hM.1, fun s hs => by rw [ob_up_r (by decide)]; exact hM.2 s hs⟩ (ob_up_s _ _ _ _) (fun z => absurd z (by decide)) hf hm hp hq ha hsub
  exact ⟨g', e1, k1, k2⟩
theorem fx_moverPays {W : Nat → Nat} {e mv fl p q : Nat} {g : Mm} (h : Ran W false e mv fl p q g) : f_X0_moverPays g = some (bI (decide (SC trn W mv fl p q < 20))) := by
  obtain ⟨r, h1, h2, h3, -⟩ := h
  have h4 : gd (10 - card fl) r ∧ (r < 20 ↔ SC trn W mv fl p q < 20) ∧ _ := h3
  unfold f_X0_moverPays
  rw [h1]
  by_cases hc : r < 20
  · rw [if_neg (show ¬ (20 : Int32) ≤ nI r from nI_ge hc (by decide))]
    simp [h4.2.1.mp hc]
  · rw [if_pos (show (20 : Int32) ≤ nI r from nI_le (a := 20) (by omega) (by omega))]
    have h5 : ¬ SC trn W mv fl p q < 20 := fun z => hc (h4.2.1.mpr z)
    simp [h5]
/-- how a game ends, told: who pays, how many, with which -/
def tellV (v : Nat) (m o : Nat) : Nat := if v < 20 then m else o
def tellN (v : Nat) : Nat := if v < 20 then v else 40 - v
theorem fx_outcome {W : Nat → Nat} {b : Bool} {mv fl p q m o : Nat} {w : Nat} {g : Mm} (hw : w ≤ 2) (hb : b = decide (w = 0)) (h : Ran W false (if b then 20 else 39) mv fl p q g) : f_X6_outcome g (nI m) (nI o) (nI w) = some (if w = 0 then nI (tellV (SC trn W mv fl p q) m o) else if w = 1 then nI (tellN (SC trn W mv fl p q)) else if SC trn W mv fl p q = 0 then -6 else nI (arg (ex trn W mv fl p q) 10)) := by
  unfold f_X6_outcome
  by_cases h0 : w = 0
  · subst h0
    rw [if_pos rfl, if_pos (show nI 0 = 0 from rfl), ob_b1_s (fx_moverPays h)]
    unfold tellV
    by_cases hv : SC trn W mv fl p q < 20
    · rw [if_pos hv, if_neg (by simp [hv])]
    · rw [if_neg hv, if_pos (by simp [hv])]
  · rw [if_neg (nI_ne0 (by omega) (by omega)), if_neg h0]
    have hbf : b = false := by rw [hb]; simp [h0]
    subst hbf
    obtain ⟨r, h1, h2, h3, h4⟩ := h
    have h5 : gd (10 - card fl) r ∧ (r < 20 ↔ SC trn W mv fl p q < 20) ∧ (39 = 39 → r = SC trn W mv fl p q) := h3
    have h6 := h5.2.2 rfl
    by_cases hw1 : w = 1
    · subst hw1
      rw [if_pos rfl, if_pos (show nI 1 = 1 from rfl)]
      unfold f_X0_howMany tellN
      rw [h1, ← h6]
      by_cases hc : r < 20
      · rw [if_neg (show ¬ (20 : Int32) ≤ nI r from nI_ge hc (by decide)), if_pos hc]; rfl
      · rw [if_pos (show (20 : Int32) ≤ nI r from nI_le (a := 20) (by omega) (by omega)), if_neg hc, show (40 : Int32) = nI 40 from rfl, pk_sub (by omega)]; rfl
    · have hw2 : w = 2 := by omega
      subst hw2
      rw [if_neg (by decide), if_neg (by decide)]
      unfold f_X0_firstMove
      rw [← h6]
      have h7 := h4 (Or.inr rfl)
      show some (g 17 6) = _
      rw [h7]
      rfl
