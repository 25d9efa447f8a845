def Fr (S : List Nat) (F : List (Nat × Nat)) (g t : Mm) : Prop := ∀ q k, ¬ q ∈ S → ¬ (q, k) ∈ F → t q k = g q k
theorem Fr.rf {S : List Nat} {F : List (Nat × Nat)} {g : Mm} : Fr S F g g := fun _ _ _ _ => rfl
theorem Fr.tr {S S1 : List Nat} {F F1 : List (Nat × Nat)} {g t u : Mm} (h : Fr S F g t) (h1 : Fr S1 F1 t u) (hs : ∀ q, q ∈ S1 → q ∈ S) (hf : ∀ q, q ∈ F1 → q ∈ F) : Fr S F g u := fun q k hq hk => (h1 q k (fun z => hq (hs q z)) (fun z => hk (hf _ z))).trans (h q k hq hk)
theorem Fr.up {S : List Nat} {F : List (Nat × Nat)} {g t : Mm} {q k : Nat} {v : Int32} (h : Fr S F g t) (hq : (q, k) ∈ F) : Fr S F g (ob_up t q k v) := fun a b ha hb => by
  rw [← h a b ha hb]
  unfold ob_up
  rw [if_neg]
  rintro ⟨rfl, rfl⟩
  exact hb hq
theorem Fr.st {S : List Nat} {F : List (Nat × Nat)} {g t u : Mm} {q n : Nat} {i x : Int32} (h : Fr S F g t) (e : ob_st t q n i x = some u) (hq : q ∈ S) : Fr S F g u := fun a b ha hb => by
  obtain ⟨-, rfl⟩ := ob_st_in e
  rw [← h a b ha hb]
  unfold ob_up
  rw [if_neg]
  rintro ⟨rfl, -⟩
  exact ha hq
theorem Fr.sz {S : List Nat} {F : List (Nat × Nat)} {g t u : Mm} {q n : Nat} {i x : Int32} (h : Fr S F g t) (e : ob_sz t q n i x = some u) (hq : q ∈ S) : Fr S F g u := fun a b ha hb => by
  obtain ⟨-, rfl⟩ := ob_sz_in e
  rw [← h a b ha hb]
  unfold ob_up
  rw [if_neg]
  rintro ⟨rfl, -⟩
  exact ha hq
set_option maxHeartbeats 1000000 in
theorem fr_X3_put (g : Mm) (x1 : Int32) (t : Mm) (hf : f_X3_put g x1 = some t) : Fr [30] [(1, 1)] g t := by
  have hF : Fr [30] [(1, 1)] g g := Fr.rf
  unfold f_X3_put at hf
  by_cases c1 : (g 1 1) < 0
  · rw [if_pos c1] at hf
    cases hf; exact hF
  · rw [if_neg c1] at hf
    by_cases c2 : (g 1 1) < 40
    · rw [if_pos c2] at hf
      obtain ⟨g3, e3, hf⟩ := ob_e1 hf
      have hF := hF.st e3 (by simp)
      have hF := hF.up (q := 1) (k := 1) (v := ((g3 1 1) + 1)) (by simp)
      cases hf; exact hF
    · rw [if_neg c2] at hf
      cases hf; exact hF
set_option maxHeartbeats 1000000 in
theorem fr_X6_say (g : Mm) (x1 : Int32) (r : Int32) (t : Mm) (hf : f_X6_say g x1 = some (r, t)) : Fr [30] [(1, 1)] g t := by
  have hF : Fr [30] [(1, 1)] g g := Fr.rf
  unfold f_X6_say at hf
  obtain ⟨v1, e1, hf⟩ := ob_e1 hf
  by_cases c2 : v1 = 0
  · rw [if_pos c2] at hf
    cases hf; exact hF
  · rw [if_neg c2] at hf
    obtain ⟨v3, e3, hf⟩ := ob_e1 hf
    by_cases c4 : v3 = 0
    · rw [if_pos c4] at hf
      obtain ⟨g5, e5, hf⟩ := ob_e1 hf
      have hF := hF.tr (fr_X3_put g x1 _ e5) (by first | decide | (intro q h; simp at h; done) | (intro q h; simp at h ⊢; omega)) (by first | decide | (intro q h; simp at h; done) | (intro q h; simp at h ⊢; omega))
      obtain ⟨v6, e6, hf⟩ := ob_e1 hf
      cases hf; exact hF
    · rw [if_neg c4] at hf
      cases hf; exact hF
set_option maxHeartbeats 1000000 in
theorem fr_X3_clear (g : Mm) (t : Mm) (hf : f_X3_clear g = some t) : Fr [] [(1, 1)] g t := by
  have hF : Fr [] [(1, 1)] g g := Fr.rf
  unfold f_X3_clear at hf
  have hF := hF.up (q := 1) (k := 1) (v := 0) (by simp)
  cases hf; exact hF
set_option maxHeartbeats 1000000 in
theorem fr_X6_wipe (g : Mm) (r : Int32) (t : Mm) (hf : f_X6_wipe g = some (r, t)) : Fr [] [(1, 1)] g t := by
  have hF : Fr [] [(1, 1)] g g := Fr.rf
  unfold f_X6_wipe at hf
  obtain ⟨v1, e1, hf⟩ := ob_e1 hf
  obtain ⟨g2, e2, hf⟩ := ob_e1 hf
  have hF := hF.tr (fr_X3_clear g _ e2) (by first | decide | (intro q h; simp at h; done) | (intro q h; simp at h ⊢; omega)) (by first | decide | (intro q h; simp at h; done) | (intro q h; simp at h ⊢; omega))
  cases hf; exact hF
set_option maxHeartbeats 1000000 in
theorem fr_X6_store (q0 n0 : Nat) (g : Mm) (x1 x2 : Int32) (t : Mm) (hf : f_X6_store q0 n0 g x1 x2 = some t) : Fr [q0] [] g t := by
  have hF : Fr [q0] [] g g := Fr.rf
  unfold f_X6_store at hf
  by_cases c1 : x1 < 0
  · rw [if_pos c1] at hf
    cases hf; exact hF
  · rw [if_neg c1] at hf
    by_cases c2 : (Int32.ofNat n0) ≤ x1
    · rw [if_pos c2] at hf
      cases hf; exact hF
    · rw [if_neg c2] at hf
      obtain ⟨g3, e3, hf⟩ := ob_e1 hf
      have hF := hF.st e3 (by simp)
      cases hf; exact hF
set_option maxHeartbeats 1000000 in
theorem fr_X4_setStep (b : Nat) (g : Mm) (x1 x2 x3 : Int32) (t : Mm) (hf : f_X4_setStep b g x1 x2 x3 = some t) : Fr [b + 1] [] g t := by
  have wf_48 : ∀ (g : Mm) (s0 s1 : Int32) (t : Mm), f_X4_setStep_J48 b g s0 s1 = some t → Fr [b + 1] [] g t := by
    intro g s0 s1 t hf
    have hF : Fr [b + 1] [] g g := Fr.rf
    unfold f_X4_setStep_J48 at hf
    obtain ⟨g7, e7, hf⟩ := ob_e1 hf
    have hF := hF.tr (fr_X6_store (b + 1) 10 g s1 s0 _ e7) (by first | decide | (intro q h; simp at h; done) | (intro q h; simp at h ⊢; omega)) (by first | decide | (intro q h; simp at h; done) | (intro q h; simp at h ⊢; omega))
    cases hf; exact hF
  have hF : Fr [b + 1] [] g g := Fr.rf
  unfold f_X4_setStep at hf
  obtain ⟨v1, e1, hf⟩ := ob_e1 hf
  by_cases c2 : v1 = 0
  · rw [if_pos c2] at hf
    cases hf; exact hF
  · rw [if_neg c2] at hf
    obtain ⟨v3, e3, hf⟩ := ob_e1 hf
    by_cases c4 : v3 = 0
    · rw [if_pos c4] at hf
      cases hf; exact hF
    · rw [if_neg c4] at hf
      obtain ⟨v5, e5, hf⟩ := ob_e1 hf
      by_cases c6 : x3 = 0
      · rw [if_pos c6] at hf
        exact hF.tr (wf_48 g (v5 &&& (((1 : Int32) <<< (x2 &&& 31)) ^^^ (-1))) x1 _ hf) (fun _ h => h) (fun _ h => h)
      · rw [if_neg c6] at hf
        exact hF.tr (wf_48 g ((v5 &&& (((1 : Int32) <<< (x2 &&& 31)) ^^^ (-1))) ||| ((1 : Int32) <<< (x2 &&& 31))) x1 _ hf) (fun _ h => h) (fun _ h => h)
set_option maxHeartbeats 1000000 in
theorem fr_X6_steps (g : Mm) (r : Int32) (t : Mm) (hf : f_X6_steps g = some (r, t)) : Fr [3] [(1, 1)] g t := by
  have wf_69 : ∀ (k17 : Mm → Int32 → Option (Int32 × Mm)) (hfk17 : ∀ (g : Mm) (x1 : Int32) (r : Int32) (t : Mm), k17 g x1 = some (r, t) → Fr [3] [(1, 1)] g t), ∀ (g : Mm) (x1 : Int32) (r : Int32) (t : Mm), f_X6_steps_J69 k17 g x1 = some (r, t) → Fr [3] [(1, 1)] g t := by
    intro k17 hfk17 g x1 r t hf
    have hF : Fr [3] [(1, 1)] g g := Fr.rf
    unfold f_X6_steps_J69 at hf
    exact hF.tr (hfk17 g (x1 + 2) _ _ hf) (fun _ h => h) (fun _ h => h)
  have wf_17 : ∀ (n : Nat), ∀ (g : Mm) (x1 : Int32) (r : Int32) (t : Mm), f_X6_steps_L17 n g x1 = some (r, t) → Fr [3] [(1, 1)] g t := by
    intro n
    induction n with
    | zero =>
      intro g x1 r t hf
      cases hf
    | succ n ih =>
      intro g x1 r t hf
      have hF : Fr [3] [(1, 1)] g g := Fr.rf
      unfold f_X6_steps_L17 at hf
      obtain ⟨v3, e3, hf⟩ := ob_e1 hf
      by_cases c4 : v3 ≤ x1
      · rw [if_pos c4] at hf
        obtain ⟨g5, e5, hf⟩ := ob_e1 hf
        have hF := hF.tr (fr_X3_clear g _ e5) (by first | decide | (intro q h; simp at h; done) | (intro q h; simp at h ⊢; omega)) (by first | decide | (intro q h; simp at h; done) | (intro q h; simp at h ⊢; omega))
        obtain ⟨v6, e6, hf⟩ := ob_e1 hf
        cases hf; exact hF
      · rw [if_neg c4] at hf
        obtain ⟨v7, e7, hf⟩ := ob_e1 hf
        by_cases c8 : v7 = 62
        · rw [if_pos c8] at hf
          obtain ⟨v9, e9, hf⟩ := ob_e1 hf
          obtain ⟨v10, e10, hf⟩ := ob_e1 hf
          obtain ⟨g11, e11, hf⟩ := ob_e1 hf
          have hF := hF.tr (fr_X4_setStep 2 g v9 v10 1 _ e11) (by first | decide | (intro q h; simp at h; done) | (intro q h; simp at h ⊢; omega)) (by first | decide | (intro q h; simp at h; done) | (intro q h; simp at h ⊢; omega))
          exact hF.tr (wf_69 (f_X6_steps_L17 n) ih g11 x1 _ _ hf) (fun _ h => h) (fun _ h => h)
        · rw [if_neg c8] at hf
          exact hF.tr (wf_69 (f_X6_steps_L17 n) ih g x1 _ _ hf) (fun _ h => h) (fun _ h => h)
  have hF : Fr [3] [(1, 1)] g g := Fr.rf
  unfold f_X6_steps at hf
  obtain ⟨v1, e1, hf⟩ := ob_e1 hf
  by_cases c2 : v1 = (-6)
  · rw [if_pos c2] at hf
    exact hF.tr (wf_17 FU g 2 _ _ hf) (fun _ h => h) (fun _ h => h)
  · rw [if_neg c2] at hf
    cases hf; exact hF
set_option maxHeartbeats 1000000 in
theorem fr_X6_step (g : Mm) (x1 x2 x3 : Int32) (r : Int32) (t : Mm) (hf : f_X6_step g x1 x2 x3 = some (r, t)) : Fr [3] [] g t := by
  have wf_41 : ∀ (g : Mm) (x1 x2 x3 s0 : Int32) (r : Int32) (t : Mm), f_X6_step_J41 g x1 x2 x3 s0 = some (r, t) → Fr [3] [] g t := by
    intro g x1 x2 x3 s0 r t hf
    have hF : Fr [3] [] g g := Fr.rf
    unfold f_X6_step_J41 at hf
    obtain ⟨g9, e9, hf⟩ := ob_e1 hf
    have hF := hF.tr (fr_X4_setStep 2 g x1 x2 x3 _ e9) (by first | decide | (intro q h; simp at h; done) | (intro q h; simp at h ⊢; omega)) (by first | decide | (intro q h; simp at h; done) | (intro q h; simp at h ⊢; omega))
    cases hf; exact hF
  have hF : Fr [3] [] g g := Fr.rf
  unfold f_X6_step at hf
  obtain ⟨v1, e1, hf⟩ := ob_e1 hf
  by_cases c2 : v1 = 0
  · rw [if_pos c2] at hf
    cases hf; exact hF
  · rw [if_neg c2] at hf
    obtain ⟨v3, e3, hf⟩ := ob_e1 hf
    by_cases c4 : v3 = 0
    · rw [if_pos c4] at hf
      cases hf; exact hF
    · rw [if_neg c4] at hf
      by_cases c5 : x1 = x2
      · rw [if_pos c5] at hf
        cases hf; exact hF
      · rw [if_neg c5] at hf
        obtain ⟨v6, e6, hf⟩ := ob_e1 hf
        obtain ⟨v7, e7, hf⟩ := ob_e1 hf
        by_cases c8 : v7 = 0
        · rw [if_pos c8] at hf
          exact hF.tr (wf_41 g x1 x2 x3 0 _ _ hf) (fun _ h => h) (fun _ h => h)
        · rw [if_neg c8] at hf
          exact hF.tr (wf_41 g x1 x2 x3 1 _ _ hf) (fun _ h => h) (fun _ h => h)
set_option maxHeartbeats 1000000 in
theorem fr_X4_setNeeded (b : Nat) (g : Mm) (x1 x2 : Int32) (t : Mm) (hf : f_X4_setNeeded b g x1 x2 = some t) : Fr [b + 2] [] g t := by
  have hF : Fr [b + 2] [] g g := Fr.rf
  unfold f_X4_setNeeded at hf
  obtain ⟨g1, e1, hf⟩ := ob_e1 hf
  have hF := hF.tr (fr_X6_store (b + 2) 10 g x1 x2 _ e1) (by first | decide | (intro q h; simp at h; done) | (intro q h; simp at h ⊢; omega)) (by first | decide | (intro q h; simp at h; done) | (intro q h; simp at h ⊢; omega))
  cases hf; exact hF
set_option maxHeartbeats 1000000 in
theorem fr_X6_needs (g : Mm) (x1 x2 : Int32) (r : Int32) (t : Mm) (hf : f_X6_needs g x1 x2 = some (r, t)) : Fr [4] [] g t := by
  have hF : Fr [4] [] g g := Fr.rf
  unfold f_X6_needs at hf
  obtain ⟨v1, e1, hf⟩ := ob_e1 hf
  by_cases c2 : v1 = 0
  · rw [if_pos c2] at hf
    cases hf; exact hF
  · rw [if_neg c2] at hf
    obtain ⟨v3, e3, hf⟩ := ob_e1 hf
    by_cases c4 : v3 = 0
    · rw [if_pos c4] at hf
      cases hf; exact hF
    · rw [if_neg c4] at hf
      obtain ⟨v5, e5, hf⟩ := ob_e1 hf
      obtain ⟨g6, e6, hf⟩ := ob_e1 hf
      have hF := hF.tr (fr_X4_setNeeded 2 g x1 x2 _ e6) (by first | decide | (intro q h; simp at h; done) | (intro q h; simp at h ⊢; omega)) (by first | decide | (intro q h; simp at h; done) | (intro q h; simp at h ⊢; omega))
      cases hf; exact hF
set_option maxHeartbeats 1000000 in
theorem fr_X4_setTraits (b : Nat) (g : Mm) (x1 x2 : Int32) (t : Mm) (hf : f_X4_setTraits b g x1 x2 = some t) : Fr [b + 3] [] g t := by
  have hF : Fr [b + 3] [] g g := Fr.rf
  unfold f_X4_setTraits at hf
  obtain ⟨g1, e1, hf⟩ := ob_e1 hf
  have hF := hF.tr (fr_X6_store (b + 3) 5 g x1 x2 _ e1) (by first | decide | (intro q h; simp at h; done) | (intro q h; simp at h ⊢; omega)) (by first | decide | (intro q h; simp at h; done) | (intro q h; simp at h ⊢; omega))
  cases hf; exact hF
set_option maxHeartbeats 1000000 in
theorem fr_X4_setKnown (b : Nat) (g : Mm) (x1 x2 : Int32) (t : Mm) (hf : f_X4_setKnown b g x1 x2 = some t) : Fr [b + 4] [] g t := by
  have hF : Fr [b + 4] [] g g := Fr.rf
  unfold f_X4_setKnown at hf
  obtain ⟨g1, e1, hf⟩ := ob_e1 hf
  have hF := hF.tr (fr_X6_store (b + 4) 5 g x1 x2 _ e1) (by first | decide | (intro q h; simp at h; done) | (intro q h; simp at h ⊢; omega)) (by first | decide | (intro q h; simp at h; done) | (intro q h; simp at h ⊢; omega))
  cases hf; exact hF
set_option maxHeartbeats 1000000 in
theorem fr_X6_man (g : Mm) (x1 x2 x3 : Int32) (r : Int32) (t : Mm) (hf : f_X6_man g x1 x2 x3 = some (r, t)) : Fr [5, 6] [] g t := by
  have wf_35 : ∀ (g : Mm) (x1 x2 x3 s0 s1 s2 : Int32) (r : Int32) (t : Mm), f_X6_man_J35 g x1 x2 x3 s0 s1 s2 = some (r, t) → Fr [5, 6] [] g t := by
    intro g x1 x2 x3 s0 s1 s2 r t hf
    have hF : Fr [5, 6] [] g g := Fr.rf
    unfold f_X6_man_J35 at hf
    obtain ⟨v6, e6, hf⟩ := ob_e1 hf
    by_cases c7 : v6 = 0
    · rw [if_pos c7] at hf
      cases hf; exact hF
    · rw [if_neg c7] at hf
      by_cases c8 : x2 = 0
      · rw [if_pos c8] at hf
        obtain ⟨v11, e11, hf⟩ := ob_e1 hf
        obtain ⟨g12, e12, hf⟩ := ob_e1 hf
        have hF := hF.tr (fr_X4_setTraits 2 g x1 x3 _ e12) (by first | decide | (intro q h; simp at h; done) | (intro q h; simp at h ⊢; omega)) (by first | decide | (intro q h; simp at h; done) | (intro q h; simp at h ⊢; omega))
        cases hf; exact hF
      · rw [if_neg c8] at hf
        obtain ⟨v9, e9, hf⟩ := ob_e1 hf
        obtain ⟨g10, e10, hf⟩ := ob_e1 hf
        have hF := hF.tr (fr_X4_setKnown 2 g x1 x3 _ e10) (by first | decide | (intro q h; simp at h; done) | (intro q h; simp at h ⊢; omega)) (by first | decide | (intro q h; simp at h; done) | (intro q h; simp at h ⊢; omega))
        cases hf; exact hF
  have hF : Fr [5, 6] [] g g := Fr.rf
  unfold f_X6_man at hf
  obtain ⟨v1, e1, hf⟩ := ob_e1 hf
  by_cases c2 : v1 = 0
  · rw [if_pos c2] at hf
    cases hf; exact hF
  · rw [if_neg c2] at hf
    obtain ⟨v3, e3, hf⟩ := ob_e1 hf
    by_cases c4 : v3 = 0
    · rw [if_pos c4] at hf
      cases hf; exact hF
    · rw [if_neg c4] at hf
      by_cases c5 : x2 = 0
      · rw [if_pos c5] at hf
        exact hF.tr (wf_35 g x1 x2 x3 63 0 x3 _ _ hf) (fun _ h => h) (fun _ h => h)
      · rw [if_neg c5] at hf
        exact hF.tr (wf_35 g x1 x2 x3 1023 0 x3 _ _ hf) (fun _ h => h) (fun _ h => h)
set_option maxHeartbeats 1000000 in
theorem fr_X0_forget (g : Mm) (t : Mm) (hf : f_X0_forget g = some t) : Fr [] [(17, 2), (17, 6)] g t := by
  have hF : Fr [] [(17, 2), (17, 6)] g g := Fr.rf
  unfold f_X0_forget at hf
  have hF := hF.up (q := 17) (k := 2) (v := ((g 17 2) + 1)) (by simp)
  have hF := hF.up (q := 17) (k := 6) (v := (-6)) (by simp)
  cases hf; exact hF
set_option maxHeartbeats 1000000 in
theorem fr_X0_afterwards (rc_best : Mm → Int32 → Int32 → Int32 → Int32 → Int32 → Option (Int32 × Mm)) (hfc_best : ∀ (g : Mm) (x1 x2 x3 x4 x5 : Int32) (r : Int32) (t : Mm), rc_best g x1 x2 x3 x4 x5 = some (r, t) → Fr [18] [(17, 6)] g t) (g : Mm) (x1 x2 x3 x4 x5 : Int32) (r : Int32) (t : Mm) (hf : f_X0_afterwards rc_best g x1 x2 x3 x4 x5 = some (r, t)) : Fr [18] [(17, 6)] g t := by
  have hF : Fr [18] [(17, 6)] g g := Fr.rf
  unfold f_X0_afterwards at hf
  obtain ⟨v1, e1, hf⟩ := ob_e1 hf
  by_cases c2 : (v1 / 64) = (g 17 2)
  · rw [if_pos c2] at hf
    cases hf; exact hF
  · rw [if_neg c2] at hf
    obtain ⟨v3, e3, hf⟩ := ob_e1 hf
    obtain ⟨v4, g4, e4, hf⟩ := ob_e2 hf
    have hF := hF.tr (hfc_best g ((v3 &&& x3) &&& (x1 ^^^ (-1))) x1 x3 x4 x5 _ _ e4) (by first | decide | (intro q h; simp at h; done) | (intro q h; simp at h ⊢; omega)) (by first | decide | (intro q h; simp at h; done) | (intro q h; simp at h ⊢; omega))
    obtain ⟨g5, e5, hf⟩ := ob_e1 hf
    have hF := hF.tr (fr_X6_store 18 10240 g4 ((x1 * 10) + x2) (((g4 17 2) * 64) + v4) _ e5) (by first | decide | (intro q h; simp at h; done) | (intro q h; simp at h ⊢; omega)) (by first | decide | (intro q h; simp at h; done) | (intro q h; simp at h ⊢; omega))
    cases hf; exact hF
set_option maxHeartbeats 1000000 in
theorem fr_X0_best (rc_afterwards : Mm → Int32 → Int32 → Int32 → Int32 → Int32 → Option (Int32 × Mm)) (hfc_afterwards : ∀ (g : Mm) (x1 x2 x3 x4 x5 : Int32) (r : Int32) (t : Mm), rc_afterwards g x1 x2 x3 x4 x5 = some (r, t) → Fr [18] [(17, 6)] g t) (g : Mm) (x1 x2 x3 x4 x5 : Int32) (r : Int32) (t : Mm) (hf : f_X0_best rc_afterwards g x1 x2 x3 x4 x5 = some (r, t)) : Fr [18] [(17, 6)] g t := by
  have wf_120 : ∀ (k47 : Mm → Int32 → Int32 → Int32 → Int32 → Int32 → Int32 → Int32 → Int32 → Option (Int32 × Mm)) (hfk47 : ∀ (g : Mm) (x1 x2 x3 x4 x5 x6 x7 x8 : Int32) (r : Int32) (t : Mm), k47 g x1 x2 x3 x4 x5 x6 x7 x8 = some (r, t) → Fr [18] [(17, 6)] g t), ∀ (g : Mm) (x1 x2 x3 x4 x5 x6 x7 x8 : Int32) (r : Int32) (t : Mm), f_X0_best_J120 rc_afterwards k47 g x1 x2 x3 x4 x5 x6 x7 x8 = some (r, t) → Fr [18] [(17, 6)] g t := by
    intro k47 hfk47 g x1 x2 x3 x4 x5 x6 x7 x8 r t hf
    have hF : Fr [18] [(17, 6)] g g := Fr.rf
    unfold f_X0_best_J120 at hf
    exact hF.tr (hfk47 g x1 x2 x3 x4 x5 x6 x7 (x8 + 1) _ _ hf) (fun _ h => h) (fun _ h => h)
  have wf_47 : ∀ (n : Nat), ∀ (g : Mm) (x1 x2 x3 x4 x5 x6 x7 x8 : Int32) (r : Int32) (t : Mm), f_X0_best_L47 rc_afterwards n g x1 x2 x3 x4 x5 x6 x7 x8 = some (r, t) → Fr [18] [(17, 6)] g t := by
    intro n
    induction n with
    | zero =>
      intro g x1 x2 x3 x4 x5 x6 x7 x8 r t hf
      cases hf
    | succ n ih =>
      intro g x1 x2 x3 x4 x5 x6 x7 x8 r t hf
      have hF : Fr [18] [(17, 6)] g g := Fr.rf
      unfold f_X0_best_L47 at hf
      by_cases c5 : (10 : Int32) ≤ x8
      · rw [if_pos c5] at hf
        cases hf; exact hF
      · rw [if_neg c5] at hf
        by_cases c6 : x7 ≤ x6
        · rw [if_pos c6] at hf
          cases hf; exact hF
        · rw [if_neg c6] at hf
          obtain ⟨v7, e7, hf⟩ := ob_e1 hf
          by_cases c8 : v7 = 0
          · rw [if_pos c8] at hf
            exact hF.tr (wf_120 (f_X0_best_L47 rc_afterwards n) ih g x1 x2 x3 x4 x5 x6 x7 x8 _ _ hf) (fun _ h => h) (fun _ h => h)
          · rw [if_neg c8] at hf
            obtain ⟨v9, g9, e9, hf⟩ := ob_e2 hf
            have hF := hF.tr (hfc_afterwards g (x2 ||| ((1 : Int32) <<< (x8 &&& 31))) x8 x4 x3 (x5 + 1) _ _ e9) (by first | decide | (intro q h; simp at h; done) | (intro q h; simp at h ⊢; omega)) (by first | decide | (intro q h; simp at h; done) | (intro q h; simp at h ⊢; omega))
            obtain ⟨v10, e10, hf⟩ := ob_e1 hf
            by_cases c11 : v10 ≤ x6
            · rw [if_pos c11] at hf
              exact hF.tr (wf_120 (f_X0_best_L47 rc_afterwards n) ih g9 x1 x2 x3 x4 x5 x6 x7 x8 _ _ hf) (fun _ h => h) (fun _ h => h)
            · rw [if_neg c11] at hf
              by_cases c12 : x5 = 0
              · rw [if_pos c12] at hf
                have hF := hF.up (q := 17) (k := 6) (v := x8) (by simp)
                exact hF.tr (wf_120 (f_X0_best_L47 rc_afterwards n) ih (ob_up g9 17 6 x8) x1 x2 x3 x4 x5 v10 x7 x8 _ _ hf) (fun _ h => h) (fun _ h => h)
              · rw [if_neg c12] at hf
                exact hF.tr (wf_120 (f_X0_best_L47 rc_afterwards n) ih g9 x1 x2 x3 x4 x5 v10 x7 x8 _ _ hf) (fun _ h => h) (fun _ h => h)
  have wf_42 : ∀ (g : Mm) (x1 x2 x3 x4 x5 x6 s0 : Int32) (r : Int32) (t : Mm), f_X0_best_J42 rc_afterwards g x1 x2 x3 x4 x5 x6 s0 = some (r, t) → Fr [18] [(17, 6)] g t := by
    intro g x1 x2 x3 x4 x5 x6 s0 r t hf
    have hF : Fr [18] [(17, 6)] g g := Fr.rf
    unfold f_X0_best_J42 at hf
    exact hF.tr (wf_47 FU g x1 x2 x3 x4 x5 x6 s0 0 _ _ hf) (fun _ h => h) (fun _ h => h)
  have hF : Fr [18] [(17, 6)] g g := Fr.rf
  unfold f_X0_best at hf
  by_cases c1 : x1 = 0
  · rw [if_pos c1] at hf
    cases hf; exact hF
  · rw [if_neg c1] at hf
    by_cases c2 : x5 < 10
    · rw [if_pos c2] at hf
      by_cases c3 : (g 17 3) = 0
      · rw [if_pos c3] at hf
        exact hF.tr (wf_42 g x1 x2 x3 x4 x5 0 (g 17 4) _ _ hf) (fun _ h => h) (fun _ h => h)
      · rw [if_neg c3] at hf
        obtain ⟨v4, e4, hf⟩ := ob_e1 hf
        exact hF.tr (wf_42 g x1 x2 x3 x4 x5 0 v4 _ _ hf) (fun _ h => h) (fun _ h => h)
    · rw [if_neg c2] at hf
      cases hf; exact hF
theorem fr_N_X0_best : ∀ (n : Nat) (g : Mm) (x1 x2 x3 x4 x5 : Int32) (r : Int32) (t : Mm), fN_X0_best n g x1 x2 x3 x4 x5 = some (r, t) → Fr [18] [(17, 6)] g t := by
  intro n
  induction n with
  | zero =>
    intro g x1 x2 x3 x4 x5 r t h
    cases h
  | succ n ih =>
    intro g x1 x2 x3 x4 x5 r t h
    exact fr_X0_best _ (fun g x1 x2 x3 x4 x5 r t h => fr_X0_afterwards _ (ih) g x1 x2 x3 x4 x5 r t h) g x1 x2 x3 x4 x5 r t h
set_option maxHeartbeats 1000000 in
theorem fr_X0_fight (g : Mm) (x1 x2 x3 x4 x5 : Int32) (t : Mm) (hf : f_X0_fight g x1 x2 x3 x4 x5 = some t) : Fr [18] [(17, 2), (17, 3), (17, 4), (17, 5), (17, 6)] g t := by
  have wf_18 : ∀ (g : Mm) (x1 x2 x3 x4 s0 : Int32) (t : Mm), f_X0_fight_J18 g x1 x2 x3 x4 s0 = some t → Fr [18] [(17, 2), (17, 3), (17, 4), (17, 5), (17, 6)] g t := by
    intro g x1 x2 x3 x4 s0 t hf
    have hF : Fr [18] [(17, 2), (17, 3), (17, 4), (17, 5), (17, 6)] g g := Fr.rf
    unfold f_X0_fight_J18 at hf
    have hF := hF.up (q := 17) (k := 4) (v := s0) (by simp)
    obtain ⟨g2, e2, hf⟩ := ob_e1 hf
    have hF := hF.tr (fr_X0_forget (ob_up g 17 4 s0) _ e2) (by first | decide | (intro q h; simp at h; done) | (intro q h; simp at h ⊢; omega)) (by first | decide | (intro q h; simp at h; done) | (intro q h; simp at h ⊢; omega))
    obtain ⟨v3, g3, e3, hf⟩ := ob_e2 hf
    have hF := hF.tr (fr_N_X0_best 12 g2 x1 x2 x3 x4 0 _ _ e3) (by first | decide | (intro q h; simp at h; done) | (intro q h; simp at h ⊢; omega)) (by first | decide | (intro q h; simp at h; done) | (intro q h; simp at h ⊢; omega))
    have hF := hF.up (q := 17) (k := 5) (v := v3) (by simp)
    cases hf; exact hF
  have hF : Fr [18] [(17, 2), (17, 3), (17, 4), (17, 5), (17, 6)] g g := Fr.rf
  unfold f_X0_fight at hf
  have hF := hF.up (q := 17) (k := 3) (v := 0) (by simp)
  by_cases c1 : x5 = 0
  · rw [if_pos c1] at hf
    exact hF.tr (wf_18 (ob_up g 17 3 0) x1 x2 x3 x4 39 _ hf) (fun _ h => h) (fun _ h => h)
  · rw [if_neg c1] at hf
    exact hF.tr (wf_18 (ob_up g 17 3 0) x1 x2 x3 x4 20 _ hf) (fun _ h => h) (fun _ h => h)
set_option maxHeartbeats 1000000 in
theorem fr_X6_match (g : Mm) (x1 x2 x3 : Int32) (r : Int32) (t : Mm) (hf : f_X6_match g x1 x2 x3 = some (r, t)) : Fr [18] [(17, 2), (17, 3), (17, 4), (17, 5), (17, 6)] g t := by
  have wf_60 : ∀ (g : Mm) (x1 x2 x3 s0 s1 s2 s3 s4 : Int32) (r : Int32) (t : Mm), f_X6_match_J60 g x1 x2 x3 s0 s1 s2 s3 s4 = some (r, t) → Fr [18] [(17, 2), (17, 3), (17, 4), (17, 5), (17, 6)] g t := by
    intro g x1 x2 x3 s0 s1 s2 s3 s4 r t hf
    have hF : Fr [18] [(17, 2), (17, 3), (17, 4), (17, 5), (17, 6)] g g := Fr.rf
    unfold f_X6_match_J60 at hf
    obtain ⟨g8, e8, hf⟩ := ob_e1 hf
    have hF := hF.tr (fr_X0_fight g s4 s3 s2 s1 s0 _ e8) (by first | decide | (intro q h; simp at h; done) | (intro q h; simp at h ⊢; omega)) (by first | decide | (intro q h; simp at h; done) | (intro q h; simp at h ⊢; omega))
    obtain ⟨v9, e9, hf⟩ := ob_e1 hf
    cases hf; exact hF
  have hF : Fr [18] [(17, 2), (17, 3), (17, 4), (17, 5), (17, 6)] g g := Fr.rf
  unfold f_X6_match at hf
  obtain ⟨v1, e1, hf⟩ := ob_e1 hf
  by_cases c2 : v1 = 0
  · rw [if_pos c2] at hf
    cases hf; exact hF
  · rw [if_neg c2] at hf
    obtain ⟨v3, e3, hf⟩ := ob_e1 hf
    by_cases c4 : v3 = 0
    · rw [if_pos c4] at hf
      cases hf; exact hF
    · rw [if_neg c4] at hf
      obtain ⟨v5, e5, hf⟩ := ob_e1 hf
      obtain ⟨v6, e6, hf⟩ := ob_e1 hf
      by_cases c7 : x3 = 0
      · rw [if_pos c7] at hf
        exact hF.tr (wf_60 g x1 x2 x3 1 v6 v5 0 v5 _ _ hf) (fun _ h => h) (fun _ h => h)
      · rw [if_neg c7] at hf
        exact hF.tr (wf_60 g x1 x2 x3 0 v6 v5 0 v5 _ _ hf) (fun _ h => h) (fun _ h => h)
set_option maxHeartbeats 1000000 in
theorem fr_X6_middle (g : Mm) (x1 x2 x3 x4 x5 : Int32) (r : Int32) (t : Mm) (hf : f_X6_middle g x1 x2 x3 x4 x5 = some (r, t)) : Fr [18] [(17, 2), (17, 3), (17, 4), (17, 5), (17, 6)] g t := by
  have wf_112 : ∀ (g : Mm) (x1 x2 x5 s0 s1 s2 s3 s4 : Int32) (r : Int32) (t : Mm), f_X6_middle_J112 g x1 x2 x5 s0 s1 s2 s3 s4 = some (r, t) → Fr [18] [(17, 2), (17, 3), (17, 4), (17, 5), (17, 6)] g t := by
    intro g x1 x2 x5 s0 s1 s2 s3 s4 r t hf
    have hF : Fr [18] [(17, 2), (17, 3), (17, 4), (17, 5), (17, 6)] g g := Fr.rf
    unfold f_X6_middle_J112 at hf
    obtain ⟨g15, e15, hf⟩ := ob_e1 hf
    have hF := hF.tr (fr_X0_fight g s4 s3 s2 s1 s0 _ e15) (by first | decide | (intro q h; simp at h; done) | (intro q h; simp at h ⊢; omega)) (by first | decide | (intro q h; simp at h; done) | (intro q h; simp at h ⊢; omega))
    obtain ⟨v16, e16, hf⟩ := ob_e1 hf
    cases hf; exact hF
  have hF : Fr [18] [(17, 2), (17, 3), (17, 4), (17, 5), (17, 6)] g g := Fr.rf
  unfold f_X6_middle at hf
  obtain ⟨v1, e1, hf⟩ := ob_e1 hf
  by_cases c2 : v1 = 0
  · rw [if_pos c2] at hf
    cases hf; exact hF
  · rw [if_neg c2] at hf
    obtain ⟨v3, e3, hf⟩ := ob_e1 hf
    by_cases c4 : v3 = 0
    · rw [if_pos c4] at hf
      cases hf; exact hF
    · rw [if_neg c4] at hf
      obtain ⟨v5, e5, hf⟩ := ob_e1 hf
      by_cases c6 : v5 = 0
      · rw [if_pos c6] at hf
        cases hf; exact hF
      · rw [if_neg c6] at hf
        obtain ⟨v7, e7, hf⟩ := ob_e1 hf
        by_cases c8 : v7 = 0
        · rw [if_pos c8] at hf
          cases hf; exact hF
        · rw [if_neg c8] at hf
          obtain ⟨v9, e9, hf⟩ := ob_e1 hf
          by_cases c10 : v9 = 0
          · rw [if_pos c10] at hf
            cases hf; exact hF
          · rw [if_neg c10] at hf
            obtain ⟨v11, e11, hf⟩ := ob_e1 hf
            obtain ⟨v12, e12, hf⟩ := ob_e1 hf
            obtain ⟨v13, e13, hf⟩ := ob_e1 hf
            by_cases c14 : x5 = 0
            · rw [if_pos c14] at hf
              exact hF.tr (wf_112 g x1 x2 x5 1 v13 v11 x4 ((v11 &&& v12) &&& (x4 ^^^ (-1))) _ _ hf) (fun _ h => h) (fun _ h => h)
            · rw [if_neg c14] at hf
              exact hF.tr (wf_112 g x1 x2 x5 0 v13 v11 x4 ((v11 &&& v12) &&& (x4 ^^^ (-1))) _ _ hf) (fun _ h => h) (fun _ h => h)
set_option maxHeartbeats 1000000 in
theorem fr_X0_spin (g : Mm) (x1 x2 x3 x4 : Int32) (t : Mm) (hf : f_X0_spin g x1 x2 x3 x4 = some t) : Fr [18] [(17, 2), (17, 3), (17, 5), (17, 6)] g t := by
  have hF : Fr [18] [(17, 2), (17, 3), (17, 5), (17, 6)] g g := Fr.rf
  unfold f_X0_spin at hf
  have hF := hF.up (q := 17) (k := 3) (v := 1) (by simp)
  obtain ⟨g1, e1, hf⟩ := ob_e1 hf
  have hF := hF.tr (fr_X0_forget (ob_up g 17 3 1) _ e1) (by first | decide | (intro q h; simp at h; done) | (intro q h; simp at h ⊢; omega)) (by first | decide | (intro q h; simp at h; done) | (intro q h; simp at h ⊢; omega))
  obtain ⟨v2, g2, e2, hf⟩ := ob_e2 hf
  have hF := hF.tr (fr_N_X0_best 12 g1 x1 x2 x3 x4 0 _ _ e2) (by first | decide | (intro q h; simp at h; done) | (intro q h; simp at h ⊢; omega)) (by first | decide | (intro q h; simp at h; done) | (intro q h; simp at h ⊢; omega))
  have hF := hF.up (q := 17) (k := 5) (v := v2) (by simp)
  cases hf; exact hF
set_option maxHeartbeats 1000000 in
theorem fr_X6_last (g : Mm) (x1 x2 x3 : Int32) (r : Int32) (t : Mm) (hf : f_X6_last g x1 x2 x3 = some (r, t)) : Fr [18] [(17, 2), (17, 3), (17, 5), (17, 6)] g t := by
  have hF : Fr [18] [(17, 2), (17, 3), (17, 5), (17, 6)] g g := Fr.rf
  unfold f_X6_last at hf
  obtain ⟨v1, e1, hf⟩ := ob_e1 hf
  by_cases c2 : v1 = 0
  · rw [if_pos c2] at hf
    cases hf; exact hF
  · rw [if_neg c2] at hf
    obtain ⟨v3, e3, hf⟩ := ob_e1 hf
    by_cases c4 : v3 = 0
    · rw [if_pos c4] at hf
      cases hf; exact hF
    · rw [if_neg c4] at hf
      obtain ⟨v5, e5, hf⟩ := ob_e1 hf
      obtain ⟨v6, e6, hf⟩ := ob_e1 hf
      obtain ⟨g7, e7, hf⟩ := ob_e1 hf
      have hF := hF.tr (fr_X0_spin g v5 0 v5 v6 _ e7) (by first | decide | (intro q h; simp at h; done) | (intro q h; simp at h ⊢; omega)) (by first | decide | (intro q h; simp at h; done) | (intro q h; simp at h ⊢; omega))
      by_cases c8 : x3 = 0
      · rw [if_pos c8] at hf
        obtain ⟨v10, e10, hf⟩ := ob_e1 hf
        cases hf; exact hF
      · rw [if_neg c8] at hf
        obtain ⟨v9, e9, hf⟩ := ob_e1 hf
        cases hf; exact hF
set_option maxHeartbeats 1000000 in
theorem fr_X6_comesOff (g : Mm) (x1 x2 x3 x4 : Int32) (r : Int32) (t : Mm) (hf : f_X6_comesOff g x1 x2 x3 x4 = some (r, t)) : Fr [18] [(17, 2), (17, 3), (17, 4), (17, 5), (17, 6)] g t := by
  have hF : Fr [18] [(17, 2), (17, 3), (17, 4), (17, 5), (17, 6)] g g := Fr.rf
  unfold f_X6_comesOff at hf
  obtain ⟨v1, e1, hf⟩ := ob_e1 hf
  obtain ⟨v2, e2, hf⟩ := ob_e1 hf
  by_cases c3 : x4 = 0
  · rw [if_pos c3] at hf
    obtain ⟨g4, e4, hf⟩ := ob_e1 hf
    have hF := hF.tr (fr_X0_fight g v2 0 v2 (x2 &&& v1) 1 _ e4) (by first | decide | (intro q h; simp at h; done) | (intro q h; simp at h ⊢; omega)) (by first | decide | (intro q h; simp at h; done) | (intro q h; simp at h ⊢; omega))
    obtain ⟨v5, e5, hf⟩ := ob_e1 hf
    obtain ⟨u6, e6, hf⟩ := ob_e1 hf
    cases hf; exact hF
  · rw [if_neg c3] at hf
    obtain ⟨g7, e7, hf⟩ := ob_e1 hf
    have hF := hF.tr (fr_X0_fight g (x2 &&& v1) 0 (x2 &&& v1) v2 1 _ e7) (by first | decide | (intro q h; simp at h; done) | (intro q h; simp at h ⊢; omega)) (by first | decide | (intro q h; simp at h; done) | (intro q h; simp at h ⊢; omega))
    obtain ⟨v8, e8, hf⟩ := ob_e1 hf
    by_cases c9 : v8 = 0
    · rw [if_pos c9] at hf
      cases hf; exact hF
    · rw [if_neg c9] at hf
      cases hf; exact hF
set_option maxHeartbeats 1000000 in
theorem fr_X6_sent (g : Mm) (x1 x2 : Int32) (r : Int32) (t : Mm) (hf : f_X6_sent g x1 x2 = some (r, t)) : Fr [18] [(17, 2), (17, 3), (17, 4), (17, 5), (17, 6)] g t := by
  have wf_53 : ∀ (k14 : Mm → Int32 → Int32 → Int32 → Int32 → Option (Int32 × Mm)) (hfk14 : ∀ (g : Mm) (x1 x2 x3 x4 : Int32) (r : Int32) (t : Mm), k14 g x1 x2 x3 x4 = some (r, t) → Fr [18] [(17, 2), (17, 3), (17, 4), (17, 5), (17, 6)] g t), ∀ (g : Mm) (x1 x2 x3 x4 : Int32) (r : Int32) (t : Mm), f_X6_sent_J53 k14 g x1 x2 x3 x4 = some (r, t) → Fr [18] [(17, 2), (17, 3), (17, 4), (17, 5), (17, 6)] g t := by
    intro k14 hfk14 g x1 x2 x3 x4 r t hf
    have hF : Fr [18] [(17, 2), (17, 3), (17, 4), (17, 5), (17, 6)] g g := Fr.rf
    unfold f_X6_sent_J53 at hf
    exact hF.tr (hfk14 g x1 x2 x3 (x4 + 1) _ _ hf) (fun _ h => h) (fun _ h => h)
  have wf_14 : ∀ (n : Nat), ∀ (g : Mm) (x1 x2 x3 x4 : Int32) (r : Int32) (t : Mm), f_X6_sent_L14 n g x1 x2 x3 x4 = some (r, t) → Fr [18] [(17, 2), (17, 3), (17, 4), (17, 5), (17, 6)] g t := by
    intro n
    induction n with
    | zero =>
      intro g x1 x2 x3 x4 r t hf
      cases hf
    | succ n ih =>
      intro g x1 x2 x3 x4 r t hf
      have hF : Fr [18] [(17, 2), (17, 3), (17, 4), (17, 5), (17, 6)] g g := Fr.rf
      unfold f_X6_sent_L14 at hf
      by_cases c3 : (5 : Int32) ≤ x4
      · rw [if_pos c3] at hf
        cases hf; exact hF
      · rw [if_neg c3] at hf
        by_cases c4 : x4 = x1
        · rw [if_pos c4] at hf
          exact hF.tr (wf_53 (f_X6_sent_L14 n) ih g x1 x2 x3 x4 _ _ hf) (fun _ h => h) (fun _ h => h)
        · rw [if_neg c4] at hf
          obtain ⟨v5, e5, hf⟩ := ob_e1 hf
          obtain ⟨v6, g6, e6, hf⟩ := ob_e2 hf
          have hF := hF.tr (fr_X6_comesOff g x4 v5 x1 x2 _ _ e6) (by first | decide | (intro q h; simp at h; done) | (intro q h; simp at h ⊢; omega)) (by first | decide | (intro q h; simp at h; done) | (intro q h; simp at h ⊢; omega))
          by_cases c7 : v6 = 0
          · rw [if_pos c7] at hf
            exact hF.tr (wf_53 (f_X6_sent_L14 n) ih g6 x1 x2 x3 x4 _ _ hf) (fun _ h => h) (fun _ h => h)
          · rw [if_neg c7] at hf
            exact hF.tr (wf_53 (f_X6_sent_L14 n) ih g6 x1 x2 (x3 ||| ((1 : Int32) <<< (x4 &&& 31))) x4 _ _ hf) (fun _ h => h) (fun _ h => h)
  have hF : Fr [18] [(17, 2), (17, 3), (17, 4), (17, 5), (17, 6)] g g := Fr.rf
  unfold f_X6_sent at hf
  obtain ⟨v1, e1, hf⟩ := ob_e1 hf
  by_cases c2 : v1 = 0
  · rw [if_pos c2] at hf
    cases hf; exact hF
  · rw [if_neg c2] at hf
    exact hF.tr (wf_14 FU g x1 x2 0 0 _ _ hf) (fun _ h => h) (fun _ h => h)
set_option maxHeartbeats 1000000 in
theorem fr_X6_goodMatches (g : Mm) (x1 x2 : Int32) (r : Int32) (t : Mm) (hf : f_X6_goodMatches g x1 x2 = some (r, t)) : Fr [18] [(17, 2), (17, 3), (17, 4), (17, 5), (17, 6)] g t := by
  have wf_50 : ∀ (k5 : Mm → Int32 → Int32 → Int32 → Int32 → Option (Int32 × Mm)) (hfk5 : ∀ (g : Mm) (x1 x2 x3 x4 : Int32) (r : Int32) (t : Mm), k5 g x1 x2 x3 x4 = some (r, t) → Fr [18] [(17, 2), (17, 3), (17, 4), (17, 5), (17, 6)] g t), ∀ (g : Mm) (x1 x2 x3 x4 : Int32) (r : Int32) (t : Mm), f_X6_goodMatches_J50 k5 g x1 x2 x3 x4 = some (r, t) → Fr [18] [(17, 2), (17, 3), (17, 4), (17, 5), (17, 6)] g t := by
    intro k5 hfk5 g x1 x2 x3 x4 r t hf
    have hF : Fr [18] [(17, 2), (17, 3), (17, 4), (17, 5), (17, 6)] g g := Fr.rf
    unfold f_X6_goodMatches_J50 at hf
    exact hF.tr (hfk5 g x1 x2 x3 (x4 + 1) _ _ hf) (fun _ h => h) (fun _ h => h)
  have wf_35 : ∀ (k5 : Mm → Int32 → Int32 → Int32 → Int32 → Option (Int32 × Mm)) (hfk5 : ∀ (g : Mm) (x1 x2 x3 x4 : Int32) (r : Int32) (t : Mm), k5 g x1 x2 x3 x4 = some (r, t) → Fr [18] [(17, 2), (17, 3), (17, 4), (17, 5), (17, 6)] g t), ∀ (g : Mm) (x1 x2 x3 x4 : Int32) (r : Int32) (t : Mm), f_X6_goodMatches_J35 k5 g x1 x2 x3 x4 = some (r, t) → Fr [18] [(17, 2), (17, 3), (17, 4), (17, 5), (17, 6)] g t := by
    intro k5 hfk5 g x1 x2 x3 x4 r t hf
    have hF : Fr [18] [(17, 2), (17, 3), (17, 4), (17, 5), (17, 6)] g g := Fr.rf
    unfold f_X6_goodMatches_J35 at hf
    obtain ⟨v5, g5, e5, hf⟩ := ob_e2 hf
    have hF := hF.tr (fr_X6_comesOff g x1 x2 x4 0 _ _ e5) (by first | decide | (intro q h; simp at h; done) | (intro q h; simp at h ⊢; omega)) (by first | decide | (intro q h; simp at h; done) | (intro q h; simp at h ⊢; omega))
    by_cases c6 : v5 = 0
    · rw [if_pos c6] at hf
      exact hF.tr (wf_50 k5 hfk5 g5 x1 x2 x3 x4 _ _ hf) (fun _ h => h) (fun _ h => h)
    · rw [if_neg c6] at hf
      exact hF.tr (wf_50 k5 hfk5 g5 x1 x2 (x3 + 1) x4 _ _ hf) (fun _ h => h) (fun _ h => h)
  have wf_5 : ∀ (n : Nat), ∀ (g : Mm) (x1 x2 x3 x4 : Int32) (r : Int32) (t : Mm), f_X6_goodMatches_L5 n g x1 x2 x3 x4 = some (r, t) → Fr [18] [(17, 2), (17, 3), (17, 4), (17, 5), (17, 6)] g t := by
    intro n
    induction n with
    | zero =>
      intro g x1 x2 x3 x4 r t hf
      cases hf
    | succ n ih =>
      intro g x1 x2 x3 x4 r t hf
      have hF : Fr [18] [(17, 2), (17, 3), (17, 4), (17, 5), (17, 6)] g g := Fr.rf
      unfold f_X6_goodMatches_L5 at hf
      by_cases c1 : (5 : Int32) ≤ x4
      · rw [if_pos c1] at hf
        cases hf; exact hF
      · rw [if_neg c1] at hf
        by_cases c2 : x4 = x1
        · rw [if_pos c2] at hf
          exact hF.tr (wf_50 (f_X6_goodMatches_L5 n) ih g x1 x2 x3 x4 _ _ hf) (fun _ h => h) (fun _ h => h)
        · rw [if_neg c2] at hf
          obtain ⟨v3, g3, e3, hf⟩ := ob_e2 hf
          have hF := hF.tr (fr_X6_comesOff g x1 x2 x4 1 _ _ e3) (by first | decide | (intro q h; simp at h; done) | (intro q h; simp at h ⊢; omega)) (by first | decide | (intro q h; simp at h; done) | (intro q h; simp at h ⊢; omega))
          by_cases c4 : v3 = 0
          · rw [if_pos c4] at hf
            exact hF.tr (wf_35 (f_X6_goodMatches_L5 n) ih g3 x1 x2 x3 x4 _ _ hf) (fun _ h => h) (fun _ h => h)
          · rw [if_neg c4] at hf
            exact hF.tr (wf_35 (f_X6_goodMatches_L5 n) ih g3 x1 x2 (x3 + 1) x4 _ _ hf) (fun _ h => h) (fun _ h => h)
  have hF : Fr [18] [(17, 2), (17, 3), (17, 4), (17, 5), (17, 6)] g g := Fr.rf
  unfold f_X6_goodMatches at hf
  exact hF.tr (wf_5 FU g x1 x2 0 0 _ _ hf) (fun _ h => h) (fun _ h => h)
set_option maxHeartbeats 1000000 in
theorem fr_X6_worth (g : Mm) (x1 x2 : Int32) (r : Int32) (t : Mm) (hf : f_X6_worth g x1 x2 = some (r, t)) : Fr [18] [(17, 2), (17, 3), (17, 4), (17, 5), (17, 6)] g t := by
  have hF : Fr [18] [(17, 2), (17, 3), (17, 4), (17, 5), (17, 6)] g g := Fr.rf
  unfold f_X6_worth at hf
  obtain ⟨v1, e1, hf⟩ := ob_e1 hf
  by_cases c2 : v1 = 0
  · rw [if_pos c2] at hf
    cases hf; exact hF
  · rw [if_neg c2] at hf
    obtain ⟨v3, e3, hf⟩ := ob_e1 hf
    by_cases c4 : v3 = 0
    · rw [if_pos c4] at hf
      cases hf; exact hF
    · rw [if_neg c4] at hf
      obtain ⟨v5, e5, hf⟩ := ob_e1 hf
      obtain ⟨v6, e6, hf⟩ := ob_e1 hf
      by_cases c7 : v6 = 0
      · rw [if_pos c7] at hf
        obtain ⟨v8, g8, e8, hf⟩ := ob_e2 hf
        have hF := hF.tr (fr_X6_goodMatches g x2 (v5 ||| ((1 : Int32) <<< (x1 &&& 31))) _ _ e8) (by first | decide | (intro q h; simp at h; done) | (intro q h; simp at h ⊢; omega)) (by first | decide | (intro q h; simp at h; done) | (intro q h; simp at h ⊢; omega))
        obtain ⟨v9, g9, e9, hf⟩ := ob_e2 hf
        have hF := hF.tr (fr_X6_goodMatches g8 x2 v5 _ _ e9) (by first | decide | (intro q h; simp at h; done) | (intro q h; simp at h ⊢; omega)) (by first | decide | (intro q h; simp at h; done) | (intro q h; simp at h ⊢; omega))
        cases hf; exact hF
      · rw [if_neg c7] at hf
        cases hf; exact hF
set_option maxHeartbeats 1000000 in
theorem fr_X1_hopeAheadOf (g : Mm) (x1 : Int32) (t : Mm) (hf : f_X1_hopeAheadOf g x1 = some t) : Fr [21] [] g t := by
  have wf_32 : ∀ (k4 : Mm → Int32 → Int32 → Int32 → Option (Mm)) (hfk4 : ∀ (g : Mm) (x1 x2 x3 : Int32) (t : Mm), k4 g x1 x2 x3 = some t → Fr [21] [] g t), ∀ (g : Mm) (x1 x2 x3 : Int32) (t : Mm), f_X1_hopeAheadOf_J32 k4 g x1 x2 x3 = some t → Fr [21] [] g t := by
    intro k4 hfk4 g x1 x2 x3 t hf
    have hF : Fr [21] [] g g := Fr.rf
    unfold f_X1_hopeAheadOf_J32 at hf
    exact hF.tr (hfk4 g x1 x2 (x3 + 1) _ hf) (fun _ h => h) (fun _ h => h)
  have wf_4 : ∀ (k40 : Mm → Int32 → Int32 → Int32 → Option (Mm)) (hfk40 : ∀ (g : Mm) (x1 x2 x3 : Int32) (t : Mm), k40 g x1 x2 x3 = some t → Fr [21] [] g t) (n : Nat), ∀ (g : Mm) (x1 x2 x3 : Int32) (t : Mm), f_X1_hopeAheadOf_L4 k40 n g x1 x2 x3 = some t → Fr [21] [] g t := by
    intro k40 hfk40 n
    induction n with
    | zero =>
      intro g x1 x2 x3 t hf
      cases hf
    | succ n ih =>
      intro g x1 x2 x3 t hf
      have hF : Fr [21] [] g g := Fr.rf
      unfold f_X1_hopeAheadOf_L4 at hf
      by_cases c1 : (5 : Int32) ≤ x3
      · rw [if_pos c1] at hf
        exact hF.tr (hfk40 g x1 x2 0 _ hf) (fun _ h => h) (fun _ h => h)
      · rw [if_neg c1] at hf
        obtain ⟨v2, e2, hf⟩ := ob_e1 hf
        by_cases c3 : v2 = 0
        · rw [if_pos c3] at hf
          exact hF.tr (wf_32 (f_X1_hopeAheadOf_L4 k40 n) ih g x1 x2 x3 _ hf) (fun _ h => h) (fun _ h => h)
        · rw [if_neg c3] at hf
          obtain ⟨v4, e4, hf⟩ := ob_e1 hf
          exact hF.tr (wf_32 (f_X1_hopeAheadOf_L4 k40 n) ih g x1 (x2 ||| v4) x3 _ hf) (fun _ h => h) (fun _ h => h)
  have wf_105 : ∀ (k40 : Mm → Int32 → Int32 → Int32 → Option (Mm)) (hfk40 : ∀ (g : Mm) (x1 x2 x3 : Int32) (t : Mm), k40 g x1 x2 x3 = some t → Fr [21] [] g t), ∀ (g : Mm) (x1 x2 x3 : Int32) (t : Mm), f_X1_hopeAheadOf_J105 k40 g x1 x2 x3 = some t → Fr [21] [] g t := by
    intro k40 hfk40 g x1 x2 x3 t hf
    have hF : Fr [21] [] g g := Fr.rf
    unfold f_X1_hopeAheadOf_J105 at hf
    exact hF.tr (hfk40 g x1 x2 (x3 + 1) _ hf) (fun _ h => h) (fun _ h => h)
  have wf_80 : ∀ (k40 : Mm → Int32 → Int32 → Int32 → Option (Mm)) (hfk40 : ∀ (g : Mm) (x1 x2 x3 : Int32) (t : Mm), k40 g x1 x2 x3 = some t → Fr [21] [] g t), ∀ (g : Mm) (x1 x2 x3 s0 : Int32) (t : Mm), f_X1_hopeAheadOf_J80 k40 g x1 x2 x3 s0 = some t → Fr [21] [] g t := by
    intro k40 hfk40 g x1 x2 x3 s0 t hf
    have hF : Fr [21] [] g g := Fr.rf
    unfold f_X1_hopeAheadOf_J80 at hf
    obtain ⟨v11, e11, hf⟩ := ob_e1 hf
    obtain ⟨g12, e12, hf⟩ := ob_e1 hf
    have hF := hF.tr (fr_X6_store 21 160 g ((x1 * 5) + x3) (s0 &&& v11) _ e12) (by first | decide | (intro q h; simp at h; done) | (intro q h; simp at h ⊢; omega)) (by first | decide | (intro q h; simp at h; done) | (intro q h; simp at h ⊢; omega))
    exact hF.tr (wf_105 k40 hfk40 g12 x1 x2 x3 _ hf) (fun _ h => h) (fun _ h => h)
  have wf_40 : ∀ (n : Nat), ∀ (g : Mm) (x1 x2 x3 : Int32) (t : Mm), f_X1_hopeAheadOf_L40 n g x1 x2 x3 = some t → Fr [21] [] g t := by
    intro n
    induction n with
    | zero =>
      intro g x1 x2 x3 t hf
      cases hf
    | succ n ih =>
      intro g x1 x2 x3 t hf
      have hF : Fr [21] [] g g := Fr.rf
      unfold f_X1_hopeAheadOf_L40 at hf
      by_cases c5 : (5 : Int32) ≤ x3
      · rw [if_pos c5] at hf
        cases hf; exact hF
      · rw [if_neg c5] at hf
        obtain ⟨v6, e6, hf⟩ := ob_e1 hf
        by_cases c7 : v6 = 0
        · rw [if_pos c7] at hf
          by_cases c8 : x1 = 0
          · rw [if_pos c8] at hf
            exact hF.tr (wf_80 (f_X1_hopeAheadOf_L40 n) ih g x1 x2 x3 1023 _ hf) (fun _ h => h) (fun _ h => h)
          · rw [if_neg c8] at hf
            obtain ⟨v9, e9, hf⟩ := ob_e1 hf
            obtain ⟨v10, e10, hf⟩ := ob_e1 hf
            exact hF.tr (wf_80 (f_X1_hopeAheadOf_L40 n) ih g x1 x2 x3 v10 _ hf) (fun _ h => h) (fun _ h => h)
        · rw [if_neg c7] at hf
          exact hF.tr (wf_105 (f_X1_hopeAheadOf_L40 n) ih g x1 x2 x3 _ hf) (fun _ h => h) (fun _ h => h)
  have hF : Fr [21] [] g g := Fr.rf
  unfold f_X1_hopeAheadOf at hf
  exact hF.tr (wf_4 (f_X1_hopeAheadOf_L40 FU) (wf_40 FU) FU g x1 0 0 _ hf) (fun _ h => h) (fun _ h => h)
set_option maxHeartbeats 1000000 in
theorem fr_X1_prepare (g : Mm) (x1 : Int32) (t : Mm) (hf : f_X1_prepare g x1 = some t) : Fr [20, 21] [] g t := by
  have wf_2 : ∀ (k31 : Mm → Int32 → Int32 → Option (Mm)) (hfk31 : ∀ (g : Mm) (x1 x2 : Int32) (t : Mm), k31 g x1 x2 = some t → Fr [20, 21] [] g t) (n : Nat), ∀ (g : Mm) (x1 x2 : Int32) (t : Mm), f_X1_prepare_L2 k31 n g x1 x2 = some t → Fr [20, 21] [] g t := by
    intro k31 hfk31 n
    induction n with
    | zero =>
      intro g x1 x2 t hf
      cases hf
    | succ n ih =>
      intro g x1 x2 t hf
      have hF : Fr [20, 21] [] g g := Fr.rf
      unfold f_X1_prepare_L2 at hf
      by_cases c1 : (5 : Int32) ≤ x2
      · rw [if_pos c1] at hf
        exact hF.tr (hfk31 g x1 0 _ hf) (fun _ h => h) (fun _ h => h)
      · rw [if_neg c1] at hf
        obtain ⟨v2, e2, hf⟩ := ob_e1 hf
        obtain ⟨g3, e3, hf⟩ := ob_e1 hf
        have hF := hF.tr (fr_X6_store 20 5 g x2 v2 _ e3) (by first | decide | (intro q h; simp at h; done) | (intro q h; simp at h ⊢; omega)) (by first | decide | (intro q h; simp at h; done) | (intro q h; simp at h ⊢; omega))
        exact hF.tr (ih g3 x1 (x2 + 1) _ hf) (fun _ h => h) (fun _ h => h)
  have wf_50 : ∀ (k31 : Mm → Int32 → Int32 → Option (Mm)) (hfk31 : ∀ (g : Mm) (x1 x2 : Int32) (t : Mm), k31 g x1 x2 = some t → Fr [20, 21] [] g t), ∀ (g : Mm) (x1 x2 : Int32) (t : Mm), f_X1_prepare_J50 k31 g x1 x2 = some t → Fr [20, 21] [] g t := by
    intro k31 hfk31 g x1 x2 t hf
    have hF : Fr [20, 21] [] g g := Fr.rf
    unfold f_X1_prepare_J50 at hf
    exact hF.tr (hfk31 g x1 (x2 + 1) _ hf) (fun _ h => h) (fun _ h => h)
  have wf_31 : ∀ (n : Nat), ∀ (g : Mm) (x1 x2 : Int32) (t : Mm), f_X1_prepare_L31 n g x1 x2 = some t → Fr [20, 21] [] g t := by
    intro n
    induction n with
    | zero =>
      intro g x1 x2 t hf
      cases hf
    | succ n ih =>
      intro g x1 x2 t hf
      have hF : Fr [20, 21] [] g g := Fr.rf
      unfold f_X1_prepare_L31 at hf
      by_cases c4 : (31 : Int32) < x2
      · rw [if_pos c4] at hf
        cases hf; exact hF
      · rw [if_neg c4] at hf
        by_cases c5 : (x2 &&& (x1 ^^^ (-1))) = 0
        · rw [if_pos c5] at hf
          obtain ⟨g6, e6, hf⟩ := ob_e1 hf
          have hF := hF.tr (fr_X1_hopeAheadOf g x2 _ e6) (by first | decide | (intro q h; simp at h; done) | (intro q h; simp at h ⊢; omega)) (by first | decide | (intro q h; simp at h; done) | (intro q h; simp at h ⊢; omega))
          exact hF.tr (wf_50 (f_X1_prepare_L31 n) ih g6 x1 x2 _ hf) (fun _ h => h) (fun _ h => h)
        · rw [if_neg c5] at hf
          exact hF.tr (wf_50 (f_X1_prepare_L31 n) ih g x1 x2 _ hf) (fun _ h => h) (fun _ h => h)
  have hF : Fr [20, 21] [] g g := Fr.rf
  unfold f_X1_prepare at hf
  exact hF.tr (wf_2 (f_X1_prepare_L31 FU) (wf_31 FU) FU g x1 0 _ hf) (fun _ h => h) (fun _ h => h)
set_option maxHeartbeats 1000000 in
theorem fr_X1_fewestDays (g : Mm) (x1 : Int32) (r : Int32) (t : Mm) (hf : f_X1_fewestDays g x1 = some (r, t)) : Fr [20, 21, 22, 23] [] g t := by
  have wf_59 : ∀ (k7 : Mm → Int32 → Int32 → Option (Int32 × Mm)) (hfk7 : ∀ (g : Mm) (x1 x2 : Int32) (r : Int32) (t : Mm), k7 g x1 x2 = some (r, t) → Fr [20, 21, 22, 23] [] g t), ∀ (g : Mm) (x1 x2 : Int32) (r : Int32) (t : Mm), f_X1_fewestDays_J59 k7 g x1 x2 = some (r, t) → Fr [20, 21, 22, 23] [] g t := by
    intro k7 hfk7 g x1 x2 r t hf
    have hF : Fr [20, 21, 22, 23] [] g g := Fr.rf
    unfold f_X1_fewestDays_J59 at hf
    exact hF.tr (hfk7 g x1 (x2 + 1) _ _ hf) (fun _ h => h) (fun _ h => h)
  have wf_56 : ∀ (k7 : Mm → Int32 → Int32 → Option (Int32 × Mm)) (hfk7 : ∀ (g : Mm) (x1 x2 : Int32) (r : Int32) (t : Mm), k7 g x1 x2 = some (r, t) → Fr [20, 21, 22, 23] [] g t), ∀ (g : Mm) (x1 x2 s0 s1 : Int32) (r : Int32) (t : Mm), f_X1_fewestDays_J56 k7 g x1 x2 s0 s1 = some (r, t) → Fr [20, 21, 22, 23] [] g t := by
    intro k7 hfk7 g x1 x2 s0 s1 r t hf
    have hF : Fr [20, 21, 22, 23] [] g g := Fr.rf
    unfold f_X1_fewestDays_J56 at hf
    obtain ⟨g9, e9, hf⟩ := ob_e1 hf
    have hF := hF.tr (fr_X6_store 23 32 g s1 s0 _ e9) (by first | decide | (intro q h; simp at h; done) | (intro q h; simp at h ⊢; omega)) (by first | decide | (intro q h; simp at h; done) | (intro q h; simp at h ⊢; omega))
    exact hF.tr (wf_59 k7 hfk7 g9 x1 x2 _ _ hf) (fun _ h => h) (fun _ h => h)
  have wf_7 : ∀ (n : Nat), ∀ (g : Mm) (x1 x2 : Int32) (r : Int32) (t : Mm), f_X1_fewestDays_L7 n g x1 x2 = some (r, t) → Fr [20, 21, 22, 23] [] g t := by
    intro n
    induction n with
    | zero =>
      intro g x1 x2 r t hf
      cases hf
    | succ n ih =>
      intro g x1 x2 r t hf
      have hF : Fr [20, 21, 22, 23] [] g g := Fr.rf
      unfold f_X1_fewestDays_L7 at hf
      by_cases c2 : (32 : Int32) ≤ x2
      · rw [if_pos c2] at hf
        obtain ⟨v3, e3, hf⟩ := ob_e1 hf
        cases hf; exact hF
      · rw [if_neg c2] at hf
        by_cases c4 : (x2 &&& (x1 ^^^ (-1))) = 0
        · rw [if_pos c4] at hf
          obtain ⟨v5, e5, hf⟩ := ob_e1 hf
          obtain ⟨g6, e6, hf⟩ := ob_e1 hf
          have hF := hF.sz e6 (by simp)
          by_cases c7 : x2 = 0
          · rw [if_pos c7] at hf
            exact hF.tr (wf_56 (f_X1_fewestDays_L7 n) ih g6 x1 x2 0 x2 _ _ hf) (fun _ h => h) (fun _ h => h)
          · rw [if_neg c7] at hf
            obtain ⟨v8, e8, hf⟩ := ob_e1 hf
            exact hF.tr (wf_56 (f_X1_fewestDays_L7 n) ih g6 x1 x2 v8 x2 _ _ hf) (fun _ h => h) (fun _ h => h)
        · rw [if_neg c4] at hf
          exact hF.tr (wf_59 (f_X1_fewestDays_L7 n) ih g x1 x2 _ _ hf) (fun _ h => h) (fun _ h => h)
  have hF : Fr [20, 21, 22, 23] [] g g := Fr.rf
  unfold f_X1_fewestDays at hf
  obtain ⟨g1, e1, hf⟩ := ob_e1 hf
  have hF := hF.tr (fr_X1_prepare g x1 _ e1) (by first | decide | (intro q h; simp at h; done) | (intro q h; simp at h ⊢; omega)) (by first | decide | (intro q h; simp at h; done) | (intro q h; simp at h ⊢; omega))
  exact hF.tr (wf_7 FU g1 x1 0 _ _ hf) (fun _ h => h) (fun _ h => h)
set_option maxHeartbeats 1000000 in
theorem fr_X1_isOneDayEnough (g : Mm) (x1 : Int32) (r : Int32) (t : Mm) (hf : f_X1_isOneDayEnough g x1 = some (r, t)) : Fr [20, 21] [] g t := by
  have hF : Fr [20, 21] [] g g := Fr.rf
  unfold f_X1_isOneDayEnough at hf
  obtain ⟨g1, e1, hf⟩ := ob_e1 hf
  have hF := hF.tr (fr_X1_prepare g x1 _ e1) (by first | decide | (intro q h; simp at h; done) | (intro q h; simp at h ⊢; omega)) (by first | decide | (intro q h; simp at h; done) | (intro q h; simp at h ⊢; omega))
  obtain ⟨v2, e2, hf⟩ := ob_e1 hf
  obtain ⟨u3, e3, hf⟩ := ob_e1 hf
  cases hf; exact hF
set_option maxHeartbeats 1000000 in
theorem fr_X6_crowd (g : Mm) (x1 x2 : Int32) (r : Int32) (t : Mm) (hf : f_X6_crowd g x1 x2 = some (r, t)) : Fr [20, 21, 22, 23] [] g t := by
  have hF : Fr [20, 21, 22, 23] [] g g := Fr.rf
  unfold f_X6_crowd at hf
  obtain ⟨v1, e1, hf⟩ := ob_e1 hf
  by_cases c2 : v1 = 0
  · rw [if_pos c2] at hf
    cases hf; exact hF
  · rw [if_neg c2] at hf
    obtain ⟨v3, e3, hf⟩ := ob_e1 hf
    by_cases c4 : v3 = 0
    · rw [if_pos c4] at hf
      cases hf; exact hF
    · rw [if_neg c4] at hf
      by_cases c5 : x2 = 1
      · rw [if_pos c5] at hf
        obtain ⟨v8, g8, e8, hf⟩ := ob_e2 hf
        have hF := hF.tr (fr_X1_fewestDays g x1 _ _ e8) (by first | decide | (intro q h; simp at h; done) | (intro q h; simp at h ⊢; omega)) (by first | decide | (intro q h; simp at h; done) | (intro q h; simp at h ⊢; omega))
        cases hf; exact hF
      · rw [if_neg c5] at hf
        obtain ⟨v6, g6, e6, hf⟩ := ob_e2 hf
        have hF := hF.tr (fr_X1_isOneDayEnough g x1 _ _ e6) (by first | decide | (intro q h; simp at h; done) | (intro q h; simp at h ⊢; omega)) (by first | decide | (intro q h; simp at h; done) | (intro q h; simp at h ⊢; omega))
        by_cases c7 : v6 = 0
        · rw [if_pos c7] at hf
          cases hf; exact hF
        · rw [if_neg c7] at hf
          cases hf; exact hF
set_option maxHeartbeats 1000000 in
theorem fr_X2_inRings (g : Mm) (r : Int32) (t : Mm) (hf : f_X2_inRings g = some (r, t)) : Fr [25] [] g t := by
  have wf_2 : ∀ (k32 : Mm → Int32 → Option (Int32 × Mm)) (hfk32 : ∀ (g : Mm) (x1 : Int32) (r : Int32) (t : Mm), k32 g x1 = some (r, t) → Fr [25] [] g t) (n : Nat), ∀ (g : Mm) (x1 : Int32) (r : Int32) (t : Mm), f_X2_inRings_L2 k32 n g x1 = some (r, t) → Fr [25] [] g t := by
    intro k32 hfk32 n
    induction n with
    | zero =>
      intro g x1 r t hf
      cases hf
    | succ n ih =>
      intro g x1 r t hf
      have hF : Fr [25] [] g g := Fr.rf
      unfold f_X2_inRings_L2 at hf
      by_cases c1 : (10 : Int32) ≤ x1
      · rw [if_pos c1] at hf
        exact hF.tr (hfk32 g 0 _ _ hf) (fun _ h => h) (fun _ h => h)
      · rw [if_neg c1] at hf
        obtain ⟨v2, e2, hf⟩ := ob_e1 hf
        obtain ⟨g3, e3, hf⟩ := ob_e1 hf
        have hF := hF.tr (fr_X6_store 25 10 g x1 v2 _ e3) (by first | decide | (intro q h; simp at h; done) | (intro q h; simp at h ⊢; omega)) (by first | decide | (intro q h; simp at h; done) | (intro q h; simp at h ⊢; omega))
        exact hF.tr (ih g3 (x1 + 1) _ _ hf) (fun _ h => h) (fun _ h => h)
  have wf_86 : ∀ (k40 : Mm → Int32 → Int32 → Option (Int32 × Mm)) (hfk40 : ∀ (g : Mm) (x1 x2 : Int32) (r : Int32) (t : Mm), k40 g x1 x2 = some (r, t) → Fr [25] [] g t), ∀ (g : Mm) (x1 x2 : Int32) (r : Int32) (t : Mm), f_X2_inRings_J86 k40 g x1 x2 = some (r, t) → Fr [25] [] g t := by
    intro k40 hfk40 g x1 x2 r t hf
    have hF : Fr [25] [] g g := Fr.rf
    unfold f_X2_inRings_J86 at hf
    exact hF.tr (hfk40 g x1 (x2 + 1) _ _ hf) (fun _ h => h) (fun _ h => h)
  have wf_40 : ∀ (k32 : Mm → Int32 → Option (Int32 × Mm)) (hfk32 : ∀ (g : Mm) (x1 : Int32) (r : Int32) (t : Mm), k32 g x1 = some (r, t) → Fr [25] [] g t) (n : Nat), ∀ (g : Mm) (x1 x2 : Int32) (r : Int32) (t : Mm), f_X2_inRings_L40 k32 n g x1 x2 = some (r, t) → Fr [25] [] g t := by
    intro k32 hfk32 n
    induction n with
    | zero =>
      intro g x1 x2 r t hf
      cases hf
    | succ n ih =>
      intro g x1 x2 r t hf
      have hF : Fr [25] [] g g := Fr.rf
      unfold f_X2_inRings_L40 at hf
      by_cases c9 : (10 : Int32) ≤ x2
      · rw [if_pos c9] at hf
        exact hF.tr (hfk32 g (x1 + 1) _ _ hf) (fun _ h => h) (fun _ h => h)
      · rw [if_neg c9] at hf
        obtain ⟨v10, e10, hf⟩ := ob_e1 hf
        obtain ⟨v11, e11, hf⟩ := ob_e1 hf
        by_cases c12 : v11 = 0
        · rw [if_pos c12] at hf
          exact hF.tr (wf_86 (f_X2_inRings_L40 k32 n) ih g x1 x2 _ _ hf) (fun _ h => h) (fun _ h => h)
        · rw [if_neg c12] at hf
          obtain ⟨v13, e13, hf⟩ := ob_e1 hf
          obtain ⟨v14, e14, hf⟩ := ob_e1 hf
          obtain ⟨g15, e15, hf⟩ := ob_e1 hf
          have hF := hF.tr (fr_X6_store 25 10 g x2 (v13 ||| v14) _ e15) (by first | decide | (intro q h; simp at h; done) | (intro q h; simp at h ⊢; omega)) (by first | decide | (intro q h; simp at h; done) | (intro q h; simp at h ⊢; omega))
          exact hF.tr (wf_86 (f_X2_inRings_L40 k32 n) ih g15 x1 x2 _ _ hf) (fun _ h => h) (fun _ h => h)
  have wf_32 : ∀ (k102 : Mm → Int32 → Int32 → Option (Int32 × Mm)) (hfk102 : ∀ (g : Mm) (x1 x2 : Int32) (r : Int32) (t : Mm), k102 g x1 x2 = some (r, t) → Fr [25] [] g t) (n : Nat), ∀ (g : Mm) (x1 : Int32) (r : Int32) (t : Mm), f_X2_inRings_L32 k102 n g x1 = some (r, t) → Fr [25] [] g t := by
    intro k102 hfk102 n
    induction n with
    | zero =>
      intro g x1 r t hf
      cases hf
    | succ n ih =>
      intro g x1 r t hf
      have hF : Fr [25] [] g g := Fr.rf
      unfold f_X2_inRings_L32 at hf
      by_cases c4 : (10 : Int32) ≤ x1
      · rw [if_pos c4] at hf
        exact hF.tr (hfk102 g 0 0 _ _ hf) (fun _ h => h) (fun _ h => h)
      · rw [if_neg c4] at hf
        exact hF.tr (wf_40 (f_X2_inRings_L32 k102 n) ih FU g x1 0 _ _ hf) (fun _ h => h) (fun _ h => h)
  have wf_129 : ∀ (k102 : Mm → Int32 → Int32 → Option (Int32 × Mm)) (hfk102 : ∀ (g : Mm) (x1 x2 : Int32) (r : Int32) (t : Mm), k102 g x1 x2 = some (r, t) → Fr [25] [] g t), ∀ (g : Mm) (x1 x2 : Int32) (r : Int32) (t : Mm), f_X2_inRings_J129 k102 g x1 x2 = some (r, t) → Fr [25] [] g t := by
    intro k102 hfk102 g x1 x2 r t hf
    have hF : Fr [25] [] g g := Fr.rf
    unfold f_X2_inRings_J129 at hf
    exact hF.tr (hfk102 g x1 (x2 + 1) _ _ hf) (fun _ h => h) (fun _ h => h)
  have wf_102 : ∀ (n : Nat), ∀ (g : Mm) (x1 x2 : Int32) (r : Int32) (t : Mm), f_X2_inRings_L102 n g x1 x2 = some (r, t) → Fr [25] [] g t := by
    intro n
    induction n with
    | zero =>
      intro g x1 x2 r t hf
      cases hf
    | succ n ih =>
      intro g x1 x2 r t hf
      have hF : Fr [25] [] g g := Fr.rf
      unfold f_X2_inRings_L102 at hf
      by_cases c5 : (10 : Int32) ≤ x2
      · rw [if_pos c5] at hf
        cases hf; exact hF
      · rw [if_neg c5] at hf
        obtain ⟨v6, e6, hf⟩ := ob_e1 hf
        obtain ⟨v7, e7, hf⟩ := ob_e1 hf
        by_cases c8 : v7 = 0
        · rw [if_pos c8] at hf
          exact hF.tr (wf_129 (f_X2_inRings_L102 n) ih g x1 x2 _ _ hf) (fun _ h => h) (fun _ h => h)
        · rw [if_neg c8] at hf
          exact hF.tr (wf_129 (f_X2_inRings_L102 n) ih g (x1 ||| ((1 : Int32) <<< (x2 &&& 31))) x2 _ _ hf) (fun _ h => h) (fun _ h => h)
  have hF : Fr [25] [] g g := Fr.rf
  unfold f_X2_inRings at hf
  exact hF.tr (wf_2 (f_X2_inRings_L32 (f_X2_inRings_L102 FU) FU) (wf_32 (f_X2_inRings_L102 FU) (wf_102 FU) FU) FU g 0 _ _ hf) (fun _ h => h) (fun _ h => h)
set_option maxHeartbeats 1000000 in
theorem fr_X6_rings (g : Mm) (x1 : Int32) (r : Int32) (t : Mm) (hf : f_X6_rings g x1 = some (r, t)) : Fr [25] [] g t := by
  have hF : Fr [25] [] g g := Fr.rf
  unfold f_X6_rings at hf
  obtain ⟨v1, e1, hf⟩ := ob_e1 hf
  by_cases c2 : v1 = 0
  · rw [if_pos c2] at hf
    cases hf; exact hF
  · rw [if_neg c2] at hf
    by_cases c3 : x1 = 0
    · rw [if_pos c3] at hf
      obtain ⟨v5, g5, e5, hf⟩ := ob_e2 hf
      have hF := hF.tr (fr_X2_inRings g _ _ e5) (by first | decide | (intro q h; simp at h; done) | (intro q h; simp at h ⊢; omega)) (by first | decide | (intro q h; simp at h; done) | (intro q h; simp at h ⊢; omega))
      cases hf; exact hF
    · rw [if_neg c3] at hf
      obtain ⟨v4, e4, hf⟩ := ob_e1 hf
      cases hf; exact hF
set_option maxHeartbeats 1000000 in
theorem fr_X2_arrange (g : Mm) (t : Mm) (hf : f_X2_arrange g = some t) : Fr [26, 27, 28] [(24, 5)] g t := by
  have wf_30 : ∀ (k62 : Mm → Int32 → Int32 → Option (Mm)) (hfk62 : ∀ (g : Mm) (x1 x2 : Int32) (t : Mm), k62 g x1 x2 = some t → Fr [26, 27, 28] [(24, 5)] g t) (n : Nat), ∀ (g : Mm) (x1 : Int32) (t : Mm), f_X2_arrange_L30 k62 n g x1 = some t → Fr [26, 27, 28] [(24, 5)] g t := by
    intro k62 hfk62 n
    induction n with
    | zero =>
      intro g x1 t hf
      cases hf
    | succ n ih =>
      intro g x1 t hf
      have hF : Fr [26, 27, 28] [(24, 5)] g g := Fr.rf
      unfold f_X2_arrange_L30 at hf
      by_cases c5 : x1 < 0
      · rw [if_pos c5] at hf
        exact hF.tr (hfk62 g 0 0 _ hf) (fun _ h => h) (fun _ h => h)
      · rw [if_neg c5] at hf
        obtain ⟨v6, e6, hf⟩ := ob_e1 hf
        obtain ⟨v7, e7, hf⟩ := ob_e1 hf
        obtain ⟨g8, e8, hf⟩ := ob_e1 hf
        have hF := hF.tr (fr_X6_store 26 1024 g x1 v7 _ e8) (by first | decide | (intro q h; simp at h; done) | (intro q h; simp at h ⊢; omega)) (by first | decide | (intro q h; simp at h; done) | (intro q h; simp at h ⊢; omega))
        exact hF.tr (ih g8 (x1 + (-1)) _ hf) (fun _ h => h) (fun _ h => h)
  have wf_62 : ∀ (k97 : Mm → Int32 → Option (Mm)) (hfk97 : ∀ (g : Mm) (x2 : Int32) (t : Mm), k97 g x2 = some t → Fr [26, 27, 28] [(24, 5)] g t) (n : Nat), ∀ (g : Mm) (x1 x2 : Int32) (t : Mm), f_X2_arrange_L62 k97 n g x1 x2 = some t → Fr [26, 27, 28] [(24, 5)] g t := by
    intro k97 hfk97 n
    induction n with
    | zero =>
      intro g x1 x2 t hf
      cases hf
    | succ n ih =>
      intro g x1 x2 t hf
      have hF : Fr [26, 27, 28] [(24, 5)] g g := Fr.rf
      unfold f_X2_arrange_L62 at hf
      by_cases c9 : (10 : Int32) ≤ x2
      · rw [if_pos c9] at hf
        exact hF.tr (hfk97 g 0 _ hf) (fun _ h => h) (fun _ h => h)
      · rw [if_neg c9] at hf
        obtain ⟨v10, e10, hf⟩ := ob_e1 hf
        obtain ⟨g11, e11, hf⟩ := ob_e1 hf
        have hF := hF.tr (fr_X6_store 27 10 g v10 x2 _ e11) (by first | decide | (intro q h; simp at h; done) | (intro q h; simp at h ⊢; omega)) (by first | decide | (intro q h; simp at h; done) | (intro q h; simp at h ⊢; omega))
        exact hF.tr (ih g11 (x1 ||| ((1 : Int32) <<< (v10 &&& 31))) (x2 + 1) _ hf) (fun _ h => h) (fun _ h => h)
  have wf_97 : ∀ (n : Nat), ∀ (g : Mm) (x2 : Int32) (t : Mm), f_X2_arrange_L97 n g x2 = some t → Fr [26, 27, 28] [(24, 5)] g t := by
    intro n
    induction n with
    | zero =>
      intro g x2 t hf
      cases hf
    | succ n ih =>
      intro g x2 t hf
      have hF : Fr [26, 27, 28] [(24, 5)] g g := Fr.rf
      unfold f_X2_arrange_L97 at hf
      by_cases c12 : (10 : Int32) ≤ x2
      · rw [if_pos c12] at hf
        have hF := hF.up (q := 24) (k := 5) (v := 1) (by simp)
        cases hf; exact hF
      · rw [if_neg c12] at hf
        obtain ⟨v13, e13, hf⟩ := ob_e1 hf
        obtain ⟨g14, e14, hf⟩ := ob_e1 hf
        have hF := hF.tr (fr_X6_store 28 10 g x2 v13 _ e14) (by first | decide | (intro q h; simp at h; done) | (intro q h; simp at h ⊢; omega)) (by first | decide | (intro q h; simp at h; done) | (intro q h; simp at h ⊢; omega))
        exact hF.tr (ih g14 (x2 + 1) _ hf) (fun _ h => h) (fun _ h => h)
  have wf_15 : ∀ (g : Mm) (t : Mm), f_X2_arrange_J15 g  = some t → Fr [26, 27, 28] [(24, 5)] g t := by
    intro g t hf
    have hF : Fr [26, 27, 28] [(24, 5)] g g := Fr.rf
    unfold f_X2_arrange_J15 at hf
    obtain ⟨g4, e4, hf⟩ := ob_e1 hf
    have hF := hF.tr (fr_X6_store 26 1024 g 1023 0 _ e4) (by first | decide | (intro q h; simp at h; done) | (intro q h; simp at h ⊢; omega)) (by first | decide | (intro q h; simp at h; done) | (intro q h; simp at h ⊢; omega))
    exact hF.tr (wf_30 (f_X2_arrange_L62 (f_X2_arrange_L97 FU) FU) (wf_62 (f_X2_arrange_L97 FU) (wf_97 FU) FU) FU g4 1022 _ hf) (fun _ h => h) (fun _ h => h)
  have hF : Fr [26, 27, 28] [(24, 5)] g g := Fr.rf
  unfold f_X2_arrange at hf
  by_cases c1 : (g 24 5) = 0
  · rw [if_pos c1] at hf
    exact hF.tr (wf_15 g _ hf) (fun _ h => h) (fun _ h => h)
  · rw [if_neg c1] at hf
    obtain ⟨v2, e2, hf⟩ := ob_e1 hf
    by_cases c3 : v2 = 0
    · rw [if_pos c3] at hf
      exact hF.tr (wf_15 g _ hf) (fun _ h => h) (fun _ h => h)
    · rw [if_neg c3] at hf
      cases hf; exact hF
set_option maxHeartbeats 1000000 in
theorem fr_X6_ladder (g : Mm) (x1 : Int32) (r : Int32) (t : Mm) (hf : f_X6_ladder g x1 = some (r, t)) : Fr [26, 27, 28] [(24, 5)] g t := by
  have hF : Fr [26, 27, 28] [(24, 5)] g g := Fr.rf
  unfold f_X6_ladder at hf
  obtain ⟨g1, e1, hf⟩ := ob_e1 hf
  have hF := hF.tr (fr_X2_arrange g _ e1) (by first | decide | (intro q h; simp at h; done) | (intro q h; simp at h ⊢; omega)) (by first | decide | (intro q h; simp at h; done) | (intro q h; simp at h ⊢; omega))
  by_cases c2 : x1 = (-1)
  · rw [if_pos c2] at hf
    obtain ⟨v4, e4, hf⟩ := ob_e1 hf
    cases hf; exact hF
  · rw [if_neg c2] at hf
    obtain ⟨v3, e3, hf⟩ := ob_e1 hf
    cases hf; exact hF
set_option maxHeartbeats 1000000 in
theorem fr_X5_walk (rc_walk : Mm → Int32 → Int32 → Int32 → Int32 → Option (Mm)) (hfc_walk : ∀ (g : Mm) (x1 x2 x3 x4 : Int32) (t : Mm), rc_walk g x1 x2 x3 x4 = some t → Fr [] [(29, 3), (29, 4)] g t) (g : Mm) (x1 x2 x3 x4 : Int32) (t : Mm) (hf : f_X5_walk rc_walk g x1 x2 x3 x4 = some t) : Fr [] [(29, 3), (29, 4)] g t := by
  have wf_40 : ∀ (g : Mm) (t : Mm), f_X5_walk_J40 rc_walk g  = some t → Fr [] [(29, 3), (29, 4)] g t := by
    intro g t hf
    have hF : Fr [] [(29, 3), (29, 4)] g g := Fr.rf
    unfold f_X5_walk_J40 at hf
    have hF := hF.up (q := 29) (k := 3) (v := ((g 29 3) + 1)) (by simp)
    cases hf; exact hF
  have wf_107 : ∀ (k54 : Mm → Int32 → Int32 → Int32 → Int32 → Int32 → Option (Mm)) (hfk54 : ∀ (g : Mm) (x1 x2 x3 x4 x5 : Int32) (t : Mm), k54 g x1 x2 x3 x4 x5 = some t → Fr [] [(29, 3), (29, 4)] g t), ∀ (g : Mm) (x1 x2 x3 x4 x5 : Int32) (t : Mm), f_X5_walk_J107 rc_walk k54 g x1 x2 x3 x4 x5 = some t → Fr [] [(29, 3), (29, 4)] g t := by
    intro k54 hfk54 g x1 x2 x3 x4 x5 t hf
    have hF : Fr [] [(29, 3), (29, 4)] g g := Fr.rf
    unfold f_X5_walk_J107 at hf
    exact hF.tr (hfk54 g x1 x2 x3 x4 (x5 + 1) _ hf) (fun _ h => h) (fun _ h => h)
  have wf_54 : ∀ (n : Nat), ∀ (g : Mm) (x1 x2 x3 x4 x5 : Int32) (t : Mm), f_X5_walk_L54 rc_walk n g x1 x2 x3 x4 x5 = some t → Fr [] [(29, 3), (29, 4)] g t := by
    intro n
    induction n with
    | zero =>
      intro g x1 x2 x3 x4 x5 t hf
      cases hf
    | succ n ih =>
      intro g x1 x2 x3 x4 x5 t hf
      have hF : Fr [] [(29, 3), (29, 4)] g g := Fr.rf
      unfold f_X5_walk_L54 at hf
      by_cases c6 : (10 : Int32) ≤ x5
      · rw [if_pos c6] at hf
        cases hf; exact hF
      · rw [if_neg c6] at hf
        obtain ⟨v7, e7, hf⟩ := ob_e1 hf
        obtain ⟨v8, e8, hf⟩ := ob_e1 hf
        by_cases c9 : v8 = 0
        · rw [if_pos c9] at hf
          exact hF.tr (wf_107 (f_X5_walk_L54 rc_walk n) ih g x1 x2 x3 x4 x5 _ hf) (fun _ h => h) (fun _ h => h)
        · rw [if_neg c9] at hf
          obtain ⟨g10, e10, hf⟩ := ob_e1 hf
          have hF := hF.tr (hfc_walk g x5 (x2 ||| ((1 : Int32) <<< (x5 &&& 31))) (x3 - 1) ((x4 * 10) + x5) _ e10) (by first | decide | (intro q h; simp at h; done) | (intro q h; simp at h ⊢; omega)) (by first | decide | (intro q h; simp at h; done) | (intro q h; simp at h ⊢; omega))
          exact hF.tr (wf_107 (f_X5_walk_L54 rc_walk n) ih g10 x1 x2 x3 x4 x5 _ hf) (fun _ h => h) (fun _ h => h)
  have hF : Fr [] [(29, 3), (29, 4)] g g := Fr.rf
  unfold f_X5_walk at hf
  by_cases c1 : (0 : Int32) < x3
  · rw [if_pos c1] at hf
    exact hF.tr (wf_54 FU g x1 x2 x3 x4 0 _ hf) (fun _ h => h) (fun _ h => h)
  · rw [if_neg c1] at hf
    obtain ⟨v2, e2, hf⟩ := ob_e1 hf
    obtain ⟨v3, e3, hf⟩ := ob_e1 hf
    by_cases c4 : v3 = 0
    · rw [if_pos c4] at hf
      cases hf; exact hF
    · rw [if_neg c4] at hf
      by_cases c5 : (g 29 3) = (g 29 2)
      · rw [if_pos c5] at hf
        have hF := hF.up (q := 29) (k := 4) (v := x4) (by simp)
        exact hF.tr (wf_40 (ob_up g 29 4 x4) _ hf) (fun _ h => h) (fun _ h => h)
      · rw [if_neg c5] at hf
        exact hF.tr (wf_40 g _ hf) (fun _ h => h) (fun _ h => h)
theorem fr_N_X5_walk : ∀ (n : Nat) (g : Mm) (x1 x2 x3 x4 : Int32) (t : Mm), fN_X5_walk n g x1 x2 x3 x4 = some t → Fr [] [(29, 3), (29, 4)] g t := by
  intro n
  induction n with
  | zero =>
    intro g x1 x2 x3 x4 t h
    cases h
  | succ n ih =>
    intro g x1 x2 x3 x4 t h
    exact fr_X5_walk _ (ih) g x1 x2 x3 x4 t h
set_option maxHeartbeats 1000000 in
theorem fr_X5_search (g : Mm) (x1 x2 x3 x4 : Int32) (t : Mm) (hf : f_X5_search g x1 x2 x3 x4 = some t) : Fr [] [(29, 1), (29, 2), (29, 3), (29, 4)] g t := by
  have hF : Fr [] [(29, 1), (29, 2), (29, 3), (29, 4)] g g := Fr.rf
  unfold f_X5_search at hf
  have hF := hF.up (q := 29) (k := 1) (v := x2) (by simp)
  have hF := hF.up (q := 29) (k := 2) (v := x4) (by simp)
  have hF := hF.up (q := 29) (k := 3) (v := 0) (by simp)
  have hF := hF.up (q := 29) (k := 4) (v := (-6)) (by simp)
  obtain ⟨g1, e1, hf⟩ := ob_e1 hf
  have hF := hF.tr (fr_N_X5_walk 6 (ob_up (ob_up (ob_up (ob_up g 29 1 x2) 29 2 x4) 29 3 0) 29 4 (-6)) x1 (((1 : Int32) <<< (x1 &&& 31)) ||| ((1 : Int32) <<< (x2 &&& 31))) x3 1 _ e1) (by first | decide | (intro q h; simp at h; done) | (intro q h; simp at h ⊢; omega)) (by first | decide | (intro q h; simp at h; done) | (intro q h; simp at h ⊢; omega))
  cases hf; exact hF
set_option maxHeartbeats 1000000 in
theorem fr_X6_between (g : Mm) (x1 x2 x3 x4 : Int32) (r : Int32) (t : Mm) (hf : f_X6_between g x1 x2 x3 x4 = some (r, t)) : Fr [] [(29, 1), (29, 2), (29, 3), (29, 4)] g t := by
  have hF : Fr [] [(29, 1), (29, 2), (29, 3), (29, 4)] g g := Fr.rf
  unfold f_X6_between at hf
  obtain ⟨v1, e1, hf⟩ := ob_e1 hf
  by_cases c2 : v1 = 0
  · rw [if_pos c2] at hf
    cases hf; exact hF
  · rw [if_neg c2] at hf
    obtain ⟨v3, e3, hf⟩ := ob_e1 hf
    by_cases c4 : v3 = 0
    · rw [if_pos c4] at hf
      cases hf; exact hF
    · rw [if_neg c4] at hf
      by_cases c5 : x1 = x2
      · rw [if_pos c5] at hf
        cases hf; exact hF
      · rw [if_neg c5] at hf
        obtain ⟨v6, e6, hf⟩ := ob_e1 hf
        by_cases c7 : v6 = 0
        · rw [if_pos c7] at hf
          cases hf; exact hF
        · rw [if_neg c7] at hf
          obtain ⟨g8, e8, hf⟩ := ob_e1 hf
          have hF := hF.tr (fr_X5_search g x1 x2 x3 x4 _ e8) (by first | decide | (intro q h; simp at h; done) | (intro q h; simp at h ⊢; omega)) (by first | decide | (intro q h; simp at h; done) | (intro q h; simp at h ⊢; omega))
          by_cases c9 : x4 = (-1)
          · rw [if_pos c9] at hf
            obtain ⟨v11, e11, hf⟩ := ob_e1 hf
            cases hf; exact hF
          · rw [if_neg c9] at hf
            obtain ⟨v10, e10, hf⟩ := ob_e1 hf
            cases hf; exact hF
set_option maxHeartbeats 1000000 in
theorem fr_X6_high (g : Mm) (x1 : Int32) (r : Int32) (t : Mm) (hf : f_X6_high g x1 = some (r, t)) : Fr [18] [(17, 2), (17, 3), (17, 5), (17, 6)] g t := by
  have hF : Fr [18] [(17, 2), (17, 3), (17, 5), (17, 6)] g g := Fr.rf
  unfold f_X6_high at hf
  obtain ⟨v1, e1, hf⟩ := ob_e1 hf
  by_cases c2 : v1 = 0
  · rw [if_pos c2] at hf
    cases hf; exact hF
  · rw [if_neg c2] at hf
    obtain ⟨v3, e3, hf⟩ := ob_e1 hf
    obtain ⟨g4, e4, hf⟩ := ob_e1 hf
    have hF := hF.tr (fr_X0_spin g v3 ((1 : Int32) <<< (x1 &&& 31)) 1023 1023 _ e4) (by first | decide | (intro q h; simp at h; done) | (intro q h; simp at h ⊢; omega)) (by first | decide | (intro q h; simp at h; done) | (intro q h; simp at h ⊢; omega))
    obtain ⟨v5, e5, hf⟩ := ob_e1 hf
    cases hf; exact hF
set_option maxHeartbeats 1000000 in
theorem fr_X4_copy (b : Nat) (b1 : Nat) (g : Mm) (t : Mm) (hf : f_X4_copy b b1 g = some t) : Fr [b + 1, b + 2, b + 3, b + 4] [(b, 4)] g t := by
  have wf_2 : ∀ (k42 : Mm → Int32 → Option (Mm)) (hfk42 : ∀ (g : Mm) (x2 : Int32) (t : Mm), k42 g x2 = some t → Fr [b + 1, b + 2, b + 3, b + 4] [(b, 4)] g t) (n : Nat), ∀ (g : Mm) (x2 : Int32) (t : Mm), f_X4_copy_L2 b b1 k42 n g x2 = some t → Fr [b + 1, b + 2, b + 3, b + 4] [(b, 4)] g t := by
    intro k42 hfk42 n
    induction n with
    | zero =>
      intro g x2 t hf
      cases hf
    | succ n ih =>
      intro g x2 t hf
      have hF : Fr [b + 1, b + 2, b + 3, b + 4] [(b, 4)] g g := Fr.rf
      unfold f_X4_copy_L2 at hf
      by_cases c1 : (10 : Int32) ≤ x2
      · rw [if_pos c1] at hf
        exact hF.tr (hfk42 g 0 _ hf) (fun _ h => h) (fun _ h => h)
      · rw [if_neg c1] at hf
        obtain ⟨v2, e2, hf⟩ := ob_e1 hf
        obtain ⟨g3, e3, hf⟩ := ob_e1 hf
        have hF := hF.tr (fr_X6_store (b + 1) 10 g x2 v2 _ e3) (by first | decide | (intro q h; simp at h; done) | (intro q h; simp at h ⊢; omega)) (by first | decide | (intro q h; simp at h; done) | (intro q h; simp at h ⊢; omega))
        obtain ⟨v4, e4, hf⟩ := ob_e1 hf
        obtain ⟨g5, e5, hf⟩ := ob_e1 hf
        have hF := hF.tr (fr_X6_store (b + 2) 10 g3 x2 v4 _ e5) (by first | decide | (intro q h; simp at h; done) | (intro q h; simp at h ⊢; omega)) (by first | decide | (intro q h; simp at h; done) | (intro q h; simp at h ⊢; omega))
        exact hF.tr (ih g5 (x2 + 1) _ hf) (fun _ h => h) (fun _ h => h)
  have wf_42 : ∀ (n : Nat), ∀ (g : Mm) (x2 : Int32) (t : Mm), f_X4_copy_L42 b b1 n g x2 = some t → Fr [b + 1, b + 2, b + 3, b + 4] [(b, 4)] g t := by
    intro n
    induction n with
    | zero =>
      intro g x2 t hf
      cases hf
    | succ n ih =>
      intro g x2 t hf
      have hF : Fr [b + 1, b + 2, b + 3, b + 4] [(b, 4)] g g := Fr.rf
      unfold f_X4_copy_L42 at hf
      by_cases c6 : (5 : Int32) ≤ x2
      · rw [if_pos c6] at hf
        have hF := hF.up (q := b) (k := 4) (v := 1) (by simp)
        cases hf; exact hF
      · rw [if_neg c6] at hf
        obtain ⟨v7, e7, hf⟩ := ob_e1 hf
        obtain ⟨g8, e8, hf⟩ := ob_e1 hf
        have hF := hF.tr (fr_X6_store (b + 3) 5 g x2 v7 _ e8) (by first | decide | (intro q h; simp at h; done) | (intro q h; simp at h ⊢; omega)) (by first | decide | (intro q h; simp at h; done) | (intro q h; simp at h ⊢; omega))
        obtain ⟨v9, e9, hf⟩ := ob_e1 hf
        obtain ⟨g10, e10, hf⟩ := ob_e1 hf
        have hF := hF.tr (fr_X6_store (b + 4) 5 g8 x2 v9 _ e10) (by first | decide | (intro q h; simp at h; done) | (intro q h; simp at h ⊢; omega)) (by first | decide | (intro q h; simp at h; done) | (intro q h; simp at h ⊢; omega))
        exact hF.tr (ih g10 (x2 + 1) _ hf) (fun _ h => h) (fun _ h => h)
  have hF : Fr [b + 1, b + 2, b + 3, b + 4] [(b, 4)] g g := Fr.rf
  unfold f_X4_copy at hf
  exact hF.tr (wf_2 (f_X4_copy_L42 b b1 FU) (wf_42 FU) FU g 0 _ hf) (fun _ h => h) (fun _ h => h)
set_option maxHeartbeats 1000000 in
theorem fr_X6_restore (g : Mm) (x1 : Int32) (r : Int32) (t : Mm) (hf : f_X6_restore g x1 = some (r, t)) : Fr [3, 4, 5, 6] [(2, 4)] g t := by
  have hF : Fr [3, 4, 5, 6] [(2, 4)] g g := Fr.rf
  unfold f_X6_restore at hf
  obtain ⟨v1, e1, hf⟩ := ob_e1 hf
  by_cases c2 : v1 = 0
  · rw [if_pos c2] at hf
    cases hf; exact hF
  · rw [if_neg c2] at hf
    obtain ⟨v3, e3, hf⟩ := ob_e1 hf
    have hT_v3 : isTown v3 := imageOf_town e3
    obtain ⟨v4, e4, hf⟩ := ob_e1 hf
    by_cases c5 : v4 = 0
    · rw [if_pos c5] at hf
      cases hf; exact hF
    · rw [if_neg c5] at hf
      obtain ⟨v6, e6, hf⟩ := ob_e1 hf
      have hT_v6 : isTown v6 := imageOf_town e6
      obtain ⟨g7, e7, hf⟩ := ob_e1 hf
      have hF := hF.tr (fr_X4_copy 2 v6 g _ e7) (by first | decide | (intro q h; simp at h; done) | (intro q h; simp at h ⊢; omega)) (by first | decide | (intro q h; simp at h; done) | (intro q h; simp at h ⊢; omega))
      cases hf; exact hF
set_option maxHeartbeats 1000000 in
theorem fr_X4_addSteps (b : Nat) (b1 : Nat) (g : Mm) (t : Mm) (hf : f_X4_addSteps b b1 g = some t) : Fr [b + 1] [] g t := by
  have wf_2 : ∀ (n : Nat), ∀ (g : Mm) (x2 : Int32) (t : Mm), f_X4_addSteps_L2 b b1 n g x2 = some t → Fr [b + 1] [] g t := by
    intro n
    induction n with
    | zero =>
      intro g x2 t hf
      cases hf
    | succ n ih =>
      intro g x2 t hf
      have hF : Fr [b + 1] [] g g := Fr.rf
      unfold f_X4_addSteps_L2 at hf
      by_cases c1 : (10 : Int32) ≤ x2
      · rw [if_pos c1] at hf
        cases hf; exact hF
      · rw [if_neg c1] at hf
        obtain ⟨v2, e2, hf⟩ := ob_e1 hf
        obtain ⟨v3, e3, hf⟩ := ob_e1 hf
        obtain ⟨g4, e4, hf⟩ := ob_e1 hf
        have hF := hF.tr (fr_X6_store (b + 1) 10 g x2 (v2 ||| v3) _ e4) (by first | decide | (intro q h; simp at h; done) | (intro q h; simp at h ⊢; omega)) (by first | decide | (intro q h; simp at h; done) | (intro q h; simp at h ⊢; omega))
        exact hF.tr (ih g4 (x2 + 1) _ hf) (fun _ h => h) (fun _ h => h)
  have hF : Fr [b + 1] [] g g := Fr.rf
  unfold f_X4_addSteps at hf
  exact hF.tr (wf_2 FU g 0 _ hf) (fun _ h => h) (fun _ h => h)
set_option maxHeartbeats 1000000 in
theorem fr_X6_join (g : Mm) (x1 : Int32) (r : Int32) (t : Mm) (hf : f_X6_join g x1 = some (r, t)) : Fr [3] [] g t := by
  have hF : Fr [3] [] g g := Fr.rf
  unfold f_X6_join at hf
  obtain ⟨v1, e1, hf⟩ := ob_e1 hf
  by_cases c2 : v1 = 0
  · rw [if_pos c2] at hf
    cases hf; exact hF
  · rw [if_neg c2] at hf
    obtain ⟨v3, e3, hf⟩ := ob_e1 hf
    have hT_v3 : isTown v3 := imageOf_town e3
    obtain ⟨v4, e4, hf⟩ := ob_e1 hf
    by_cases c5 : v4 = 0
    · rw [if_pos c5] at hf
      cases hf; exact hF
    · rw [if_neg c5] at hf
      obtain ⟨v6, e6, hf⟩ := ob_e1 hf
      have hT_v6 : isTown v6 := imageOf_town e6
      obtain ⟨g7, e7, hf⟩ := ob_e1 hf
      have hF := hF.tr (fr_X4_addSteps 2 v6 g _ e7) (by first | decide | (intro q h; simp at h; done) | (intro q h; simp at h ⊢; omega)) (by first | decide | (intro q h; simp at h; done) | (intro q h; simp at h ⊢; omega))
      obtain ⟨v8, e8, hf⟩ := ob_e1 hf
      cases hf; exact hF
set_option maxHeartbeats 1000000 in
theorem fr_X7_say (g : Mm) (x1 : Int32) (r : Int32) (t : Mm) (hf : f_X7_say g x1 = some (r, t)) : Fr [1] [(0, 0)] g t := by
  have hF : Fr [1] [(0, 0)] g g := Fr.rf
  unfold f_X7_say at hf
  obtain ⟨v1, e1, hf⟩ := ob_e1 hf
  by_cases c2 : v1 = 0
  · rw [if_pos c2] at hf
    cases hf; exact hF
  · rw [if_neg c2] at hf
    by_cases c3 : (g 0 0) = 40
    · rw [if_pos c3] at hf
      cases hf; exact hF
    · rw [if_neg c3] at hf
      obtain ⟨g4, e4, hf⟩ := ob_e1 hf
      have hF := hF.st e4 (by simp)
      have hF := hF.up (q := 0) (k := 0) (v := ((g4 0 0) + 1)) (by simp)
      cases hf; exact hF
set_option maxHeartbeats 1000000 in
theorem fr_X7_wipe (g : Mm) (r : Int32) (t : Mm) (hf : f_X7_wipe g = some (r, t)) : Fr [] [(0, 0)] g t := by
  have hF : Fr [] [(0, 0)] g g := Fr.rf
  unfold f_X7_wipe at hf
  have hF := hF.up (q := 0) (k := 0) (v := 0) (by simp)
  cases hf; exact hF
set_option maxHeartbeats 1000000 in
theorem fr_X7_steps (g : Mm) (r : Int32) (t : Mm) (hf : f_X7_steps g = some (r, t)) : Fr [2] [(0, 0)] g t := by
  have wf_63 : ∀ (k12 : Mm → Int32 → Option (Int32 × Mm)) (hfk12 : ∀ (g : Mm) (x1 : Int32) (r : Int32) (t : Mm), k12 g x1 = some (r, t) → Fr [2] [(0, 0)] g t), ∀ (g : Mm) (x1 : Int32) (r : Int32) (t : Mm), f_X7_steps_J63 k12 g x1 = some (r, t) → Fr [2] [(0, 0)] g t := by
    intro k12 hfk12 g x1 r t hf
    have hF : Fr [2] [(0, 0)] g g := Fr.rf
    unfold f_X7_steps_J63 at hf
    exact hF.tr (hfk12 g (x1 + 2) _ _ hf) (fun _ h => h) (fun _ h => h)
  have wf_12 : ∀ (n : Nat), ∀ (g : Mm) (x1 : Int32) (r : Int32) (t : Mm), f_X7_steps_L12 n g x1 = some (r, t) → Fr [2] [(0, 0)] g t := by
    intro n
    induction n with
    | zero =>
      intro g x1 r t hf
      cases hf
    | succ n ih =>
      intro g x1 r t hf
      have hF : Fr [2] [(0, 0)] g g := Fr.rf
      unfold f_X7_steps_L12 at hf
      by_cases c3 : (g 0 0) ≤ x1
      · rw [if_pos c3] at hf
        have hF := hF.up (q := 0) (k := 0) (v := 0) (by simp)
        obtain ⟨v4, e4, hf⟩ := ob_e1 hf
        cases hf; exact hF
      · rw [if_neg c3] at hf
        obtain ⟨v5, e5, hf⟩ := ob_e1 hf
        by_cases c6 : v5 = 62
        · rw [if_pos c6] at hf
          obtain ⟨v7, e7, hf⟩ := ob_e1 hf
          obtain ⟨v8, e8, hf⟩ := ob_e1 hf
          obtain ⟨v9, e9, hf⟩ := ob_e1 hf
          obtain ⟨g10, e10, hf⟩ := ob_e1 hf
          have hF := hF.st e10 (by simp)
          exact hF.tr (wf_63 (f_X7_steps_L12 n) ih g10 x1 _ _ hf) (fun _ h => h) (fun _ h => h)
        · rw [if_neg c6] at hf
          exact hF.tr (wf_63 (f_X7_steps_L12 n) ih g x1 _ _ hf) (fun _ h => h) (fun _ h => h)
  have hF : Fr [2] [(0, 0)] g g := Fr.rf
  unfold f_X7_steps at hf
  obtain ⟨v1, e1, hf⟩ := ob_e1 hf
  by_cases c2 : v1 < 0
  · rw [if_pos c2] at hf
    exact hF.tr (wf_12 FU g 1 _ _ hf) (fun _ h => h) (fun _ h => h)
  · rw [if_neg c2] at hf
    cases hf; exact hF
set_option maxHeartbeats 1000000 in
theorem fr_X7_step (g : Mm) (x1 x2 x3 : Int32) (r : Int32) (t : Mm) (hf : f_X7_step g x1 x2 x3 = some (r, t)) : Fr [2] [] g t := by
  have wf_67 : ∀ (g : Mm) (x4 s0 s1 : Int32) (r : Int32) (t : Mm), f_X7_step_J67 g x4 s0 s1 = some (r, t) → Fr [2] [] g t := by
    intro g x4 s0 s1 r t hf
    have hF : Fr [2] [] g g := Fr.rf
    unfold f_X7_step_J67 at hf
    obtain ⟨g10, e10, hf⟩ := ob_e1 hf
    have hF := hF.st e10 (by simp)
    cases hf; exact hF
  have hF : Fr [2] [] g g := Fr.rf
  unfold f_X7_step at hf
  obtain ⟨v1, e1, hf⟩ := ob_e1 hf
  by_cases c2 : v1 = 0
  · rw [if_pos c2] at hf
    cases hf; exact hF
  · rw [if_neg c2] at hf
    obtain ⟨v3, e3, hf⟩ := ob_e1 hf
    by_cases c4 : v3 = 0
    · rw [if_pos c4] at hf
      cases hf; exact hF
    · rw [if_neg c4] at hf
      by_cases c5 : x1 = x2
      · rw [if_pos c5] at hf
        cases hf; exact hF
      · rw [if_neg c5] at hf
        obtain ⟨v6, e6, hf⟩ := ob_e1 hf
        by_cases c7 : x3 = 0
        · rw [if_pos c7] at hf
          obtain ⟨v8, e8, hf⟩ := ob_e1 hf
          exact hF.tr (wf_67 g ((v6 >>> (x2 &&& 31)) &&& 1) (v8 &&& (((1 : Int32) <<< (x2 &&& 31)) ^^^ (-1))) x1 _ _ hf) (fun _ h => h) (fun _ h => h)
        · rw [if_neg c7] at hf
          obtain ⟨v9, e9, hf⟩ := ob_e1 hf
          exact hF.tr (wf_67 g ((v6 >>> (x2 &&& 31)) &&& 1) (v9 ||| ((1 : Int32) <<< (x2 &&& 31))) x1 _ _ hf) (fun _ h => h) (fun _ h => h)
set_option maxHeartbeats 1000000 in
theorem fr_X7_needs (g : Mm) (x1 x2 : Int32) (r : Int32) (t : Mm) (hf : f_X7_needs g x1 x2 = some (r, t)) : Fr [3] [] g t := by
  have hF : Fr [3] [] g g := Fr.rf
  unfold f_X7_needs at hf
  obtain ⟨v1, e1, hf⟩ := ob_e1 hf
  by_cases c2 : v1 = 0
  · rw [if_pos c2] at hf
    cases hf; exact hF
  · rw [if_neg c2] at hf
    obtain ⟨v3, e3, hf⟩ := ob_e1 hf
    by_cases c4 : v3 = 0
    · rw [if_pos c4] at hf
      cases hf; exact hF
    · rw [if_neg c4] at hf
      obtain ⟨v5, e5, hf⟩ := ob_e1 hf
      obtain ⟨g6, e6, hf⟩ := ob_e1 hf
      have hF := hF.st e6 (by simp)
      cases hf; exact hF
set_option maxHeartbeats 1000000 in
theorem fr_X7_man (g : Mm) (x1 x2 x3 : Int32) (r : Int32) (t : Mm) (hf : f_X7_man g x1 x2 x3 = some (r, t)) : Fr [4, 5] [] g t := by
  have wf_60 : ∀ (g : Mm) (x1 x2 x3 s0 : Int32) (r : Int32) (t : Mm), f_X7_man_J60 g x1 x2 x3 s0 = some (r, t) → Fr [4, 5] [] g t := by
    intro g x1 x2 x3 s0 r t hf
    have hF : Fr [4, 5] [] g g := Fr.rf
    unfold f_X7_man_J60 at hf
    by_cases c11 : x2 = 0
    · rw [if_pos c11] at hf
      obtain ⟨g13, e13, hf⟩ := ob_e1 hf
      have hF := hF.st e13 (by simp)
      cases hf; exact hF
    · rw [if_neg c11] at hf
      obtain ⟨g12, e12, hf⟩ := ob_e1 hf
      have hF := hF.st e12 (by simp)
      cases hf; exact hF
  have wf_32 : ∀ (g : Mm) (x1 x2 x3 s0 s1 s2 : Int32) (r : Int32) (t : Mm), f_X7_man_J32 g x1 x2 x3 s0 s1 s2 = some (r, t) → Fr [4, 5] [] g t := by
    intro g x1 x2 x3 s0 s1 s2 r t hf
    have hF : Fr [4, 5] [] g g := Fr.rf
    unfold f_X7_man_J32 at hf
    obtain ⟨v6, e6, hf⟩ := ob_e1 hf
    by_cases c7 : v6 = 0
    · rw [if_pos c7] at hf
      cases hf; exact hF
    · rw [if_neg c7] at hf
      by_cases c8 : x2 = 0
      · rw [if_pos c8] at hf
        obtain ⟨v10, e10, hf⟩ := ob_e1 hf
        exact hF.tr (wf_60 g x1 x2 x3 v10 _ _ hf) (fun _ h => h) (fun _ h => h)
      · rw [if_neg c8] at hf
        obtain ⟨v9, e9, hf⟩ := ob_e1 hf
        exact hF.tr (wf_60 g x1 x2 x3 v9 _ _ hf) (fun _ h => h) (fun _ h => h)
  have hF : Fr [4, 5] [] g g := Fr.rf
  unfold f_X7_man at hf
  obtain ⟨v1, e1, hf⟩ := ob_e1 hf
  by_cases c2 : v1 = 0
  · rw [if_pos c2] at hf
    cases hf; exact hF
  · rw [if_neg c2] at hf
    obtain ⟨v3, e3, hf⟩ := ob_e1 hf
    by_cases c4 : v3 = 0
    · rw [if_pos c4] at hf
      cases hf; exact hF
    · rw [if_neg c4] at hf
      by_cases c5 : x2 = 0
      · rw [if_pos c5] at hf
        exact hF.tr (wf_32 g x1 x2 x3 63 0 x3 _ _ hf) (fun _ h => h) (fun _ h => h)
      · rw [if_neg c5] at hf
        exact hF.tr (wf_32 g x1 x2 x3 1023 0 x3 _ _ hf) (fun _ h => h) (fun _ h => h)
set_option maxHeartbeats 1000000 in
theorem fr_X7_bestOf (g : Mm) (x1 x2 x3 : Int32) (r : Int32) (t : Mm) (hf : f_X7_bestOf g x1 x2 x3 = some (r, t)) : Fr [] [(0, 8)] g t := by
  have wf_78 : ∀ (k13 : Mm → Int32 → Int32 → Int32 → Int32 → Int32 → Option (Int32 × Mm)) (hfk13 : ∀ (g : Mm) (x1 x2 x3 x4 x5 : Int32) (r : Int32) (t : Mm), k13 g x1 x2 x3 x4 x5 = some (r, t) → Fr [] [(0, 8)] g t), ∀ (g : Mm) (x1 x2 x3 x4 x5 : Int32) (r : Int32) (t : Mm), f_X7_bestOf_J78 k13 g x1 x2 x3 x4 x5 = some (r, t) → Fr [] [(0, 8)] g t := by
    intro k13 hfk13 g x1 x2 x3 x4 x5 r t hf
    have hF : Fr [] [(0, 8)] g g := Fr.rf
    unfold f_X7_bestOf_J78 at hf
    exact hF.tr (hfk13 g x1 x2 x3 x4 (x5 + 1) _ _ hf) (fun _ h => h) (fun _ h => h)
  have wf_68 : ∀ (k13 : Mm → Int32 → Int32 → Int32 → Int32 → Int32 → Option (Int32 × Mm)) (hfk13 : ∀ (g : Mm) (x1 x2 x3 x4 x5 : Int32) (r : Int32) (t : Mm), k13 g x1 x2 x3 x4 x5 = some (r, t) → Fr [] [(0, 8)] g t), ∀ (g : Mm) (x1 x2 x3 x5 x6 : Int32) (r : Int32) (t : Mm), f_X7_bestOf_J68 k13 g x1 x2 x3 x5 x6 = some (r, t) → Fr [] [(0, 8)] g t := by
    intro k13 hfk13 g x1 x2 x3 x5 x6 r t hf
    have hF : Fr [] [(0, 8)] g g := Fr.rf
    unfold f_X7_bestOf_J68 at hf
    have hF := hF.up (q := 0) (k := 8) (v := x5) (by simp)
    exact hF.tr (wf_78 k13 hfk13 (ob_up g 0 8 x5) x1 x2 x3 x6 x5 _ _ hf) (fun _ h => h) (fun _ h => h)
  have wf_13 : ∀ (n : Nat), ∀ (g : Mm) (x1 x2 x3 x4 x5 : Int32) (r : Int32) (t : Mm), f_X7_bestOf_L13 n g x1 x2 x3 x4 x5 = some (r, t) → Fr [] [(0, 8)] g t := by
    intro n
    induction n with
    | zero =>
      intro g x1 x2 x3 x4 x5 r t hf
      cases hf
    | succ n ih =>
      intro g x1 x2 x3 x4 x5 r t hf
      have hF : Fr [] [(0, 8)] g g := Fr.rf
      unfold f_X7_bestOf_L13 at hf
      by_cases c1 : (10 : Int32) ≤ x5
      · rw [if_pos c1] at hf
        by_cases c2 : (0 : Int32) ≤ x4
        · rw [if_pos c2] at hf
          cases hf; exact hF
        · rw [if_neg c2] at hf
          cases hf; exact hF
      · rw [if_neg c1] at hf
        obtain ⟨v3, e3, hf⟩ := ob_e1 hf
        by_cases c4 : v3 = 0
        · rw [if_pos c4] at hf
          exact hF.tr (wf_78 (f_X7_bestOf_L13 n) ih g x1 x2 x3 x4 x5 _ _ hf) (fun _ h => h) (fun _ h => h)
        · rw [if_neg c4] at hf
          obtain ⟨v5, e5, hf⟩ := ob_e1 hf
          obtain ⟨v6, e6, hf⟩ := ob_e1 hf
          by_cases c7 : x4 < 0
          · rw [if_pos c7] at hf
            exact hF.tr (wf_68 (f_X7_bestOf_L13 n) ih g x1 x2 x3 x5 (v6 + 2) _ _ hf) (fun _ h => h) (fun _ h => h)
          · rw [if_neg c7] at hf
            obtain ⟨v8, e8, hf⟩ := ob_e1 hf
            by_cases c9 : v8 = 0
            · rw [if_pos c9] at hf
              exact hF.tr (wf_78 (f_X7_bestOf_L13 n) ih g x1 x2 x3 x4 x5 _ _ hf) (fun _ h => h) (fun _ h => h)
            · rw [if_neg c9] at hf
              exact hF.tr (wf_68 (f_X7_bestOf_L13 n) ih g x1 x2 x3 x5 (v6 + 2) _ _ hf) (fun _ h => h) (fun _ h => h)
  have hF : Fr [] [(0, 8)] g g := Fr.rf
  unfold f_X7_bestOf at hf
  have hF := hF.up (q := 0) (k := 8) (v := (-6)) (by simp)
  exact hF.tr (wf_13 FU (ob_up g 0 8 (-6)) x1 x2 x3 (-6) 0 _ _ hf) (fun _ h => h) (fun _ h => h)
set_option maxHeartbeats 1000000 in
theorem fr_X7_layMatch (g : Mm) (x1 x2 : Int32) (t : Mm) (hf : f_X7_layMatch g x1 x2 = some t) : Fr [6, 7] [(0, 8)] g t := by
  have wf_57 : ∀ (k117 : Mm → Int32 → Int32 → Option (Mm)) (hfk117 : ∀ (g : Mm) (x3 x4 : Int32) (t : Mm), k117 g x3 x4 = some t → Fr [6, 7] [(0, 8)] g t) (n : Nat), ∀ (g : Mm) (x3 x4 x5 : Int32) (t : Mm), f_X7_layMatch_L57 k117 n g x3 x4 x5 = some t → Fr [6, 7] [(0, 8)] g t := by
    intro k117 hfk117 n
    induction n with
    | zero =>
      intro g x3 x4 x5 t hf
      cases hf
    | succ n ih =>
      intro g x3 x4 x5 t hf
      have hF : Fr [6, 7] [(0, 8)] g g := Fr.rf
      unfold f_X7_layMatch_L57 at hf
      by_cases c9 : (2 : Int32) ≤ x5
      · rw [if_pos c9] at hf
        exact hF.tr (hfk117 g x3 x4 _ hf) (fun _ h => h) (fun _ h => h)
      · rw [if_neg c9] at hf
        obtain ⟨v10, e10, hf⟩ := ob_e1 hf
        by_cases c11 : v10 = 0
        · rw [if_pos c11] at hf
          exact hF.tr (hfk117 g x3 x4 _ hf) (fun _ h => h) (fun _ h => h)
        · rw [if_neg c11] at hf
          obtain ⟨v12, e12, hf⟩ := ob_e1 hf
          obtain ⟨v13, e13, hf⟩ := ob_e1 hf
          obtain ⟨v14, e14, hf⟩ := ob_e1 hf
          obtain ⟨v15, g15, e15, hf⟩ := ob_e2 hf
          have hF := hF.tr (fr_X7_bestOf g x5 ((v13 &&& v14) &&& (x3 ^^^ (-1))) x3 _ _ e15) (by first | decide | (intro q h; simp at h; done) | (intro q h; simp at h ⊢; omega)) (by first | decide | (intro q h; simp at h; done) | (intro q h; simp at h ⊢; omega))
          obtain ⟨g16, e16, hf⟩ := ob_e1 hf
          have hF := hF.st e16 (by simp)
          exact hF.tr (ih g16 x3 x4 (x5 + 1) _ hf) (fun _ h => h) (fun _ h => h)
  have wf_117 : ∀ (k47 : Mm → Int32 → Int32 → Option (Mm)) (hfk47 : ∀ (g : Mm) (x3 x4 : Int32) (t : Mm), k47 g x3 x4 = some t → Fr [6, 7] [(0, 8)] g t), ∀ (g : Mm) (x3 x4 : Int32) (t : Mm), f_X7_layMatch_J117 k47 g x3 x4 = some t → Fr [6, 7] [(0, 8)] g t := by
    intro k47 hfk47 g x3 x4 t hf
    have hF : Fr [6, 7] [(0, 8)] g g := Fr.rf
    unfold f_X7_layMatch_J117 at hf
    exact hF.tr (hfk47 g x3 (x4 + 1) _ hf) (fun _ h => h) (fun _ h => h)
  have wf_47 : ∀ (k40 : Mm → Int32 → Option (Mm)) (hfk40 : ∀ (g : Mm) (x3 : Int32) (t : Mm), k40 g x3 = some t → Fr [6, 7] [(0, 8)] g t) (n : Nat), ∀ (g : Mm) (x3 x4 : Int32) (t : Mm), f_X7_layMatch_L47 k40 n g x3 x4 = some t → Fr [6, 7] [(0, 8)] g t := by
    intro k40 hfk40 n
    induction n with
    | zero =>
      intro g x3 x4 t hf
      cases hf
    | succ n ih =>
      intro g x3 x4 t hf
      have hF : Fr [6, 7] [(0, 8)] g g := Fr.rf
      unfold f_X7_layMatch_L47 at hf
      by_cases c8 : (10 : Int32) ≤ x4
      · rw [if_pos c8] at hf
        exact hF.tr (hfk40 g (x3 + (-1)) _ hf) (fun _ h => h) (fun _ h => h)
      · rw [if_neg c8] at hf
        exact hF.tr (wf_57 (f_X7_layMatch_J117 (f_X7_layMatch_L47 k40 n)) (wf_117 (f_X7_layMatch_L47 k40 n) ih) FU g x3 x4 0 _ hf) (fun _ h => h) (fun _ h => h)
  have wf_40 : ∀ (n : Nat), ∀ (g : Mm) (x3 : Int32) (t : Mm), f_X7_layMatch_L40 n g x3 = some t → Fr [6, 7] [(0, 8)] g t := by
    intro n
    induction n with
    | zero =>
      intro g x3 t hf
      cases hf
    | succ n ih =>
      intro g x3 t hf
      have hF : Fr [6, 7] [(0, 8)] g g := Fr.rf
      unfold f_X7_layMatch_L40 at hf
      by_cases c7 : x3 ≤ 0
      · rw [if_pos c7] at hf
        cases hf; exact hF
      · rw [if_neg c7] at hf
        exact hF.tr (wf_47 (f_X7_layMatch_L40 n) ih FU g x3 0 _ hf) (fun _ h => h) (fun _ h => h)
  have hF : Fr [6, 7] [(0, 8)] g g := Fr.rf
  unfold f_X7_layMatch at hf
  obtain ⟨v1, e1, hf⟩ := ob_e1 hf
  obtain ⟨v2, e2, hf⟩ := ob_e1 hf
  obtain ⟨g3, e3, hf⟩ := ob_e1 hf
  have hF := hF.st e3 (by simp)
  obtain ⟨v4, e4, hf⟩ := ob_e1 hf
  obtain ⟨v5, e5, hf⟩ := ob_e1 hf
  obtain ⟨g6, e6, hf⟩ := ob_e1 hf
  have hF := hF.st e6 (by simp)
  exact hF.tr (wf_40 FU g6 1023 _ hf) (fun _ h => h) (fun _ h => h)
set_option maxHeartbeats 1000000 in
theorem fr_X7_match (g : Mm) (x1 x2 x3 : Int32) (r : Int32) (t : Mm) (hf : f_X7_match g x1 x2 x3 = some (r, t)) : Fr [6, 7] [(0, 8)] g t := by
  have hF : Fr [6, 7] [(0, 8)] g g := Fr.rf
  unfold f_X7_match at hf
  obtain ⟨v1, e1, hf⟩ := ob_e1 hf
  by_cases c2 : v1 = 0
  · rw [if_pos c2] at hf
    cases hf; exact hF
  · rw [if_neg c2] at hf
    obtain ⟨v3, e3, hf⟩ := ob_e1 hf
    by_cases c4 : v3 = 0
    · rw [if_pos c4] at hf
      cases hf; exact hF
    · rw [if_neg c4] at hf
      obtain ⟨g5, e5, hf⟩ := ob_e1 hf
      have hF := hF.tr (fr_X7_layMatch g x1 x2 _ e5) (by first | decide | (intro q h; simp at h; done) | (intro q h; simp at h ⊢; omega)) (by first | decide | (intro q h; simp at h; done) | (intro q h; simp at h ⊢; omega))
      obtain ⟨v6, e6, hf⟩ := ob_e1 hf
      obtain ⟨v7, g7, e7, hf⟩ := ob_e2 hf
      have hF := hF.tr (fr_X7_bestOf g5 0 v6 0 _ _ e7) (by first | decide | (intro q h; simp at h; done) | (intro q h; simp at h ⊢; omega)) (by first | decide | (intro q h; simp at h; done) | (intro q h; simp at h ⊢; omega))
      obtain ⟨v8, e8, hf⟩ := ob_e1 hf
      cases hf; exact hF
set_option maxHeartbeats 1000000 in
theorem fr_X7_middle (g : Mm) (x1 x2 x3 x4 x5 : Int32) (r : Int32) (t : Mm) (hf : f_X7_middle g x1 x2 x3 x4 x5 = some (r, t)) : Fr [6, 7] [(0, 8)] g t := by
  have hF : Fr [6, 7] [(0, 8)] g g := Fr.rf
  unfold f_X7_middle at hf
  obtain ⟨v1, e1, hf⟩ := ob_e1 hf
  by_cases c2 : v1 = 0
  · rw [if_pos c2] at hf
    cases hf; exact hF
  · rw [if_neg c2] at hf
    obtain ⟨v3, e3, hf⟩ := ob_e1 hf
    by_cases c4 : v3 = 0
    · rw [if_pos c4] at hf
      cases hf; exact hF
    · rw [if_neg c4] at hf
      obtain ⟨v5, e5, hf⟩ := ob_e1 hf
      by_cases c6 : v5 = 0
      · rw [if_pos c6] at hf
        cases hf; exact hF
      · rw [if_neg c6] at hf
        obtain ⟨v7, e7, hf⟩ := ob_e1 hf
        by_cases c8 : v7 = 0
        · rw [if_pos c8] at hf
          cases hf; exact hF
        · rw [if_neg c8] at hf
          obtain ⟨v9, e9, hf⟩ := ob_e1 hf
          by_cases c10 : v9 = 0
          · rw [if_pos c10] at hf
            cases hf; exact hF
          · rw [if_neg c10] at hf
            obtain ⟨g11, e11, hf⟩ := ob_e1 hf
            have hF := hF.tr (fr_X7_layMatch g x1 x2 _ e11) (by first | decide | (intro q h; simp at h; done) | (intro q h; simp at h ⊢; omega)) (by first | decide | (intro q h; simp at h; done) | (intro q h; simp at h ⊢; omega))
            obtain ⟨v12, e12, hf⟩ := ob_e1 hf
            obtain ⟨v13, e13, hf⟩ := ob_e1 hf
            obtain ⟨v14, g14, e14, hf⟩ := ob_e2 hf
            have hF := hF.tr (fr_X7_bestOf g11 0 ((v12 &&& v13) &&& (x4 ^^^ (-1))) x4 _ _ e14) (by first | decide | (intro q h; simp at h; done) | (intro q h; simp at h ⊢; omega)) (by first | decide | (intro q h; simp at h; done) | (intro q h; simp at h ⊢; omega))
            obtain ⟨v15, e15, hf⟩ := ob_e1 hf
            cases hf; exact hF
set_option maxHeartbeats 1000000 in
theorem fr_X7_last (g : Mm) (x1 x2 x3 : Int32) (r : Int32) (t : Mm) (hf : f_X7_last g x1 x2 x3 = some (r, t)) : Fr [6, 7] [] g t := by
  have wf_185 : ∀ (k103 : Mm → Int32 → Int32 → Int32 → Int32 → Int32 → Int32 → Option (Int32 × Mm)) (hfk103 : ∀ (g : Mm) (x3 x4 x5 x6 x7 x8 : Int32) (r : Int32) (t : Mm), k103 g x3 x4 x5 x6 x7 x8 = some (r, t) → Fr [6, 7] [] g t), ∀ (g : Mm) (x3 x4 x5 x6 x8 s0 : Int32) (r : Int32) (t : Mm), f_X7_last_J185 k103 g x3 x4 x5 x6 x8 s0 = some (r, t) → Fr [6, 7] [] g t := by
    intro k103 hfk103 g x3 x4 x5 x6 x8 s0 r t hf
    have hF : Fr [6, 7] [] g g := Fr.rf
    unfold f_X7_last_J185 at hf
    exact hF.tr (hfk103 g x3 x4 x5 x6 s0 (x8 + 1) _ _ hf) (fun _ h => h) (fun _ h => h)
  have wf_169 : ∀ (k103 : Mm → Int32 → Int32 → Int32 → Int32 → Int32 → Int32 → Option (Int32 × Mm)) (hfk103 : ∀ (g : Mm) (x3 x4 x5 x6 x7 x8 : Int32) (r : Int32) (t : Mm), k103 g x3 x4 x5 x6 x7 x8 = some (r, t) → Fr [6, 7] [] g t), ∀ (g : Mm) (x3 x4 x5 x6 x7 x8 s0 : Int32) (r : Int32) (t : Mm), f_X7_last_J169 k103 g x3 x4 x5 x6 x7 x8 s0 = some (r, t) → Fr [6, 7] [] g t := by
    intro k103 hfk103 g x3 x4 x5 x6 x7 x8 s0 r t hf
    have hF : Fr [6, 7] [] g g := Fr.rf
    unfold f_X7_last_J169 at hf
    by_cases c34 : s0 ≤ x7
    · rw [if_pos c34] at hf
      exact hF.tr (wf_185 k103 hfk103 g x3 x4 x5 x6 x8 x7 _ _ hf) (fun _ h => h) (fun _ h => h)
    · rw [if_neg c34] at hf
      exact hF.tr (wf_185 k103 hfk103 g x3 x4 x5 x6 x8 s0 _ _ hf) (fun _ h => h) (fun _ h => h)
  have wf_103 : ∀ (k81 : Mm → Int32 → Int32 → Int32 → Int32 → Option (Int32 × Mm)) (hfk81 : ∀ (g : Mm) (x3 x4 x5 x6 : Int32) (r : Int32) (t : Mm), k81 g x3 x4 x5 x6 = some (r, t) → Fr [6, 7] [] g t) (n : Nat), ∀ (g : Mm) (x3 x4 x5 x6 x7 x8 : Int32) (r : Int32) (t : Mm), f_X7_last_L103 k81 n g x3 x4 x5 x6 x7 x8 = some (r, t) → Fr [6, 7] [] g t := by
    intro k81 hfk81 n
    induction n with
    | zero =>
      intro g x3 x4 x5 x6 x7 x8 r t hf
      cases hf
    | succ n ih =>
      intro g x3 x4 x5 x6 x7 x8 r t hf
      have hF : Fr [6, 7] [] g g := Fr.rf
      unfold f_X7_last_L103 at hf
      by_cases c25 : (10 : Int32) ≤ x8
      · rw [if_pos c25] at hf
        obtain ⟨v26, e26, hf⟩ := ob_e1 hf
        obtain ⟨g27, e27, hf⟩ := ob_e1 hf
        have hF := hF.st e27 (by simp)
        exact hF.tr (hfk81 g27 x3 x4 x5 (x6 + 1) _ _ hf) (fun _ h => h) (fun _ h => h)
      · rw [if_neg c25] at hf
        obtain ⟨v28, e28, hf⟩ := ob_e1 hf
        obtain ⟨v29, e29, hf⟩ := ob_e1 hf
        obtain ⟨v30, e30, hf⟩ := ob_e1 hf
        by_cases c31 : v30 = 0
        · rw [if_pos c31] at hf
          exact hF.tr (wf_169 (f_X7_last_L103 k81 n) ih g x3 x4 x5 x6 x7 x8 0 _ _ hf) (fun _ h => h) (fun _ h => h)
        · rw [if_neg c31] at hf
          obtain ⟨v32, e32, hf⟩ := ob_e1 hf
          obtain ⟨v33, e33, hf⟩ := ob_e1 hf
          exact hF.tr (wf_169 (f_X7_last_L103 k81 n) ih g x3 x4 x5 x6 x7 x8 (v33 + 1) _ _ hf) (fun _ h => h) (fun _ h => h)
  have wf_81 : ∀ (k215 : Mm → Int32 → Int32 → Int32 → Option (Int32 × Mm)) (hfk215 : ∀ (g : Mm) (x3 x4 x5 : Int32) (r : Int32) (t : Mm), k215 g x3 x4 x5 = some (r, t) → Fr [6, 7] [] g t) (n : Nat), ∀ (g : Mm) (x3 x4 x5 x6 : Int32) (r : Int32) (t : Mm), f_X7_last_L81 k215 n g x3 x4 x5 x6 = some (r, t) → Fr [6, 7] [] g t := by
    intro k215 hfk215 n
    induction n with
    | zero =>
      intro g x3 x4 x5 x6 r t hf
      cases hf
    | succ n ih =>
      intro g x3 x4 x5 x6 r t hf
      have hF : Fr [6, 7] [] g g := Fr.rf
      unfold f_X7_last_L81 at hf
      by_cases c21 : (2 : Int32) ≤ x6
      · rw [if_pos c21] at hf
        exact hF.tr (hfk215 g x3 x4 x5 _ _ hf) (fun _ h => h) (fun _ h => h)
      · rw [if_neg c21] at hf
        obtain ⟨v22, e22, hf⟩ := ob_e1 hf
        by_cases c23 : v22 = 0
        · rw [if_pos c23] at hf
          exact hF.tr (hfk215 g x3 x4 x5 _ _ hf) (fun _ h => h) (fun _ h => h)
        · rw [if_neg c23] at hf
          exact hF.tr (wf_103 (f_X7_last_L81 k215 n) ih FU g x3 x4 x5 x6 0 0 _ _ hf) (fun _ h => h) (fun _ h => h)
  have wf_215 : ∀ (k71 : Mm → Int32 → Int32 → Int32 → Option (Int32 × Mm)) (hfk71 : ∀ (g : Mm) (x3 x4 x5 : Int32) (r : Int32) (t : Mm), k71 g x3 x4 x5 = some (r, t) → Fr [6, 7] [] g t), ∀ (g : Mm) (x3 x4 x5 : Int32) (r : Int32) (t : Mm), f_X7_last_J215 k71 g x3 x4 x5 = some (r, t) → Fr [6, 7] [] g t := by
    intro k71 hfk71 g x3 x4 x5 r t hf
    have hF : Fr [6, 7] [] g g := Fr.rf
    unfold f_X7_last_J215 at hf
    exact hF.tr (hfk71 g x3 x4 (x5 + 1) _ _ hf) (fun _ h => h) (fun _ h => h)
  have wf_71 : ∀ (k63 : Mm → Int32 → Int32 → Option (Int32 × Mm)) (hfk63 : ∀ (g : Mm) (x3 x4 : Int32) (r : Int32) (t : Mm), k63 g x3 x4 = some (r, t) → Fr [6, 7] [] g t) (n : Nat), ∀ (g : Mm) (x3 x4 x5 : Int32) (r : Int32) (t : Mm), f_X7_last_L71 k63 n g x3 x4 x5 = some (r, t) → Fr [6, 7] [] g t := by
    intro k63 hfk63 n
    induction n with
    | zero =>
      intro g x3 x4 x5 r t hf
      cases hf
    | succ n ih =>
      intro g x3 x4 x5 r t hf
      have hF : Fr [6, 7] [] g g := Fr.rf
      unfold f_X7_last_L71 at hf
      by_cases c19 : (10 : Int32) ≤ x5
      · rw [if_pos c19] at hf
        exact hF.tr (hfk63 g x3 (x4 + (-1)) _ _ hf) (fun _ h => h) (fun _ h => h)
      · rw [if_neg c19] at hf
        exact hF.tr (wf_81 (f_X7_last_J215 (f_X7_last_L71 k63 n)) (wf_215 (f_X7_last_L71 k63 n) ih) FU g x3 x4 x5 0 _ _ hf) (fun _ h => h) (fun _ h => h)
  have wf_63 : ∀ (k237 : Mm → Int32 → Int32 → Int32 → Int32 → Option (Int32 × Mm)) (hfk237 : ∀ (g : Mm) (x3 x4 x5 x6 : Int32) (r : Int32) (t : Mm), k237 g x3 x4 x5 x6 = some (r, t) → Fr [6, 7] [] g t) (n : Nat), ∀ (g : Mm) (x3 x4 : Int32) (r : Int32) (t : Mm), f_X7_last_L63 k237 n g x3 x4 = some (r, t) → Fr [6, 7] [] g t := by
    intro k237 hfk237 n
    induction n with
    | zero =>
      intro g x3 x4 r t hf
      cases hf
    | succ n ih =>
      intro g x3 x4 r t hf
      have hF : Fr [6, 7] [] g g := Fr.rf
      unfold f_X7_last_L63 at hf
      by_cases c11 : x4 ≤ 0
      · rw [if_pos c11] at hf
        exact hF.tr (hfk237 g x3 0 (-6) 0 _ _ hf) (fun _ h => h) (fun _ h => h)
      · rw [if_neg c11] at hf
        exact hF.tr (wf_71 (f_X7_last_L63 k237 n) ih FU g x3 x4 0 _ _ hf) (fun _ h => h) (fun _ h => h)
  have wf_311 : ∀ (k237 : Mm → Int32 → Int32 → Int32 → Int32 → Option (Int32 × Mm)) (hfk237 : ∀ (g : Mm) (x3 x4 x5 x6 : Int32) (r : Int32) (t : Mm), k237 g x3 x4 x5 x6 = some (r, t) → Fr [6, 7] [] g t), ∀ (g : Mm) (x3 x5 x6 s0 : Int32) (r : Int32) (t : Mm), f_X7_last_J311 k237 g x3 x5 x6 s0 = some (r, t) → Fr [6, 7] [] g t := by
    intro k237 hfk237 g x3 x5 x6 s0 r t hf
    have hF : Fr [6, 7] [] g g := Fr.rf
    unfold f_X7_last_J311 at hf
    exact hF.tr (hfk237 g x3 s0 x5 (x6 + 1) _ _ hf) (fun _ h => h) (fun _ h => h)
  have wf_295 : ∀ (k237 : Mm → Int32 → Int32 → Int32 → Int32 → Option (Int32 × Mm)) (hfk237 : ∀ (g : Mm) (x3 x4 x5 x6 : Int32) (r : Int32) (t : Mm), k237 g x3 x4 x5 x6 = some (r, t) → Fr [6, 7] [] g t), ∀ (g : Mm) (x3 x4 x6 x7 s0 : Int32) (r : Int32) (t : Mm), f_X7_last_J295 k237 g x3 x4 x6 x7 s0 = some (r, t) → Fr [6, 7] [] g t := by
    intro k237 hfk237 g x3 x4 x6 x7 s0 r t hf
    have hF : Fr [6, 7] [] g g := Fr.rf
    unfold f_X7_last_J295 at hf
    by_cases c24 : x7 ≤ x4
    · rw [if_pos c24] at hf
      exact hF.tr (wf_311 k237 hfk237 g x3 s0 x6 x4 _ _ hf) (fun _ h => h) (fun _ h => h)
    · rw [if_neg c24] at hf
      exact hF.tr (wf_311 k237 hfk237 g x3 s0 x6 x7 _ _ hf) (fun _ h => h) (fun _ h => h)
  have wf_279 : ∀ (k237 : Mm → Int32 → Int32 → Int32 → Int32 → Option (Int32 × Mm)) (hfk237 : ∀ (g : Mm) (x3 x4 x5 x6 : Int32) (r : Int32) (t : Mm), k237 g x3 x4 x5 x6 = some (r, t) → Fr [6, 7] [] g t), ∀ (g : Mm) (x3 x4 x5 x6 s0 : Int32) (r : Int32) (t : Mm), f_X7_last_J279 k237 g x3 x4 x5 x6 s0 = some (r, t) → Fr [6, 7] [] g t := by
    intro k237 hfk237 g x3 x4 x5 x6 s0 r t hf
    have hF : Fr [6, 7] [] g g := Fr.rf
    unfold f_X7_last_J279 at hf
    by_cases c20 : s0 ≤ x4
    · rw [if_pos c20] at hf
      exact hF.tr (wf_295 k237 hfk237 g x3 x4 x6 s0 x5 _ _ hf) (fun _ h => h) (fun _ h => h)
    · rw [if_neg c20] at hf
      exact hF.tr (wf_295 k237 hfk237 g x3 x4 x6 s0 x6 _ _ hf) (fun _ h => h) (fun _ h => h)
  have wf_237 : ∀ (n : Nat), ∀ (g : Mm) (x3 x4 x5 x6 : Int32) (r : Int32) (t : Mm), f_X7_last_L237 n g x3 x4 x5 x6 = some (r, t) → Fr [6, 7] [] g t := by
    intro n
    induction n with
    | zero =>
      intro g x3 x4 x5 x6 r t hf
      cases hf
    | succ n ih =>
      intro g x3 x4 x5 x6 r t hf
      have hF : Fr [6, 7] [] g g := Fr.rf
      unfold f_X7_last_L237 at hf
      by_cases c12 : (10 : Int32) ≤ x6
      · rw [if_pos c12] at hf
        by_cases c13 : x3 = 0
        · rw [if_pos c13] at hf
          cases hf; exact hF
        · rw [if_neg c13] at hf
          cases hf; exact hF
      · rw [if_neg c12] at hf
        obtain ⟨v14, e14, hf⟩ := ob_e1 hf
        obtain ⟨v15, e15, hf⟩ := ob_e1 hf
        by_cases c16 : v15 = 0
        · rw [if_pos c16] at hf
          exact hF.tr (wf_279 (f_X7_last_L237 n) ih g x3 x4 x5 x6 0 _ _ hf) (fun _ h => h) (fun _ h => h)
        · rw [if_neg c16] at hf
          obtain ⟨v17, e17, hf⟩ := ob_e1 hf
          obtain ⟨v18, e18, hf⟩ := ob_e1 hf
          exact hF.tr (wf_279 (f_X7_last_L237 n) ih g x3 x4 x5 x6 (v18 + 1) _ _ hf) (fun _ h => h) (fun _ h => h)
  have hF : Fr [6, 7] [] g g := Fr.rf
  unfold f_X7_last at hf
  obtain ⟨v1, e1, hf⟩ := ob_e1 hf
  by_cases c2 : v1 = 0
  · rw [if_pos c2] at hf
    cases hf; exact hF
  · rw [if_neg c2] at hf
    obtain ⟨v3, e3, hf⟩ := ob_e1 hf
    by_cases c4 : v3 = 0
    · rw [if_pos c4] at hf
      cases hf; exact hF
    · rw [if_neg c4] at hf
      obtain ⟨v5, e5, hf⟩ := ob_e1 hf
      obtain ⟨v6, e6, hf⟩ := ob_e1 hf
      obtain ⟨g7, e7, hf⟩ := ob_e1 hf
      have hF := hF.st e7 (by simp)
      obtain ⟨v8, e8, hf⟩ := ob_e1 hf
      obtain ⟨v9, e9, hf⟩ := ob_e1 hf
      obtain ⟨g10, e10, hf⟩ := ob_e1 hf
      have hF := hF.st e10 (by simp)
      exact hF.tr (wf_63 (f_X7_last_L237 FU) (wf_237 FU) FU g10 x3 1023 _ _ hf) (fun _ h => h) (fun _ h => h)
set_option maxHeartbeats 1000000 in
theorem fr_X7_payer (g : Mm) (x1 x2 : Int32) (r : Int32) (t : Mm) (hf : f_X7_payer g x1 x2 = some (r, t)) : Fr [6, 7] [(0, 8)] g t := by
  have hF : Fr [6, 7] [(0, 8)] g g := Fr.rf
  unfold f_X7_payer at hf
  obtain ⟨g1, e1, hf⟩ := ob_e1 hf
  have hF := hF.tr (fr_X7_layMatch g x1 x2 _ e1) (by first | decide | (intro q h; simp at h; done) | (intro q h; simp at h ⊢; omega)) (by first | decide | (intro q h; simp at h; done) | (intro q h; simp at h ⊢; omega))
  obtain ⟨v2, e2, hf⟩ := ob_e1 hf
  obtain ⟨v3, g3, e3, hf⟩ := ob_e2 hf
  have hF := hF.tr (fr_X7_bestOf g1 0 v2 0 _ _ e3) (by first | decide | (intro q h; simp at h; done) | (intro q h; simp at h ⊢; omega)) (by first | decide | (intro q h; simp at h; done) | (intro q h; simp at h ⊢; omega))
  by_cases c4 : (v3 - v3 / 2 * 2) = 0
  · rw [if_pos c4] at hf
    cases hf; exact hF
  · rw [if_neg c4] at hf
    cases hf; exact hF
set_option maxHeartbeats 1000000 in
theorem fr_X7_sent (g : Mm) (x1 x2 : Int32) (r : Int32) (t : Mm) (hf : f_X7_sent g x1 x2 = some (r, t)) : Fr [6, 7] [(0, 8)] g t := by
  have wf_67 : ∀ (k14 : Mm → Int32 → Int32 → Int32 → Int32 → Option (Int32 × Mm)) (hfk14 : ∀ (g : Mm) (x1 x2 x3 x4 : Int32) (r : Int32) (t : Mm), k14 g x1 x2 x3 x4 = some (r, t) → Fr [6, 7] [(0, 8)] g t), ∀ (g : Mm) (x1 x2 x3 x4 : Int32) (r : Int32) (t : Mm), f_X7_sent_J67 k14 g x1 x2 x3 x4 = some (r, t) → Fr [6, 7] [(0, 8)] g t := by
    intro k14 hfk14 g x1 x2 x3 x4 r t hf
    have hF : Fr [6, 7] [(0, 8)] g g := Fr.rf
    unfold f_X7_sent_J67 at hf
    exact hF.tr (hfk14 g x1 x2 x3 (x4 + 1) _ _ hf) (fun _ h => h) (fun _ h => h)
  have wf_65 : ∀ (k14 : Mm → Int32 → Int32 → Int32 → Int32 → Option (Int32 × Mm)) (hfk14 : ∀ (g : Mm) (x1 x2 x3 x4 : Int32) (r : Int32) (t : Mm), k14 g x1 x2 x3 x4 = some (r, t) → Fr [6, 7] [(0, 8)] g t), ∀ (g : Mm) (x1 x2 x4 s0 s1 : Int32) (r : Int32) (t : Mm), f_X7_sent_J65 k14 g x1 x2 x4 s0 s1 = some (r, t) → Fr [6, 7] [(0, 8)] g t := by
    intro k14 hfk14 g x1 x2 x4 s0 s1 r t hf
    have hF : Fr [6, 7] [(0, 8)] g g := Fr.rf
    unfold f_X7_sent_J65 at hf
    exact hF.tr (wf_67 k14 hfk14 g x1 x2 (s1 ||| s0) x4 _ _ hf) (fun _ h => h) (fun _ h => h)
  have wf_47 : ∀ (k14 : Mm → Int32 → Int32 → Int32 → Int32 → Option (Int32 × Mm)) (hfk14 : ∀ (g : Mm) (x1 x2 x3 x4 : Int32) (r : Int32) (t : Mm), k14 g x1 x2 x3 x4 = some (r, t) → Fr [6, 7] [(0, 8)] g t), ∀ (g : Mm) (x1 x2 x3 x4 s0 : Int32) (r : Int32) (t : Mm), f_X7_sent_J47 k14 g x1 x2 x3 x4 s0 = some (r, t) → Fr [6, 7] [(0, 8)] g t := by
    intro k14 hfk14 g x1 x2 x3 x4 s0 r t hf
    have hF : Fr [6, 7] [(0, 8)] g g := Fr.rf
    unfold f_X7_sent_J47 at hf
    by_cases c8 : s0 = x4
    · rw [if_pos c8] at hf
      exact hF.tr (wf_65 k14 hfk14 g x1 x2 x4 0 x3 _ _ hf) (fun _ h => h) (fun _ h => h)
    · rw [if_neg c8] at hf
      exact hF.tr (wf_65 k14 hfk14 g x1 x2 x4 ((1 : Int32) <<< (x4 &&& 31)) x3 _ _ hf) (fun _ h => h) (fun _ h => h)
  have wf_14 : ∀ (n : Nat), ∀ (g : Mm) (x1 x2 x3 x4 : Int32) (r : Int32) (t : Mm), f_X7_sent_L14 n g x1 x2 x3 x4 = some (r, t) → Fr [6, 7] [(0, 8)] g t := by
    intro n
    induction n with
    | zero =>
      intro g x1 x2 x3 x4 r t hf
      cases hf
    | succ n ih =>
      intro g x1 x2 x3 x4 r t hf
      have hF : Fr [6, 7] [(0, 8)] g g := Fr.rf
      unfold f_X7_sent_L14 at hf
      by_cases c3 : (5 : Int32) ≤ x4
      · rw [if_pos c3] at hf
        cases hf; exact hF
      · rw [if_neg c3] at hf
        by_cases c4 : x4 = x1
        · rw [if_pos c4] at hf
          exact hF.tr (wf_67 (f_X7_sent_L14 n) ih g x1 x2 x3 x4 _ _ hf) (fun _ h => h) (fun _ h => h)
        · rw [if_neg c4] at hf
          by_cases c5 : x2 = 0
          · rw [if_pos c5] at hf
            obtain ⟨v6, g6, e6, hf⟩ := ob_e2 hf
            have hF := hF.tr (fr_X7_payer g x1 x4 _ _ e6) (by first | decide | (intro q h; simp at h; done) | (intro q h; simp at h ⊢; omega)) (by first | decide | (intro q h; simp at h; done) | (intro q h; simp at h ⊢; omega))
            exact hF.tr (wf_47 (f_X7_sent_L14 n) ih g6 x1 x2 x3 x4 v6 _ _ hf) (fun _ h => h) (fun _ h => h)
          · rw [if_neg c5] at hf
            obtain ⟨v7, g7, e7, hf⟩ := ob_e2 hf
            have hF := hF.tr (fr_X7_payer g x4 x1 _ _ e7) (by first | decide | (intro q h; simp at h; done) | (intro q h; simp at h ⊢; omega)) (by first | decide | (intro q h; simp at h; done) | (intro q h; simp at h ⊢; omega))
            exact hF.tr (wf_47 (f_X7_sent_L14 n) ih g7 x1 x2 x3 x4 v7 _ _ hf) (fun _ h => h) (fun _ h => h)
  have hF : Fr [6, 7] [(0, 8)] g g := Fr.rf
  unfold f_X7_sent at hf
  obtain ⟨v1, e1, hf⟩ := ob_e1 hf
  by_cases c2 : v1 = 0
  · rw [if_pos c2] at hf
    cases hf; exact hF
  · rw [if_neg c2] at hf
    exact hF.tr (wf_14 FU g x1 x2 0 0 _ _ hf) (fun _ h => h) (fun _ h => h)
set_option maxHeartbeats 1000000 in
theorem fr_X7_freeMatches (g : Mm) (x1 : Int32) (r : Int32) (t : Mm) (hf : f_X7_freeMatches g x1 = some (r, t)) : Fr [6, 7] [(0, 8)] g t := by
  have wf_50 : ∀ (k4 : Mm → Int32 → Int32 → Int32 → Option (Int32 × Mm)) (hfk4 : ∀ (g : Mm) (x1 x2 x3 : Int32) (r : Int32) (t : Mm), k4 g x1 x2 x3 = some (r, t) → Fr [6, 7] [(0, 8)] g t), ∀ (g : Mm) (x1 x2 x3 : Int32) (r : Int32) (t : Mm), f_X7_freeMatches_J50 k4 g x1 x2 x3 = some (r, t) → Fr [6, 7] [(0, 8)] g t := by
    intro k4 hfk4 g x1 x2 x3 r t hf
    have hF : Fr [6, 7] [(0, 8)] g g := Fr.rf
    unfold f_X7_freeMatches_J50 at hf
    exact hF.tr (hfk4 g x1 x2 (x3 + 1) _ _ hf) (fun _ h => h) (fun _ h => h)
  have wf_48 : ∀ (k4 : Mm → Int32 → Int32 → Int32 → Option (Int32 × Mm)) (hfk4 : ∀ (g : Mm) (x1 x2 x3 : Int32) (r : Int32) (t : Mm), k4 g x1 x2 x3 = some (r, t) → Fr [6, 7] [(0, 8)] g t), ∀ (g : Mm) (x1 x3 s0 s1 : Int32) (r : Int32) (t : Mm), f_X7_freeMatches_J48 k4 g x1 x3 s0 s1 = some (r, t) → Fr [6, 7] [(0, 8)] g t := by
    intro k4 hfk4 g x1 x3 s0 s1 r t hf
    have hF : Fr [6, 7] [(0, 8)] g g := Fr.rf
    unfold f_X7_freeMatches_J48 at hf
    exact hF.tr (wf_50 k4 hfk4 g x1 (s1 + s0) x3 _ _ hf) (fun _ h => h) (fun _ h => h)
  have wf_30 : ∀ (k4 : Mm → Int32 → Int32 → Int32 → Option (Int32 × Mm)) (hfk4 : ∀ (g : Mm) (x1 x2 x3 : Int32) (r : Int32) (t : Mm), k4 g x1 x2 x3 = some (r, t) → Fr [6, 7] [(0, 8)] g t), ∀ (g : Mm) (x1 x3 s0 s1 : Int32) (r : Int32) (t : Mm), f_X7_freeMatches_J30 k4 g x1 x3 s0 s1 = some (r, t) → Fr [6, 7] [(0, 8)] g t := by
    intro k4 hfk4 g x1 x3 s0 s1 r t hf
    have hF : Fr [6, 7] [(0, 8)] g g := Fr.rf
    unfold f_X7_freeMatches_J30 at hf
    obtain ⟨v5, g5, e5, hf⟩ := ob_e2 hf
    have hF := hF.tr (fr_X7_payer g x3 x1 _ _ e5) (by first | decide | (intro q h; simp at h; done) | (intro q h; simp at h ⊢; omega)) (by first | decide | (intro q h; simp at h; done) | (intro q h; simp at h ⊢; omega))
    by_cases c6 : v5 = x1
    · rw [if_pos c6] at hf
      exact hF.tr (wf_48 k4 hfk4 g5 x1 x3 0 (s1 + s0) _ _ hf) (fun _ h => h) (fun _ h => h)
    · rw [if_neg c6] at hf
      exact hF.tr (wf_48 k4 hfk4 g5 x1 x3 1 (s1 + s0) _ _ hf) (fun _ h => h) (fun _ h => h)
  have wf_4 : ∀ (n : Nat), ∀ (g : Mm) (x1 x2 x3 : Int32) (r : Int32) (t : Mm), f_X7_freeMatches_L4 n g x1 x2 x3 = some (r, t) → Fr [6, 7] [(0, 8)] g t := by
    intro n
    induction n with
    | zero =>
      intro g x1 x2 x3 r t hf
      cases hf
    | succ n ih =>
      intro g x1 x2 x3 r t hf
      have hF : Fr [6, 7] [(0, 8)] g g := Fr.rf
      unfold f_X7_freeMatches_L4 at hf
      by_cases c1 : (5 : Int32) ≤ x3
      · rw [if_pos c1] at hf
        cases hf; exact hF
      · rw [if_neg c1] at hf
        by_cases c2 : x3 = x1
        · rw [if_pos c2] at hf
          exact hF.tr (wf_50 (f_X7_freeMatches_L4 n) ih g x1 x2 x3 _ _ hf) (fun _ h => h) (fun _ h => h)
        · rw [if_neg c2] at hf
          obtain ⟨v3, g3, e3, hf⟩ := ob_e2 hf
          have hF := hF.tr (fr_X7_payer g x1 x3 _ _ e3) (by first | decide | (intro q h; simp at h; done) | (intro q h; simp at h ⊢; omega)) (by first | decide | (intro q h; simp at h; done) | (intro q h; simp at h ⊢; omega))
          by_cases c4 : v3 = x1
          · rw [if_pos c4] at hf
            exact hF.tr (wf_30 (f_X7_freeMatches_L4 n) ih g3 x1 x3 0 x2 _ _ hf) (fun _ h => h) (fun _ h => h)
          · rw [if_neg c4] at hf
            exact hF.tr (wf_30 (f_X7_freeMatches_L4 n) ih g3 x1 x3 1 x2 _ _ hf) (fun _ h => h) (fun _ h => h)
  have hF : Fr [6, 7] [(0, 8)] g g := Fr.rf
  unfold f_X7_freeMatches at hf
  exact hF.tr (wf_4 FU g x1 0 0 _ _ hf) (fun _ h => h) (fun _ h => h)
set_option maxHeartbeats 1000000 in
theorem fr_X7_worth (g : Mm) (x1 x2 : Int32) (r : Int32) (t : Mm) (hf : f_X7_worth g x1 x2 = some (r, t)) : Fr [5, 6, 7] [(0, 8)] g t := by
  have hF : Fr [5, 6, 7] [(0, 8)] g g := Fr.rf
  unfold f_X7_worth at hf
  obtain ⟨v1, e1, hf⟩ := ob_e1 hf
  by_cases c2 : v1 = 0
  · rw [if_pos c2] at hf
    cases hf; exact hF
  · rw [if_neg c2] at hf
    obtain ⟨v3, e3, hf⟩ := ob_e1 hf
    by_cases c4 : v3 = 0
    · rw [if_pos c4] at hf
      cases hf; exact hF
    · rw [if_neg c4] at hf
      obtain ⟨v5, e5, hf⟩ := ob_e1 hf
      obtain ⟨v6, e6, hf⟩ := ob_e1 hf
      by_cases c7 : v6 = 0
      · rw [if_pos c7] at hf
        obtain ⟨v8, g8, e8, hf⟩ := ob_e2 hf
        have hF := hF.tr (fr_X7_freeMatches g x2 _ _ e8) (by first | decide | (intro q h; simp at h; done) | (intro q h; simp at h ⊢; omega)) (by first | decide | (intro q h; simp at h; done) | (intro q h; simp at h ⊢; omega))
        obtain ⟨v9, e9, hf⟩ := ob_e1 hf
        obtain ⟨g10, e10, hf⟩ := ob_e1 hf
        have hF := hF.st e10 (by simp)
        obtain ⟨v11, g11, e11, hf⟩ := ob_e2 hf
        have hF := hF.tr (fr_X7_freeMatches g10 x2 _ _ e11) (by first | decide | (intro q h; simp at h; done) | (intro q h; simp at h ⊢; omega)) (by first | decide | (intro q h; simp at h; done) | (intro q h; simp at h ⊢; omega))
        obtain ⟨v12, e12, hf⟩ := ob_e1 hf
        obtain ⟨g13, e13, hf⟩ := ob_e1 hf
        have hF := hF.st e13 (by simp)
        cases hf; exact hF
      · rw [if_neg c7] at hf
        cases hf; exact hF
set_option maxHeartbeats 1000000 in
theorem fr_X7_canSay (g : Mm) (x1 : Int32) (r : Int32) (t : Mm) (hf : f_X7_canSay g x1 = some (r, t)) : Fr [9] [] g t := by
  have wf_9 : ∀ (k72 : Mm → Int32 → Int32 → Option (Int32 × Mm)) (hfk72 : ∀ (g : Mm) (x1 x2 : Int32) (r : Int32) (t : Mm), k72 g x1 x2 = some (r, t) → Fr [9] [] g t) (n : Nat), ∀ (g : Mm) (x1 x2 : Int32) (r : Int32) (t : Mm), f_X7_canSay_L9 k72 n g x1 x2 = some (r, t) → Fr [9] [] g t := by
    intro k72 hfk72 n
    induction n with
    | zero =>
      intro g x1 x2 r t hf
      cases hf
    | succ n ih =>
      intro g x1 x2 r t hf
      have hF : Fr [9] [] g g := Fr.rf
      unfold f_X7_canSay_L9 at hf
      by_cases c2 : x2 < 0
      · rw [if_pos c2] at hf
        exact hF.tr (hfk72 g x1 x2 _ _ hf) (fun _ h => h) (fun _ h => h)
      · rw [if_neg c2] at hf
        by_cases c3 : x1 ≤ x2
        · rw [if_pos c3] at hf
          exact hF.tr (hfk72 g x1 x2 _ _ hf) (fun _ h => h) (fun _ h => h)
        · rw [if_neg c3] at hf
          obtain ⟨v4, e4, hf⟩ := ob_e1 hf
          obtain ⟨g5, e5, hf⟩ := ob_e1 hf
          have hF := hF.st e5 (by simp)
          obtain ⟨v6, e6, hf⟩ := ob_e1 hf
          by_cases c7 : v6 ≤ 9
          · rw [if_pos c7] at hf
            obtain ⟨v8, e8, hf⟩ := ob_e1 hf
            by_cases c9 : v8 = 0
            · rw [if_pos c9] at hf
              exact hF.tr (ih g5 x1 x2 _ _ hf) (fun _ h => h) (fun _ h => h)
            · rw [if_neg c9] at hf
              by_cases c10 : x1 ≤ (x2 + 1)
              · rw [if_pos c10] at hf
                exact hF.tr (ih g5 x1 (x2 + 1) _ _ hf) (fun _ h => h) (fun _ h => h)
              · rw [if_neg c10] at hf
                obtain ⟨g11, e11, hf⟩ := ob_e1 hf
                have hF := hF.st e11 (by simp)
                exact hF.tr (ih g11 x1 (x2 + 1) _ _ hf) (fun _ h => h) (fun _ h => h)
          · rw [if_neg c7] at hf
            exact hF.tr (ih g5 x1 (x2 + (-1)) _ _ hf) (fun _ h => h) (fun _ h => h)
  have wf_72 : ∀ (g : Mm) (x1 x2 : Int32) (r : Int32) (t : Mm), f_X7_canSay_J72 g x1 x2 = some (r, t) → Fr [9] [] g t := by
    intro g x1 x2 r t hf
    have hF : Fr [9] [] g g := Fr.rf
    unfold f_X7_canSay_J72 at hf
    by_cases c12 : x2 = x1
    · rw [if_pos c12] at hf
      cases hf; exact hF
    · rw [if_neg c12] at hf
      cases hf; exact hF
  have hF : Fr [9] [] g g := Fr.rf
  unfold f_X7_canSay at hf
  obtain ⟨g1, e1, hf⟩ := ob_e1 hf
  have hF := hF.st e1 (by simp)
  exact hF.tr (wf_9 (f_X7_canSay_J72) (wf_72) FU g1 x1 0 _ _ hf) (fun _ h => h) (fun _ h => h)
set_option maxHeartbeats 1000000 in
theorem fr_X7_layRow (g : Mm) (x1 x2 x3 : Int32) (r : Int32) (t : Mm) (hf : f_X7_layRow g x1 x2 x3 = some (r, t)) : Fr [8] [] g t := by
  have wf_9 : ∀ (n : Nat), ∀ (g : Mm) (x2 x3 x4 x5 x6 : Int32) (r : Int32) (t : Mm), f_X7_layRow_L9 n g x2 x3 x4 x5 x6 = some (r, t) → Fr [8] [] g t := by
    intro n
    induction n with
    | zero =>
      intro g x2 x3 x4 x5 x6 r t hf
      cases hf
    | succ n ih =>
      intro g x2 x3 x4 x5 x6 r t hf
      have hF : Fr [8] [] g g := Fr.rf
      unfold f_X7_layRow_L9 at hf
      by_cases c1 : x3 ≤ x6
      · rw [if_pos c1] at hf
        by_cases c2 : x5 = x2
        · rw [if_pos c2] at hf
          obtain ⟨v3, e3, hf⟩ := ob_e1 hf
          by_cases c4 : v3 = x3
          · rw [if_pos c4] at hf
            cases hf; exact hF
          · rw [if_neg c4] at hf
            cases hf; exact hF
        · rw [if_neg c2] at hf
          cases hf; exact hF
      · rw [if_neg c1] at hf
        obtain ⟨g5, e5, hf⟩ := ob_e1 hf
        have hF := hF.st e5 (by simp)
        obtain ⟨v6, e6, hf⟩ := ob_e1 hf
        exact hF.tr (ih g5 x2 x3 (x4 / 5) (x5 ||| ((1 : Int32) <<< (v6 &&& 31))) (x6 + 1) _ _ hf) (fun _ h => h) (fun _ h => h)
  have hF : Fr [8] [] g g := Fr.rf
  unfold f_X7_layRow at hf
  exact hF.tr (wf_9 FU g x2 x3 x1 0 0 _ _ hf) (fun _ h => h) (fun _ h => h)
set_option maxHeartbeats 1000000 in
theorem fr_X7_layDay (g : Mm) (x1 : Int32) (t : Mm) (hf : f_X7_layDay g x1 = some t) : Fr [8, 9, 10] [] g t := by
  have wf_10 : ∀ (k40 : Mm → Int32 → Int32 → Int32 → Int32 → Int32 → Option (Mm)) (hfk40 : ∀ (g : Mm) (x1 x2 x3 s0 s1 : Int32) (t : Mm), k40 g x1 x2 x3 s0 s1 = some t → Fr [8, 9, 10] [] g t) (n : Nat), ∀ (g : Mm) (x1 x2 x3 x4 : Int32) (t : Mm), f_X7_layDay_L10 k40 n g x1 x2 x3 x4 = some t → Fr [8, 9, 10] [] g t := by
    intro k40 hfk40 n
    induction n with
    | zero =>
      intro g x1 x2 x3 x4 t hf
      cases hf
    | succ n ih =>
      intro g x1 x2 x3 x4 t hf
      have hF : Fr [8, 9, 10] [] g g := Fr.rf
      unfold f_X7_layDay_L10 at hf
      by_cases c2 : x2 ≤ x4
      · rw [if_pos c2] at hf
        by_cases c3 : x2 = 0
        · rw [if_pos c3] at hf
          exact hF.tr (hfk40 g x1 x2 x3 1 x1 _ hf) (fun _ h => h) (fun _ h => h)
        · rw [if_neg c3] at hf
          exact hF.tr (hfk40 g x1 x2 x3 0 x1 _ hf) (fun _ h => h) (fun _ h => h)
      · rw [if_neg c2] at hf
        exact hF.tr (ih g x1 x2 (x3 * 5) (x4 + 1) _ hf) (fun _ h => h) (fun _ h => h)
  have wf_88 : ∀ (k44 : Mm → Int32 → Int32 → Int32 → Int32 → Option (Mm)) (hfk44 : ∀ (g : Mm) (x1 x2 x3 x4 : Int32) (t : Mm), k44 g x1 x2 x3 x4 = some t → Fr [8, 9, 10] [] g t), ∀ (g : Mm) (x1 x2 x3 x4 s0 s1 : Int32) (t : Mm), f_X7_layDay_J88 k44 g x1 x2 x3 x4 s0 s1 = some t → Fr [8, 9, 10] [] g t := by
    intro k44 hfk44 g x1 x2 x3 x4 s0 s1 t hf
    have hF : Fr [8, 9, 10] [] g g := Fr.rf
    unfold f_X7_layDay_J88 at hf
    obtain ⟨g12, e12, hf⟩ := ob_e1 hf
    have hF := hF.sz e12 (by simp)
    exact hF.tr (hfk44 g12 x1 x2 x3 (x4 + 1) _ hf) (fun _ h => h) (fun _ h => h)
  have wf_87 : ∀ (k44 : Mm → Int32 → Int32 → Int32 → Int32 → Option (Mm)) (hfk44 : ∀ (g : Mm) (x1 x2 x3 x4 : Int32) (t : Mm), k44 g x1 x2 x3 x4 = some t → Fr [8, 9, 10] [] g t), ∀ (g : Mm) (x1 x2 x3 x4 s0 : Int32) (t : Mm), f_X7_layDay_J87 k44 g x1 x2 x3 x4 s0 = some t → Fr [8, 9, 10] [] g t := by
    intro k44 hfk44 g x1 x2 x3 x4 s0 t hf
    have hF : Fr [8, 9, 10] [] g g := Fr.rf
    unfold f_X7_layDay_J87 at hf
    exact hF.tr (wf_88 k44 hfk44 g x1 x2 x3 x4 0 s0 _ hf) (fun _ h => h) (fun _ h => h)
  have wf_44 : ∀ (n : Nat), ∀ (g : Mm) (x1 x2 x3 x4 : Int32) (t : Mm), f_X7_layDay_L44 n g x1 x2 x3 x4 = some t → Fr [8, 9, 10] [] g t := by
    intro n
    induction n with
    | zero =>
      intro g x1 x2 x3 x4 t hf
      cases hf
    | succ n ih =>
      intro g x1 x2 x3 x4 t hf
      have hF : Fr [8, 9, 10] [] g g := Fr.rf
      unfold f_X7_layDay_L44 at hf
      by_cases c5 : x3 ≤ x4
      · rw [if_pos c5] at hf
        cases hf; exact hF
      · rw [if_neg c5] at hf
        obtain ⟨v6, e6, hf⟩ := ob_e1 hf
        by_cases c7 : v6 = 0
        · rw [if_pos c7] at hf
          obtain ⟨v8, g8, e8, hf⟩ := ob_e2 hf
          have hF := hF.tr (fr_X7_layRow g x4 x1 x2 _ _ e8) (by first | decide | (intro q h; simp at h; done) | (intro q h; simp at h ⊢; omega)) (by first | decide | (intro q h; simp at h; done) | (intro q h; simp at h ⊢; omega))
          by_cases c9 : v8 = 0
          · rw [if_pos c9] at hf
            exact hF.tr (wf_87 (f_X7_layDay_L44 n) ih g8 x1 x2 x3 x4 x1 _ hf) (fun _ h => h) (fun _ h => h)
          · rw [if_neg c9] at hf
            obtain ⟨v10, g10, e10, hf⟩ := ob_e2 hf
            have hF := hF.tr (fr_X7_canSay g8 x2 _ _ e10) (by first | decide | (intro q h; simp at h; done) | (intro q h; simp at h ⊢; omega)) (by first | decide | (intro q h; simp at h; done) | (intro q h; simp at h ⊢; omega))
            by_cases c11 : v10 = 0
            · rw [if_pos c11] at hf
              exact hF.tr (wf_87 (f_X7_layDay_L44 n) ih g10 x1 x2 x3 x4 x1 _ hf) (fun _ h => h) (fun _ h => h)
            · rw [if_neg c11] at hf
              exact hF.tr (wf_88 (f_X7_layDay_L44 n) ih g10 x1 x2 x3 x4 1 x1 _ hf) (fun _ h => h) (fun _ h => h)
        · rw [if_neg c7] at hf
          cases hf; exact hF
  have wf_40 : ∀ (g : Mm) (x1 x2 x3 s0 s1 : Int32) (t : Mm), f_X7_layDay_J40 g x1 x2 x3 s0 s1 = some t → Fr [8, 9, 10] [] g t := by
    intro g x1 x2 x3 s0 s1 t hf
    have hF : Fr [8, 9, 10] [] g g := Fr.rf
    unfold f_X7_layDay_J40 at hf
    obtain ⟨g4, e4, hf⟩ := ob_e1 hf
    have hF := hF.sz e4 (by simp)
    exact hF.tr (wf_44 FU g4 x1 x2 x3 0 _ hf) (fun _ h => h) (fun _ h => h)
  have hF : Fr [8, 9, 10] [] g g := Fr.rf
  unfold f_X7_layDay at hf
  obtain ⟨v1, e1, hf⟩ := ob_e1 hf
  exact hF.tr (wf_10 (f_X7_layDay_J40) (wf_40) FU g x1 v1 1 0 _ hf) (fun _ h => h) (fun _ h => h)
set_option maxHeartbeats 1000000 in
theorem fr_X7_crowd (g : Mm) (x1 x2 : Int32) (r : Int32) (t : Mm) (hf : f_X7_crowd g x1 x2 = some (r, t)) : Fr [8, 9, 10, 11] [] g t := by
  have wf_169 : ∀ (k24 : Mm → Int32 → Int32 → Int32 → Option (Int32 × Mm)) (hfk24 : ∀ (g : Mm) (x1 x2 x3 : Int32) (r : Int32) (t : Mm), k24 g x1 x2 x3 = some (r, t) → Fr [8, 9, 10, 11] [] g t), ∀ (g : Mm) (x1 x2 x3 : Int32) (r : Int32) (t : Mm), f_X7_crowd_J169 k24 g x1 x2 x3 = some (r, t) → Fr [8, 9, 10, 11] [] g t := by
    intro k24 hfk24 g x1 x2 x3 r t hf
    have hF : Fr [8, 9, 10, 11] [] g g := Fr.rf
    unfold f_X7_crowd_J169 at hf
    exact hF.tr (hfk24 g x1 x2 (x3 + 1) _ _ hf) (fun _ h => h) (fun _ h => h)
  have wf_163 : ∀ (k62 : Mm → Int32 → Int32 → Int32 → Int32 → Option (Int32 × Mm)) (hfk62 : ∀ (g : Mm) (x1 x2 x3 x4 : Int32) (r : Int32) (t : Mm), k62 g x1 x2 x3 x4 = some (r, t) → Fr [8, 9, 10, 11] [] g t), ∀ (g : Mm) (x1 x2 x3 x4 : Int32) (r : Int32) (t : Mm), f_X7_crowd_J163 k62 g x1 x2 x3 x4 = some (r, t) → Fr [8, 9, 10, 11] [] g t := by
    intro k62 hfk62 g x1 x2 x3 x4 r t hf
    have hF : Fr [8, 9, 10, 11] [] g g := Fr.rf
    unfold f_X7_crowd_J163 at hf
    exact hF.tr (hfk62 g x1 x2 x3 (x4 + 1) _ _ hf) (fun _ h => h) (fun _ h => h)
  have wf_144 : ∀ (k62 : Mm → Int32 → Int32 → Int32 → Int32 → Option (Int32 × Mm)) (hfk62 : ∀ (g : Mm) (x1 x2 x3 x4 : Int32) (r : Int32) (t : Mm), k62 g x1 x2 x3 x4 = some (r, t) → Fr [8, 9, 10, 11] [] g t), ∀ (g : Mm) (x1 x2 x3 x4 : Int32) (r : Int32) (t : Mm), f_X7_crowd_J144 k62 g x1 x2 x3 x4 = some (r, t) → Fr [8, 9, 10, 11] [] g t := by
    intro k62 hfk62 g x1 x2 x3 x4 r t hf
    have hF : Fr [8, 9, 10, 11] [] g g := Fr.rf
    unfold f_X7_crowd_J144 at hf
    obtain ⟨v26, e26, hf⟩ := ob_e1 hf
    obtain ⟨g27, e27, hf⟩ := ob_e1 hf
    have hF := hF.st e27 (by simp)
    exact hF.tr (wf_163 k62 hfk62 g27 x1 x2 x3 x4 _ _ hf) (fun _ h => h) (fun _ h => h)
  have wf_106 : ∀ (k62 : Mm → Int32 → Int32 → Int32 → Int32 → Option (Int32 × Mm)) (hfk62 : ∀ (g : Mm) (x1 x2 x3 x4 : Int32) (r : Int32) (t : Mm), k62 g x1 x2 x3 x4 = some (r, t) → Fr [8, 9, 10, 11] [] g t), ∀ (g : Mm) (x1 x2 x3 x4 s0 : Int32) (r : Int32) (t : Mm), f_X7_crowd_J106 k62 g x1 x2 x3 x4 s0 = some (r, t) → Fr [8, 9, 10, 11] [] g t := by
    intro k62 hfk62 g x1 x2 x3 x4 s0 r t hf
    have hF : Fr [8, 9, 10, 11] [] g g := Fr.rf
    unfold f_X7_crowd_J106 at hf
    by_cases c20 : s0 = 0
    · rw [if_pos c20] at hf
      exact hF.tr (wf_163 k62 hfk62 g x1 x2 x3 x4 _ _ hf) (fun _ h => h) (fun _ h => h)
    · rw [if_neg c20] at hf
      obtain ⟨v21, e21, hf⟩ := ob_e1 hf
      by_cases c22 : v21 < 0
      · rw [if_pos c22] at hf
        exact hF.tr (wf_144 k62 hfk62 g x1 x2 x3 x4 _ _ hf) (fun _ h => h) (fun _ h => h)
      · rw [if_neg c22] at hf
        obtain ⟨v23, e23, hf⟩ := ob_e1 hf
        obtain ⟨v24, e24, hf⟩ := ob_e1 hf
        by_cases c25 : v24 ≤ (v23 + 1)
        · rw [if_pos c25] at hf
          exact hF.tr (wf_163 k62 hfk62 g x1 x2 x3 x4 _ _ hf) (fun _ h => h) (fun _ h => h)
        · rw [if_neg c25] at hf
          exact hF.tr (wf_144 k62 hfk62 g x1 x2 x3 x4 _ _ hf) (fun _ h => h) (fun _ h => h)
  have wf_105 : ∀ (k62 : Mm → Int32 → Int32 → Int32 → Int32 → Option (Int32 × Mm)) (hfk62 : ∀ (g : Mm) (x1 x2 x3 x4 : Int32) (r : Int32) (t : Mm), k62 g x1 x2 x3 x4 = some (r, t) → Fr [8, 9, 10, 11] [] g t), ∀ (g : Mm) (x1 x2 x3 x4 : Int32) (r : Int32) (t : Mm), f_X7_crowd_J105 k62 g x1 x2 x3 x4 = some (r, t) → Fr [8, 9, 10, 11] [] g t := by
    intro k62 hfk62 g x1 x2 x3 x4 r t hf
    have hF : Fr [8, 9, 10, 11] [] g g := Fr.rf
    unfold f_X7_crowd_J105 at hf
    exact hF.tr (wf_106 k62 hfk62 g x1 x2 x3 x4 0 _ _ hf) (fun _ h => h) (fun _ h => h)
  have wf_62 : ∀ (k169 : Mm → Int32 → Int32 → Int32 → Option (Int32 × Mm)) (hfk169 : ∀ (g : Mm) (x1 x2 x3 : Int32) (r : Int32) (t : Mm), k169 g x1 x2 x3 = some (r, t) → Fr [8, 9, 10, 11] [] g t) (n : Nat), ∀ (g : Mm) (x1 x2 x3 x4 : Int32) (r : Int32) (t : Mm), f_X7_crowd_L62 k169 n g x1 x2 x3 x4 = some (r, t) → Fr [8, 9, 10, 11] [] g t := by
    intro k169 hfk169 n
    induction n with
    | zero =>
      intro g x1 x2 x3 x4 r t hf
      cases hf
    | succ n ih =>
      intro g x1 x2 x3 x4 r t hf
      have hF : Fr [8, 9, 10, 11] [] g g := Fr.rf
      unfold f_X7_crowd_L62 at hf
      by_cases c14 : x3 < x4
      · rw [if_pos c14] at hf
        exact hF.tr (hfk169 g x1 x2 x3 _ _ hf) (fun _ h => h) (fun _ h => h)
      · rw [if_neg c14] at hf
        by_cases c15 : (x4 &&& (x3 ^^^ (-1))) = 0
        · rw [if_pos c15] at hf
          obtain ⟨v16, e16, hf⟩ := ob_e1 hf
          by_cases c17 : v16 = 0
          · rw [if_pos c17] at hf
            exact hF.tr (wf_105 (f_X7_crowd_L62 k169 n) ih g x1 x2 x3 x4 _ _ hf) (fun _ h => h) (fun _ h => h)
          · rw [if_neg c17] at hf
            obtain ⟨v18, e18, hf⟩ := ob_e1 hf
            by_cases c19 : v18 < 0
            · rw [if_pos c19] at hf
              exact hF.tr (wf_105 (f_X7_crowd_L62 k169 n) ih g x1 x2 x3 x4 _ _ hf) (fun _ h => h) (fun _ h => h)
            · rw [if_neg c19] at hf
              exact hF.tr (wf_106 (f_X7_crowd_L62 k169 n) ih g x1 x2 x3 x4 1 _ _ hf) (fun _ h => h) (fun _ h => h)
        · rw [if_neg c15] at hf
          exact hF.tr (wf_105 (f_X7_crowd_L62 k169 n) ih g x1 x2 x3 x4 _ _ hf) (fun _ h => h) (fun _ h => h)
  have wf_58 : ∀ (k24 : Mm → Int32 → Int32 → Int32 → Option (Int32 × Mm)) (hfk24 : ∀ (g : Mm) (x1 x2 x3 : Int32) (r : Int32) (t : Mm), k24 g x1 x2 x3 = some (r, t) → Fr [8, 9, 10, 11] [] g t), ∀ (g : Mm) (x1 x2 x3 s0 s1 : Int32) (r : Int32) (t : Mm), f_X7_crowd_J58 k24 g x1 x2 x3 s0 s1 = some (r, t) → Fr [8, 9, 10, 11] [] g t := by
    intro k24 hfk24 g x1 x2 x3 s0 s1 r t hf
    have hF : Fr [8, 9, 10, 11] [] g g := Fr.rf
    unfold f_X7_crowd_J58 at hf
    obtain ⟨g13, e13, hf⟩ := ob_e1 hf
    have hF := hF.st e13 (by simp)
    exact hF.tr (wf_62 (f_X7_crowd_J169 k24) (wf_169 k24 hfk24) FU g13 x1 x2 x3 1 _ _ hf) (fun _ h => h) (fun _ h => h)
  have wf_24 : ∀ (n : Nat), ∀ (g : Mm) (x1 x2 x3 : Int32) (r : Int32) (t : Mm), f_X7_crowd_L24 n g x1 x2 x3 = some (r, t) → Fr [8, 9, 10, 11] [] g t := by
    intro n
    induction n with
    | zero =>
      intro g x1 x2 x3 r t hf
      cases hf
    | succ n ih =>
      intro g x1 x2 x3 r t hf
      have hF : Fr [8, 9, 10, 11] [] g g := Fr.rf
      unfold f_X7_crowd_L24 at hf
      by_cases c5 : (32 : Int32) ≤ x3
      · rw [if_pos c5] at hf
        by_cases c6 : x2 = 1
        · rw [if_pos c6] at hf
          obtain ⟨v9, e9, hf⟩ := ob_e1 hf
          cases hf; exact hF
        · rw [if_neg c6] at hf
          obtain ⟨v7, e7, hf⟩ := ob_e1 hf
          by_cases c8 : v7 = 0
          · rw [if_pos c8] at hf
            cases hf; exact hF
          · rw [if_neg c8] at hf
            cases hf; exact hF
      · rw [if_neg c5] at hf
        by_cases c10 : (x3 &&& (x1 ^^^ (-1))) = 0
        · rw [if_pos c10] at hf
          obtain ⟨g11, e11, hf⟩ := ob_e1 hf
          have hF := hF.tr (fr_X7_layDay g x3 _ e11) (by first | decide | (intro q h; simp at h; done) | (intro q h; simp at h ⊢; omega)) (by first | decide | (intro q h; simp at h; done) | (intro q h; simp at h ⊢; omega))
          by_cases c12 : x3 = 0
          · rw [if_pos c12] at hf
            exact hF.tr (wf_58 (f_X7_crowd_L24 n) ih g11 x1 x2 x3 0 x3 _ _ hf) (fun _ h => h) (fun _ h => h)
          · rw [if_neg c12] at hf
            exact hF.tr (wf_58 (f_X7_crowd_L24 n) ih g11 x1 x2 x3 (-6) x3 _ _ hf) (fun _ h => h) (fun _ h => h)
        · rw [if_neg c10] at hf
          exact hF.tr (wf_169 (f_X7_crowd_L24 n) ih g x1 x2 x3 _ _ hf) (fun _ h => h) (fun _ h => h)
  have hF : Fr [8, 9, 10, 11] [] g g := Fr.rf
  unfold f_X7_crowd at hf
  obtain ⟨v1, e1, hf⟩ := ob_e1 hf
  by_cases c2 : v1 = 0
  · rw [if_pos c2] at hf
    cases hf; exact hF
  · rw [if_neg c2] at hf
    obtain ⟨v3, e3, hf⟩ := ob_e1 hf
    by_cases c4 : v3 = 0
    · rw [if_pos c4] at hf
      cases hf; exact hF
    · rw [if_neg c4] at hf
      exact hF.tr (wf_24 FU g x1 x2 0 _ _ hf) (fun _ h => h) (fun _ h => h)
set_option maxHeartbeats 1000000 in
theorem fr_X7_ladder (g : Mm) (x1 : Int32) (r : Int32) (t : Mm) (hf : f_X7_ladder g x1 = some (r, t)) : Fr [12, 13] [] g t := by
  have wf_94 : ∀ (k28 : Mm → Int32 → Int32 → Int32 → Option (Int32 × Mm)) (hfk28 : ∀ (g : Mm) (x1 x2 x3 : Int32) (r : Int32) (t : Mm), k28 g x1 x2 x3 = some (r, t) → Fr [12, 13] [] g t), ∀ (g : Mm) (x1 x2 x3 : Int32) (r : Int32) (t : Mm), f_X7_ladder_J94 k28 g x1 x2 x3 = some (r, t) → Fr [12, 13] [] g t := by
    intro k28 hfk28 g x1 x2 x3 r t hf
    have hF : Fr [12, 13] [] g g := Fr.rf
    unfold f_X7_ladder_J94 at hf
    exact hF.tr (hfk28 g x1 x2 (x3 + 1) _ _ hf) (fun _ h => h) (fun _ h => h)
  have wf_93 : ∀ (k28 : Mm → Int32 → Int32 → Int32 → Option (Int32 × Mm)) (hfk28 : ∀ (g : Mm) (x1 x2 x3 : Int32) (r : Int32) (t : Mm), k28 g x1 x2 x3 = some (r, t) → Fr [12, 13] [] g t), ∀ (g : Mm) (x1 x2 x3 s0 s1 : Int32) (r : Int32) (t : Mm), f_X7_ladder_J93 k28 g x1 x2 x3 s0 s1 = some (r, t) → Fr [12, 13] [] g t := by
    intro k28 hfk28 g x1 x2 x3 s0 s1 r t hf
    have hF : Fr [12, 13] [] g g := Fr.rf
    unfold f_X7_ladder_J93 at hf
    obtain ⟨g33, e33, hf⟩ := ob_e1 hf
    have hF := hF.st e33 (by simp)
    exact hF.tr (wf_94 k28 hfk28 g33 x1 x2 x3 _ _ hf) (fun _ h => h) (fun _ h => h)
  have wf_28 : ∀ (k13 : Mm → Int32 → Int32 → Option (Int32 × Mm)) (hfk13 : ∀ (g : Mm) (x1 x2 : Int32) (r : Int32) (t : Mm), k13 g x1 x2 = some (r, t) → Fr [12, 13] [] g t) (n : Nat), ∀ (g : Mm) (x1 x2 x3 : Int32) (r : Int32) (t : Mm), f_X7_ladder_L28 k13 n g x1 x2 x3 = some (r, t) → Fr [12, 13] [] g t := by
    intro k13 hfk13 n
    induction n with
    | zero =>
      intro g x1 x2 x3 r t hf
      cases hf
    | succ n ih =>
      intro g x1 x2 x3 r t hf
      have hF : Fr [12, 13] [] g g := Fr.rf
      unfold f_X7_ladder_L28 at hf
      by_cases c7 : (10 : Int32) ≤ x3
      · rw [if_pos c7] at hf
        exact hF.tr (hfk13 g x1 (x2 + (-1)) _ _ hf) (fun _ h => h) (fun _ h => h)
      · rw [if_neg c7] at hf
        obtain ⟨v8, e8, hf⟩ := ob_e1 hf
        by_cases c9 : v8 = 0
        · rw [if_pos c9] at hf
          obtain ⟨v10, e10, hf⟩ := ob_e1 hf
          obtain ⟨v11, e11, hf⟩ := ob_e1 hf
          obtain ⟨v12, e12, hf⟩ := ob_e1 hf
          obtain ⟨v13, e13, hf⟩ := ob_e1 hf
          by_cases c14 : v13 ≤ (v11 + v12)
          · rw [if_pos c14] at hf
            obtain ⟨v15, e15, hf⟩ := ob_e1 hf
            exact hF.tr (wf_93 (f_X7_ladder_L28 k13 n) ih g x1 x2 x3 v15 x2 _ _ hf) (fun _ h => h) (fun _ h => h)
          · rw [if_neg c14] at hf
            exact hF.tr (wf_93 (f_X7_ladder_L28 k13 n) ih g x1 x2 x3 (v11 + v12) x2 _ _ hf) (fun _ h => h) (fun _ h => h)
        · rw [if_neg c9] at hf
          exact hF.tr (wf_94 (f_X7_ladder_L28 k13 n) ih g x1 x2 x3 _ _ hf) (fun _ h => h) (fun _ h => h)
  have wf_13 : ∀ (k122 : Mm → Int32 → Int32 → Int32 → Option (Int32 × Mm)) (hfk122 : ∀ (g : Mm) (x1 x2 x3 : Int32) (r : Int32) (t : Mm), k122 g x1 x2 x3 = some (r, t) → Fr [12, 13] [] g t) (n : Nat), ∀ (g : Mm) (x1 x2 : Int32) (r : Int32) (t : Mm), f_X7_ladder_L13 k122 n g x1 x2 = some (r, t) → Fr [12, 13] [] g t := by
    intro k122 hfk122 n
    induction n with
    | zero =>
      intro g x1 x2 r t hf
      cases hf
    | succ n ih =>
      intro g x1 x2 r t hf
      have hF : Fr [12, 13] [] g g := Fr.rf
      unfold f_X7_ladder_L13 at hf
      by_cases c2 : x2 < 0
      · rw [if_pos c2] at hf
        by_cases c3 : x1 = (-1)
        · rw [if_pos c3] at hf
          obtain ⟨v4, e4, hf⟩ := ob_e1 hf
          cases hf; exact hF
        · rw [if_neg c3] at hf
          exact hF.tr (hfk122 g x1 0 0 _ _ hf) (fun _ h => h) (fun _ h => h)
      · rw [if_neg c2] at hf
        obtain ⟨g5, e5, hf⟩ := ob_e1 hf
        have hF := hF.st e5 (by simp)
        exact hF.tr (wf_28 (f_X7_ladder_L13 k122 n) ih FU g5 x1 x2 0 _ _ hf) (fun _ h => h) (fun _ h => h)
  have wf_208 : ∀ (k135 : Mm → Int32 → Int32 → Int32 → Int32 → Int32 → Option (Int32 × Mm)) (hfk135 : ∀ (g : Mm) (x1 x2 x3 x4 x5 : Int32) (r : Int32) (t : Mm), k135 g x1 x2 x3 x4 x5 = some (r, t) → Fr [12, 13] [] g t), ∀ (g : Mm) (x1 x2 x3 x5 s0 : Int32) (r : Int32) (t : Mm), f_X7_ladder_J208 k135 g x1 x2 x3 x5 s0 = some (r, t) → Fr [12, 13] [] g t := by
    intro k135 hfk135 g x1 x2 x3 x5 s0 r t hf
    have hF : Fr [12, 13] [] g g := Fr.rf
    unfold f_X7_ladder_J208 at hf
    exact hF.tr (hfk135 g x1 x2 x3 s0 (x5 + 1) _ _ hf) (fun _ h => h) (fun _ h => h)
  have wf_194 : ∀ (k135 : Mm → Int32 → Int32 → Int32 → Int32 → Int32 → Option (Int32 × Mm)) (hfk135 : ∀ (g : Mm) (x1 x2 x3 x4 x5 : Int32) (r : Int32) (t : Mm), k135 g x1 x2 x3 x4 x5 = some (r, t) → Fr [12, 13] [] g t), ∀ (g : Mm) (x1 x2 x3 x5 s0 : Int32) (r : Int32) (t : Mm), f_X7_ladder_J194 k135 g x1 x2 x3 x5 s0 = some (r, t) → Fr [12, 13] [] g t := by
    intro k135 hfk135 g x1 x2 x3 x5 s0 r t hf
    have hF : Fr [12, 13] [] g g := Fr.rf
    unfold f_X7_ladder_J194 at hf
    by_cases c35 : s0 = 0
    · rw [if_pos c35] at hf
      exact hF.tr (wf_208 k135 hfk135 g x1 x2 x3 x5 (-6) _ _ hf) (fun _ h => h) (fun _ h => h)
    · rw [if_neg c35] at hf
      exact hF.tr (wf_208 k135 hfk135 g x1 x2 x3 x5 x5 _ _ hf) (fun _ h => h) (fun _ h => h)
  have wf_193 : ∀ (k135 : Mm → Int32 → Int32 → Int32 → Int32 → Int32 → Option (Int32 × Mm)) (hfk135 : ∀ (g : Mm) (x1 x2 x3 x4 x5 : Int32) (r : Int32) (t : Mm), k135 g x1 x2 x3 x4 x5 = some (r, t) → Fr [12, 13] [] g t), ∀ (g : Mm) (x1 x2 x3 x5 : Int32) (r : Int32) (t : Mm), f_X7_ladder_J193 k135 g x1 x2 x3 x5 = some (r, t) → Fr [12, 13] [] g t := by
    intro k135 hfk135 g x1 x2 x3 x5 r t hf
    have hF : Fr [12, 13] [] g g := Fr.rf
    unfold f_X7_ladder_J193 at hf
    exact hF.tr (wf_194 k135 hfk135 g x1 x2 x3 x5 0 _ _ hf) (fun _ h => h) (fun _ h => h)
  have wf_135 : ∀ (k216 : Mm → Int32 → Int32 → Int32 → Int32 → Option (Int32 × Mm)) (hfk216 : ∀ (g : Mm) (x1 x2 x3 x4 : Int32) (r : Int32) (t : Mm), k216 g x1 x2 x3 x4 = some (r, t) → Fr [12, 13] [] g t) (n : Nat), ∀ (g : Mm) (x1 x2 x3 x4 x5 : Int32) (r : Int32) (t : Mm), f_X7_ladder_L135 k216 n g x1 x2 x3 x4 x5 = some (r, t) → Fr [12, 13] [] g t := by
    intro k216 hfk216 n
    induction n with
    | zero =>
      intro g x1 x2 x3 x4 x5 r t hf
      cases hf
    | succ n ih =>
      intro g x1 x2 x3 x4 x5 r t hf
      have hF : Fr [12, 13] [] g g := Fr.rf
      unfold f_X7_ladder_L135 at hf
      by_cases c24 : (10 : Int32) ≤ x5
      · rw [if_pos c24] at hf
        exact hF.tr (hfk216 g x1 x2 x3 x4 _ _ hf) (fun _ h => h) (fun _ h => h)
      · rw [if_neg c24] at hf
        by_cases c25 : (0 : Int32) ≤ x4
        · rw [if_pos c25] at hf
          exact hF.tr (hfk216 g x1 x2 x3 x4 _ _ hf) (fun _ h => h) (fun _ h => h)
        · rw [if_neg c25] at hf
          obtain ⟨v26, e26, hf⟩ := ob_e1 hf
          by_cases c27 : v26 = 0
          · rw [if_pos c27] at hf
            obtain ⟨v28, e28, hf⟩ := ob_e1 hf
            obtain ⟨v29, e29, hf⟩ := ob_e1 hf
            obtain ⟨v30, e30, hf⟩ := ob_e1 hf
            obtain ⟨v31, e31, hf⟩ := ob_e1 hf
            by_cases c32 : (v29 + v30) = v31
            · rw [if_pos c32] at hf
              exact hF.tr (wf_194 (f_X7_ladder_L135 k216 n) ih g x1 x2 x3 x5 1 _ _ hf) (fun _ h => h) (fun _ h => h)
            · rw [if_neg c32] at hf
              exact hF.tr (wf_193 (f_X7_ladder_L135 k216 n) ih g x1 x2 x3 x5 _ _ hf) (fun _ h => h) (fun _ h => h)
          · rw [if_neg c27] at hf
            exact hF.tr (wf_193 (f_X7_ladder_L135 k216 n) ih g x1 x2 x3 x5 _ _ hf) (fun _ h => h) (fun _ h => h)
  have wf_216 : ∀ (k122 : Mm → Int32 → Int32 → Int32 → Option (Int32 × Mm)) (hfk122 : ∀ (g : Mm) (x1 x2 x3 : Int32) (r : Int32) (t : Mm), k122 g x1 x2 x3 = some (r, t) → Fr [12, 13] [] g t), ∀ (g : Mm) (x1 x2 x3 x4 : Int32) (r : Int32) (t : Mm), f_X7_ladder_J216 k122 g x1 x2 x3 x4 = some (r, t) → Fr [12, 13] [] g t := by
    intro k122 hfk122 g x1 x2 x3 x4 r t hf
    have hF : Fr [12, 13] [] g g := Fr.rf
    unfold f_X7_ladder_J216 at hf
    obtain ⟨g34, e34, hf⟩ := ob_e1 hf
    have hF := hF.st e34 (by simp)
    exact hF.tr (hfk122 g34 x1 (x2 ||| ((1 : Int32) <<< (x4 &&& 31))) (x3 + 1) _ _ hf) (fun _ h => h) (fun _ h => h)
  have wf_122 : ∀ (k242 : Mm → Int32 → Int32 → Int32 → Option (Int32 × Mm)) (hfk242 : ∀ (g : Mm) (x1 x3 x4 : Int32) (r : Int32) (t : Mm), k242 g x1 x3 x4 = some (r, t) → Fr [12, 13] [] g t) (n : Nat), ∀ (g : Mm) (x1 x2 x3 : Int32) (r : Int32) (t : Mm), f_X7_ladder_L122 k242 n g x1 x2 x3 = some (r, t) → Fr [12, 13] [] g t := by
    intro k242 hfk242 n
    induction n with
    | zero =>
      intro g x1 x2 x3 r t hf
      cases hf
    | succ n ih =>
      intro g x1 x2 x3 r t hf
      have hF : Fr [12, 13] [] g g := Fr.rf
      unfold f_X7_ladder_L122 at hf
      by_cases c6 : (10 : Int32) ≤ x3
      · rw [if_pos c6] at hf
        exact hF.tr (hfk242 g x1 0 0 _ _ hf) (fun _ h => h) (fun _ h => h)
      · rw [if_neg c6] at hf
        exact hF.tr (wf_135 (f_X7_ladder_J216 (f_X7_ladder_L122 k242 n)) (wf_216 (f_X7_ladder_L122 k242 n) ih) FU g x1 x2 x3 (-6) 0 _ _ hf) (fun _ h => h) (fun _ h => h)
  have wf_304 : ∀ (k242 : Mm → Int32 → Int32 → Int32 → Option (Int32 × Mm)) (hfk242 : ∀ (g : Mm) (x1 x3 x4 : Int32) (r : Int32) (t : Mm), k242 g x1 x3 x4 = some (r, t) → Fr [12, 13] [] g t), ∀ (g : Mm) (x1 x3 x4 : Int32) (r : Int32) (t : Mm), f_X7_ladder_J304 k242 g x1 x3 x4 = some (r, t) → Fr [12, 13] [] g t := by
    intro k242 hfk242 g x1 x3 x4 r t hf
    have hF : Fr [12, 13] [] g g := Fr.rf
    unfold f_X7_ladder_J304 at hf
    exact hF.tr (hfk242 g x1 x3 (x4 + 1) _ _ hf) (fun _ h => h) (fun _ h => h)
  have wf_242 : ∀ (n : Nat), ∀ (g : Mm) (x1 x3 x4 : Int32) (r : Int32) (t : Mm), f_X7_ladder_L242 n g x1 x3 x4 = some (r, t) → Fr [12, 13] [] g t := by
    intro n
    induction n with
    | zero =>
      intro g x1 x3 x4 r t hf
      cases hf
    | succ n ih =>
      intro g x1 x3 x4 r t hf
      have hF : Fr [12, 13] [] g g := Fr.rf
      unfold f_X7_ladder_L242 at hf
      by_cases c16 : (100 : Int32) ≤ x4
      · rw [if_pos c16] at hf
        cases hf; exact hF
      · rw [if_neg c16] at hf
        obtain ⟨v17, e17, hf⟩ := ob_e1 hf
        obtain ⟨v18, e18, hf⟩ := ob_e1 hf
        by_cases c19 : v18 = 0
        · rw [if_pos c19] at hf
          exact hF.tr (wf_304 (f_X7_ladder_L242 n) ih g x1 x3 x4 _ _ hf) (fun _ h => h) (fun _ h => h)
        · rw [if_neg c19] at hf
          obtain ⟨v20, e20, hf⟩ := ob_e1 hf
          obtain ⟨v21, e21, hf⟩ := ob_e1 hf
          by_cases c22 : v21 ≤ v20
          · rw [if_pos c22] at hf
            exact hF.tr (wf_304 (f_X7_ladder_L242 n) ih g x1 x3 x4 _ _ hf) (fun _ h => h) (fun _ h => h)
          · rw [if_neg c22] at hf
            by_cases c23 : x3 = x1
            · rw [if_pos c23] at hf
              cases hf; exact hF
            · rw [if_neg c23] at hf
              exact hF.tr (wf_304 (f_X7_ladder_L242 n) ih g x1 (x3 + 1) x4 _ _ hf) (fun _ h => h) (fun _ h => h)
  have hF : Fr [12, 13] [] g g := Fr.rf
  unfold f_X7_ladder at hf
  obtain ⟨g1, e1, hf⟩ := ob_e1 hf
  have hF := hF.st e1 (by simp)
  exact hF.tr (wf_13 (f_X7_ladder_L122 (f_X7_ladder_L242 FU) FU) (wf_122 (f_X7_ladder_L242 FU) (wf_242 FU) FU) FU g1 x1 1022 _ _ hf) (fun _ h => h) (fun _ h => h)
set_option maxHeartbeats 1000000 in
theorem fr_X7_high (g : Mm) (x1 : Int32) (r : Int32) (t : Mm) (hf : f_X7_high g x1 = some (r, t)) : Fr [14] [] g t := by
  have wf_104 : ∀ (k31 : Mm → Int32 → Int32 → Int32 → Int32 → Int32 → Option (Int32 × Mm)) (hfk31 : ∀ (g : Mm) (x1 x2 x3 x4 x5 : Int32) (r : Int32) (t : Mm), k31 g x1 x2 x3 x4 x5 = some (r, t) → Fr [14] [] g t), ∀ (g : Mm) (x1 x2 x3 x5 s0 : Int32) (r : Int32) (t : Mm), f_X7_high_J104 k31 g x1 x2 x3 x5 s0 = some (r, t) → Fr [14] [] g t := by
    intro k31 hfk31 g x1 x2 x3 x5 s0 r t hf
    have hF : Fr [14] [] g g := Fr.rf
    unfold f_X7_high_J104 at hf
    exact hF.tr (hfk31 g x1 x2 x3 s0 (x5 + 1) _ _ hf) (fun _ h => h) (fun _ h => h)
  have wf_88 : ∀ (k31 : Mm → Int32 → Int32 → Int32 → Int32 → Int32 → Option (Int32 × Mm)) (hfk31 : ∀ (g : Mm) (x1 x2 x3 x4 x5 : Int32) (r : Int32) (t : Mm), k31 g x1 x2 x3 x4 x5 = some (r, t) → Fr [14] [] g t), ∀ (g : Mm) (x1 x2 x3 x4 x5 s0 : Int32) (r : Int32) (t : Mm), f_X7_high_J88 k31 g x1 x2 x3 x4 x5 s0 = some (r, t) → Fr [14] [] g t := by
    intro k31 hfk31 g x1 x2 x3 x4 x5 s0 r t hf
    have hF : Fr [14] [] g g := Fr.rf
    unfold f_X7_high_J88 at hf
    by_cases c14 : s0 ≤ x4
    · rw [if_pos c14] at hf
      exact hF.tr (wf_104 k31 hfk31 g x1 x2 x3 x5 x4 _ _ hf) (fun _ h => h) (fun _ h => h)
    · rw [if_neg c14] at hf
      exact hF.tr (wf_104 k31 hfk31 g x1 x2 x3 x5 s0 _ _ hf) (fun _ h => h) (fun _ h => h)
  have wf_31 : ∀ (k112 : Mm → Int32 → Int32 → Int32 → Int32 → Option (Int32 × Mm)) (hfk112 : ∀ (g : Mm) (x1 x2 x3 x4 : Int32) (r : Int32) (t : Mm), k112 g x1 x2 x3 x4 = some (r, t) → Fr [14] [] g t) (n : Nat), ∀ (g : Mm) (x1 x2 x3 x4 x5 : Int32) (r : Int32) (t : Mm), f_X7_high_L31 k112 n g x1 x2 x3 x4 x5 = some (r, t) → Fr [14] [] g t := by
    intro k112 hfk112 n
    induction n with
    | zero =>
      intro g x1 x2 x3 x4 x5 r t hf
      cases hf
    | succ n ih =>
      intro g x1 x2 x3 x4 x5 r t hf
      have hF : Fr [14] [] g g := Fr.rf
      unfold f_X7_high_L31 at hf
      by_cases c6 : (10 : Int32) ≤ x5
      · rw [if_pos c6] at hf
        exact hF.tr (hfk112 g x1 x2 x3 x4 _ _ hf) (fun _ h => h) (fun _ h => h)
      · rw [if_neg c6] at hf
        obtain ⟨v7, e7, hf⟩ := ob_e1 hf
        by_cases c8 : v7 = 0
        · rw [if_pos c8] at hf
          exact hF.tr (hfk112 g x1 x2 x3 x4 _ _ hf) (fun _ h => h) (fun _ h => h)
        · rw [if_neg c8] at hf
          obtain ⟨v9, e9, hf⟩ := ob_e1 hf
          obtain ⟨v10, e10, hf⟩ := ob_e1 hf
          by_cases c11 : v10 = 0
          · rw [if_pos c11] at hf
            exact hF.tr (wf_88 (f_X7_high_L31 k112 n) ih g x1 x2 x3 x4 x5 0 _ _ hf) (fun _ h => h) (fun _ h => h)
          · rw [if_neg c11] at hf
            obtain ⟨v12, e12, hf⟩ := ob_e1 hf
            exact hF.tr (wf_88 (f_X7_high_L31 k112 n) ih g x1 x2 x3 x4 x5 (v12 + 1) _ _ hf) (fun _ h => h) (fun _ h => h)
  have wf_112 : ∀ (k19 : Mm → Int32 → Int32 → Int32 → Option (Int32 × Mm)) (hfk19 : ∀ (g : Mm) (x1 x2 x3 : Int32) (r : Int32) (t : Mm), k19 g x1 x2 x3 = some (r, t) → Fr [14] [] g t), ∀ (g : Mm) (x1 x2 x3 x4 : Int32) (r : Int32) (t : Mm), f_X7_high_J112 k19 g x1 x2 x3 x4 = some (r, t) → Fr [14] [] g t := by
    intro k19 hfk19 g x1 x2 x3 x4 r t hf
    have hF : Fr [14] [] g g := Fr.rf
    unfold f_X7_high_J112 at hf
    obtain ⟨g13, e13, hf⟩ := ob_e1 hf
    have hF := hF.st e13 (by simp)
    exact hF.tr (hfk19 g13 x1 x2 (x3 + 1) _ _ hf) (fun _ h => h) (fun _ h => h)
  have wf_19 : ∀ (k13 : Mm → Int32 → Int32 → Option (Int32 × Mm)) (hfk13 : ∀ (g : Mm) (x1 x2 : Int32) (r : Int32) (t : Mm), k13 g x1 x2 = some (r, t) → Fr [14] [] g t) (n : Nat), ∀ (g : Mm) (x1 x2 x3 : Int32) (r : Int32) (t : Mm), f_X7_high_L19 k13 n g x1 x2 x3 = some (r, t) → Fr [14] [] g t := by
    intro k13 hfk13 n
    induction n with
    | zero =>
      intro g x1 x2 x3 r t hf
      cases hf
    | succ n ih =>
      intro g x1 x2 x3 r t hf
      have hF : Fr [14] [] g g := Fr.rf
      unfold f_X7_high_L19 at hf
      by_cases c5 : (10 : Int32) ≤ x3
      · rw [if_pos c5] at hf
        exact hF.tr (hfk13 g x1 (x2 + (-1)) _ _ hf) (fun _ h => h) (fun _ h => h)
      · rw [if_neg c5] at hf
        exact hF.tr (wf_31 (f_X7_high_J112 (f_X7_high_L19 k13 n)) (wf_112 (f_X7_high_L19 k13 n) ih) FU g x1 x2 x3 0 0 _ _ hf) (fun _ h => h) (fun _ h => h)
  have wf_13 : ∀ (n : Nat), ∀ (g : Mm) (x1 x2 : Int32) (r : Int32) (t : Mm), f_X7_high_L13 n g x1 x2 = some (r, t) → Fr [14] [] g t := by
    intro n
    induction n with
    | zero =>
      intro g x1 x2 r t hf
      cases hf
    | succ n ih =>
      intro g x1 x2 r t hf
      have hF : Fr [14] [] g g := Fr.rf
      unfold f_X7_high_L13 at hf
      by_cases c3 : x2 ≤ 0
      · rw [if_pos c3] at hf
        obtain ⟨v4, e4, hf⟩ := ob_e1 hf
        cases hf; exact hF
      · rw [if_neg c3] at hf
        exact hF.tr (wf_19 (f_X7_high_L13 n) ih FU g x1 x2 0 _ _ hf) (fun _ h => h) (fun _ h => h)
  have hF : Fr [14] [] g g := Fr.rf
  unfold f_X7_high at hf
  obtain ⟨v1, e1, hf⟩ := ob_e1 hf
  by_cases c2 : v1 = 0
  · rw [if_pos c2] at hf
    cases hf; exact hF
  · rw [if_neg c2] at hf
    exact hF.tr (wf_13 FU g x1 1023 _ _ hf) (fun _ h => h) (fun _ h => h)
set_option maxHeartbeats 1000000 in
theorem fr_X7_image (g : Mm) (x1 : Int32) (r : Int32) (t : Mm) (hf : f_X7_image g x1 = some (r, t)) : Fr [15, 16] [] g t := by
  have wf_14 : ∀ (k65 : Mm → Int32 → Int32 → Option (Int32 × Mm)) (hfk65 : ∀ (g : Mm) (x1 x2 : Int32) (r : Int32) (t : Mm), k65 g x1 x2 = some (r, t) → Fr [15, 16] [] g t) (n : Nat), ∀ (g : Mm) (x1 x2 : Int32) (r : Int32) (t : Mm), f_X7_image_L14 k65 n g x1 x2 = some (r, t) → Fr [15, 16] [] g t := by
    intro k65 hfk65 n
    induction n with
    | zero =>
      intro g x1 x2 r t hf
      cases hf
    | succ n ih =>
      intro g x1 x2 r t hf
      have hF : Fr [15, 16] [] g g := Fr.rf
      unfold f_X7_image_L14 at hf
      by_cases c3 : (10 : Int32) ≤ x2
      · rw [if_pos c3] at hf
        exact hF.tr (hfk65 g x1 0 _ _ hf) (fun _ h => h) (fun _ h => h)
      · rw [if_neg c3] at hf
        obtain ⟨v4, e4, hf⟩ := ob_e1 hf
        obtain ⟨g5, e5, hf⟩ := ob_e1 hf
        have hF := hF.st e5 (by simp)
        obtain ⟨v6, e6, hf⟩ := ob_e1 hf
        obtain ⟨g7, e7, hf⟩ := ob_e1 hf
        have hF := hF.st e7 (by simp)
        exact hF.tr (ih g7 x1 (x2 + 1) _ _ hf) (fun _ h => h) (fun _ h => h)
  have wf_65 : ∀ (n : Nat), ∀ (g : Mm) (x1 x2 : Int32) (r : Int32) (t : Mm), f_X7_image_L65 n g x1 x2 = some (r, t) → Fr [15, 16] [] g t := by
    intro n
    induction n with
    | zero =>
      intro g x1 x2 r t hf
      cases hf
    | succ n ih =>
      intro g x1 x2 r t hf
      have hF : Fr [15, 16] [] g g := Fr.rf
      unfold f_X7_image_L65 at hf
      by_cases c8 : (5 : Int32) ≤ x2
      · rw [if_pos c8] at hf
        obtain ⟨g9, e9, hf⟩ := ob_e1 hf
        have hF := hF.sz e9 (by simp)
        cases hf; exact hF
      · rw [if_neg c8] at hf
        obtain ⟨v10, e10, hf⟩ := ob_e1 hf
        obtain ⟨g11, e11, hf⟩ := ob_e1 hf
        have hF := hF.st e11 (by simp)
        obtain ⟨v12, e12, hf⟩ := ob_e1 hf
        obtain ⟨g13, e13, hf⟩ := ob_e1 hf
        have hF := hF.st e13 (by simp)
        exact hF.tr (ih g13 x1 (x2 + 1) _ _ hf) (fun _ h => h) (fun _ h => h)
  have hF : Fr [15, 16] [] g g := Fr.rf
  unfold f_X7_image at hf
  obtain ⟨v1, e1, hf⟩ := ob_e1 hf
  by_cases c2 : v1 = 0
  · rw [if_pos c2] at hf
    cases hf; exact hF
  · rw [if_neg c2] at hf
    exact hF.tr (wf_14 (f_X7_image_L65 FU) (wf_65 FU) FU g x1 0 _ _ hf) (fun _ h => h) (fun _ h => h)
set_option maxHeartbeats 1000000 in
theorem fr_X7_restore (g : Mm) (x1 : Int32) (r : Int32) (t : Mm) (hf : f_X7_restore g x1 = some (r, t)) : Fr [2, 3, 4, 5] [] g t := by
  have wf_26 : ∀ (k77 : Mm → Int32 → Int32 → Option (Int32 × Mm)) (hfk77 : ∀ (g : Mm) (x1 x2 : Int32) (r : Int32) (t : Mm), k77 g x1 x2 = some (r, t) → Fr [2, 3, 4, 5] [] g t) (n : Nat), ∀ (g : Mm) (x1 x2 : Int32) (r : Int32) (t : Mm), f_X7_restore_L26 k77 n g x1 x2 = some (r, t) → Fr [2, 3, 4, 5] [] g t := by
    intro k77 hfk77 n
    induction n with
    | zero =>
      intro g x1 x2 r t hf
      cases hf
    | succ n ih =>
      intro g x1 x2 r t hf
      have hF : Fr [2, 3, 4, 5] [] g g := Fr.rf
      unfold f_X7_restore_L26 at hf
      by_cases c5 : (10 : Int32) ≤ x2
      · rw [if_pos c5] at hf
        exact hF.tr (hfk77 g x1 0 _ _ hf) (fun _ h => h) (fun _ h => h)
      · rw [if_neg c5] at hf
        obtain ⟨v6, e6, hf⟩ := ob_e1 hf
        obtain ⟨g7, e7, hf⟩ := ob_e1 hf
        have hF := hF.st e7 (by simp)
        obtain ⟨v8, e8, hf⟩ := ob_e1 hf
        obtain ⟨g9, e9, hf⟩ := ob_e1 hf
        have hF := hF.st e9 (by simp)
        exact hF.tr (ih g9 x1 (x2 + 1) _ _ hf) (fun _ h => h) (fun _ h => h)
  have wf_77 : ∀ (n : Nat), ∀ (g : Mm) (x1 x2 : Int32) (r : Int32) (t : Mm), f_X7_restore_L77 n g x1 x2 = some (r, t) → Fr [2, 3, 4, 5] [] g t := by
    intro n
    induction n with
    | zero =>
      intro g x1 x2 r t hf
      cases hf
    | succ n ih =>
      intro g x1 x2 r t hf
      have hF : Fr [2, 3, 4, 5] [] g g := Fr.rf
      unfold f_X7_restore_L77 at hf
      by_cases c10 : (5 : Int32) ≤ x2
      · rw [if_pos c10] at hf
        cases hf; exact hF
      · rw [if_neg c10] at hf
        obtain ⟨v11, e11, hf⟩ := ob_e1 hf
        obtain ⟨g12, e12, hf⟩ := ob_e1 hf
        have hF := hF.st e12 (by simp)
        obtain ⟨v13, e13, hf⟩ := ob_e1 hf
        obtain ⟨g14, e14, hf⟩ := ob_e1 hf
        have hF := hF.st e14 (by simp)
        exact hF.tr (ih g14 x1 (x2 + 1) _ _ hf) (fun _ h => h) (fun _ h => h)
  have hF : Fr [2, 3, 4, 5] [] g g := Fr.rf
  unfold f_X7_restore at hf
  obtain ⟨v1, e1, hf⟩ := ob_e1 hf
  by_cases c2 : v1 = 0
  · rw [if_pos c2] at hf
    cases hf; exact hF
  · rw [if_neg c2] at hf
    obtain ⟨v3, e3, hf⟩ := ob_e1 hf
    by_cases c4 : v3 = 0
    · rw [if_pos c4] at hf
      cases hf; exact hF
    · rw [if_neg c4] at hf
      exact hF.tr (wf_26 (f_X7_restore_L77 FU) (wf_77 FU) FU g x1 0 _ _ hf) (fun _ h => h) (fun _ h => h)
set_option maxHeartbeats 1000000 in
theorem fr_X7_join (g : Mm) (x1 : Int32) (r : Int32) (t : Mm) (hf : f_X7_join g x1 = some (r, t)) : Fr [2] [] g t := by
  have wf_26 : ∀ (n : Nat), ∀ (g : Mm) (x1 x2 : Int32) (r : Int32) (t : Mm), f_X7_join_L26 n g x1 x2 = some (r, t) → Fr [2] [] g t := by
    intro n
    induction n with
    | zero =>
      intro g x1 x2 r t hf
      cases hf
    | succ n ih =>
      intro g x1 x2 r t hf
      have hF : Fr [2] [] g g := Fr.rf
      unfold f_X7_join_L26 at hf
      by_cases c5 : (10 : Int32) ≤ x2
      · rw [if_pos c5] at hf
        obtain ⟨v6, e6, hf⟩ := ob_e1 hf
        cases hf; exact hF
      · rw [if_neg c5] at hf
        obtain ⟨v7, e7, hf⟩ := ob_e1 hf
        obtain ⟨v8, e8, hf⟩ := ob_e1 hf
        obtain ⟨g9, e9, hf⟩ := ob_e1 hf
        have hF := hF.st e9 (by simp)
        exact hF.tr (ih g9 x1 (x2 + 1) _ _ hf) (fun _ h => h) (fun _ h => h)
  have hF : Fr [2] [] g g := Fr.rf
  unfold f_X7_join at hf
  obtain ⟨v1, e1, hf⟩ := ob_e1 hf
  by_cases c2 : v1 = 0
  · rw [if_pos c2] at hf
    cases hf; exact hF
  · rw [if_neg c2] at hf
    obtain ⟨v3, e3, hf⟩ := ob_e1 hf
    by_cases c4 : v3 = 0
    · rw [if_pos c4] at hf
      cases hf; exact hF
    · rw [if_neg c4] at hf
      exact hF.tr (wf_26 FU g x1 0 _ _ hf) (fun _ h => h) (fun _ h => h)
