/-! What holds between the class's memory and the reference's, between two calls. -/
theorem fm_fitOf {g : Mm} {N T : Nat → Nat} {m : Nat} (hN : TW g 3 10 N) (hT : TW g 4 5 T) (rN : ∀ i, i < 10 → N i < 64) (hm : m < 5) : f_X7_fitOf g (nI m) = some (nI (FI N T m)) := by
  have key : ∀ (n i : Nat), i ≤ 10 → 10 < i + n → f_X7_fitOf_L4 g n (nI m) (nI (mk (fitB N T m) i)) (nI i) = some (nI (FI N T m)) := by
    intro n
    induction n with
    | zero => intro i h1 h2; omega
    | succ n ih =>
      intro i h1 h2
      unfold f_X7_fitOf_L4
      rcases Nat.lt_or_ge i 10 with q | q
      · rw [if_neg (show ¬ (10 : Int32) ≤ nI i from nI_ge q (by decide)), ob_b1_s (ob_ld_nI q (by decide)), ob_b1_s (ob_ld_nI hm (by decide)), hN i q, hT m hm, pb_dif (by have := rN i q; omega)]
        have e : mk (fitB N T m) (i + 1) = mk (fitB N T m) i ||| (if fitB N T m i then 2 ^ i else 0) := rfl
        have e0 : (nI (dif (N i) (T m)) = 0) ↔ fitB N T m i = true := by
          show nI _ = nI 0 ↔ _
          rw [nI_eq (by have := dif_lt (a := N i) (b := T m) (by have := rN i q; omega); omega) (by decide)]
          unfold fitB
          simp
        have e2 := ih (i + 1) (by omega) (by omega)
        by_cases hc : fitB N T m i = true
        · rw [if_pos (e0.mpr hc)]
          unfold f_X7_fitOf_J36
          rw [pb_sh1 i (by omega), pb_or, nI_1]
          rw [e, if_pos hc] at e2
          exact e2
        · rw [if_neg (fun z => hc (e0.mp z))]
          unfold f_X7_fitOf_J36
          rw [show (0 : Int32) = nI 0 from rfl, pb_or, nI_1]
          rw [e, if_neg hc] at e2
          exact e2
      · have hi : i = 10 := by omega
        subst hi
        rw [if_pos (show (10 : Int32) ≤ nI 10 by decide)]
        rfl
  unfold f_X7_fitOf
  obtain ⟨z, hz⟩ := FU_ge (n := 11) (by decide)
  exact key FU 0 (by omega) (by omega)
theorem fx_sayable {b : Nat} {g : Mm} {N T K : Nat → Nat} {m o : Nat} (hN : TW g (b + 2) 10 N) (hT : TW g (b + 3) 5 T) (hK : TW g (b + 4) 5 K) (rN : ∀ i, i < 10 → N i < 64) (hm : m < 5) (ho : o < 5) : f_X4_sayable b g (nI m) (nI o) = some (nI (K m &&& FI N T o)) := by
  unfold f_X4_sayable
  rw [ob_b1_s (fx_known hm), ob_b1_s (fx_fitting hN hT rN ho), hK m hm, pb_and]
def Rng (W N T K : Nat → Nat) : Prop := (∀ i, i < 10 → W i < 1024 ∧ (W i).testBit i = false ∧ N i < 64) ∧ ∀ i, i < 5 → T i < 64 ∧ K i < 1024
def RT (s u : Mm) (W N T K : Nat → Nat) : Prop := TW s 3 10 W ∧ TW s 4 10 N ∧ TW s 5 5 T ∧ TW s 6 5 K ∧ TW u 2 10 W ∧ TW u 3 10 N ∧ TW u 4 5 T ∧ TW u 5 5 K
def RP (s u : Mm) : Prop := ∃ (n : Nat) (S : Nat → Nat), n ≤ 40 ∧ s 1 1 = nI n ∧ u 0 0 = nI n ∧ ∀ i, i < n → 33 ≤ S i ∧ S i ≤ 126 ∧ s 30 i = nI (S i) ∧ u 1 i = nI (S i)
def IM (s u : Mm) (b n : Nat) (W N T K : Nat → Nat) : Prop := (TW s (b + 1) 10 W ∧ TW s (b + 2) 10 N ∧ TW s (b + 3) 5 T ∧ TW s (b + 4) 5 K) ∧ (∀ i, i < 10 → u 15 (30 * n + i) = nI (W i) ∧ u 15 (30 * n + 10 + i) = nI (N i)) ∧ ∀ i, i < 5 → u 15 (30 * n + 20 + i) = nI (T i) ∧ u 15 (30 * n + 25 + i) = nI (K i)
def RI (s u : Mm) (b n : Nat) : Prop := ∃ kept : Bool, s b 4 = bI kept ∧ u 16 n = bI kept ∧ (kept = true → ∃ W N T K, Rng W N T K ∧ IM s u b n W N T K)
-- the order: the fewest steps back that the others bring, by the set that stands first
def mn (f : Nat → Nat) : Nat → Nat
  | 0 => 1000
  | n + 1 => if f n < mn f n then f n else mn f n
def amn (f : Nat → Nat) : Nat → Nat
  | 0 => 0
  | n + 1 => if f n < mn f n then n else amn f n
def bkn (A : Nat → Nat) : Nat → Nat → Nat
  | 0, _ => 0
  | n + 1, s => mn (fun x => if s.testBit x then 1000 else card (A x &&& s) + bkn A n (s ||| 2 ^ x)) 10
def bk (A : Nat → Nat) (s : Nat) : Nat := bkn A (10 - card s) s
def cst (A : Nat → Nat) (s x : Nat) : Nat := if s.testBit x then 1000 else card (A x &&& s) + bk A (s ||| 2 ^ x)
def nx (A : Nat → Nat) (s : Nat) : Nat := amn (cst A s) 10
def pl (A : Nat → Nat) : Nat → Nat
  | 0 => 0
  | p + 1 => pl A p ||| 2 ^ nx A (pl A p)
def rkn (A : Nat → Nat) : Nat → Nat → Nat
  | 0, _ => 0
  | p + 1, x => if nx A (pl A p) = x then p else rkn A p x
def rk (A : Nat → Nat) (x : Nat) : Nat := rkn A 10 x
def RO (s : Mm) : Prop := s 24 5 = 0 ∨ (s 24 5 = 1 ∧ ∃ A : Nat → Nat, (∀ i, i < 10 → A i < 1024) ∧ TW s 28 10 A ∧ TW s 26 1024 (bk A) ∧ TW s 27 10 (rk A))
def RM (s : Mm) (k : Nat) : Prop := ∃ R, R ≤ 16 * k ∧ RMx s R
def Rel (k : Nat) (s u : Mm) : Prop := (∃ W N T K, Rng W N T K ∧ RT s u W N T K) ∧ RP s u ∧ RI s u 7 0 ∧ RI s u 12 1 ∧ RM s k ∧ RO s
theorem Rel.mono {k j : Nat} {s u : Mm} (h : Rel k s u) (hk : k ≤ j) : Rel j s u := by
  obtain ⟨h1, h2, h3, h4, ⟨R, hR, h5⟩, h6⟩ := h
  exact ⟨h1, h2, h3, h4, ⟨R, by omega, h5⟩, h6⟩
theorem RT.fr {s u s' u' : Mm} {W N T K : Nat → Nat} {S S' : List Nat} {F F' : List (Nat × Nat)} (h : RT s u W N T K) (hs : Fr S F s s') (hu : Fr S' F' u u') (d1 : ∀ q ∈ [3, 4, 5, 6], ¬ q ∈ S ∧ ∀ x, x ∈ F → ¬ x.1 = q) (d2 : ∀ q ∈ [2, 3, 4, 5], ¬ q ∈ S' ∧ ∀ x, x ∈ F' → ¬ x.1 = q) : RT s' u' W N T K := by
  obtain ⟨h1, h2, h3, h4, h5, h6, h7, h8⟩ := h
  have a1 := d1 3 (by decide)
  have a2 := d1 4 (by decide)
  have a3 := d1 5 (by decide)
  have a4 := d1 6 (by decide)
  have b1 := d2 2 (by decide)
  have b2 := d2 3 (by decide)
  have b3 := d2 4 (by decide)
  have b4 := d2 5 (by decide)
  exact ⟨h1.fr hs a1.1 a1.2, h2.fr hs a2.1 a2.2, h3.fr hs a3.1 a3.2, h4.fr hs a4.1 a4.2, h5.fr hu b1.1 b1.2, h6.fr hu b2.1 b2.2, h7.fr hu b3.1 b3.2, h8.fr hu b4.1 b4.2⟩
theorem Fr.at {S : List Nat} {F : List (Nat × Nat)} {g t : Mm} (h : Fr S F g t) (q k : Nat) (hq : ¬ q ∈ S) (hk : ¬ (q, k) ∈ F) : t q k = g q k := h q k hq hk
theorem Fr.row {S : List Nat} {F : List (Nat × Nat)} {g t : Mm} (h : Fr S F g t) {q : Nat} (d : ¬ q ∈ S ∧ ∀ x, x ∈ F → ¬ x.1 = q) (k : Nat) : t q k = g q k := h q k d.1 (fun z => d.2 _ z rfl)
theorem RP.fr {s u s' u' : Mm} {S S' : List Nat} {F F' : List (Nat × Nat)} (h : RP s u) (hs : Fr S F s s') (hu : Fr S' F' u u') (d1 : (¬ 1 ∈ S ∧ ¬ (1, 1) ∈ F) ∧ (¬ 30 ∈ S ∧ ∀ x, x ∈ F → ¬ x.1 = 30)) (d2 : (¬ 0 ∈ S' ∧ ¬ (0, 0) ∈ F') ∧ (¬ 1 ∈ S' ∧ ∀ x, x ∈ F' → ¬ x.1 = 1)) : RP s' u' := by
  obtain ⟨n, T, h1, h2, h3, h4⟩ := h
  refine ⟨n, T, h1, by rw [hs 1 1 d1.1.1 d1.1.2]; exact h2, by rw [hu 0 0 d2.1.1 d2.1.2]; exact h3, fun i hi => ?_⟩
  rw [hs.row d1.2, hu.row d2.2]
  exact h4 i hi
theorem IM.fr {s u s' u' : Mm} {b n : Nat} {W N T K : Nat → Nat} {S S' : List Nat} {F F' : List (Nat × Nat)} (h : IM s u b n W N T K) (hs : Fr S F s s') (hu : Fr S' F' u u') (d1 : ∀ i, i < 4 → ¬ (b + 1 + i) ∈ S ∧ ∀ x, x ∈ F → ¬ x.1 = b + 1 + i) (d2 : ¬ 15 ∈ S' ∧ ∀ x, x ∈ F' → ¬ x.1 = 15) : IM s' u' b n W N T K := by
  obtain ⟨⟨h1, h2, h3, h4⟩, h5, h6⟩ := h
  have a1 := d1 0 (by decide)
  have a2 := d1 1 (by decide)
  have a3 := d1 2 (by decide)
  have a4 := d1 3 (by decide)
  refine ⟨⟨h1.fr hs a1.1 a1.2, h2.fr hs a2.1 a2.2, h3.fr hs a3.1 a3.2, h4.fr hs a4.1 a4.2⟩, fun i hi => ?_, fun i hi => ?_⟩
  · rw [hu.row d2, hu.row d2]; exact h5 i hi
  · rw [hu.row d2, hu.row d2]; exact h6 i hi
theorem RI.fr {s u s' u' : Mm} {b n : Nat} {S S' : List Nat} {F F' : List (Nat × Nat)} (h : RI s u b n) (hs : Fr S F s s') (hu : Fr S' F' u u') (d0 : ¬ b ∈ S ∧ ¬ (b, 4) ∈ F) (d1 : ∀ i, i < 4 → ¬ (b + 1 + i) ∈ S ∧ ∀ x, x ∈ F → ¬ x.1 = b + 1 + i) (d2 : ¬ 15 ∈ S' ∧ ∀ x, x ∈ F' → ¬ x.1 = 15) (d3 : ¬ 16 ∈ S' ∧ ∀ x, x ∈ F' → ¬ x.1 = 16) : RI s' u' b n := by
  obtain ⟨kept, h1, h2, h3⟩ := h
  refine ⟨kept, by rw [hs b 4 d0.1 d0.2]; exact h1, by rw [hu.row d3]; exact h2, fun hk => ?_⟩
  obtain ⟨W, N, T, K, h4, h5⟩ := h3 hk
  exact ⟨W, N, T, K, h4, h5.fr hs hu d1 d2⟩
theorem RO.fr {s s' : Mm} {S : List Nat} {F : List (Nat × Nat)} (h : RO s) (hs : Fr S F s s') (d0 : ¬ 24 ∈ S ∧ ¬ (24, 5) ∈ F) (d1 : ∀ q ∈ [26, 27, 28], ¬ q ∈ S ∧ ∀ x, x ∈ F → ¬ x.1 = q) : RO s' := by
  have e := hs 24 5 d0.1 d0.2
  rcases h with h | ⟨h, A, h1, h2, h3, h4⟩
  · exact Or.inl (by rw [e]; exact h)
  · have a1 := d1 26 (by decide)
    have a2 := d1 27 (by decide)
    have a3 := d1 28 (by decide)
    exact Or.inr ⟨by rw [e]; exact h, A, h1, h2.fr hs a3.1 a3.2, h3.fr hs a1.1 a1.2, h4.fr hs a2.1 a2.2⟩
theorem RM.fr {s s' : Mm} {k : Nat} {S : List Nat} {F : List (Nat × Nat)} (h : RM s k) (hs : Fr S F s s') (d0 : ¬ 17 ∈ S ∧ ¬ (17, 2) ∈ F) (d1 : ¬ 18 ∈ S ∧ ∀ x, x ∈ F → ¬ x.1 = 18) : RM s' k := by
  obtain ⟨R, h1, h2, h3⟩ := h
  exact ⟨R, h1, by rw [hs 17 2 d0.1 d0.2]; exact h2, fun q hq => by rw [hs.row d1]; exact h3 q hq⟩
/-- only notes and tables changed: what the class and the reference stand for is as it was -/
theorem Rel.scr {k : Nat} {s u s' u' : Mm} {S S' : List Nat} {F F' : List (Nat × Nat)} (h : Rel k s u) (hs : Fr S F s s') (hu : Fr S' F' u u') (dS : ∀ q ∈ [1, 2, 3, 4, 5, 6, 7, 8, 9, 10, 11, 12, 13, 14, 15, 16, 24, 26, 27, 28, 30], ¬ q ∈ S ∧ ∀ x, x ∈ F → ¬ x.1 = q) (dU : ∀ q ∈ [1, 2, 3, 4, 5, 15, 16], ¬ q ∈ S' ∧ ∀ x, x ∈ F' → ¬ x.1 = q) (d0 : ¬ 0 ∈ S' ∧ ¬ (0, 0) ∈ F') (hm : RM s' (k + 1)) : Rel (k + 1) s' u' := by
  obtain ⟨⟨W, N, T, K, h1, h2⟩, h3, h4, h5, h6, h7⟩ := h
  have p : ∀ q ∈ [1, 2, 3, 4, 5, 6, 7, 8, 9, 10, 11, 12, 13, 14, 15, 16, 24, 26, 27, 28, 30], ∀ j, ¬ q ∈ S ∧ ¬ (q, j) ∈ F := fun q hq j => ⟨(dS q hq).1, fun z => (dS q hq).2 _ z rfl⟩
  have hall : ∀ b, (b = 7 ∨ b = 12) → ∀ i, i < 4 → ¬ (b + 1 + i) ∈ S ∧ ∀ x, x ∈ F → ¬ x.1 = b + 1 + i := by
    intro b hb i hi
    apply dS
    rcases hb with rfl | rfl <;> rcases (show i = 0 ∨ i = 1 ∨ i = 2 ∨ i = 3 by omega) with rfl | rfl | rfl | rfl <;> decide
  refine ⟨⟨W, N, T, K, h1, h2.fr hs hu (fun q hq => dS q ?_) (fun q hq => dU q ?_)⟩, h3.fr hs hu ⟨p 1 (by decide) 1, dS 30 (by decide)⟩ ⟨d0, dU 1 (by decide)⟩, h4.fr hs hu (p 7 (by decide) 4) (hall 7 (Or.inl rfl)) (dU 15 (by decide)) (dU 16 (by decide)), h5.fr hs hu (p 12 (by decide) 4) (hall 12 (Or.inr rfl)) (dU 15 (by decide)) (dU 16 (by decide)), hm, h7.fr hs (p 24 (by decide) 5) (fun q hq => dS q ?_)⟩
  · revert q; decide
  · revert q; decide
  · revert q; decide
theorem RM.mono {s : Mm} {k j : Nat} (h : RM s k) (hk : k ≤ j) : RM s j := by
  obtain ⟨R, h1, h2⟩ := h
  exact ⟨R, by omega, h2⟩
