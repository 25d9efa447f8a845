/-! The reference's days. -/
theorem fm_canSay {W N T K M : Nat → Nat} {n : Nat} {g : Mm} (hR : Rng W N T K) (hU : MU W N T K M n g) (hn : 0 < n) : ∃ g', f_X7_canSay g (nI n) = some (bI (el0 W (FI N T) K (seg M 0 n)), g') ∧ ∀ q k, q ≠ 9 → g' q k = g q k := by
  have hn5 := hU.2.1
  obtain ⟨z, hz⟩ := FU_ge (n := 400000) (by decide)
  have hB : ∀ r, r ≤ 5 → Bd r ≤ 338206 := by decide
  have hBn := hB n hn5
  unfold f_X7_canSay
  rw [show (0 : Int32) = nI 0 from rfl, ob_b1_s (ob_st_nI (by decide) (by decide))]
  have hx := fm_search hR hn n 0 (fun _ => 0) (ob_up g 9 0 (-1)) FU (by omega) (hU.upd (fun q k hq => ob_up_r hq)) (fun j hj => by omega) (fun _ => ob_up_s _ _ _ _) (by omega)
  have he : elp W (FI N T) K M n 0 (fun _ => 0) = el0 W (FI N T) K (seg M 0 n) := by
    unfold elp
    rw [if_pos rfl]
  rw [he] at hx
  cases hb : el0 W (FI N T) K (seg M 0 n)
  · obtain ⟨g', f', c1, c2, c3, c4⟩ := hx.2 hb
    obtain ⟨f', rfl⟩ : ∃ f'', f' = f'' + 1 := ⟨f' - 1, by omega⟩
    refine ⟨g', ?_, fun q k hq => by rw [c3 q k hq, ob_up_r hq]⟩
    refine Eq.trans c2 ?_
    unfold f_X7_canSay_L9 f_X7_canSay_J72
    rw [if_pos (show nI 0 + (-1) < 0 by decide), if_neg (show ¬ nI 0 + (-1) = nI n from fun z => nI_ne_m1 (a := n) (by omega) (by rw [← z]; decide))]
    rfl
  · obtain ⟨g', c1, c2⟩ := hx.1 hb
    exact ⟨g', c1, fun q k hq => by rw [c2 q k hq, ob_up_r hq]⟩
def Md (code j : Nat) : Nat := code / 5 ^ j % 5
theorem Md_lt (code j : Nat) : Md code j < 5 := Nat.mod_lt _ (by decide)
theorem Md_s (code j : Nat) : Md code (j + 1) = Md (code / 5) j := by
  unfold Md
  rw [Nat.pow_succ, Nat.mul_comm, Nat.div_div_eq_div_mul]
theorem fm_layRow {g : Mm} {code n set : Nat} (hc : code < 2 ^ 31) (hn : n ≤ 5) (hs : set < 32) (hcard : card set = n) : ∃ g', f_X7_layRow g (nI code) (nI set) (nI n) = some (bI (decide (fset (Md code) n = set)), g') ∧ (∀ j, j < n → g' 8 j = nI (Md code j)) ∧ ∀ q k, q ≠ 8 → g' q k = g q k := by
  have key : ∀ (m i : Nat) (g1 : Mm), i ≤ n → n < i + m → (∀ j, j < i → g1 8 j = nI (Md code j)) → ∃ g', f_X7_layRow_L9 m g1 (nI set) (nI n) (nI (code / 5 ^ i)) (nI (fset (Md code) i)) (nI i) = some (bI (decide (fset (Md code) n = set)), g') ∧ (∀ j, j < n → g' 8 j = nI (Md code j)) ∧ ∀ q k, q ≠ 8 → g' q k = g1 q k := by
    intro m
    induction m with
    | zero => intro i g1 h1 h2; omega
    | succ m ih =>
      intro i g1 h1 h2 h3
      have hf := fset_lt (w := Md code) i (fun j _ => by have := Md_lt code j; omega)
      unfold f_X7_layRow_L9
      rcases Nat.lt_or_ge i n with q | q
      · have hq : code / 5 ^ i ≤ code := Nat.div_le_self _ _
        have hm := Md_lt code i
        have e5 : nI (code / 5 ^ i) - nI (code / 5 ^ i) / 5 * 5 = nI (Md code i) := pk_rem (d := 5) (by omega) (by decide) (by decide)
        have e6 : nI (code / 5 ^ i) / 5 = nI (code / 5 ^ (i + 1)) := by
          rw [show (5 : Int32) = nI 5 from rfl, pk_div (by omega) (by decide) (by decide), Nat.div_div_eq_div_mul, Nat.pow_succ]
        rw [if_neg (nI_ge q (by omega)), e5, e6, ob_b1_s (ob_st_nI (by omega) (by decide)), ob_b1_s (ob_ld_nI (by omega) (by decide)), ob_up_s, pb_sh1 _ (by omega), pb_or, nI_1]
        obtain ⟨g', a1, a2, a3⟩ := ih (i + 1) (ob_up g1 8 i (nI (Md code i))) (by omega) (by omega) (fun j hj => by
          by_cases e : j = i
          · subst e; exact ob_up_s _ _ _ _
          · rw [ob_up_k e]; exact h3 j (by omega))
        exact ⟨g', a1, a2, fun q k hq => by rw [a3 q k hq, ob_up_r hq]⟩
      · have e : i = n := by omega
        subst e
        rw [if_pos (nI_le (Nat.le_refl _) (by omega))]
        by_cases c : fset (Md code) i = set
        · rw [if_pos (by rw [c]), c, ob_b1_s (fm_bits (show set < 1024 by omega)), if_pos (by rw [hcard]), decide_eq_true rfl]
          exact ⟨g1, rfl, h3, fun _ _ _ => rfl⟩
        · rw [if_neg (fun z => c ((nI_eq (by omega) (by omega)).mp z)), decide_eq_false c]
          exact ⟨g1, rfl, h3, fun _ _ _ => rfl⟩
  obtain ⟨z, hz⟩ := FU_ge (n := 11) (by decide)
  have h0 := key FU 0 g (by omega) (by omega) (fun j hj => by omega)
  rw [Nat.pow_zero, Nat.div_one] at h0
  exact h0
/-! Rows of men and their codes. -/
def unl : List Nat → Nat
  | [] => 0
  | m :: l => 2 ^ m ||| unl l
theorem fset_unl (M : Nat → Nat) : ∀ r p, fset M p ||| unl (seg M p r) = fset M (p + r)
  | 0, p => Nat.or_zero _
  | r + 1, p => by
    show fset M p ||| (2 ^ M p ||| unl (seg M (p + 1) r)) = fset M (p + (r + 1))
    rw [← Nat.or_assoc, show p + (r + 1) = (p + 1) + r by omega, ← fset_unl M r (p + 1)]
    rfl
theorem seg_len (M : Nat → Nat) : ∀ r p, (seg M p r).length = r
  | 0, _ => rfl
  | r + 1, p => by
    show (seg M (p + 1) r).length + 1 = r + 1
    rw [seg_len M r (p + 1)]
theorem seg_lt {M : Nat → Nat} (h : ∀ j, M j < 5) : ∀ r p, ∀ m ∈ seg M p r, m < 5
  | 0, _ => by intro m hm; cases hm
  | r + 1, p => by
    intro m hm
    rcases List.mem_cons.mp hm with e | e
    · rw [e]; exact h p
    · exact seg_lt h r (p + 1) m e
theorem unl_lt : ∀ l : List Nat, (∀ m ∈ l, m < 5) → unl l < 1024
  | [], _ => by show 0 < 1024; decide
  | m :: l, h => or_lt (pow_lt m (by have := h m (List.mem_cons_self ..); omega)) (unl_lt l (fun k hk => h k (List.mem_cons_of_mem _ hk)))
theorem or_comm2 (a b : Nat) : a ||| b = b ||| a := Nat.or_comm a b
theorem unl_card : ∀ l : List Nat, (∀ m ∈ l, m < 5) → card (unl l) ≤ l.length
  | [], _ => by show card 0 ≤ 0; decide
  | m :: l, h => by
    have h1 := unl_card l (fun k hk => h k (List.mem_cons_of_mem _ hk))
    have hm := h m (List.mem_cons_self ..)
    show card (2 ^ m ||| unl l) ≤ l.length + 1
    cases hb : (unl l).testBit m
    · rw [or_comm2, card_or (by omega) hb]; omega
    · have e : 2 ^ m ||| unl l = unl l := by
        apply bit_ext
        intro i
        rw [Nat.testBit_or, Nat.testBit_two_pow]
        by_cases e : m = i
        · subst e; simp [hb]
        · simp [e]
      rw [e]; omega
theorem lst_un : ∀ (l : List Nat) (s : Nat), s < 1024 → lst l s → unl l = s ∧ l.length = card s ∧ ∀ m ∈ l, m < 5
  | [], s, _, h => by
    have e : s = 0 := h
    rw [e]
    exact ⟨rfl, by show 0 = card 0; decide, fun m hm => by cases hm⟩
  | m :: l, s, hs, h => by
    obtain ⟨h1, h2, h3⟩ := h
    obtain ⟨a1, a2, a3⟩ := lst_un l _ (dif_lt hs) h3
    refine ⟨?_, ?_, ?_⟩
    · show 2 ^ m ||| unl l = s
      rw [a1, or_comm2, dif_or hs h2]
    · show l.length + 1 = card s
      rw [a2, card_dif hs (by omega) h2]
    · intro k hk
      rcases List.mem_cons.mp hk with e | e
      · rw [e]; exact h1
      · exact a3 k e
theorem un_lst : ∀ (l : List Nat) (s : Nat), s < 1024 → (∀ m ∈ l, m < 5) → unl l = s → l.length = card s → lst l s
  | [], s, _, _, h, _ => h.symm
  | m :: l, s, hs, h1, h2, h3 => by
    have hm := h1 m (List.mem_cons_self ..)
    have hl : ∀ k ∈ l, k < 5 := fun k hk => h1 k (List.mem_cons_of_mem _ hk)
    have e1 : 2 ^ m ||| unl l = s := h2
    have e2 : l.length + 1 = card s := h3
    have hb : s.testBit m = true := by rw [← e1, Nat.testBit_or, Nat.testBit_two_pow_self]; rfl
    have hc := unl_card l hl
    have hnb : (unl l).testBit m = false := by
      cases hb2 : (unl l).testBit m
      · rfl
      · have e : 2 ^ m ||| unl l = unl l := by
          apply bit_ext
          intro i
          rw [Nat.testBit_or, Nat.testBit_two_pow]
          by_cases e : m = i
          · subst e; simp [hb2]
          · simp [e]
        rw [e] at e1
        rw [e1] at hc
        omega
    have e3 : dif s (2 ^ m) = unl l := by
      apply bit_ext
      intro i
      rw [dif_bit hs, ← e1, Nat.testBit_or, Nat.testBit_two_pow]
      by_cases e : m = i
      · subst e; simp [hnb]
      · simp [e]
    have e4 := card_dif hs (show m < 10 by omega) hb
    refine ⟨hm, hb, un_lst l _ (dif_lt hs) hl e3.symm (by omega)⟩
theorem seg_cong {M M' : Nat → Nat} (h : ∀ j, M (j + 1) = M' j) : ∀ r p, seg M (p + 1) r = seg M' p r
  | 0, _ => rfl
  | r + 1, p => by
    show M (p + 1) :: seg M (p + 1 + 1) r = M' p :: seg M' (p + 1) r
    rw [h p, seg_cong h r (p + 1)]
theorem code_of : ∀ l : List Nat, (∀ m ∈ l, m < 5) → ∃ code, code < 5 ^ l.length ∧ seg (Md code) 0 l.length = l
  | [], _ => ⟨0, by show 0 < 1; decide, rfl⟩
  | m :: l, h => by
    obtain ⟨c, h1, h2⟩ := code_of l (fun k hk => h k (List.mem_cons_of_mem _ hk))
    have hm := h m (List.mem_cons_self ..)
    have hd : (m + 5 * c) / 5 = c := by omega
    refine ⟨m + 5 * c, ?_, ?_⟩
    · show m + 5 * c < 5 ^ (l.length + 1)
      rw [Nat.pow_succ]
      omega
    · show Md (m + 5 * c) 0 :: seg (Md (m + 5 * c)) (0 + 1) l.length = m :: l
      rw [seg_cong (M' := Md c) (fun j => by rw [Md_s, hd]) l.length 0, h2]
      have : Md (m + 5 * c) 0 = m := by
        unfold Md
        rw [Nat.pow_zero, Nat.div_one]
        omega
      rw [this]
theorem DY_code {W F K : Nat → Nat} {set : Nat} (hs : set < 32) : DY W F K set ↔ ∃ code, code < 5 ^ card set ∧ fset (Md code) (card set) = set ∧ el0 W F K (seg (Md code) 0 (card set)) = true := by
  constructor
  · rintro ⟨l, h1, h2⟩
    obtain ⟨a1, a2, a3⟩ := lst_un l set (by omega) h1
    obtain ⟨c, b1, b2⟩ := code_of l a3
    rw [a2] at b1 b2
    have h3 := fset_unl (Md c) (card set) 0
    rw [b2, a1, Nat.zero_add] at h3
    have h4 : (0 : Nat) ||| set = fset (Md c) (card set) := h3
    rw [Nat.zero_or] at h4
    exact ⟨c, b1, h4.symm, by rw [b2]; exact h2⟩
  · rintro ⟨c, h1, h2, h3⟩
    refine ⟨seg (Md c) 0 (card set), un_lst _ set (by omega) (seg_lt (Md_lt c) _ _) ?_ (seg_len _ _ _), h3⟩
    have h4 := fset_unl (Md c) (card set) 0
    rw [Nat.zero_add, h2] at h4
    have h5 : (0 : Nat) ||| unl (seg (Md c) 0 (card set)) = set := h4
    rw [Nat.zero_or] at h5
    exact h5
