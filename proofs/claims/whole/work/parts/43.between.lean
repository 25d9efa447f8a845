/-! From one insult to another one with some between. -/
def fo {α : Type} (f : Nat → α → α) (lo : Nat) : Nat → α → α
  | 0, st => st
  | n + 1, st => f (lo + n) (fo f lo n st)
theorem fo_add {α : Type} (f : Nat → α → α) (lo a : Nat) (st : α) : ∀ b, fo f lo (a + b) st = fo f (lo + a) b (fo f lo a st)
  | 0 => rfl
  | b + 1 => by
    show f (lo + (a + b)) (fo f lo (a + b) st) = f (lo + a + b) (fo f (lo + a) b (fo f lo a st))
    rw [fo_add f lo a st b, Nat.add_assoc]
theorem fo_front {α : Type} (f : Nat → α → α) (lo n : Nat) (st : α) : fo f lo (n + 1) st = fo f (lo + 1) n (f lo st) := by
  rw [Nat.add_comm n 1, fo_add]
  rfl
theorem fo_cong {α : Type} {f g : Nat → α → α} {lo : Nat} (st : α) : ∀ n, (∀ m, m < n → ∀ t, f (lo + m) t = g (lo + m) t) → fo f lo n st = fo g lo n st
  | 0, _ => rfl
  | n + 1, h => by
    show f (lo + n) (fo f lo n st) = g (lo + n) (fo g lo n st)
    rw [fo_cong st n (fun m hm => h m (by omega)), h n (by omega)]
theorem fo_shift {α : Type} (f : Nat → α → α) (lo : Nat) (st : α) : ∀ n, fo f lo n st = fo (fun m => f (lo + m)) 0 n st
  | 0 => rfl
  | n + 1 => by
    show f (lo + n) (fo f lo n st) = f (lo + (0 + n)) (fo (fun m => f (lo + m)) 0 n st)
    rw [fo_shift f lo st n, Nat.zero_add]
theorem fo_id {α : Type} (st : α) : ∀ (lo n : Nat), fo (fun _ (t : α) => t) lo n st = st
  | _, 0 => rfl
  | lo, n + 1 => fo_id st lo n
theorem fo_blocks {α : Type} (F : Nat → α → α) (B : Nat) (st : α) : ∀ n, fo (fun x t => fo (fun m => F (x * B + m)) 0 B t) 0 n st = fo F 0 (n * B) st
  | 0 => by rw [Nat.zero_mul]; rfl
  | n + 1 => by
    show fo (fun m => F ((0 + n) * B + m)) 0 B (fo (fun x t => fo (fun m => F (x * B + m)) 0 B t) 0 n st) = _
    rw [fo_blocks F B st n, Nat.succ_mul, fo_add, Nat.zero_add, Nat.zero_add, fo_shift F (n * B)]
def stp (asked : Int32) (b : Bool) (v : Nat) (st : Nat × Int32) : Nat × Int32 := if b then (st.1 + 1, if nI st.1 = asked then nI v else st.2) else st
def wk (A : Nat → Nat) (goal : Nat) (asked : Int32) : Nat → Nat → Nat → Nat → Nat × Int32 → Nat × Int32
  | 0, a, _, d, st => stp asked ((A a).testBit goal) d st
  | k + 1, a, us, d, st => fo (fun x t => if (dif (A a) us).testBit x then wk A goal asked k x (us ||| 2 ^ x) (d * 10 + x) t else t) 0 10 st
def okw (A : Nat → Nat) (goal : Nat) : Nat → Nat → Nat → Nat → Bool
  | 0, a, _, _ => (A a).testBit goal
  | k + 1, a, us, m => (dif (A a) us).testBit (m / 10 ^ k) && okw A goal k (m / 10 ^ k) (us ||| 2 ^ (m / 10 ^ k)) (m % 10 ^ k)
theorem wk_fo (A : Nat → Nat) (goal : Nat) (asked : Int32) : ∀ (k a us d : Nat) (st : Nat × Int32), wk A goal asked k a us d st = fo (fun m => stp asked (okw A goal k a us m) (d * 10 ^ k + m)) 0 (10 ^ k) st
  | 0, a, us, d, st => by
    show stp asked ((A a).testBit goal) d st = stp asked ((A a).testBit goal) (d * 10 ^ 0 + (0 + 0)) st
    rw [Nat.pow_zero, Nat.mul_one, Nat.add_zero]
  | k + 1, a, us, d, st => by
    show fo (fun x t => if (dif (A a) us).testBit x then wk A goal asked k x (us ||| 2 ^ x) (d * 10 + x) t else t) 0 10 st = _
    rw [Nat.pow_succ, Nat.mul_comm (10 ^ k) 10, ← fo_blocks]
    apply fo_cong
    intro x hx t
    rw [Nat.zero_add]
    have hB : 0 < 10 ^ k := Nat.pow_pos (by decide)
    have e : ∀ m, m < 10 ^ k → okw A goal (k + 1) a us (x * 10 ^ k + m) = ((dif (A a) us).testBit x && okw A goal k x (us ||| 2 ^ x) m) := by
      intro m hm
      have e1 : (x * 10 ^ k + m) / 10 ^ k = x := by
        rw [Nat.add_comm, Nat.add_mul_div_right _ _ hB, Nat.div_eq_of_lt hm, Nat.zero_add]
      have e2 : (x * 10 ^ k + m) % 10 ^ k = m := by
        rw [Nat.add_comm, Nat.add_mul_mod_self_right, Nat.mod_eq_of_lt hm]
      show ((dif (A a) us).testBit ((x * 10 ^ k + m) / 10 ^ k) && okw A goal k ((x * 10 ^ k + m) / 10 ^ k) (us ||| 2 ^ ((x * 10 ^ k + m) / 10 ^ k)) ((x * 10 ^ k + m) % 10 ^ k)) = _
      rw [e1, e2]
    cases hb : (dif (A a) us).testBit x
    · rw [if_neg (by decide)]
      have h1 : fo (fun m => stp asked (okw A goal (k + 1) a us (x * 10 ^ k + m)) (d * (10 * 10 ^ k) + (x * 10 ^ k + m))) 0 (10 ^ k) t = fo (fun _ (t : Nat × Int32) => t) 0 (10 ^ k) t := by
        apply fo_cong
        intro m hm t
        rw [Nat.zero_add, e m hm, hb, Bool.false_and]
        rfl
      exact ((h1.trans (fo_id t 0 _))).symm
    · rw [if_pos rfl, wk_fo A goal asked k x (us ||| 2 ^ x) (d * 10 + x) t]
      apply fo_cong
      intro m hm t
      rw [Nat.zero_add]
      show stp asked (okw A goal k x (us ||| 2 ^ x) m) ((d * 10 + x) * 10 ^ k + m) t = stp asked (okw A goal (k + 1) a us (x * 10 ^ k + m)) (d * (10 * 10 ^ k) + (x * 10 ^ k + m)) t
      rw [e m hm, hb, Bool.true_and, Nat.add_mul, Nat.mul_assoc, Nat.add_assoc]
/-- what the class has, while it searches -/
def WX (A : Nat → Nat) (goal : Nat) (asked : Int32) (g : Mm) (st : Nat × Int32) : Prop := TW g 3 10 A ∧ g 29 1 = nI goal ∧ g 29 2 = asked ∧ g 29 3 = nI st.1 ∧ g 29 4 = st.2
theorem fx_walk {A : Nat → Nat} (hA : ∀ i, i < 10 → A i < 1024) {goal : Nat} (hg : goal < 10) {asked : Int32} : ∀ (n k a us d : Nat) (st : Nat × Int32) (g : Mm), k < n → k < 100 → a < 10 → us < 1024 → WX A goal asked g st → ∃ g', fN_X5_walk n g (nI a) (nI us) (nI k) (nI d) = some g' ∧ WX A goal asked g' (wk A goal asked k a us d st) := by
  intro n
  induction n with
  | zero => intro k a us d st g h; omega
  | succ n ih =>
    intro k a us d st g hk hk1 ha hu hX
    have hAa := hA a ha
    show ∃ g', f_X5_walk (fN_X5_walk n) g (nI a) (nI us) (nI k) (nI d) = some g' ∧ _
    unfold f_X5_walk
    cases k with
    | zero =>
      obtain ⟨h1, h2, h3, h4, h5⟩ := hX
      rw [if_neg (show ¬ (0 : Int32) < nI 0 by decide), ob_b1_s (fx_worse ha), show g (2 + 1) a = nI (A a) from h1 a ha, h2, ob_b1_s (fx_has (by omega) (by omega))]
      show ∃ g', _ ∧ WX A goal asked g' (stp asked ((A a).testBit goal) d st)
      unfold stp f_X5_walk_J40
      cases hb : (A a).testBit goal
      · rw [if_pos bf0, if_neg (by decide)]
        exact ⟨g, rfl, h1, h2, h3, h4, h5⟩
      · rw [if_neg (bnot rfl), if_pos rfl, h4, h3]
        by_cases c : nI st.1 = asked
        · rw [if_pos c, if_pos c, ob_up_k (by decide), h4, nI_1]
          exact ⟨_, rfl, (h1.ne (by decide)).ne (by decide), by rw [ob_up_k (by decide), ob_up_k (by decide)]; exact h2, by rw [ob_up_k (by decide), ob_up_k (by decide)]; exact h3, ob_up_s _ _ _ _, by rw [ob_up_k (by decide)]; exact ob_up_s _ _ _ _⟩
        · rw [if_neg c, if_neg c, nI_1]
          exact ⟨_, rfl, h1.ne (by decide), by rw [ob_up_k (by decide)]; exact h2, by rw [ob_up_k (by decide)]; exact h3, ob_up_s _ _ _ _, by rw [ob_up_k (by decide)]; exact h5⟩
    | succ k =>
      rw [if_pos (show (0 : Int32) < nI (k + 1) from nI_lt (a := 0) (by omega) (by omega))]
      have key : ∀ (m i : Nat) (g : Mm), i ≤ 10 → 10 < i + m → WX A goal asked g (fo (fun x t => if (dif (A a) us).testBit x then wk A goal asked k x (us ||| 2 ^ x) (d * 10 + x) t else t) 0 i st) → ∃ g', f_X5_walk_L54 (fN_X5_walk n) m g (nI a) (nI us) (nI (k + 1)) (nI d) (nI i) = some g' ∧ WX A goal asked g' (fo (fun x t => if (dif (A a) us).testBit x then wk A goal asked k x (us ||| 2 ^ x) (d * 10 + x) t else t) 0 10 st) := by
        intro m
        induction m with
        | zero => intro i g h1 h2; omega
        | succ m ih2 =>
          intro i g h1 h2 hG
          unfold f_X5_walk_L54
          rcases Nat.lt_or_ge i 10 with q | q
          · have hd := dif_lt (b := us) hAa
            rw [if_neg (show ¬ (10 : Int32) ≤ nI i from nI_ge q (by decide)), ob_b1_s (fx_worse ha), show g (2 + 1) a = nI (A a) from hG.1 a ha, pb_dif hAa, ob_b1_s (fx_has (by omega) (by omega))]
            unfold f_X5_walk_J107
            have e2 := fun g1 => ih2 (i + 1) g1 (by omega) (by omega)
            have es : fo (fun x t => if (dif (A a) us).testBit x then wk A goal asked k x (us ||| 2 ^ x) (d * 10 + x) t else t) 0 (i + 1) st = (fun x t => if (dif (A a) us).testBit x then wk A goal asked k x (us ||| 2 ^ x) (d * 10 + x) t else t) (0 + i) (fo (fun x t => if (dif (A a) us).testBit x then wk A goal asked k x (us ||| 2 ^ x) (d * 10 + x) t else t) 0 i st) := rfl
            rw [es, Nat.zero_add] at e2
            dsimp only at e2
            cases hb : (dif (A a) us).testBit i
            · rw [hb, if_neg (by decide)] at e2
              rw [if_pos bf0, nI_1]
              exact e2 g hG
            · rw [hb, if_pos rfl] at e2
              rw [if_neg (bnot rfl), pb_sh1 i (by omega), pb_or, show (1 : Int32) = nI 1 from rfl, pk_sub (by omega), show k + 1 - 1 = k by omega, show (10 : Int32) = nI 10 from rfl, pk_mul, nI_add]
              obtain ⟨g1, a1, a2⟩ := ih k i (us ||| 2 ^ i) (d * 10 + i) _ g (by omega) (by omega) q (or_lt2 hu q) hG
              rw [ob_b1_s a1, nI_add]
              exact e2 g1 a2
          · have e : i = 10 := by omega
            subst e
            rw [if_pos (show (10 : Int32) ≤ nI 10 by decide)]
            exact ⟨g, rfl, hG⟩
      obtain ⟨z, hz⟩ := FU_ge (n := 11) (by decide)
      exact key FU 0 g (by omega) (by omega) hX
/-- what the reference answers from code N - j on, with c found before -/
def mrw (asked : Int32) (ok : Nat → Bool) (N : Nat) : Nat → Nat → Int32
  | 0, c => if asked = -1 then nI c else -6
  | j + 1, c => if ok (N - (j + 1)) then (if nI c = asked then nI (N + (N - (j + 1))) else mrw asked ok N j (c + 1)) else mrw asked ok N j c
theorem mrw_s (asked : Int32) (ok : Nat → Bool) {N q c : Nat} (hq : q < N) : mrw asked ok N (N - q) c = if ok q then (if nI c = asked then nI (N + q) else mrw asked ok N (N - (q + 1)) (c + 1)) else mrw asked ok N (N - (q + 1)) c := by
  have e : N - q = (N - (q + 1)) + 1 := by omega
  rw [e]
  show (if ok (N - ((N - (q + 1)) + 1)) then (if nI c = asked then nI (N + (N - ((N - (q + 1)) + 1))) else mrw asked ok N (N - (q + 1)) (c + 1)) else mrw asked ok N (N - (q + 1)) c) = _
  rw [show N - ((N - (q + 1)) + 1) = q by omega]
theorem fo_found {asked : Int32} {ok : Nat → Bool} {N c0 : Nat} (h0 : nI c0 = asked) : ∀ (j q c : Nat) (w : Int32), c0 < c → c + j < 2 ^ 31 → (fo (fun m => stp asked (ok m) (N + m)) q j (c, w)).2 = w := by
  intro j
  induction j with
  | zero => intro q c w h1 h2; rfl
  | succ j ih =>
    intro q c w h1 h2
    rw [fo_front]
    show (fo (fun m => stp asked (ok m) (N + m)) (q + 1) j (stp asked (ok q) (N + q) (c, w))).2 = w
    unfold stp
    cases ok q
    · rw [if_neg (by decide)]
      exact ih (q + 1) c w h1 (by omega)
    · have hne : ¬ nI c = asked := fun z => by
        rw [← h0] at z
        have := (nI_eq (by omega) (by omega)).mp z
        omega
      rw [if_pos rfl]
      show (fo (fun m => stp asked (ok m) (N + m)) (q + 1) j (c + 1, if nI c = asked then nI (N + q) else w)).2 = w
      rw [if_neg hne]
      exact ih (q + 1) (c + 1) w (by omega) (by omega)
theorem fo_mrw {asked : Int32} {ok : Nat → Bool} {N : Nat} (hN : N ≤ 10000) : ∀ (j q c : Nat), q + j = N → c ≤ q → (∀ c', c' < c → ¬ nI c' = asked) → (if asked = -1 then nI (fo (fun m => stp asked (ok m) (N + m)) q j (c, -6)).1 else (fo (fun m => stp asked (ok m) (N + m)) q j (c, -6)).2) = mrw asked ok N j c := by
  intro j
  induction j with
  | zero => intro q c h1 h2 h3; rfl
  | succ j ih =>
    intro q c h1 h2 h3
    have e : j + 1 = N - q := by omega
    have e3 : j = N - (q + 1) := by omega
    rw [fo_front]
    rw [show mrw asked ok N (j + 1) c = if ok q then (if nI c = asked then nI (N + q) else mrw asked ok N j (c + 1)) else mrw asked ok N j c by rw [e, mrw_s asked ok (by omega), ← e3]]
    show (if asked = -1 then nI (fo (fun m => stp asked (ok m) (N + m)) (q + 1) j (stp asked (ok q) (N + q) (c, -6))).1 else (fo (fun m => stp asked (ok m) (N + m)) (q + 1) j (stp asked (ok q) (N + q) (c, -6))).2) = _
    have e2 : ∀ b, stp asked b (N + q) (c, -6) = if b then (c + 1, if nI c = asked then nI (N + q) else -6) else (c, -6) := fun b => rfl
    rw [e2]
    cases ok q
    · rw [if_neg (show ¬ (false = true) from Bool.false_ne_true), if_neg (show ¬ (false = true) from Bool.false_ne_true)]
      exact ih (q + 1) c (by omega) (by omega) h3
    · rw [if_pos rfl, if_pos rfl]
      by_cases hc : nI c = asked
      · have hm1 : ¬ asked = -1 := fun z => by rw [z] at hc; exact nI_ne_m1 (by omega) hc
        rw [if_pos hc, if_pos hc, if_neg hm1]
        exact fo_found hc j (q + 1) (c + 1) _ (by omega) (by omega)
      · rw [if_neg hc, if_neg hc]
        refine ih (q + 1) (c + 1) (by omega) (by omega) (fun c' h4 => ?_)
        by_cases e5 : c' = c
        · rw [e5]; exact hc
        · exact h3 c' (by omega)
theorem pow10_le : ∀ k, k ≤ 4 → 10 ^ k ≤ 10000 := by decide
theorem fm_code {A : Nat → Nat} (hA : ∀ i, i < 10 → A i < 1024) {g : Mm} (hT : TW g 2 10 A) {goal : Nat} (hg : goal < 10) (k64 : Int32 → Int32 → Int32 → Int32 → Int32 → Int32 → Int32 → Option Int32) (x1 x4 x5 x6 : Int32) {k code : Nat} (hk : k ≤ 4) (hc : code < 10 ^ k) : ∀ (r m a us : Nat), r ≤ k → r + 1 < m → a < 10 → us < 1024 →
    f_X7_between_L93 g (f_X7_between_J172 g k64) m x1 (nI goal) (nI k) x4 x5 x6 (nI code) (nI (10 ^ r)) (nI a) (nI us) 1 (nI (k - r)) = (if okw A goal r a us (code % 10 ^ r) then (if x6 = x4 then some (x5 + nI code) else f_X7_between_J207 g k64 x1 (nI goal) (nI k) x4 x5 (x6 + 1) (nI code)) else f_X7_between_J207 g k64 x1 (nI goal) (nI k) x4 x5 x6 (nI code)) := by
  intro r
  have hc4 := pow10_le k hk
  induction r with
  | zero =>
    intro m a us h1 h2 ha hu
    obtain ⟨m, rfl⟩ : ∃ m', m = m' + 1 := ⟨m - 1, by omega⟩
    unfold f_X7_between_L93
    have hAa := hA a ha
    rw [if_pos (nI_le (show k ≤ k - 0 by omega) (by omega))]
    unfold f_X7_between_J172
    rw [if_neg (by decide), ob_b1_s (ob_ld_nI ha (by decide)), hT a ha, ob_b1_s (fm_has (by omega) (by omega))]
    show _ = if (A a).testBit goal then _ else _
    cases (A a).testBit goal
    · rw [if_pos bf0, if_neg (by decide)]
    · rw [if_neg (bnot rfl), if_pos rfl]
  | succ r ih =>
    intro m a us h1 h2 ha hu
    obtain ⟨m, rfl⟩ : ∃ m', m = m' + 1 := ⟨m - 1, by omega⟩
    have hAa := hA a ha
    have hB : 0 < 10 ^ r := Nat.pow_pos (by decide)
    have hB4 := pow10_le r (by omega)
    have hB5 := pow10_le (r + 1) (by omega)
    have e1 : 10 ^ (r + 1) / 10 = 10 ^ r := by rw [Nat.pow_succ, Nat.mul_div_cancel _ (by decide)]
    unfold f_X7_between_L93
    have hnz : ob_nz (nI (10 ^ r)) = some () := by
      unfold ob_nz
      rw [if_neg (show ¬ nI (10 ^ r) = 0 from fun z => by have := (nI_eq (b := 0) (by omega) (by decide)).mp z; omega)]
    rw [if_neg (nI_ge (show k - (r + 1) < k by omega) (by omega)), if_neg (by decide), show (10 : Int32) = nI 10 from rfl, pk_div (by omega) (by decide) (by decide), e1, ob_b1_s hnz, pk_div (by omega) hB (by omega), pk_rem (by have := Nat.div_le_self code (10 ^ r); omega) (by decide) (by decide)]
    have hx : code / 10 ^ r % 10 < 10 := Nat.mod_lt _ (by decide)
    have ed : code % 10 ^ (r + 1) / 10 ^ r = code / 10 ^ r % 10 := by rw [Nat.pow_succ, Nat.mod_mul_right_div_self]
    have em : code % 10 ^ (r + 1) % 10 ^ r = code % 10 ^ r := Nat.mod_mod_of_dvd _ ⟨10, Nat.pow_succ ..⟩
    have eo : okw A goal (r + 1) a us (code % 10 ^ (r + 1)) = ((dif (A a) us).testBit (code / 10 ^ r % 10) && okw A goal r (code / 10 ^ r % 10) (us ||| 2 ^ (code / 10 ^ r % 10)) (code % 10 ^ r)) := by
      show ((dif (A a) us).testBit (code % 10 ^ (r + 1) / 10 ^ r) && okw A goal r (code % 10 ^ (r + 1) / 10 ^ r) (us ||| 2 ^ (code % 10 ^ (r + 1) / 10 ^ r)) (code % 10 ^ (r + 1) % 10 ^ r)) = _
      rw [ed, em]
    rw [eo, dif_bit hAa]
    generalize code / 10 ^ r % 10 = x at hx
    have stop : ∀ y z : Int32, f_X7_between_L93 g (f_X7_between_J172 g k64) m x1 (nI goal) (nI k) x4 x5 x6 (nI code) (nI (10 ^ r)) y z 0 (nI (k - (r + 1)) + 1) = f_X7_between_J207 g k64 x1 (nI goal) (nI k) x4 x5 x6 (nI code) := by
      intro y z
      obtain ⟨m, rfl⟩ : ∃ m', m = m' + 1 := ⟨m - 1, by omega⟩
      have hz : f_X7_between_J172 g k64 x1 (nI goal) (nI k) x4 x5 x6 (nI code) y 0 = f_X7_between_J207 g k64 x1 (nI goal) (nI k) x4 x5 x6 (nI code) := by
        unfold f_X7_between_J172
        rw [if_pos rfl]
      unfold f_X7_between_L93
      by_cases c : nI k ≤ nI (k - (r + 1)) + 1
      · rw [if_pos c]
        exact hz
      · rw [if_neg c, if_pos rfl]
        exact hz
    rw [ob_b1_s (ob_ld_nI ha (by decide)), hT a ha, ob_b1_s (fm_has (by omega) (by omega))]
    unfold f_X7_between_J150 f_X7_between_J151
    rw [pb_sh1 x (by omega), pb_or]
    cases hb1 : (A a).testBit x
    · rw [if_pos bf0, Bool.false_and, Bool.false_and, if_neg (by decide)]
      exact stop _ _
    · rw [if_neg (bnot rfl), ob_b1_s (fm_has (by omega) (by omega))]
      cases hb2 : us.testBit x
      · rw [if_pos bf0, nI_1, show k - (r + 1) + 1 = k - r by omega]
        have h5 := ih m x (us ||| 2 ^ x) (by omega) (by omega) hx (or_lt2 hu hx)
        exact h5
      · rw [if_neg (bnot rfl)]
        exact stop _ _
theorem fm_between {A : Nat → Nat} (hA : ∀ i, i < 10 → A i < 1024) {g : Mm} (hT : TW g 2 10 A) {a goal k : Nat} (ha : a < 10) (hg : goal < 10) (hk : k ≤ 4) (x4 : Int32) : f_X7_between_L39 g (f_X7_between_L64 g FU) FU (nI a) (nI goal) (nI k) x4 1 0 = some (mrw x4 (okw A goal k a (2 ^ a ||| 2 ^ goal)) (10 ^ k) (10 ^ k) 0) := by
  have hc4 := pow10_le k hk
  obtain ⟨z, hz⟩ := FU_ge (n := 10002) (by decide)
  have outer : ∀ (m q c : Nat), q ≤ 10 ^ k → 10 ^ k < q + m → c ≤ q → f_X7_between_L64 g m (nI a) (nI goal) (nI k) x4 (nI (10 ^ k)) (nI c) (nI q) = some (mrw x4 (okw A goal k a (2 ^ a ||| 2 ^ goal)) (10 ^ k) (10 ^ k - q) c) := by
    intro m
    induction m with
    | zero => intro q c h1 h2; omega
    | succ m ih =>
      intro q c h1 h2 h3
      unfold f_X7_between_L64
      rcases Nat.lt_or_ge q (10 ^ k) with h | h
      · have hs : 2 ^ a ||| 2 ^ goal < 1024 := or_lt (pow_lt a ha) (pow_lt goal hg)
        have h5 := fm_code hA hT hg (f_X7_between_L64 g m) (nI a) x4 (nI (10 ^ k)) (nI c) hk h k FU a (2 ^ a ||| 2 ^ goal) (Nat.le_refl _) (by omega) ha hs
        rw [Nat.sub_self, Nat.mod_eq_of_lt h] at h5
        rw [if_neg (nI_ge h (by omega)), pb_sh1 a (by omega), pb_sh1 goal (by omega), pb_or, mrw_s _ _ h]
        refine Eq.trans h5 ?_
        unfold f_X7_between_J207
        rw [nI_1, nI_1, nI_add, ih (q + 1) c (by omega) (by omega) (by omega), ih (q + 1) (c + 1) (by omega) (by omega) (by omega)]
        cases okw A goal k a (2 ^ a ||| 2 ^ goal) q
        · rw [if_neg (by decide), if_neg (by decide)]
        · rw [if_pos rfl, if_pos rfl]
          by_cases e : nI c = x4
          · rw [if_pos e, if_pos e]
          · rw [if_neg e, if_neg e]
      · have e : q = 10 ^ k := by omega
        rw [e, if_pos (nI_le (Nat.le_refl _) (by omega)), Nat.sub_self]
        show _ = some (if x4 = -1 then nI c else -6)
        by_cases e : x4 = -1
        · rw [if_pos e, if_pos e]
        · rw [if_neg e, if_neg e]
  have codes : ∀ (m j : Nat), j ≤ k → k < j + m → f_X7_between_L39 g (f_X7_between_L64 g FU) m (nI a) (nI goal) (nI k) x4 (nI (10 ^ j)) (nI j) = some (mrw x4 (okw A goal k a (2 ^ a ||| 2 ^ goal)) (10 ^ k) (10 ^ k) 0) := by
    intro m
    induction m with
    | zero => intro j h1 h2; omega
    | succ m ih =>
      intro j h1 h2
      unfold f_X7_between_L39
      rcases Nat.lt_or_ge j k with h | h
      · rw [if_neg (nI_ge h (by omega)), show (10 : Int32) = nI 10 from rfl, pk_mul, nI_1, ← Nat.pow_succ]
        exact ih (j + 1) (by omega) (by omega)
      · have e : j = k := by omega
        subst e
        rw [if_pos (nI_le (Nat.le_refl _) (by omega))]
        exact outer FU 0 0 (Nat.zero_le _) (by omega) (by omega)
  exact codes FU 0 (by omega) (by omega)
theorem ag_between {k : Nat} {s u : Mm} (h : Rel k s u) (a b c d : Int32) : ∃ r s', f_X6_between s a b c d = some (r, s') ∧ f_X7_between u a b c d = some r ∧ Rel (k + 1) s' u := by
  obtain ⟨⟨W, N, T, K, hR, hT⟩, -, -, -, hM, -⟩ := id h
  have he : ∃ r s', f_X6_between s a b c d = some (r, s') ∧ f_X7_between u a b c d = some r := by
    unfold f_X6_between f_X7_between
    rw [ob_b1_s (fx_isInsult a), ob_b1_s (fm_isInsult a)]
    cases h1 : inr a 0 9
    · exact ⟨-1, s, by rw [if_pos bf0], by rw [if_pos bf0]⟩
    rw [if_neg (bnot rfl), if_neg (bnot rfl), ob_b1_s (fx_isInsult b), ob_b1_s (fm_isInsult b)]
    cases h2 : inr b 0 9
    · exact ⟨-1, s, by rw [if_pos bf0], by rw [if_pos bf0]⟩
    rw [if_neg (bnot rfl), if_neg (bnot rfl)]
    by_cases h3 : a = b
    · exact ⟨-1, s, by rw [if_pos h3], by rw [if_pos h3]⟩
    rw [if_neg h3, if_neg h3, ob_b1_s (fx_within c 0 4), ob_b1_s (fm_in c 0 4)]
    cases h4 : inr c 0 4
    · exact ⟨-2, s, by rw [if_pos bf0], by rw [if_pos bf0]⟩
    obtain ⟨i, hi, rfl⟩ := inr_of (n := 9) (by decide) h1
    obtain ⟨j, hj, rfl⟩ := inr_of (n := 9) (by decide) h2
    obtain ⟨l, hl, rfl⟩ := inr_of (n := 4) (by decide) h4
    have hi10 : i < 10 := by omega
    have hj10 : j < 10 := by omega
    have hN := pow10_le l hl
    rw [if_neg (bnot rfl), if_neg (bnot rfl), fm_between hR.w hT.u.1 hi10 hj10 hl d]
    have hs : 2 ^ i ||| 2 ^ j < 1024 := or_lt (pow_lt i hi10) (pow_lt j hj10)
    obtain ⟨g', a1, a2⟩ := fx_walk hR.w hj10 6 l i (2 ^ i ||| 2 ^ j) 1 (0, -6) (ob_up (ob_up (ob_up (ob_up s 29 1 (nI j)) 29 2 d) 29 3 0) 29 4 (-6)) (by omega) (by omega) hi10 hs (show WX W j d _ (0, -6) from ⟨(((hT.x.1.ne (by decide)).ne (by decide)).ne (by decide)).ne (by decide), by rw [ob_up_k (by decide), ob_up_k (by decide), ob_up_k (by decide), ob_up_s], by rw [ob_up_k (by decide), ob_up_k (by decide), ob_up_s], by rw [ob_up_k (by decide), ob_up_s]; rfl, ob_up_s _ _ _ _⟩)
    rw [wk_fo] at a2
    have e1 : f_X5_search s (nI i) (nI j) (nI l) d = some g' := by
      unfold f_X5_search
      rw [pb_sh1 i (by omega), pb_sh1 j (by omega), pb_or, show (1 : Int32) = nI 1 from rfl, ob_b1_s a1]
    have e2 := fo_mrw (asked := d) (ok := okw W j l i (2 ^ i ||| 2 ^ j)) hN (10 ^ l) 0 0 (by omega) (by omega) (fun c' h => by omega)
    rw [Nat.one_mul] at a2
    rw [ob_b1_s e1]
    refine ⟨_, g', ?_, congrArg some e2.symm⟩
    by_cases hd : d = -1
    · rw [if_pos hd, if_pos hd]
      unfold f_X5_count
      rw [ob_b1_s rfl, a2.2.2.2.1]
    · rw [if_neg hd, if_neg hd]
      unfold f_X5_wanted
      rw [ob_b1_s rfl, a2.2.2.2.2]
  obtain ⟨r, s', e1, e2⟩ := he
  have f1 := fr_X6_between _ _ _ _ _ _ _ e1
  have f2 : Fr [] [] u u := fun _ _ _ _ => rfl
  exact ⟨r, s', e1, e2, h.scr f1 f2 (by decide) (by decide) (by decide) ((hM.fr f1 (by decide) (by decide)).mono (by omega))⟩
