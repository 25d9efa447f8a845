/-! The game by itself: who must answer, how it ends. -/
def mxs (f : Nat → Nat) : Nat → Nat
  | 0 => 0
  | n + 1 => if mxs f n < f n then f n else mxs f n
theorem mxs_s (f : Nat → Nat) (n : Nat) : mxs f (n + 1) = if mxs f n < f n then f n else mxs f n := rfl
theorem mxs_le {f : Nat → Nat} {n i : Nat} (h : i < n) : f i ≤ mxs f n := by
  induction n with
  | zero => omega
  | succ n ih =>
    rw [mxs_s]
    rcases Nat.lt_or_ge i n with q | q
    · have h1 := ih q
      split <;> omega
    · have e : i = n := by omega
      subst e
      split <;> omega
theorem mxs_ub {f : Nat → Nat} {n c : Nat} (h : ∀ i, i < n → f i ≤ c) : mxs f n ≤ c := by
  induction n with
  | zero => exact Nat.zero_le c
  | succ n ih =>
    rw [mxs_s]
    have h1 := ih (fun i hi => h i (by omega))
    have h2 := h n (by omega)
    split <;> omega
theorem mxs_mono {f : Nat → Nat} {m n : Nat} (h : m ≤ n) : mxs f m ≤ mxs f n := mxs_ub (fun i hi => mxs_le (by omega))
theorem mxs_cong {f g : Nat → Nat} : ∀ {n : Nat}, (∀ i, i < n → f i = g i) → mxs f n = mxs g n
  | 0, _ => rfl
  | n + 1, h => by
    rw [mxs_s, mxs_s, mxs_cong (fun i hi => h i (by omega)), h n (by omega)]
theorem mxs_at (f : Nat → Nat) : ∀ n : Nat, mxs f n = 0 ∨ ∃ i, i < n ∧ f i = mxs f n
  | 0 => Or.inl rfl
  | n + 1 => by
    rw [mxs_s]
    split
    · exact Or.inr ⟨n, by omega, rfl⟩
    · rcases mxs_at f n with h | ⟨i, hi, h⟩
      · exact Or.inl h
      · exact Or.inr ⟨i, by omega, h⟩
/-- the first place of the greatest -/
def arg (f : Nat → Nat) : Nat → Nat
  | 0 => 0
  | n + 1 => if mxs f n < f n then n else arg f n
theorem arg_s (f : Nat → Nat) (n : Nat) : arg f (n + 1) = if mxs f n < f n then n else arg f n := rfl
theorem arg_lt {f : Nat → Nat} : ∀ {n : Nat}, 0 < mxs f n → arg f n < n
  | 0, h => absurd h (Nat.lt_irrefl 0)
  | n + 1, h => by
    rw [arg_s]
    rw [mxs_s] at h
    split
    · omega
    · rename_i hc
      rw [if_neg hc] at h
      have := arg_lt h
      omega
theorem arg_cong {f g : Nat → Nat} : ∀ {n : Nat}, (∀ i, i < n → f i = g i) → arg f n = arg g n
  | 0, _ => rfl
  | n + 1, h => by
    rw [arg_s, arg_s, arg_cong (fun i hi => h i (by omega)), mxs_cong (fun i hi => h i (by omega)), h n (by omega)]
theorem arg_stop {f : Nat → Nat} {m n : Nat} (h : m ≤ n) (hb : ∀ i, i < n → f i ≤ mxs f m) : arg f n = arg f m := by
  induction n with
  | zero => have e : m = 0 := by omega
            subst e; rfl
  | succ n ih =>
    rcases Nat.lt_or_ge m (n + 1) with q | q
    · rw [arg_s, if_neg, ih (by omega) (fun i hi => hb i (by omega))]
      have h1 := hb n (by omega)
      have h2 : mxs f m ≤ mxs f n := mxs_mono (by omega)
      omega
    · have e : m = n + 1 := by omega
      subst e; rfl
theorem mxs_stop {f : Nat → Nat} {m n : Nat} (h : m ≤ n) (hb : ∀ i, i < n → f i ≤ mxs f m) : mxs f n = mxs f m :=
  Nat.le_antisymm (mxs_ub hb) (mxs_mono h)
-- how many are left
theorem pc_or {a : Nat} {x : Nat} (hx : a.testBit x = false) : ∀ n : Nat, pc (a ||| 2 ^ x) n = pc a n + (if x < n then 1 else 0)
  | 0 => by simp [pc]
  | n + 1 => by
    unfold pc
    rw [pc_or hx n, Nat.testBit_or, Nat.testBit_two_pow]
    by_cases e : x = n
    · subst e
      simp [hx]
    · have e2 : decide (x = n) = false := decide_eq_false e
      rw [e2, Bool.or_false]
      have e3 : (x < n + 1) ↔ x < n := by omega
      simp only [e3]
      omega
theorem card_or {a x : Nat} (hx : x < 10) (ha : a.testBit x = false) : card (a ||| 2 ^ x) = card a + 1 := by
  have h := pc_or ha 10
  rw [if_pos hx] at h
  exact h
theorem pc_full {a : Nat} : ∀ {n : Nat}, pc a n = n → ∀ i, i < n → a.testBit i = true
  | 0, _, i, hi => absurd hi (Nat.not_lt_zero i)
  | n + 1, h, i, hi => by
    have h1 := pc_le a n
    unfold pc at h
    by_cases hb : a.testBit n = true
    · rw [if_pos hb] at h
      rcases Nat.lt_or_ge i n with q | q
      · exact pc_full (by omega) i q
      · have e : i = n := by omega
        subst e; exact hb
    · rw [if_neg hb] at h
      omega
theorem card_le (a : Nat) : card a ≤ 10 := pc_le a 10
theorem pc_0 : ∀ n, pc 0 n = 0
  | 0 => rfl
  | n + 1 => by unfold pc; rw [pc_0 n]; simp
theorem pc_sub {a b : Nat} : ∀ {n : Nat}, (∀ i, i < n → a.testBit i = true → b.testBit i = true) → pc a n ≤ pc b n
  | 0, _ => Nat.le_refl 0
  | n + 1, h => by
    have h1 := pc_sub (n := n) (fun i hi => h i (by omega))
    have h2 := h n (by omega)
    unfold pc
    by_cases ha : a.testBit n = true
    · rw [if_pos ha, if_pos (h2 ha)]; omega
    · rw [if_neg ha]; split <;> omega
/-- apart: nothing in both -/
def apt (a b : Nat) : Prop := ∀ i, a.testBit i = true → b.testBit i = false
theorem dif_apt {a b : Nat} (ha : a < 1024) : apt (dif a b) b := by
  intro i h
  rw [dif_bit ha] at h
  cases hb : b.testBit i
  · rfl
  · rw [hb] at h; simp at h
section Game
/-- the worth of a set of moves, to the one who moves: n rounds deep; tr: of the next one's worth, what it is to him -/
def sc (tr : Nat → Nat) (W : Nat → Nat) : Nat → Nat → Nat → Nat → Nat → Nat
  | 0, _, _, _, _ => 0
  | n + 1, mv, fl, p, q => mxs (fun x => if mv.testBit x then tr (sc tr W n (dif (W x &&& q) (fl ||| 2 ^ x)) (fl ||| 2 ^ x) q p) else 0) 10
theorem sc_s (tr : Nat → Nat) (W : Nat → Nat) (n mv fl p q : Nat) : sc tr W (n + 1) mv fl p q = mxs (fun x => if mv.testBit x then tr (sc tr W n (dif (W x &&& q) (fl ||| 2 ^ x)) (fl ||| 2 ^ x) q p) else 0) 10 := rfl
variable {tr : Nat → Nat} {W : Nat → Nat}
theorem sc_none (n fl p q : Nat) : sc tr W n 0 fl p q = 0 := by
  cases n with
  | zero => rfl
  | succ n =>
    rw [sc_s]
    refine Nat.le_zero.mp (mxs_ub fun i _ => ?_)
    simp
theorem mv_none {mv fl : Nat} (hm : mv < 1024) (ha : apt mv fl) (hc : card fl = 10) : mv = 0 := by
  apply bit_ext10 hm (by decide)
  intro i hi
  have h1 := pc_full hc i hi
  cases hb : mv.testBit i
  · simp
  · rw [ha i hb] at h1; cases h1
/-- deep enough is deep enough -/
theorem sc_deep (hW : ∀ i, i < 10 → W i < 1024) : ∀ (n m mv fl p q : Nat), mv < 1024 → apt mv fl → 10 ≤ n + card fl → 10 ≤ m + card fl → sc tr W n mv fl p q = sc tr W m mv fl p q := by
  intro n
  induction n with
  | zero =>
    intro m mv fl p q hm ha h1 h2
    have hc := card_le fl
    have e := mv_none hm ha (by omega)
    subst e
    rw [sc_none, sc_none]
  | succ n ih =>
    intro m mv fl p q hm ha h1 h2
    cases m with
    | zero =>
      have hc := card_le fl
      have e := mv_none hm ha (by omega)
      subst e
      rw [sc_none, sc_none]
    | succ m =>
      rw [sc_s, sc_s]
      apply mxs_cong
      intro x hx
      cases hb : mv.testBit x
      · rfl
      · have hx0 : fl.testBit x = false := ha x hb
        have hc := card_or hx hx0
        have hl : W x &&& q < 1024 := and_lt (hW x hx)
        simp only [if_true]
        rw [ih m _ _ q p (dif_lt hl) (dif_apt hl) (by omega) (by omega)]
/-- its worth; and that of an answer to x, which is the last of the fallen ones -/
def SC (tr : Nat → Nat) (W : Nat → Nat) (mv fl p q : Nat) : Nat := sc tr W 10 mv fl p q
def AF (tr : Nat → Nat) (W : Nat → Nat) (fl x p q : Nat) : Nat := SC tr W (dif (W x &&& p) fl) fl p q
def ex (tr : Nat → Nat) (W : Nat → Nat) (mv fl p q x : Nat) : Nat := if mv.testBit x then tr (AF tr W (fl ||| 2 ^ x) x q p) else 0
theorem SC_mxs (hW : ∀ i, i < 10 → W i < 1024) {mv fl : Nat} (p q : Nat) (hm : mv < 1024) (ha : apt mv fl) : SC tr W mv fl p q = mxs (ex tr W mv fl p q) 10 := by
  unfold SC
  rw [sc_deep hW 10 11 mv fl p q hm ha (by omega) (by omega), sc_s]
  apply mxs_cong
  intro x hx
  unfold ex
  cases hb : mv.testBit x <;> rfl
theorem ex_no {mv fl p q x : Nat} (h : mv.testBit x = false) : ex tr W mv fl p q x = 0 := by unfold ex; rw [h]; rfl
theorem ex_yes {mv fl p q x : Nat} (h : mv.testBit x = true) : ex tr W mv fl p q x = tr (AF tr W (fl ||| 2 ^ x) x q p) := by unfold ex; rw [h]; rfl
end Game
/-- a fight: below 20 he pays, so many are said more; else he does not, 40 less so many -/
def trn (a : Nat) : Nat := if a < 20 then 39 - a else 41 - a
def trs (a : Nat) : Nat := a + 1
def gd (c r : Nat) : Prop := r ≤ c ∨ (r < 40 ∧ 40 ≤ r + c)
theorem gd_trn {c a : Nat} (hc : c ≤ 9) (h : gd c a) : gd (c + 1) (trn a) := by
  unfold gd at h ⊢
  unfold trn
  split <;> omega
theorem gd_0 (c : Nat) : gd c 0 := Or.inl (Nat.zero_le c)
theorem trn_pos {c a : Nat} (hc : c ≤ 10) (h : gd c a) : 0 < trn a := by
  unfold gd at h
  unfold trn
  split <;> omega
theorem trn_lt {c a : Nat} (hc : c ≤ 10) (h : gd c a) : trn a < 20 ↔ ¬ a < 20 := by
  unfold gd at h
  unfold trn
  split <;> omega
theorem gd_40 {c r : Nat} (hc : c ≤ 10) (h : gd c r) : r ≤ 39 := by
  unfold gd at h
  omega
theorem gd_mxs {c : Nat} {f : Nat → Nat} (h : ∀ i, i < 10 → gd c (f i)) : ∀ n, n ≤ 10 → gd c (mxs f n) := by
  intro n hn
  rcases mxs_at f n with e | ⟨i, hi, e⟩
  · rw [e]; exact gd_0 c
  · rw [← e]; exact h i (by omega)
theorem SC_gd {W : Nat → Nat} (hW : ∀ i, i < 10 → W i < 1024) : ∀ (n mv fl p q : Nat), mv < 1024 → apt mv fl → 10 ≤ n + card fl → gd (10 - card fl) (sc trn W n mv fl p q) := by
  intro n
  induction n with
  | zero => intro mv fl p q _ _ _; exact gd_0 _
  | succ n ih =>
    intro mv fl p q hm ha hn
    rw [sc_s]
    refine gd_mxs (fun x hx => ?_) 10 (by omega)
    cases hb : mv.testBit x
    · exact gd_0 _
    · have hx0 : fl.testBit x = false := ha x hb
      have hc := card_or hx hx0
      have hl : W x &&& q < 1024 := and_lt (hW x hx)
      have h1 := card_le (fl ||| 2 ^ x)
      have h2 := ih (dif (W x &&& q) (fl ||| 2 ^ x)) (fl ||| 2 ^ x) q p (dif_lt hl) (dif_apt hl) (by omega)
      have h3 := gd_trn (c := 10 - card (fl ||| 2 ^ x)) (by omega) h2
      rw [show 10 - card (fl ||| 2 ^ x) + 1 = 10 - card fl by omega] at h3
      simpa using h3
theorem AF_gd {W : Nat → Nat} (hW : ∀ i, i < 10 → W i < 1024) {fl x : Nat} (p q : Nat) (hx : x < 10) : gd (10 - card fl) (AF trn W fl x p q) := by
  have hl : W x &&& p < 1024 := and_lt (hW x hx)
  exact SC_gd hW 10 _ fl p q (dif_lt hl) (dif_apt hl) (by omega)
theorem ex_gd {W : Nat → Nat} (hW : ∀ i, i < 10 → W i < 1024) {mv fl x : Nat} (p q : Nat) (hx : x < 10) (ha : apt mv fl) : gd (10 - card fl) (ex trn W mv fl p q x) := by
  cases hb : mv.testBit x
  · rw [ex_no hb]; exact gd_0 _
  · rw [ex_yes hb]
    have hx0 : fl.testBit x = false := ha x hb
    have hc := card_or hx hx0
    have h1 := card_le (fl ||| 2 ^ x)
    have h3 := gd_trn (c := 10 - card (fl ||| 2 ^ x)) (by omega) (AF_gd hW (fl := fl ||| 2 ^ x) q p hx)
    rw [show 10 - card (fl ||| 2 ^ x) + 1 = 10 - card fl by omega] at h3
    exact h3
/-- a spin is no longer than what both can still say -/
theorem sp_le {W : Nat → Nat} (hW : ∀ i, i < 10 → W i < 1024) {u : Nat} (hu : u < 1024) : ∀ (n mv fl p q : Nat), mv < 1024 → apt mv fl → (∀ i, i < 10 → mv.testBit i = true → u.testBit i = true) → (∀ i, i < 10 → p.testBit i = true → u.testBit i = true) → (∀ i, i < 10 → q.testBit i = true → u.testBit i = true) → sc trs W n mv fl p q ≤ card (dif u fl) := by
  intro n
  induction n with
  | zero => intro mv fl p q _ _ _ _ _; exact Nat.zero_le _
  | succ n ih =>
    intro mv fl p q hm ha h1 h2 h3
    rw [sc_s]
    refine mxs_ub fun x hx => ?_
    cases hb : mv.testBit x
    · exact Nat.zero_le _
    · have hx0 : fl.testBit x = false := ha x hb
      have hl : W x &&& q < 1024 := and_lt (hW x hx)
      have h4 := ih (dif (W x &&& q) (fl ||| 2 ^ x)) (fl ||| 2 ^ x) q p (dif_lt hl) (dif_apt hl) (fun i hi h => by
        rw [dif_bit hl, Nat.testBit_and] at h
        simp at h
        exact h3 i hi h.1.2) h3 h2
      have h5 : card (dif u (fl ||| 2 ^ x)) + 1 ≤ card (dif u fl) := by
        have e : dif u fl = dif u (fl ||| 2 ^ x) ||| 2 ^ x := by
          apply bit_ext
          intro i
          rw [dif_bit hu, Nat.testBit_or, dif_bit hu, Nat.testBit_or, Nat.testBit_two_pow]
          by_cases e : x = i
          · subst e
            simp [h1 x hx hb, hx0]
          · simp [e]
        rw [e, card_or hx (by rw [dif_bit hu, Nat.testBit_or, Nat.testBit_two_pow]; simp)]
        exact Nat.le_refl _
      show (if true = true then trs _ else 0) ≤ _
      rw [if_pos rfl]
      exact Nat.le_trans (Nat.succ_le_succ h4) h5
