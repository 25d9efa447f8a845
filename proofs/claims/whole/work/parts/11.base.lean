/-! Plain facts on ints as sets of bits, and on loops. -/
theorem pb_lit (n : Nat) : (OfNat.ofNat n : Int32) = nI n := rfl
theorem pb_and (a b : Nat) : nI a &&& nI b = nI (a &&& b) := by
  apply Int32.toBitVec_inj.1
  show BitVec.ofNat 32 a &&& BitVec.ofNat 32 b = BitVec.ofNat 32 (a &&& b)
  apply BitVec.eq_of_getLsbD_eq
  intro i hi
  simp [hi]
theorem pb_or (a b : Nat) : nI a ||| nI b = nI (a ||| b) := by
  apply Int32.toBitVec_inj.1
  show BitVec.ofNat 32 a ||| BitVec.ofNat 32 b = BitVec.ofNat 32 (a ||| b)
  apply BitVec.eq_of_getLsbD_eq
  intro i hi
  simp [hi]
/-- a without b, of ten bits -/
def dif (a b : Nat) : Nat := a &&& (b ^^^ 1023)
theorem b1023 (i : Nat) : Nat.testBit 1023 i = decide (i < 10) := Nat.testBit_two_pow_sub_one 10 i
theorem bit_lt {a n i : Nat} (h : a < 2 ^ n) (hi : n ≤ i) : a.testBit i = false := Nat.testBit_lt_two_pow (Nat.lt_of_lt_of_le h (Nat.pow_le_pow_right (by decide) hi))
theorem bit_in {a i : Nat} (h : a < 1024) (hb : a.testBit i = true) : i < 10 := by
  rcases Nat.lt_or_ge i 10 with q | q
  · exact q
  · rw [bit_lt (n := 10) h q] at hb
    cases hb
theorem dif_bit {a b : Nat} (ha : a < 1024) (i : Nat) : (dif a b).testBit i = (a.testBit i && !b.testBit i) := by
  unfold dif
  rw [Nat.testBit_and, Nat.testBit_xor, b1023]
  rcases Nat.lt_or_ge i 10 with q | q
  · simp [q]
  · rw [bit_lt (n := 10) ha q]
    rfl
theorem dif_lt {a b : Nat} (ha : a < 1024) : dif a b < 1024 := Nat.lt_of_le_of_lt Nat.and_le_left ha
theorem pb_dif {a b : Nat} (ha : a < 1024) : nI a &&& (nI b ^^^ (-1)) = nI (dif a b) := by
  apply Int32.toBitVec_inj.1
  show BitVec.ofNat 32 a &&& (BitVec.ofNat 32 b ^^^ (BitVec.allOnes 32)) = BitVec.ofNat 32 (dif a b)
  apply BitVec.eq_of_getLsbD_eq
  intro i hi
  rw [BitVec.getLsbD_and, BitVec.getLsbD_xor, BitVec.getLsbD_allOnes, BitVec.getLsbD_ofNat, BitVec.getLsbD_ofNat, BitVec.getLsbD_ofNat, dif_bit ha]
  simp [hi]
theorem pb_sm : ∀ n, n < 32 → ((nI n &&& 31).toBitVec.smod 32).toNat = n := by decide +kernel
theorem pb_sh1 : ∀ i, i < 31 → (1 : Int32) <<< (nI i &&& 31) = nI (2 ^ i) := by decide +kernel
theorem pb_shr {a i : Nat} (ha : a < 2 ^ 31) (hi : i < 32) : nI a >>> (nI i &&& 31) = nI (a / 2 ^ i) := pk_shrN ha _ i (pb_sm i hi)
theorem pb_bit {a i : Nat} (ha : a < 2 ^ 31) (hi : i < 32) : (nI a >>> (nI i &&& 31)) &&& 1 = nI (if a.testBit i then 1 else 0) := by
  rw [pb_shr ha hi, show (1 : Int32) = nI 1 from rfl, pb_and, Nat.and_one_is_mod, Nat.testBit_eq_decide_div_mod_eq]
  rcases Nat.mod_two_eq_zero_or_one (a / 2 ^ i) with h | h <;> simp [h]
theorem pb_eq {a b : Nat} (ha : a < 2 ^ 31) (hb : b < 2 ^ 31) : nI a = nI b ↔ a = b := nI_eq ha hb
theorem pb_neg {a n : Nat} (ha : a < 2 ^ 31) (hn : 0 < n) (hn2 : n < 2 ^ 31) : ¬ nI a = -nI n := by
  intro h
  have h1 := congrArg Int32.toInt h
  rw [nI_toInt ha, sb_negT hn2] at h1
  omega
/-- the set of those below n that p takes -/
def mk (p : Nat → Bool) : Nat → Nat
  | 0 => 0
  | n + 1 => mk p n ||| (if p n then 2 ^ n else 0)
theorem mk_lt (p : Nat → Bool) : ∀ n, mk p n < 2 ^ n
  | 0 => Nat.one_pos
  | n + 1 => by
    have h := mk_lt p n
    have h1 : (2 : Nat) ^ n < 2 ^ (n + 1) := Nat.pow_lt_pow_right (by decide) (Nat.lt_succ_self n)
    unfold mk
    refine Nat.or_lt_two_pow (Nat.lt_trans h h1) ?_
    split
    · exact h1
    · exact Nat.two_pow_pos _
theorem mk_bit (p : Nat → Bool) (i : Nat) : ∀ n, (mk p n).testBit i = (decide (i < n) && p i)
  | 0 => by simp [mk]
  | n + 1 => by
    unfold mk
    rw [Nat.testBit_or, mk_bit p i n]
    by_cases hp : p n
    · rw [if_pos hp, Nat.testBit_two_pow]
      by_cases hi : i = n
      · subst hi; simp [hp]
      · have h2 : ¬ n = i := fun h => hi h.symm
        have h3 : decide (i < n + 1) = decide (i < n) := by
          apply decide_eq_decide.mpr
          omega
        simp [h2, h3]
    · rw [if_neg hp]
      by_cases hi : i = n
      · subst hi; simp [hp]
      · have h3 : decide (i < n + 1) = decide (i < n) := by
          apply decide_eq_decide.mpr
          omega
        simp [h3]
theorem mk_cong {p q : Nat → Bool} : ∀ {n}, (∀ i, i < n → p i = q i) → mk p n = mk q n
  | 0, _ => rfl
  | n + 1, h => by
    unfold mk
    rw [mk_cong (fun i hi => h i (by omega)), h n (by omega)]
theorem bit_ext {a b : Nat} (h : ∀ i, a.testBit i = b.testBit i) : a = b := Nat.eq_of_testBit_eq h
theorem bit_ext10 {a b : Nat} (ha : a < 1024) (hb : b < 1024) (h : ∀ i, i < 10 → a.testBit i = b.testBit i) : a = b := by
  apply bit_ext
  intro i
  rcases Nat.lt_or_ge i 10 with q | q
  · exact h i q
  · rw [bit_lt (n := 10) ha q, bit_lt (n := 10) hb q]
theorem or_lt {a b : Nat} (ha : a < 1024) (hb : b < 1024) : a ||| b < 1024 := Nat.or_lt_two_pow (n := 10) ha hb
theorem and_lt {a b : Nat} (ha : a < 1024) : a &&& b < 1024 := Nat.lt_of_le_of_lt Nat.and_le_left ha
theorem pow_lt : ∀ i, i < 10 → 2 ^ i < 1024 := by decide
/-- how many of the first n are in the set -/
def pc (a : Nat) : Nat → Nat
  | 0 => 0
  | n + 1 => pc a n + (if a.testBit n then 1 else 0)
theorem pc_le (a : Nat) : ∀ n, pc a n ≤ n
  | 0 => Nat.le_refl 0
  | n + 1 => by
    have h := pc_le a n
    unfold pc
    split <;> omega
abbrev card (a : Nat) : Nat := pc a 10
theorem ob_ld_nI {g : Mm} {q n i : Nat} (h : i < n) (hn : n < 2 ^ 31) : ob_ld g q n (nI i) = some (g q i) := by
  unfold ob_ld
  have hi : i < 2 ^ 31 := by omega
  rw [nI_toInt hi, nI_clamp hi, if_pos ⟨by omega, by omega⟩]
theorem ob_st_nI {g : Mm} {q n i : Nat} {x : Int32} (h : i < n) (hn : n < 2 ^ 31) : ob_st g q n (nI i) x = some (ob_up g q i x) := by
  unfold ob_st
  have hi : i < 2 ^ 31 := by omega
  rw [nI_toInt hi, nI_clamp hi, if_pos ⟨by omega, by omega⟩]
theorem ob_sz_nI {g : Mm} {q n i : Nat} {b : Bool} (h : i < n) (hn : n < 2 ^ 31) : ob_sz g q n (nI i) (if b then 1 else 0) = some (ob_up g q i (if b then 1 else 0)) := by
  unfold ob_sz
  have hi : i < 2 ^ 31 := by omega
  rw [nI_toInt hi, nI_clamp hi, if_pos ⟨by omega, by omega⟩]
  cases b <;> rfl
theorem ob_up_s (g : Mm) (q k : Nat) (v : Int32) : ob_up g q k v q k = v := by simp [ob_up]
theorem ob_up_r {g : Mm} {q k : Nat} {v : Int32} {a b : Nat} (h : ¬ a = q) : ob_up g q k v a b = g a b := by simp [ob_up, h]
theorem ob_up_k {g : Mm} {q k : Nat} {v : Int32} {a b : Nat} (h : ¬ b = k) : ob_up g q k v a b = g a b := by simp [ob_up, h]
theorem ob_b1_s {α γ : Type} {o : Option α} {k : α → Option γ} {v : α} (h : o = some v) : ob_b1 o k = k v := by subst h; rfl
theorem ob_b2_s {α β γ : Type} {o : Option (α × β)} {k : α → β → Option γ} {v : α} {w : β} (h : o = some (v, w)) : ob_b2 o k = k v w := by subst h; rfl
theorem FU_ge {n : Nat} (h : n ≤ 10000000) : ∃ m, FU = n + m := ⟨10000000 - n, by unfold FU; omega⟩
abbrev bI (b : Bool) : Int32 := if b then 1 else 0
theorem bI_ne {b : Bool} : bI b = 0 ↔ b = false := by cases b <;> decide
theorem zb_b (b : Bool) : ob_zb (bI b) = some () := by cases b <;> rfl
theorem bitCount_all : ∀ a, a < 1024 → f_J6_bitCount_0f7a4 (nI a) = some (nI (pc a 10)) := by decide +kernel
theorem bitCount_ok {a : Nat} (h : a < 1024) : f_J6_bitCount_0f7a4 (nI a) = some (nI (card a)) := bitCount_all a h
