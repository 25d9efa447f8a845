/-! The class's search with notes: what it answers. -/
def trf (sp : Bool) : Nat → Nat := if sp then trs else trn
def okv (sp : Bool) (e c r v : Nat) : Prop := if sp then r = v else gd c r ∧ (r < 20 ↔ v < 20) ∧ (e = 39 → r = v)
def mineOf (P Q par fl : Nat) : Nat := if card fl % 2 = par then P else Q
def hisOf (P Q par fl : Nat) : Nat := if card fl % 2 = par then Q else P
theorem mine_next {P Q par fl x : Nat} (hp : par < 2) (hx : x < 10) (h : fl.testBit x = false) : mineOf P Q par (fl ||| 2 ^ x) = hisOf P Q par fl ∧ hisOf P Q par (fl ||| 2 ^ x) = mineOf P Q par fl := by
  unfold mineOf hisOf
  rw [card_or hx h]
  rcases (show par = 0 ∨ par = 1 by omega) with rfl | rfl
  · by_cases e : card fl % 2 = 0
    · rw [if_neg (by omega), if_pos e, if_neg (by omega), if_pos e]; exact ⟨rfl, rfl⟩
    · rw [if_pos (by omega), if_neg e, if_pos (by omega), if_neg e]; exact ⟨rfl, rfl⟩
  · by_cases e : card fl % 2 = 1
    · rw [if_neg (by omega), if_pos e, if_neg (by omega), if_pos e]; exact ⟨rfl, rfl⟩
    · rw [if_pos (by omega), if_neg e, if_pos (by omega), if_neg e]; exact ⟨rfl, rfl⟩
theorem mine_lt {P Q par fl : Nat} (hP : P < 1024) (hQ : Q < 1024) : mineOf P Q par fl < 1024 ∧ hisOf P Q par fl < 1024 := by
  unfold mineOf hisOf
  split
  · exact ⟨hP, hQ⟩
  · exact ⟨hQ, hP⟩
/-- what the search may rest on: the run, its kind, the book, and the notes of this run -/
def MI (W : Nat → Nat) (P Q par R : Nat) (sp : Bool) (e : Nat) (g : Mm) : Prop :=
  g 17 2 = nI R ∧ g 17 3 = bI sp ∧ (sp = false → g 17 4 = nI e) ∧ TW g 3 10 W ∧
  ∀ fl x, fl < 1024 → x < 10 → ∃ v, g 18 (fl * 10 + x) = nI v ∧ v < (R + 1) * 64 ∧ (v / 64 = R → fl.testBit x = true → okv sp e (10 - card fl) (v % 64) (AF (trf sp) W fl x (mineOf P Q par fl) (hisOf P Q par fl)))
def AfS (W : Nat → Nat) (P Q par R : Nat) (sp : Bool) (e : Nat) (rc : Mm → Int32 → Int32 → Int32 → Int32 → Int32 → Option (Int32 × Mm)) (s : Nat) : Prop :=
  ∀ (g : Mm) (fl x : Nat), MI W P Q par R sp e g → fl < 1024 → x < 10 → fl.testBit x = true → s ≤ card fl →
    ∃ a g', rc g (nI fl) (nI x) (nI (mineOf P Q par fl)) (nI (hisOf P Q par fl)) (nI s) = some (nI a, g') ∧ MI W P Q par R sp e g' ∧ okv sp e (10 - card fl) a (AF (trf sp) W fl x (mineOf P Q par fl) (hisOf P Q par fl)) ∧ (0 < s → g' 17 6 = g 17 6)
def BeS (W : Nat → Nat) (P Q par R : Nat) (sp : Bool) (e : Nat) (rc : Mm → Int32 → Int32 → Int32 → Int32 → Int32 → Option (Int32 × Mm)) (s : Nat) : Prop :=
  ∀ (g : Mm) (fl mv : Nat), MI W P Q par R sp e g → fl < 1024 → mv < 1024 → apt mv fl → (∀ i, i < 10 → mv.testBit i = true → (P ||| Q).testBit i = true) → s ≤ card fl →
    ∃ r g', rc g (nI mv) (nI fl) (nI (mineOf P Q par fl)) (nI (hisOf P Q par fl)) (nI s) = some (nI r, g') ∧ MI W P Q par R sp e g' ∧ okv sp e (10 - card fl) r (SC (trf sp) W mv fl (mineOf P Q par fl) (hisOf P Q par fl)) ∧ (0 < s → g' 17 6 = g 17 6) ∧
      (s = 0 → (sp = true ∨ e = 39) → g' 17 6 = if r = 0 then g 17 6 else nI (arg (ex (trf sp) W mv fl (mineOf P Q par fl) (hisOf P Q par fl)) 10))
theorem MI.six {W : Nat → Nat} {P Q par R : Nat} {sp : Bool} {e : Nat} {g : Mm} {v : Int32} (h : MI W P Q par R sp e g) : MI W P Q par R sp e (ob_up g 17 6 v) := by
  obtain ⟨h1, h2, h3, h4, h5⟩ := h
  refine ⟨by rw [ob_up_k (by decide)]; exact h1, by rw [ob_up_k (by decide)]; exact h2, fun z => by rw [ob_up_k (by decide)]; exact h3 z, h4.ne (by decide), fun fl x hf hx => ?_⟩
  rw [ob_up_r (by decide)]
  exact h5 fl x hf hx
section Fight
variable {W : Nat → Nat} {P Q par R : Nat} {sp : Bool} {e : Nat}
theorem sp_AF_le (hW : ∀ i, i < 10 → W i < 1024) {fl x p q : Nat} (hx : x < 10) (hp : p < 1024) (hq : q < 1024) : AF trs W fl x p q ≤ 10 := by
  have hl : W x &&& p < 1024 := and_lt (hW x hx)
  have h := sp_le hW (u := 1023) (by decide) 10 (dif (W x &&& p) fl) fl p q (dif_lt hl) (dif_apt hl) (fun i hi _ => by rw [b1023]; simp [hi]) (fun i hi _ => by rw [b1023]; simp [hi]) (fun i hi _ => by rw [b1023]; simp [hi])
  have h2 := card_le (dif 1023 fl)
  exact Nat.le_trans h h2
theorem okv_lt (hW : ∀ i, i < 10 → W i < 1024) {fl x p q r : Nat} (hx : x < 10) (hp : p < 1024) (hq : q < 1024) (h : okv sp e (10 - card fl) r (AF (trf sp) W fl x p q)) : r ≤ 39 := by
  unfold okv at h
  cases sp
  · exact gd_40 (by omega) h.1
  · have h1 : r = AF trs W fl x p q := h
    have := sp_AF_le hW (fl := fl) hx hp hq
    omega
theorem turned_ok {g : Mm} {a : Nat} (hs : g 17 3 = bI sp) (ha : a ≤ 39) : f_X0_turned g (nI a) = some (nI (trf sp a)) := by
  unfold f_X0_turned
  rw [hs]
  cases sp
  · rw [if_pos (show bI false = 0 from rfl)]
    show _ = some (nI (trn a))
    unfold trn
    by_cases h : a < 20
    · rw [if_neg (show ¬ (20 : Int32) ≤ nI a from nI_ge h (by decide)), if_pos h, nI_1, show (40 : Int32) = nI 40 from rfl, pk_sub (by omega)]
      rw [show 40 - (a + 1) = 39 - a by omega]
    · rw [if_pos (show (20 : Int32) ≤ nI a from nI_le (a := 20) (by omega) (by omega)), if_neg h, show (40 : Int32) = nI 40 from rfl, pk_sub (by omega), nI_1]
      rw [show 40 - a + 1 = 41 - a by omega]
  · rw [if_neg (by decide)]
    show _ = some (nI (trs a))
    unfold trs
    rw [nI_1]
theorem af_ok (hW : ∀ i, i < 10 → W i < 1024) (hP : P < 1024) (hQ : Q < 1024) (hR : R ≤ 100000) {rc : Mm → Int32 → Int32 → Int32 → Int32 → Int32 → Option (Int32 × Mm)} {s : Nat} (hb : BeS W P Q par R sp e rc s) : AfS W P Q par R sp e (f_X0_afterwards rc) s := by
  intro g fl x hM hf hx hfx hs
  obtain ⟨h1, h2, h3, h4, h5⟩ := id hM
  obtain ⟨hp, hq⟩ := mine_lt (par := par) (fl := fl) hP hQ
  have hslot : fl * 10 + x < 10240 := by omega
  have eslot : nI fl * 10 + nI x = nI (fl * 10 + x) := by
    rw [show (10 : Int32) = nI 10 from rfl, pk_mul, nI_add]
  obtain ⟨v, hv, hvl, hvo⟩ := h5 fl x hf hx
  have hv31 : v < 2 ^ 31 := by omega
  have ediv : nI v / 64 = nI (v / 64) := pk_div hv31 (by decide) (by decide)
  have erem : nI v - nI v / 64 * 64 = nI (v % 64) := pk_rem hv31 (by decide) (by decide)
  unfold f_X0_afterwards
  rw [eslot, ob_b1_s (fx_at hslot (by decide)), hv, ediv, h1]
  by_cases hc : v / 64 = R
  · rw [if_pos (by rw [hc]), ← ediv, erem]
    exact ⟨v % 64, g, rfl, hM, hvo hc hfx, fun _ => rfl⟩
  · rw [if_neg (fun z => hc ((nI_eq (by omega) (by omega)).mp z)), ob_b1_s (fx_worse hx), h4 x hx, pb_and]
    have hl : W x &&& mineOf P Q par fl < 1024 := and_lt (hW x hx)
    rw [pb_dif hl]
    obtain ⟨r, g', e1, hM', ho, h6, -⟩ := hb g fl (dif (W x &&& mineOf P Q par fl) fl) hM hf (dif_lt hl) (dif_apt hl) (fun i hi hh => by
      rw [dif_bit hl, Nat.testBit_and] at hh
      simp at hh
      rw [Nat.testBit_or]
      have h7 := hh.1.2
      unfold mineOf at h7
      split at h7 <;> simp [h7]) hs
    rw [ob_b2_s e1]
    obtain ⟨k1, k2, k3, k4, k5⟩ := id hM'
    have hr : r ≤ 39 := okv_lt hW hx hp hq ho
    rw [k1, show (64 : Int32) = nI 64 from rfl, pk_mul, nI_add, ob_b1_s (fx_store hslot (by decide))]
    refine ⟨r, _, rfl, ⟨by rw [ob_up_r (by decide)]; exact k1, by rw [ob_up_r (by decide)]; exact k2, fun z => by rw [ob_up_r (by decide)]; exact k3 z, k4.ne (by decide), fun fl2 x2 hf2 hx2 => ?_⟩, ho, fun hz => by rw [ob_up_r (by decide)]; exact h6 hz⟩
    by_cases hz : fl2 * 10 + x2 = fl * 10 + x
    · have e2 : fl2 = fl := by omega
      have e3 : x2 = x := by omega
      subst e2; subst e3
      rw [ob_up_s]
      refine ⟨R * 64 + r, rfl, by omega, fun _ _ => ?_⟩
      rw [show (R * 64 + r) % 64 = r by omega]
      exact ho
    · rw [ob_up_k hz]
      exact k5 fl2 x2 hf2 hx2
theorem okv_0 (c : Nat) : okv sp e c 0 0 := by
  unfold okv
  cases sp
  · exact ⟨gd_0 c, Iff.rfl, fun _ => rfl⟩
  · rfl
/-- one move more -/
theorem okv_step {c b a E A m : Nat} (hc : c ≤ 9) (hb : okv sp e (c + 1) b m) (ha : okv sp e c a A) (hA : sp = false → gd c A) (hE : E = trf sp A) : okv sp e (c + 1) (if b < trf sp a then trf sp a else b) (if m < E then E else m) := by
  subst hE
  unfold okv at hb ha ⊢
  cases sp
  · obtain ⟨b1, b2, b3⟩ := hb
    obtain ⟨a1, a2, a3⟩ := ha
    have g1 : gd (c + 1) (trn a) := gd_trn hc a1
    have t1 := trn_lt (by omega) a1
    have t2 := trn_lt (by omega) (hA rfl)
    show gd (c + 1) (if b < trn a then trn a else b) ∧ ((if b < trn a then trn a else b) < 20 ↔ (if m < trn A then trn A else m) < 20) ∧ (e = 39 → (if b < trn a then trn a else b) = (if m < trn A then trn A else m))
    refine ⟨by split <;> assumption, ?_, fun he => by rw [b3 he, a3 he]⟩
    have t3 : trn a < 20 ↔ trn A < 20 := by rw [t1, t2, a2]
    split <;> split <;> omega
  · have h1 : b = m := hb
    have h2 : a = A := ha
    subst h1; subst h2
    rfl
theorem okv_skip {c b m E : Nat} (hb : okv sp e c b m) (hE : E = 0) : okv sp e c b (if m < E then E else m) := by
  subst hE
  rw [if_neg (Nat.not_lt_zero m)]
  exact hb
theorem be_ok (hW : ∀ i, i < 10 → W i < 1024) (hP : P < 1024) (hQ : Q < 1024) (hpar : par < 2) (he : e = 39 ∨ e = 20) {rc : Mm → Int32 → Int32 → Int32 → Int32 → Int32 → Option (Int32 × Mm)} {s : Nat} (hs9 : s ≤ 10) (hb : AfS W P Q par R sp e rc (s + 1)) : BeS W P Q par R sp e (f_X0_best rc) s := by
  intro g fl mv hM hf hm ha hsub hs
  obtain ⟨hp, hq⟩ := mine_lt (par := par) (fl := fl) hP hQ
  generalize hpe : mineOf P Q par fl = p at *
  generalize hqe : hisOf P Q par fl = q at *
  have hpq : p ||| q = P ||| Q := by
    rw [← hpe, ← hqe]
    unfold mineOf hisOf
    split
    · rfl
    · rw [Nat.or_comm]
  have hfl9 := card_le fl
  have hSC := SC_mxs (tr := trf sp) hW p q hm ha
  unfold f_X0_best
  by_cases hz : mv = 0
  · subst hz
    rw [if_pos (show nI 0 = 0 from rfl)]
    have e0 : SC (trf sp) W 0 fl p q = 0 := sc_none _ _ _ _
    rw [e0]
    exact ⟨0, g, rfl, hM, okv_0 _, fun _ => rfl, fun _ _ => by rw [if_pos rfl]⟩
  rw [if_neg (nI_ne0 (by omega) (by omega))]
  have hs10 : s < 10 := by
    rcases Nat.lt_or_ge s 10 with h | h
    · exact h
    · exact absurd (mv_none hm ha (by omega)) hz
  rw [if_pos (show nI s < 10 from nI_lt hs10 (by decide))]
  -- the loop
  generalize hEe : ex (trf sp) W mv fl p q = E at *
  have key : ∀ (st : Nat), st < 2 ^ 31 → (sp = true → mxs E 10 ≤ st) → (sp = false → st = e) → ∀ (n x b : Nat) (g1 : Mm), x ≤ 10 → 10 < x + n → MI W P Q par R sp e g1 → okv sp e (10 - card fl) b (mxs E x) → (0 < s → g1 17 6 = g 17 6) → (s = 0 → (sp = true ∨ e = 39) → g1 17 6 = if b = 0 then g 17 6 else nI (arg E x)) → b ≤ 39 →
      ∃ r g', f_X0_best_L47 rc n g1 (nI mv) (nI fl) (nI p) (nI q) (nI s) (nI b) (nI st) (nI x) = some (nI r, g') ∧ MI W P Q par R sp e g' ∧ okv sp e (10 - card fl) r (mxs E 10) ∧ (0 < s → g' 17 6 = g 17 6) ∧ (s = 0 → (sp = true ∨ e = 39) → g' 17 6 = if r = 0 then g 17 6 else nI (arg E 10)) := by
    intro st hst hst1 hst2 n
    induction n with
    | zero => intro x b g1 h1 h2; omega
    | succ n ih =>
      intro x b g1 h1 h2 hM1 hok h6 h7 hb39
      unfold f_X0_best_L47
      rcases Nat.lt_or_ge x 10 with hx | hx
      rotate_left
      · have ex10 : x = 10 := by omega
        subst ex10
        rw [if_pos (show (10 : Int32) ≤ nI 10 by decide)]
        exact ⟨b, g1, rfl, hM1, hok, h6, h7⟩
      rw [if_neg (show ¬ (10 : Int32) ≤ nI x from nI_ge hx (by decide))]
      by_cases hstop : st ≤ b
      · rw [if_pos (nI_le hstop (by omega))]
        have hbd : (sp = true ∨ e = 39) → b = mxs E x ∧ ∀ i, i < 10 → E i ≤ mxs E x := by
          intro hor
          cases sp
          · have he39 : e = 39 := by rcases hor with h | h; exact absurd h (by decide); exact h
            have hok' : gd (10 - card fl) b ∧ (b < 20 ↔ mxs E x < 20) ∧ (e = 39 → b = mxs E x) := hok
            have e1 := hok'.2.2 he39
            refine ⟨e1, fun i hi => ?_⟩
            have g1 : gd (10 - card fl) (E i) := by rw [← hEe]; exact ex_gd hW p q hi ha
            have g2 := gd_40 (by omega) g1
            have e2 := hst2 rfl
            omega
          · have e1 : b = mxs E x := hok
            refine ⟨e1, fun i hi => ?_⟩
            have g1 := mxs_le (f := E) (n := 10) hi
            have g2 := hst1 rfl
            omega
        refine ⟨b, g1, rfl, hM1, ?_, h6, fun hs0 hor => ?_⟩
        · unfold okv at hok ⊢
          cases sp
          · have hok' : gd (10 - card fl) b ∧ (b < 20 ↔ mxs E x < 20) ∧ (e = 39 → b = mxs E x) := hok
            obtain ⟨o1, o2, o3⟩ := hok'
            refine ⟨o1, ?_, fun he39 => ?_⟩
            · have e2 := hst2 rfl
              have e3 := mxs_mono (f := E) (show x ≤ 10 by omega)
              constructor
              · intro hlt; omega
              · intro hlt; exact o2.mpr (by omega)
            · obtain ⟨q1, q2⟩ := hbd (Or.inr he39)
              rw [mxs_stop (by omega) q2]; exact q1
          · obtain ⟨q1, q2⟩ := hbd (Or.inl rfl)
            show b = mxs E 10
            rw [mxs_stop (by omega) q2]; exact q1
        · obtain ⟨q1, q2⟩ := hbd hor
          rw [arg_stop (by omega) q2]
          exact h7 hs0 hor
      · rw [if_neg (nI_ge (by omega) hst), ob_b1_s (fx_has (by omega) (by omega))]
        cases hbit : mv.testBit x
        · rw [if_pos (bI_ne.mpr rfl)]
          unfold f_X0_best_J120
          rw [nI_1]
          have hE0 : E x = 0 := by rw [← hEe]; exact ex_no hbit
          refine ih (x + 1) b g1 (by omega) (by omega) hM1 ?_ h6 (fun hs0 hor => ?_) hb39
          · rw [mxs_s]
            exact okv_skip hok hE0
          · rw [arg_s, if_neg (show ¬ mxs E x < E x by omega)]
            exact h7 hs0 hor
        · rw [if_neg (fun h => Bool.noConfusion (bI_ne.mp h))]
          have hx0 : fl.testBit x = false := ha x hbit
          have hc := card_or hx hx0
          obtain ⟨n1, n2⟩ := mine_next (P := P) (Q := Q) hpar hx hx0
          rw [hqe] at n1
          rw [hpe] at n2
          have hf2 : fl ||| 2 ^ x < 1024 := or_lt hf (pow_lt x hx)
          obtain ⟨a, g2, e1, hM2, ho, h8⟩ := hb g1 (fl ||| 2 ^ x) x hM1 hf2 hx (by rw [Nat.testBit_or, Nat.testBit_two_pow]; simp) (by omega)
          rw [n1, n2] at e1 ho
          rw [pb_sh1 x (by omega), pb_or, nI_1, ob_b2_s e1]
          have ha39 : a ≤ 39 := okv_lt hW hx hq hp ho
          rw [ob_b1_s (turned_ok hM2.2.1 ha39)]
          have hEx : E x = trf sp (AF (trf sp) W (fl ||| 2 ^ x) x q p) := by rw [← hEe]; exact ex_yes hbit
          have hcard := card_le (fl ||| 2 ^ x)
          have hgdA : sp = false → gd (10 - card (fl ||| 2 ^ x)) (AF (trf sp) W (fl ||| 2 ^ x) x q p) := by
            intro hsp; subst hsp; exact AF_gd hW q p hx
          have hstep := okv_step (c := 10 - card (fl ||| 2 ^ x)) (by omega) (by rw [show 10 - card (fl ||| 2 ^ x) + 1 = 10 - card fl by omega]; exact hok) ho hgdA hEx
          rw [show 10 - card (fl ||| 2 ^ x) + 1 = 10 - card fl by omega, ← mxs_s] at hstep
          have ht39 : trf sp a ≤ 40 := by
            cases sp
            · show trn a ≤ 40
              unfold trn
              split <;> omega
            · show a + 1 ≤ 40
              omega
          have h69 : 0 < s → g2 17 6 = g 17 6 := fun z => by rw [h8 (by omega)]; exact h6 z
          have ht2 : trf sp a ≤ 39 := by
            cases sp
            · have hok' : gd (10 - card fl) (if b < trn a then trn a else b) ∧ _ := hstep
              have g3 := ho
              have g4 : gd (10 - card (fl ||| 2 ^ x)) a := (show gd _ a ∧ _ from ho).1
              have g5 := gd_trn (c := 10 - card (fl ||| 2 ^ x)) (by omega) g4
              exact gd_40 (by omega) g5
            · have h9 : a = AF trs W (fl ||| 2 ^ x) x q p := ho
              have h10 := sp_AF_le hW (fl := fl ||| 2 ^ x) hx hq hp
              show a + 1 ≤ 39
              omega
          have hex : (sp = true ∨ e = 39) → trf sp a = E x ∧ b = mxs E x := by
            intro hor
            rw [hEx]
            cases sp
            · have he39 : e = 39 := by rcases hor with h | h; exact absurd h (by decide); exact h
              have o1 : gd _ a ∧ (a < 20 ↔ _) ∧ (e = 39 → a = _) := ho
              have o2 : gd _ b ∧ (b < 20 ↔ _) ∧ (e = 39 → b = _) := hok
              exact ⟨congrArg _ (o1.2.2 he39), o2.2.2 he39⟩
            · exact ⟨congrArg _ (show a = _ from ho), (show b = _ from hok)⟩
          by_cases hle : trf sp a ≤ b
          · rw [if_pos (nI_le hle (by omega))]
            unfold f_X0_best_J120
            rw [nI_1]
            rw [if_neg (show ¬ b < trf sp a by omega)] at hstep
            refine ih (x + 1) b g2 (by omega) (by omega) hM2 hstep h69 (fun hs0 hor => ?_) hb39
            obtain ⟨q1, q2⟩ := hex hor
            rw [arg_s, if_neg (show ¬ mxs E x < E x by omega), h8 (by omega)]
            exact h7 hs0 hor
          · rw [if_neg (nI_ge (by omega) (by omega))]
            rw [if_pos (show b < trf sp a by omega)] at hstep
            by_cases hs0 : s = 0
            · subst hs0
              rw [if_pos (show nI 0 = 0 from rfl)]
              unfold f_X0_best_J120
              rw [nI_1]
              refine ih (x + 1) (trf sp a) _ (by omega) (by omega) hM2.six hstep (fun z => absurd z (by omega)) (fun _ hor => ?_) ht2
              obtain ⟨q1, q2⟩ := hex hor
              rw [arg_s, if_pos (show mxs E x < E x by omega), ob_up_s, if_neg (show ¬ trf sp a = 0 by omega)]
            · rw [if_neg (nI_ne0 (by omega) (by omega))]
              unfold f_X0_best_J120
              rw [nI_1]
              exact ih (x + 1) (trf sp a) g2 (by omega) (by omega) hM2 hstep h69 (fun z => absurd z hs0) ht2
  obtain ⟨zz, hzz⟩ := FU_ge (n := 11) (by decide)
  have hl : p ||| q < 1024 := or_lt hp hq
  have hstart : ∀ (st : Nat), st < 2 ^ 31 → (sp = true → mxs E 10 ≤ st) → (sp = false → st = e) → ∃ r g', f_X0_best_L47 rc FU g (nI mv) (nI fl) (nI p) (nI q) (nI s) 0 (nI st) 0 = some (nI r, g') ∧ MI W P Q par R sp e g' ∧ okv sp e (10 - card fl) r (SC (trf sp) W mv fl p q) ∧ (0 < s → g' 17 6 = g 17 6) ∧ (s = 0 → (sp = true ∨ e = 39) → g' 17 6 = if r = 0 then g 17 6 else nI (arg E 10)) := by
    intro st h1 h2 h3
    rw [hSC]
    exact key st h1 h2 h3 FU 0 0 g (by omega) (by omega) hM (okv_0 _) (fun _ => rfl) (fun _ _ => by rw [if_pos rfl]) (by omega)
  rw [hM.2.1]
  cases hspc : sp
  · subst hspc
    rw [if_pos (show bI false = 0 from rfl)]
    unfold f_X0_best_J42
    rw [hM.2.2.1 rfl]
    exact hstart e (by omega) (fun z => absurd z (by decide)) (fun _ => rfl)
  · subst hspc
    rw [if_neg (by decide), pb_or, pb_dif hl, ob_b1_s (bitCount_ok (dif_lt hl))]
    unfold f_X0_best_J42
    have hcl := card_le (dif (p ||| q) fl)
    refine hstart (card (dif (p ||| q) fl)) (by omega) (fun _ => ?_) (fun z => absurd z (by decide))
    rw [← hSC]
    exact sp_le hW hl 10 mv fl p q hm ha (fun i hi hh => by rw [hpq]; exact hsub i hi hh) (fun i _ hh => by rw [Nat.testBit_or, hh]; rfl) (fun i _ hh => by rw [Nat.testBit_or, hh, Bool.or_true])
theorem best_ok (hW : ∀ i, i < 10 → W i < 1024) (hP : P < 1024) (hQ : Q < 1024) (hpar : par < 2) (he : e = 39 ∨ e = 20) (hR : R ≤ 100000) : ∀ (d s : Nat), s ≤ 10 → 11 ≤ d + s → BeS W P Q par R sp e (fN_X0_best d) s := by
  intro d
  induction d with
  | zero =>
    intro s hs h g fl mv hM hf hm ha hsub hc
    omega
  | succ d ih =>
    intro s hs h
    rcases Nat.lt_or_ge s 10 with q | q
    · exact be_ok hW hP hQ hpar he hs (af_ok hW hP hQ hR (ih (s + 1) (by omega) (by omega)))
    · intro g fl mv hM hf hm ha hsub hc
      have hfl9 := card_le fl
      have hz := mv_none hm ha (by omega)
      subst hz
      show ∃ r g', f_X0_best _ g _ _ _ _ _ = _ ∧ _
      unfold f_X0_best
      rw [if_pos (show nI 0 = 0 from rfl)]
      have e0 : SC (trf sp) W 0 fl (mineOf P Q par fl) (hisOf P Q par fl) = 0 := sc_none _ _ _ _
      rw [e0]
      exact ⟨0, g, rfl, hM, okv_0 _, fun _ => rfl, fun _ _ => by rw [if_pos rfl]⟩
end Fight
