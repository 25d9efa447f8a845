/-! THE CLAIM OUT OF ONE WALK OF THE LAW'S BODY. Your part is whole_start (and what it stands on); all else here is the same for every law, but numbers. -/
def R_law : String := "OneWorseLaw"
def lw_P (b : Addr) (xs : List Int32) (args : Array Value) (s : State) : Prop := args = #[.ref b] ∧ s.IntsAt b xs ∧ xs.length ≤ 3072 ∧ (Jvm.Cond.and given_1 narrow_1).before args s = true
def lw_Q (_ : Array Value) (s : State) (o : Outcome) (t : State) : Prop := o = .returned (some (.int 1)) ∧ Framed s o t [] 600000 7302250
def lw_Z (below : List Frame) (a : Array Value) (s : State) : State → Prop := fun t => ∃ o, t.status = .running ∧ Ended t below o ∧ lw_Q a s o t
/-- the law's own end, with 1 on the stack, nothing written that was there before, its room as the claim has it -/
theorem lw_ret {p : Program} {l : Launch} {e : Env} {s : State} {m : MethodId} {below : List Frame} {meth : Method} {c : Code} {b : Nat} (hx : p.tables.exec = Jvm.exec) (hb : c.code = code) (hr : meth.sig.returnType = ret) (hlocks : meth.locks = false) {pc : Nat} {H : Heap} {ls : Array Slot} (hdg : decode code pc = .ok (.ireturn, 1)) : W p l e room_1 s m #[Value.ref b] below meth c H [] 600000 7302250 (lw_Z below #[Value.ref b] s) (F0 m pc ls [.int 1]) := by
  intro T hT X
  obtain ⟨fs, hret, hrun, hended, hW, hframe⟩ := X.leave (v := some (.int 1)) (hlocks := hlocks) (fun h => by rw [hr] at h; cases h)
  have hmeth' : T.vm.method? m = some meth := X.method'
  refine ⟨T.setFrames fs, ?_, .returned (some (.int 1)), hrun, hended, rfl, ⟨_, rfl⟩, hW, hframe⟩
  jvm_step X.here [X.here.top, hx, hb, hdg, hmeth', hr, ret, narrow_b1]
  (try refine ⟨rfl, ?_⟩); (try refine ⟨rfl, ?_⟩)
  first | (intro acts; rw [hret _ acts rfl rfl rfl]) | rw [hret _ _ rfl rfl rfl]
  exact Steps.refl _
/-- what holds at the law's entry: the machine, the code, the tables' words (any of lw_tbl by 'hts w (by decide +kernel)'), the script of L ints xs at the cell b, what the Statement gives of the start (any of its parts by flat_of_before) -/
def lw_At (p : Program) (s : State) (m : MethodId) (meth : Method) (c : Code) (b L : Nat) (xs : Nat → Int32) : Prop :=
  p.tables.exec = Jvm.exec ∧ c.code = code ∧ meth.sig.returnType = ret ∧ c.maxLocals = 4 ∧ s.vm.findClass R_law = some m.cls ∧ (∀ w ∈ lw_tbl, w.before #[Value.ref b] s = true) ∧ va_X b L xs s s.heap ∧ b < s.heap.size ∧ meth.locks = false ∧ (Jvm.Cond.and given_1 narrow_1).before #[Value.ref b] s = true
def la_C (p : Program) (s : State) (m : MethodId) (meth : Method) (c : Code) (b L : Nat) (xs : Nat → Int32) (dC : Nat → ClassId) (dI : Nat → Nat → Nat) (cI cZ : ClassId) (adX adM : Nat → Nat) : Prop := lw_At p s m meth c b L xs ∧ L ≤ 3072 ∧ ob_inj shX adX ∧ ob_inj shM adM ∧ (∀ a, ob_A shX adX a → s.heap.size ≤ a) ∧ (∀ a, ob_A shM adM a → s.heap.size ≤ a) ∧ (∀ a, ob_A shX adX a → ¬ ob_A shM adM a) ∧ ob_K (dC, dI) vwCl cI cZ nwX s ∧ ob_K (dC, dI) vwCl cI cZ nwM s
def la_J (s : State) (dC : Nat → ClassId) (dI : Nat → Nat → Nat) (cI cZ : ClassId) (adX adM : Nat → Nat) (k : Nat) (gX gM : Mm) (H : Heap) (locs : List Loc) : Prop := va_P (dC, dI) vwCl (ob_ws shX adX cI cZ gX) H ∧ va_P (dC, dI) vwCl (ob_ws shM adM cI cZ gM) H ∧ va_S (fun q : Nat => s.heap.size ≤ q) s.heap H locs ∧ Rel k gX gM
theorem la_kept {D : va_G} {cl : List vw_C} {sh : List ob_S} {ad : Nat → Nat} {cI cZ : ClassId} {g : Mm} {A1 : Nat → Prop} {H H1 : Heap} (h : va_P D cl (ob_ws sh ad cI cZ g) H) (hk : ∀ q : Nat, q < H.size → ¬ A1 q → H1[q]? = H[q]?) (hd : ∀ a, ob_A sh ad a → a < H.size → ¬ A1 a) : va_P D cl (ob_ws sh ad cI cZ g) H1 := by
  refine h.kept (fun k q hq => ?_)
  have h1 : q.1 < H.size := (h k q hq).lt
  refine hk q.1 h1 (hd q.1 ?_ h1)
  obtain ⟨x, hx, rfl⟩ := ob_back hq
  exact ⟨k, (List.getElem?_eq_some_iff.mp hx).1, rfl⟩
section LA
variable {p : Program} {l : Launch} {e : Env} {s : State} {m : MethodId} {below : List Frame} {meth : Method} {c : Code} {b L : Nat} {xs : Nat → Int32} {dC : Nat → ClassId} {dI : Nat → Nat → Nat} {cI cZ : ClassId} {adX adM : Nat → Nat} {Q : State → Prop} {H : Heap} {locs : List Loc} {ls : Array Slot} {rest st0 : List Value} {pc k : Nat} {gX gM t : Mm} {r : Int32} {a : Array Value}
theorem la_callX (hr : va_Run p l e room_1 s m #[Value.ref b] below meth c H locs 600000 7302250 0 0 (F0 m pc ls st0) rest (ob_Qi (dC, dI) vwCl shX adX cI cZ r t a) (ob_A shX adX)) (hA : ∀ a, ob_A shX adX a → s.heap.size ≤ a) (hd : ∀ a, ob_A shX adX a → ¬ ob_A shM adM a) (hM : va_P (dC, dI) vwCl (ob_ws shM adM cI cZ gM) H) (hS : va_S (fun q : Nat => s.heap.size ≤ q) s.heap H locs)
    (kk : ∀ (H : Heap) (locs : List Loc), va_P (dC, dI) vwCl (ob_ws shX adX cI cZ t) H → va_P (dC, dI) vwCl (ob_ws shM adM cI cZ gM) H → va_S (fun q : Nat => s.heap.size ≤ q) s.heap H locs → W p l e room_1 s m #[Value.ref b] below meth c H locs 600000 7302250 Q (F0 m (pc + 3) ls (.int r :: rest))) : W p l e room_1 s m #[Value.ref b] below meth c H locs 600000 7302250 Q (F0 m pc ls st0) :=
  va_calli hr hS (fun q _ h => hA q h) hA (fun r' u t' H1 locs1 ht _ hw hB _ hk hS1 => by subst hw; subst ht; exact kk _ _ hB (la_kept hM hk (fun a h1 _ h2 => hd a h2 h1)) hS1)
theorem la_callM (hr : va_Run p l e room_1 s m #[Value.ref b] below meth c H locs 600000 7302250 0 0 (F0 m pc ls st0) rest (ob_Qi (dC, dI) vwCl shM adM cI cZ r t a) (ob_A shM adM)) (hA : ∀ a, ob_A shM adM a → s.heap.size ≤ a) (hd : ∀ a, ob_A shX adX a → ¬ ob_A shM adM a) (hX : va_P (dC, dI) vwCl (ob_ws shX adX cI cZ gX) H) (hS : va_S (fun q : Nat => s.heap.size ≤ q) s.heap H locs)
    (kk : ∀ (H : Heap) (locs : List Loc), va_P (dC, dI) vwCl (ob_ws shX adX cI cZ gX) H → va_P (dC, dI) vwCl (ob_ws shM adM cI cZ t) H → va_S (fun q : Nat => s.heap.size ≤ q) s.heap H locs → W p l e room_1 s m #[Value.ref b] below meth c H locs 600000 7302250 Q (F0 m (pc + 3) ls (.int r :: rest))) : W p l e room_1 s m #[Value.ref b] below meth c H locs 600000 7302250 Q (F0 m pc ls st0) :=
  va_calli hr hS (fun q _ h => hA q h) hA (fun r' u t' H1 locs1 ht _ hw hB _ hk hS1 => by subst hw; subst ht; exact kk _ _ (la_kept hX hk (fun a h1 _ h2 => hd a h1 h2)) hB hS1)
theorem la_arg {j : Nat} {n : Int} {v : Int32} (C : la_C p s m meth c b L xs dC dI cI cZ adX adM) (hS : va_S (fun q : Nat => s.heap.size ≤ q) s.heap H locs) (hl : lv_has ls 4 [(0, .ref b), (1, .ref (adX 0)), (2, .ref (adM 0)), (3, .int (nI (6 * k)))]) (hk : 6 * k + j < L) (hv : Int32.ofInt n = v) (hj : v = nI j) (d0 : decode code pc = .ok (.aload_n 0, 1)) (d1 : decode code (pc + 1) = .ok (.iload_n 3, 1)) (d2 : decode code (pc + 1 + 1) = .ok (.iconst n, 1)) (d3 : decode code (pc + 1 + 1 + 1) = .ok (.iadd, 1)) (d4 : decode code (pc + 1 + 1 + 1 + 1) = .ok (.iaload, 1))
    (kk : W p l e room_1 s m #[Value.ref b] below meth c H locs 600000 7302250 Q (F0 m (pc + 5) ls (.int (xs (6 * k + j)) :: rest))) : W p l e room_1 s m #[Value.ref b] below meth c H locs 600000 7302250 Q (F0 m pc ls rest) := by
  obtain ⟨⟨hx, hb, -, -, -, -, hX, hbl, -, -⟩, hL, -⟩ := C
  have hbA : ¬ (fun q : Nat => s.heap.size ≤ q) b := Nat.not_le.mpr hbl
  refine lv_aload_n hx hb d0 rfl (lv_at hl 0 rfl) ?_
  refine lv_iload_n hx hb d1 rfl (lv_at hl 3 rfl) ?_
  refine lv_iconst (v := v) hx hb d2 hv ?_
  refine lv_iadd hx hb d3 ?_
  rw [hj, nI_add]
  refine va_sld hx hb hX hbl hbA hS (vp_in_nI hk (by omega)) d4 ?_
  rw [nI_clamp (by omega)]
  exact kk
theorem la_bool {x : Int32} (hx : p.tables.exec = Jvm.exec) (hb : c.code = code) (d0 : decode code pc = .ok (.ifCond .eq 7, 3)) (d1 : decode code (pc + 3) = .ok (.iconst 1, 1)) (d2 : decode code (pc + 3 + 1) = .ok (.goto 4, 3)) (d3 : decode code (pc + 7) = .ok (.iconst 0, 1))
    (kk : W p l e room_1 s m #[Value.ref b] below meth c H locs 600000 7302250 Q (F0 m (pc + 8) ls (.int (bI (decide (¬ x = 0))) :: rest))) : W p l e room_1 s m #[Value.ref b] below meth c H locs 600000 7302250 Q (F0 m pc ls (.int x :: rest)) := by
  refine lv_if_eq (tgt := pc + 7) hx hb d0 (by omega) (fun c1 => ?_) (fun c1 => ?_)
  · refine lv_iconst (v := 0) hx hb d3 (by decide) ?_
    rw [decide_eq_false (fun h => h c1)] at kk
    exact kk
  · refine lv_iconst (v := 1) hx hb d1 (by decide) ?_
    refine lv_goto (tgt := pc + 8) hx hb d2 (by omega) ?_
    rw [decide_eq_true c1] at kk
    exact kk
theorem la_same {off : Int} (hx : p.tables.exec = Jvm.exec) (hb : c.code = code) (d : decode code pc = .ok (.if_icmp .eq off, 3)) (ht : (pc : Int) + off = ((898 : Nat) : Int)) (kk : W p l e room_1 s m #[Value.ref b] below meth c H locs 600000 7302250 Q (F0 m 898 ls [])) : W p l e room_1 s m #[Value.ref b] below meth c H locs 600000 7302250 Q (F0 m pc ls [.int r, .int r]) := lv_icmp_eq (tgt := 898) hx hb d ht (fun _ => kk) (fun h => absurd rfl h)
set_option maxHeartbeats 4000000 in
set_option maxRecDepth 100000 in
theorem la_0 (C : la_C p s m meth c b L xs dC dI cI cZ adX adM) (hk : 6 * k + 6 ≤ L) (J : la_J s dC dI cI cZ adX adM k gX gM H locs) (hl : lv_has ls 4 [(0, .ref b), (1, .ref (adX 0)), (2, .ref (adM 0)), (3, .int (nI (6 * k)))]) (kk : ∀ (gX gM : Mm) (H : Heap) (locs : List Loc), la_J s dC dI cI cZ adX adM (k + 1) gX gM H locs → W p l e room_1 s m #[Value.ref b] below meth c H locs 600000 7302250 Q (F0 m 898 ls [])) : W p l e room_1 s m #[Value.ref b] below meth c H locs 600000 7302250 Q (F0 m 144 ls []) := by
  obtain ⟨⟨hx, hb, hr, hml, hown, hts, -, -, -, -⟩, hL, hIX, hIM, hAX, hAM, hd, hKX, hKM⟩ := id C
  have hT : ∀ w ∈ wsL_law, w.before #[Value.ref b] s = true := fun w h => hts w (wsL_law_in w h)
  have hown : s.vm.findClass RL = some m.cls := hown
  obtain ⟨hX, hM, hS, hR⟩ := J
  obtain ⟨r, tX, tM, eX, eM, hR⟩ := ag_say hR (xs (6 * k + 1))
  refine lv_aload_n hx hb dL_law_144 rfl (lv_at hl 1 rfl) ?_
  refine la_arg (j := 1) (v := 1) C hS hl (by omega) (by decide) rfl dL_law_145 dL_law_146 dL_law_147 dL_law_148 dL_law_149 ?_
  refine la_callX (va_runV (As := [.int (xs (6 * k + 1))]) (rest := []) ⟨hx, hb, hml, hown, hT⟩ (c_X6_say l dC dI adX cI cZ hIX 1 (Nat.le_refl _) gX (xs (6 * k + 1)) r tX eX) (cwV 1 hT gL_law_X6_say rfl rfl rfl ⟨rfl, hd_X6_say⟩ ⟨Nat.le_of_ble_eq_true rfl, Nat.le_of_ble_eq_true rfl⟩) (ob_preV hKX hX (q := 0) shX_0 rfl) rfl rfl hl.1 rfl (lv_room (Nat.le_of_ble_eq_true rfl)) dL_law_150 ⟨Nat.le_of_ble_eq_true rfl, Nat.le_of_ble_eq_true rfl⟩) hAX hd hM hS (fun H locs hX hM hS => ?_)
  refine lv_aload_n hx hb dL_law_153 rfl (lv_at hl 2 rfl) ?_
  refine la_arg (j := 1) (v := 1) C hS hl (by omega) (by decide) rfl dL_law_154 dL_law_155 dL_law_156 dL_law_157 dL_law_158 ?_
  refine la_callM (va_runV (As := [.int (xs (6 * k + 1))]) (rest := [.int r]) ⟨hx, hb, hml, hown, hT⟩ (c_X7_say l dC dI adM cI cZ hIM 1 (Nat.le_refl _) gM (xs (6 * k + 1)) r tM eM) (cwV 1 hT gL_law_X7_say rfl rfl rfl ⟨rfl, hd_X7_say⟩ ⟨Nat.le_of_ble_eq_true rfl, Nat.le_of_ble_eq_true rfl⟩) (ob_preV hKM hM (q := 0) shM_0 rfl) rfl rfl hl.1 rfl (lv_room (Nat.le_of_ble_eq_true rfl)) dL_law_159 ⟨Nat.le_of_ble_eq_true rfl, Nat.le_of_ble_eq_true rfl⟩) hAM hd hX hS (fun H locs hX hM hS => ?_)
  refine la_same hx hb dL_law_162 (by decide) ?_
  exact kk _ _ _ _ ⟨hX, hM, hS, hR⟩
set_option maxHeartbeats 4000000 in
set_option maxRecDepth 100000 in
theorem la_1 (C : la_C p s m meth c b L xs dC dI cI cZ adX adM) (hk : 6 * k + 6 ≤ L) (J : la_J s dC dI cI cZ adX adM k gX gM H locs) (hl : lv_has ls 4 [(0, .ref b), (1, .ref (adX 0)), (2, .ref (adM 0)), (3, .int (nI (6 * k)))]) (kk : ∀ (gX gM : Mm) (H : Heap) (locs : List Loc), la_J s dC dI cI cZ adX adM (k + 1) gX gM H locs → W p l e room_1 s m #[Value.ref b] below meth c H locs 600000 7302250 Q (F0 m 898 ls [])) : W p l e room_1 s m #[Value.ref b] below meth c H locs 600000 7302250 Q (F0 m 167 ls []) := by
  obtain ⟨⟨hx, hb, hr, hml, hown, hts, -, -, -, -⟩, hL, hIX, hIM, hAX, hAM, hd, hKX, hKM⟩ := id C
  have hT : ∀ w ∈ wsL_law, w.before #[Value.ref b] s = true := fun w h => hts w (wsL_law_in w h)
  have hown : s.vm.findClass RL = some m.cls := hown
  obtain ⟨hX, hM, hS, hR⟩ := J
  obtain ⟨r, tX, tM, eX, eM, hR⟩ := ag_wipe hR
  refine lv_aload_n hx hb dL_law_167 rfl (lv_at hl 1 rfl) ?_
  refine la_callX (va_runV (As := []) (rest := []) ⟨hx, hb, hml, hown, hT⟩ (c_X6_wipe l dC dI adX cI cZ hIX 1 (Nat.le_refl _) gX r tX eX) (cwV 0 hT gL_law_X6_wipe rfl rfl rfl ⟨rfl, hd_X6_wipe⟩ ⟨Nat.le_of_ble_eq_true rfl, Nat.le_of_ble_eq_true rfl⟩) (ob_preV hKX hX (q := 0) shX_0 rfl) rfl rfl hl.1 rfl (lv_room (Nat.le_of_ble_eq_true rfl)) dL_law_168 ⟨Nat.le_of_ble_eq_true rfl, Nat.le_of_ble_eq_true rfl⟩) hAX hd hM hS (fun H locs hX hM hS => ?_)
  refine lv_aload_n hx hb dL_law_171 rfl (lv_at hl 2 rfl) ?_
  refine la_callM (va_runV (As := []) (rest := [.int r]) ⟨hx, hb, hml, hown, hT⟩ (c_X7_wipe l dC dI adM cI cZ hIM 0 (Nat.le_refl _) gM r tM eM) (cwV 0 hT gL_law_X7_wipe rfl rfl rfl ⟨rfl, hd_X7_wipe⟩ ⟨Nat.le_of_ble_eq_true rfl, Nat.le_of_ble_eq_true rfl⟩) (ob_preV hKM hM (q := 0) shM_0 rfl) rfl rfl hl.1 rfl (lv_room (Nat.le_of_ble_eq_true rfl)) dL_law_172 ⟨Nat.le_of_ble_eq_true rfl, Nat.le_of_ble_eq_true rfl⟩) hAM hd hX hS (fun H locs hX hM hS => ?_)
  refine la_same hx hb dL_law_175 (by decide) ?_
  exact kk _ _ _ _ ⟨hX, hM, hS, hR⟩
set_option maxHeartbeats 4000000 in
set_option maxRecDepth 100000 in
theorem la_2 (C : la_C p s m meth c b L xs dC dI cI cZ adX adM) (hk : 6 * k + 6 ≤ L) (J : la_J s dC dI cI cZ adX adM k gX gM H locs) (hl : lv_has ls 4 [(0, .ref b), (1, .ref (adX 0)), (2, .ref (adM 0)), (3, .int (nI (6 * k)))]) (kk : ∀ (gX gM : Mm) (H : Heap) (locs : List Loc), la_J s dC dI cI cZ adX adM (k + 1) gX gM H locs → W p l e room_1 s m #[Value.ref b] below meth c H locs 600000 7302250 Q (F0 m 898 ls [])) : W p l e room_1 s m #[Value.ref b] below meth c H locs 600000 7302250 Q (F0 m 180 ls []) := by
  obtain ⟨⟨hx, hb, hr, hml, hown, hts, -, -, -, -⟩, hL, hIX, hIM, hAX, hAM, hd, hKX, hKM⟩ := id C
  have hT : ∀ w ∈ wsL_law, w.before #[Value.ref b] s = true := fun w h => hts w (wsL_law_in w h)
  have hown : s.vm.findClass RL = some m.cls := hown
  obtain ⟨hX, hM, hS, hR⟩ := J
  obtain ⟨r, eX, eM⟩ := ag_fault hR (xs (6 * k + 1))
  have hR := hR.mono (Nat.le_succ k)
  refine lv_aload_n hx hb dL_law_180 rfl (lv_at hl 1 rfl) ?_
  refine la_arg (j := 1) (v := 1) C hS hl (by omega) (by decide) rfl dL_law_181 dL_law_182 dL_law_183 dL_law_184 dL_law_185 ?_
  refine la_callX (va_runV (As := [.int (xs (6 * k + 1))]) (rest := []) ⟨hx, hb, hml, hown, hT⟩ (c_X6_fault l dC dI adX cI cZ hIX 5 (Nat.le_refl _) gX (xs (6 * k + 1)) r eX) (cwV 1 hT gL_law_X6_fault rfl rfl rfl ⟨rfl, hd_X6_fault⟩ ⟨Nat.le_of_ble_eq_true rfl, Nat.le_of_ble_eq_true rfl⟩) (ob_preV hKX hX (q := 0) shX_0 rfl) rfl rfl hl.1 rfl (lv_room (Nat.le_of_ble_eq_true rfl)) dL_law_186 ⟨Nat.le_of_ble_eq_true rfl, Nat.le_of_ble_eq_true rfl⟩) hAX hd hM hS (fun H locs hX hM hS => ?_)
  refine lv_aload_n hx hb dL_law_189 rfl (lv_at hl 2 rfl) ?_
  refine la_arg (j := 1) (v := 1) C hS hl (by omega) (by decide) rfl dL_law_190 dL_law_191 dL_law_192 dL_law_193 dL_law_194 ?_
  refine la_callM (va_runV (As := [.int (xs (6 * k + 1))]) (rest := [.int r]) ⟨hx, hb, hml, hown, hT⟩ (c_X7_fault l dC dI adM cI cZ hIM 3 (Nat.le_refl _) gM (xs (6 * k + 1)) r eM) (cwV 1 hT gL_law_X7_fault rfl rfl rfl ⟨rfl, hd_X7_fault⟩ ⟨Nat.le_of_ble_eq_true rfl, Nat.le_of_ble_eq_true rfl⟩) (ob_preV hKM hM (q := 0) shM_0 rfl) rfl rfl hl.1 rfl (lv_room (Nat.le_of_ble_eq_true rfl)) dL_law_195 ⟨Nat.le_of_ble_eq_true rfl, Nat.le_of_ble_eq_true rfl⟩) hAM hd hX hS (fun H locs hX hM hS => ?_)
  refine la_same hx hb dL_law_198 (by decide) ?_
  exact kk _ _ _ _ ⟨hX, hM, hS, hR⟩
set_option maxHeartbeats 4000000 in
set_option maxRecDepth 100000 in
theorem la_3 (C : la_C p s m meth c b L xs dC dI cI cZ adX adM) (hk : 6 * k + 6 ≤ L) (J : la_J s dC dI cI cZ adX adM k gX gM H locs) (hl : lv_has ls 4 [(0, .ref b), (1, .ref (adX 0)), (2, .ref (adM 0)), (3, .int (nI (6 * k)))]) (kk : ∀ (gX gM : Mm) (H : Heap) (locs : List Loc), la_J s dC dI cI cZ adX adM (k + 1) gX gM H locs → W p l e room_1 s m #[Value.ref b] below meth c H locs 600000 7302250 Q (F0 m 898 ls [])) : W p l e room_1 s m #[Value.ref b] below meth c H locs 600000 7302250 Q (F0 m 203 ls []) := by
  obtain ⟨⟨hx, hb, hr, hml, hown, hts, -, -, -, -⟩, hL, hIX, hIM, hAX, hAM, hd, hKX, hKM⟩ := id C
  have hT : ∀ w ∈ wsL_law, w.before #[Value.ref b] s = true := fun w h => hts w (wsL_law_in w h)
  have hown : s.vm.findClass RL = some m.cls := hown
  obtain ⟨hX, hM, hS, hR⟩ := J
  obtain ⟨r, tX, tM, eX, eM, hR⟩ := ag_steps hR
  refine lv_aload_n hx hb dL_law_203 rfl (lv_at hl 1 rfl) ?_
  refine la_callX (va_runV (As := []) (rest := []) ⟨hx, hb, hml, hown, hT⟩ (c_X6_steps l dC dI adX cI cZ hIX 5 (Nat.le_refl _) gX r tX eX) (cwV 0 hT gL_law_X6_steps rfl rfl rfl ⟨rfl, hd_X6_steps⟩ ⟨Nat.le_of_ble_eq_true rfl, Nat.le_of_ble_eq_true rfl⟩) (ob_preV hKX hX (q := 0) shX_0 rfl) rfl rfl hl.1 rfl (lv_room (Nat.le_of_ble_eq_true rfl)) dL_law_204 ⟨Nat.le_of_ble_eq_true rfl, Nat.le_of_ble_eq_true rfl⟩) hAX hd hM hS (fun H locs hX hM hS => ?_)
  refine lv_aload_n hx hb dL_law_207 rfl (lv_at hl 2 rfl) ?_
  refine la_callM (va_runV (As := []) (rest := [.int r]) ⟨hx, hb, hml, hown, hT⟩ (c_X7_steps l dC dI adM cI cZ hIM 3 (Nat.le_refl _) gM r tM eM) (cwV 0 hT gL_law_X7_steps rfl rfl rfl ⟨rfl, hd_X7_steps⟩ ⟨Nat.le_of_ble_eq_true rfl, Nat.le_of_ble_eq_true rfl⟩) (ob_preV hKM hM (q := 0) shM_0 rfl) rfl rfl hl.1 rfl (lv_room (Nat.le_of_ble_eq_true rfl)) dL_law_208 ⟨Nat.le_of_ble_eq_true rfl, Nat.le_of_ble_eq_true rfl⟩) hAM hd hX hS (fun H locs hX hM hS => ?_)
  refine la_same hx hb dL_law_211 (by decide) ?_
  exact kk _ _ _ _ ⟨hX, hM, hS, hR⟩
set_option maxHeartbeats 4000000 in
set_option maxRecDepth 100000 in
theorem la_4 (C : la_C p s m meth c b L xs dC dI cI cZ adX adM) (hk : 6 * k + 6 ≤ L) (J : la_J s dC dI cI cZ adX adM k gX gM H locs) (hl : lv_has ls 4 [(0, .ref b), (1, .ref (adX 0)), (2, .ref (adM 0)), (3, .int (nI (6 * k)))]) (kk : ∀ (gX gM : Mm) (H : Heap) (locs : List Loc), la_J s dC dI cI cZ adX adM (k + 1) gX gM H locs → W p l e room_1 s m #[Value.ref b] below meth c H locs 600000 7302250 Q (F0 m 898 ls [])) : W p l e room_1 s m #[Value.ref b] below meth c H locs 600000 7302250 Q (F0 m 216 ls []) := by
  obtain ⟨⟨hx, hb, hr, hml, hown, hts, -, -, -, -⟩, hL, hIX, hIM, hAX, hAM, hd, hKX, hKM⟩ := id C
  have hT : ∀ w ∈ wsL_law, w.before #[Value.ref b] s = true := fun w h => hts w (wsL_law_in w h)
  have hown : s.vm.findClass RL = some m.cls := hown
  obtain ⟨hX, hM, hS, hR⟩ := J
  obtain ⟨r, tX, tM, eX, eM, hR⟩ := ag_step hR (xs (6 * k + 1)) (xs (6 * k + 2)) (decide (¬ xs (6 * k + 3) = 0))
  refine lv_aload_n hx hb dL_law_216 rfl (lv_at hl 1 rfl) ?_
  refine la_arg (j := 1) (v := 1) C hS hl (by omega) (by decide) rfl dL_law_217 dL_law_218 dL_law_219 dL_law_220 dL_law_221 ?_
  refine la_arg (j := 2) (v := 2) C hS hl (by omega) (by decide) rfl dL_law_222 dL_law_223 dL_law_224 dL_law_225 dL_law_226 ?_
  refine la_arg (j := 3) (v := 3) C hS hl (by omega) (by decide) rfl dL_law_227 dL_law_228 dL_law_229 dL_law_230 dL_law_231 ?_
  refine la_bool hx hb dL_law_232 dL_law_235 dL_law_236 dL_law_239 ?_
  refine la_callX (va_runV (As := [.int (xs (6 * k + 1)), .int (xs (6 * k + 2)), .int (bI (decide (¬ xs (6 * k + 3) = 0)))]) (rest := []) ⟨hx, hb, hml, hown, hT⟩ (c_X6_step l dC dI adX cI cZ hIX 3 (Nat.le_refl _) gX (xs (6 * k + 1)) (xs (6 * k + 2)) (bI (decide (¬ xs (6 * k + 3) = 0))) r tX eX) (cwV 3 hT gL_law_X6_step rfl rfl rfl ⟨rfl, hd_X6_step⟩ ⟨Nat.le_of_ble_eq_true rfl, Nat.le_of_ble_eq_true rfl⟩) (ob_preV hKX hX (q := 0) shX_0 rfl) rfl rfl hl.1 rfl (lv_room (Nat.le_of_ble_eq_true rfl)) dL_law_240 ⟨Nat.le_of_ble_eq_true rfl, Nat.le_of_ble_eq_true rfl⟩) hAX hd hM hS (fun H locs hX hM hS => ?_)
  refine lv_aload_n hx hb dL_law_243 rfl (lv_at hl 2 rfl) ?_
  refine la_arg (j := 1) (v := 1) C hS hl (by omega) (by decide) rfl dL_law_244 dL_law_245 dL_law_246 dL_law_247 dL_law_248 ?_
  refine la_arg (j := 2) (v := 2) C hS hl (by omega) (by decide) rfl dL_law_249 dL_law_250 dL_law_251 dL_law_252 dL_law_253 ?_
  refine la_arg (j := 3) (v := 3) C hS hl (by omega) (by decide) rfl dL_law_254 dL_law_255 dL_law_256 dL_law_257 dL_law_258 ?_
  refine la_bool hx hb dL_law_259 dL_law_262 dL_law_263 dL_law_266 ?_
  refine la_callM (va_runV (As := [.int (xs (6 * k + 1)), .int (xs (6 * k + 2)), .int (bI (decide (¬ xs (6 * k + 3) = 0)))]) (rest := [.int r]) ⟨hx, hb, hml, hown, hT⟩ (c_X7_step l dC dI adM cI cZ hIM 2 (Nat.le_refl _) gM (xs (6 * k + 1)) (xs (6 * k + 2)) (bI (decide (¬ xs (6 * k + 3) = 0))) r tM eM) (cwV 3 hT gL_law_X7_step rfl rfl rfl ⟨rfl, hd_X7_step⟩ ⟨Nat.le_of_ble_eq_true rfl, Nat.le_of_ble_eq_true rfl⟩) (ob_preV hKM hM (q := 0) shM_0 rfl) rfl rfl hl.1 rfl (lv_room (Nat.le_of_ble_eq_true rfl)) dL_law_267 ⟨Nat.le_of_ble_eq_true rfl, Nat.le_of_ble_eq_true rfl⟩) hAM hd hX hS (fun H locs hX hM hS => ?_)
  refine la_same hx hb dL_law_270 (by decide) ?_
  exact kk _ _ _ _ ⟨hX, hM, hS, hR⟩
set_option maxHeartbeats 4000000 in
set_option maxRecDepth 100000 in
theorem la_5 (C : la_C p s m meth c b L xs dC dI cI cZ adX adM) (hk : 6 * k + 6 ≤ L) (J : la_J s dC dI cI cZ adX adM k gX gM H locs) (hl : lv_has ls 4 [(0, .ref b), (1, .ref (adX 0)), (2, .ref (adM 0)), (3, .int (nI (6 * k)))]) (kk : ∀ (gX gM : Mm) (H : Heap) (locs : List Loc), la_J s dC dI cI cZ adX adM (k + 1) gX gM H locs → W p l e room_1 s m #[Value.ref b] below meth c H locs 600000 7302250 Q (F0 m 898 ls [])) : W p l e room_1 s m #[Value.ref b] below meth c H locs 600000 7302250 Q (F0 m 275 ls []) := by
  obtain ⟨⟨hx, hb, hr, hml, hown, hts, -, -, -, -⟩, hL, hIX, hIM, hAX, hAM, hd, hKX, hKM⟩ := id C
  have hT : ∀ w ∈ wsL_law, w.before #[Value.ref b] s = true := fun w h => hts w (wsL_law_in w h)
  have hown : s.vm.findClass RL = some m.cls := hown
  obtain ⟨hX, hM, hS, hR⟩ := J
  obtain ⟨r, tX, tM, eX, eM, hR⟩ := ag_needs hR (xs (6 * k + 1)) (xs (6 * k + 2))
  refine lv_aload_n hx hb dL_law_275 rfl (lv_at hl 1 rfl) ?_
  refine la_arg (j := 1) (v := 1) C hS hl (by omega) (by decide) rfl dL_law_276 dL_law_277 dL_law_278 dL_law_279 dL_law_280 ?_
  refine la_arg (j := 2) (v := 2) C hS hl (by omega) (by decide) rfl dL_law_281 dL_law_282 dL_law_283 dL_law_284 dL_law_285 ?_
  refine la_callX (va_runV (As := [.int (xs (6 * k + 1)), .int (xs (6 * k + 2))]) (rest := []) ⟨hx, hb, hml, hown, hT⟩ (c_X6_needs l dC dI adX cI cZ hIX 2 (Nat.le_refl _) gX (xs (6 * k + 1)) (xs (6 * k + 2)) r tX eX) (cwV 2 hT gL_law_X6_needs rfl rfl rfl ⟨rfl, hd_X6_needs⟩ ⟨Nat.le_of_ble_eq_true rfl, Nat.le_of_ble_eq_true rfl⟩) (ob_preV hKX hX (q := 0) shX_0 rfl) rfl rfl hl.1 rfl (lv_room (Nat.le_of_ble_eq_true rfl)) dL_law_286 ⟨Nat.le_of_ble_eq_true rfl, Nat.le_of_ble_eq_true rfl⟩) hAX hd hM hS (fun H locs hX hM hS => ?_)
  refine lv_aload_n hx hb dL_law_289 rfl (lv_at hl 2 rfl) ?_
  refine la_arg (j := 1) (v := 1) C hS hl (by omega) (by decide) rfl dL_law_290 dL_law_291 dL_law_292 dL_law_293 dL_law_294 ?_
  refine la_arg (j := 2) (v := 2) C hS hl (by omega) (by decide) rfl dL_law_295 dL_law_296 dL_law_297 dL_law_298 dL_law_299 ?_
  refine la_callM (va_runV (As := [.int (xs (6 * k + 1)), .int (xs (6 * k + 2))]) (rest := [.int r]) ⟨hx, hb, hml, hown, hT⟩ (c_X7_needs l dC dI adM cI cZ hIM 2 (Nat.le_refl _) gM (xs (6 * k + 1)) (xs (6 * k + 2)) r tM eM) (cwV 2 hT gL_law_X7_needs rfl rfl rfl ⟨rfl, hd_X7_needs⟩ ⟨Nat.le_of_ble_eq_true rfl, Nat.le_of_ble_eq_true rfl⟩) (ob_preV hKM hM (q := 0) shM_0 rfl) rfl rfl hl.1 rfl (lv_room (Nat.le_of_ble_eq_true rfl)) dL_law_300 ⟨Nat.le_of_ble_eq_true rfl, Nat.le_of_ble_eq_true rfl⟩) hAM hd hX hS (fun H locs hX hM hS => ?_)
  refine la_same hx hb dL_law_303 (by decide) ?_
  exact kk _ _ _ _ ⟨hX, hM, hS, hR⟩
set_option maxHeartbeats 4000000 in
set_option maxRecDepth 100000 in
theorem la_6 (C : la_C p s m meth c b L xs dC dI cI cZ adX adM) (hk : 6 * k + 6 ≤ L) (J : la_J s dC dI cI cZ adX adM k gX gM H locs) (hl : lv_has ls 4 [(0, .ref b), (1, .ref (adX 0)), (2, .ref (adM 0)), (3, .int (nI (6 * k)))]) (kk : ∀ (gX gM : Mm) (H : Heap) (locs : List Loc), la_J s dC dI cI cZ adX adM (k + 1) gX gM H locs → W p l e room_1 s m #[Value.ref b] below meth c H locs 600000 7302250 Q (F0 m 898 ls [])) : W p l e room_1 s m #[Value.ref b] below meth c H locs 600000 7302250 Q (F0 m 308 ls []) := by
  obtain ⟨⟨hx, hb, hr, hml, hown, hts, -, -, -, -⟩, hL, hIX, hIM, hAX, hAM, hd, hKX, hKM⟩ := id C
  have hT : ∀ w ∈ wsL_law, w.before #[Value.ref b] s = true := fun w h => hts w (wsL_law_in w h)
  have hown : s.vm.findClass RL = some m.cls := hown
  obtain ⟨hX, hM, hS, hR⟩ := J
  obtain ⟨r, tX, tM, eX, eM, hR⟩ := ag_man hR (xs (6 * k + 1)) (xs (6 * k + 2)) (xs (6 * k + 3))
  refine lv_aload_n hx hb dL_law_308 rfl (lv_at hl 1 rfl) ?_
  refine la_arg (j := 1) (v := 1) C hS hl (by omega) (by decide) rfl dL_law_309 dL_law_310 dL_law_311 dL_law_312 dL_law_313 ?_
  refine la_arg (j := 2) (v := 2) C hS hl (by omega) (by decide) rfl dL_law_314 dL_law_315 dL_law_316 dL_law_317 dL_law_318 ?_
  refine la_arg (j := 3) (v := 3) C hS hl (by omega) (by decide) rfl dL_law_319 dL_law_320 dL_law_321 dL_law_322 dL_law_323 ?_
  refine la_callX (va_runV (As := [.int (xs (6 * k + 1)), .int (xs (6 * k + 2)), .int (xs (6 * k + 3))]) (rest := []) ⟨hx, hb, hml, hown, hT⟩ (c_X6_man l dC dI adX cI cZ hIX 2 (Nat.le_refl _) gX (xs (6 * k + 1)) (xs (6 * k + 2)) (xs (6 * k + 3)) r tX eX) (cwV 3 hT gL_law_X6_man rfl rfl rfl ⟨rfl, hd_X6_man⟩ ⟨Nat.le_of_ble_eq_true rfl, Nat.le_of_ble_eq_true rfl⟩) (ob_preV hKX hX (q := 0) shX_0 rfl) rfl rfl hl.1 rfl (lv_room (Nat.le_of_ble_eq_true rfl)) dL_law_324 ⟨Nat.le_of_ble_eq_true rfl, Nat.le_of_ble_eq_true rfl⟩) hAX hd hM hS (fun H locs hX hM hS => ?_)
  refine lv_aload_n hx hb dL_law_327 rfl (lv_at hl 2 rfl) ?_
  refine la_arg (j := 1) (v := 1) C hS hl (by omega) (by decide) rfl dL_law_328 dL_law_329 dL_law_330 dL_law_331 dL_law_332 ?_
  refine la_arg (j := 2) (v := 2) C hS hl (by omega) (by decide) rfl dL_law_333 dL_law_334 dL_law_335 dL_law_336 dL_law_337 ?_
  refine la_arg (j := 3) (v := 3) C hS hl (by omega) (by decide) rfl dL_law_338 dL_law_339 dL_law_340 dL_law_341 dL_law_342 ?_
  refine la_callM (va_runV (As := [.int (xs (6 * k + 1)), .int (xs (6 * k + 2)), .int (xs (6 * k + 3))]) (rest := [.int r]) ⟨hx, hb, hml, hown, hT⟩ (c_X7_man l dC dI adM cI cZ hIM 2 (Nat.le_refl _) gM (xs (6 * k + 1)) (xs (6 * k + 2)) (xs (6 * k + 3)) r tM eM) (cwV 3 hT gL_law_X7_man rfl rfl rfl ⟨rfl, hd_X7_man⟩ ⟨Nat.le_of_ble_eq_true rfl, Nat.le_of_ble_eq_true rfl⟩) (ob_preV hKM hM (q := 0) shM_0 rfl) rfl rfl hl.1 rfl (lv_room (Nat.le_of_ble_eq_true rfl)) dL_law_343 ⟨Nat.le_of_ble_eq_true rfl, Nat.le_of_ble_eq_true rfl⟩) hAM hd hX hS (fun H locs hX hM hS => ?_)
  refine la_same hx hb dL_law_346 (by decide) ?_
  exact kk _ _ _ _ ⟨hX, hM, hS, hR⟩
set_option maxHeartbeats 4000000 in
set_option maxRecDepth 100000 in
theorem la_7 (C : la_C p s m meth c b L xs dC dI cI cZ adX adM) (hk : 6 * k + 6 ≤ L) (J : la_J s dC dI cI cZ adX adM k gX gM H locs) (hl : lv_has ls 4 [(0, .ref b), (1, .ref (adX 0)), (2, .ref (adM 0)), (3, .int (nI (6 * k)))]) (kk : ∀ (gX gM : Mm) (H : Heap) (locs : List Loc), la_J s dC dI cI cZ adX adM (k + 1) gX gM H locs → W p l e room_1 s m #[Value.ref b] below meth c H locs 600000 7302250 Q (F0 m 898 ls [])) : W p l e room_1 s m #[Value.ref b] below meth c H locs 600000 7302250 Q (F0 m 351 ls []) := by
  obtain ⟨⟨hx, hb, hr, hml, hown, hts, -, -, -, -⟩, hL, hIX, hIM, hAX, hAM, hd, hKX, hKM⟩ := id C
  have hT : ∀ w ∈ wsL_law, w.before #[Value.ref b] s = true := fun w h => hts w (wsL_law_in w h)
  have hown : s.vm.findClass RL = some m.cls := hown
  obtain ⟨hX, hM, hS, hR⟩ := J
  obtain ⟨r, eX, eM⟩ := ag_fit hR (xs (6 * k + 1))
  have hR := hR.mono (Nat.le_succ k)
  refine lv_aload_n hx hb dL_law_351 rfl (lv_at hl 1 rfl) ?_
  refine la_arg (j := 1) (v := 1) C hS hl (by omega) (by decide) rfl dL_law_352 dL_law_353 dL_law_354 dL_law_355 dL_law_356 ?_
  refine la_callX (va_runV (As := [.int (xs (6 * k + 1))]) (rest := []) ⟨hx, hb, hml, hown, hT⟩ (c_X6_fit l dC dI adX cI cZ hIX 3 (Nat.le_refl _) gX (xs (6 * k + 1)) r eX) (cwV 1 hT gL_law_X6_fit rfl rfl rfl ⟨rfl, hd_X6_fit⟩ ⟨Nat.le_of_ble_eq_true rfl, Nat.le_of_ble_eq_true rfl⟩) (ob_preV hKX hX (q := 0) shX_0 rfl) rfl rfl hl.1 rfl (lv_room (Nat.le_of_ble_eq_true rfl)) dL_law_357 ⟨Nat.le_of_ble_eq_true rfl, Nat.le_of_ble_eq_true rfl⟩) hAX hd hM hS (fun H locs hX hM hS => ?_)
  refine lv_aload_n hx hb dL_law_360 rfl (lv_at hl 2 rfl) ?_
  refine la_arg (j := 1) (v := 1) C hS hl (by omega) (by decide) rfl dL_law_361 dL_law_362 dL_law_363 dL_law_364 dL_law_365 ?_
  refine la_callM (va_runV (As := [.int (xs (6 * k + 1))]) (rest := [.int r]) ⟨hx, hb, hml, hown, hT⟩ (c_X7_fit l dC dI adM cI cZ hIM 2 (Nat.le_refl _) gM (xs (6 * k + 1)) r eM) (cwV 1 hT gL_law_X7_fit rfl rfl rfl ⟨rfl, hd_X7_fit⟩ ⟨Nat.le_of_ble_eq_true rfl, Nat.le_of_ble_eq_true rfl⟩) (ob_preV hKM hM (q := 0) shM_0 rfl) rfl rfl hl.1 rfl (lv_room (Nat.le_of_ble_eq_true rfl)) dL_law_366 ⟨Nat.le_of_ble_eq_true rfl, Nat.le_of_ble_eq_true rfl⟩) hAM hd hX hS (fun H locs hX hM hS => ?_)
  refine la_same hx hb dL_law_369 (by decide) ?_
  exact kk _ _ _ _ ⟨hX, hM, hS, hR⟩
set_option maxHeartbeats 4000000 in
set_option maxRecDepth 100000 in
theorem la_8 (C : la_C p s m meth c b L xs dC dI cI cZ adX adM) (hk : 6 * k + 6 ≤ L) (J : la_J s dC dI cI cZ adX adM k gX gM H locs) (hl : lv_has ls 4 [(0, .ref b), (1, .ref (adX 0)), (2, .ref (adM 0)), (3, .int (nI (6 * k)))]) (kk : ∀ (gX gM : Mm) (H : Heap) (locs : List Loc), la_J s dC dI cI cZ adX adM (k + 1) gX gM H locs → W p l e room_1 s m #[Value.ref b] below meth c H locs 600000 7302250 Q (F0 m 898 ls [])) : W p l e room_1 s m #[Value.ref b] below meth c H locs 600000 7302250 Q (F0 m 374 ls []) := by
  obtain ⟨⟨hx, hb, hr, hml, hown, hts, -, -, -, -⟩, hL, hIX, hIM, hAX, hAM, hd, hKX, hKM⟩ := id C
  have hT : ∀ w ∈ wsL_law, w.before #[Value.ref b] s = true := fun w h => hts w (wsL_law_in w h)
  have hown : s.vm.findClass RL = some m.cls := hown
  obtain ⟨hX, hM, hS, hR⟩ := J
  obtain ⟨r, eX, eM⟩ := ag_judge hR (xs (6 * k + 1))
  have hR := hR.mono (Nat.le_succ k)
  refine lv_aload_n hx hb dL_law_374 rfl (lv_at hl 1 rfl) ?_
  refine la_arg (j := 1) (v := 1) C hS hl (by omega) (by decide) rfl dL_law_375 dL_law_376 dL_law_377 dL_law_378 dL_law_379 ?_
  refine la_callX (va_runV (As := [.int (xs (6 * k + 1))]) (rest := []) ⟨hx, hb, hml, hown, hT⟩ (c_X6_judge l dC dI adX cI cZ hIX 5 (Nat.le_refl _) gX (xs (6 * k + 1)) r eX) (cwV 1 hT gL_law_X6_judge rfl rfl rfl ⟨rfl, hd_X6_judge⟩ ⟨Nat.le_of_ble_eq_true rfl, Nat.le_of_ble_eq_true rfl⟩) (ob_preV hKX hX (q := 0) shX_0 rfl) rfl rfl hl.1 rfl (lv_room (Nat.le_of_ble_eq_true rfl)) dL_law_380 ⟨Nat.le_of_ble_eq_true rfl, Nat.le_of_ble_eq_true rfl⟩) hAX hd hM hS (fun H locs hX hM hS => ?_)
  refine lv_aload_n hx hb dL_law_383 rfl (lv_at hl 2 rfl) ?_
  refine la_arg (j := 1) (v := 1) C hS hl (by omega) (by decide) rfl dL_law_384 dL_law_385 dL_law_386 dL_law_387 dL_law_388 ?_
  refine la_callM (va_runV (As := [.int (xs (6 * k + 1))]) (rest := [.int r]) ⟨hx, hb, hml, hown, hT⟩ (c_X7_judge l dC dI adM cI cZ hIM 3 (Nat.le_refl _) gM (xs (6 * k + 1)) r eM) (cwV 1 hT gL_law_X7_judge rfl rfl rfl ⟨rfl, hd_X7_judge⟩ ⟨Nat.le_of_ble_eq_true rfl, Nat.le_of_ble_eq_true rfl⟩) (ob_preV hKM hM (q := 0) shM_0 rfl) rfl rfl hl.1 rfl (lv_room (Nat.le_of_ble_eq_true rfl)) dL_law_389 ⟨Nat.le_of_ble_eq_true rfl, Nat.le_of_ble_eq_true rfl⟩) hAM hd hX hS (fun H locs hX hM hS => ?_)
  refine la_same hx hb dL_law_392 (by decide) ?_
  exact kk _ _ _ _ ⟨hX, hM, hS, hR⟩
set_option maxHeartbeats 4000000 in
set_option maxRecDepth 100000 in
theorem la_9 (C : la_C p s m meth c b L xs dC dI cI cZ adX adM) (hk : 6 * k + 6 ≤ L) (J : la_J s dC dI cI cZ adX adM k gX gM H locs) (hl : lv_has ls 4 [(0, .ref b), (1, .ref (adX 0)), (2, .ref (adM 0)), (3, .int (nI (6 * k)))]) (kk : ∀ (gX gM : Mm) (H : Heap) (locs : List Loc), la_J s dC dI cI cZ adX adM (k + 1) gX gM H locs → W p l e room_1 s m #[Value.ref b] below meth c H locs 600000 7302250 Q (F0 m 898 ls [])) : W p l e room_1 s m #[Value.ref b] below meth c H locs 600000 7302250 Q (F0 m 397 ls []) := by
  obtain ⟨⟨hx, hb, hr, hml, hown, hts, -, -, -, -⟩, hL, hIX, hIM, hAX, hAM, hd, hKX, hKM⟩ := id C
  have hT : ∀ w ∈ wsL_law, w.before #[Value.ref b] s = true := fun w h => hts w (wsL_law_in w h)
  have hown : s.vm.findClass RL = some m.cls := hown
  obtain ⟨hX, hM, hS, hR⟩ := J
  obtain ⟨r, tX, tM, eX, eM, hR⟩ := ag_match hR (by omega) (xs (6 * k + 1)) (xs (6 * k + 2)) (xs (6 * k + 3))
  refine lv_aload_n hx hb dL_law_397 rfl (lv_at hl 1 rfl) ?_
  refine la_arg (j := 1) (v := 1) C hS hl (by omega) (by decide) rfl dL_law_398 dL_law_399 dL_law_400 dL_law_401 dL_law_402 ?_
  refine la_arg (j := 2) (v := 2) C hS hl (by omega) (by decide) rfl dL_law_403 dL_law_404 dL_law_405 dL_law_406 dL_law_407 ?_
  refine la_arg (j := 3) (v := 3) C hS hl (by omega) (by decide) rfl dL_law_408 dL_law_409 dL_law_410 dL_law_411 dL_law_412 ?_
  refine la_callX (va_runV (As := [.int (xs (6 * k + 1)), .int (xs (6 * k + 2)), .int (xs (6 * k + 3))]) (rest := []) ⟨hx, hb, hml, hown, hT⟩ (c_X6_match l dC dI adX cI cZ hIX 28 (Nat.le_refl _) gX (xs (6 * k + 1)) (xs (6 * k + 2)) (xs (6 * k + 3)) r tX eX) (cwV 3 hT gL_law_X6_match rfl rfl rfl ⟨rfl, hd_X6_match⟩ ⟨Nat.le_of_ble_eq_true rfl, Nat.le_of_ble_eq_true rfl⟩) (ob_preV hKX hX (q := 0) shX_0 rfl) rfl rfl hl.1 rfl (lv_room (Nat.le_of_ble_eq_true rfl)) dL_law_413 ⟨Nat.le_of_ble_eq_true rfl, Nat.le_of_ble_eq_true rfl⟩) hAX hd hM hS (fun H locs hX hM hS => ?_)
  refine lv_aload_n hx hb dL_law_416 rfl (lv_at hl 2 rfl) ?_
  refine la_arg (j := 1) (v := 1) C hS hl (by omega) (by decide) rfl dL_law_417 dL_law_418 dL_law_419 dL_law_420 dL_law_421 ?_
  refine la_arg (j := 2) (v := 2) C hS hl (by omega) (by decide) rfl dL_law_422 dL_law_423 dL_law_424 dL_law_425 dL_law_426 ?_
  refine la_arg (j := 3) (v := 3) C hS hl (by omega) (by decide) rfl dL_law_427 dL_law_428 dL_law_429 dL_law_430 dL_law_431 ?_
  refine la_callM (va_runV (As := [.int (xs (6 * k + 1)), .int (xs (6 * k + 2)), .int (xs (6 * k + 3))]) (rest := [.int r]) ⟨hx, hb, hml, hown, hT⟩ (c_X7_match l dC dI adM cI cZ hIM 3 (Nat.le_refl _) gM (xs (6 * k + 1)) (xs (6 * k + 2)) (xs (6 * k + 3)) r tM eM) (cwV 3 hT gL_law_X7_match rfl rfl rfl ⟨rfl, hd_X7_match⟩ ⟨Nat.le_of_ble_eq_true rfl, Nat.le_of_ble_eq_true rfl⟩) (ob_preV hKM hM (q := 0) shM_0 rfl) rfl rfl hl.1 rfl (lv_room (Nat.le_of_ble_eq_true rfl)) dL_law_432 ⟨Nat.le_of_ble_eq_true rfl, Nat.le_of_ble_eq_true rfl⟩) hAM hd hX hS (fun H locs hX hM hS => ?_)
  refine la_same hx hb dL_law_435 (by decide) ?_
  exact kk _ _ _ _ ⟨hX, hM, hS, hR⟩
set_option maxHeartbeats 4000000 in
set_option maxRecDepth 100000 in
theorem la_10 (C : la_C p s m meth c b L xs dC dI cI cZ adX adM) (hk : 6 * k + 6 ≤ L) (J : la_J s dC dI cI cZ adX adM k gX gM H locs) (hl : lv_has ls 4 [(0, .ref b), (1, .ref (adX 0)), (2, .ref (adM 0)), (3, .int (nI (6 * k)))]) (kk : ∀ (gX gM : Mm) (H : Heap) (locs : List Loc), la_J s dC dI cI cZ adX adM (k + 1) gX gM H locs → W p l e room_1 s m #[Value.ref b] below meth c H locs 600000 7302250 Q (F0 m 898 ls [])) : W p l e room_1 s m #[Value.ref b] below meth c H locs 600000 7302250 Q (F0 m 440 ls []) := by
  obtain ⟨⟨hx, hb, hr, hml, hown, hts, -, -, -, -⟩, hL, hIX, hIM, hAX, hAM, hd, hKX, hKM⟩ := id C
  have hT : ∀ w ∈ wsL_law, w.before #[Value.ref b] s = true := fun w h => hts w (wsL_law_in w h)
  have hown : s.vm.findClass RL = some m.cls := hown
  obtain ⟨hX, hM, hS, hR⟩ := J
  obtain ⟨r, tX, tM, eX, eM, hR⟩ := ag_middle hR (by omega) (xs (6 * k + 1)) (xs (6 * k + 2)) (xs (6 * k + 3)) (xs (6 * k + 4)) (xs (6 * k + 5))
  refine lv_aload_n hx hb dL_law_440 rfl (lv_at hl 1 rfl) ?_
  refine la_arg (j := 1) (v := 1) C hS hl (by omega) (by decide) rfl dL_law_441 dL_law_442 dL_law_443 dL_law_444 dL_law_445 ?_
  refine la_arg (j := 2) (v := 2) C hS hl (by omega) (by decide) rfl dL_law_446 dL_law_447 dL_law_448 dL_law_449 dL_law_450 ?_
  refine la_arg (j := 3) (v := 3) C hS hl (by omega) (by decide) rfl dL_law_451 dL_law_452 dL_law_453 dL_law_454 dL_law_455 ?_
  refine la_arg (j := 4) (v := 4) C hS hl (by omega) (by decide) rfl dL_law_456 dL_law_457 dL_law_458 dL_law_459 dL_law_460 ?_
  refine la_arg (j := 5) (v := 5) C hS hl (by omega) (by decide) rfl dL_law_461 dL_law_462 dL_law_463 dL_law_464 dL_law_465 ?_
  refine la_callX (va_runV (As := [.int (xs (6 * k + 1)), .int (xs (6 * k + 2)), .int (xs (6 * k + 3)), .int (xs (6 * k + 4)), .int (xs (6 * k + 5))]) (rest := []) ⟨hx, hb, hml, hown, hT⟩ (c_X6_middle l dC dI adX cI cZ hIX 28 (Nat.le_refl _) gX (xs (6 * k + 1)) (xs (6 * k + 2)) (xs (6 * k + 3)) (xs (6 * k + 4)) (xs (6 * k + 5)) r tX eX) (cwV 5 hT gL_law_X6_middle rfl rfl rfl ⟨rfl, hd_X6_middle⟩ ⟨Nat.le_of_ble_eq_true rfl, Nat.le_of_ble_eq_true rfl⟩) (ob_preV hKX hX (q := 0) shX_0 rfl) rfl rfl hl.1 rfl (lv_room (Nat.le_of_ble_eq_true rfl)) dL_law_466 ⟨Nat.le_of_ble_eq_true rfl, Nat.le_of_ble_eq_true rfl⟩) hAX hd hM hS (fun H locs hX hM hS => ?_)
  refine lv_aload_n hx hb dL_law_469 rfl (lv_at hl 2 rfl) ?_
  refine la_arg (j := 1) (v := 1) C hS hl (by omega) (by decide) rfl dL_law_470 dL_law_471 dL_law_472 dL_law_473 dL_law_474 ?_
  refine la_arg (j := 2) (v := 2) C hS hl (by omega) (by decide) rfl dL_law_475 dL_law_476 dL_law_477 dL_law_478 dL_law_479 ?_
  refine la_arg (j := 3) (v := 3) C hS hl (by omega) (by decide) rfl dL_law_480 dL_law_481 dL_law_482 dL_law_483 dL_law_484 ?_
  refine la_arg (j := 4) (v := 4) C hS hl (by omega) (by decide) rfl dL_law_485 dL_law_486 dL_law_487 dL_law_488 dL_law_489 ?_
  refine la_arg (j := 5) (v := 5) C hS hl (by omega) (by decide) rfl dL_law_490 dL_law_491 dL_law_492 dL_law_493 dL_law_494 ?_
  refine la_callM (va_runV (As := [.int (xs (6 * k + 1)), .int (xs (6 * k + 2)), .int (xs (6 * k + 3)), .int (xs (6 * k + 4)), .int (xs (6 * k + 5))]) (rest := [.int r]) ⟨hx, hb, hml, hown, hT⟩ (c_X7_middle l dC dI adM cI cZ hIM 3 (Nat.le_refl _) gM (xs (6 * k + 1)) (xs (6 * k + 2)) (xs (6 * k + 3)) (xs (6 * k + 4)) (xs (6 * k + 5)) r tM eM) (cwV 5 hT gL_law_X7_middle rfl rfl rfl ⟨rfl, hd_X7_middle⟩ ⟨Nat.le_of_ble_eq_true rfl, Nat.le_of_ble_eq_true rfl⟩) (ob_preV hKM hM (q := 0) shM_0 rfl) rfl rfl hl.1 rfl (lv_room (Nat.le_of_ble_eq_true rfl)) dL_law_495 ⟨Nat.le_of_ble_eq_true rfl, Nat.le_of_ble_eq_true rfl⟩) hAM hd hX hS (fun H locs hX hM hS => ?_)
  refine la_same hx hb dL_law_498 (by decide) ?_
  exact kk _ _ _ _ ⟨hX, hM, hS, hR⟩
set_option maxHeartbeats 4000000 in
set_option maxRecDepth 100000 in
theorem la_11 (C : la_C p s m meth c b L xs dC dI cI cZ adX adM) (hk : 6 * k + 6 ≤ L) (J : la_J s dC dI cI cZ adX adM k gX gM H locs) (hl : lv_has ls 4 [(0, .ref b), (1, .ref (adX 0)), (2, .ref (adM 0)), (3, .int (nI (6 * k)))]) (kk : ∀ (gX gM : Mm) (H : Heap) (locs : List Loc), la_J s dC dI cI cZ adX adM (k + 1) gX gM H locs → W p l e room_1 s m #[Value.ref b] below meth c H locs 600000 7302250 Q (F0 m 898 ls [])) : W p l e room_1 s m #[Value.ref b] below meth c H locs 600000 7302250 Q (F0 m 503 ls []) := by
  obtain ⟨⟨hx, hb, hr, hml, hown, hts, -, -, -, -⟩, hL, hIX, hIM, hAX, hAM, hd, hKX, hKM⟩ := id C
  have hT : ∀ w ∈ wsL_law, w.before #[Value.ref b] s = true := fun w h => hts w (wsL_law_in w h)
  have hown : s.vm.findClass RL = some m.cls := hown
  obtain ⟨hX, hM, hS, hR⟩ := J
  obtain ⟨r, tX, tM, eX, eM, hR⟩ := ag_last hR (by omega) (xs (6 * k + 1)) (xs (6 * k + 2)) (xs (6 * k + 3))
  refine lv_aload_n hx hb dL_law_503 rfl (lv_at hl 1 rfl) ?_
  refine la_arg (j := 1) (v := 1) C hS hl (by omega) (by decide) rfl dL_law_504 dL_law_505 dL_law_506 dL_law_507 dL_law_508 ?_
  refine la_arg (j := 2) (v := 2) C hS hl (by omega) (by decide) rfl dL_law_509 dL_law_510 dL_law_511 dL_law_512 dL_law_513 ?_
  refine la_arg (j := 3) (v := 3) C hS hl (by omega) (by decide) rfl dL_law_514 dL_law_515 dL_law_516 dL_law_517 dL_law_518 ?_
  refine la_callX (va_runV (As := [.int (xs (6 * k + 1)), .int (xs (6 * k + 2)), .int (xs (6 * k + 3))]) (rest := []) ⟨hx, hb, hml, hown, hT⟩ (c_X6_last l dC dI adX cI cZ hIX 28 (Nat.le_refl _) gX (xs (6 * k + 1)) (xs (6 * k + 2)) (xs (6 * k + 3)) r tX eX) (cwV 3 hT gL_law_X6_last rfl rfl rfl ⟨rfl, hd_X6_last⟩ ⟨Nat.le_of_ble_eq_true rfl, Nat.le_of_ble_eq_true rfl⟩) (ob_preV hKX hX (q := 0) shX_0 rfl) rfl rfl hl.1 rfl (lv_room (Nat.le_of_ble_eq_true rfl)) dL_law_519 ⟨Nat.le_of_ble_eq_true rfl, Nat.le_of_ble_eq_true rfl⟩) hAX hd hM hS (fun H locs hX hM hS => ?_)
  refine lv_aload_n hx hb dL_law_522 rfl (lv_at hl 2 rfl) ?_
  refine la_arg (j := 1) (v := 1) C hS hl (by omega) (by decide) rfl dL_law_523 dL_law_524 dL_law_525 dL_law_526 dL_law_527 ?_
  refine la_arg (j := 2) (v := 2) C hS hl (by omega) (by decide) rfl dL_law_528 dL_law_529 dL_law_530 dL_law_531 dL_law_532 ?_
  refine la_arg (j := 3) (v := 3) C hS hl (by omega) (by decide) rfl dL_law_533 dL_law_534 dL_law_535 dL_law_536 dL_law_537 ?_
  refine la_callM (va_runV (As := [.int (xs (6 * k + 1)), .int (xs (6 * k + 2)), .int (xs (6 * k + 3))]) (rest := [.int r]) ⟨hx, hb, hml, hown, hT⟩ (c_X7_last l dC dI adM cI cZ hIM 3 (Nat.le_refl _) gM (xs (6 * k + 1)) (xs (6 * k + 2)) (xs (6 * k + 3)) r tM eM) (cwV 3 hT gL_law_X7_last rfl rfl rfl ⟨rfl, hd_X7_last⟩ ⟨Nat.le_of_ble_eq_true rfl, Nat.le_of_ble_eq_true rfl⟩) (ob_preV hKM hM (q := 0) shM_0 rfl) rfl rfl hl.1 rfl (lv_room (Nat.le_of_ble_eq_true rfl)) dL_law_538 ⟨Nat.le_of_ble_eq_true rfl, Nat.le_of_ble_eq_true rfl⟩) hAM hd hX hS (fun H locs hX hM hS => ?_)
  refine la_same hx hb dL_law_541 (by decide) ?_
  exact kk _ _ _ _ ⟨hX, hM, hS, hR⟩
set_option maxHeartbeats 4000000 in
set_option maxRecDepth 100000 in
theorem la_12 (C : la_C p s m meth c b L xs dC dI cI cZ adX adM) (hk : 6 * k + 6 ≤ L) (J : la_J s dC dI cI cZ adX adM k gX gM H locs) (hl : lv_has ls 4 [(0, .ref b), (1, .ref (adX 0)), (2, .ref (adM 0)), (3, .int (nI (6 * k)))]) (kk : ∀ (gX gM : Mm) (H : Heap) (locs : List Loc), la_J s dC dI cI cZ adX adM (k + 1) gX gM H locs → W p l e room_1 s m #[Value.ref b] below meth c H locs 600000 7302250 Q (F0 m 898 ls [])) : W p l e room_1 s m #[Value.ref b] below meth c H locs 600000 7302250 Q (F0 m 546 ls []) := by
  obtain ⟨⟨hx, hb, hr, hml, hown, hts, -, -, -, -⟩, hL, hIX, hIM, hAX, hAM, hd, hKX, hKM⟩ := id C
  have hT : ∀ w ∈ wsL_law, w.before #[Value.ref b] s = true := fun w h => hts w (wsL_law_in w h)
  have hown : s.vm.findClass RL = some m.cls := hown
  obtain ⟨hX, hM, hS, hR⟩ := J
  obtain ⟨r, tX, tM, eX, eM, hR⟩ := ag_sent hR (by omega) (xs (6 * k + 1)) (decide (¬ xs (6 * k + 2) = 0))
  refine lv_aload_n hx hb dL_law_546 rfl (lv_at hl 1 rfl) ?_
  refine la_arg (j := 1) (v := 1) C hS hl (by omega) (by decide) rfl dL_law_547 dL_law_548 dL_law_549 dL_law_550 dL_law_551 ?_
  refine la_arg (j := 2) (v := 2) C hS hl (by omega) (by decide) rfl dL_law_552 dL_law_553 dL_law_554 dL_law_555 dL_law_556 ?_
  refine la_bool hx hb dL_law_557 dL_law_560 dL_law_561 dL_law_564 ?_
  refine la_callX (va_runV (As := [.int (xs (6 * k + 1)), .int (bI (decide (¬ xs (6 * k + 2) = 0)))]) (rest := []) ⟨hx, hb, hml, hown, hT⟩ (c_X6_sent l dC dI adX cI cZ hIX 29 (Nat.le_refl _) gX (xs (6 * k + 1)) (bI (decide (¬ xs (6 * k + 2) = 0))) r tX eX) (cwV 2 hT gL_law_X6_sent rfl rfl rfl ⟨rfl, hd_X6_sent⟩ ⟨Nat.le_of_ble_eq_true rfl, Nat.le_of_ble_eq_true rfl⟩) (ob_preV hKX hX (q := 0) shX_0 rfl) rfl rfl hl.1 rfl (lv_room (Nat.le_of_ble_eq_true rfl)) dL_law_565 ⟨Nat.le_of_ble_eq_true rfl, Nat.le_of_ble_eq_true rfl⟩) hAX hd hM hS (fun H locs hX hM hS => ?_)
  refine lv_aload_n hx hb dL_law_568 rfl (lv_at hl 2 rfl) ?_
  refine la_arg (j := 1) (v := 1) C hS hl (by omega) (by decide) rfl dL_law_569 dL_law_570 dL_law_571 dL_law_572 dL_law_573 ?_
  refine la_arg (j := 2) (v := 2) C hS hl (by omega) (by decide) rfl dL_law_574 dL_law_575 dL_law_576 dL_law_577 dL_law_578 ?_
  refine la_bool hx hb dL_law_579 dL_law_582 dL_law_583 dL_law_586 ?_
  refine la_callM (va_runV (As := [.int (xs (6 * k + 1)), .int (bI (decide (¬ xs (6 * k + 2) = 0)))]) (rest := [.int r]) ⟨hx, hb, hml, hown, hT⟩ (c_X7_sent l dC dI adM cI cZ hIM 4 (Nat.le_refl _) gM (xs (6 * k + 1)) (bI (decide (¬ xs (6 * k + 2) = 0))) r tM eM) (cwV 2 hT gL_law_X7_sent rfl rfl rfl ⟨rfl, hd_X7_sent⟩ ⟨Nat.le_of_ble_eq_true rfl, Nat.le_of_ble_eq_true rfl⟩) (ob_preV hKM hM (q := 0) shM_0 rfl) rfl rfl hl.1 rfl (lv_room (Nat.le_of_ble_eq_true rfl)) dL_law_587 ⟨Nat.le_of_ble_eq_true rfl, Nat.le_of_ble_eq_true rfl⟩) hAM hd hX hS (fun H locs hX hM hS => ?_)
  refine la_same hx hb dL_law_590 (by decide) ?_
  exact kk _ _ _ _ ⟨hX, hM, hS, hR⟩
set_option maxHeartbeats 4000000 in
set_option maxRecDepth 100000 in
theorem la_13 (C : la_C p s m meth c b L xs dC dI cI cZ adX adM) (hk : 6 * k + 6 ≤ L) (J : la_J s dC dI cI cZ adX adM k gX gM H locs) (hl : lv_has ls 4 [(0, .ref b), (1, .ref (adX 0)), (2, .ref (adM 0)), (3, .int (nI (6 * k)))]) (kk : ∀ (gX gM : Mm) (H : Heap) (locs : List Loc), la_J s dC dI cI cZ adX adM (k + 1) gX gM H locs → W p l e room_1 s m #[Value.ref b] below meth c H locs 600000 7302250 Q (F0 m 898 ls [])) : W p l e room_1 s m #[Value.ref b] below meth c H locs 600000 7302250 Q (F0 m 595 ls []) := by
  obtain ⟨⟨hx, hb, hr, hml, hown, hts, -, -, -, -⟩, hL, hIX, hIM, hAX, hAM, hd, hKX, hKM⟩ := id C
  have hT : ∀ w ∈ wsL_law, w.before #[Value.ref b] s = true := fun w h => hts w (wsL_law_in w h)
  have hown : s.vm.findClass RL = some m.cls := hown
  obtain ⟨hX, hM, hS, hR⟩ := J
  obtain ⟨r, eX, eM⟩ := ag_safe hR (xs (6 * k + 1))
  have hR := hR.mono (Nat.le_succ k)
  refine lv_aload_n hx hb dL_law_595 rfl (lv_at hl 1 rfl) ?_
  refine la_arg (j := 1) (v := 1) C hS hl (by omega) (by decide) rfl dL_law_596 dL_law_597 dL_law_598 dL_law_599 dL_law_600 ?_
  refine la_callX (va_runV (As := [.int (xs (6 * k + 1))]) (rest := []) ⟨hx, hb, hml, hown, hT⟩ (c_X6_safe l dC dI adX cI cZ hIX 4 (Nat.le_refl _) gX (xs (6 * k + 1)) r eX) (cwV 1 hT gL_law_X6_safe rfl rfl rfl ⟨rfl, hd_X6_safe⟩ ⟨Nat.le_of_ble_eq_true rfl, Nat.le_of_ble_eq_true rfl⟩) (ob_preV hKX hX (q := 0) shX_0 rfl) rfl rfl hl.1 rfl (lv_room (Nat.le_of_ble_eq_true rfl)) dL_law_601 ⟨Nat.le_of_ble_eq_true rfl, Nat.le_of_ble_eq_true rfl⟩) hAX hd hM hS (fun H locs hX hM hS => ?_)
  refine lv_aload_n hx hb dL_law_604 rfl (lv_at hl 2 rfl) ?_
  refine la_arg (j := 1) (v := 1) C hS hl (by omega) (by decide) rfl dL_law_605 dL_law_606 dL_law_607 dL_law_608 dL_law_609 ?_
  refine la_callM (va_runV (As := [.int (xs (6 * k + 1))]) (rest := [.int r]) ⟨hx, hb, hml, hown, hT⟩ (c_X7_safe l dC dI adM cI cZ hIM 2 (Nat.le_refl _) gM (xs (6 * k + 1)) r eM) (cwV 1 hT gL_law_X7_safe rfl rfl rfl ⟨rfl, hd_X7_safe⟩ ⟨Nat.le_of_ble_eq_true rfl, Nat.le_of_ble_eq_true rfl⟩) (ob_preV hKM hM (q := 0) shM_0 rfl) rfl rfl hl.1 rfl (lv_room (Nat.le_of_ble_eq_true rfl)) dL_law_610 ⟨Nat.le_of_ble_eq_true rfl, Nat.le_of_ble_eq_true rfl⟩) hAM hd hX hS (fun H locs hX hM hS => ?_)
  refine la_same hx hb dL_law_613 (by decide) ?_
  exact kk _ _ _ _ ⟨hX, hM, hS, hR⟩
set_option maxHeartbeats 4000000 in
set_option maxRecDepth 100000 in
theorem la_14 (C : la_C p s m meth c b L xs dC dI cI cZ adX adM) (hk : 6 * k + 6 ≤ L) (J : la_J s dC dI cI cZ adX adM k gX gM H locs) (hl : lv_has ls 4 [(0, .ref b), (1, .ref (adX 0)), (2, .ref (adM 0)), (3, .int (nI (6 * k)))]) (kk : ∀ (gX gM : Mm) (H : Heap) (locs : List Loc), la_J s dC dI cI cZ adX adM (k + 1) gX gM H locs → W p l e room_1 s m #[Value.ref b] below meth c H locs 600000 7302250 Q (F0 m 898 ls [])) : W p l e room_1 s m #[Value.ref b] below meth c H locs 600000 7302250 Q (F0 m 618 ls []) := by
  obtain ⟨⟨hx, hb, hr, hml, hown, hts, -, -, -, -⟩, hL, hIX, hIM, hAX, hAM, hd, hKX, hKM⟩ := id C
  have hT : ∀ w ∈ wsL_law, w.before #[Value.ref b] s = true := fun w h => hts w (wsL_law_in w h)
  have hown : s.vm.findClass RL = some m.cls := hown
  obtain ⟨hX, hM, hS, hR⟩ := J
  obtain ⟨r, tX, tM, eX, eM, hR⟩ := ag_worth hR (by omega) (xs (6 * k + 1)) (xs (6 * k + 2))
  refine lv_aload_n hx hb dL_law_618 rfl (lv_at hl 1 rfl) ?_
  refine la_arg (j := 1) (v := 1) C hS hl (by omega) (by decide) rfl dL_law_619 dL_law_620 dL_law_621 dL_law_622 dL_law_623 ?_
  refine la_arg (j := 2) (v := 2) C hS hl (by omega) (by decide) rfl dL_law_624 dL_law_625 dL_law_626 dL_law_627 dL_law_628 ?_
  refine la_callX (va_runV (As := [.int (xs (6 * k + 1)), .int (xs (6 * k + 2))]) (rest := []) ⟨hx, hb, hml, hown, hT⟩ (c_X6_worth l dC dI adX cI cZ hIX 30 (Nat.le_refl _) gX (xs (6 * k + 1)) (xs (6 * k + 2)) r tX eX) (cwV 2 hT gL_law_X6_worth rfl rfl rfl ⟨rfl, hd_X6_worth⟩ ⟨Nat.le_of_ble_eq_true rfl, Nat.le_of_ble_eq_true rfl⟩) (ob_preV hKX hX (q := 0) shX_0 rfl) rfl rfl hl.1 rfl (lv_room (Nat.le_of_ble_eq_true rfl)) dL_law_629 ⟨Nat.le_of_ble_eq_true rfl, Nat.le_of_ble_eq_true rfl⟩) hAX hd hM hS (fun H locs hX hM hS => ?_)
  refine lv_aload_n hx hb dL_law_632 rfl (lv_at hl 2 rfl) ?_
  refine la_arg (j := 1) (v := 1) C hS hl (by omega) (by decide) rfl dL_law_633 dL_law_634 dL_law_635 dL_law_636 dL_law_637 ?_
  refine la_arg (j := 2) (v := 2) C hS hl (by omega) (by decide) rfl dL_law_638 dL_law_639 dL_law_640 dL_law_641 dL_law_642 ?_
  refine la_callM (va_runV (As := [.int (xs (6 * k + 1)), .int (xs (6 * k + 2))]) (rest := [.int r]) ⟨hx, hb, hml, hown, hT⟩ (c_X7_worth l dC dI adM cI cZ hIM 5 (Nat.le_refl _) gM (xs (6 * k + 1)) (xs (6 * k + 2)) r tM eM) (cwV 2 hT gL_law_X7_worth rfl rfl rfl ⟨rfl, hd_X7_worth⟩ ⟨Nat.le_of_ble_eq_true rfl, Nat.le_of_ble_eq_true rfl⟩) (ob_preV hKM hM (q := 0) shM_0 rfl) rfl rfl hl.1 rfl (lv_room (Nat.le_of_ble_eq_true rfl)) dL_law_643 ⟨Nat.le_of_ble_eq_true rfl, Nat.le_of_ble_eq_true rfl⟩) hAM hd hX hS (fun H locs hX hM hS => ?_)
  refine la_same hx hb dL_law_646 (by decide) ?_
  exact kk _ _ _ _ ⟨hX, hM, hS, hR⟩
set_option maxHeartbeats 4000000 in
set_option maxRecDepth 100000 in
theorem la_15 (C : la_C p s m meth c b L xs dC dI cI cZ adX adM) (hk : 6 * k + 6 ≤ L) (J : la_J s dC dI cI cZ adX adM k gX gM H locs) (hl : lv_has ls 4 [(0, .ref b), (1, .ref (adX 0)), (2, .ref (adM 0)), (3, .int (nI (6 * k)))]) (kk : ∀ (gX gM : Mm) (H : Heap) (locs : List Loc), la_J s dC dI cI cZ adX adM (k + 1) gX gM H locs → W p l e room_1 s m #[Value.ref b] below meth c H locs 600000 7302250 Q (F0 m 898 ls [])) : W p l e room_1 s m #[Value.ref b] below meth c H locs 600000 7302250 Q (F0 m 651 ls []) := by
  obtain ⟨⟨hx, hb, hr, hml, hown, hts, -, -, -, -⟩, hL, hIX, hIM, hAX, hAM, hd, hKX, hKM⟩ := id C
  have hT : ∀ w ∈ wsL_law, w.before #[Value.ref b] s = true := fun w h => hts w (wsL_law_in w h)
  have hown : s.vm.findClass RL = some m.cls := hown
  obtain ⟨hX, hM, hS, hR⟩ := J
  obtain ⟨r, tX, tM, eX, eM, hR⟩ := ag_crowd hR (xs (6 * k + 1)) (xs (6 * k + 2))
  refine lv_aload_n hx hb dL_law_651 rfl (lv_at hl 1 rfl) ?_
  refine la_arg (j := 1) (v := 1) C hS hl (by omega) (by decide) rfl dL_law_652 dL_law_653 dL_law_654 dL_law_655 dL_law_656 ?_
  refine la_arg (j := 2) (v := 2) C hS hl (by omega) (by decide) rfl dL_law_657 dL_law_658 dL_law_659 dL_law_660 dL_law_661 ?_
  refine la_callX (va_runV (As := [.int (xs (6 * k + 1)), .int (xs (6 * k + 2))]) (rest := []) ⟨hx, hb, hml, hown, hT⟩ (c_X6_crowd l dC dI adX cI cZ hIX 19 (Nat.le_refl _) gX (xs (6 * k + 1)) (xs (6 * k + 2)) r tX eX) (cwV 2 hT gL_law_X6_crowd rfl rfl rfl ⟨rfl, hd_X6_crowd⟩ ⟨Nat.le_of_ble_eq_true rfl, Nat.le_of_ble_eq_true rfl⟩) (ob_preV hKX hX (q := 0) shX_0 rfl) rfl rfl hl.1 rfl (lv_room (Nat.le_of_ble_eq_true rfl)) dL_law_662 ⟨Nat.le_of_ble_eq_true rfl, Nat.le_of_ble_eq_true rfl⟩) hAX hd hM hS (fun H locs hX hM hS => ?_)
  refine lv_aload_n hx hb dL_law_665 rfl (lv_at hl 2 rfl) ?_
  refine la_arg (j := 1) (v := 1) C hS hl (by omega) (by decide) rfl dL_law_666 dL_law_667 dL_law_668 dL_law_669 dL_law_670 ?_
  refine la_arg (j := 2) (v := 2) C hS hl (by omega) (by decide) rfl dL_law_671 dL_law_672 dL_law_673 dL_law_674 dL_law_675 ?_
  refine la_callM (va_runV (As := [.int (xs (6 * k + 1)), .int (xs (6 * k + 2))]) (rest := [.int r]) ⟨hx, hb, hml, hown, hT⟩ (c_X7_crowd l dC dI adM cI cZ hIM 4 (Nat.le_refl _) gM (xs (6 * k + 1)) (xs (6 * k + 2)) r tM eM) (cwV 2 hT gL_law_X7_crowd rfl rfl rfl ⟨rfl, hd_X7_crowd⟩ ⟨Nat.le_of_ble_eq_true rfl, Nat.le_of_ble_eq_true rfl⟩) (ob_preV hKM hM (q := 0) shM_0 rfl) rfl rfl hl.1 rfl (lv_room (Nat.le_of_ble_eq_true rfl)) dL_law_676 ⟨Nat.le_of_ble_eq_true rfl, Nat.le_of_ble_eq_true rfl⟩) hAM hd hX hS (fun H locs hX hM hS => ?_)
  refine la_same hx hb dL_law_679 (by decide) ?_
  exact kk _ _ _ _ ⟨hX, hM, hS, hR⟩
set_option maxHeartbeats 4000000 in
set_option maxRecDepth 100000 in
theorem la_16 (C : la_C p s m meth c b L xs dC dI cI cZ adX adM) (hk : 6 * k + 6 ≤ L) (J : la_J s dC dI cI cZ adX adM k gX gM H locs) (hl : lv_has ls 4 [(0, .ref b), (1, .ref (adX 0)), (2, .ref (adM 0)), (3, .int (nI (6 * k)))]) (kk : ∀ (gX gM : Mm) (H : Heap) (locs : List Loc), la_J s dC dI cI cZ adX adM (k + 1) gX gM H locs → W p l e room_1 s m #[Value.ref b] below meth c H locs 600000 7302250 Q (F0 m 898 ls [])) : W p l e room_1 s m #[Value.ref b] below meth c H locs 600000 7302250 Q (F0 m 684 ls []) := by
  obtain ⟨⟨hx, hb, hr, hml, hown, hts, -, -, -, -⟩, hL, hIX, hIM, hAX, hAM, hd, hKX, hKM⟩ := id C
  have hT : ∀ w ∈ wsL_law, w.before #[Value.ref b] s = true := fun w h => hts w (wsL_law_in w h)
  have hown : s.vm.findClass RL = some m.cls := hown
  obtain ⟨hX, hM, hS, hR⟩ := J
  obtain ⟨r, tX, eX, eM, hR⟩ := ag_rings hR (xs (6 * k + 1))
  refine lv_aload_n hx hb dL_law_684 rfl (lv_at hl 1 rfl) ?_
  refine la_arg (j := 1) (v := 1) C hS hl (by omega) (by decide) rfl dL_law_685 dL_law_686 dL_law_687 dL_law_688 dL_law_689 ?_
  refine la_callX (va_runV (As := [.int (xs (6 * k + 1))]) (rest := []) ⟨hx, hb, hml, hown, hT⟩ (c_X6_rings l dC dI adX cI cZ hIX 3 (Nat.le_refl _) gX (xs (6 * k + 1)) r tX eX) (cwV 1 hT gL_law_X6_rings rfl rfl rfl ⟨rfl, hd_X6_rings⟩ ⟨Nat.le_of_ble_eq_true rfl, Nat.le_of_ble_eq_true rfl⟩) (ob_preV hKX hX (q := 0) shX_0 rfl) rfl rfl hl.1 rfl (lv_room (Nat.le_of_ble_eq_true rfl)) dL_law_690 ⟨Nat.le_of_ble_eq_true rfl, Nat.le_of_ble_eq_true rfl⟩) hAX hd hM hS (fun H locs hX hM hS => ?_)
  refine lv_aload_n hx hb dL_law_693 rfl (lv_at hl 2 rfl) ?_
  refine la_arg (j := 1) (v := 1) C hS hl (by omega) (by decide) rfl dL_law_694 dL_law_695 dL_law_696 dL_law_697 dL_law_698 ?_
  refine la_callM (va_runV (As := [.int (xs (6 * k + 1))]) (rest := [.int r]) ⟨hx, hb, hml, hown, hT⟩ (c_X7_rings l dC dI adM cI cZ hIM 2 (Nat.le_refl _) gM (xs (6 * k + 1)) r eM) (cwV 1 hT gL_law_X7_rings rfl rfl rfl ⟨rfl, hd_X7_rings⟩ ⟨Nat.le_of_ble_eq_true rfl, Nat.le_of_ble_eq_true rfl⟩) (ob_preV hKM hM (q := 0) shM_0 rfl) rfl rfl hl.1 rfl (lv_room (Nat.le_of_ble_eq_true rfl)) dL_law_699 ⟨Nat.le_of_ble_eq_true rfl, Nat.le_of_ble_eq_true rfl⟩) hAM hd hX hS (fun H locs hX hM hS => ?_)
  refine la_same hx hb dL_law_702 (by decide) ?_
  exact kk _ _ _ _ ⟨hX, hM, hS, hR⟩
set_option maxHeartbeats 4000000 in
set_option maxRecDepth 100000 in
theorem la_17 (C : la_C p s m meth c b L xs dC dI cI cZ adX adM) (hk : 6 * k + 6 ≤ L) (J : la_J s dC dI cI cZ adX adM k gX gM H locs) (hl : lv_has ls 4 [(0, .ref b), (1, .ref (adX 0)), (2, .ref (adM 0)), (3, .int (nI (6 * k)))]) (kk : ∀ (gX gM : Mm) (H : Heap) (locs : List Loc), la_J s dC dI cI cZ adX adM (k + 1) gX gM H locs → W p l e room_1 s m #[Value.ref b] below meth c H locs 600000 7302250 Q (F0 m 898 ls [])) : W p l e room_1 s m #[Value.ref b] below meth c H locs 600000 7302250 Q (F0 m 707 ls []) := by
  obtain ⟨⟨hx, hb, hr, hml, hown, hts, -, -, -, -⟩, hL, hIX, hIM, hAX, hAM, hd, hKX, hKM⟩ := id C
  have hT : ∀ w ∈ wsL_law, w.before #[Value.ref b] s = true := fun w h => hts w (wsL_law_in w h)
  have hown : s.vm.findClass RL = some m.cls := hown
  obtain ⟨hX, hM, hS, hR⟩ := J
  obtain ⟨r, tX, tM, eX, eM, hR⟩ := ag_ladder hR (xs (6 * k + 1))
  refine lv_aload_n hx hb dL_law_707 rfl (lv_at hl 1 rfl) ?_
  refine la_arg (j := 1) (v := 1) C hS hl (by omega) (by decide) rfl dL_law_708 dL_law_709 dL_law_710 dL_law_711 dL_law_712 ?_
  refine la_callX (va_runV (As := [.int (xs (6 * k + 1))]) (rest := []) ⟨hx, hb, hml, hown, hT⟩ (c_X6_ladder l dC dI adX cI cZ hIX 5 (Nat.le_refl _) gX (xs (6 * k + 1)) r tX eX) (cwV 1 hT gL_law_X6_ladder rfl rfl rfl ⟨rfl, hd_X6_ladder⟩ ⟨Nat.le_of_ble_eq_true rfl, Nat.le_of_ble_eq_true rfl⟩) (ob_preV hKX hX (q := 0) shX_0 rfl) rfl rfl hl.1 rfl (lv_room (Nat.le_of_ble_eq_true rfl)) dL_law_713 ⟨Nat.le_of_ble_eq_true rfl, Nat.le_of_ble_eq_true rfl⟩) hAX hd hM hS (fun H locs hX hM hS => ?_)
  refine lv_aload_n hx hb dL_law_716 rfl (lv_at hl 2 rfl) ?_
  refine la_arg (j := 1) (v := 1) C hS hl (by omega) (by decide) rfl dL_law_717 dL_law_718 dL_law_719 dL_law_720 dL_law_721 ?_
  refine la_callM (va_runV (As := [.int (xs (6 * k + 1))]) (rest := [.int r]) ⟨hx, hb, hml, hown, hT⟩ (c_X7_ladder l dC dI adM cI cZ hIM 1 (Nat.le_refl _) gM (xs (6 * k + 1)) r tM eM) (cwV 1 hT gL_law_X7_ladder rfl rfl rfl ⟨rfl, hd_X7_ladder⟩ ⟨Nat.le_of_ble_eq_true rfl, Nat.le_of_ble_eq_true rfl⟩) (ob_preV hKM hM (q := 0) shM_0 rfl) rfl rfl hl.1 rfl (lv_room (Nat.le_of_ble_eq_true rfl)) dL_law_722 ⟨Nat.le_of_ble_eq_true rfl, Nat.le_of_ble_eq_true rfl⟩) hAM hd hX hS (fun H locs hX hM hS => ?_)
  refine la_same hx hb dL_law_725 (by decide) ?_
  exact kk _ _ _ _ ⟨hX, hM, hS, hR⟩
set_option maxHeartbeats 4000000 in
set_option maxRecDepth 100000 in
theorem la_18 (C : la_C p s m meth c b L xs dC dI cI cZ adX adM) (hk : 6 * k + 6 ≤ L) (J : la_J s dC dI cI cZ adX adM k gX gM H locs) (hl : lv_has ls 4 [(0, .ref b), (1, .ref (adX 0)), (2, .ref (adM 0)), (3, .int (nI (6 * k)))]) (kk : ∀ (gX gM : Mm) (H : Heap) (locs : List Loc), la_J s dC dI cI cZ adX adM (k + 1) gX gM H locs → W p l e room_1 s m #[Value.ref b] below meth c H locs 600000 7302250 Q (F0 m 898 ls [])) : W p l e room_1 s m #[Value.ref b] below meth c H locs 600000 7302250 Q (F0 m 730 ls []) := by
  obtain ⟨⟨hx, hb, hr, hml, hown, hts, -, -, -, -⟩, hL, hIX, hIM, hAX, hAM, hd, hKX, hKM⟩ := id C
  have hT : ∀ w ∈ wsL_law, w.before #[Value.ref b] s = true := fun w h => hts w (wsL_law_in w h)
  have hown : s.vm.findClass RL = some m.cls := hown
  obtain ⟨hX, hM, hS, hR⟩ := J
  obtain ⟨r, tX, eX, eM, hR⟩ := ag_between hR (xs (6 * k + 1)) (xs (6 * k + 2)) (xs (6 * k + 3)) (xs (6 * k + 4))
  refine lv_aload_n hx hb dL_law_730 rfl (lv_at hl 1 rfl) ?_
  refine la_arg (j := 1) (v := 1) C hS hl (by omega) (by decide) rfl dL_law_731 dL_law_732 dL_law_733 dL_law_734 dL_law_735 ?_
  refine la_arg (j := 2) (v := 2) C hS hl (by omega) (by decide) rfl dL_law_736 dL_law_737 dL_law_738 dL_law_739 dL_law_740 ?_
  refine la_arg (j := 3) (v := 3) C hS hl (by omega) (by decide) rfl dL_law_741 dL_law_742 dL_law_743 dL_law_744 dL_law_745 ?_
  refine la_arg (j := 4) (v := 4) C hS hl (by omega) (by decide) rfl dL_law_746 dL_law_747 dL_law_748 dL_law_749 dL_law_750 ?_
  refine la_callX (va_runV (As := [.int (xs (6 * k + 1)), .int (xs (6 * k + 2)), .int (xs (6 * k + 3)), .int (xs (6 * k + 4))]) (rest := []) ⟨hx, hb, hml, hown, hT⟩ (c_X6_between l dC dI adX cI cZ hIX 10 (Nat.le_refl _) gX (xs (6 * k + 1)) (xs (6 * k + 2)) (xs (6 * k + 3)) (xs (6 * k + 4)) r tX eX) (cwV 4 hT gL_law_X6_between rfl rfl rfl ⟨rfl, hd_X6_between⟩ ⟨Nat.le_of_ble_eq_true rfl, Nat.le_of_ble_eq_true rfl⟩) (ob_preV hKX hX (q := 0) shX_0 rfl) rfl rfl hl.1 rfl (lv_room (Nat.le_of_ble_eq_true rfl)) dL_law_751 ⟨Nat.le_of_ble_eq_true rfl, Nat.le_of_ble_eq_true rfl⟩) hAX hd hM hS (fun H locs hX hM hS => ?_)
  refine lv_aload_n hx hb dL_law_754 rfl (lv_at hl 2 rfl) ?_
  refine la_arg (j := 1) (v := 1) C hS hl (by omega) (by decide) rfl dL_law_755 dL_law_756 dL_law_757 dL_law_758 dL_law_759 ?_
  refine la_arg (j := 2) (v := 2) C hS hl (by omega) (by decide) rfl dL_law_760 dL_law_761 dL_law_762 dL_law_763 dL_law_764 ?_
  refine la_arg (j := 3) (v := 3) C hS hl (by omega) (by decide) rfl dL_law_765 dL_law_766 dL_law_767 dL_law_768 dL_law_769 ?_
  refine la_arg (j := 4) (v := 4) C hS hl (by omega) (by decide) rfl dL_law_770 dL_law_771 dL_law_772 dL_law_773 dL_law_774 ?_
  refine la_callM (va_runV (As := [.int (xs (6 * k + 1)), .int (xs (6 * k + 2)), .int (xs (6 * k + 3)), .int (xs (6 * k + 4))]) (rest := [.int r]) ⟨hx, hb, hml, hown, hT⟩ (c_X7_between l dC dI adM cI cZ hIM 2 (Nat.le_refl _) gM (xs (6 * k + 1)) (xs (6 * k + 2)) (xs (6 * k + 3)) (xs (6 * k + 4)) r eM) (cwV 4 hT gL_law_X7_between rfl rfl rfl ⟨rfl, hd_X7_between⟩ ⟨Nat.le_of_ble_eq_true rfl, Nat.le_of_ble_eq_true rfl⟩) (ob_preV hKM hM (q := 0) shM_0 rfl) rfl rfl hl.1 rfl (lv_room (Nat.le_of_ble_eq_true rfl)) dL_law_775 ⟨Nat.le_of_ble_eq_true rfl, Nat.le_of_ble_eq_true rfl⟩) hAM hd hX hS (fun H locs hX hM hS => ?_)
  refine la_same hx hb dL_law_778 (by decide) ?_
  exact kk _ _ _ _ ⟨hX, hM, hS, hR⟩
set_option maxHeartbeats 4000000 in
set_option maxRecDepth 100000 in
theorem la_19 (C : la_C p s m meth c b L xs dC dI cI cZ adX adM) (hk : 6 * k + 6 ≤ L) (J : la_J s dC dI cI cZ adX adM k gX gM H locs) (hl : lv_has ls 4 [(0, .ref b), (1, .ref (adX 0)), (2, .ref (adM 0)), (3, .int (nI (6 * k)))]) (kk : ∀ (gX gM : Mm) (H : Heap) (locs : List Loc), la_J s dC dI cI cZ adX adM (k + 1) gX gM H locs → W p l e room_1 s m #[Value.ref b] below meth c H locs 600000 7302250 Q (F0 m 898 ls [])) : W p l e room_1 s m #[Value.ref b] below meth c H locs 600000 7302250 Q (F0 m 783 ls []) := by
  obtain ⟨⟨hx, hb, hr, hml, hown, hts, -, -, -, -⟩, hL, hIX, hIM, hAX, hAM, hd, hKX, hKM⟩ := id C
  have hT : ∀ w ∈ wsL_law, w.before #[Value.ref b] s = true := fun w h => hts w (wsL_law_in w h)
  have hown : s.vm.findClass RL = some m.cls := hown
  obtain ⟨hX, hM, hS, hR⟩ := J
  obtain ⟨r, tX, tM, eX, eM, hR⟩ := ag_high hR (by omega) (xs (6 * k + 1))
  refine lv_aload_n hx hb dL_law_783 rfl (lv_at hl 1 rfl) ?_
  refine la_arg (j := 1) (v := 1) C hS hl (by omega) (by decide) rfl dL_law_784 dL_law_785 dL_law_786 dL_law_787 dL_law_788 ?_
  refine la_callX (va_runV (As := [.int (xs (6 * k + 1))]) (rest := []) ⟨hx, hb, hml, hown, hT⟩ (c_X6_high l dC dI adX cI cZ hIX 28 (Nat.le_refl _) gX (xs (6 * k + 1)) r tX eX) (cwV 1 hT gL_law_X6_high rfl rfl rfl ⟨rfl, hd_X6_high⟩ ⟨Nat.le_of_ble_eq_true rfl, Nat.le_of_ble_eq_true rfl⟩) (ob_preV hKX hX (q := 0) shX_0 rfl) rfl rfl hl.1 rfl (lv_room (Nat.le_of_ble_eq_true rfl)) dL_law_789 ⟨Nat.le_of_ble_eq_true rfl, Nat.le_of_ble_eq_true rfl⟩) hAX hd hM hS (fun H locs hX hM hS => ?_)
  refine lv_aload_n hx hb dL_law_792 rfl (lv_at hl 2 rfl) ?_
  refine la_arg (j := 1) (v := 1) C hS hl (by omega) (by decide) rfl dL_law_793 dL_law_794 dL_law_795 dL_law_796 dL_law_797 ?_
  refine la_callM (va_runV (As := [.int (xs (6 * k + 1))]) (rest := [.int r]) ⟨hx, hb, hml, hown, hT⟩ (c_X7_high l dC dI adM cI cZ hIM 2 (Nat.le_refl _) gM (xs (6 * k + 1)) r tM eM) (cwV 1 hT gL_law_X7_high rfl rfl rfl ⟨rfl, hd_X7_high⟩ ⟨Nat.le_of_ble_eq_true rfl, Nat.le_of_ble_eq_true rfl⟩) (ob_preV hKM hM (q := 0) shM_0 rfl) rfl rfl hl.1 rfl (lv_room (Nat.le_of_ble_eq_true rfl)) dL_law_798 ⟨Nat.le_of_ble_eq_true rfl, Nat.le_of_ble_eq_true rfl⟩) hAM hd hX hS (fun H locs hX hM hS => ?_)
  refine la_same hx hb dL_law_801 (by decide) ?_
  exact kk _ _ _ _ ⟨hX, hM, hS, hR⟩
set_option maxHeartbeats 4000000 in
set_option maxRecDepth 100000 in
theorem la_20 (C : la_C p s m meth c b L xs dC dI cI cZ adX adM) (hk : 6 * k + 6 ≤ L) (J : la_J s dC dI cI cZ adX adM k gX gM H locs) (hl : lv_has ls 4 [(0, .ref b), (1, .ref (adX 0)), (2, .ref (adM 0)), (3, .int (nI (6 * k)))]) (kk : ∀ (gX gM : Mm) (H : Heap) (locs : List Loc), la_J s dC dI cI cZ adX adM (k + 1) gX gM H locs → W p l e room_1 s m #[Value.ref b] below meth c H locs 600000 7302250 Q (F0 m 898 ls [])) : W p l e room_1 s m #[Value.ref b] below meth c H locs 600000 7302250 Q (F0 m 806 ls []) := by
  obtain ⟨⟨hx, hb, hr, hml, hown, hts, -, -, -, -⟩, hL, hIX, hIM, hAX, hAM, hd, hKX, hKM⟩ := id C
  have hT : ∀ w ∈ wsL_law, w.before #[Value.ref b] s = true := fun w h => hts w (wsL_law_in w h)
  have hown : s.vm.findClass RL = some m.cls := hown
  obtain ⟨hX, hM, hS, hR⟩ := J
  obtain ⟨r, tX, tM, eX, eM, hR⟩ := ag_image hR (xs (6 * k + 1))
  refine lv_aload_n hx hb dL_law_806 rfl (lv_at hl 1 rfl) ?_
  refine la_arg (j := 1) (v := 1) C hS hl (by omega) (by decide) rfl dL_law_807 dL_law_808 dL_law_809 dL_law_810 dL_law_811 ?_
  refine la_callX (va_runV (As := [.int (xs (6 * k + 1))]) (rest := []) ⟨hx, hb, hml, hown, hT⟩ (c_X6_image l dC dI adX cI cZ hIX 3 (Nat.le_refl _) gX (xs (6 * k + 1)) r tX eX) (cwV 1 hT gL_law_X6_image rfl rfl rfl ⟨rfl, hd_X6_image⟩ ⟨Nat.le_of_ble_eq_true rfl, Nat.le_of_ble_eq_true rfl⟩) (ob_preV hKX hX (q := 0) shX_0 rfl) rfl rfl hl.1 rfl (lv_room (Nat.le_of_ble_eq_true rfl)) dL_law_812 ⟨Nat.le_of_ble_eq_true rfl, Nat.le_of_ble_eq_true rfl⟩) hAX hd hM hS (fun H locs hX hM hS => ?_)
  refine lv_aload_n hx hb dL_law_815 rfl (lv_at hl 2 rfl) ?_
  refine la_arg (j := 1) (v := 1) C hS hl (by omega) (by decide) rfl dL_law_816 dL_law_817 dL_law_818 dL_law_819 dL_law_820 ?_
  refine la_callM (va_runV (As := [.int (xs (6 * k + 1))]) (rest := [.int r]) ⟨hx, hb, hml, hown, hT⟩ (c_X7_image l dC dI adM cI cZ hIM 1 (Nat.le_refl _) gM (xs (6 * k + 1)) r tM eM) (cwV 1 hT gL_law_X7_image rfl rfl rfl ⟨rfl, hd_X7_image⟩ ⟨Nat.le_of_ble_eq_true rfl, Nat.le_of_ble_eq_true rfl⟩) (ob_preV hKM hM (q := 0) shM_0 rfl) rfl rfl hl.1 rfl (lv_room (Nat.le_of_ble_eq_true rfl)) dL_law_821 ⟨Nat.le_of_ble_eq_true rfl, Nat.le_of_ble_eq_true rfl⟩) hAM hd hX hS (fun H locs hX hM hS => ?_)
  refine la_same hx hb dL_law_824 (by decide) ?_
  exact kk _ _ _ _ ⟨hX, hM, hS, hR⟩
set_option maxHeartbeats 4000000 in
set_option maxRecDepth 100000 in
theorem la_21 (C : la_C p s m meth c b L xs dC dI cI cZ adX adM) (hk : 6 * k + 6 ≤ L) (J : la_J s dC dI cI cZ adX adM k gX gM H locs) (hl : lv_has ls 4 [(0, .ref b), (1, .ref (adX 0)), (2, .ref (adM 0)), (3, .int (nI (6 * k)))]) (kk : ∀ (gX gM : Mm) (H : Heap) (locs : List Loc), la_J s dC dI cI cZ adX adM (k + 1) gX gM H locs → W p l e room_1 s m #[Value.ref b] below meth c H locs 600000 7302250 Q (F0 m 898 ls [])) : W p l e room_1 s m #[Value.ref b] below meth c H locs 600000 7302250 Q (F0 m 829 ls []) := by
  obtain ⟨⟨hx, hb, hr, hml, hown, hts, -, -, -, -⟩, hL, hIX, hIM, hAX, hAM, hd, hKX, hKM⟩ := id C
  have hT : ∀ w ∈ wsL_law, w.before #[Value.ref b] s = true := fun w h => hts w (wsL_law_in w h)
  have hown : s.vm.findClass RL = some m.cls := hown
  obtain ⟨hX, hM, hS, hR⟩ := J
  obtain ⟨r, tX, tM, eX, eM, hR⟩ := ag_restore hR (xs (6 * k + 1))
  refine lv_aload_n hx hb dL_law_829 rfl (lv_at hl 1 rfl) ?_
  refine la_arg (j := 1) (v := 1) C hS hl (by omega) (by decide) rfl dL_law_830 dL_law_831 dL_law_832 dL_law_833 dL_law_834 ?_
  refine la_callX (va_runV (As := [.int (xs (6 * k + 1))]) (rest := []) ⟨hx, hb, hml, hown, hT⟩ (c_X6_restore l dC dI adX cI cZ hIX 3 (Nat.le_refl _) gX (xs (6 * k + 1)) r tX eX) (cwV 1 hT gL_law_X6_restore rfl rfl rfl ⟨rfl, hd_X6_restore⟩ ⟨Nat.le_of_ble_eq_true rfl, Nat.le_of_ble_eq_true rfl⟩) (ob_preV hKX hX (q := 0) shX_0 rfl) rfl rfl hl.1 rfl (lv_room (Nat.le_of_ble_eq_true rfl)) dL_law_835 ⟨Nat.le_of_ble_eq_true rfl, Nat.le_of_ble_eq_true rfl⟩) hAX hd hM hS (fun H locs hX hM hS => ?_)
  refine lv_aload_n hx hb dL_law_838 rfl (lv_at hl 2 rfl) ?_
  refine la_arg (j := 1) (v := 1) C hS hl (by omega) (by decide) rfl dL_law_839 dL_law_840 dL_law_841 dL_law_842 dL_law_843 ?_
  refine la_callM (va_runV (As := [.int (xs (6 * k + 1))]) (rest := [.int r]) ⟨hx, hb, hml, hown, hT⟩ (c_X7_restore l dC dI adM cI cZ hIM 1 (Nat.le_refl _) gM (xs (6 * k + 1)) r tM eM) (cwV 1 hT gL_law_X7_restore rfl rfl rfl ⟨rfl, hd_X7_restore⟩ ⟨Nat.le_of_ble_eq_true rfl, Nat.le_of_ble_eq_true rfl⟩) (ob_preV hKM hM (q := 0) shM_0 rfl) rfl rfl hl.1 rfl (lv_room (Nat.le_of_ble_eq_true rfl)) dL_law_844 ⟨Nat.le_of_ble_eq_true rfl, Nat.le_of_ble_eq_true rfl⟩) hAM hd hX hS (fun H locs hX hM hS => ?_)
  refine la_same hx hb dL_law_847 (by decide) ?_
  exact kk _ _ _ _ ⟨hX, hM, hS, hR⟩
set_option maxHeartbeats 4000000 in
set_option maxRecDepth 100000 in
theorem la_22 (C : la_C p s m meth c b L xs dC dI cI cZ adX adM) (hk : 6 * k + 6 ≤ L) (J : la_J s dC dI cI cZ adX adM k gX gM H locs) (hl : lv_has ls 4 [(0, .ref b), (1, .ref (adX 0)), (2, .ref (adM 0)), (3, .int (nI (6 * k)))]) (kk : ∀ (gX gM : Mm) (H : Heap) (locs : List Loc), la_J s dC dI cI cZ adX adM (k + 1) gX gM H locs → W p l e room_1 s m #[Value.ref b] below meth c H locs 600000 7302250 Q (F0 m 898 ls [])) : W p l e room_1 s m #[Value.ref b] below meth c H locs 600000 7302250 Q (F0 m 852 ls []) := by
  obtain ⟨⟨hx, hb, hr, hml, hown, hts, -, -, -, -⟩, hL, hIX, hIM, hAX, hAM, hd, hKX, hKM⟩ := id C
  have hT : ∀ w ∈ wsL_law, w.before #[Value.ref b] s = true := fun w h => hts w (wsL_law_in w h)
  have hown : s.vm.findClass RL = some m.cls := hown
  obtain ⟨hX, hM, hS, hR⟩ := J
  obtain ⟨r, tX, tM, eX, eM, hR⟩ := ag_join hR (xs (6 * k + 1))
  refine lv_aload_n hx hb dL_law_852 rfl (lv_at hl 1 rfl) ?_
  refine la_arg (j := 1) (v := 1) C hS hl (by omega) (by decide) rfl dL_law_853 dL_law_854 dL_law_855 dL_law_856 dL_law_857 ?_
  refine la_callX (va_runV (As := [.int (xs (6 * k + 1))]) (rest := []) ⟨hx, hb, hml, hown, hT⟩ (c_X6_join l dC dI adX cI cZ hIX 3 (Nat.le_refl _) gX (xs (6 * k + 1)) r tX eX) (cwV 1 hT gL_law_X6_join rfl rfl rfl ⟨rfl, hd_X6_join⟩ ⟨Nat.le_of_ble_eq_true rfl, Nat.le_of_ble_eq_true rfl⟩) (ob_preV hKX hX (q := 0) shX_0 rfl) rfl rfl hl.1 rfl (lv_room (Nat.le_of_ble_eq_true rfl)) dL_law_858 ⟨Nat.le_of_ble_eq_true rfl, Nat.le_of_ble_eq_true rfl⟩) hAX hd hM hS (fun H locs hX hM hS => ?_)
  refine lv_aload_n hx hb dL_law_861 rfl (lv_at hl 2 rfl) ?_
  refine la_arg (j := 1) (v := 1) C hS hl (by omega) (by decide) rfl dL_law_862 dL_law_863 dL_law_864 dL_law_865 dL_law_866 ?_
  refine la_callM (va_runV (As := [.int (xs (6 * k + 1))]) (rest := [.int r]) ⟨hx, hb, hml, hown, hT⟩ (c_X7_join l dC dI adM cI cZ hIM 2 (Nat.le_refl _) gM (xs (6 * k + 1)) r tM eM) (cwV 1 hT gL_law_X7_join rfl rfl rfl ⟨rfl, hd_X7_join⟩ ⟨Nat.le_of_ble_eq_true rfl, Nat.le_of_ble_eq_true rfl⟩) (ob_preV hKM hM (q := 0) shM_0 rfl) rfl rfl hl.1 rfl (lv_room (Nat.le_of_ble_eq_true rfl)) dL_law_867 ⟨Nat.le_of_ble_eq_true rfl, Nat.le_of_ble_eq_true rfl⟩) hAM hd hX hS (fun H locs hX hM hS => ?_)
  refine la_same hx hb dL_law_870 (by decide) ?_
  exact kk _ _ _ _ ⟨hX, hM, hS, hR⟩
set_option maxHeartbeats 4000000 in
set_option maxRecDepth 100000 in
theorem la_23 (C : la_C p s m meth c b L xs dC dI cI cZ adX adM) (hk : 6 * k + 6 ≤ L) (J : la_J s dC dI cI cZ adX adM k gX gM H locs) (hl : lv_has ls 4 [(0, .ref b), (1, .ref (adX 0)), (2, .ref (adM 0)), (3, .int (nI (6 * k)))]) (kk : ∀ (gX gM : Mm) (H : Heap) (locs : List Loc), la_J s dC dI cI cZ adX adM (k + 1) gX gM H locs → W p l e room_1 s m #[Value.ref b] below meth c H locs 600000 7302250 Q (F0 m 898 ls [])) : W p l e room_1 s m #[Value.ref b] below meth c H locs 600000 7302250 Q (F0 m 875 ls []) := by
  obtain ⟨⟨hx, hb, hr, hml, hown, hts, -, -, -, -⟩, hL, hIX, hIM, hAX, hAM, hd, hKX, hKM⟩ := id C
  have hT : ∀ w ∈ wsL_law, w.before #[Value.ref b] s = true := fun w h => hts w (wsL_law_in w h)
  have hown : s.vm.findClass RL = some m.cls := hown
  obtain ⟨hX, hM, hS, hR⟩ := J
  obtain ⟨r, eX, eM⟩ := ag_told hR (xs (6 * k + 1))
  have hR := hR.mono (Nat.le_succ k)
  refine lv_aload_n hx hb dL_law_875 rfl (lv_at hl 1 rfl) ?_
  refine la_arg (j := 1) (v := 1) C hS hl (by omega) (by decide) rfl dL_law_876 dL_law_877 dL_law_878 dL_law_879 dL_law_880 ?_
  refine la_callX (va_runV (As := [.int (xs (6 * k + 1))]) (rest := []) ⟨hx, hb, hml, hown, hT⟩ (c_X6_told l dC dI adX cI cZ hIX 3 (Nat.le_refl _) gX (xs (6 * k + 1)) r eX) (cwV 1 hT gL_law_X6_told rfl rfl rfl ⟨rfl, hd_X6_told⟩ ⟨Nat.le_of_ble_eq_true rfl, Nat.le_of_ble_eq_true rfl⟩) (ob_preV hKX hX (q := 0) shX_0 rfl) rfl rfl hl.1 rfl (lv_room (Nat.le_of_ble_eq_true rfl)) dL_law_881 ⟨Nat.le_of_ble_eq_true rfl, Nat.le_of_ble_eq_true rfl⟩) hAX hd hM hS (fun H locs hX hM hS => ?_)
  refine lv_aload_n hx hb dL_law_884 rfl (lv_at hl 2 rfl) ?_
  refine la_arg (j := 1) (v := 1) C hS hl (by omega) (by decide) rfl dL_law_885 dL_law_886 dL_law_887 dL_law_888 dL_law_889 ?_
  refine la_callM (va_runV (As := [.int (xs (6 * k + 1))]) (rest := [.int r]) ⟨hx, hb, hml, hown, hT⟩ (c_X7_told l dC dI adM cI cZ hIM 2 (Nat.le_refl _) gM (xs (6 * k + 1)) r eM) (cwV 1 hT gL_law_X7_told rfl rfl rfl ⟨rfl, hd_X7_told⟩ ⟨Nat.le_of_ble_eq_true rfl, Nat.le_of_ble_eq_true rfl⟩) (ob_preV hKM hM (q := 0) shM_0 rfl) rfl rfl hl.1 rfl (lv_room (Nat.le_of_ble_eq_true rfl)) dL_law_890 ⟨Nat.le_of_ble_eq_true rfl, Nat.le_of_ble_eq_true rfl⟩) hAM hd hX hS (fun H locs hX hM hS => ?_)
  refine la_same hx hb dL_law_893 (by decide) ?_
  exact kk _ _ _ _ ⟨hX, hM, hS, hR⟩
end LA
