section
/-! A memory of ints by cell and place; a world laid out by a shape; one row a step over it. -/
abbrev Mm : Type := Nat → Nat → Int32
def ob_up (g : Mm) (q k : Nat) (v : Int32) : Mm := fun a b => if a = q ∧ b = k then v else g a b
abbrev ob_F : Type := Option (Option Nat)
abbrev ob_S : Type := (Bool × Nat) ⊕ (Nat × List ob_F)
def ob_val (ad : Nat → Nat) (x : Int32) (f : ob_F) : Value := match f with
  | none => .int x
  | some none => .null
  | some (some j) => .ref (ad j)
def ob_cell (ad : Nat → Nat) (cI cZ : ClassId) (g : Nat → Int32) (h : ob_S) : va_E := match h with
  | .inl (false, n) => .inl (cI, n, .inl g)
  | .inl (true, n) => .inl (cZ, n, .inl g)
  | .inr (ci, fs) => .inr (ci, fs.mapIdx (fun k f => ob_val ad (g k) f))
def ob_ws (sh : List ob_S) (ad : Nat → Nat) (cI cZ : ClassId) (g : Mm) : va_W := sh.mapIdx (fun q h => (ad q, ob_cell ad cI cZ (g q) h))
def ob_A (sh : List ob_S) (ad : Nat → Nat) : Nat → Prop := fun a => ∃ q, q < sh.length ∧ a = ad q
def ob_inj (sh : List ob_S) (ad : Nat → Nat) : Prop := ∀ i j, i < sh.length → j < sh.length → ad i = ad j → i = j
abbrev ob_N : Type := String × Nat × MethodName × String
def ob_K (D : va_G) (cl : List vw_C) (cI cZ : ClassId) (nw : List ob_N) (U : State) : Prop := va_K D cl [(cI, .int), (cZ, .boolean)] U ∧ ∀ q ∈ nw, va_Nw (.methodLinkNest q.1 q.2.1 q.2.2.1 q.2.2.2) U
def ob_B (D : va_G) (cl : List vw_C) (sh : List ob_S) (ad : Nat → Nat) (cI cZ : ClassId) (nw : List ob_N) (g : Mm) (U : State) : Prop := va_P D cl (ob_ws sh ad cI cZ g) U.heap ∧ ob_K D cl cI cZ nw U
def rmN (d : Nat) : Room := { frames := d, cells := 0, slots := 0, locals := 50 * d }
theorem ob_R {a b maxL : Nat} (h : a + 1 ≤ b) (hm : maxL ≤ 31) : (rmN a).frames + 1 ≤ (rmN b).frames ∧ 8 + (maxL + 11) + (rmN a).locals ≤ (rmN b).locals := by
  constructor
  · exact h
  · show 8 + (maxL + 11) + 50 * a ≤ 50 * b
    omega
def ob_b2 {α β γ : Type} (o : Option (α × β)) (k : α → β → Option γ) : Option γ := match o with
  | none => none
  | some u => k u.1 u.2
def ob_b1 {α γ : Type} (o : Option α) (k : α → Option γ) : Option γ := match o with
  | none => none
  | some u => k u
theorem ob_e2 {α β γ : Type} {o : Option (α × β)} {k : α → β → Option γ} {r : γ} (h : ob_b2 o k = some r) : ∃ a b, o = some (a, b) ∧ k a b = some r := by
  cases o with
  | none => cases h
  | some u => exact ⟨u.1, u.2, rfl, h⟩
theorem ob_e1 {α γ : Type} {o : Option α} {k : α → Option γ} {r : γ} (h : ob_b1 o k = some r) : ∃ a, o = some a ∧ k a = some r := by
  cases o with
  | none => cases h
  | some u => exact ⟨u, rfl, h⟩
def ob_ld (g : Mm) (q n : Nat) (i : Int32) : Option Int32 := if 0 ≤ i.toInt ∧ i.toInt < (n : Int) then some (g q i.toNatClampNeg) else none
def ob_st (g : Mm) (q n : Nat) (i x : Int32) : Option Mm := if 0 ≤ i.toInt ∧ i.toInt < (n : Int) then some (ob_up g q i.toNatClampNeg x) else none
def ob_sz (g : Mm) (q n : Nat) (i x : Int32) : Option Mm := if 0 ≤ i.toInt ∧ i.toInt < (n : Int) then some (ob_up g q i.toNatClampNeg (vp_nar .boolean x)) else none
def ob_nz (y : Int32) : Option Unit := if y = 0 then none else some ()
theorem ob_ld_in {g : Mm} {q n : Nat} {i v : Int32} (h : ob_ld g q n i = some v) : vp_in i n ∧ v = g q i.toNatClampNeg := by
  unfold ob_ld at h
  by_cases hc : 0 ≤ i.toInt ∧ i.toInt < (n : Int)
  · rw [if_pos hc] at h
    exact ⟨vp_in_iff.mpr hc, (Option.some.inj h).symm⟩
  · rw [if_neg hc] at h
    cases h
theorem ob_st_in {g t : Mm} {q n : Nat} {i x : Int32} (h : ob_st g q n i x = some t) : vp_in i n ∧ t = ob_up g q i.toNatClampNeg x := by
  unfold ob_st at h
  by_cases hc : 0 ≤ i.toInt ∧ i.toInt < (n : Int)
  · rw [if_pos hc] at h
    exact ⟨vp_in_iff.mpr hc, (Option.some.inj h).symm⟩
  · rw [if_neg hc] at h
    cases h
theorem ob_sz_in {g t : Mm} {q n : Nat} {i x : Int32} (h : ob_sz g q n i x = some t) : vp_in i n ∧ t = ob_up g q i.toNatClampNeg (vp_nar .boolean x) := by
  unfold ob_sz at h
  by_cases hc : 0 ≤ i.toInt ∧ i.toInt < (n : Int)
  · rw [if_pos hc] at h
    exact ⟨vp_in_iff.mpr hc, (Option.some.inj h).symm⟩
  · rw [if_neg hc] at h
    cases h
def ob_zb (v : Int32) : Option Unit := if v &&& 1 = v then some () else none
theorem ob_zb_in {v : Int32} {u : Unit} (h : ob_zb v = some u) : narrow .boolean (.int v) = .int v := by
  unfold ob_zb at h
  by_cases hc : v &&& 1 = v
  · show Value.int (v &&& 1) = .int v
    rw [hc]
  · rw [if_neg hc] at h
    cases h
theorem ob_nz_in {y : Int32} {u : Unit} (h : ob_nz y = some u) : ¬ y = 0 := by
  unfold ob_nz at h
  intro hy
  rw [if_pos hy] at h
  cases h
theorem ob_look {sh : List ob_S} {ad : Nat → Nat} {cI cZ : ClassId} {g : Mm} {q : Nat} {h : ob_S} (hq : sh[q]? = some h) : (ob_ws sh ad cI cZ g)[q]? = some (ad q, ob_cell ad cI cZ (g q) h) := by
  simp [ob_ws, List.getElem?_mapIdx, hq]
theorem ob_back {sh : List ob_S} {ad : Nat → Nat} {cI cZ : ClassId} {g : Mm} {q : Nat} {p : Nat × va_E} (h : (ob_ws sh ad cI cZ g)[q]? = some p) : ∃ x, sh[q]? = some x ∧ p = (ad q, ob_cell ad cI cZ (g q) x) := by
  cases hs : sh[q]? with
  | none => simp [ob_ws, List.getElem?_mapIdx, hs] at h
  | some x => exact ⟨x, rfl, (Option.some.inj ((ob_look hs).symm.trans h)).symm⟩
theorem ob_upq (g : Mm) (q k : Nat) (v : Int32) : ob_up g q k v q = upd (g q) k v := by funext b; simp [ob_up, upd]
theorem ob_upn {g : Mm} {q k i : Nat} {v : Int32} (h : ¬ i = q) : ob_up g q k v i = g i := by funext b; simp [ob_up, h]
theorem ob_set {sh : List ob_S} {ad : Nat → Nat} {cI cZ : ClassId} {g : Mm} {q k : Nat} {v : Int32} {h : ob_S} {e : va_E} (hq : sh[q]? = some h) (he : e = ob_cell ad cI cZ (upd (g q) k v) h) : (ob_ws sh ad cI cZ g).set q (ad q, e) = ob_ws sh ad cI cZ (ob_up g q k v) := by
  apply List.ext_getElem?
  intro i
  rw [List.getElem?_set]
  by_cases hi : q = i
  · subst hi
    have hl : q < (ob_ws sh ad cI cZ g).length := (List.getElem?_eq_some_iff.mp (ob_look (ad := ad) (cI := cI) (cZ := cZ) (g := g) hq)).1
    rw [if_pos rfl, if_pos hl, ob_look hq, ob_upq, he]
  · rw [if_neg hi]
    cases hs : sh[i]? with
    | none => simp [ob_ws, List.getElem?_mapIdx, hs]
    | some x => rw [ob_look hs, ob_look hs, ob_upn (fun z => hi z.symm)]
theorem ob_setF {ad : Nat → Nat} {g : Nat → Int32} {fs : List ob_F} {k : Nat} {v : Int32} (hf : fs[k]? = some none) : (fs.mapIdx (fun j f => ob_val ad (g j) f)).set k (.int v) = fs.mapIdx (fun j f => ob_val ad (upd g k v j) f) := by
  apply List.ext_getElem?
  intro i
  rw [List.getElem?_set]
  by_cases hi : k = i
  · subst hi
    have hl : k < fs.length := (List.getElem?_eq_some_iff.mp hf).1
    have he : fs[k] = none := (List.getElem?_eq_some_iff.mp hf).2
    simp [List.getElem?_mapIdx, hl, he, ob_val, upd]
  · rw [if_neg hi]
    have hi2 : ¬ i = k := fun z => hi z.symm
    simp [List.getElem?_mapIdx, upd, hi2]
theorem ob_D {sh : List ob_S} {ad : Nat → Nat} {cI cZ : ClassId} {g : Mm} (hi : ob_inj sh ad) : va_D (ob_A sh ad) (ob_ws sh ad cI cZ g) := by
  refine ⟨fun i j p q hp hq e => ?_, fun k q hq => ?_⟩
  · obtain ⟨x, hx, rfl⟩ := ob_back hp
    obtain ⟨y, hy, rfl⟩ := ob_back hq
    exact hi i j (List.getElem?_eq_some_iff.mp hx).1 (List.getElem?_eq_some_iff.mp hy).1 e
  · obtain ⟨x, hx, rfl⟩ := ob_back hq
    exact ⟨k, (List.getElem?_eq_some_iff.mp hx).1, rfl⟩
theorem ob_K.moved {D : va_G} {cl : List vw_C} {cI cZ : ClassId} {nw : List ob_N} {s U : State} (hW : s.WarmedH U.vm) (h : ob_K D cl cI cZ nw s) : ob_K D cl cI cZ nw U :=
  ⟨va_K.moved hW.alike h.1, fun q hq => va_Nw.warmM hW (h.2 q hq)⟩
theorem ob_blind {D : va_G} {cl : List vw_C} {sh : List ob_S} {ad : Nat → Nat} {cI cZ : ClassId} {nw : List ob_N} {g : Mm} {av : List Value} : FrameBlind (va_Pc av (ob_B D cl sh ad cI cZ nw g)) := by
  intro a U f mk q
  obtain ⟨q0, qP, qK, qN⟩ := q
  exact ⟨q0, qP, va_K.moved (u := U) (U := U.calling f mk a) (Vm.Alike.refl U.vm) qK, fun q hq => va_Nw.same rfl (rfl : U.vm = (U.calling f mk a).vm) (qN q hq)⟩
abbrev ob_Qi (D : va_G) (cl : List vw_C) (sh : List ob_S) (ad : Nat → Nat) (cI cZ : ClassId) (r : Int32) (g : Mm) : Array Value → State → Outcome → State → Prop := va_Qi (fun (r' : Int32) (_ : Unit) => r' = r) (fun _ t => va_P D cl (ob_ws sh ad cI cZ g) t.heap) (ob_A sh ad)
abbrev ob_Qv (D : va_G) (cl : List vw_C) (sh : List ob_S) (ad : Nat → Nat) (cI cZ : ClassId) (g : Mm) : Array Value → State → Outcome → State → Prop := va_Qv (fun (_ : Unit) => True) (fun _ t => va_P D cl (ob_ws sh ad cI cZ g) t.heap) (ob_A sh ad)
abbrev ob_Qr (D : va_G) (cl : List vw_C) (sh : List ob_S) (ad : Nat → Nat) (cI cZ : ClassId) (r : Nat) (g : Mm) : Array Value → State → Outcome → State → Prop := va_Qr (fun (_ : Unit) => True) (fun _ a t => a = ad r ∧ va_P D cl (ob_ws sh ad cI cZ g) t.heap) (ob_A sh ad)
abbrev ob_Mi (l : Launch) (y : MethodName) (ws : List Cond) (d : Nat) (D : va_G) (cl : List vw_C) (sh : List ob_S) (ad : Nat → Nat) (cI cZ : ClassId) (nw : List ob_N) (av : List Value) (g : Mm) (r : Int32) (t : Mm) : Prop := Met l y ws (rmN d) (va_Pc av (ob_B D cl sh ad cI cZ nw g)) (ob_Qi D cl sh ad cI cZ r t) 0 0 (ob_A sh ad)
abbrev ob_Mv (l : Launch) (y : MethodName) (ws : List Cond) (d : Nat) (D : va_G) (cl : List vw_C) (sh : List ob_S) (ad : Nat → Nat) (cI cZ : ClassId) (nw : List ob_N) (av : List Value) (g t : Mm) : Prop := Met l y ws (rmN d) (va_Pc av (ob_B D cl sh ad cI cZ nw g)) (ob_Qv D cl sh ad cI cZ t) 0 0 (ob_A sh ad)
abbrev ob_Mr (l : Launch) (y : MethodName) (ws : List Cond) (d : Nat) (D : va_G) (cl : List vw_C) (sh : List ob_S) (ad : Nat → Nat) (cI cZ : ClassId) (nw : List ob_N) (av : List Value) (g : Mm) (r : Nat) (t : Mm) : Prop := Met l y ws (rmN d) (va_Pc av (ob_B D cl sh ad cI cZ nw g)) (ob_Qr D cl sh ad cI cZ r t) 0 0 (ob_A sh ad)
section OB
variable {p : Program} {l : Launch} {e : Env} {R : Room} {s : State} {m : MethodId} {args : Array Value} {below : List Frame} {meth : Method} {c : Code} {H : Heap} {locs : List Loc} {Q : State → Prop} {cc : ByteArray} {pc : Nat} {ls : Array Slot} {rest : List Value} {D : va_G} {cl : List vw_C} {A : Nat → Prop} {H0 : Heap} {sh : List ob_S} {ad : Nat → Nat} {cI cZ : ClassId} {nw : List ob_N} {g t : Mm} {cells slots : Nat}
theorem ob_gi (hx : p.tables.exec = Jvm.exec) (hb : c.code = cc) {own C : String} {T : u_T} {N ci index : Nat} {Ts : List Cond} (hts : ∀ w ∈ Ts, w.before args s = true) (hin : ∀ w ∈ u_ws C T N, w ∈ Ts) (hown : s.vm.findClass own = some m.cls) (hK : ob_K D cl cI cZ nw s) (hM : va_P D cl (ob_ws sh ad cI cZ g) H) {q : Nat} {fs : List ob_F} (hq : sh[q]? = some (.inr (ci, fs))) (hc : cl[ci]? = some (C, T, N)) (k : Nat) (hk : k < N) (hlink : (Cond.fieldLink own index (T k).1 (T k).2.1 (T k).2.2.1).before args s = true) (hf : fs[k]? = some none) (hdg : decode cc pc = .ok (.getfield index, 3))
    (kk : W p l e R s m args below meth c H locs cells slots Q (F0 m (pc + 3) ls (.int (g q k) :: rest))) : W p l e R s m args below meth c H locs cells slots Q (F0 m pc ls (.ref (ad q) :: rest)) :=
  va_get hx hb hts hin hown hK.1 hM q (ob_look hq) hc k hk hlink (fun _ h => h) (v := .int (g q k)) (by simp [List.getElem?_mapIdx, hf, ob_val]) hdg kk
theorem ob_gr (hx : p.tables.exec = Jvm.exec) (hb : c.code = cc) {own C : String} {T : u_T} {N ci index : Nat} {Ts : List Cond} (hts : ∀ w ∈ Ts, w.before args s = true) (hin : ∀ w ∈ u_ws C T N, w ∈ Ts) (hown : s.vm.findClass own = some m.cls) (hK : ob_K D cl cI cZ nw s) (hM : va_P D cl (ob_ws sh ad cI cZ g) H) {q j : Nat} {fs : List ob_F} (hq : sh[q]? = some (.inr (ci, fs))) (hc : cl[ci]? = some (C, T, N)) (k : Nat) (hk : k < N) (hlink : (Cond.fieldLink own index (T k).1 (T k).2.1 (T k).2.2.1).before args s = true) (hf : fs[k]? = some (some (some j))) (hdg : decode cc pc = .ok (.getfield index, 3))
    (kk : W p l e R s m args below meth c H locs cells slots Q (F0 m (pc + 3) ls (.ref (ad j) :: rest))) : W p l e R s m args below meth c H locs cells slots Q (F0 m pc ls (.ref (ad q) :: rest)) :=
  va_get hx hb hts hin hown hK.1 hM q (ob_look hq) hc k hk hlink (fun _ h => h) (v := .ref (ad j)) (by simp [List.getElem?_mapIdx, hf, ob_val]) hdg kk
theorem ob_pi (hx : p.tables.exec = Jvm.exec) (hb : c.code = cc) {own C : String} {T : u_T} {N ci index : Nat} {Ts : List Cond} (hts : ∀ w ∈ Ts, w.before args s = true) (hin : ∀ w ∈ u_ws C T N, w ∈ Ts) (ty0 : Nat → FieldType) (hty : ∀ k, k < N → parseFieldDescriptor (T k).2.2.1 = some (ty0 k)) (hnm : ∀ a, a < N → ∀ b, b < N → a ≠ b → (T a).2.1 ≠ (T b).2.1) (hown : s.vm.findClass own = some m.cls) (hK : ob_K D cl cI cZ nw s) (hM : va_P D cl (ob_ws sh ad cI cZ g) H) (hI : ob_inj sh ad) (hS : va_S (ob_A sh ad) H0 H locs) {q : Nat} {fs : List ob_F} (hq : sh[q]? = some (.inr (ci, fs))) (hc : cl[ci]? = some (C, T, N)) (k : Nat) (hk : k < N) (hlink : (Cond.fieldLink own index (T k).1 (T k).2.1 (T k).2.2.1).before args s = true) (hf : fs[k]? = some none) (hfin : (T k).2.2.2 = false) {ty : FieldType} {v : Int32} (hd : parseFieldDescriptor (T k).2.2.1 = some ty) (hn : narrow ty (.int v) = .int v) (hfit : fits ty (.int v) = true) (hdg : decode cc pc = .ok (.putfield index, 3))
    (kk : ∀ (H : Heap) (locs : List Loc), va_P D cl (ob_ws sh ad cI cZ (ob_up g q k v)) H → va_S (ob_A sh ad) H0 H locs → W p l e R s m args below meth c H locs cells slots Q (F0 m (pc + 3) ls rest)) : W p l e R s m args below meth c H locs cells slots Q (F0 m pc ls (.int v :: .ref (ad q) :: rest)) := by
  refine va_put hx hb hts hin ty0 hty hnm hown hK.1 hM (ob_D hI) hS q (ob_look hq) hc k hk hlink (fun _ h => h) hfin (v := .int v) hd hn hfit ?_ hdg (fun H1 locs1 h1 _ h3 => ?_)
  · have hl : k < fs.length := (List.getElem?_eq_some_iff.mp hf).1
    simpa using hl
  · refine kk H1 locs1 ?_ h3
    rw [← ob_set (k := k) (v := v) hq (congrArg (fun z => (Sum.inr (ci, z) : va_E)) (ob_setF hf))]
    exact h1
theorem ob_iald (hx : p.tables.exec = Jvm.exec) (hb : c.code = cc) (hK : ob_K D cl cI cZ nw s) (hM : va_P D cl (ob_ws sh ad cI cZ g) H) {q n : Nat} (hq : sh[q]? = some (.inl (false, n))) {i v : Int32} (hv : ob_ld g q n i = some v) (hdg : decode cc pc = .ok (.iaload, 1))
    (kk : W p l e R s m args below meth c H locs cells slots Q (F0 m (pc + 1) ls (.int v :: rest))) : W p l e R s m args below meth c H locs cells slots Q (F0 m pc ls (.int i :: .ref (ad q) :: rest)) := by
  obtain ⟨h1, rfl⟩ := ob_ld_in hv
  exact va_iald hx hb hK.1 hM q 0 (f := g q) (ob_look hq) rfl h1 hdg kk
theorem ob_zald (hx : p.tables.exec = Jvm.exec) (hb : c.code = cc) (hK : ob_K D cl cI cZ nw s) (hM : va_P D cl (ob_ws sh ad cI cZ g) H) {q n : Nat} (hq : sh[q]? = some (.inl (true, n))) {i v : Int32} (hv : ob_ld g q n i = some v) (hdg : decode cc pc = .ok (.baload, 1))
    (kk : W p l e R s m args below meth c H locs cells slots Q (F0 m (pc + 1) ls (.int v :: rest))) : W p l e R s m args below meth c H locs cells slots Q (F0 m pc ls (.int i :: .ref (ad q) :: rest)) := by
  obtain ⟨h1, rfl⟩ := ob_ld_in hv
  exact va_zald hx hb hK.1 hM q 1 (f := g q) (ob_look hq) rfl h1 hdg kk
theorem ob_iast (hx : p.tables.exec = Jvm.exec) (hb : c.code = cc) (hK : ob_K D cl cI cZ nw s) (hM : va_P D cl (ob_ws sh ad cI cZ g) H) (hI : ob_inj sh ad) (hS : va_S (ob_A sh ad) H0 H locs) {q n : Nat} (hq : sh[q]? = some (.inl (false, n))) {i x : Int32} (hv : ob_st g q n i x = some t) (hdg : decode cc pc = .ok (.iastore, 1))
    (kk : ∀ (H : Heap) (locs : List Loc), va_P D cl (ob_ws sh ad cI cZ t) H → va_S (ob_A sh ad) H0 H locs → W p l e R s m args below meth c H locs cells slots Q (F0 m (pc + 1) ls rest)) : W p l e R s m args below meth c H locs cells slots Q (F0 m pc ls (.int x :: .int i :: .ref (ad q) :: rest)) := by
  obtain ⟨h1, rfl⟩ := ob_st_in hv
  refine va_iast hx hb hK.1 hM (ob_D hI) hS q 0 (f := g q) (ob_look hq) rfl h1 hdg (fun H1 locs1 h2 _ h3 => kk H1 locs1 ?_ h3)
  rw [← ob_set (k := i.toNatClampNeg) (v := x) hq rfl]
  exact h2
theorem ob_zast (hx : p.tables.exec = Jvm.exec) (hb : c.code = cc) (hK : ob_K D cl cI cZ nw s) (hM : va_P D cl (ob_ws sh ad cI cZ g) H) (hI : ob_inj sh ad) (hS : va_S (ob_A sh ad) H0 H locs) {q n : Nat} (hq : sh[q]? = some (.inl (true, n))) {i x : Int32} (hv : ob_sz g q n i x = some t) (hdg : decode cc pc = .ok (.bastore, 1))
    (kk : ∀ (H : Heap) (locs : List Loc), va_P D cl (ob_ws sh ad cI cZ t) H → va_S (ob_A sh ad) H0 H locs → W p l e R s m args below meth c H locs cells slots Q (F0 m (pc + 1) ls rest)) : W p l e R s m args below meth c H locs cells slots Q (F0 m pc ls (.int x :: .int i :: .ref (ad q) :: rest)) := by
  obtain ⟨h1, rfl⟩ := ob_sz_in hv
  refine va_zast hx hb hK.1 hM (ob_D hI) hS q 1 (f := g q) (ob_look hq) rfl h1 hdg (fun H1 locs1 h2 _ h3 => kk H1 locs1 ?_ h3)
  rw [← ob_set (k := i.toNatClampNeg) (v := vp_nar .boolean x) hq rfl]
  exact h2
theorem ob_alen (hx : p.tables.exec = Jvm.exec) (hb : c.code = cc) (hK : ob_K D cl cI cZ nw s) (hM : va_P D cl (ob_ws sh ad cI cZ g) H) {q n : Nat} (hq : sh[q]? = some (.inl (false, n))) {v : Int32} (hv : Int32.ofNat n = v) (hdg : decode cc pc = .ok (.arraylength, 1))
    (kk : W p l e R s m args below meth c H locs cells slots Q (F0 m (pc + 1) ls (.int v :: rest))) : W p l e R s m args below meth c H locs cells slots Q (F0 m pc ls (.ref (ad q) :: rest)) :=
  va_alen (x := (n, .inl (g q))) hx hb hK.1 hM q 0 (ob_look hq) rfl hv hdg kk
theorem ob_zlen (hx : p.tables.exec = Jvm.exec) (hb : c.code = cc) (hK : ob_K D cl cI cZ nw s) (hM : va_P D cl (ob_ws sh ad cI cZ g) H) {q n : Nat} (hq : sh[q]? = some (.inl (true, n))) {v : Int32} (hv : Int32.ofNat n = v) (hdg : decode cc pc = .ok (.arraylength, 1))
    (kk : W p l e R s m args below meth c H locs cells slots Q (F0 m (pc + 1) ls (.int v :: rest))) : W p l e R s m args below meth c H locs cells slots Q (F0 m pc ls (.ref (ad q) :: rest)) :=
  va_alen (x := (n, .inl (g q))) hx hb hK.1 hM q 1 (ob_look hq) rfl hv hdg kk
theorem ob_iret (hx : p.tables.exec = Jvm.exec) (hb : c.code = cc) {rt : FieldType} (hr : meth.sig.returnType = some rt) (hlocks : meth.locks = false) (hM : va_P D cl (ob_ws sh ad cI cZ g) H) (hS : va_S (ob_A sh ad) s.heap H locs) {v r : Int32} (hn : narrow rt (.int v) = .int v) (hf : some (v, g) = some (r, t)) (hdg : decode cc pc = .ok (.ireturn, 1)) : W p l e R s m args below meth c H locs cells slots (MQ below (ob_Qi D cl sh ad cI cZ r t) args s cells slots (ob_A sh ad)) (F0 m pc ls [.int v]) := by
  cases hf
  exact W.zret hx hb hr hn (fun u hu hW => ⟨⟨v, (), rfl, rfl, by subst hu; exact hM⟩, hS.F hu⟩) hS.2.2 hdg hlocks
theorem ob_iretR (hx : p.tables.exec = Jvm.exec) (hb : c.code = cc) {rt : FieldType} (hr : meth.sig.returnType = some rt) (hlocks : meth.locks = false) (hM : va_P D cl (ob_ws sh ad cI cZ g) H) (hS : va_S (ob_A sh ad) s.heap H locs) {v r : Int32} (hn : narrow rt (.int v) = .int v) (hf : some v = some r) (hdg : decode cc pc = .ok (.ireturn, 1)) : W p l e R s m args below meth c H locs cells slots (MQ below (ob_Qi D cl sh ad cI cZ r g) args s cells slots (ob_A sh ad)) (F0 m pc ls [.int v]) := by
  cases hf
  exact W.zret hx hb hr hn (fun u hu hW => ⟨⟨v, (), rfl, rfl, by subst hu; exact hM⟩, hS.F hu⟩) hS.2.2 hdg hlocks
theorem ob_vret (hx : p.tables.exec = Jvm.exec) (hb : c.code = cc) (hr : meth.sig.returnType = none) (hlocks : meth.locks = false) (hM : va_P D cl (ob_ws sh ad cI cZ g) H) (hS : va_S (ob_A sh ad) s.heap H locs) (hf : some g = some t) (hdg : decode cc pc = .ok (.return_, 1)) : W p l e R s m args below meth c H locs cells slots (MQ below (ob_Qv D cl sh ad cI cZ t) args s cells slots (ob_A sh ad)) (F0 m pc ls []) := by
  cases hf
  exact W.vret hx hb hr (fun u hu hW => ⟨⟨(), rfl, trivial, by subst hu; exact hM⟩, hS.F hu⟩) hS.2.2 hdg hlocks
theorem ob_aretR (hx : p.tables.exec = Jvm.exec) (hb : c.code = cc) {cn : String} (hr : meth.sig.returnType = some (.object cn)) (hlocks : meth.locks = false) (hM : va_P D cl (ob_ws sh ad cI cZ g) H) (hS : va_S (ob_A sh ad) s.heap H locs) {v r : Nat} (hf : some v = some r) (hdg : decode cc pc = .ok (.areturn, 1)) : W p l e R s m args below meth c H locs cells slots (MQ below (ob_Qr D cl sh ad cI cZ r g) args s cells slots (ob_A sh ad)) (F0 m pc ls [.ref (ad v)]) := by
  cases hf
  exact W.aret hx hb hr (Or.inl ⟨cn, rfl⟩) (Or.inr ⟨ad v, rfl⟩) (fun u hu hW => ⟨⟨(), ad v, rfl, trivial, rfl, by subst hu; exact hM⟩, hS.F hu⟩) hS.2.2 hdg hlocks
theorem ob_calli {st0 : List Value} {a : Array Value} {r : Int32} (hr : va_Run p l e R s m args below meth c H locs cells slots 0 0 (F0 m pc ls st0) rest (ob_Qi D cl sh ad cI cZ r t a) (ob_A sh ad)) (hS : va_S (ob_A sh ad) H0 H locs)
    (kk : ∀ (H : Heap) (locs : List Loc), va_P D cl (ob_ws sh ad cI cZ t) H → va_S (ob_A sh ad) H0 H locs → W p l e R s m args below meth c H locs cells slots Q (F0 m (pc + 3) ls (.int r :: rest))) : W p l e R s m args below meth c H locs cells slots Q (F0 m pc ls st0) :=
  va_calli hr hS (fun _ _ h => h) (fun _ h => h) (fun r' u t' H1 locs1 ht _ hw hB _ _ hS1 => by subst hw; subst ht; exact kk _ _ hB hS1)
theorem ob_callv {st0 : List Value} {a : Array Value} (hr : va_Run p l e R s m args below meth c H locs cells slots 0 0 (F0 m pc ls st0) rest (ob_Qv D cl sh ad cI cZ t a) (ob_A sh ad)) (hS : va_S (ob_A sh ad) H0 H locs)
    (kk : ∀ (H : Heap) (locs : List Loc), va_P D cl (ob_ws sh ad cI cZ t) H → va_S (ob_A sh ad) H0 H locs → W p l e R s m args below meth c H locs cells slots Q (F0 m (pc + 3) ls rest)) : W p l e R s m args below meth c H locs cells slots Q (F0 m pc ls st0) :=
  va_callv hr hS (fun _ _ h => h) (fun _ h => h) (fun u t' H1 locs1 ht _ hw hB _ _ hS1 => by subst ht; exact kk _ _ hB hS1)
theorem ob_callr {st0 : List Value} {a : Array Value} {r : Nat} (hr : va_Run p l e R s m args below meth c H locs cells slots 0 0 (F0 m pc ls st0) rest (ob_Qr D cl sh ad cI cZ r t a) (ob_A sh ad)) (hS : va_S (ob_A sh ad) H0 H locs)
    (kk : ∀ (H : Heap) (locs : List Loc), va_P D cl (ob_ws sh ad cI cZ t) H → va_S (ob_A sh ad) H0 H locs → W p l e R s m args below meth c H locs cells slots Q (F0 m (pc + 3) ls (.ref (ad r) :: rest))) : W p l e R s m args below meth c H locs cells slots Q (F0 m pc ls st0) :=
  va_callr hr hS (fun _ _ h => h) (fun _ h => h) (fun u ra t' H1 locs1 ht _ hw hB _ _ hS1 => by obtain ⟨rfl, hB⟩ := hB; subst ht; exact kk _ _ hB hS1)
theorem ob_recv (hK : ob_K D cl cI cZ nw s) (hM : va_P D cl (ob_ws sh ad cI cZ g) H) {q ci N : Nat} {fs : List ob_F} {C : String} {T : u_T} (hq : sh[q]? = some (.inr (ci, fs))) (hc : cl[ci]? = some (C, T, N)) : ∃ cell : Cell, H[ad q]? = some cell ∧ cell.vm.isStatics = false ∧ s.vm.findClass C = some cell.cls :=
  va_recv (q := (C, T, N)) (q0 := q) hK.1 hM hc (ob_look hq)
theorem ob_preV (hK : ob_K D cl cI cZ nw s) (hM : va_P D cl (ob_ws sh ad cI cZ g) H) {q ci N : Nat} {fs : List ob_F} {C : String} {T : u_T} {As : List Value} (hq : sh[q]? = some (.inr (ci, fs))) (hc : cl[ci]? = some (C, T, N)) : PreV s H C (ad q) (va_Pc (.ref (ad q) :: As) (ob_B D cl sh ad cI cZ nw g)) As :=
  ⟨ob_blind, ob_recv hK hM hq hc, fun U hU hW => ⟨rfl, by show va_P D cl _ U.heap; rw [hU]; exact hM, hK.moved hW⟩⟩
theorem ob_preS (hK : ob_K D cl cI cZ nw s) (hM : va_P D cl (ob_ws sh ad cI cZ g) H) {As : List Value} : PreS s H (va_Pc As (ob_B D cl sh ad cI cZ nw g)) As :=
  ⟨ob_blind, fun U hU hW => ⟨rfl, by show va_P D cl _ U.heap; rw [hU]; exact hM, hK.moved hW⟩⟩
end OB
theorem ob_ofW {l : Launch} {y : MethodName} {ws ws' : List Cond} {d : Nat} {D : va_G} {cl : List vw_C} {sh : List ob_S} {ad : Nat → Nat} {cI cZ : ClassId} {nw : List ob_N} {av : List Value} {g : Mm} {Qc : Array Value → State → Outcome → State → Prop} {cc : ByteArray} {maxL : Nat} {ret : Option FieldType} (hy : plainName y.cls = true) (hw : ws = Cond.code y cc maxL ret :: ws')
    (body : ∀ (p : Program) (e : Env) (s : State) (m : MethodId) (args : Array Value) (below : List Frame) (meth : Method) (c : Code), args = av.toArray → p.tables.exec = Jvm.exec → c.code = cc → meth.sig.returnType = ret → c.maxLocals = maxL → (∀ w ∈ ws, w.before args s = true) → s.vm.findClass y.cls = some m.cls → meth.locks = false → va_P D cl (ob_ws sh ad cI cZ g) s.heap → ob_K D cl cI cZ nw s → va_S (ob_A sh ad) s.heap s.heap [] →
      W p l e (rmN d) s m args below meth c s.heap [] 0 0 (MQ below Qc args s 0 0 (ob_A sh ad)) (entryFrame m args maxL)) : Met l y ws (rmN d) (va_Pc av (ob_B D cl sh ad cI cZ nw g)) Qc 0 0 (ob_A sh ad) := by
  refine Met.ofW (cc := cc) (maxL := maxL) (ret := ret) hy hw ?_
  intro p e s m args below meth c s₁ B hml hv
  obtain ⟨ha, hM, hK⟩ := hv
  exact body p e s m args below meth c ha B.exec B.bytes B.returns hml (atoms_spec (ws := ws) B.pre) (findClass_of_methodNamed B.named) B.notSynchronized hM hK va_S.rf
end
section
-- ===== PART A: goes FIRST, ahead of the names: the tables' words, and 'selects' of the private methods out of them =====
/-- a private method of a class that the tables say can be made, by its rows of tables_1 -/
def lw_okq (q : MethodName × Nat) : Prop := (q.1.cls ≠ "java/lang/invoke/MethodHandle" ∧ q.1.cls ≠ "java/lang/invoke/VarHandle") ∧ Cond.instantiable q.1.cls q.2 ∈ tables_1 ∧ Cond.privateMethod q.1 ∈ tables_1 ∧ Cond.instanceMethod q.1 ∈ tables_1
theorem lw_p0 : lw_okq (⟨"OneWorse$Pad", "isFull", "()Z"⟩, 2) := ⟨⟨by decide +kernel, by decide +kernel⟩, List.mem_of_getElem? (i := 19) (by decide +kernel), List.mem_of_getElem? (i := 185) (by decide +kernel), List.mem_of_getElem? (i := 186) (by decide +kernel)⟩
theorem lw_p1 : lw_okq (⟨"OneWorse$Pad", "put", "(I)V"⟩, 2) := ⟨⟨by decide +kernel, by decide +kernel⟩, List.mem_of_getElem? (i := 19) (by decide +kernel), List.mem_of_getElem? (i := 189) (by decide +kernel), List.mem_of_getElem? (i := 190) (by decide +kernel)⟩
theorem lw_p2 : lw_okq (⟨"OneWorse$Pad", "size", "()I"⟩, 2) := ⟨⟨by decide +kernel, by decide +kernel⟩, List.mem_of_getElem? (i := 19) (by decide +kernel), List.mem_of_getElem? (i := 193) (by decide +kernel), List.mem_of_getElem? (i := 194) (by decide +kernel)⟩
theorem lw_p3 : lw_okq (⟨"OneWorse$Pad", "clear", "()V"⟩, 2) := ⟨⟨by decide +kernel, by decide +kernel⟩, List.mem_of_getElem? (i := 19) (by decide +kernel), List.mem_of_getElem? (i := 201) (by decide +kernel), List.mem_of_getElem? (i := 202) (by decide +kernel)⟩
theorem lw_p4 : lw_okq (⟨"OneWorse$Pad", "faultAsSteps", "()I"⟩, 2) := ⟨⟨by decide +kernel, by decide +kernel⟩, List.mem_of_getElem? (i := 19) (by decide +kernel), List.mem_of_getElem? (i := 209) (by decide +kernel), List.mem_of_getElem? (i := 210) (by decide +kernel)⟩
theorem lw_p5 : lw_okq (⟨"OneWorse$Pad", "standsInSteps", "(I)Z"⟩, 2) := ⟨⟨by decide +kernel, by decide +kernel⟩, List.mem_of_getElem? (i := 19) (by decide +kernel), List.mem_of_getElem? (i := 213) (by decide +kernel), List.mem_of_getElem? (i := 214) (by decide +kernel)⟩
theorem lw_p6 : lw_okq (⟨"OneWorse$Pad", "insultAt", "(I)I"⟩, 2) := ⟨⟨by decide +kernel, by decide +kernel⟩, List.mem_of_getElem? (i := 19) (by decide +kernel), List.mem_of_getElem? (i := 217) (by decide +kernel), List.mem_of_getElem? (i := 218) (by decide +kernel)⟩
theorem lw_p7 : lw_okq (⟨"OneWorse$Pad", "signAt", "(I)I"⟩, 2) := ⟨⟨by decide +kernel, by decide +kernel⟩, List.mem_of_getElem? (i := 19) (by decide +kernel), List.mem_of_getElem? (i := 221) (by decide +kernel), List.mem_of_getElem? (i := 222) (by decide +kernel)⟩
theorem lw_p8 : lw_okq (⟨"OneWorse$Pad", "faultAsQuarrel", "()I"⟩, 2) := ⟨⟨by decide +kernel, by decide +kernel⟩, List.mem_of_getElem? (i := 19) (by decide +kernel), List.mem_of_getElem? (i := 231) (by decide +kernel), List.mem_of_getElem? (i := 232) (by decide +kernel)⟩
theorem lw_p9 : lw_okq (⟨"OneWorse$Pad", "standsInQuarrel", "(I)Z"⟩, 2) := ⟨⟨by decide +kernel, by decide +kernel⟩, List.mem_of_getElem? (i := 19) (by decide +kernel), List.mem_of_getElem? (i := 235) (by decide +kernel), List.mem_of_getElem? (i := 236) (by decide +kernel)⟩
theorem lw_p10 : lw_okq (⟨"OneWorse$Pad", "manAt", "(I)I"⟩, 2) := ⟨⟨by decide +kernel, by decide +kernel⟩, List.mem_of_getElem? (i := 19) (by decide +kernel), List.mem_of_getElem? (i := 239) (by decide +kernel), List.mem_of_getElem? (i := 240) (by decide +kernel)⟩
theorem lw_p11 : lw_okq (⟨"OneWorse$Town", "setStep", "(IIZ)V"⟩, 5) := ⟨⟨by decide +kernel, by decide +kernel⟩, List.mem_of_getElem? (i := 33) (by decide +kernel), List.mem_of_getElem? (i := 252) (by decide +kernel), List.mem_of_getElem? (i := 253) (by decide +kernel)⟩
theorem lw_p12 : lw_okq (⟨"OneWorse$Town", "worseThan", "(I)I"⟩, 5) := ⟨⟨by decide +kernel, by decide +kernel⟩, List.mem_of_getElem? (i := 33) (by decide +kernel), List.mem_of_getElem? (i := 257) (by decide +kernel), List.mem_of_getElem? (i := 258) (by decide +kernel)⟩
theorem lw_p13 : lw_okq (⟨"OneWorse$Town", "countSteps", "()I"⟩, 5) := ⟨⟨by decide +kernel, by decide +kernel⟩, List.mem_of_getElem? (i := 33) (by decide +kernel), List.mem_of_getElem? (i := 265) (by decide +kernel), List.mem_of_getElem? (i := 266) (by decide +kernel)⟩
theorem lw_p14 : lw_okq (⟨"OneWorse$Town", "neededBy", "(I)I"⟩, 5) := ⟨⟨by decide +kernel, by decide +kernel⟩, List.mem_of_getElem? (i := 33) (by decide +kernel), List.mem_of_getElem? (i := 288) (by decide +kernel), List.mem_of_getElem? (i := 289) (by decide +kernel)⟩
theorem lw_p15 : lw_okq (⟨"OneWorse$Town", "setNeeded", "(II)V"⟩, 5) := ⟨⟨by decide +kernel, by decide +kernel⟩, List.mem_of_getElem? (i := 33) (by decide +kernel), List.mem_of_getElem? (i := 292) (by decide +kernel), List.mem_of_getElem? (i := 293) (by decide +kernel)⟩
def lw_privs_1 : List (MethodName × Nat) := [(⟨"OneWorse$Pad", "isFull", "()Z"⟩, 2), (⟨"OneWorse$Pad", "put", "(I)V"⟩, 2), (⟨"OneWorse$Pad", "size", "()I"⟩, 2), (⟨"OneWorse$Pad", "clear", "()V"⟩, 2), (⟨"OneWorse$Pad", "faultAsSteps", "()I"⟩, 2), (⟨"OneWorse$Pad", "standsInSteps", "(I)Z"⟩, 2), (⟨"OneWorse$Pad", "insultAt", "(I)I"⟩, 2), (⟨"OneWorse$Pad", "signAt", "(I)I"⟩, 2), (⟨"OneWorse$Pad", "faultAsQuarrel", "()I"⟩, 2), (⟨"OneWorse$Pad", "standsInQuarrel", "(I)Z"⟩, 2), (⟨"OneWorse$Pad", "manAt", "(I)I"⟩, 2), (⟨"OneWorse$Town", "setStep", "(IIZ)V"⟩, 5), (⟨"OneWorse$Town", "worseThan", "(I)I"⟩, 5), (⟨"OneWorse$Town", "countSteps", "()I"⟩, 5), (⟨"OneWorse$Town", "neededBy", "(I)I"⟩, 5), (⟨"OneWorse$Town", "setNeeded", "(II)V"⟩, 5)]
theorem lw_r1 : ∀ q ∈ lw_privs_1, lw_okq q := List.forall_mem_cons.mpr ⟨lw_p0, List.forall_mem_cons.mpr ⟨lw_p1, List.forall_mem_cons.mpr ⟨lw_p2, List.forall_mem_cons.mpr ⟨lw_p3, List.forall_mem_cons.mpr ⟨lw_p4, List.forall_mem_cons.mpr ⟨lw_p5, List.forall_mem_cons.mpr ⟨lw_p6, List.forall_mem_cons.mpr ⟨lw_p7, List.forall_mem_cons.mpr ⟨lw_p8, List.forall_mem_cons.mpr ⟨lw_p9, List.forall_mem_cons.mpr ⟨lw_p10, List.forall_mem_cons.mpr ⟨lw_p11, List.forall_mem_cons.mpr ⟨lw_p12, List.forall_mem_cons.mpr ⟨lw_p13, List.forall_mem_cons.mpr ⟨lw_p14, List.forall_mem_cons.mpr ⟨lw_p15, fun _ h => absurd h List.not_mem_nil⟩⟩⟩⟩⟩⟩⟩⟩⟩⟩⟩⟩⟩⟩⟩⟩
theorem lw_p16 : lw_okq (⟨"OneWorse$Town", "traitsOf", "(I)I"⟩, 5) := ⟨⟨by decide +kernel, by decide +kernel⟩, List.mem_of_getElem? (i := 33) (by decide +kernel), List.mem_of_getElem? (i := 301) (by decide +kernel), List.mem_of_getElem? (i := 302) (by decide +kernel)⟩
theorem lw_p17 : lw_okq (⟨"OneWorse$Town", "setTraits", "(II)V"⟩, 5) := ⟨⟨by decide +kernel, by decide +kernel⟩, List.mem_of_getElem? (i := 33) (by decide +kernel), List.mem_of_getElem? (i := 305) (by decide +kernel), List.mem_of_getElem? (i := 306) (by decide +kernel)⟩
theorem lw_p18 : lw_okq (⟨"OneWorse$Town", "knownTo", "(I)I"⟩, 5) := ⟨⟨by decide +kernel, by decide +kernel⟩, List.mem_of_getElem? (i := 33) (by decide +kernel), List.mem_of_getElem? (i := 309) (by decide +kernel), List.mem_of_getElem? (i := 310) (by decide +kernel)⟩
theorem lw_p19 : lw_okq (⟨"OneWorse$Town", "setKnown", "(II)V"⟩, 5) := ⟨⟨by decide +kernel, by decide +kernel⟩, List.mem_of_getElem? (i := 33) (by decide +kernel), List.mem_of_getElem? (i := 313) (by decide +kernel), List.mem_of_getElem? (i := 314) (by decide +kernel)⟩
theorem lw_p20 : lw_okq (⟨"OneWorse$Town", "fitting", "(I)I"⟩, 5) := ⟨⟨by decide +kernel, by decide +kernel⟩, List.mem_of_getElem? (i := 33) (by decide +kernel), List.mem_of_getElem? (i := 321) (by decide +kernel), List.mem_of_getElem? (i := 322) (by decide +kernel)⟩
theorem lw_p21 : lw_okq (⟨"OneWorse", "whyNone", "(I)I"⟩, 8) := ⟨⟨by decide +kernel, by decide +kernel⟩, List.mem_of_getElem? (i := 11) (by decide +kernel), List.mem_of_getElem? (i := 331) (by decide +kernel), List.mem_of_getElem? (i := 332) (by decide +kernel)⟩
theorem lw_p22 : lw_okq (⟨"OneWorse$Town", "sayable", "(II)I"⟩, 5) := ⟨⟨by decide +kernel, by decide +kernel⟩, List.mem_of_getElem? (i := 33) (by decide +kernel), List.mem_of_getElem? (i := 343) (by decide +kernel), List.mem_of_getElem? (i := 344) (by decide +kernel)⟩
theorem lw_p23 : lw_okq (⟨"OneWorse$Contest", "fight", "(IIIIZ)V"⟩, 7) := ⟨⟨by decide +kernel, by decide +kernel⟩, List.mem_of_getElem? (i := 55) (by decide +kernel), List.mem_of_getElem? (i := 349) (by decide +kernel), List.mem_of_getElem? (i := 350) (by decide +kernel)⟩
theorem lw_p24 : lw_okq (⟨"OneWorse$Contest", "start", "(IIII)V"⟩, 7) := ⟨⟨by decide +kernel, by decide +kernel⟩, List.mem_of_getElem? (i := 55) (by decide +kernel), List.mem_of_getElem? (i := 353) (by decide +kernel), List.mem_of_getElem? (i := 354) (by decide +kernel)⟩
theorem lw_p25 : lw_okq (⟨"OneWorse$Contest", "best", "(IIIII)I"⟩, 7) := ⟨⟨by decide +kernel, by decide +kernel⟩, List.mem_of_getElem? (i := 55) (by decide +kernel), List.mem_of_getElem? (i := 357) (by decide +kernel), List.mem_of_getElem? (i := 358) (by decide +kernel)⟩
theorem lw_p26 : lw_okq (⟨"OneWorse$Contest", "afterwards", "(IIIII)I"⟩, 7) := ⟨⟨by decide +kernel, by decide +kernel⟩, List.mem_of_getElem? (i := 55) (by decide +kernel), List.mem_of_getElem? (i := 363) (by decide +kernel), List.mem_of_getElem? (i := 364) (by decide +kernel)⟩
theorem lw_p27 : lw_okq (⟨"OneWorse$Contest", "turned", "(I)I"⟩, 7) := ⟨⟨by decide +kernel, by decide +kernel⟩, List.mem_of_getElem? (i := 55) (by decide +kernel), List.mem_of_getElem? (i := 370) (by decide +kernel), List.mem_of_getElem? (i := 371) (by decide +kernel)⟩
theorem lw_p28 : lw_okq (⟨"OneWorse", "outcome", "(III)I"⟩, 8) := ⟨⟨by decide +kernel, by decide +kernel⟩, List.mem_of_getElem? (i := 11) (by decide +kernel), List.mem_of_getElem? (i := 374) (by decide +kernel), List.mem_of_getElem? (i := 375) (by decide +kernel)⟩
theorem lw_p29 : lw_okq (⟨"OneWorse$Contest", "moverPays", "()Z"⟩, 7) := ⟨⟨by decide +kernel, by decide +kernel⟩, List.mem_of_getElem? (i := 55) (by decide +kernel), List.mem_of_getElem? (i := 378) (by decide +kernel), List.mem_of_getElem? (i := 379) (by decide +kernel)⟩
theorem lw_p30 : lw_okq (⟨"OneWorse$Contest", "howMany", "()I"⟩, 7) := ⟨⟨by decide +kernel, by decide +kernel⟩, List.mem_of_getElem? (i := 55) (by decide +kernel), List.mem_of_getElem? (i := 382) (by decide +kernel), List.mem_of_getElem? (i := 383) (by decide +kernel)⟩
theorem lw_p31 : lw_okq (⟨"OneWorse$Contest", "firstMove", "()I"⟩, 7) := ⟨⟨by decide +kernel, by decide +kernel⟩, List.mem_of_getElem? (i := 55) (by decide +kernel), List.mem_of_getElem? (i := 386) (by decide +kernel), List.mem_of_getElem? (i := 387) (by decide +kernel)⟩
def lw_privs_2 : List (MethodName × Nat) := [(⟨"OneWorse$Town", "traitsOf", "(I)I"⟩, 5), (⟨"OneWorse$Town", "setTraits", "(II)V"⟩, 5), (⟨"OneWorse$Town", "knownTo", "(I)I"⟩, 5), (⟨"OneWorse$Town", "setKnown", "(II)V"⟩, 5), (⟨"OneWorse$Town", "fitting", "(I)I"⟩, 5), (⟨"OneWorse", "whyNone", "(I)I"⟩, 8), (⟨"OneWorse$Town", "sayable", "(II)I"⟩, 5), (⟨"OneWorse$Contest", "fight", "(IIIIZ)V"⟩, 7), (⟨"OneWorse$Contest", "start", "(IIII)V"⟩, 7), (⟨"OneWorse$Contest", "best", "(IIIII)I"⟩, 7), (⟨"OneWorse$Contest", "afterwards", "(IIIII)I"⟩, 7), (⟨"OneWorse$Contest", "turned", "(I)I"⟩, 7), (⟨"OneWorse", "outcome", "(III)I"⟩, 8), (⟨"OneWorse$Contest", "moverPays", "()Z"⟩, 7), (⟨"OneWorse$Contest", "howMany", "()I"⟩, 7), (⟨"OneWorse$Contest", "firstMove", "()I"⟩, 7)]
theorem lw_r2 : ∀ q ∈ lw_privs_2, lw_okq q := List.forall_mem_cons.mpr ⟨lw_p16, List.forall_mem_cons.mpr ⟨lw_p17, List.forall_mem_cons.mpr ⟨lw_p18, List.forall_mem_cons.mpr ⟨lw_p19, List.forall_mem_cons.mpr ⟨lw_p20, List.forall_mem_cons.mpr ⟨lw_p21, List.forall_mem_cons.mpr ⟨lw_p22, List.forall_mem_cons.mpr ⟨lw_p23, List.forall_mem_cons.mpr ⟨lw_p24, List.forall_mem_cons.mpr ⟨lw_p25, List.forall_mem_cons.mpr ⟨lw_p26, List.forall_mem_cons.mpr ⟨lw_p27, List.forall_mem_cons.mpr ⟨lw_p28, List.forall_mem_cons.mpr ⟨lw_p29, List.forall_mem_cons.mpr ⟨lw_p30, List.forall_mem_cons.mpr ⟨lw_p31, fun _ h => absurd h List.not_mem_nil⟩⟩⟩⟩⟩⟩⟩⟩⟩⟩⟩⟩⟩⟩⟩⟩
theorem lw_p32 : lw_okq (⟨"OneWorse$Contest", "spin", "(IIII)V"⟩, 7) := ⟨⟨by decide +kernel, by decide +kernel⟩, List.mem_of_getElem? (i := 55) (by decide +kernel), List.mem_of_getElem? (i := 398) (by decide +kernel), List.mem_of_getElem? (i := 399) (by decide +kernel)⟩
theorem lw_p33 : lw_okq (⟨"OneWorse$Contest", "spun", "()I"⟩, 7) := ⟨⟨by decide +kernel, by decide +kernel⟩, List.mem_of_getElem? (i := 55) (by decide +kernel), List.mem_of_getElem? (i := 402) (by decide +kernel), List.mem_of_getElem? (i := 403) (by decide +kernel)⟩
theorem lw_p34 : lw_okq (⟨"OneWorse", "comesOff", "(IIIZ)Z"⟩, 8) := ⟨⟨by decide +kernel, by decide +kernel⟩, List.mem_of_getElem? (i := 11) (by decide +kernel), List.mem_of_getElem? (i := 410) (by decide +kernel), List.mem_of_getElem? (i := 411) (by decide +kernel)⟩
theorem lw_p35 : lw_okq (⟨"OneWorse", "goodMatches", "(II)I"⟩, 8) := ⟨⟨by decide +kernel, by decide +kernel⟩, List.mem_of_getElem? (i := 11) (by decide +kernel), List.mem_of_getElem? (i := 422) (by decide +kernel), List.mem_of_getElem? (i := 423) (by decide +kernel)⟩
theorem lw_p36 : lw_okq (⟨"OneWorse$Crowd", "fewestDays", "(I)I"⟩, 5) := ⟨⟨by decide +kernel, by decide +kernel⟩, List.mem_of_getElem? (i := 83) (by decide +kernel), List.mem_of_getElem? (i := 430) (by decide +kernel), List.mem_of_getElem? (i := 431) (by decide +kernel)⟩
theorem lw_p37 : lw_okq (⟨"OneWorse$Crowd", "prepare", "(I)V"⟩, 5) := ⟨⟨by decide +kernel, by decide +kernel⟩, List.mem_of_getElem? (i := 83) (by decide +kernel), List.mem_of_getElem? (i := 434) (by decide +kernel), List.mem_of_getElem? (i := 435) (by decide +kernel)⟩
theorem lw_p38 : lw_okq (⟨"OneWorse$Crowd", "hopeAheadOf", "(I)V"⟩, 5) := ⟨⟨by decide +kernel, by decide +kernel⟩, List.mem_of_getElem? (i := 83) (by decide +kernel), List.mem_of_getElem? (i := 440) (by decide +kernel), List.mem_of_getElem? (i := 441) (by decide +kernel)⟩
theorem lw_p39 : lw_okq (⟨"OneWorse$Crowd", "hopeful", "(II)I"⟩, 5) := ⟨⟨by decide +kernel, by decide +kernel⟩, List.mem_of_getElem? (i := 83) (by decide +kernel), List.mem_of_getElem? (i := 445) (by decide +kernel), List.mem_of_getElem? (i := 446) (by decide +kernel)⟩
theorem lw_p40 : lw_okq (⟨"OneWorse$Crowd", "leadingTo", "(I)I"⟩, 5) := ⟨⟨by decide +kernel, by decide +kernel⟩, List.mem_of_getElem? (i := 83) (by decide +kernel), List.mem_of_getElem? (i := 450) (by decide +kernel), List.mem_of_getElem? (i := 451) (by decide +kernel)⟩
theorem lw_p41 : lw_okq (⟨"OneWorse$Crowd", "canSpeak", "(I)Z"⟩, 5) := ⟨⟨by decide +kernel, by decide +kernel⟩, List.mem_of_getElem? (i := 83) (by decide +kernel), List.mem_of_getElem? (i := 456) (by decide +kernel), List.mem_of_getElem? (i := 457) (by decide +kernel)⟩
theorem lw_p42 : lw_okq (⟨"OneWorse$Crowd", "canSayOne", "(IIII)Z"⟩, 5) := ⟨⟨by decide +kernel, by decide +kernel⟩, List.mem_of_getElem? (i := 83) (by decide +kernel), List.mem_of_getElem? (i := 460) (by decide +kernel), List.mem_of_getElem? (i := 461) (by decide +kernel)⟩
theorem lw_p43 : lw_okq (⟨"OneWorse$Crowd", "canGoOn", "(IIII)Z"⟩, 5) := ⟨⟨by decide +kernel, by decide +kernel⟩, List.mem_of_getElem? (i := 83) (by decide +kernel), List.mem_of_getElem? (i := 464) (by decide +kernel), List.mem_of_getElem? (i := 465) (by decide +kernel)⟩
theorem lw_p44 : lw_okq (⟨"OneWorse$Crowd", "fewestBySets", "(I)I"⟩, 5) := ⟨⟨by decide +kernel, by decide +kernel⟩, List.mem_of_getElem? (i := 83) (by decide +kernel), List.mem_of_getElem? (i := 468) (by decide +kernel), List.mem_of_getElem? (i := 469) (by decide +kernel)⟩
theorem lw_p45 : lw_okq (⟨"OneWorse$Crowd", "isOneDayEnough", "(I)Z"⟩, 5) := ⟨⟨by decide +kernel, by decide +kernel⟩, List.mem_of_getElem? (i := 83) (by decide +kernel), List.mem_of_getElem? (i := 472) (by decide +kernel), List.mem_of_getElem? (i := 473) (by decide +kernel)⟩
theorem lw_p46 : lw_okq (⟨"OneWorse$Order", "inRings", "()I"⟩, 6) := ⟨⟨by decide +kernel, by decide +kernel⟩, List.mem_of_getElem? (i := 106) (by decide +kernel), List.mem_of_getElem? (i := 480) (by decide +kernel), List.mem_of_getElem? (i := 481) (by decide +kernel)⟩
theorem lw_p47 : lw_okq (⟨"OneWorse$Order", "tops", "()I"⟩, 6) := ⟨⟨by decide +kernel, by decide +kernel⟩, List.mem_of_getElem? (i := 106) (by decide +kernel), List.mem_of_getElem? (i := 488) (by decide +kernel), List.mem_of_getElem? (i := 489) (by decide +kernel)⟩
def lw_privs_3 : List (MethodName × Nat) := [(⟨"OneWorse$Contest", "spin", "(IIII)V"⟩, 7), (⟨"OneWorse$Contest", "spun", "()I"⟩, 7), (⟨"OneWorse", "comesOff", "(IIIZ)Z"⟩, 8), (⟨"OneWorse", "goodMatches", "(II)I"⟩, 8), (⟨"OneWorse$Crowd", "fewestDays", "(I)I"⟩, 5), (⟨"OneWorse$Crowd", "prepare", "(I)V"⟩, 5), (⟨"OneWorse$Crowd", "hopeAheadOf", "(I)V"⟩, 5), (⟨"OneWorse$Crowd", "hopeful", "(II)I"⟩, 5), (⟨"OneWorse$Crowd", "leadingTo", "(I)I"⟩, 5), (⟨"OneWorse$Crowd", "canSpeak", "(I)Z"⟩, 5), (⟨"OneWorse$Crowd", "canSayOne", "(IIII)Z"⟩, 5), (⟨"OneWorse$Crowd", "canGoOn", "(IIII)Z"⟩, 5), (⟨"OneWorse$Crowd", "fewestBySets", "(I)I"⟩, 5), (⟨"OneWorse$Crowd", "isOneDayEnough", "(I)Z"⟩, 5), (⟨"OneWorse$Order", "inRings", "()I"⟩, 6), (⟨"OneWorse$Order", "tops", "()I"⟩, 6)]
theorem lw_r3 : ∀ q ∈ lw_privs_3, lw_okq q := List.forall_mem_cons.mpr ⟨lw_p32, List.forall_mem_cons.mpr ⟨lw_p33, List.forall_mem_cons.mpr ⟨lw_p34, List.forall_mem_cons.mpr ⟨lw_p35, List.forall_mem_cons.mpr ⟨lw_p36, List.forall_mem_cons.mpr ⟨lw_p37, List.forall_mem_cons.mpr ⟨lw_p38, List.forall_mem_cons.mpr ⟨lw_p39, List.forall_mem_cons.mpr ⟨lw_p40, List.forall_mem_cons.mpr ⟨lw_p41, List.forall_mem_cons.mpr ⟨lw_p42, List.forall_mem_cons.mpr ⟨lw_p43, List.forall_mem_cons.mpr ⟨lw_p44, List.forall_mem_cons.mpr ⟨lw_p45, List.forall_mem_cons.mpr ⟨lw_p46, List.forall_mem_cons.mpr ⟨lw_p47, fun _ h => absurd h List.not_mem_nil⟩⟩⟩⟩⟩⟩⟩⟩⟩⟩⟩⟩⟩⟩⟩⟩
theorem lw_p48 : lw_okq (⟨"OneWorse$Order", "arrange", "()V"⟩, 6) := ⟨⟨by decide +kernel, by decide +kernel⟩, List.mem_of_getElem? (i := 106) (by decide +kernel), List.mem_of_getElem? (i := 496) (by decide +kernel), List.mem_of_getElem? (i := 497) (by decide +kernel)⟩
theorem lw_p49 : lw_okq (⟨"OneWorse$Order", "isSameBook", "()Z"⟩, 6) := ⟨⟨by decide +kernel, by decide +kernel⟩, List.mem_of_getElem? (i := 106) (by decide +kernel), List.mem_of_getElem? (i := 500) (by decide +kernel), List.mem_of_getElem? (i := 501) (by decide +kernel)⟩
theorem lw_p50 : lw_okq (⟨"OneWorse$Order", "nextAfter", "(I)I"⟩, 6) := ⟨⟨by decide +kernel, by decide +kernel⟩, List.mem_of_getElem? (i := 106) (by decide +kernel), List.mem_of_getElem? (i := 504) (by decide +kernel), List.mem_of_getElem? (i := 505) (by decide +kernel)⟩
theorem lw_p51 : lw_okq (⟨"OneWorse$Order", "backWith", "(II)I"⟩, 6) := ⟨⟨by decide +kernel, by decide +kernel⟩, List.mem_of_getElem? (i := 106) (by decide +kernel), List.mem_of_getElem? (i := 508) (by decide +kernel), List.mem_of_getElem? (i := 509) (by decide +kernel)⟩
theorem lw_p52 : lw_okq (⟨"OneWorse$Order", "countStruck", "()I"⟩, 6) := ⟨⟨by decide +kernel, by decide +kernel⟩, List.mem_of_getElem? (i := 106) (by decide +kernel), List.mem_of_getElem? (i := 513) (by decide +kernel), List.mem_of_getElem? (i := 514) (by decide +kernel)⟩
theorem lw_p53 : lw_okq (⟨"OneWorse$Order", "struck", "(I)I"⟩, 6) := ⟨⟨by decide +kernel, by decide +kernel⟩, List.mem_of_getElem? (i := 106) (by decide +kernel), List.mem_of_getElem? (i := 517) (by decide +kernel), List.mem_of_getElem? (i := 518) (by decide +kernel)⟩
theorem lw_p54 : lw_okq (⟨"OneWorse$Ways", "search", "(IIII)V"⟩, 5) := ⟨⟨by decide +kernel, by decide +kernel⟩, List.mem_of_getElem? (i := 131) (by decide +kernel), List.mem_of_getElem? (i := 525) (by decide +kernel), List.mem_of_getElem? (i := 526) (by decide +kernel)⟩
theorem lw_p55 : lw_okq (⟨"OneWorse$Ways", "walk", "(IIII)V"⟩, 5) := ⟨⟨by decide +kernel, by decide +kernel⟩, List.mem_of_getElem? (i := 131) (by decide +kernel), List.mem_of_getElem? (i := 529) (by decide +kernel), List.mem_of_getElem? (i := 530) (by decide +kernel)⟩
theorem lw_p56 : lw_okq (⟨"OneWorse$Ways", "count", "()I"⟩, 5) := ⟨⟨by decide +kernel, by decide +kernel⟩, List.mem_of_getElem? (i := 131) (by decide +kernel), List.mem_of_getElem? (i := 535) (by decide +kernel), List.mem_of_getElem? (i := 536) (by decide +kernel)⟩
theorem lw_p57 : lw_okq (⟨"OneWorse$Ways", "wanted", "()I"⟩, 5) := ⟨⟨by decide +kernel, by decide +kernel⟩, List.mem_of_getElem? (i := 131) (by decide +kernel), List.mem_of_getElem? (i := 539) (by decide +kernel), List.mem_of_getElem? (i := 540) (by decide +kernel)⟩
theorem lw_p58 : lw_okq (⟨"OneWorse", "imageOf", "(I)LOneWorse$Town;"⟩, 8) := ⟨⟨by decide +kernel, by decide +kernel⟩, List.mem_of_getElem? (i := 11) (by decide +kernel), List.mem_of_getElem? (i := 554) (by decide +kernel), List.mem_of_getElem? (i := 555) (by decide +kernel)⟩
theorem lw_p59 : lw_okq (⟨"OneWorse$Town", "copy", "(LOneWorse$Town;)V"⟩, 5) := ⟨⟨by decide +kernel, by decide +kernel⟩, List.mem_of_getElem? (i := 33) (by decide +kernel), List.mem_of_getElem? (i := 558) (by decide +kernel), List.mem_of_getElem? (i := 559) (by decide +kernel)⟩
theorem lw_p60 : lw_okq (⟨"OneWorse$Town", "isKept", "()Z"⟩, 5) := ⟨⟨by decide +kernel, by decide +kernel⟩, List.mem_of_getElem? (i := 33) (by decide +kernel), List.mem_of_getElem? (i := 566) (by decide +kernel), List.mem_of_getElem? (i := 567) (by decide +kernel)⟩
theorem lw_p61 : lw_okq (⟨"OneWorse$Town", "addSteps", "(LOneWorse$Town;)V"⟩, 5) := ⟨⟨by decide +kernel, by decide +kernel⟩, List.mem_of_getElem? (i := 33) (by decide +kernel), List.mem_of_getElem? (i := 574) (by decide +kernel), List.mem_of_getElem? (i := 575) (by decide +kernel)⟩
theorem lw_p62 : lw_okq (⟨"OneWorseModel", "stepsFault", "()I"⟩, 18) := ⟨⟨by decide +kernel, by decide +kernel⟩, List.mem_of_getElem? (i := 582) (by decide +kernel), List.mem_of_getElem? (i := 658) (by decide +kernel), List.mem_of_getElem? (i := 659) (by decide +kernel)⟩
theorem lw_p63 : lw_okq (⟨"OneWorseModel", "quarrelFault", "()I"⟩, 18) := ⟨⟨by decide +kernel, by decide +kernel⟩, List.mem_of_getElem? (i := 582) (by decide +kernel), List.mem_of_getElem? (i := 665) (by decide +kernel), List.mem_of_getElem? (i := 666) (by decide +kernel)⟩
def lw_privs_4 : List (MethodName × Nat) := [(⟨"OneWorse$Order", "arrange", "()V"⟩, 6), (⟨"OneWorse$Order", "isSameBook", "()Z"⟩, 6), (⟨"OneWorse$Order", "nextAfter", "(I)I"⟩, 6), (⟨"OneWorse$Order", "backWith", "(II)I"⟩, 6), (⟨"OneWorse$Order", "countStruck", "()I"⟩, 6), (⟨"OneWorse$Order", "struck", "(I)I"⟩, 6), (⟨"OneWorse$Ways", "search", "(IIII)V"⟩, 5), (⟨"OneWorse$Ways", "walk", "(IIII)V"⟩, 5), (⟨"OneWorse$Ways", "count", "()I"⟩, 5), (⟨"OneWorse$Ways", "wanted", "()I"⟩, 5), (⟨"OneWorse", "imageOf", "(I)LOneWorse$Town;"⟩, 8), (⟨"OneWorse$Town", "copy", "(LOneWorse$Town;)V"⟩, 5), (⟨"OneWorse$Town", "isKept", "()Z"⟩, 5), (⟨"OneWorse$Town", "addSteps", "(LOneWorse$Town;)V"⟩, 5), (⟨"OneWorseModel", "stepsFault", "()I"⟩, 18), (⟨"OneWorseModel", "quarrelFault", "()I"⟩, 18)]
theorem lw_r4 : ∀ q ∈ lw_privs_4, lw_okq q := List.forall_mem_cons.mpr ⟨lw_p48, List.forall_mem_cons.mpr ⟨lw_p49, List.forall_mem_cons.mpr ⟨lw_p50, List.forall_mem_cons.mpr ⟨lw_p51, List.forall_mem_cons.mpr ⟨lw_p52, List.forall_mem_cons.mpr ⟨lw_p53, List.forall_mem_cons.mpr ⟨lw_p54, List.forall_mem_cons.mpr ⟨lw_p55, List.forall_mem_cons.mpr ⟨lw_p56, List.forall_mem_cons.mpr ⟨lw_p57, List.forall_mem_cons.mpr ⟨lw_p58, List.forall_mem_cons.mpr ⟨lw_p59, List.forall_mem_cons.mpr ⟨lw_p60, List.forall_mem_cons.mpr ⟨lw_p61, List.forall_mem_cons.mpr ⟨lw_p62, List.forall_mem_cons.mpr ⟨lw_p63, fun _ h => absurd h List.not_mem_nil⟩⟩⟩⟩⟩⟩⟩⟩⟩⟩⟩⟩⟩⟩⟩⟩
theorem lw_p64 : lw_okq (⟨"OneWorseModel", "allSteps", "()I"⟩, 18) := ⟨⟨by decide +kernel, by decide +kernel⟩, List.mem_of_getElem? (i := 582) (by decide +kernel), List.mem_of_getElem? (i := 673) (by decide +kernel), List.mem_of_getElem? (i := 674) (by decide +kernel)⟩
theorem lw_p65 : lw_okq (⟨"OneWorseModel", "fitOf", "(I)I"⟩, 18) := ⟨⟨by decide +kernel, by decide +kernel⟩, List.mem_of_getElem? (i := 582) (by decide +kernel), List.mem_of_getElem? (i := 702) (by decide +kernel), List.mem_of_getElem? (i := 703) (by decide +kernel)⟩
theorem lw_p66 : lw_okq (⟨"OneWorseModel", "whyNot", "(I)I"⟩, 18) := ⟨⟨by decide +kernel, by decide +kernel⟩, List.mem_of_getElem? (i := 582) (by decide +kernel), List.mem_of_getElem? (i := 710) (by decide +kernel), List.mem_of_getElem? (i := 711) (by decide +kernel)⟩
theorem lw_p67 : lw_okq (⟨"OneWorseModel", "layMatch", "(II)V"⟩, 18) := ⟨⟨by decide +kernel, by decide +kernel⟩, List.mem_of_getElem? (i := 582) (by decide +kernel), List.mem_of_getElem? (i := 724) (by decide +kernel), List.mem_of_getElem? (i := 725) (by decide +kernel)⟩
theorem lw_p68 : lw_okq (⟨"OneWorseModel", "bestOf", "(III)I"⟩, 18) := ⟨⟨by decide +kernel, by decide +kernel⟩, List.mem_of_getElem? (i := 582) (by decide +kernel), List.mem_of_getElem? (i := 731) (by decide +kernel), List.mem_of_getElem? (i := 732) (by decide +kernel)⟩
theorem lw_p69 : lw_okq (⟨"OneWorseModel", "payer", "(II)I"⟩, 18) := ⟨⟨by decide +kernel, by decide +kernel⟩, List.mem_of_getElem? (i := 582) (by decide +kernel), List.mem_of_getElem? (i := 753) (by decide +kernel), List.mem_of_getElem? (i := 754) (by decide +kernel)⟩
theorem lw_p70 : lw_okq (⟨"OneWorseModel", "freeMatches", "(I)I"⟩, 18) := ⟨⟨by decide +kernel, by decide +kernel⟩, List.mem_of_getElem? (i := 582) (by decide +kernel), List.mem_of_getElem? (i := 765) (by decide +kernel), List.mem_of_getElem? (i := 766) (by decide +kernel)⟩
theorem lw_p71 : lw_okq (⟨"OneWorseModel", "layDay", "(I)V"⟩, 18) := ⟨⟨by decide +kernel, by decide +kernel⟩, List.mem_of_getElem? (i := 582) (by decide +kernel), List.mem_of_getElem? (i := 773) (by decide +kernel), List.mem_of_getElem? (i := 774) (by decide +kernel)⟩
theorem lw_p72 : lw_okq (⟨"OneWorseModel", "layRow", "(III)Z"⟩, 18) := ⟨⟨by decide +kernel, by decide +kernel⟩, List.mem_of_getElem? (i := 582) (by decide +kernel), List.mem_of_getElem? (i := 777) (by decide +kernel), List.mem_of_getElem? (i := 778) (by decide +kernel)⟩
theorem lw_p73 : lw_okq (⟨"OneWorseModel", "canSay", "(I)Z"⟩, 18) := ⟨⟨by decide +kernel, by decide +kernel⟩, List.mem_of_getElem? (i := 582) (by decide +kernel), List.mem_of_getElem? (i := 781) (by decide +kernel), List.mem_of_getElem? (i := 782) (by decide +kernel)⟩
theorem lw_p74 : lw_okq (⟨"OneWorseModel", "fitsAt", "(II)Z"⟩, 18) := ⟨⟨by decide +kernel, by decide +kernel⟩, List.mem_of_getElem? (i := 582) (by decide +kernel), List.mem_of_getElem? (i := 785) (by decide +kernel), List.mem_of_getElem? (i := 786) (by decide +kernel)⟩
theorem lw_p75 : lw_okq (⟨"OneWorseModel", "reachOf", "(I)I"⟩, 18) := ⟨⟨by decide +kernel, by decide +kernel⟩, List.mem_of_getElem? (i := 582) (by decide +kernel), List.mem_of_getElem? (i := 793) (by decide +kernel), List.mem_of_getElem? (i := 794) (by decide +kernel)⟩
def lw_privs_5 : List (MethodName × Nat) := [(⟨"OneWorseModel", "allSteps", "()I"⟩, 18), (⟨"OneWorseModel", "fitOf", "(I)I"⟩, 18), (⟨"OneWorseModel", "whyNot", "(I)I"⟩, 18), (⟨"OneWorseModel", "layMatch", "(II)V"⟩, 18), (⟨"OneWorseModel", "bestOf", "(III)I"⟩, 18), (⟨"OneWorseModel", "payer", "(II)I"⟩, 18), (⟨"OneWorseModel", "freeMatches", "(I)I"⟩, 18), (⟨"OneWorseModel", "layDay", "(I)V"⟩, 18), (⟨"OneWorseModel", "layRow", "(III)Z"⟩, 18), (⟨"OneWorseModel", "canSay", "(I)Z"⟩, 18), (⟨"OneWorseModel", "fitsAt", "(II)Z"⟩, 18), (⟨"OneWorseModel", "reachOf", "(I)I"⟩, 18)]
theorem lw_r5 : ∀ q ∈ lw_privs_5, lw_okq q := List.forall_mem_cons.mpr ⟨lw_p64, List.forall_mem_cons.mpr ⟨lw_p65, List.forall_mem_cons.mpr ⟨lw_p66, List.forall_mem_cons.mpr ⟨lw_p67, List.forall_mem_cons.mpr ⟨lw_p68, List.forall_mem_cons.mpr ⟨lw_p69, List.forall_mem_cons.mpr ⟨lw_p70, List.forall_mem_cons.mpr ⟨lw_p71, List.forall_mem_cons.mpr ⟨lw_p72, List.forall_mem_cons.mpr ⟨lw_p73, List.forall_mem_cons.mpr ⟨lw_p74, List.forall_mem_cons.mpr ⟨lw_p75, fun _ h => absurd h List.not_mem_nil⟩⟩⟩⟩⟩⟩⟩⟩⟩⟩⟩⟩
def lw_privs : List (MethodName × Nat) := lw_privs_1 ++ (lw_privs_2 ++ (lw_privs_3 ++ (lw_privs_4 ++ (lw_privs_5))))
def lw_tbl : List Cond := k2_sels lw_privs ++ tables_1
theorem lw_privs_ok : ∀ q ∈ lw_privs, lw_okq q := by
  show ∀ q ∈ lw_privs_1 ++ (lw_privs_2 ++ (lw_privs_3 ++ (lw_privs_4 ++ (lw_privs_5)))), lw_okq q
  exact List.forall_mem_append.mpr ⟨lw_r1, List.forall_mem_append.mpr ⟨lw_r2, List.forall_mem_append.mpr ⟨lw_r3, List.forall_mem_append.mpr ⟨lw_r4, lw_r5⟩⟩⟩⟩
/-! ===== BEGIN words of one list among another's, by their places ===== -/
theorem goodIn_r {big : List Cond} (ws : List Cond) (ps : List Nat) (hp : ws = ps.filterMap (fun i => big[i]?)) (h : ws.all goodWord = true) : GoodIn big ws := by
  intro w hw
  have h1 := List.all_eq_true.mp h w hw
  rw [hp] at hw
  obtain ⟨i, -, hi⟩ := List.mem_filterMap.mp hw
  have hm : w ∈ big := by first | exact List.mem_of_getElem? hi | exact List.getElem?_mem hi
  exact ⟨hm, good_of_word h1⟩
theorem goodIn_app {big a b : List Cond} (ha : GoodIn big a) (hb : GoodIn big b) : GoodIn big (a ++ b) := fun w h => (List.mem_append.mp h).elim (ha w) (hb w)
theorem goodIn_ca {big a b : List Cond} {c : Cond} (ha : GoodIn big (c :: a)) (hb : GoodIn big b) : GoodIn big (c :: (a ++ b)) := fun w h => (List.mem_cons.mp h).elim (fun e => ha w (List.mem_cons.mpr (Or.inl e))) (fun h => (List.mem_append.mp h).elim (fun h => ha w (List.mem_cons.mpr (Or.inr h))) (hb w))
theorem goodIn_sub {big ws : List Cond} (hm : ∀ w ∈ ws, w ∈ big) (h : ws.all goodWord = true) : GoodIn big ws := fun w hw => ⟨hm w hw, good_of_word (List.all_eq_true.mp h w hw)⟩
/-! ===== END ===== -/

/-! ===== BEGIN printed: names, fields, word lists, decode rows ===== -/
def RX0 : String := "OneWorse$Contest"
def TX0 : u_T := fun k => match k with
  | 0 => ("OneWorse$Contest", "town", "LOneWorse$Town;", true)
  | 1 => ("OneWorse$Contest", "memo", "[I", true)
  | 2 => ("OneWorse$Contest", "run", "I", false)
  | 3 => ("OneWorse$Contest", "spinning", "Z", false)
  | 4 => ("OneWorse$Contest", "enough", "I", false)
  | 5 => ("OneWorse$Contest", "score", "I", false)
  | _ => ("OneWorse$Contest", "chosen", "I", false)
def tyX0 : Nat → FieldType := fun k => match k with
  | 0 => .object "OneWorse$Town"
  | 1 => .array .int
  | 2 => .int
  | 3 => .boolean
  | 4 => .int
  | 5 => .int
  | _ => .int
abbrev wsX00 : List Cond := u_ws RX0 TX0 7
theorem nmX0 : ∀ a, a < 7 → ∀ b, b < 7 → a ≠ b → (TX0 a).2.1 ≠ (TX0 b).2.1 := by decide +kernel
theorem tyX0_ok : ∀ k, k < 7 → parseFieldDescriptor (TX0 k).2.2.1 = some (tyX0 k) := by decide +kernel
abbrev cX0_init : ByteArray := prog_2_method_1_code
def yX0_init : MethodName := ⟨RX0, "<init>", "(LOneWorse$Town;)V"⟩
abbrev cX0_fight : ByteArray := prog_2_method_2_code
def yX0_fight : MethodName := ⟨RX0, "fight", "(IIIIZ)V"⟩
abbrev cX0_spin : ByteArray := prog_2_method_3_code
def yX0_spin : MethodName := ⟨RX0, "spin", "(IIII)V"⟩
abbrev cX0_moverPays : ByteArray := prog_2_method_4_code
def yX0_moverPays : MethodName := ⟨RX0, "moverPays", "()Z"⟩
abbrev cX0_howMany : ByteArray := prog_2_method_5_code
def yX0_howMany : MethodName := ⟨RX0, "howMany", "()I"⟩
abbrev cX0_spun : ByteArray := prog_2_method_6_code
def yX0_spun : MethodName := ⟨RX0, "spun", "()I"⟩
abbrev cX0_firstMove : ByteArray := prog_2_method_7_code
def yX0_firstMove : MethodName := ⟨RX0, "firstMove", "()I"⟩
abbrev cX0_start : ByteArray := prog_2_method_8_code
def yX0_start : MethodName := ⟨RX0, "start", "(IIII)V"⟩
abbrev cX0_best : ByteArray := prog_2_method_9_code
def yX0_best : MethodName := ⟨RX0, "best", "(IIIII)I"⟩
abbrev cX0_afterwards : ByteArray := prog_2_method_10_code
def yX0_afterwards : MethodName := ⟨RX0, "afterwards", "(IIIII)I"⟩
abbrev cX0_turned : ByteArray := prog_2_method_11_code
def yX0_turned : MethodName := ⟨RX0, "turned", "(I)I"⟩
def RX1 : String := "OneWorse$Crowd"
def TX1 : u_T := fun k => match k with
  | 0 => ("OneWorse$Crowd", "town", "LOneWorse$Town;", true)
  | 1 => ("OneWorse$Crowd", "fitting", "[I", true)
  | 2 => ("OneWorse$Crowd", "hope", "[I", true)
  | 3 => ("OneWorse$Crowd", "able", "[Z", true)
  | _ => ("OneWorse$Crowd", "fewest", "[I", true)
def tyX1 : Nat → FieldType := fun k => match k with
  | 0 => .object "OneWorse$Town"
  | 1 => .array .int
  | 2 => .array .int
  | 3 => .array .boolean
  | _ => .array .int
abbrev wsX10 : List Cond := u_ws RX1 TX1 5
theorem nmX1 : ∀ a, a < 5 → ∀ b, b < 5 → a ≠ b → (TX1 a).2.1 ≠ (TX1 b).2.1 := by decide +kernel
theorem tyX1_ok : ∀ k, k < 5 → parseFieldDescriptor (TX1 k).2.2.1 = some (tyX1 k) := by decide +kernel
abbrev cX1_init : ByteArray := prog_3_method_1_code
def yX1_init : MethodName := ⟨RX1, "<init>", "(LOneWorse$Town;)V"⟩
abbrev cX1_isOneDayEnough : ByteArray := prog_3_method_2_code
def yX1_isOneDayEnough : MethodName := ⟨RX1, "isOneDayEnough", "(I)Z"⟩
abbrev cX1_fewestDays : ByteArray := prog_3_method_3_code
def yX1_fewestDays : MethodName := ⟨RX1, "fewestDays", "(I)I"⟩
abbrev cX1_fewestBySets : ByteArray := prog_3_method_4_code
def yX1_fewestBySets : MethodName := ⟨RX1, "fewestBySets", "(I)I"⟩
abbrev cX1_prepare : ByteArray := prog_3_method_5_code
def yX1_prepare : MethodName := ⟨RX1, "prepare", "(I)V"⟩
abbrev cX1_hopeAheadOf : ByteArray := prog_3_method_6_code
def yX1_hopeAheadOf : MethodName := ⟨RX1, "hopeAheadOf", "(I)V"⟩
abbrev cX1_leadingTo : ByteArray := prog_3_method_7_code
def yX1_leadingTo : MethodName := ⟨RX1, "leadingTo", "(I)I"⟩
abbrev cX1_hopeful : ByteArray := prog_3_method_8_code
def yX1_hopeful : MethodName := ⟨RX1, "hopeful", "(II)I"⟩
abbrev cX1_canSpeak : ByteArray := prog_3_method_9_code
def yX1_canSpeak : MethodName := ⟨RX1, "canSpeak", "(I)Z"⟩
abbrev cX1_canSayOne : ByteArray := prog_3_method_10_code
def yX1_canSayOne : MethodName := ⟨RX1, "canSayOne", "(IIII)Z"⟩
abbrev cX1_canGoOn : ByteArray := prog_3_method_11_code
def yX1_canGoOn : MethodName := ⟨RX1, "canGoOn", "(IIII)Z"⟩
def RX2 : String := "OneWorse$Order"
def TX2 : u_T := fun k => match k with
  | 0 => ("OneWorse$Order", "town", "LOneWorse$Town;", true)
  | 1 => ("OneWorse$Order", "reached", "[I", true)
  | 2 => ("OneWorse$Order", "back", "[I", true)
  | 3 => ("OneWorse$Order", "rank", "[I", true)
  | 4 => ("OneWorse$Order", "arranged", "[I", true)
  | _ => ("OneWorse$Order", "isArranged", "Z", false)
def tyX2 : Nat → FieldType := fun k => match k with
  | 0 => .object "OneWorse$Town"
  | 1 => .array .int
  | 2 => .array .int
  | 3 => .array .int
  | 4 => .array .int
  | _ => .boolean
abbrev wsX20 : List Cond := u_ws RX2 TX2 6
theorem nmX2 : ∀ a, a < 6 → ∀ b, b < 6 → a ≠ b → (TX2 a).2.1 ≠ (TX2 b).2.1 := by decide +kernel
theorem tyX2_ok : ∀ k, k < 6 → parseFieldDescriptor (TX2 k).2.2.1 = some (tyX2 k) := by decide +kernel
abbrev cX2_init : ByteArray := prog_4_method_1_code
def yX2_init : MethodName := ⟨RX2, "<init>", "(LOneWorse$Town;)V"⟩
abbrev cX2_tops : ByteArray := prog_4_method_2_code
def yX2_tops : MethodName := ⟨RX2, "tops", "()I"⟩
abbrev cX2_inRings : ByteArray := prog_4_method_3_code
def yX2_inRings : MethodName := ⟨RX2, "inRings", "()I"⟩
abbrev cX2_arrange : ByteArray := prog_4_method_4_code
def yX2_arrange : MethodName := ⟨RX2, "arrange", "()V"⟩
abbrev cX2_isSameBook : ByteArray := prog_4_method_5_code
def yX2_isSameBook : MethodName := ⟨RX2, "isSameBook", "()Z"⟩
abbrev cX2_nextAfter : ByteArray := prog_4_method_6_code
def yX2_nextAfter : MethodName := ⟨RX2, "nextAfter", "(I)I"⟩
abbrev cX2_backWith : ByteArray := prog_4_method_7_code
def yX2_backWith : MethodName := ⟨RX2, "backWith", "(II)I"⟩
abbrev cX2_countStruck : ByteArray := prog_4_method_8_code
def yX2_countStruck : MethodName := ⟨RX2, "countStruck", "()I"⟩
abbrev cX2_struck : ByteArray := prog_4_method_9_code
def yX2_struck : MethodName := ⟨RX2, "struck", "(I)I"⟩
def RX3 : String := "OneWorse$Pad"
def TX3 : u_T := fun k => match k with
  | 0 => ("OneWorse$Pad", "signs", "[I", true)
  | _ => ("OneWorse$Pad", "size", "I", false)
def tyX3 : Nat → FieldType := fun k => match k with
  | 0 => .array .int
  | _ => .int
abbrev wsX30 : List Cond := u_ws RX3 TX3 2
theorem nmX3 : ∀ a, a < 2 → ∀ b, b < 2 → a ≠ b → (TX3 a).2.1 ≠ (TX3 b).2.1 := by decide +kernel
theorem tyX3_ok : ∀ k, k < 2 → parseFieldDescriptor (TX3 k).2.2.1 = some (tyX3 k) := by decide +kernel
abbrev cX3_init : ByteArray := prog_5_method_1_code
def yX3_init : MethodName := ⟨RX3, "<init>", "()V"⟩
abbrev cX3_size : ByteArray := prog_5_method_2_code
def yX3_size : MethodName := ⟨RX3, "size", "()I"⟩
abbrev cX3_isFull : ByteArray := prog_5_method_3_code
def yX3_isFull : MethodName := ⟨RX3, "isFull", "()Z"⟩
abbrev cX3_put : ByteArray := prog_5_method_4_code
def yX3_put : MethodName := ⟨RX3, "put", "(I)V"⟩
abbrev cX3_clear : ByteArray := prog_5_method_5_code
def yX3_clear : MethodName := ⟨RX3, "clear", "()V"⟩
abbrev cX3_signAt : ByteArray := prog_5_method_6_code
def yX3_signAt : MethodName := ⟨RX3, "signAt", "(I)I"⟩
abbrev cX3_insultAt : ByteArray := prog_5_method_7_code
def yX3_insultAt : MethodName := ⟨RX3, "insultAt", "(I)I"⟩
abbrev cX3_manAt : ByteArray := prog_5_method_8_code
def yX3_manAt : MethodName := ⟨RX3, "manAt", "(I)I"⟩
abbrev cX3_faultAsSteps : ByteArray := prog_5_method_9_code
def yX3_faultAsSteps : MethodName := ⟨RX3, "faultAsSteps", "()I"⟩
abbrev cX3_standsInSteps : ByteArray := prog_5_method_10_code
def yX3_standsInSteps : MethodName := ⟨RX3, "standsInSteps", "(I)Z"⟩
abbrev cX3_faultAsQuarrel : ByteArray := prog_5_method_11_code
def yX3_faultAsQuarrel : MethodName := ⟨RX3, "faultAsQuarrel", "()I"⟩
abbrev cX3_standsInQuarrel : ByteArray := prog_5_method_12_code
def yX3_standsInQuarrel : MethodName := ⟨RX3, "standsInQuarrel", "(I)Z"⟩
def RX4 : String := "OneWorse$Town"
def TX4 : u_T := fun k => match k with
  | 0 => ("OneWorse$Town", "worse", "[I", true)
  | 1 => ("OneWorse$Town", "needed", "[I", true)
  | 2 => ("OneWorse$Town", "traits", "[I", true)
  | 3 => ("OneWorse$Town", "known", "[I", true)
  | _ => ("OneWorse$Town", "kept", "Z", false)
def tyX4 : Nat → FieldType := fun k => match k with
  | 0 => .array .int
  | 1 => .array .int
  | 2 => .array .int
  | 3 => .array .int
  | _ => .boolean
abbrev wsX40 : List Cond := u_ws RX4 TX4 5
theorem nmX4 : ∀ a, a < 5 → ∀ b, b < 5 → a ≠ b → (TX4 a).2.1 ≠ (TX4 b).2.1 := by decide +kernel
theorem tyX4_ok : ∀ k, k < 5 → parseFieldDescriptor (TX4 k).2.2.1 = some (tyX4 k) := by decide +kernel
abbrev cX4_init : ByteArray := prog_6_method_1_code
def yX4_init : MethodName := ⟨RX4, "<init>", "()V"⟩
abbrev cX4_worseThan : ByteArray := prog_6_method_2_code
def yX4_worseThan : MethodName := ⟨RX4, "worseThan", "(I)I"⟩
abbrev cX4_neededBy : ByteArray := prog_6_method_3_code
def yX4_neededBy : MethodName := ⟨RX4, "neededBy", "(I)I"⟩
abbrev cX4_traitsOf : ByteArray := prog_6_method_4_code
def yX4_traitsOf : MethodName := ⟨RX4, "traitsOf", "(I)I"⟩
abbrev cX4_knownTo : ByteArray := prog_6_method_5_code
def yX4_knownTo : MethodName := ⟨RX4, "knownTo", "(I)I"⟩
abbrev cX4_setStep : ByteArray := prog_6_method_6_code
def yX4_setStep : MethodName := ⟨RX4, "setStep", "(IIZ)V"⟩
abbrev cX4_setNeeded : ByteArray := prog_6_method_7_code
def yX4_setNeeded : MethodName := ⟨RX4, "setNeeded", "(II)V"⟩
abbrev cX4_setTraits : ByteArray := prog_6_method_8_code
def yX4_setTraits : MethodName := ⟨RX4, "setTraits", "(II)V"⟩
abbrev cX4_setKnown : ByteArray := prog_6_method_9_code
def yX4_setKnown : MethodName := ⟨RX4, "setKnown", "(II)V"⟩
abbrev cX4_fitting : ByteArray := prog_6_method_10_code
def yX4_fitting : MethodName := ⟨RX4, "fitting", "(I)I"⟩
abbrev cX4_sayable : ByteArray := prog_6_method_11_code
def yX4_sayable : MethodName := ⟨RX4, "sayable", "(II)I"⟩
abbrev cX4_countSteps : ByteArray := prog_6_method_12_code
def yX4_countSteps : MethodName := ⟨RX4, "countSteps", "()I"⟩
abbrev cX4_addSteps : ByteArray := prog_6_method_13_code
def yX4_addSteps : MethodName := ⟨RX4, "addSteps", "(LOneWorse$Town;)V"⟩
abbrev cX4_copy : ByteArray := prog_6_method_14_code
def yX4_copy : MethodName := ⟨RX4, "copy", "(LOneWorse$Town;)V"⟩
abbrev cX4_isKept : ByteArray := prog_6_method_15_code
def yX4_isKept : MethodName := ⟨RX4, "isKept", "()Z"⟩
def RX5 : String := "OneWorse$Ways"
def TX5 : u_T := fun k => match k with
  | 0 => ("OneWorse$Ways", "town", "LOneWorse$Town;", true)
  | 1 => ("OneWorse$Ways", "goal", "I", false)
  | 2 => ("OneWorse$Ways", "asked", "I", false)
  | 3 => ("OneWorse$Ways", "count", "I", false)
  | _ => ("OneWorse$Ways", "wanted", "I", false)
def tyX5 : Nat → FieldType := fun k => match k with
  | 0 => .object "OneWorse$Town"
  | 1 => .int
  | 2 => .int
  | 3 => .int
  | _ => .int
abbrev wsX50 : List Cond := u_ws RX5 TX5 5
theorem nmX5 : ∀ a, a < 5 → ∀ b, b < 5 → a ≠ b → (TX5 a).2.1 ≠ (TX5 b).2.1 := by decide +kernel
theorem tyX5_ok : ∀ k, k < 5 → parseFieldDescriptor (TX5 k).2.2.1 = some (tyX5 k) := by decide +kernel
abbrev cX5_init : ByteArray := prog_7_method_1_code
def yX5_init : MethodName := ⟨RX5, "<init>", "(LOneWorse$Town;)V"⟩
abbrev cX5_search : ByteArray := prog_7_method_2_code
def yX5_search : MethodName := ⟨RX5, "search", "(IIII)V"⟩
abbrev cX5_walk : ByteArray := prog_7_method_3_code
def yX5_walk : MethodName := ⟨RX5, "walk", "(IIII)V"⟩
abbrev cX5_count : ByteArray := prog_7_method_4_code
def yX5_count : MethodName := ⟨RX5, "count", "()I"⟩
abbrev cX5_wanted : ByteArray := prog_7_method_5_code
def yX5_wanted : MethodName := ⟨RX5, "wanted", "()I"⟩
def RX6 : String := "OneWorse"
def TX6 : u_T := fun k => match k with
  | 0 => ("OneWorse", "pad", "LOneWorse$Pad;", true)
  | 1 => ("OneWorse", "town", "LOneWorse$Town;", true)
  | 2 => ("OneWorse", "firstImage", "LOneWorse$Town;", true)
  | 3 => ("OneWorse", "secondImage", "LOneWorse$Town;", true)
  | 4 => ("OneWorse", "contest", "LOneWorse$Contest;", true)
  | 5 => ("OneWorse", "company", "LOneWorse$Crowd;", true)
  | 6 => ("OneWorse", "order", "LOneWorse$Order;", true)
  | _ => ("OneWorse", "ways", "LOneWorse$Ways;", true)
def tyX6 : Nat → FieldType := fun k => match k with
  | 0 => .object "OneWorse$Pad"
  | 1 => .object "OneWorse$Town"
  | 2 => .object "OneWorse$Town"
  | 3 => .object "OneWorse$Town"
  | 4 => .object "OneWorse$Contest"
  | 5 => .object "OneWorse$Crowd"
  | 6 => .object "OneWorse$Order"
  | _ => .object "OneWorse$Ways"
abbrev wsX60 : List Cond := u_ws RX6 TX6 8
theorem nmX6 : ∀ a, a < 8 → ∀ b, b < 8 → a ≠ b → (TX6 a).2.1 ≠ (TX6 b).2.1 := by decide +kernel
theorem tyX6_ok : ∀ k, k < 8 → parseFieldDescriptor (TX6 k).2.2.1 = some (tyX6 k) := by decide +kernel
abbrev cX6_init : ByteArray := prog_1_method_1_code
def yX6_init : MethodName := ⟨RX6, "<init>", "()V"⟩
abbrev cX6_say : ByteArray := prog_1_method_2_code
def yX6_say : MethodName := ⟨RX6, "say", "(I)I"⟩
abbrev cX6_wipe : ByteArray := prog_1_method_3_code
def yX6_wipe : MethodName := ⟨RX6, "wipe", "()I"⟩
abbrev cX6_fault : ByteArray := prog_1_method_4_code
def yX6_fault : MethodName := ⟨RX6, "fault", "(I)I"⟩
abbrev cX6_steps : ByteArray := prog_1_method_5_code
def yX6_steps : MethodName := ⟨RX6, "steps", "()I"⟩
abbrev cX6_step : ByteArray := prog_1_method_6_code
def yX6_step : MethodName := ⟨RX6, "step", "(IIZ)I"⟩
abbrev cX6_needs : ByteArray := prog_1_method_7_code
def yX6_needs : MethodName := ⟨RX6, "needs", "(II)I"⟩
abbrev cX6_man : ByteArray := prog_1_method_8_code
def yX6_man : MethodName := ⟨RX6, "man", "(III)I"⟩
abbrev cX6_fit : ByteArray := prog_1_method_9_code
def yX6_fit : MethodName := ⟨RX6, "fit", "(I)I"⟩
abbrev cX6_judge : ByteArray := prog_1_method_10_code
def yX6_judge : MethodName := ⟨RX6, "judge", "(I)I"⟩
abbrev cX6_match : ByteArray := prog_1_method_11_code
def yX6_match : MethodName := ⟨RX6, "match", "(III)I"⟩
abbrev cX6_middle : ByteArray := prog_1_method_12_code
def yX6_middle : MethodName := ⟨RX6, "middle", "(IIIII)I"⟩
abbrev cX6_last : ByteArray := prog_1_method_13_code
def yX6_last : MethodName := ⟨RX6, "last", "(III)I"⟩
abbrev cX6_sent : ByteArray := prog_1_method_14_code
def yX6_sent : MethodName := ⟨RX6, "sent", "(IZ)I"⟩
abbrev cX6_safe : ByteArray := prog_1_method_15_code
def yX6_safe : MethodName := ⟨RX6, "safe", "(I)I"⟩
abbrev cX6_worth : ByteArray := prog_1_method_16_code
def yX6_worth : MethodName := ⟨RX6, "worth", "(II)I"⟩
abbrev cX6_crowd : ByteArray := prog_1_method_17_code
def yX6_crowd : MethodName := ⟨RX6, "crowd", "(II)I"⟩
abbrev cX6_rings : ByteArray := prog_1_method_18_code
def yX6_rings : MethodName := ⟨RX6, "rings", "(I)I"⟩
abbrev cX6_ladder : ByteArray := prog_1_method_19_code
def yX6_ladder : MethodName := ⟨RX6, "ladder", "(I)I"⟩
abbrev cX6_between : ByteArray := prog_1_method_20_code
def yX6_between : MethodName := ⟨RX6, "between", "(IIII)I"⟩
abbrev cX6_high : ByteArray := prog_1_method_21_code
def yX6_high : MethodName := ⟨RX6, "high", "(I)I"⟩
abbrev cX6_image : ByteArray := prog_1_method_22_code
def yX6_image : MethodName := ⟨RX6, "image", "(I)I"⟩
abbrev cX6_restore : ByteArray := prog_1_method_23_code
def yX6_restore : MethodName := ⟨RX6, "restore", "(I)I"⟩
abbrev cX6_join : ByteArray := prog_1_method_24_code
def yX6_join : MethodName := ⟨RX6, "join", "(I)I"⟩
abbrev cX6_told : ByteArray := prog_1_method_25_code
def yX6_told : MethodName := ⟨RX6, "told", "(I)I"⟩
abbrev cX6_within : ByteArray := prog_1_method_26_code
def yX6_within : MethodName := ⟨RX6, "within", "(III)Z"⟩
abbrev cX6_isInsult : ByteArray := prog_1_method_27_code
def yX6_isInsult : MethodName := ⟨RX6, "isInsult", "(I)Z"⟩
abbrev cX6_isMan : ByteArray := prog_1_method_28_code
def yX6_isMan : MethodName := ⟨RX6, "isMan", "(I)Z"⟩
abbrev cX6_areTwo : ByteArray := prog_1_method_29_code
def yX6_areTwo : MethodName := ⟨RX6, "areTwo", "(II)Z"⟩
abbrev cX6_isImage : ByteArray := prog_1_method_30_code
def yX6_isImage : MethodName := ⟨RX6, "isImage", "(I)Z"⟩
abbrev cX6_has : ByteArray := prog_1_method_31_code
def yX6_has : MethodName := ⟨RX6, "has", "(II)Z"⟩
abbrev cX6_at : ByteArray := prog_1_method_32_code
def yX6_at : MethodName := ⟨RX6, "at", "([II)I"⟩
abbrev cX6_store : ByteArray := prog_1_method_33_code
def yX6_store : MethodName := ⟨RX6, "store", "([III)V"⟩
abbrev cX6_imageOf : ByteArray := prog_1_method_34_code
def yX6_imageOf : MethodName := ⟨RX6, "imageOf", "(I)LOneWorse$Town;"⟩
abbrev cX6_whyNone : ByteArray := prog_1_method_35_code
def yX6_whyNone : MethodName := ⟨RX6, "whyNone", "(I)I"⟩
abbrev cX6_outcome : ByteArray := prog_1_method_36_code
def yX6_outcome : MethodName := ⟨RX6, "outcome", "(III)I"⟩
abbrev cX6_comesOff : ByteArray := prog_1_method_37_code
def yX6_comesOff : MethodName := ⟨RX6, "comesOff", "(IIIZ)Z"⟩
abbrev cX6_goodMatches : ByteArray := prog_1_method_38_code
def yX6_goodMatches : MethodName := ⟨RX6, "goodMatches", "(II)I"⟩
def RX7 : String := "OneWorseModel"
def TX7 : u_T := fun k => match k with
  | 0 => ("OneWorseModel", "signs", "I", false)
  | 1 => ("OneWorseModel", "pad", "[I", true)
  | 2 => ("OneWorseModel", "book", "[I", true)
  | 3 => ("OneWorseModel", "need", "[I", true)
  | 4 => ("OneWorseModel", "traits", "[I", true)
  | 5 => ("OneWorseModel", "knows", "[I", true)
  | 6 => ("OneWorseModel", "value", "[I", true)
  | 7 => ("OneWorseModel", "can", "[I", true)
  | 8 => ("OneWorseModel", "chosen", "I", false)
  | 9 => ("OneWorseModel", "row", "[I", true)
  | 10 => ("OneWorseModel", "said", "[I", true)
  | 11 => ("OneWorseModel", "day", "[Z", true)
  | 12 => ("OneWorseModel", "days", "[I", true)
  | 13 => ("OneWorseModel", "back", "[I", true)
  | 14 => ("OneWorseModel", "placeOf", "[I", true)
  | 15 => ("OneWorseModel", "high", "[I", true)
  | 16 => ("OneWorseModel", "image", "[I", true)
  | _ => ("OneWorseModel", "isKept", "[Z", true)
def tyX7 : Nat → FieldType := fun k => match k with
  | 0 => .int
  | 1 => .array .int
  | 2 => .array .int
  | 3 => .array .int
  | 4 => .array .int
  | 5 => .array .int
  | 6 => .array .int
  | 7 => .array .int
  | 8 => .int
  | 9 => .array .int
  | 10 => .array .int
  | 11 => .array .boolean
  | 12 => .array .int
  | 13 => .array .int
  | 14 => .array .int
  | 15 => .array .int
  | 16 => .array .int
  | _ => .array .boolean
abbrev wsX70 : List Cond := u_ws RX7 TX7 18
theorem nmX7 : ∀ a, a < 18 → ∀ b, b < 18 → a ≠ b → (TX7 a).2.1 ≠ (TX7 b).2.1 := by decide +kernel
theorem tyX7_ok : ∀ k, k < 18 → parseFieldDescriptor (TX7 k).2.2.1 = some (tyX7 k) := by decide +kernel
abbrev cX7_init : ByteArray := prog_9_method_1_code
def yX7_init : MethodName := ⟨RX7, "<init>", "()V"⟩
abbrev cX7_in : ByteArray := prog_9_method_2_code
def yX7_in : MethodName := ⟨RX7, "in", "(III)Z"⟩
abbrev cX7_has : ByteArray := prog_9_method_3_code
def yX7_has : MethodName := ⟨RX7, "has", "(II)Z"⟩
abbrev cX7_bits : ByteArray := prog_9_method_4_code
def yX7_bits : MethodName := ⟨RX7, "bits", "(I)I"⟩
abbrev cX7_isInsult : ByteArray := prog_9_method_5_code
def yX7_isInsult : MethodName := ⟨RX7, "isInsult", "(I)Z"⟩
abbrev cX7_isMan : ByteArray := prog_9_method_6_code
def yX7_isMan : MethodName := ⟨RX7, "isMan", "(I)Z"⟩
abbrev cX7_areTwo : ByteArray := prog_9_method_7_code
def yX7_areTwo : MethodName := ⟨RX7, "areTwo", "(II)Z"⟩
abbrev cX7_say : ByteArray := prog_9_method_8_code
def yX7_say : MethodName := ⟨RX7, "say", "(I)I"⟩
abbrev cX7_wipe : ByteArray := prog_9_method_9_code
def yX7_wipe : MethodName := ⟨RX7, "wipe", "()I"⟩
abbrev cX7_isName : ByteArray := prog_9_method_10_code
def yX7_isName : MethodName := ⟨RX7, "isName", "(I)Z"⟩
abbrev cX7_stepsFault : ByteArray := prog_9_method_11_code
def yX7_stepsFault : MethodName := ⟨RX7, "stepsFault", "()I"⟩
abbrev cX7_quarrelFault : ByteArray := prog_9_method_12_code
def yX7_quarrelFault : MethodName := ⟨RX7, "quarrelFault", "()I"⟩
abbrev cX7_fault : ByteArray := prog_9_method_13_code
def yX7_fault : MethodName := ⟨RX7, "fault", "(I)I"⟩
abbrev cX7_allSteps : ByteArray := prog_9_method_14_code
def yX7_allSteps : MethodName := ⟨RX7, "allSteps", "()I"⟩
abbrev cX7_steps : ByteArray := prog_9_method_15_code
def yX7_steps : MethodName := ⟨RX7, "steps", "()I"⟩
abbrev cX7_step : ByteArray := prog_9_method_16_code
def yX7_step : MethodName := ⟨RX7, "step", "(IIZ)I"⟩
abbrev cX7_needs : ByteArray := prog_9_method_17_code
def yX7_needs : MethodName := ⟨RX7, "needs", "(II)I"⟩
abbrev cX7_man : ByteArray := prog_9_method_18_code
def yX7_man : MethodName := ⟨RX7, "man", "(III)I"⟩
abbrev cX7_fitOf : ByteArray := prog_9_method_19_code
def yX7_fitOf : MethodName := ⟨RX7, "fitOf", "(I)I"⟩
abbrev cX7_fit : ByteArray := prog_9_method_20_code
def yX7_fit : MethodName := ⟨RX7, "fit", "(I)I"⟩
abbrev cX7_whyNot : ByteArray := prog_9_method_21_code
def yX7_whyNot : MethodName := ⟨RX7, "whyNot", "(I)I"⟩
abbrev cX7_judge : ByteArray := prog_9_method_22_code
def yX7_judge : MethodName := ⟨RX7, "judge", "(I)I"⟩
abbrev cX7_at : ByteArray := prog_9_method_23_code
def yX7_at : MethodName := ⟨RX7, "at", "(III)I"⟩
abbrev cX7_isBetter : ByteArray := prog_9_method_24_code
def yX7_isBetter : MethodName := ⟨RX7, "isBetter", "(III)Z"⟩
abbrev cX7_bestOf : ByteArray := prog_9_method_25_code
def yX7_bestOf : MethodName := ⟨RX7, "bestOf", "(III)I"⟩
abbrev cX7_layMatch : ByteArray := prog_9_method_26_code
def yX7_layMatch : MethodName := ⟨RX7, "layMatch", "(II)V"⟩
abbrev cX7_toldOf : ByteArray := prog_9_method_27_code
def yX7_toldOf : MethodName := ⟨RX7, "toldOf", "(IIIII)I"⟩
abbrev cX7_match : ByteArray := prog_9_method_28_code
def yX7_match : MethodName := ⟨RX7, "match", "(III)I"⟩
abbrev cX7_middle : ByteArray := prog_9_method_29_code
def yX7_middle : MethodName := ⟨RX7, "middle", "(IIIII)I"⟩
abbrev cX7_last : ByteArray := prog_9_method_30_code
def yX7_last : MethodName := ⟨RX7, "last", "(III)I"⟩
abbrev cX7_payer : ByteArray := prog_9_method_31_code
def yX7_payer : MethodName := ⟨RX7, "payer", "(II)I"⟩
abbrev cX7_sent : ByteArray := prog_9_method_32_code
def yX7_sent : MethodName := ⟨RX7, "sent", "(IZ)I"⟩
abbrev cX7_safe : ByteArray := prog_9_method_33_code
def yX7_safe : MethodName := ⟨RX7, "safe", "(I)I"⟩
abbrev cX7_freeMatches : ByteArray := prog_9_method_34_code
def yX7_freeMatches : MethodName := ⟨RX7, "freeMatches", "(I)I"⟩
abbrev cX7_worth : ByteArray := prog_9_method_35_code
def yX7_worth : MethodName := ⟨RX7, "worth", "(II)I"⟩
abbrev cX7_fitsAt : ByteArray := prog_9_method_36_code
def yX7_fitsAt : MethodName := ⟨RX7, "fitsAt", "(II)Z"⟩
abbrev cX7_canSay : ByteArray := prog_9_method_37_code
def yX7_canSay : MethodName := ⟨RX7, "canSay", "(I)Z"⟩
abbrev cX7_layRow : ByteArray := prog_9_method_38_code
def yX7_layRow : MethodName := ⟨RX7, "layRow", "(III)Z"⟩
abbrev cX7_layDay : ByteArray := prog_9_method_39_code
def yX7_layDay : MethodName := ⟨RX7, "layDay", "(I)V"⟩
abbrev cX7_crowd : ByteArray := prog_9_method_40_code
def yX7_crowd : MethodName := ⟨RX7, "crowd", "(II)I"⟩
abbrev cX7_reachOf : ByteArray := prog_9_method_41_code
def yX7_reachOf : MethodName := ⟨RX7, "reachOf", "(I)I"⟩
abbrev cX7_rings : ByteArray := prog_9_method_42_code
def yX7_rings : MethodName := ⟨RX7, "rings", "(I)I"⟩
abbrev cX7_ladder : ByteArray := prog_9_method_43_code
def yX7_ladder : MethodName := ⟨RX7, "ladder", "(I)I"⟩
abbrev cX7_between : ByteArray := prog_9_method_44_code
def yX7_between : MethodName := ⟨RX7, "between", "(IIII)I"⟩
abbrev cX7_high : ByteArray := prog_9_method_45_code
def yX7_high : MethodName := ⟨RX7, "high", "(I)I"⟩
abbrev cX7_image : ByteArray := prog_9_method_46_code
def yX7_image : MethodName := ⟨RX7, "image", "(I)I"⟩
abbrev cX7_restore : ByteArray := prog_9_method_47_code
def yX7_restore : MethodName := ⟨RX7, "restore", "(I)I"⟩
abbrev cX7_join : ByteArray := prog_9_method_48_code
def yX7_join : MethodName := ⟨RX7, "join", "(I)I"⟩
abbrev cX7_told : ByteArray := prog_9_method_49_code
def yX7_told : MethodName := ⟨RX7, "told", "(I)I"⟩
def RJ6 : String := "java/lang/Integer"
def TJ6 : u_T := fun k => match k with
  | _ => ("", "", "", false)
def tyJ6 : Nat → FieldType := fun k => match k with
  | _ => .int
abbrev wsJ60 : List Cond := u_ws RJ6 TJ6 0
theorem nmJ6 : ∀ a, a < 0 → ∀ b, b < 0 → a ≠ b → (TJ6 a).2.1 ≠ (TJ6 b).2.1 := by decide +kernel
theorem tyJ6_ok : ∀ k, k < 0 → parseFieldDescriptor (TJ6 k).2.2.1 = some (tyJ6 k) := by decide +kernel
abbrev cJ6_bitCount_0f7a4 : ByteArray := prog_10_method_49_code
def yJ6_bitCount_0f7a4 : MethodName := ⟨RJ6, "bitCount", "(I)I"⟩
def RL : String := "OneWorseLaw"
abbrev cL_law : ByteArray := code
def yL_law : MethodName := ⟨RL, "law", "([I)Z"⟩
def wsX0_init : List Cond := .code yX0_init cX0_init 2 none :: ([.methodLink RX0 3 objectInit, .instanceMethod objectInit, .code objectInit ⟨#[0xb1]⟩ 1 none, .arrayClass .int, .fieldLink RX0 9 "OneWorse$Contest" "memo" "[I", .fieldLink RX0 15 "OneWorse$Contest" "run" "I", .fieldLink RX0 19 "OneWorse$Contest" "spinning" "Z", .fieldLink RX0 23 "OneWorse$Contest" "enough" "I", .fieldLink RX0 26 "OneWorse$Contest" "score" "I", .fieldLink RX0 29 "OneWorse$Contest" "chosen" "I", .fieldLink RX0 32 "OneWorse$Contest" "town" "LOneWorse$Town;"] ++ wsX00)
def wsX6_at : List Cond := .code yX6_at cX6_at 2 (some .int) :: ([])
def wsX4_worseThan : List Cond := .code yX4_worseThan cX4_worseThan 2 (some .int) :: ([.fieldLink RX4 9 "OneWorse$Town" "worse" "[I", .static yX6_at, .initialized RX6, .code yX6_at cX6_at 2 (some .int)] ++ wsX40)
def wsX6_store : List Cond := .code yX6_store cX6_store 3 none :: ([])
def wsJ6_bitCount_0f7a4 : List Cond := .code yJ6_bitCount_0f7a4 cJ6_bitCount_0f7a4 1 (some .int) :: ([.constant RJ6 265 (1431655765), .constant RJ6 266 (858993459), .constant RJ6 267 (252645135)])
def wsX6_has : List Cond := .code yX6_has cX6_has 2 (some .boolean) :: ([])
def wsX0_turned : List Cond := .code yX0_turned cX0_turned 2 (some .int) :: ([.fieldLink RX0 19 "OneWorse$Contest" "spinning" "Z"] ++ wsX00)
def wsX0_afterwards_r1 : List Cond := [Cond.fieldLink RX0 9 "OneWorse$Contest" "memo" "[I", Cond.fieldLink RX0 15 "OneWorse$Contest" "run" "I", Cond.fieldLink RX0 32 "OneWorse$Contest" "town" "LOneWorse$Town;", Cond.static yX6_at, Cond.initialized RX6, Cond.code yX6_at cX6_at 2 (some .int), Cond.instanceMethod yX4_worseThan, Cond.initialized RX4, Cond.selects RX4 yX4_worseThan yX4_worseThan, Cond.code yX4_worseThan cX4_worseThan 2 (some .int), Cond.fieldLink RX4 9 "OneWorse$Town" "worse" "[I", Cond.methodLink RX0 40 yX0_best, Cond.instanceMethod yX0_best, Cond.selects RX0 yX0_best yX0_best, Cond.initialized RX0, Cond.static yX6_store, Cond.code yX6_store cX6_store 3 none, Cond.code yX0_best cX0_best 10 (some .int), Cond.fieldLink RX0 19 "OneWorse$Contest" "spinning" "Z", Cond.fieldLink RX0 23 "OneWorse$Contest" "enough" "I", Cond.fieldLink RX0 29 "OneWorse$Contest" "chosen" "I", Cond.methodLink RX0 44 yJ6_bitCount_0f7a4, Cond.static yJ6_bitCount_0f7a4, Cond.initialized RJ6]
def wsX0_afterwards_r2 : List Cond := [Cond.code yJ6_bitCount_0f7a4 cJ6_bitCount_0f7a4 1 (some .int), Cond.constant RJ6 265 (1431655765), Cond.constant RJ6 266 (858993459), Cond.constant RJ6 267 (252645135), Cond.static yX6_has, Cond.code yX6_has cX6_has 2 (some .boolean), Cond.methodLink RX0 54 yX0_afterwards, Cond.instanceMethod yX0_afterwards, Cond.selects RX0 yX0_afterwards yX0_afterwards, Cond.methodLink RX0 57 yX0_turned, Cond.instanceMethod yX0_turned, Cond.selects RX0 yX0_turned yX0_turned, Cond.code yX0_turned cX0_turned 2 (some .int)]
def wsX0_afterwards : List Cond := .code yX0_afterwards cX0_afterwards 10 (some .int) :: ((wsX0_afterwards_r1 ++ wsX0_afterwards_r2) ++ wsX00 ++ wsX40)
def wsX0_best_r1 : List Cond := [Cond.fieldLink RX0 19 "OneWorse$Contest" "spinning" "Z", Cond.fieldLink RX0 23 "OneWorse$Contest" "enough" "I", Cond.fieldLink RX0 29 "OneWorse$Contest" "chosen" "I", Cond.methodLink RX0 44 yJ6_bitCount_0f7a4, Cond.static yJ6_bitCount_0f7a4, Cond.initialized RJ6, Cond.code yJ6_bitCount_0f7a4 cJ6_bitCount_0f7a4 1 (some .int), Cond.constant RJ6 265 (1431655765), Cond.constant RJ6 266 (858993459), Cond.constant RJ6 267 (252645135), Cond.static yX6_has, Cond.initialized RX6, Cond.code yX6_has cX6_has 2 (some .boolean), Cond.methodLink RX0 54 yX0_afterwards, Cond.instanceMethod yX0_afterwards, Cond.selects RX0 yX0_afterwards yX0_afterwards, Cond.initialized RX0, Cond.methodLink RX0 57 yX0_turned, Cond.instanceMethod yX0_turned, Cond.selects RX0 yX0_turned yX0_turned, Cond.code yX0_turned cX0_turned 2 (some .int), Cond.code yX0_afterwards cX0_afterwards 10 (some .int), Cond.fieldLink RX0 9 "OneWorse$Contest" "memo" "[I", Cond.fieldLink RX0 15 "OneWorse$Contest" "run" "I"]
def wsX0_best_r2 : List Cond := [Cond.fieldLink RX0 32 "OneWorse$Contest" "town" "LOneWorse$Town;", Cond.static yX6_at, Cond.code yX6_at cX6_at 2 (some .int), Cond.instanceMethod yX4_worseThan, Cond.initialized RX4, Cond.selects RX4 yX4_worseThan yX4_worseThan, Cond.code yX4_worseThan cX4_worseThan 2 (some .int), Cond.fieldLink RX4 9 "OneWorse$Town" "worse" "[I", Cond.methodLink RX0 40 yX0_best, Cond.instanceMethod yX0_best, Cond.selects RX0 yX0_best yX0_best, Cond.static yX6_store, Cond.code yX6_store cX6_store 3 none]
def wsX0_best : List Cond := .code yX0_best cX0_best 10 (some .int) :: ((wsX0_best_r1 ++ wsX0_best_r2) ++ wsX00 ++ wsX40)
def wsX0_start_r1 : List Cond := [Cond.fieldLink RX0 15 "OneWorse$Contest" "run" "I", Cond.fieldLink RX0 29 "OneWorse$Contest" "chosen" "I", Cond.fieldLink RX0 26 "OneWorse$Contest" "score" "I", Cond.methodLink RX0 40 yX0_best, Cond.instanceMethod yX0_best, Cond.selects RX0 yX0_best yX0_best, Cond.initialized RX0, Cond.code yX0_best cX0_best 10 (some .int), Cond.fieldLink RX0 19 "OneWorse$Contest" "spinning" "Z", Cond.fieldLink RX0 23 "OneWorse$Contest" "enough" "I", Cond.methodLink RX0 44 yJ6_bitCount_0f7a4, Cond.static yJ6_bitCount_0f7a4, Cond.initialized RJ6, Cond.code yJ6_bitCount_0f7a4 cJ6_bitCount_0f7a4 1 (some .int), Cond.constant RJ6 265 (1431655765), Cond.constant RJ6 266 (858993459), Cond.constant RJ6 267 (252645135), Cond.static yX6_has, Cond.initialized RX6, Cond.code yX6_has cX6_has 2 (some .boolean), Cond.methodLink RX0 54 yX0_afterwards, Cond.instanceMethod yX0_afterwards, Cond.selects RX0 yX0_afterwards yX0_afterwards, Cond.methodLink RX0 57 yX0_turned]
def wsX0_start_r2 : List Cond := [Cond.instanceMethod yX0_turned, Cond.selects RX0 yX0_turned yX0_turned, Cond.code yX0_turned cX0_turned 2 (some .int), Cond.code yX0_afterwards cX0_afterwards 10 (some .int), Cond.fieldLink RX0 9 "OneWorse$Contest" "memo" "[I", Cond.fieldLink RX0 32 "OneWorse$Contest" "town" "LOneWorse$Town;", Cond.static yX6_at, Cond.code yX6_at cX6_at 2 (some .int), Cond.instanceMethod yX4_worseThan, Cond.initialized RX4, Cond.selects RX4 yX4_worseThan yX4_worseThan, Cond.code yX4_worseThan cX4_worseThan 2 (some .int), Cond.fieldLink RX4 9 "OneWorse$Town" "worse" "[I", Cond.static yX6_store, Cond.code yX6_store cX6_store 3 none]
def wsX0_start : List Cond := .code yX0_start cX0_start 5 none :: ((wsX0_start_r1 ++ wsX0_start_r2) ++ wsX00 ++ wsX40)
def wsX0_fight_r1 : List Cond := [Cond.fieldLink RX0 19 "OneWorse$Contest" "spinning" "Z", Cond.fieldLink RX0 23 "OneWorse$Contest" "enough" "I", Cond.methodLink RX0 36 yX0_start, Cond.instanceMethod yX0_start, Cond.selects RX0 yX0_start yX0_start, Cond.initialized RX0, Cond.code yX0_start cX0_start 5 none, Cond.fieldLink RX0 15 "OneWorse$Contest" "run" "I", Cond.fieldLink RX0 29 "OneWorse$Contest" "chosen" "I", Cond.fieldLink RX0 26 "OneWorse$Contest" "score" "I", Cond.methodLink RX0 40 yX0_best, Cond.instanceMethod yX0_best, Cond.selects RX0 yX0_best yX0_best, Cond.code yX0_best cX0_best 10 (some .int), Cond.methodLink RX0 44 yJ6_bitCount_0f7a4, Cond.static yJ6_bitCount_0f7a4, Cond.initialized RJ6, Cond.code yJ6_bitCount_0f7a4 cJ6_bitCount_0f7a4 1 (some .int), Cond.constant RJ6 265 (1431655765), Cond.constant RJ6 266 (858993459), Cond.constant RJ6 267 (252645135), Cond.static yX6_has, Cond.initialized RX6, Cond.code yX6_has cX6_has 2 (some .boolean)]
def wsX0_fight_r2 : List Cond := [Cond.methodLink RX0 54 yX0_afterwards, Cond.instanceMethod yX0_afterwards, Cond.selects RX0 yX0_afterwards yX0_afterwards, Cond.methodLink RX0 57 yX0_turned, Cond.instanceMethod yX0_turned, Cond.selects RX0 yX0_turned yX0_turned, Cond.code yX0_turned cX0_turned 2 (some .int), Cond.code yX0_afterwards cX0_afterwards 10 (some .int), Cond.fieldLink RX0 9 "OneWorse$Contest" "memo" "[I", Cond.fieldLink RX0 32 "OneWorse$Contest" "town" "LOneWorse$Town;", Cond.static yX6_at, Cond.code yX6_at cX6_at 2 (some .int), Cond.instanceMethod yX4_worseThan, Cond.initialized RX4, Cond.selects RX4 yX4_worseThan yX4_worseThan, Cond.code yX4_worseThan cX4_worseThan 2 (some .int), Cond.fieldLink RX4 9 "OneWorse$Town" "worse" "[I", Cond.static yX6_store, Cond.code yX6_store cX6_store 3 none]
def wsX0_fight : List Cond := .code yX0_fight cX0_fight 6 none :: ((wsX0_fight_r1 ++ wsX0_fight_r2) ++ wsX00 ++ wsX40)
def wsX0_spin_r1 : List Cond := [Cond.fieldLink RX0 19 "OneWorse$Contest" "spinning" "Z", Cond.methodLink RX0 36 yX0_start, Cond.instanceMethod yX0_start, Cond.selects RX0 yX0_start yX0_start, Cond.initialized RX0, Cond.code yX0_start cX0_start 5 none, Cond.fieldLink RX0 15 "OneWorse$Contest" "run" "I", Cond.fieldLink RX0 29 "OneWorse$Contest" "chosen" "I", Cond.fieldLink RX0 26 "OneWorse$Contest" "score" "I", Cond.methodLink RX0 40 yX0_best, Cond.instanceMethod yX0_best, Cond.selects RX0 yX0_best yX0_best, Cond.code yX0_best cX0_best 10 (some .int), Cond.fieldLink RX0 23 "OneWorse$Contest" "enough" "I", Cond.methodLink RX0 44 yJ6_bitCount_0f7a4, Cond.static yJ6_bitCount_0f7a4, Cond.initialized RJ6, Cond.code yJ6_bitCount_0f7a4 cJ6_bitCount_0f7a4 1 (some .int), Cond.constant RJ6 265 (1431655765), Cond.constant RJ6 266 (858993459), Cond.constant RJ6 267 (252645135), Cond.static yX6_has, Cond.initialized RX6, Cond.code yX6_has cX6_has 2 (some .boolean)]
def wsX0_spin_r2 : List Cond := [Cond.methodLink RX0 54 yX0_afterwards, Cond.instanceMethod yX0_afterwards, Cond.selects RX0 yX0_afterwards yX0_afterwards, Cond.methodLink RX0 57 yX0_turned, Cond.instanceMethod yX0_turned, Cond.selects RX0 yX0_turned yX0_turned, Cond.code yX0_turned cX0_turned 2 (some .int), Cond.code yX0_afterwards cX0_afterwards 10 (some .int), Cond.fieldLink RX0 9 "OneWorse$Contest" "memo" "[I", Cond.fieldLink RX0 32 "OneWorse$Contest" "town" "LOneWorse$Town;", Cond.static yX6_at, Cond.code yX6_at cX6_at 2 (some .int), Cond.instanceMethod yX4_worseThan, Cond.initialized RX4, Cond.selects RX4 yX4_worseThan yX4_worseThan, Cond.code yX4_worseThan cX4_worseThan 2 (some .int), Cond.fieldLink RX4 9 "OneWorse$Town" "worse" "[I", Cond.static yX6_store, Cond.code yX6_store cX6_store 3 none]
def wsX0_spin : List Cond := .code yX0_spin cX0_spin 5 none :: ((wsX0_spin_r1 ++ wsX0_spin_r2) ++ wsX00 ++ wsX40)
def wsX0_moverPays : List Cond := .code yX0_moverPays cX0_moverPays 1 (some .boolean) :: ([.fieldLink RX0 26 "OneWorse$Contest" "score" "I"] ++ wsX00)
def wsX0_howMany : List Cond := .code yX0_howMany cX0_howMany 1 (some .int) :: ([.fieldLink RX0 26 "OneWorse$Contest" "score" "I"] ++ wsX00)
def wsX0_spun : List Cond := .code yX0_spun cX0_spun 1 (some .int) :: ([.fieldLink RX0 26 "OneWorse$Contest" "score" "I"] ++ wsX00)
def wsX0_firstMove : List Cond := .code yX0_firstMove cX0_firstMove 1 (some .int) :: ([.fieldLink RX0 29 "OneWorse$Contest" "chosen" "I"] ++ wsX00)
def wsX1_init : List Cond := .code yX1_init cX1_init 2 none :: ([.methodLink RX1 3 objectInit, .instanceMethod objectInit, .code objectInit ⟨#[0xb1]⟩ 1 none, .arrayClass .int, .fieldLink RX1 9 "OneWorse$Crowd" "fitting" "[I", .fieldLink RX1 15 "OneWorse$Crowd" "hope" "[I", .arrayClass .boolean, .fieldLink RX1 18 "OneWorse$Crowd" "able" "[Z", .fieldLink RX1 22 "OneWorse$Crowd" "fewest" "[I", .fieldLink RX1 25 "OneWorse$Crowd" "town" "LOneWorse$Town;"] ++ wsX10)
def wsX4_traitsOf : List Cond := .code yX4_traitsOf cX4_traitsOf 2 (some .int) :: ([.fieldLink RX4 18 "OneWorse$Town" "traits" "[I", .static yX6_at, .initialized RX6, .code yX6_at cX6_at 2 (some .int)] ++ wsX40)
def wsX4_neededBy : List Cond := .code yX4_neededBy cX4_neededBy 2 (some .int) :: ([.fieldLink RX4 15 "OneWorse$Town" "needed" "[I", .static yX6_at, .initialized RX6, .code yX6_at cX6_at 2 (some .int)] ++ wsX40)
def wsX4_fitting : List Cond := .code yX4_fitting cX4_fitting 5 (some .int) :: ([.methodLink RX4 44 yX4_traitsOf, .instanceMethod yX4_traitsOf, .selects RX4 yX4_traitsOf yX4_traitsOf, .initialized RX4, .code yX4_traitsOf cX4_traitsOf 2 (some .int), .fieldLink RX4 18 "OneWorse$Town" "traits" "[I", .static yX6_at, .initialized RX6, .code yX6_at cX6_at 2 (some .int), .methodLink RX4 47 yX4_neededBy, .instanceMethod yX4_neededBy, .selects RX4 yX4_neededBy yX4_neededBy, .code yX4_neededBy cX4_neededBy 2 (some .int), .fieldLink RX4 15 "OneWorse$Town" "needed" "[I"] ++ wsX40)
def wsX1_hopeful : List Cond := .code yX1_hopeful cX1_hopeful 3 (some .int) :: ([.fieldLink RX1 15 "OneWorse$Crowd" "hope" "[I", .static yX6_at, .initialized RX6, .code yX6_at cX6_at 2 (some .int)] ++ wsX10)
def wsX1_leadingTo : List Cond := .code yX1_leadingTo cX1_leadingTo 4 (some .int) :: ([.fieldLink RX1 25 "OneWorse$Crowd" "town" "LOneWorse$Town;", .instanceMethod yX4_worseThan, .initialized RX4, .selects RX4 yX4_worseThan yX4_worseThan, .code yX4_worseThan cX4_worseThan 2 (some .int), .fieldLink RX4 9 "OneWorse$Town" "worse" "[I", .static yX6_at, .initialized RX6, .code yX6_at cX6_at 2 (some .int)] ++ wsX10 ++ wsX40)
def wsX4_knownTo : List Cond := .code yX4_knownTo cX4_knownTo 2 (some .int) :: ([.fieldLink RX4 21 "OneWorse$Town" "known" "[I", .static yX6_at, .initialized RX6, .code yX6_at cX6_at 2 (some .int)] ++ wsX40)
def wsX1_hopeAheadOf_r1 : List Cond := [Cond.fieldLink RX1 9 "OneWorse$Crowd" "fitting" "[I", Cond.fieldLink RX1 15 "OneWorse$Crowd" "hope" "[I", Cond.fieldLink RX1 25 "OneWorse$Crowd" "town" "LOneWorse$Town;", Cond.static yX6_has, Cond.initialized RX6, Cond.code yX6_has cX6_has 2 (some .boolean), Cond.methodLink RX1 60 yX1_hopeful, Cond.instanceMethod yX1_hopeful, Cond.selects RX1 yX1_hopeful yX1_hopeful, Cond.initialized RX1, Cond.code yX1_hopeful cX1_hopeful 3 (some .int), Cond.static yX6_at, Cond.code yX6_at cX6_at 2 (some .int), Cond.methodLink RX1 64 yX1_leadingTo, Cond.instanceMethod yX1_leadingTo, Cond.selects RX1 yX1_leadingTo yX1_leadingTo, Cond.code yX1_leadingTo cX1_leadingTo 4 (some .int), Cond.instanceMethod yX4_worseThan, Cond.initialized RX4, Cond.selects RX4 yX4_worseThan yX4_worseThan, Cond.code yX4_worseThan cX4_worseThan 2 (some .int), Cond.fieldLink RX4 9 "OneWorse$Town" "worse" "[I", Cond.instanceMethod yX4_knownTo, Cond.selects RX4 yX4_knownTo yX4_knownTo]
def wsX1_hopeAheadOf_r2 : List Cond := [Cond.code yX4_knownTo cX4_knownTo 2 (some .int), Cond.fieldLink RX4 21 "OneWorse$Town" "known" "[I", Cond.static yX6_store, Cond.code yX6_store cX6_store 3 none]
def wsX1_hopeAheadOf : List Cond := .code yX1_hopeAheadOf cX1_hopeAheadOf 5 none :: ((wsX1_hopeAheadOf_r1 ++ wsX1_hopeAheadOf_r2) ++ wsX10 ++ wsX40)
def wsX1_prepare_r1 : List Cond := [Cond.fieldLink RX1 9 "OneWorse$Crowd" "fitting" "[I", Cond.fieldLink RX1 25 "OneWorse$Crowd" "town" "LOneWorse$Town;", Cond.instanceMethod yX4_fitting, Cond.initialized RX4, Cond.selects RX4 yX4_fitting yX4_fitting, Cond.code yX4_fitting cX4_fitting 5 (some .int), Cond.methodLink RX4 44 yX4_traitsOf, Cond.instanceMethod yX4_traitsOf, Cond.selects RX4 yX4_traitsOf yX4_traitsOf, Cond.code yX4_traitsOf cX4_traitsOf 2 (some .int), Cond.fieldLink RX4 18 "OneWorse$Town" "traits" "[I", Cond.static yX6_at, Cond.initialized RX6, Cond.code yX6_at cX6_at 2 (some .int), Cond.methodLink RX4 47 yX4_neededBy, Cond.instanceMethod yX4_neededBy, Cond.selects RX4 yX4_neededBy yX4_neededBy, Cond.code yX4_neededBy cX4_neededBy 2 (some .int), Cond.fieldLink RX4 15 "OneWorse$Town" "needed" "[I", Cond.static yX6_store, Cond.code yX6_store cX6_store 3 none, Cond.methodLink RX1 53 yX1_hopeAheadOf, Cond.instanceMethod yX1_hopeAheadOf, Cond.selects RX1 yX1_hopeAheadOf yX1_hopeAheadOf]
def wsX1_prepare_r2 : List Cond := [Cond.initialized RX1, Cond.code yX1_hopeAheadOf cX1_hopeAheadOf 5 none, Cond.fieldLink RX1 15 "OneWorse$Crowd" "hope" "[I", Cond.static yX6_has, Cond.code yX6_has cX6_has 2 (some .boolean), Cond.methodLink RX1 60 yX1_hopeful, Cond.instanceMethod yX1_hopeful, Cond.selects RX1 yX1_hopeful yX1_hopeful, Cond.code yX1_hopeful cX1_hopeful 3 (some .int), Cond.methodLink RX1 64 yX1_leadingTo, Cond.instanceMethod yX1_leadingTo, Cond.selects RX1 yX1_leadingTo yX1_leadingTo, Cond.code yX1_leadingTo cX1_leadingTo 4 (some .int), Cond.instanceMethod yX4_worseThan, Cond.selects RX4 yX4_worseThan yX4_worseThan, Cond.code yX4_worseThan cX4_worseThan 2 (some .int), Cond.fieldLink RX4 9 "OneWorse$Town" "worse" "[I", Cond.instanceMethod yX4_knownTo, Cond.selects RX4 yX4_knownTo yX4_knownTo, Cond.code yX4_knownTo cX4_knownTo 2 (some .int), Cond.fieldLink RX4 21 "OneWorse$Town" "known" "[I"]
def wsX1_prepare : List Cond := .code yX1_prepare cX1_prepare 3 none :: ((wsX1_prepare_r1 ++ wsX1_prepare_r2) ++ wsX10 ++ wsX40)
def wsX1_canGoOn_r1 : List Cond := [Cond.fieldLink RX1 25 "OneWorse$Crowd" "town" "LOneWorse$Town;", Cond.fieldLink RX1 9 "OneWorse$Crowd" "fitting" "[I", Cond.instanceMethod yX4_worseThan, Cond.initialized RX4, Cond.selects RX4 yX4_worseThan yX4_worseThan, Cond.code yX4_worseThan cX4_worseThan 2 (some .int), Cond.fieldLink RX4 9 "OneWorse$Town" "worse" "[I", Cond.static yX6_at, Cond.initialized RX6, Cond.code yX6_at cX6_at 2 (some .int), Cond.static yX6_has, Cond.code yX6_has cX6_has 2 (some .boolean), Cond.methodLink RX1 60 yX1_hopeful, Cond.instanceMethod yX1_hopeful, Cond.selects RX1 yX1_hopeful yX1_hopeful, Cond.initialized RX1, Cond.code yX1_hopeful cX1_hopeful 3 (some .int), Cond.fieldLink RX1 15 "OneWorse$Crowd" "hope" "[I", Cond.methodLink RX1 73 yX1_canSayOne, Cond.instanceMethod yX1_canSayOne, Cond.selects RX1 yX1_canSayOne yX1_canSayOne, Cond.code yX1_canSayOne cX1_canSayOne 6 (some .boolean), Cond.methodLink RX1 77 yX1_canGoOn, Cond.instanceMethod yX1_canGoOn]
def wsX1_canGoOn_r2 : List Cond := [Cond.selects RX1 yX1_canGoOn yX1_canGoOn]
def wsX1_canGoOn : List Cond := .code yX1_canGoOn cX1_canGoOn 9 (some .boolean) :: ((wsX1_canGoOn_r1 ++ wsX1_canGoOn_r2) ++ wsX10 ++ wsX40)
def wsX1_canSayOne_r1 : List Cond := [Cond.static yX6_has, Cond.initialized RX6, Cond.code yX6_has cX6_has 2 (some .boolean), Cond.methodLink RX1 77 yX1_canGoOn, Cond.instanceMethod yX1_canGoOn, Cond.selects RX1 yX1_canGoOn yX1_canGoOn, Cond.initialized RX1, Cond.code yX1_canGoOn cX1_canGoOn 9 (some .boolean), Cond.fieldLink RX1 25 "OneWorse$Crowd" "town" "LOneWorse$Town;", Cond.fieldLink RX1 9 "OneWorse$Crowd" "fitting" "[I", Cond.instanceMethod yX4_worseThan, Cond.initialized RX4, Cond.selects RX4 yX4_worseThan yX4_worseThan, Cond.code yX4_worseThan cX4_worseThan 2 (some .int), Cond.fieldLink RX4 9 "OneWorse$Town" "worse" "[I", Cond.static yX6_at, Cond.code yX6_at cX6_at 2 (some .int), Cond.methodLink RX1 60 yX1_hopeful, Cond.instanceMethod yX1_hopeful, Cond.selects RX1 yX1_hopeful yX1_hopeful, Cond.code yX1_hopeful cX1_hopeful 3 (some .int), Cond.fieldLink RX1 15 "OneWorse$Crowd" "hope" "[I", Cond.methodLink RX1 73 yX1_canSayOne, Cond.instanceMethod yX1_canSayOne]
def wsX1_canSayOne_r2 : List Cond := [Cond.selects RX1 yX1_canSayOne yX1_canSayOne]
def wsX1_canSayOne : List Cond := .code yX1_canSayOne cX1_canSayOne 6 (some .boolean) :: ((wsX1_canSayOne_r1 ++ wsX1_canSayOne_r2) ++ wsX10 ++ wsX40)
def wsX1_canSpeak_r1 : List Cond := [Cond.methodLink RX1 60 yX1_hopeful, Cond.instanceMethod yX1_hopeful, Cond.selects RX1 yX1_hopeful yX1_hopeful, Cond.initialized RX1, Cond.code yX1_hopeful cX1_hopeful 3 (some .int), Cond.fieldLink RX1 15 "OneWorse$Crowd" "hope" "[I", Cond.static yX6_at, Cond.initialized RX6, Cond.code yX6_at cX6_at 2 (some .int), Cond.methodLink RX1 73 yX1_canSayOne, Cond.instanceMethod yX1_canSayOne, Cond.selects RX1 yX1_canSayOne yX1_canSayOne, Cond.code yX1_canSayOne cX1_canSayOne 6 (some .boolean), Cond.static yX6_has, Cond.code yX6_has cX6_has 2 (some .boolean), Cond.methodLink RX1 77 yX1_canGoOn, Cond.instanceMethod yX1_canGoOn, Cond.selects RX1 yX1_canGoOn yX1_canGoOn, Cond.code yX1_canGoOn cX1_canGoOn 9 (some .boolean), Cond.fieldLink RX1 25 "OneWorse$Crowd" "town" "LOneWorse$Town;", Cond.fieldLink RX1 9 "OneWorse$Crowd" "fitting" "[I", Cond.instanceMethod yX4_worseThan, Cond.initialized RX4, Cond.selects RX4 yX4_worseThan yX4_worseThan]
def wsX1_canSpeak_r2 : List Cond := [Cond.code yX4_worseThan cX4_worseThan 2 (some .int), Cond.fieldLink RX4 9 "OneWorse$Town" "worse" "[I"]
def wsX1_canSpeak : List Cond := .code yX1_canSpeak cX1_canSpeak 4 (some .boolean) :: ((wsX1_canSpeak_r1 ++ wsX1_canSpeak_r2) ++ wsX10 ++ wsX40)
def wsX1_isOneDayEnough_r1 : List Cond := [Cond.methodLink RX1 29 yX1_prepare, Cond.instanceMethod yX1_prepare, Cond.selects RX1 yX1_prepare yX1_prepare, Cond.initialized RX1, Cond.code yX1_prepare cX1_prepare 3 none, Cond.fieldLink RX1 9 "OneWorse$Crowd" "fitting" "[I", Cond.fieldLink RX1 25 "OneWorse$Crowd" "town" "LOneWorse$Town;", Cond.instanceMethod yX4_fitting, Cond.initialized RX4, Cond.selects RX4 yX4_fitting yX4_fitting, Cond.code yX4_fitting cX4_fitting 5 (some .int), Cond.methodLink RX4 44 yX4_traitsOf, Cond.instanceMethod yX4_traitsOf, Cond.selects RX4 yX4_traitsOf yX4_traitsOf, Cond.code yX4_traitsOf cX4_traitsOf 2 (some .int), Cond.fieldLink RX4 18 "OneWorse$Town" "traits" "[I", Cond.static yX6_at, Cond.initialized RX6, Cond.code yX6_at cX6_at 2 (some .int), Cond.methodLink RX4 47 yX4_neededBy, Cond.instanceMethod yX4_neededBy, Cond.selects RX4 yX4_neededBy yX4_neededBy, Cond.code yX4_neededBy cX4_neededBy 2 (some .int), Cond.fieldLink RX4 15 "OneWorse$Town" "needed" "[I"]
def wsX1_isOneDayEnough_r2 : List Cond := [Cond.static yX6_store, Cond.code yX6_store cX6_store 3 none, Cond.methodLink RX1 53 yX1_hopeAheadOf, Cond.instanceMethod yX1_hopeAheadOf, Cond.selects RX1 yX1_hopeAheadOf yX1_hopeAheadOf, Cond.code yX1_hopeAheadOf cX1_hopeAheadOf 5 none, Cond.fieldLink RX1 15 "OneWorse$Crowd" "hope" "[I", Cond.static yX6_has, Cond.code yX6_has cX6_has 2 (some .boolean), Cond.methodLink RX1 60 yX1_hopeful, Cond.instanceMethod yX1_hopeful, Cond.selects RX1 yX1_hopeful yX1_hopeful, Cond.code yX1_hopeful cX1_hopeful 3 (some .int), Cond.methodLink RX1 64 yX1_leadingTo, Cond.instanceMethod yX1_leadingTo, Cond.selects RX1 yX1_leadingTo yX1_leadingTo, Cond.code yX1_leadingTo cX1_leadingTo 4 (some .int), Cond.instanceMethod yX4_worseThan, Cond.selects RX4 yX4_worseThan yX4_worseThan, Cond.code yX4_worseThan cX4_worseThan 2 (some .int), Cond.fieldLink RX4 9 "OneWorse$Town" "worse" "[I", Cond.instanceMethod yX4_knownTo, Cond.selects RX4 yX4_knownTo yX4_knownTo, Cond.code yX4_knownTo cX4_knownTo 2 (some .int)]
def wsX1_isOneDayEnough_r3 : List Cond := [Cond.fieldLink RX4 21 "OneWorse$Town" "known" "[I", Cond.methodLink RX1 33 yX1_canSpeak, Cond.instanceMethod yX1_canSpeak, Cond.selects RX1 yX1_canSpeak yX1_canSpeak, Cond.code yX1_canSpeak cX1_canSpeak 4 (some .boolean), Cond.methodLink RX1 73 yX1_canSayOne, Cond.instanceMethod yX1_canSayOne, Cond.selects RX1 yX1_canSayOne yX1_canSayOne, Cond.code yX1_canSayOne cX1_canSayOne 6 (some .boolean), Cond.methodLink RX1 77 yX1_canGoOn, Cond.instanceMethod yX1_canGoOn, Cond.selects RX1 yX1_canGoOn yX1_canGoOn, Cond.code yX1_canGoOn cX1_canGoOn 9 (some .boolean)]
def wsX1_isOneDayEnough : List Cond := .code yX1_isOneDayEnough cX1_isOneDayEnough 2 (some .boolean) :: ((wsX1_isOneDayEnough_r1 ++ (wsX1_isOneDayEnough_r2 ++ wsX1_isOneDayEnough_r3)) ++ wsX10 ++ wsX40)
def wsX1_fewestBySets : List Cond := .code yX1_fewestBySets cX1_fewestBySets 5 (some .int) :: ([.fieldLink RX1 18 "OneWorse$Crowd" "able" "[Z", .fieldLink RX1 22 "OneWorse$Crowd" "fewest" "[I", .static yX6_at, .initialized RX6, .code yX6_at cX6_at 2 (some .int)] ++ wsX10)
def wsX1_fewestDays_r1 : List Cond := [Cond.fieldLink RX1 18 "OneWorse$Crowd" "able" "[Z", Cond.fieldLink RX1 22 "OneWorse$Crowd" "fewest" "[I", Cond.methodLink RX1 29 yX1_prepare, Cond.instanceMethod yX1_prepare, Cond.selects RX1 yX1_prepare yX1_prepare, Cond.initialized RX1, Cond.code yX1_prepare cX1_prepare 3 none, Cond.fieldLink RX1 9 "OneWorse$Crowd" "fitting" "[I", Cond.fieldLink RX1 25 "OneWorse$Crowd" "town" "LOneWorse$Town;", Cond.instanceMethod yX4_fitting, Cond.initialized RX4, Cond.selects RX4 yX4_fitting yX4_fitting, Cond.code yX4_fitting cX4_fitting 5 (some .int), Cond.methodLink RX4 44 yX4_traitsOf, Cond.instanceMethod yX4_traitsOf, Cond.selects RX4 yX4_traitsOf yX4_traitsOf, Cond.code yX4_traitsOf cX4_traitsOf 2 (some .int), Cond.fieldLink RX4 18 "OneWorse$Town" "traits" "[I", Cond.static yX6_at, Cond.initialized RX6, Cond.code yX6_at cX6_at 2 (some .int), Cond.methodLink RX4 47 yX4_neededBy, Cond.instanceMethod yX4_neededBy, Cond.selects RX4 yX4_neededBy yX4_neededBy]
def wsX1_fewestDays_r2 : List Cond := [Cond.code yX4_neededBy cX4_neededBy 2 (some .int), Cond.fieldLink RX4 15 "OneWorse$Town" "needed" "[I", Cond.static yX6_store, Cond.code yX6_store cX6_store 3 none, Cond.methodLink RX1 53 yX1_hopeAheadOf, Cond.instanceMethod yX1_hopeAheadOf, Cond.selects RX1 yX1_hopeAheadOf yX1_hopeAheadOf, Cond.code yX1_hopeAheadOf cX1_hopeAheadOf 5 none, Cond.fieldLink RX1 15 "OneWorse$Crowd" "hope" "[I", Cond.static yX6_has, Cond.code yX6_has cX6_has 2 (some .boolean), Cond.methodLink RX1 60 yX1_hopeful, Cond.instanceMethod yX1_hopeful, Cond.selects RX1 yX1_hopeful yX1_hopeful, Cond.code yX1_hopeful cX1_hopeful 3 (some .int), Cond.methodLink RX1 64 yX1_leadingTo, Cond.instanceMethod yX1_leadingTo, Cond.selects RX1 yX1_leadingTo yX1_leadingTo, Cond.code yX1_leadingTo cX1_leadingTo 4 (some .int), Cond.instanceMethod yX4_worseThan, Cond.selects RX4 yX4_worseThan yX4_worseThan, Cond.code yX4_worseThan cX4_worseThan 2 (some .int), Cond.fieldLink RX4 9 "OneWorse$Town" "worse" "[I", Cond.instanceMethod yX4_knownTo]
def wsX1_fewestDays_r3 : List Cond := [Cond.selects RX4 yX4_knownTo yX4_knownTo, Cond.code yX4_knownTo cX4_knownTo 2 (some .int), Cond.fieldLink RX4 21 "OneWorse$Town" "known" "[I", Cond.methodLink RX1 33 yX1_canSpeak, Cond.instanceMethod yX1_canSpeak, Cond.selects RX1 yX1_canSpeak yX1_canSpeak, Cond.code yX1_canSpeak cX1_canSpeak 4 (some .boolean), Cond.methodLink RX1 73 yX1_canSayOne, Cond.instanceMethod yX1_canSayOne, Cond.selects RX1 yX1_canSayOne yX1_canSayOne, Cond.code yX1_canSayOne cX1_canSayOne 6 (some .boolean), Cond.methodLink RX1 77 yX1_canGoOn, Cond.instanceMethod yX1_canGoOn, Cond.selects RX1 yX1_canGoOn yX1_canGoOn, Cond.code yX1_canGoOn cX1_canGoOn 9 (some .boolean), Cond.methodLink RX1 37 yX1_fewestBySets, Cond.instanceMethod yX1_fewestBySets, Cond.selects RX1 yX1_fewestBySets yX1_fewestBySets, Cond.code yX1_fewestBySets cX1_fewestBySets 5 (some .int)]
def wsX1_fewestDays : List Cond := .code yX1_fewestDays cX1_fewestDays 3 (some .int) :: ((wsX1_fewestDays_r1 ++ (wsX1_fewestDays_r2 ++ wsX1_fewestDays_r3)) ++ wsX10 ++ wsX40)
def wsX2_init : List Cond := .code yX2_init cX2_init 2 none :: ([.methodLink RX2 3 objectInit, .instanceMethod objectInit, .code objectInit ⟨#[0xb1]⟩ 1 none, .arrayClass .int, .fieldLink RX2 9 "OneWorse$Order" "reached" "[I", .fieldLink RX2 15 "OneWorse$Order" "back" "[I", .fieldLink RX2 18 "OneWorse$Order" "rank" "[I", .fieldLink RX2 21 "OneWorse$Order" "arranged" "[I", .fieldLink RX2 24 "OneWorse$Order" "isArranged" "Z", .fieldLink RX2 28 "OneWorse$Order" "town" "LOneWorse$Town;"] ++ wsX20)
def wsX2_tops : List Cond := .code yX2_tops cX2_tops 3 (some .int) :: ([.fieldLink RX2 28 "OneWorse$Order" "town" "LOneWorse$Town;", .instanceMethod yX4_worseThan, .initialized RX4, .selects RX4 yX4_worseThan yX4_worseThan, .code yX4_worseThan cX4_worseThan 2 (some .int), .fieldLink RX4 9 "OneWorse$Town" "worse" "[I", .static yX6_at, .initialized RX6, .code yX6_at cX6_at 2 (some .int)] ++ wsX20 ++ wsX40)
def wsX2_inRings : List Cond := .code yX2_inRings cX2_inRings 3 (some .int) :: ([.fieldLink RX2 9 "OneWorse$Order" "reached" "[I", .fieldLink RX2 28 "OneWorse$Order" "town" "LOneWorse$Town;", .instanceMethod yX4_worseThan, .initialized RX4, .selects RX4 yX4_worseThan yX4_worseThan, .code yX4_worseThan cX4_worseThan 2 (some .int), .fieldLink RX4 9 "OneWorse$Town" "worse" "[I", .static yX6_at, .initialized RX6, .code yX6_at cX6_at 2 (some .int), .static yX6_store, .code yX6_store cX6_store 3 none, .static yX6_has, .code yX6_has cX6_has 2 (some .boolean)] ++ wsX20 ++ wsX40)
def wsX2_isSameBook : List Cond := .code yX2_isSameBook cX2_isSameBook 2 (some .boolean) :: ([.fieldLink RX2 21 "OneWorse$Order" "arranged" "[I", .fieldLink RX2 28 "OneWorse$Order" "town" "LOneWorse$Town;", .static yX6_at, .initialized RX6, .code yX6_at cX6_at 2 (some .int), .instanceMethod yX4_worseThan, .initialized RX4, .selects RX4 yX4_worseThan yX4_worseThan, .code yX4_worseThan cX4_worseThan 2 (some .int), .fieldLink RX4 9 "OneWorse$Town" "worse" "[I"] ++ wsX20 ++ wsX40)
def wsX2_backWith : List Cond := .code yX2_backWith cX2_backWith 3 (some .int) :: ([.fieldLink RX2 28 "OneWorse$Order" "town" "LOneWorse$Town;", .fieldLink RX2 15 "OneWorse$Order" "back" "[I", .instanceMethod yX4_worseThan, .initialized RX4, .selects RX4 yX4_worseThan yX4_worseThan, .code yX4_worseThan cX4_worseThan 2 (some .int), .fieldLink RX4 9 "OneWorse$Town" "worse" "[I", .static yX6_at, .initialized RX6, .code yX6_at cX6_at 2 (some .int), .methodLink RX2 61 yJ6_bitCount_0f7a4, .static yJ6_bitCount_0f7a4, .initialized RJ6, .code yJ6_bitCount_0f7a4 cJ6_bitCount_0f7a4 1 (some .int), .constant RJ6 265 (1431655765), .constant RJ6 266 (858993459), .constant RJ6 267 (252645135)] ++ wsX20 ++ wsX40)
def wsX2_nextAfter : List Cond := .code yX2_nextAfter cX2_nextAfter 6 (some .int) :: ([.static yX6_has, .initialized RX6, .code yX6_has cX6_has 2 (some .boolean), .methodLink RX2 57 yX2_backWith, .instanceMethod yX2_backWith, .selects RX2 yX2_backWith yX2_backWith, .initialized RX2, .code yX2_backWith cX2_backWith 3 (some .int), .fieldLink RX2 28 "OneWorse$Order" "town" "LOneWorse$Town;", .fieldLink RX2 15 "OneWorse$Order" "back" "[I", .instanceMethod yX4_worseThan, .initialized RX4, .selects RX4 yX4_worseThan yX4_worseThan, .code yX4_worseThan cX4_worseThan 2 (some .int), .fieldLink RX4 9 "OneWorse$Town" "worse" "[I", .static yX6_at, .code yX6_at cX6_at 2 (some .int), .methodLink RX2 61 yJ6_bitCount_0f7a4, .static yJ6_bitCount_0f7a4, .initialized RJ6, .code yJ6_bitCount_0f7a4 cJ6_bitCount_0f7a4 1 (some .int), .constant RJ6 265 (1431655765), .constant RJ6 266 (858993459), .constant RJ6 267 (252645135)] ++ wsX20 ++ wsX40)
def wsX2_arrange_r1 : List Cond := [Cond.fieldLink RX2 24 "OneWorse$Order" "isArranged" "Z", Cond.fieldLink RX2 15 "OneWorse$Order" "back" "[I", Cond.fieldLink RX2 18 "OneWorse$Order" "rank" "[I", Cond.fieldLink RX2 21 "OneWorse$Order" "arranged" "[I", Cond.fieldLink RX2 28 "OneWorse$Order" "town" "LOneWorse$Town;", Cond.methodLink RX2 50 yX2_isSameBook, Cond.instanceMethod yX2_isSameBook, Cond.selects RX2 yX2_isSameBook yX2_isSameBook, Cond.initialized RX2, Cond.code yX2_isSameBook cX2_isSameBook 2 (some .boolean), Cond.static yX6_at, Cond.initialized RX6, Cond.code yX6_at cX6_at 2 (some .int), Cond.instanceMethod yX4_worseThan, Cond.initialized RX4, Cond.selects RX4 yX4_worseThan yX4_worseThan, Cond.code yX4_worseThan cX4_worseThan 2 (some .int), Cond.fieldLink RX4 9 "OneWorse$Town" "worse" "[I", Cond.static yX6_store, Cond.code yX6_store cX6_store 3 none, Cond.methodLink RX2 54 yX2_nextAfter, Cond.instanceMethod yX2_nextAfter, Cond.selects RX2 yX2_nextAfter yX2_nextAfter, Cond.code yX2_nextAfter cX2_nextAfter 6 (some .int)]
def wsX2_arrange_r2 : List Cond := [Cond.static yX6_has, Cond.code yX6_has cX6_has 2 (some .boolean), Cond.methodLink RX2 57 yX2_backWith, Cond.instanceMethod yX2_backWith, Cond.selects RX2 yX2_backWith yX2_backWith, Cond.code yX2_backWith cX2_backWith 3 (some .int), Cond.methodLink RX2 61 yJ6_bitCount_0f7a4, Cond.static yJ6_bitCount_0f7a4, Cond.initialized RJ6, Cond.code yJ6_bitCount_0f7a4 cJ6_bitCount_0f7a4 1 (some .int), Cond.constant RJ6 265 (1431655765), Cond.constant RJ6 266 (858993459), Cond.constant RJ6 267 (252645135)]
def wsX2_arrange : List Cond := .code yX2_arrange cX2_arrange 4 none :: ((wsX2_arrange_r1 ++ wsX2_arrange_r2) ++ wsX20 ++ wsX40)
def wsX2_countStruck : List Cond := .code yX2_countStruck cX2_countStruck 1 (some .int) :: ([.fieldLink RX2 15 "OneWorse$Order" "back" "[I", .static yX6_at, .initialized RX6, .code yX6_at cX6_at 2 (some .int)] ++ wsX20)
def wsX2_struck : List Cond := .code yX2_struck cX2_struck 5 (some .int) :: ([.fieldLink RX2 28 "OneWorse$Order" "town" "LOneWorse$Town;", .fieldLink RX2 18 "OneWorse$Order" "rank" "[I", .instanceMethod yX4_worseThan, .initialized RX4, .selects RX4 yX4_worseThan yX4_worseThan, .code yX4_worseThan cX4_worseThan 2 (some .int), .fieldLink RX4 9 "OneWorse$Town" "worse" "[I", .static yX6_at, .initialized RX6, .code yX6_at cX6_at 2 (some .int), .static yX6_has, .code yX6_has cX6_has 2 (some .boolean)] ++ wsX20 ++ wsX40)
def wsX3_init : List Cond := .code yX3_init cX3_init 1 none :: ([.methodLink RX3 3 objectInit, .instanceMethod objectInit, .code objectInit ⟨#[0xb1]⟩ 1 none, .arrayClass .int, .fieldLink RX3 11 "OneWorse$Pad" "signs" "[I", .fieldLink RX3 15 "OneWorse$Pad" "size" "I"] ++ wsX30)
def wsX3_size : List Cond := .code yX3_size cX3_size 1 (some .int) :: ([.fieldLink RX3 15 "OneWorse$Pad" "size" "I"] ++ wsX30)
def wsX3_isFull : List Cond := .code yX3_isFull cX3_isFull 1 (some .boolean) :: ([.fieldLink RX3 15 "OneWorse$Pad" "size" "I"] ++ wsX30)
def wsX3_put : List Cond := .code yX3_put cX3_put 2 none :: ([.fieldLink RX3 15 "OneWorse$Pad" "size" "I", .fieldLink RX3 11 "OneWorse$Pad" "signs" "[I"] ++ wsX30)
def wsX3_clear : List Cond := .code yX3_clear cX3_clear 1 none :: ([.fieldLink RX3 15 "OneWorse$Pad" "size" "I"] ++ wsX30)
def wsX3_signAt : List Cond := .code yX3_signAt cX3_signAt 2 (some .int) :: ([.fieldLink RX3 15 "OneWorse$Pad" "size" "I", .fieldLink RX3 11 "OneWorse$Pad" "signs" "[I", .static yX6_at, .initialized RX6, .code yX6_at cX6_at 2 (some .int)] ++ wsX30)
def wsX6_within : List Cond := .code yX6_within cX6_within 3 (some .boolean) :: ([])
def wsX6_isInsult : List Cond := .code yX6_isInsult cX6_isInsult 1 (some .boolean) :: ([.methodLink RX6 59 yX6_within, .static yX6_within, .initialized RX6, .code yX6_within cX6_within 3 (some .boolean)])
def wsX3_insultAt : List Cond := .code yX3_insultAt cX3_insultAt 3 (some .int) :: ([.methodLink RX3 23 yX3_signAt, .instanceMethod yX3_signAt, .selects RX3 yX3_signAt yX3_signAt, .initialized RX3, .code yX3_signAt cX3_signAt 2 (some .int), .fieldLink RX3 15 "OneWorse$Pad" "size" "I", .fieldLink RX3 11 "OneWorse$Pad" "signs" "[I", .static yX6_at, .initialized RX6, .code yX6_at cX6_at 2 (some .int), .static yX6_isInsult, .code yX6_isInsult cX6_isInsult 1 (some .boolean), .methodLink RX6 59 yX6_within, .static yX6_within, .code yX6_within cX6_within 3 (some .boolean)] ++ wsX30)
def wsX6_isMan : List Cond := .code yX6_isMan cX6_isMan 1 (some .boolean) :: ([.methodLink RX6 59 yX6_within, .static yX6_within, .initialized RX6, .code yX6_within cX6_within 3 (some .boolean)])
def wsX3_manAt : List Cond := .code yX3_manAt cX3_manAt 3 (some .int) :: ([.methodLink RX3 23 yX3_signAt, .instanceMethod yX3_signAt, .selects RX3 yX3_signAt yX3_signAt, .initialized RX3, .code yX3_signAt cX3_signAt 2 (some .int), .fieldLink RX3 15 "OneWorse$Pad" "size" "I", .fieldLink RX3 11 "OneWorse$Pad" "signs" "[I", .static yX6_at, .initialized RX6, .code yX6_at cX6_at 2 (some .int), .static yX6_isMan, .code yX6_isMan cX6_isMan 1 (some .boolean), .methodLink RX6 59 yX6_within, .static yX6_within, .code yX6_within cX6_within 3 (some .boolean)] ++ wsX30)
def wsX3_standsInSteps : List Cond := .code yX3_standsInSteps cX3_standsInSteps 4 (some .boolean) :: ([.methodLink RX3 37 yX3_insultAt, .instanceMethod yX3_insultAt, .selects RX3 yX3_insultAt yX3_insultAt, .initialized RX3, .code yX3_insultAt cX3_insultAt 3 (some .int), .methodLink RX3 23 yX3_signAt, .instanceMethod yX3_signAt, .selects RX3 yX3_signAt yX3_signAt, .code yX3_signAt cX3_signAt 2 (some .int), .fieldLink RX3 15 "OneWorse$Pad" "size" "I", .fieldLink RX3 11 "OneWorse$Pad" "signs" "[I", .static yX6_at, .initialized RX6, .code yX6_at cX6_at 2 (some .int), .static yX6_isInsult, .code yX6_isInsult cX6_isInsult 1 (some .boolean), .methodLink RX6 59 yX6_within, .static yX6_within, .code yX6_within cX6_within 3 (some .boolean)] ++ wsX30)
def wsX3_faultAsSteps : List Cond := .code yX3_faultAsSteps cX3_faultAsSteps 2 (some .int) :: ([.fieldLink RX3 15 "OneWorse$Pad" "size" "I", .methodLink RX3 34 yX3_standsInSteps, .instanceMethod yX3_standsInSteps, .selects RX3 yX3_standsInSteps yX3_standsInSteps, .initialized RX3, .code yX3_standsInSteps cX3_standsInSteps 4 (some .boolean), .methodLink RX3 37 yX3_insultAt, .instanceMethod yX3_insultAt, .selects RX3 yX3_insultAt yX3_insultAt, .code yX3_insultAt cX3_insultAt 3 (some .int), .methodLink RX3 23 yX3_signAt, .instanceMethod yX3_signAt, .selects RX3 yX3_signAt yX3_signAt, .code yX3_signAt cX3_signAt 2 (some .int), .fieldLink RX3 11 "OneWorse$Pad" "signs" "[I", .static yX6_at, .initialized RX6, .code yX6_at cX6_at 2 (some .int), .static yX6_isInsult, .code yX6_isInsult cX6_isInsult 1 (some .boolean), .methodLink RX6 59 yX6_within, .static yX6_within, .code yX6_within cX6_within 3 (some .boolean)] ++ wsX30)
def wsX3_standsInQuarrel_r1 : List Cond := [Cond.methodLink RX3 37 yX3_insultAt, Cond.instanceMethod yX3_insultAt, Cond.selects RX3 yX3_insultAt yX3_insultAt, Cond.initialized RX3, Cond.code yX3_insultAt cX3_insultAt 3 (some .int), Cond.methodLink RX3 23 yX3_signAt, Cond.instanceMethod yX3_signAt, Cond.selects RX3 yX3_signAt yX3_signAt, Cond.code yX3_signAt cX3_signAt 2 (some .int), Cond.fieldLink RX3 15 "OneWorse$Pad" "size" "I", Cond.fieldLink RX3 11 "OneWorse$Pad" "signs" "[I", Cond.static yX6_at, Cond.initialized RX6, Cond.code yX6_at cX6_at 2 (some .int), Cond.static yX6_isInsult, Cond.code yX6_isInsult cX6_isInsult 1 (some .boolean), Cond.methodLink RX6 59 yX6_within, Cond.static yX6_within, Cond.code yX6_within cX6_within 3 (some .boolean), Cond.methodLink RX3 43 yX3_manAt, Cond.instanceMethod yX3_manAt, Cond.selects RX3 yX3_manAt yX3_manAt, Cond.code yX3_manAt cX3_manAt 3 (some .int), Cond.static yX6_isMan]
def wsX3_standsInQuarrel_r2 : List Cond := [Cond.code yX6_isMan cX6_isMan 1 (some .boolean)]
def wsX3_standsInQuarrel : List Cond := .code yX3_standsInQuarrel cX3_standsInQuarrel 2 (some .boolean) :: ((wsX3_standsInQuarrel_r1 ++ wsX3_standsInQuarrel_r2) ++ wsX30)
def wsX3_faultAsQuarrel_r1 : List Cond := [Cond.fieldLink RX3 15 "OneWorse$Pad" "size" "I", Cond.methodLink RX3 40 yX3_standsInQuarrel, Cond.instanceMethod yX3_standsInQuarrel, Cond.selects RX3 yX3_standsInQuarrel yX3_standsInQuarrel, Cond.initialized RX3, Cond.code yX3_standsInQuarrel cX3_standsInQuarrel 2 (some .boolean), Cond.methodLink RX3 37 yX3_insultAt, Cond.instanceMethod yX3_insultAt, Cond.selects RX3 yX3_insultAt yX3_insultAt, Cond.code yX3_insultAt cX3_insultAt 3 (some .int), Cond.methodLink RX3 23 yX3_signAt, Cond.instanceMethod yX3_signAt, Cond.selects RX3 yX3_signAt yX3_signAt, Cond.code yX3_signAt cX3_signAt 2 (some .int), Cond.fieldLink RX3 11 "OneWorse$Pad" "signs" "[I", Cond.static yX6_at, Cond.initialized RX6, Cond.code yX6_at cX6_at 2 (some .int), Cond.static yX6_isInsult, Cond.code yX6_isInsult cX6_isInsult 1 (some .boolean), Cond.methodLink RX6 59 yX6_within, Cond.static yX6_within, Cond.code yX6_within cX6_within 3 (some .boolean), Cond.methodLink RX3 43 yX3_manAt]
def wsX3_faultAsQuarrel_r2 : List Cond := [Cond.instanceMethod yX3_manAt, Cond.selects RX3 yX3_manAt yX3_manAt, Cond.code yX3_manAt cX3_manAt 3 (some .int), Cond.static yX6_isMan, Cond.code yX6_isMan cX6_isMan 1 (some .boolean)]
def wsX3_faultAsQuarrel : List Cond := .code yX3_faultAsQuarrel cX3_faultAsQuarrel 2 (some .int) :: ((wsX3_faultAsQuarrel_r1 ++ wsX3_faultAsQuarrel_r2) ++ wsX30)
def wsX4_init : List Cond := .code yX4_init cX4_init 2 none :: ([.methodLink RX4 3 objectInit, .instanceMethod objectInit, .code objectInit ⟨#[0xb1]⟩ 1 none, .arrayClass .int, .fieldLink RX4 9 "OneWorse$Town" "worse" "[I", .fieldLink RX4 15 "OneWorse$Town" "needed" "[I", .fieldLink RX4 18 "OneWorse$Town" "traits" "[I", .fieldLink RX4 21 "OneWorse$Town" "known" "[I", .fieldLink RX4 24 "OneWorse$Town" "kept" "Z"] ++ wsX40)
def wsX4_setStep : List Cond := .code yX4_setStep cX4_setStep 5 none :: ([.fieldLink RX4 9 "OneWorse$Town" "worse" "[I", .static yX6_isInsult, .initialized RX6, .code yX6_isInsult cX6_isInsult 1 (some .boolean), .methodLink RX6 59 yX6_within, .static yX6_within, .code yX6_within cX6_within 3 (some .boolean), .methodLink RX4 36 yX4_worseThan, .instanceMethod yX4_worseThan, .selects RX4 yX4_worseThan yX4_worseThan, .initialized RX4, .code yX4_worseThan cX4_worseThan 2 (some .int), .static yX6_at, .code yX6_at cX6_at 2 (some .int), .static yX6_store, .code yX6_store cX6_store 3 none] ++ wsX40)
def wsX4_setNeeded : List Cond := .code yX4_setNeeded cX4_setNeeded 3 none :: ([.fieldLink RX4 15 "OneWorse$Town" "needed" "[I", .static yX6_store, .initialized RX6, .code yX6_store cX6_store 3 none] ++ wsX40)
def wsX4_setTraits : List Cond := .code yX4_setTraits cX4_setTraits 3 none :: ([.fieldLink RX4 18 "OneWorse$Town" "traits" "[I", .static yX6_store, .initialized RX6, .code yX6_store cX6_store 3 none] ++ wsX40)
def wsX4_setKnown : List Cond := .code yX4_setKnown cX4_setKnown 3 none :: ([.fieldLink RX4 21 "OneWorse$Town" "known" "[I", .static yX6_store, .initialized RX6, .code yX6_store cX6_store 3 none] ++ wsX40)
def wsX4_sayable : List Cond := .code yX4_sayable cX4_sayable 3 (some .int) :: ([.methodLink RX4 50 yX4_knownTo, .instanceMethod yX4_knownTo, .selects RX4 yX4_knownTo yX4_knownTo, .initialized RX4, .code yX4_knownTo cX4_knownTo 2 (some .int), .fieldLink RX4 21 "OneWorse$Town" "known" "[I", .static yX6_at, .initialized RX6, .code yX6_at cX6_at 2 (some .int), .methodLink RX4 53 yX4_fitting, .instanceMethod yX4_fitting, .selects RX4 yX4_fitting yX4_fitting, .code yX4_fitting cX4_fitting 5 (some .int), .methodLink RX4 44 yX4_traitsOf, .instanceMethod yX4_traitsOf, .selects RX4 yX4_traitsOf yX4_traitsOf, .code yX4_traitsOf cX4_traitsOf 2 (some .int), .fieldLink RX4 18 "OneWorse$Town" "traits" "[I", .methodLink RX4 47 yX4_neededBy, .instanceMethod yX4_neededBy, .selects RX4 yX4_neededBy yX4_neededBy, .code yX4_neededBy cX4_neededBy 2 (some .int), .fieldLink RX4 15 "OneWorse$Town" "needed" "[I"] ++ wsX40)
def wsX4_countSteps : List Cond := .code yX4_countSteps cX4_countSteps 3 (some .int) :: ([.methodLink RX4 36 yX4_worseThan, .instanceMethod yX4_worseThan, .selects RX4 yX4_worseThan yX4_worseThan, .initialized RX4, .code yX4_worseThan cX4_worseThan 2 (some .int), .fieldLink RX4 9 "OneWorse$Town" "worse" "[I", .static yX6_at, .initialized RX6, .code yX6_at cX6_at 2 (some .int), .methodLink RX4 56 yJ6_bitCount_0f7a4, .static yJ6_bitCount_0f7a4, .initialized RJ6, .code yJ6_bitCount_0f7a4 cJ6_bitCount_0f7a4 1 (some .int), .constant RJ6 265 (1431655765), .constant RJ6 266 (858993459), .constant RJ6 267 (252645135)] ++ wsX40)
def wsX4_addSteps : List Cond := .code yX4_addSteps cX4_addSteps 3 none :: ([.fieldLink RX4 9 "OneWorse$Town" "worse" "[I", .methodLink RX4 36 yX4_worseThan, .instanceMethod yX4_worseThan, .selects RX4 yX4_worseThan yX4_worseThan, .initialized RX4, .code yX4_worseThan cX4_worseThan 2 (some .int), .static yX6_at, .initialized RX6, .code yX6_at cX6_at 2 (some .int), .static yX6_store, .code yX6_store cX6_store 3 none] ++ wsX40)
def wsX4_copy_r1 : List Cond := [Cond.fieldLink RX4 9 "OneWorse$Town" "worse" "[I", Cond.fieldLink RX4 15 "OneWorse$Town" "needed" "[I", Cond.fieldLink RX4 18 "OneWorse$Town" "traits" "[I", Cond.fieldLink RX4 21 "OneWorse$Town" "known" "[I", Cond.fieldLink RX4 24 "OneWorse$Town" "kept" "Z", Cond.methodLink RX4 36 yX4_worseThan, Cond.instanceMethod yX4_worseThan, Cond.selects RX4 yX4_worseThan yX4_worseThan, Cond.initialized RX4, Cond.code yX4_worseThan cX4_worseThan 2 (some .int), Cond.static yX6_at, Cond.initialized RX6, Cond.code yX6_at cX6_at 2 (some .int), Cond.static yX6_store, Cond.code yX6_store cX6_store 3 none, Cond.methodLink RX4 47 yX4_neededBy, Cond.instanceMethod yX4_neededBy, Cond.selects RX4 yX4_neededBy yX4_neededBy, Cond.code yX4_neededBy cX4_neededBy 2 (some .int), Cond.methodLink RX4 44 yX4_traitsOf, Cond.instanceMethod yX4_traitsOf, Cond.selects RX4 yX4_traitsOf yX4_traitsOf, Cond.code yX4_traitsOf cX4_traitsOf 2 (some .int), Cond.methodLink RX4 50 yX4_knownTo]
def wsX4_copy_r2 : List Cond := [Cond.instanceMethod yX4_knownTo, Cond.selects RX4 yX4_knownTo yX4_knownTo, Cond.code yX4_knownTo cX4_knownTo 2 (some .int)]
def wsX4_copy : List Cond := .code yX4_copy cX4_copy 3 none :: ((wsX4_copy_r1 ++ wsX4_copy_r2) ++ wsX40)
def wsX4_isKept : List Cond := .code yX4_isKept cX4_isKept 1 (some .boolean) :: ([.fieldLink RX4 24 "OneWorse$Town" "kept" "Z"] ++ wsX40)
def wsX5_init : List Cond := .code yX5_init cX5_init 2 none :: ([.methodLink RX5 3 objectInit, .instanceMethod objectInit, .code objectInit ⟨#[0xb1]⟩ 1 none, .fieldLink RX5 9 "OneWorse$Ways" "goal" "I", .fieldLink RX5 15 "OneWorse$Ways" "asked" "I", .fieldLink RX5 18 "OneWorse$Ways" "count" "I", .fieldLink RX5 21 "OneWorse$Ways" "wanted" "I", .fieldLink RX5 24 "OneWorse$Ways" "town" "LOneWorse$Town;"] ++ wsX50)
def wsX5_walk : List Cond := .code yX5_walk cX5_walk 6 none :: ([.fieldLink RX5 24 "OneWorse$Ways" "town" "LOneWorse$Town;", .fieldLink RX5 9 "OneWorse$Ways" "goal" "I", .fieldLink RX5 18 "OneWorse$Ways" "count" "I", .fieldLink RX5 15 "OneWorse$Ways" "asked" "I", .fieldLink RX5 21 "OneWorse$Ways" "wanted" "I", .instanceMethod yX4_worseThan, .initialized RX4, .selects RX4 yX4_worseThan yX4_worseThan, .code yX4_worseThan cX4_worseThan 2 (some .int), .fieldLink RX4 9 "OneWorse$Town" "worse" "[I", .static yX6_at, .initialized RX6, .code yX6_at cX6_at 2 (some .int), .static yX6_has, .code yX6_has cX6_has 2 (some .boolean), .methodLink RX5 28 yX5_walk, .instanceMethod yX5_walk, .selects RX5 yX5_walk yX5_walk, .initialized RX5] ++ wsX50 ++ wsX40)
def wsX5_search : List Cond := .code yX5_search cX5_search 5 none :: ([.fieldLink RX5 9 "OneWorse$Ways" "goal" "I", .fieldLink RX5 15 "OneWorse$Ways" "asked" "I", .fieldLink RX5 18 "OneWorse$Ways" "count" "I", .fieldLink RX5 21 "OneWorse$Ways" "wanted" "I", .methodLink RX5 28 yX5_walk, .instanceMethod yX5_walk, .selects RX5 yX5_walk yX5_walk, .initialized RX5, .code yX5_walk cX5_walk 6 none, .fieldLink RX5 24 "OneWorse$Ways" "town" "LOneWorse$Town;", .instanceMethod yX4_worseThan, .initialized RX4, .selects RX4 yX4_worseThan yX4_worseThan, .code yX4_worseThan cX4_worseThan 2 (some .int), .fieldLink RX4 9 "OneWorse$Town" "worse" "[I", .static yX6_at, .initialized RX6, .code yX6_at cX6_at 2 (some .int), .static yX6_has, .code yX6_has cX6_has 2 (some .boolean)] ++ wsX50 ++ wsX40)
def wsX5_count : List Cond := .code yX5_count cX5_count 1 (some .int) :: ([.fieldLink RX5 18 "OneWorse$Ways" "count" "I"] ++ wsX50)
def wsX5_wanted : List Cond := .code yX5_wanted cX5_wanted 1 (some .int) :: ([.fieldLink RX5 21 "OneWorse$Ways" "wanted" "I"] ++ wsX50)
def wsX6_init_r1 : List Cond := [Cond.methodLink RX6 1 objectInit, Cond.instanceMethod objectInit, Cond.code objectInit ⟨#[0xb1]⟩ 1 none, Cond.classLink RX6 7 RX3, Cond.instantiable RX3 2, Cond.initialized RX3, Cond.fieldLink RX6 10 "OneWorse" "pad" "LOneWorse$Pad;", Cond.classLink RX6 16 RX4, Cond.instantiable RX4 5, Cond.initialized RX4, Cond.fieldLink RX6 19 "OneWorse" "town" "LOneWorse$Town;", Cond.fieldLink RX6 23 "OneWorse" "firstImage" "LOneWorse$Town;", Cond.fieldLink RX6 26 "OneWorse" "secondImage" "LOneWorse$Town;", Cond.classLink RX6 29 RX0, Cond.instantiable RX0 7, Cond.initialized RX0, Cond.fieldLink RX6 34 "OneWorse" "contest" "LOneWorse$Contest;", Cond.classLink RX6 38 RX1, Cond.instantiable RX1 5, Cond.initialized RX1, Cond.fieldLink RX6 41 "OneWorse" "company" "LOneWorse$Crowd;", Cond.classLink RX6 45 RX2, Cond.instantiable RX2 6, Cond.initialized RX2]
def wsX6_init_r2 : List Cond := [Cond.fieldLink RX6 48 "OneWorse" "order" "LOneWorse$Order;", Cond.classLink RX6 52 RX5, Cond.instantiable RX5 5, Cond.initialized RX5, Cond.fieldLink RX6 55 "OneWorse" "ways" "LOneWorse$Ways;", Cond.instanceMethod yX3_init, Cond.code yX3_init cX3_init 1 none, Cond.methodLink RX3 3 objectInit, Cond.arrayClass .int, Cond.fieldLink RX3 11 "OneWorse$Pad" "signs" "[I", Cond.fieldLink RX3 15 "OneWorse$Pad" "size" "I", Cond.instanceMethod yX4_init, Cond.code yX4_init cX4_init 2 none, Cond.methodLink RX4 3 objectInit, Cond.fieldLink RX4 9 "OneWorse$Town" "worse" "[I", Cond.fieldLink RX4 15 "OneWorse$Town" "needed" "[I", Cond.fieldLink RX4 18 "OneWorse$Town" "traits" "[I", Cond.fieldLink RX4 21 "OneWorse$Town" "known" "[I", Cond.fieldLink RX4 24 "OneWorse$Town" "kept" "Z", Cond.instanceMethod yX0_init, Cond.code yX0_init cX0_init 2 none, Cond.methodLink RX0 3 objectInit, Cond.fieldLink RX0 9 "OneWorse$Contest" "memo" "[I", Cond.fieldLink RX0 15 "OneWorse$Contest" "run" "I"]
def wsX6_init_r3 : List Cond := [Cond.fieldLink RX0 19 "OneWorse$Contest" "spinning" "Z", Cond.fieldLink RX0 23 "OneWorse$Contest" "enough" "I", Cond.fieldLink RX0 26 "OneWorse$Contest" "score" "I", Cond.fieldLink RX0 29 "OneWorse$Contest" "chosen" "I", Cond.fieldLink RX0 32 "OneWorse$Contest" "town" "LOneWorse$Town;", Cond.instanceMethod yX1_init, Cond.code yX1_init cX1_init 2 none, Cond.methodLink RX1 3 objectInit, Cond.fieldLink RX1 9 "OneWorse$Crowd" "fitting" "[I", Cond.fieldLink RX1 15 "OneWorse$Crowd" "hope" "[I", Cond.arrayClass .boolean, Cond.fieldLink RX1 18 "OneWorse$Crowd" "able" "[Z", Cond.fieldLink RX1 22 "OneWorse$Crowd" "fewest" "[I", Cond.fieldLink RX1 25 "OneWorse$Crowd" "town" "LOneWorse$Town;", Cond.instanceMethod yX2_init, Cond.code yX2_init cX2_init 2 none, Cond.methodLink RX2 3 objectInit, Cond.fieldLink RX2 9 "OneWorse$Order" "reached" "[I", Cond.fieldLink RX2 15 "OneWorse$Order" "back" "[I", Cond.fieldLink RX2 18 "OneWorse$Order" "rank" "[I", Cond.fieldLink RX2 21 "OneWorse$Order" "arranged" "[I", Cond.fieldLink RX2 24 "OneWorse$Order" "isArranged" "Z", Cond.fieldLink RX2 28 "OneWorse$Order" "town" "LOneWorse$Town;", Cond.instanceMethod yX5_init]
def wsX6_init_r4 : List Cond := [Cond.code yX5_init cX5_init 2 none, Cond.methodLink RX5 3 objectInit, Cond.fieldLink RX5 9 "OneWorse$Ways" "goal" "I", Cond.fieldLink RX5 15 "OneWorse$Ways" "asked" "I", Cond.fieldLink RX5 18 "OneWorse$Ways" "count" "I", Cond.fieldLink RX5 21 "OneWorse$Ways" "wanted" "I", Cond.fieldLink RX5 24 "OneWorse$Ways" "town" "LOneWorse$Town;"]
def wsX6_init : List Cond := .code yX6_init cX6_init 1 none :: ((wsX6_init_r1 ++ (wsX6_init_r2 ++ (wsX6_init_r3 ++ wsX6_init_r4))) ++ wsX30 ++ wsX60 ++ wsX40 ++ wsX00 ++ wsX10 ++ wsX20 ++ wsX50)
def wsX6_say : List Cond := .code yX6_say cX6_say 2 (some .int) :: ([.fieldLink RX6 10 "OneWorse" "pad" "LOneWorse$Pad;", .methodLink RX6 59 yX6_within, .static yX6_within, .initialized RX6, .code yX6_within cX6_within 3 (some .boolean), .instanceMethod yX3_isFull, .initialized RX3, .selects RX3 yX3_isFull yX3_isFull, .code yX3_isFull cX3_isFull 1 (some .boolean), .fieldLink RX3 15 "OneWorse$Pad" "size" "I", .instanceMethod yX3_put, .selects RX3 yX3_put yX3_put, .code yX3_put cX3_put 2 none, .fieldLink RX3 11 "OneWorse$Pad" "signs" "[I", .instanceMethod yX3_size, .selects RX3 yX3_size yX3_size, .code yX3_size cX3_size 1 (some .int)] ++ wsX60 ++ wsX30)
def wsX6_wipe : List Cond := .code yX6_wipe cX6_wipe 2 (some .int) :: ([.fieldLink RX6 10 "OneWorse" "pad" "LOneWorse$Pad;", .instanceMethod yX3_size, .initialized RX3, .selects RX3 yX3_size yX3_size, .code yX3_size cX3_size 1 (some .int), .fieldLink RX3 15 "OneWorse$Pad" "size" "I", .instanceMethod yX3_clear, .selects RX3 yX3_clear yX3_clear, .code yX3_clear cX3_clear 1 none] ++ wsX60 ++ wsX30)
def wsX6_fault_r1 : List Cond := [Cond.fieldLink RX6 10 "OneWorse" "pad" "LOneWorse$Pad;", Cond.methodLink RX6 59 yX6_within, Cond.static yX6_within, Cond.initialized RX6, Cond.code yX6_within cX6_within 3 (some .boolean), Cond.instanceMethod yX3_faultAsSteps, Cond.initialized RX3, Cond.selects RX3 yX3_faultAsSteps yX3_faultAsSteps, Cond.code yX3_faultAsSteps cX3_faultAsSteps 2 (some .int), Cond.fieldLink RX3 15 "OneWorse$Pad" "size" "I", Cond.methodLink RX3 34 yX3_standsInSteps, Cond.instanceMethod yX3_standsInSteps, Cond.selects RX3 yX3_standsInSteps yX3_standsInSteps, Cond.code yX3_standsInSteps cX3_standsInSteps 4 (some .boolean), Cond.methodLink RX3 37 yX3_insultAt, Cond.instanceMethod yX3_insultAt, Cond.selects RX3 yX3_insultAt yX3_insultAt, Cond.code yX3_insultAt cX3_insultAt 3 (some .int), Cond.methodLink RX3 23 yX3_signAt, Cond.instanceMethod yX3_signAt, Cond.selects RX3 yX3_signAt yX3_signAt, Cond.code yX3_signAt cX3_signAt 2 (some .int), Cond.fieldLink RX3 11 "OneWorse$Pad" "signs" "[I", Cond.static yX6_at]
def wsX6_fault_r2 : List Cond := [Cond.code yX6_at cX6_at 2 (some .int), Cond.static yX6_isInsult, Cond.code yX6_isInsult cX6_isInsult 1 (some .boolean), Cond.instanceMethod yX3_faultAsQuarrel, Cond.selects RX3 yX3_faultAsQuarrel yX3_faultAsQuarrel, Cond.code yX3_faultAsQuarrel cX3_faultAsQuarrel 2 (some .int), Cond.methodLink RX3 40 yX3_standsInQuarrel, Cond.instanceMethod yX3_standsInQuarrel, Cond.selects RX3 yX3_standsInQuarrel yX3_standsInQuarrel, Cond.code yX3_standsInQuarrel cX3_standsInQuarrel 2 (some .boolean), Cond.methodLink RX3 43 yX3_manAt, Cond.instanceMethod yX3_manAt, Cond.selects RX3 yX3_manAt yX3_manAt, Cond.code yX3_manAt cX3_manAt 3 (some .int), Cond.static yX6_isMan, Cond.code yX6_isMan cX6_isMan 1 (some .boolean)]
def wsX6_fault : List Cond := .code yX6_fault cX6_fault 2 (some .int) :: ((wsX6_fault_r1 ++ wsX6_fault_r2) ++ wsX60 ++ wsX30)
def wsX6_steps_r1 : List Cond := [Cond.fieldLink RX6 10 "OneWorse" "pad" "LOneWorse$Pad;", Cond.fieldLink RX6 19 "OneWorse" "town" "LOneWorse$Town;", Cond.instanceMethod yX3_faultAsSteps, Cond.initialized RX3, Cond.selects RX3 yX3_faultAsSteps yX3_faultAsSteps, Cond.code yX3_faultAsSteps cX3_faultAsSteps 2 (some .int), Cond.fieldLink RX3 15 "OneWorse$Pad" "size" "I", Cond.methodLink RX3 34 yX3_standsInSteps, Cond.instanceMethod yX3_standsInSteps, Cond.selects RX3 yX3_standsInSteps yX3_standsInSteps, Cond.code yX3_standsInSteps cX3_standsInSteps 4 (some .boolean), Cond.methodLink RX3 37 yX3_insultAt, Cond.instanceMethod yX3_insultAt, Cond.selects RX3 yX3_insultAt yX3_insultAt, Cond.code yX3_insultAt cX3_insultAt 3 (some .int), Cond.methodLink RX3 23 yX3_signAt, Cond.instanceMethod yX3_signAt, Cond.selects RX3 yX3_signAt yX3_signAt, Cond.code yX3_signAt cX3_signAt 2 (some .int), Cond.fieldLink RX3 11 "OneWorse$Pad" "signs" "[I", Cond.static yX6_at, Cond.initialized RX6, Cond.code yX6_at cX6_at 2 (some .int), Cond.static yX6_isInsult]
def wsX6_steps_r2 : List Cond := [Cond.code yX6_isInsult cX6_isInsult 1 (some .boolean), Cond.methodLink RX6 59 yX6_within, Cond.static yX6_within, Cond.code yX6_within cX6_within 3 (some .boolean), Cond.instanceMethod yX3_size, Cond.selects RX3 yX3_size yX3_size, Cond.code yX3_size cX3_size 1 (some .int), Cond.instanceMethod yX4_setStep, Cond.initialized RX4, Cond.selects RX4 yX4_setStep yX4_setStep, Cond.code yX4_setStep cX4_setStep 5 none, Cond.fieldLink RX4 9 "OneWorse$Town" "worse" "[I", Cond.methodLink RX4 36 yX4_worseThan, Cond.instanceMethod yX4_worseThan, Cond.selects RX4 yX4_worseThan yX4_worseThan, Cond.code yX4_worseThan cX4_worseThan 2 (some .int), Cond.static yX6_store, Cond.code yX6_store cX6_store 3 none, Cond.instanceMethod yX3_clear, Cond.selects RX3 yX3_clear yX3_clear, Cond.code yX3_clear cX3_clear 1 none, Cond.instanceMethod yX4_countSteps, Cond.selects RX4 yX4_countSteps yX4_countSteps, Cond.code yX4_countSteps cX4_countSteps 3 (some .int)]
def wsX6_steps_r3 : List Cond := [Cond.methodLink RX4 56 yJ6_bitCount_0f7a4, Cond.static yJ6_bitCount_0f7a4, Cond.initialized RJ6, Cond.code yJ6_bitCount_0f7a4 cJ6_bitCount_0f7a4 1 (some .int), Cond.constant RJ6 265 (1431655765), Cond.constant RJ6 266 (858993459), Cond.constant RJ6 267 (252645135)]
def wsX6_steps : List Cond := .code yX6_steps cX6_steps 2 (some .int) :: ((wsX6_steps_r1 ++ (wsX6_steps_r2 ++ wsX6_steps_r3)) ++ wsX60 ++ wsX30 ++ wsX40)
def wsX6_step : List Cond := .code yX6_step cX6_step 5 (some .int) :: ([.fieldLink RX6 19 "OneWorse" "town" "LOneWorse$Town;", .methodLink RX6 98 yX6_isInsult, .static yX6_isInsult, .initialized RX6, .code yX6_isInsult cX6_isInsult 1 (some .boolean), .methodLink RX6 59 yX6_within, .static yX6_within, .code yX6_within cX6_within 3 (some .boolean), .instanceMethod yX4_worseThan, .initialized RX4, .selects RX4 yX4_worseThan yX4_worseThan, .code yX4_worseThan cX4_worseThan 2 (some .int), .fieldLink RX4 9 "OneWorse$Town" "worse" "[I", .static yX6_at, .code yX6_at cX6_at 2 (some .int), .methodLink RX6 105 yX6_has, .static yX6_has, .code yX6_has cX6_has 2 (some .boolean), .instanceMethod yX4_setStep, .selects RX4 yX4_setStep yX4_setStep, .code yX4_setStep cX4_setStep 5 none, .methodLink RX4 36 yX4_worseThan, .static yX6_store, .code yX6_store cX6_store 3 none] ++ wsX60 ++ wsX40)
def wsX6_needs : List Cond := .code yX6_needs cX6_needs 4 (some .int) :: ([.fieldLink RX6 19 "OneWorse" "town" "LOneWorse$Town;", .methodLink RX6 98 yX6_isInsult, .static yX6_isInsult, .initialized RX6, .code yX6_isInsult cX6_isInsult 1 (some .boolean), .methodLink RX6 59 yX6_within, .static yX6_within, .code yX6_within cX6_within 3 (some .boolean), .instanceMethod yX4_neededBy, .initialized RX4, .selects RX4 yX4_neededBy yX4_neededBy, .code yX4_neededBy cX4_neededBy 2 (some .int), .fieldLink RX4 15 "OneWorse$Town" "needed" "[I", .static yX6_at, .code yX6_at cX6_at 2 (some .int), .instanceMethod yX4_setNeeded, .selects RX4 yX4_setNeeded yX4_setNeeded, .code yX4_setNeeded cX4_setNeeded 3 none, .static yX6_store, .code yX6_store cX6_store 3 none] ++ wsX60 ++ wsX40)
def wsX6_man_r1 : List Cond := [Cond.fieldLink RX6 19 "OneWorse" "town" "LOneWorse$Town;", Cond.methodLink RX6 116 yX6_isMan, Cond.static yX6_isMan, Cond.initialized RX6, Cond.code yX6_isMan cX6_isMan 1 (some .boolean), Cond.methodLink RX6 59 yX6_within, Cond.static yX6_within, Cond.code yX6_within cX6_within 3 (some .boolean), Cond.instanceMethod yX4_traitsOf, Cond.initialized RX4, Cond.selects RX4 yX4_traitsOf yX4_traitsOf, Cond.code yX4_traitsOf cX4_traitsOf 2 (some .int), Cond.fieldLink RX4 18 "OneWorse$Town" "traits" "[I", Cond.static yX6_at, Cond.code yX6_at cX6_at 2 (some .int), Cond.instanceMethod yX4_setTraits, Cond.selects RX4 yX4_setTraits yX4_setTraits, Cond.code yX4_setTraits cX4_setTraits 3 none, Cond.static yX6_store, Cond.code yX6_store cX6_store 3 none, Cond.instanceMethod yX4_knownTo, Cond.selects RX4 yX4_knownTo yX4_knownTo, Cond.code yX4_knownTo cX4_knownTo 2 (some .int), Cond.fieldLink RX4 21 "OneWorse$Town" "known" "[I"]
def wsX6_man_r2 : List Cond := [Cond.instanceMethod yX4_setKnown, Cond.selects RX4 yX4_setKnown yX4_setKnown, Cond.code yX4_setKnown cX4_setKnown 3 none]
def wsX6_man : List Cond := .code yX6_man cX6_man 5 (some .int) :: ((wsX6_man_r1 ++ wsX6_man_r2) ++ wsX60 ++ wsX40)
def wsX6_fit : List Cond := .code yX6_fit cX6_fit 2 (some .int) :: ([.fieldLink RX6 19 "OneWorse" "town" "LOneWorse$Town;", .methodLink RX6 116 yX6_isMan, .static yX6_isMan, .initialized RX6, .code yX6_isMan cX6_isMan 1 (some .boolean), .methodLink RX6 59 yX6_within, .static yX6_within, .code yX6_within cX6_within 3 (some .boolean), .instanceMethod yX4_fitting, .initialized RX4, .selects RX4 yX4_fitting yX4_fitting, .code yX4_fitting cX4_fitting 5 (some .int), .methodLink RX4 44 yX4_traitsOf, .instanceMethod yX4_traitsOf, .selects RX4 yX4_traitsOf yX4_traitsOf, .code yX4_traitsOf cX4_traitsOf 2 (some .int), .fieldLink RX4 18 "OneWorse$Town" "traits" "[I", .static yX6_at, .code yX6_at cX6_at 2 (some .int), .methodLink RX4 47 yX4_neededBy, .instanceMethod yX4_neededBy, .selects RX4 yX4_neededBy yX4_neededBy, .code yX4_neededBy cX4_neededBy 2 (some .int), .fieldLink RX4 15 "OneWorse$Town" "needed" "[I"] ++ wsX60 ++ wsX40)
def wsX6_whyNone_r1 : List Cond := [Cond.fieldLink RX6 10 "OneWorse" "pad" "LOneWorse$Pad;", Cond.fieldLink RX6 19 "OneWorse" "town" "LOneWorse$Town;", Cond.instanceMethod yX3_manAt, Cond.initialized RX3, Cond.selects RX3 yX3_manAt yX3_manAt, Cond.code yX3_manAt cX3_manAt 3 (some .int), Cond.methodLink RX3 23 yX3_signAt, Cond.instanceMethod yX3_signAt, Cond.selects RX3 yX3_signAt yX3_signAt, Cond.code yX3_signAt cX3_signAt 2 (some .int), Cond.fieldLink RX3 15 "OneWorse$Pad" "size" "I", Cond.fieldLink RX3 11 "OneWorse$Pad" "signs" "[I", Cond.static yX6_at, Cond.initialized RX6, Cond.code yX6_at cX6_at 2 (some .int), Cond.static yX6_isMan, Cond.code yX6_isMan cX6_isMan 1 (some .boolean), Cond.methodLink RX6 59 yX6_within, Cond.static yX6_within, Cond.code yX6_within cX6_within 3 (some .boolean), Cond.instanceMethod yX3_insultAt, Cond.selects RX3 yX3_insultAt yX3_insultAt, Cond.code yX3_insultAt cX3_insultAt 3 (some .int), Cond.static yX6_isInsult]
def wsX6_whyNone_r2 : List Cond := [Cond.code yX6_isInsult cX6_isInsult 1 (some .boolean), Cond.instanceMethod yX4_worseThan, Cond.initialized RX4, Cond.selects RX4 yX4_worseThan yX4_worseThan, Cond.code yX4_worseThan cX4_worseThan 2 (some .int), Cond.fieldLink RX4 9 "OneWorse$Town" "worse" "[I", Cond.methodLink RX6 105 yX6_has, Cond.static yX6_has, Cond.code yX6_has cX6_has 2 (some .boolean), Cond.methodLink RX6 116 yX6_isMan, Cond.instanceMethod yX4_fitting, Cond.selects RX4 yX4_fitting yX4_fitting, Cond.code yX4_fitting cX4_fitting 5 (some .int), Cond.methodLink RX4 44 yX4_traitsOf, Cond.instanceMethod yX4_traitsOf, Cond.selects RX4 yX4_traitsOf yX4_traitsOf, Cond.code yX4_traitsOf cX4_traitsOf 2 (some .int), Cond.fieldLink RX4 18 "OneWorse$Town" "traits" "[I", Cond.methodLink RX4 47 yX4_neededBy, Cond.instanceMethod yX4_neededBy, Cond.selects RX4 yX4_neededBy yX4_neededBy, Cond.code yX4_neededBy cX4_neededBy 2 (some .int), Cond.fieldLink RX4 15 "OneWorse$Town" "needed" "[I", Cond.instanceMethod yX4_knownTo]
def wsX6_whyNone_r3 : List Cond := [Cond.selects RX4 yX4_knownTo yX4_knownTo, Cond.code yX4_knownTo cX4_knownTo 2 (some .int), Cond.fieldLink RX4 21 "OneWorse$Town" "known" "[I"]
def wsX6_whyNone : List Cond := .code yX6_whyNone cX6_whyNone 5 (some .int) :: ((wsX6_whyNone_r1 ++ (wsX6_whyNone_r2 ++ wsX6_whyNone_r3)) ++ wsX60 ++ wsX30 ++ wsX40)
def wsX6_judge_r1 : List Cond := [Cond.fieldLink RX6 10 "OneWorse" "pad" "LOneWorse$Pad;", Cond.methodLink RX6 59 yX6_within, Cond.static yX6_within, Cond.initialized RX6, Cond.code yX6_within cX6_within 3 (some .boolean), Cond.instanceMethod yX3_faultAsQuarrel, Cond.initialized RX3, Cond.selects RX3 yX3_faultAsQuarrel yX3_faultAsQuarrel, Cond.code yX3_faultAsQuarrel cX3_faultAsQuarrel 2 (some .int), Cond.fieldLink RX3 15 "OneWorse$Pad" "size" "I", Cond.methodLink RX3 40 yX3_standsInQuarrel, Cond.instanceMethod yX3_standsInQuarrel, Cond.selects RX3 yX3_standsInQuarrel yX3_standsInQuarrel, Cond.code yX3_standsInQuarrel cX3_standsInQuarrel 2 (some .boolean), Cond.methodLink RX3 37 yX3_insultAt, Cond.instanceMethod yX3_insultAt, Cond.selects RX3 yX3_insultAt yX3_insultAt, Cond.code yX3_insultAt cX3_insultAt 3 (some .int), Cond.methodLink RX3 23 yX3_signAt, Cond.instanceMethod yX3_signAt, Cond.selects RX3 yX3_signAt yX3_signAt, Cond.code yX3_signAt cX3_signAt 2 (some .int), Cond.fieldLink RX3 11 "OneWorse$Pad" "signs" "[I", Cond.static yX6_at]
def wsX6_judge_r2 : List Cond := [Cond.code yX6_at cX6_at 2 (some .int), Cond.static yX6_isInsult, Cond.code yX6_isInsult cX6_isInsult 1 (some .boolean), Cond.methodLink RX3 43 yX3_manAt, Cond.instanceMethod yX3_manAt, Cond.selects RX3 yX3_manAt yX3_manAt, Cond.code yX3_manAt cX3_manAt 3 (some .int), Cond.static yX6_isMan, Cond.code yX6_isMan cX6_isMan 1 (some .boolean), Cond.instanceMethod yX3_size, Cond.selects RX3 yX3_size yX3_size, Cond.code yX3_size cX3_size 1 (some .int), Cond.methodLink RX6 134 yX6_whyNone, Cond.instanceMethod yX6_whyNone, Cond.selects RX6 yX6_whyNone yX6_whyNone, Cond.code yX6_whyNone cX6_whyNone 5 (some .int), Cond.fieldLink RX6 19 "OneWorse" "town" "LOneWorse$Town;", Cond.instanceMethod yX4_worseThan, Cond.initialized RX4, Cond.selects RX4 yX4_worseThan yX4_worseThan, Cond.code yX4_worseThan cX4_worseThan 2 (some .int), Cond.fieldLink RX4 9 "OneWorse$Town" "worse" "[I", Cond.methodLink RX6 105 yX6_has, Cond.static yX6_has]
def wsX6_judge_r3 : List Cond := [Cond.code yX6_has cX6_has 2 (some .boolean), Cond.methodLink RX6 116 yX6_isMan, Cond.instanceMethod yX4_fitting, Cond.selects RX4 yX4_fitting yX4_fitting, Cond.code yX4_fitting cX4_fitting 5 (some .int), Cond.methodLink RX4 44 yX4_traitsOf, Cond.instanceMethod yX4_traitsOf, Cond.selects RX4 yX4_traitsOf yX4_traitsOf, Cond.code yX4_traitsOf cX4_traitsOf 2 (some .int), Cond.fieldLink RX4 18 "OneWorse$Town" "traits" "[I", Cond.methodLink RX4 47 yX4_neededBy, Cond.instanceMethod yX4_neededBy, Cond.selects RX4 yX4_neededBy yX4_neededBy, Cond.code yX4_neededBy cX4_neededBy 2 (some .int), Cond.fieldLink RX4 15 "OneWorse$Town" "needed" "[I", Cond.instanceMethod yX4_knownTo, Cond.selects RX4 yX4_knownTo yX4_knownTo, Cond.code yX4_knownTo cX4_knownTo 2 (some .int), Cond.fieldLink RX4 21 "OneWorse$Town" "known" "[I"]
def wsX6_judge : List Cond := .code yX6_judge cX6_judge 5 (some .int) :: ((wsX6_judge_r1 ++ (wsX6_judge_r2 ++ wsX6_judge_r3)) ++ wsX60 ++ wsX30 ++ wsX40)
def wsX6_areTwo : List Cond := .code yX6_areTwo cX6_areTwo 2 (some .boolean) :: ([.methodLink RX6 116 yX6_isMan, .static yX6_isMan, .initialized RX6, .code yX6_isMan cX6_isMan 1 (some .boolean), .methodLink RX6 59 yX6_within, .static yX6_within, .code yX6_within cX6_within 3 (some .boolean)])
def wsX6_outcome : List Cond := .code yX6_outcome cX6_outcome 4 (some .int) :: ([.fieldLink RX6 34 "OneWorse" "contest" "LOneWorse$Contest;", .instanceMethod yX0_moverPays, .initialized RX0, .selects RX0 yX0_moverPays yX0_moverPays, .code yX0_moverPays cX0_moverPays 1 (some .boolean), .fieldLink RX0 26 "OneWorse$Contest" "score" "I", .instanceMethod yX0_howMany, .selects RX0 yX0_howMany yX0_howMany, .code yX0_howMany cX0_howMany 1 (some .int), .instanceMethod yX0_firstMove, .selects RX0 yX0_firstMove yX0_firstMove, .code yX0_firstMove cX0_firstMove 1 (some .int), .fieldLink RX0 29 "OneWorse$Contest" "chosen" "I"] ++ wsX60 ++ wsX00)
def wsX6_match_r1 : List Cond := [Cond.fieldLink RX6 19 "OneWorse" "town" "LOneWorse$Town;", Cond.fieldLink RX6 34 "OneWorse" "contest" "LOneWorse$Contest;", Cond.methodLink RX6 137 yX6_areTwo, Cond.static yX6_areTwo, Cond.initialized RX6, Cond.code yX6_areTwo cX6_areTwo 2 (some .boolean), Cond.methodLink RX6 116 yX6_isMan, Cond.static yX6_isMan, Cond.code yX6_isMan cX6_isMan 1 (some .boolean), Cond.methodLink RX6 59 yX6_within, Cond.static yX6_within, Cond.code yX6_within cX6_within 3 (some .boolean), Cond.instanceMethod yX4_sayable, Cond.initialized RX4, Cond.selects RX4 yX4_sayable yX4_sayable, Cond.code yX4_sayable cX4_sayable 3 (some .int), Cond.methodLink RX4 50 yX4_knownTo, Cond.instanceMethod yX4_knownTo, Cond.selects RX4 yX4_knownTo yX4_knownTo, Cond.code yX4_knownTo cX4_knownTo 2 (some .int), Cond.fieldLink RX4 21 "OneWorse$Town" "known" "[I", Cond.static yX6_at, Cond.code yX6_at cX6_at 2 (some .int), Cond.methodLink RX4 53 yX4_fitting]
def wsX6_match_r2 : List Cond := [Cond.instanceMethod yX4_fitting, Cond.selects RX4 yX4_fitting yX4_fitting, Cond.code yX4_fitting cX4_fitting 5 (some .int), Cond.methodLink RX4 44 yX4_traitsOf, Cond.instanceMethod yX4_traitsOf, Cond.selects RX4 yX4_traitsOf yX4_traitsOf, Cond.code yX4_traitsOf cX4_traitsOf 2 (some .int), Cond.fieldLink RX4 18 "OneWorse$Town" "traits" "[I", Cond.methodLink RX4 47 yX4_neededBy, Cond.instanceMethod yX4_neededBy, Cond.selects RX4 yX4_neededBy yX4_neededBy, Cond.code yX4_neededBy cX4_neededBy 2 (some .int), Cond.fieldLink RX4 15 "OneWorse$Town" "needed" "[I", Cond.instanceMethod yX0_fight, Cond.initialized RX0, Cond.selects RX0 yX0_fight yX0_fight, Cond.code yX0_fight cX0_fight 6 none, Cond.fieldLink RX0 19 "OneWorse$Contest" "spinning" "Z", Cond.fieldLink RX0 23 "OneWorse$Contest" "enough" "I", Cond.methodLink RX0 36 yX0_start, Cond.instanceMethod yX0_start, Cond.selects RX0 yX0_start yX0_start, Cond.code yX0_start cX0_start 5 none, Cond.fieldLink RX0 15 "OneWorse$Contest" "run" "I"]
def wsX6_match_r3 : List Cond := [Cond.fieldLink RX0 29 "OneWorse$Contest" "chosen" "I", Cond.fieldLink RX0 26 "OneWorse$Contest" "score" "I", Cond.methodLink RX0 40 yX0_best, Cond.instanceMethod yX0_best, Cond.selects RX0 yX0_best yX0_best, Cond.code yX0_best cX0_best 10 (some .int), Cond.methodLink RX0 44 yJ6_bitCount_0f7a4, Cond.static yJ6_bitCount_0f7a4, Cond.initialized RJ6, Cond.code yJ6_bitCount_0f7a4 cJ6_bitCount_0f7a4 1 (some .int), Cond.constant RJ6 265 (1431655765), Cond.constant RJ6 266 (858993459), Cond.constant RJ6 267 (252645135), Cond.static yX6_has, Cond.code yX6_has cX6_has 2 (some .boolean), Cond.methodLink RX0 54 yX0_afterwards, Cond.instanceMethod yX0_afterwards, Cond.selects RX0 yX0_afterwards yX0_afterwards, Cond.methodLink RX0 57 yX0_turned, Cond.instanceMethod yX0_turned, Cond.selects RX0 yX0_turned yX0_turned, Cond.code yX0_turned cX0_turned 2 (some .int), Cond.code yX0_afterwards cX0_afterwards 10 (some .int), Cond.fieldLink RX0 9 "OneWorse$Contest" "memo" "[I"]
def wsX6_match_r4 : List Cond := [Cond.fieldLink RX0 32 "OneWorse$Contest" "town" "LOneWorse$Town;", Cond.instanceMethod yX4_worseThan, Cond.selects RX4 yX4_worseThan yX4_worseThan, Cond.code yX4_worseThan cX4_worseThan 2 (some .int), Cond.fieldLink RX4 9 "OneWorse$Town" "worse" "[I", Cond.static yX6_store, Cond.code yX6_store cX6_store 3 none, Cond.methodLink RX6 148 yX6_outcome, Cond.instanceMethod yX6_outcome, Cond.selects RX6 yX6_outcome yX6_outcome, Cond.code yX6_outcome cX6_outcome 4 (some .int), Cond.instanceMethod yX0_moverPays, Cond.selects RX0 yX0_moverPays yX0_moverPays, Cond.code yX0_moverPays cX0_moverPays 1 (some .boolean), Cond.instanceMethod yX0_howMany, Cond.selects RX0 yX0_howMany yX0_howMany, Cond.code yX0_howMany cX0_howMany 1 (some .int), Cond.instanceMethod yX0_firstMove, Cond.selects RX0 yX0_firstMove yX0_firstMove, Cond.code yX0_firstMove cX0_firstMove 1 (some .int)]
def wsX6_match : List Cond := .code yX6_match cX6_match 5 (some .int) :: ((wsX6_match_r1 ++ (wsX6_match_r2 ++ (wsX6_match_r3 ++ wsX6_match_r4))) ++ wsX60 ++ wsX40 ++ wsX00)
def wsX6_middle_r1 : List Cond := [Cond.fieldLink RX6 19 "OneWorse" "town" "LOneWorse$Town;", Cond.fieldLink RX6 34 "OneWorse" "contest" "LOneWorse$Contest;", Cond.methodLink RX6 137 yX6_areTwo, Cond.static yX6_areTwo, Cond.initialized RX6, Cond.code yX6_areTwo cX6_areTwo 2 (some .boolean), Cond.methodLink RX6 116 yX6_isMan, Cond.static yX6_isMan, Cond.code yX6_isMan cX6_isMan 1 (some .boolean), Cond.methodLink RX6 59 yX6_within, Cond.static yX6_within, Cond.code yX6_within cX6_within 3 (some .boolean), Cond.methodLink RX6 98 yX6_isInsult, Cond.static yX6_isInsult, Cond.code yX6_isInsult cX6_isInsult 1 (some .boolean), Cond.methodLink RX6 105 yX6_has, Cond.static yX6_has, Cond.code yX6_has cX6_has 2 (some .boolean), Cond.instanceMethod yX4_sayable, Cond.initialized RX4, Cond.selects RX4 yX4_sayable yX4_sayable, Cond.code yX4_sayable cX4_sayable 3 (some .int), Cond.methodLink RX4 50 yX4_knownTo, Cond.instanceMethod yX4_knownTo]
def wsX6_middle_r2 : List Cond := [Cond.selects RX4 yX4_knownTo yX4_knownTo, Cond.code yX4_knownTo cX4_knownTo 2 (some .int), Cond.fieldLink RX4 21 "OneWorse$Town" "known" "[I", Cond.static yX6_at, Cond.code yX6_at cX6_at 2 (some .int), Cond.methodLink RX4 53 yX4_fitting, Cond.instanceMethod yX4_fitting, Cond.selects RX4 yX4_fitting yX4_fitting, Cond.code yX4_fitting cX4_fitting 5 (some .int), Cond.methodLink RX4 44 yX4_traitsOf, Cond.instanceMethod yX4_traitsOf, Cond.selects RX4 yX4_traitsOf yX4_traitsOf, Cond.code yX4_traitsOf cX4_traitsOf 2 (some .int), Cond.fieldLink RX4 18 "OneWorse$Town" "traits" "[I", Cond.methodLink RX4 47 yX4_neededBy, Cond.instanceMethod yX4_neededBy, Cond.selects RX4 yX4_neededBy yX4_neededBy, Cond.code yX4_neededBy cX4_neededBy 2 (some .int), Cond.fieldLink RX4 15 "OneWorse$Town" "needed" "[I", Cond.instanceMethod yX4_worseThan, Cond.selects RX4 yX4_worseThan yX4_worseThan, Cond.code yX4_worseThan cX4_worseThan 2 (some .int), Cond.fieldLink RX4 9 "OneWorse$Town" "worse" "[I", Cond.instanceMethod yX0_fight]
def wsX6_middle_r3 : List Cond := [Cond.initialized RX0, Cond.selects RX0 yX0_fight yX0_fight, Cond.code yX0_fight cX0_fight 6 none, Cond.fieldLink RX0 19 "OneWorse$Contest" "spinning" "Z", Cond.fieldLink RX0 23 "OneWorse$Contest" "enough" "I", Cond.methodLink RX0 36 yX0_start, Cond.instanceMethod yX0_start, Cond.selects RX0 yX0_start yX0_start, Cond.code yX0_start cX0_start 5 none, Cond.fieldLink RX0 15 "OneWorse$Contest" "run" "I", Cond.fieldLink RX0 29 "OneWorse$Contest" "chosen" "I", Cond.fieldLink RX0 26 "OneWorse$Contest" "score" "I", Cond.methodLink RX0 40 yX0_best, Cond.instanceMethod yX0_best, Cond.selects RX0 yX0_best yX0_best, Cond.code yX0_best cX0_best 10 (some .int), Cond.methodLink RX0 44 yJ6_bitCount_0f7a4, Cond.static yJ6_bitCount_0f7a4, Cond.initialized RJ6, Cond.code yJ6_bitCount_0f7a4 cJ6_bitCount_0f7a4 1 (some .int), Cond.constant RJ6 265 (1431655765), Cond.constant RJ6 266 (858993459), Cond.constant RJ6 267 (252645135), Cond.methodLink RX0 54 yX0_afterwards]
def wsX6_middle_r4 : List Cond := [Cond.instanceMethod yX0_afterwards, Cond.selects RX0 yX0_afterwards yX0_afterwards, Cond.methodLink RX0 57 yX0_turned, Cond.instanceMethod yX0_turned, Cond.selects RX0 yX0_turned yX0_turned, Cond.code yX0_turned cX0_turned 2 (some .int), Cond.code yX0_afterwards cX0_afterwards 10 (some .int), Cond.fieldLink RX0 9 "OneWorse$Contest" "memo" "[I", Cond.fieldLink RX0 32 "OneWorse$Contest" "town" "LOneWorse$Town;", Cond.static yX6_store, Cond.code yX6_store cX6_store 3 none, Cond.methodLink RX6 148 yX6_outcome, Cond.instanceMethod yX6_outcome, Cond.selects RX6 yX6_outcome yX6_outcome, Cond.code yX6_outcome cX6_outcome 4 (some .int), Cond.instanceMethod yX0_moverPays, Cond.selects RX0 yX0_moverPays yX0_moverPays, Cond.code yX0_moverPays cX0_moverPays 1 (some .boolean), Cond.instanceMethod yX0_howMany, Cond.selects RX0 yX0_howMany yX0_howMany, Cond.code yX0_howMany cX0_howMany 1 (some .int), Cond.instanceMethod yX0_firstMove, Cond.selects RX0 yX0_firstMove yX0_firstMove, Cond.code yX0_firstMove cX0_firstMove 1 (some .int)]
def wsX6_middle : List Cond := .code yX6_middle cX6_middle 8 (some .int) :: ((wsX6_middle_r1 ++ (wsX6_middle_r2 ++ (wsX6_middle_r3 ++ wsX6_middle_r4))) ++ wsX60 ++ wsX40 ++ wsX00)
def wsX6_last_r1 : List Cond := [Cond.fieldLink RX6 19 "OneWorse" "town" "LOneWorse$Town;", Cond.fieldLink RX6 34 "OneWorse" "contest" "LOneWorse$Contest;", Cond.methodLink RX6 137 yX6_areTwo, Cond.static yX6_areTwo, Cond.initialized RX6, Cond.code yX6_areTwo cX6_areTwo 2 (some .boolean), Cond.methodLink RX6 116 yX6_isMan, Cond.static yX6_isMan, Cond.code yX6_isMan cX6_isMan 1 (some .boolean), Cond.methodLink RX6 59 yX6_within, Cond.static yX6_within, Cond.code yX6_within cX6_within 3 (some .boolean), Cond.instanceMethod yX4_sayable, Cond.initialized RX4, Cond.selects RX4 yX4_sayable yX4_sayable, Cond.code yX4_sayable cX4_sayable 3 (some .int), Cond.methodLink RX4 50 yX4_knownTo, Cond.instanceMethod yX4_knownTo, Cond.selects RX4 yX4_knownTo yX4_knownTo, Cond.code yX4_knownTo cX4_knownTo 2 (some .int), Cond.fieldLink RX4 21 "OneWorse$Town" "known" "[I", Cond.static yX6_at, Cond.code yX6_at cX6_at 2 (some .int), Cond.methodLink RX4 53 yX4_fitting]
def wsX6_last_r2 : List Cond := [Cond.instanceMethod yX4_fitting, Cond.selects RX4 yX4_fitting yX4_fitting, Cond.code yX4_fitting cX4_fitting 5 (some .int), Cond.methodLink RX4 44 yX4_traitsOf, Cond.instanceMethod yX4_traitsOf, Cond.selects RX4 yX4_traitsOf yX4_traitsOf, Cond.code yX4_traitsOf cX4_traitsOf 2 (some .int), Cond.fieldLink RX4 18 "OneWorse$Town" "traits" "[I", Cond.methodLink RX4 47 yX4_neededBy, Cond.instanceMethod yX4_neededBy, Cond.selects RX4 yX4_neededBy yX4_neededBy, Cond.code yX4_neededBy cX4_neededBy 2 (some .int), Cond.fieldLink RX4 15 "OneWorse$Town" "needed" "[I", Cond.instanceMethod yX0_spin, Cond.initialized RX0, Cond.selects RX0 yX0_spin yX0_spin, Cond.code yX0_spin cX0_spin 5 none, Cond.fieldLink RX0 19 "OneWorse$Contest" "spinning" "Z", Cond.methodLink RX0 36 yX0_start, Cond.instanceMethod yX0_start, Cond.selects RX0 yX0_start yX0_start, Cond.code yX0_start cX0_start 5 none, Cond.fieldLink RX0 15 "OneWorse$Contest" "run" "I", Cond.fieldLink RX0 29 "OneWorse$Contest" "chosen" "I"]
def wsX6_last_r3 : List Cond := [Cond.fieldLink RX0 26 "OneWorse$Contest" "score" "I", Cond.methodLink RX0 40 yX0_best, Cond.instanceMethod yX0_best, Cond.selects RX0 yX0_best yX0_best, Cond.code yX0_best cX0_best 10 (some .int), Cond.fieldLink RX0 23 "OneWorse$Contest" "enough" "I", Cond.methodLink RX0 44 yJ6_bitCount_0f7a4, Cond.static yJ6_bitCount_0f7a4, Cond.initialized RJ6, Cond.code yJ6_bitCount_0f7a4 cJ6_bitCount_0f7a4 1 (some .int), Cond.constant RJ6 265 (1431655765), Cond.constant RJ6 266 (858993459), Cond.constant RJ6 267 (252645135), Cond.static yX6_has, Cond.code yX6_has cX6_has 2 (some .boolean), Cond.methodLink RX0 54 yX0_afterwards, Cond.instanceMethod yX0_afterwards, Cond.selects RX0 yX0_afterwards yX0_afterwards, Cond.methodLink RX0 57 yX0_turned, Cond.instanceMethod yX0_turned, Cond.selects RX0 yX0_turned yX0_turned, Cond.code yX0_turned cX0_turned 2 (some .int), Cond.code yX0_afterwards cX0_afterwards 10 (some .int), Cond.fieldLink RX0 9 "OneWorse$Contest" "memo" "[I"]
def wsX6_last_r4 : List Cond := [Cond.fieldLink RX0 32 "OneWorse$Contest" "town" "LOneWorse$Town;", Cond.instanceMethod yX4_worseThan, Cond.selects RX4 yX4_worseThan yX4_worseThan, Cond.code yX4_worseThan cX4_worseThan 2 (some .int), Cond.fieldLink RX4 9 "OneWorse$Town" "worse" "[I", Cond.static yX6_store, Cond.code yX6_store cX6_store 3 none, Cond.instanceMethod yX0_spun, Cond.selects RX0 yX0_spun yX0_spun, Cond.code yX0_spun cX0_spun 1 (some .int), Cond.instanceMethod yX0_firstMove, Cond.selects RX0 yX0_firstMove yX0_firstMove, Cond.code yX0_firstMove cX0_firstMove 1 (some .int)]
def wsX6_last : List Cond := .code yX6_last cX6_last 5 (some .int) :: ((wsX6_last_r1 ++ (wsX6_last_r2 ++ (wsX6_last_r3 ++ wsX6_last_r4))) ++ wsX60 ++ wsX40 ++ wsX00)
def wsX6_comesOff_r1 : List Cond := [Cond.fieldLink RX6 19 "OneWorse" "town" "LOneWorse$Town;", Cond.fieldLink RX6 34 "OneWorse" "contest" "LOneWorse$Contest;", Cond.instanceMethod yX4_fitting, Cond.initialized RX4, Cond.selects RX4 yX4_fitting yX4_fitting, Cond.code yX4_fitting cX4_fitting 5 (some .int), Cond.methodLink RX4 44 yX4_traitsOf, Cond.instanceMethod yX4_traitsOf, Cond.selects RX4 yX4_traitsOf yX4_traitsOf, Cond.code yX4_traitsOf cX4_traitsOf 2 (some .int), Cond.fieldLink RX4 18 "OneWorse$Town" "traits" "[I", Cond.static yX6_at, Cond.initialized RX6, Cond.code yX6_at cX6_at 2 (some .int), Cond.methodLink RX4 47 yX4_neededBy, Cond.instanceMethod yX4_neededBy, Cond.selects RX4 yX4_neededBy yX4_neededBy, Cond.code yX4_neededBy cX4_neededBy 2 (some .int), Cond.fieldLink RX4 15 "OneWorse$Town" "needed" "[I", Cond.instanceMethod yX4_sayable, Cond.selects RX4 yX4_sayable yX4_sayable, Cond.code yX4_sayable cX4_sayable 3 (some .int), Cond.methodLink RX4 50 yX4_knownTo, Cond.instanceMethod yX4_knownTo]
def wsX6_comesOff_r2 : List Cond := [Cond.selects RX4 yX4_knownTo yX4_knownTo, Cond.code yX4_knownTo cX4_knownTo 2 (some .int), Cond.fieldLink RX4 21 "OneWorse$Town" "known" "[I", Cond.methodLink RX4 53 yX4_fitting, Cond.instanceMethod yX0_fight, Cond.initialized RX0, Cond.selects RX0 yX0_fight yX0_fight, Cond.code yX0_fight cX0_fight 6 none, Cond.fieldLink RX0 19 "OneWorse$Contest" "spinning" "Z", Cond.fieldLink RX0 23 "OneWorse$Contest" "enough" "I", Cond.methodLink RX0 36 yX0_start, Cond.instanceMethod yX0_start, Cond.selects RX0 yX0_start yX0_start, Cond.code yX0_start cX0_start 5 none, Cond.fieldLink RX0 15 "OneWorse$Contest" "run" "I", Cond.fieldLink RX0 29 "OneWorse$Contest" "chosen" "I", Cond.fieldLink RX0 26 "OneWorse$Contest" "score" "I", Cond.methodLink RX0 40 yX0_best, Cond.instanceMethod yX0_best, Cond.selects RX0 yX0_best yX0_best, Cond.code yX0_best cX0_best 10 (some .int), Cond.methodLink RX0 44 yJ6_bitCount_0f7a4, Cond.static yJ6_bitCount_0f7a4, Cond.initialized RJ6]
def wsX6_comesOff_r3 : List Cond := [Cond.code yJ6_bitCount_0f7a4 cJ6_bitCount_0f7a4 1 (some .int), Cond.constant RJ6 265 (1431655765), Cond.constant RJ6 266 (858993459), Cond.constant RJ6 267 (252645135), Cond.static yX6_has, Cond.code yX6_has cX6_has 2 (some .boolean), Cond.methodLink RX0 54 yX0_afterwards, Cond.instanceMethod yX0_afterwards, Cond.selects RX0 yX0_afterwards yX0_afterwards, Cond.methodLink RX0 57 yX0_turned, Cond.instanceMethod yX0_turned, Cond.selects RX0 yX0_turned yX0_turned, Cond.code yX0_turned cX0_turned 2 (some .int), Cond.code yX0_afterwards cX0_afterwards 10 (some .int), Cond.fieldLink RX0 9 "OneWorse$Contest" "memo" "[I", Cond.fieldLink RX0 32 "OneWorse$Contest" "town" "LOneWorse$Town;", Cond.instanceMethod yX4_worseThan, Cond.selects RX4 yX4_worseThan yX4_worseThan, Cond.code yX4_worseThan cX4_worseThan 2 (some .int), Cond.fieldLink RX4 9 "OneWorse$Town" "worse" "[I", Cond.static yX6_store, Cond.code yX6_store cX6_store 3 none, Cond.instanceMethod yX0_moverPays, Cond.selects RX0 yX0_moverPays yX0_moverPays]
def wsX6_comesOff_r4 : List Cond := [Cond.code yX0_moverPays cX0_moverPays 1 (some .boolean)]
def wsX6_comesOff : List Cond := .code yX6_comesOff cX6_comesOff 7 (some .boolean) :: ((wsX6_comesOff_r1 ++ (wsX6_comesOff_r2 ++ (wsX6_comesOff_r3 ++ wsX6_comesOff_r4))) ++ wsX60 ++ wsX40 ++ wsX00)
def wsX6_sent_r1 : List Cond := [Cond.fieldLink RX6 19 "OneWorse" "town" "LOneWorse$Town;", Cond.methodLink RX6 116 yX6_isMan, Cond.static yX6_isMan, Cond.initialized RX6, Cond.code yX6_isMan cX6_isMan 1 (some .boolean), Cond.methodLink RX6 59 yX6_within, Cond.static yX6_within, Cond.code yX6_within cX6_within 3 (some .boolean), Cond.instanceMethod yX4_knownTo, Cond.initialized RX4, Cond.selects RX4 yX4_knownTo yX4_knownTo, Cond.code yX4_knownTo cX4_knownTo 2 (some .int), Cond.fieldLink RX4 21 "OneWorse$Town" "known" "[I", Cond.static yX6_at, Cond.code yX6_at cX6_at 2 (some .int), Cond.methodLink RX6 162 yX6_comesOff, Cond.instanceMethod yX6_comesOff, Cond.selects RX6 yX6_comesOff yX6_comesOff, Cond.code yX6_comesOff cX6_comesOff 7 (some .boolean), Cond.fieldLink RX6 34 "OneWorse" "contest" "LOneWorse$Contest;", Cond.instanceMethod yX4_fitting, Cond.selects RX4 yX4_fitting yX4_fitting, Cond.code yX4_fitting cX4_fitting 5 (some .int), Cond.methodLink RX4 44 yX4_traitsOf]
def wsX6_sent_r2 : List Cond := [Cond.instanceMethod yX4_traitsOf, Cond.selects RX4 yX4_traitsOf yX4_traitsOf, Cond.code yX4_traitsOf cX4_traitsOf 2 (some .int), Cond.fieldLink RX4 18 "OneWorse$Town" "traits" "[I", Cond.methodLink RX4 47 yX4_neededBy, Cond.instanceMethod yX4_neededBy, Cond.selects RX4 yX4_neededBy yX4_neededBy, Cond.code yX4_neededBy cX4_neededBy 2 (some .int), Cond.fieldLink RX4 15 "OneWorse$Town" "needed" "[I", Cond.instanceMethod yX4_sayable, Cond.selects RX4 yX4_sayable yX4_sayable, Cond.code yX4_sayable cX4_sayable 3 (some .int), Cond.methodLink RX4 50 yX4_knownTo, Cond.methodLink RX4 53 yX4_fitting, Cond.instanceMethod yX0_fight, Cond.initialized RX0, Cond.selects RX0 yX0_fight yX0_fight, Cond.code yX0_fight cX0_fight 6 none, Cond.fieldLink RX0 19 "OneWorse$Contest" "spinning" "Z", Cond.fieldLink RX0 23 "OneWorse$Contest" "enough" "I", Cond.methodLink RX0 36 yX0_start, Cond.instanceMethod yX0_start, Cond.selects RX0 yX0_start yX0_start, Cond.code yX0_start cX0_start 5 none]
def wsX6_sent_r3 : List Cond := [Cond.fieldLink RX0 15 "OneWorse$Contest" "run" "I", Cond.fieldLink RX0 29 "OneWorse$Contest" "chosen" "I", Cond.fieldLink RX0 26 "OneWorse$Contest" "score" "I", Cond.methodLink RX0 40 yX0_best, Cond.instanceMethod yX0_best, Cond.selects RX0 yX0_best yX0_best, Cond.code yX0_best cX0_best 10 (some .int), Cond.methodLink RX0 44 yJ6_bitCount_0f7a4, Cond.static yJ6_bitCount_0f7a4, Cond.initialized RJ6, Cond.code yJ6_bitCount_0f7a4 cJ6_bitCount_0f7a4 1 (some .int), Cond.constant RJ6 265 (1431655765), Cond.constant RJ6 266 (858993459), Cond.constant RJ6 267 (252645135), Cond.static yX6_has, Cond.code yX6_has cX6_has 2 (some .boolean), Cond.methodLink RX0 54 yX0_afterwards, Cond.instanceMethod yX0_afterwards, Cond.selects RX0 yX0_afterwards yX0_afterwards, Cond.methodLink RX0 57 yX0_turned, Cond.instanceMethod yX0_turned, Cond.selects RX0 yX0_turned yX0_turned, Cond.code yX0_turned cX0_turned 2 (some .int), Cond.code yX0_afterwards cX0_afterwards 10 (some .int)]
def wsX6_sent_r4 : List Cond := [Cond.fieldLink RX0 9 "OneWorse$Contest" "memo" "[I", Cond.fieldLink RX0 32 "OneWorse$Contest" "town" "LOneWorse$Town;", Cond.instanceMethod yX4_worseThan, Cond.selects RX4 yX4_worseThan yX4_worseThan, Cond.code yX4_worseThan cX4_worseThan 2 (some .int), Cond.fieldLink RX4 9 "OneWorse$Town" "worse" "[I", Cond.static yX6_store, Cond.code yX6_store cX6_store 3 none, Cond.instanceMethod yX0_moverPays, Cond.selects RX0 yX0_moverPays yX0_moverPays, Cond.code yX0_moverPays cX0_moverPays 1 (some .boolean)]
def wsX6_sent : List Cond := .code yX6_sent cX6_sent 5 (some .int) :: ((wsX6_sent_r1 ++ (wsX6_sent_r2 ++ (wsX6_sent_r3 ++ wsX6_sent_r4))) ++ wsX60 ++ wsX40 ++ wsX00)
def wsX6_safe_r1 : List Cond := [Cond.fieldLink RX6 19 "OneWorse" "town" "LOneWorse$Town;", Cond.methodLink RX6 116 yX6_isMan, Cond.static yX6_isMan, Cond.initialized RX6, Cond.code yX6_isMan cX6_isMan 1 (some .boolean), Cond.methodLink RX6 59 yX6_within, Cond.static yX6_within, Cond.code yX6_within cX6_within 3 (some .boolean), Cond.instanceMethod yX4_sayable, Cond.initialized RX4, Cond.selects RX4 yX4_sayable yX4_sayable, Cond.code yX4_sayable cX4_sayable 3 (some .int), Cond.methodLink RX4 50 yX4_knownTo, Cond.instanceMethod yX4_knownTo, Cond.selects RX4 yX4_knownTo yX4_knownTo, Cond.code yX4_knownTo cX4_knownTo 2 (some .int), Cond.fieldLink RX4 21 "OneWorse$Town" "known" "[I", Cond.static yX6_at, Cond.code yX6_at cX6_at 2 (some .int), Cond.methodLink RX4 53 yX4_fitting, Cond.instanceMethod yX4_fitting, Cond.selects RX4 yX4_fitting yX4_fitting, Cond.code yX4_fitting cX4_fitting 5 (some .int), Cond.methodLink RX4 44 yX4_traitsOf]
def wsX6_safe_r2 : List Cond := [Cond.instanceMethod yX4_traitsOf, Cond.selects RX4 yX4_traitsOf yX4_traitsOf, Cond.code yX4_traitsOf cX4_traitsOf 2 (some .int), Cond.fieldLink RX4 18 "OneWorse$Town" "traits" "[I", Cond.methodLink RX4 47 yX4_neededBy, Cond.instanceMethod yX4_neededBy, Cond.selects RX4 yX4_neededBy yX4_neededBy, Cond.code yX4_neededBy cX4_neededBy 2 (some .int), Cond.fieldLink RX4 15 "OneWorse$Town" "needed" "[I"]
def wsX6_safe : List Cond := .code yX6_safe cX6_safe 4 (some .int) :: ((wsX6_safe_r1 ++ wsX6_safe_r2) ++ wsX60 ++ wsX40)
def wsX6_goodMatches_r1 : List Cond := [Cond.methodLink RX6 162 yX6_comesOff, Cond.instanceMethod yX6_comesOff, Cond.selects RX6 yX6_comesOff yX6_comesOff, Cond.initialized RX6, Cond.code yX6_comesOff cX6_comesOff 7 (some .boolean), Cond.fieldLink RX6 19 "OneWorse" "town" "LOneWorse$Town;", Cond.fieldLink RX6 34 "OneWorse" "contest" "LOneWorse$Contest;", Cond.instanceMethod yX4_fitting, Cond.initialized RX4, Cond.selects RX4 yX4_fitting yX4_fitting, Cond.code yX4_fitting cX4_fitting 5 (some .int), Cond.methodLink RX4 44 yX4_traitsOf, Cond.instanceMethod yX4_traitsOf, Cond.selects RX4 yX4_traitsOf yX4_traitsOf, Cond.code yX4_traitsOf cX4_traitsOf 2 (some .int), Cond.fieldLink RX4 18 "OneWorse$Town" "traits" "[I", Cond.static yX6_at, Cond.code yX6_at cX6_at 2 (some .int), Cond.methodLink RX4 47 yX4_neededBy, Cond.instanceMethod yX4_neededBy, Cond.selects RX4 yX4_neededBy yX4_neededBy, Cond.code yX4_neededBy cX4_neededBy 2 (some .int), Cond.fieldLink RX4 15 "OneWorse$Town" "needed" "[I", Cond.instanceMethod yX4_sayable]
def wsX6_goodMatches_r2 : List Cond := [Cond.selects RX4 yX4_sayable yX4_sayable, Cond.code yX4_sayable cX4_sayable 3 (some .int), Cond.methodLink RX4 50 yX4_knownTo, Cond.instanceMethod yX4_knownTo, Cond.selects RX4 yX4_knownTo yX4_knownTo, Cond.code yX4_knownTo cX4_knownTo 2 (some .int), Cond.fieldLink RX4 21 "OneWorse$Town" "known" "[I", Cond.methodLink RX4 53 yX4_fitting, Cond.instanceMethod yX0_fight, Cond.initialized RX0, Cond.selects RX0 yX0_fight yX0_fight, Cond.code yX0_fight cX0_fight 6 none, Cond.fieldLink RX0 19 "OneWorse$Contest" "spinning" "Z", Cond.fieldLink RX0 23 "OneWorse$Contest" "enough" "I", Cond.methodLink RX0 36 yX0_start, Cond.instanceMethod yX0_start, Cond.selects RX0 yX0_start yX0_start, Cond.code yX0_start cX0_start 5 none, Cond.fieldLink RX0 15 "OneWorse$Contest" "run" "I", Cond.fieldLink RX0 29 "OneWorse$Contest" "chosen" "I", Cond.fieldLink RX0 26 "OneWorse$Contest" "score" "I", Cond.methodLink RX0 40 yX0_best, Cond.instanceMethod yX0_best, Cond.selects RX0 yX0_best yX0_best]
def wsX6_goodMatches_r3 : List Cond := [Cond.code yX0_best cX0_best 10 (some .int), Cond.methodLink RX0 44 yJ6_bitCount_0f7a4, Cond.static yJ6_bitCount_0f7a4, Cond.initialized RJ6, Cond.code yJ6_bitCount_0f7a4 cJ6_bitCount_0f7a4 1 (some .int), Cond.constant RJ6 265 (1431655765), Cond.constant RJ6 266 (858993459), Cond.constant RJ6 267 (252645135), Cond.static yX6_has, Cond.code yX6_has cX6_has 2 (some .boolean), Cond.methodLink RX0 54 yX0_afterwards, Cond.instanceMethod yX0_afterwards, Cond.selects RX0 yX0_afterwards yX0_afterwards, Cond.methodLink RX0 57 yX0_turned, Cond.instanceMethod yX0_turned, Cond.selects RX0 yX0_turned yX0_turned, Cond.code yX0_turned cX0_turned 2 (some .int), Cond.code yX0_afterwards cX0_afterwards 10 (some .int), Cond.fieldLink RX0 9 "OneWorse$Contest" "memo" "[I", Cond.fieldLink RX0 32 "OneWorse$Contest" "town" "LOneWorse$Town;", Cond.instanceMethod yX4_worseThan, Cond.selects RX4 yX4_worseThan yX4_worseThan, Cond.code yX4_worseThan cX4_worseThan 2 (some .int), Cond.fieldLink RX4 9 "OneWorse$Town" "worse" "[I"]
def wsX6_goodMatches_r4 : List Cond := [Cond.static yX6_store, Cond.code yX6_store cX6_store 3 none, Cond.instanceMethod yX0_moverPays, Cond.selects RX0 yX0_moverPays yX0_moverPays, Cond.code yX0_moverPays cX0_moverPays 1 (some .boolean)]
def wsX6_goodMatches : List Cond := .code yX6_goodMatches cX6_goodMatches 5 (some .int) :: ((wsX6_goodMatches_r1 ++ (wsX6_goodMatches_r2 ++ (wsX6_goodMatches_r3 ++ wsX6_goodMatches_r4))) ++ wsX60 ++ wsX40 ++ wsX00)
def wsX6_worth_r1 : List Cond := [Cond.fieldLink RX6 19 "OneWorse" "town" "LOneWorse$Town;", Cond.methodLink RX6 98 yX6_isInsult, Cond.static yX6_isInsult, Cond.initialized RX6, Cond.code yX6_isInsult cX6_isInsult 1 (some .boolean), Cond.methodLink RX6 59 yX6_within, Cond.static yX6_within, Cond.code yX6_within cX6_within 3 (some .boolean), Cond.methodLink RX6 116 yX6_isMan, Cond.static yX6_isMan, Cond.code yX6_isMan cX6_isMan 1 (some .boolean), Cond.instanceMethod yX4_knownTo, Cond.initialized RX4, Cond.selects RX4 yX4_knownTo yX4_knownTo, Cond.code yX4_knownTo cX4_knownTo 2 (some .int), Cond.fieldLink RX4 21 "OneWorse$Town" "known" "[I", Cond.static yX6_at, Cond.code yX6_at cX6_at 2 (some .int), Cond.methodLink RX6 105 yX6_has, Cond.static yX6_has, Cond.code yX6_has cX6_has 2 (some .boolean), Cond.methodLink RX6 166 yX6_goodMatches, Cond.instanceMethod yX6_goodMatches, Cond.selects RX6 yX6_goodMatches yX6_goodMatches]
def wsX6_worth_r2 : List Cond := [Cond.code yX6_goodMatches cX6_goodMatches 5 (some .int), Cond.methodLink RX6 162 yX6_comesOff, Cond.instanceMethod yX6_comesOff, Cond.selects RX6 yX6_comesOff yX6_comesOff, Cond.code yX6_comesOff cX6_comesOff 7 (some .boolean), Cond.fieldLink RX6 34 "OneWorse" "contest" "LOneWorse$Contest;", Cond.instanceMethod yX4_fitting, Cond.selects RX4 yX4_fitting yX4_fitting, Cond.code yX4_fitting cX4_fitting 5 (some .int), Cond.methodLink RX4 44 yX4_traitsOf, Cond.instanceMethod yX4_traitsOf, Cond.selects RX4 yX4_traitsOf yX4_traitsOf, Cond.code yX4_traitsOf cX4_traitsOf 2 (some .int), Cond.fieldLink RX4 18 "OneWorse$Town" "traits" "[I", Cond.methodLink RX4 47 yX4_neededBy, Cond.instanceMethod yX4_neededBy, Cond.selects RX4 yX4_neededBy yX4_neededBy, Cond.code yX4_neededBy cX4_neededBy 2 (some .int), Cond.fieldLink RX4 15 "OneWorse$Town" "needed" "[I", Cond.instanceMethod yX4_sayable, Cond.selects RX4 yX4_sayable yX4_sayable, Cond.code yX4_sayable cX4_sayable 3 (some .int), Cond.methodLink RX4 50 yX4_knownTo, Cond.methodLink RX4 53 yX4_fitting]
def wsX6_worth_r3 : List Cond := [Cond.instanceMethod yX0_fight, Cond.initialized RX0, Cond.selects RX0 yX0_fight yX0_fight, Cond.code yX0_fight cX0_fight 6 none, Cond.fieldLink RX0 19 "OneWorse$Contest" "spinning" "Z", Cond.fieldLink RX0 23 "OneWorse$Contest" "enough" "I", Cond.methodLink RX0 36 yX0_start, Cond.instanceMethod yX0_start, Cond.selects RX0 yX0_start yX0_start, Cond.code yX0_start cX0_start 5 none, Cond.fieldLink RX0 15 "OneWorse$Contest" "run" "I", Cond.fieldLink RX0 29 "OneWorse$Contest" "chosen" "I", Cond.fieldLink RX0 26 "OneWorse$Contest" "score" "I", Cond.methodLink RX0 40 yX0_best, Cond.instanceMethod yX0_best, Cond.selects RX0 yX0_best yX0_best, Cond.code yX0_best cX0_best 10 (some .int), Cond.methodLink RX0 44 yJ6_bitCount_0f7a4, Cond.static yJ6_bitCount_0f7a4, Cond.initialized RJ6, Cond.code yJ6_bitCount_0f7a4 cJ6_bitCount_0f7a4 1 (some .int), Cond.constant RJ6 265 (1431655765), Cond.constant RJ6 266 (858993459), Cond.constant RJ6 267 (252645135)]
def wsX6_worth_r4 : List Cond := [Cond.methodLink RX0 54 yX0_afterwards, Cond.instanceMethod yX0_afterwards, Cond.selects RX0 yX0_afterwards yX0_afterwards, Cond.methodLink RX0 57 yX0_turned, Cond.instanceMethod yX0_turned, Cond.selects RX0 yX0_turned yX0_turned, Cond.code yX0_turned cX0_turned 2 (some .int), Cond.code yX0_afterwards cX0_afterwards 10 (some .int), Cond.fieldLink RX0 9 "OneWorse$Contest" "memo" "[I", Cond.fieldLink RX0 32 "OneWorse$Contest" "town" "LOneWorse$Town;", Cond.instanceMethod yX4_worseThan, Cond.selects RX4 yX4_worseThan yX4_worseThan, Cond.code yX4_worseThan cX4_worseThan 2 (some .int), Cond.fieldLink RX4 9 "OneWorse$Town" "worse" "[I", Cond.static yX6_store, Cond.code yX6_store cX6_store 3 none, Cond.instanceMethod yX0_moverPays, Cond.selects RX0 yX0_moverPays yX0_moverPays, Cond.code yX0_moverPays cX0_moverPays 1 (some .boolean)]
def wsX6_worth : List Cond := .code yX6_worth cX6_worth 5 (some .int) :: ((wsX6_worth_r1 ++ (wsX6_worth_r2 ++ (wsX6_worth_r3 ++ wsX6_worth_r4))) ++ wsX60 ++ wsX40 ++ wsX00)
def wsX6_crowd_r1 : List Cond := [Cond.fieldLink RX6 41 "OneWorse" "company" "LOneWorse$Crowd;", Cond.methodLink RX6 59 yX6_within, Cond.static yX6_within, Cond.initialized RX6, Cond.code yX6_within cX6_within 3 (some .boolean), Cond.instanceMethod yX1_fewestDays, Cond.initialized RX1, Cond.selects RX1 yX1_fewestDays yX1_fewestDays, Cond.code yX1_fewestDays cX1_fewestDays 3 (some .int), Cond.fieldLink RX1 18 "OneWorse$Crowd" "able" "[Z", Cond.fieldLink RX1 22 "OneWorse$Crowd" "fewest" "[I", Cond.methodLink RX1 29 yX1_prepare, Cond.instanceMethod yX1_prepare, Cond.selects RX1 yX1_prepare yX1_prepare, Cond.code yX1_prepare cX1_prepare 3 none, Cond.fieldLink RX1 9 "OneWorse$Crowd" "fitting" "[I", Cond.fieldLink RX1 25 "OneWorse$Crowd" "town" "LOneWorse$Town;", Cond.instanceMethod yX4_fitting, Cond.initialized RX4, Cond.selects RX4 yX4_fitting yX4_fitting, Cond.code yX4_fitting cX4_fitting 5 (some .int), Cond.methodLink RX4 44 yX4_traitsOf, Cond.instanceMethod yX4_traitsOf, Cond.selects RX4 yX4_traitsOf yX4_traitsOf]
def wsX6_crowd_r2 : List Cond := [Cond.code yX4_traitsOf cX4_traitsOf 2 (some .int), Cond.fieldLink RX4 18 "OneWorse$Town" "traits" "[I", Cond.static yX6_at, Cond.code yX6_at cX6_at 2 (some .int), Cond.methodLink RX4 47 yX4_neededBy, Cond.instanceMethod yX4_neededBy, Cond.selects RX4 yX4_neededBy yX4_neededBy, Cond.code yX4_neededBy cX4_neededBy 2 (some .int), Cond.fieldLink RX4 15 "OneWorse$Town" "needed" "[I", Cond.static yX6_store, Cond.code yX6_store cX6_store 3 none, Cond.methodLink RX1 53 yX1_hopeAheadOf, Cond.instanceMethod yX1_hopeAheadOf, Cond.selects RX1 yX1_hopeAheadOf yX1_hopeAheadOf, Cond.code yX1_hopeAheadOf cX1_hopeAheadOf 5 none, Cond.fieldLink RX1 15 "OneWorse$Crowd" "hope" "[I", Cond.static yX6_has, Cond.code yX6_has cX6_has 2 (some .boolean), Cond.methodLink RX1 60 yX1_hopeful, Cond.instanceMethod yX1_hopeful, Cond.selects RX1 yX1_hopeful yX1_hopeful, Cond.code yX1_hopeful cX1_hopeful 3 (some .int), Cond.methodLink RX1 64 yX1_leadingTo, Cond.instanceMethod yX1_leadingTo]
def wsX6_crowd_r3 : List Cond := [Cond.selects RX1 yX1_leadingTo yX1_leadingTo, Cond.code yX1_leadingTo cX1_leadingTo 4 (some .int), Cond.instanceMethod yX4_worseThan, Cond.selects RX4 yX4_worseThan yX4_worseThan, Cond.code yX4_worseThan cX4_worseThan 2 (some .int), Cond.fieldLink RX4 9 "OneWorse$Town" "worse" "[I", Cond.instanceMethod yX4_knownTo, Cond.selects RX4 yX4_knownTo yX4_knownTo, Cond.code yX4_knownTo cX4_knownTo 2 (some .int), Cond.fieldLink RX4 21 "OneWorse$Town" "known" "[I", Cond.methodLink RX1 33 yX1_canSpeak, Cond.instanceMethod yX1_canSpeak, Cond.selects RX1 yX1_canSpeak yX1_canSpeak, Cond.code yX1_canSpeak cX1_canSpeak 4 (some .boolean), Cond.methodLink RX1 73 yX1_canSayOne, Cond.instanceMethod yX1_canSayOne, Cond.selects RX1 yX1_canSayOne yX1_canSayOne, Cond.code yX1_canSayOne cX1_canSayOne 6 (some .boolean), Cond.methodLink RX1 77 yX1_canGoOn, Cond.instanceMethod yX1_canGoOn, Cond.selects RX1 yX1_canGoOn yX1_canGoOn, Cond.code yX1_canGoOn cX1_canGoOn 9 (some .boolean), Cond.methodLink RX1 37 yX1_fewestBySets, Cond.instanceMethod yX1_fewestBySets]
def wsX6_crowd_r4 : List Cond := [Cond.selects RX1 yX1_fewestBySets yX1_fewestBySets, Cond.code yX1_fewestBySets cX1_fewestBySets 5 (some .int), Cond.instanceMethod yX1_isOneDayEnough, Cond.selects RX1 yX1_isOneDayEnough yX1_isOneDayEnough, Cond.code yX1_isOneDayEnough cX1_isOneDayEnough 2 (some .boolean)]
def wsX6_crowd : List Cond := .code yX6_crowd cX6_crowd 3 (some .int) :: ((wsX6_crowd_r1 ++ (wsX6_crowd_r2 ++ (wsX6_crowd_r3 ++ wsX6_crowd_r4))) ++ wsX60 ++ wsX10 ++ wsX40)
def wsX6_rings_r1 : List Cond := [Cond.fieldLink RX6 48 "OneWorse" "order" "LOneWorse$Order;", Cond.methodLink RX6 59 yX6_within, Cond.static yX6_within, Cond.initialized RX6, Cond.code yX6_within cX6_within 3 (some .boolean), Cond.instanceMethod yX2_inRings, Cond.initialized RX2, Cond.selects RX2 yX2_inRings yX2_inRings, Cond.code yX2_inRings cX2_inRings 3 (some .int), Cond.fieldLink RX2 9 "OneWorse$Order" "reached" "[I", Cond.fieldLink RX2 28 "OneWorse$Order" "town" "LOneWorse$Town;", Cond.instanceMethod yX4_worseThan, Cond.initialized RX4, Cond.selects RX4 yX4_worseThan yX4_worseThan, Cond.code yX4_worseThan cX4_worseThan 2 (some .int), Cond.fieldLink RX4 9 "OneWorse$Town" "worse" "[I", Cond.static yX6_at, Cond.code yX6_at cX6_at 2 (some .int), Cond.static yX6_store, Cond.code yX6_store cX6_store 3 none, Cond.static yX6_has, Cond.code yX6_has cX6_has 2 (some .boolean), Cond.instanceMethod yX2_tops, Cond.selects RX2 yX2_tops yX2_tops]
def wsX6_rings_r2 : List Cond := [Cond.code yX2_tops cX2_tops 3 (some .int)]
def wsX6_rings : List Cond := .code yX6_rings cX6_rings 2 (some .int) :: ((wsX6_rings_r1 ++ wsX6_rings_r2) ++ wsX60 ++ wsX20 ++ wsX40)
def wsX6_ladder_r1 : List Cond := [Cond.fieldLink RX6 48 "OneWorse" "order" "LOneWorse$Order;", Cond.instanceMethod yX2_arrange, Cond.initialized RX2, Cond.selects RX2 yX2_arrange yX2_arrange, Cond.code yX2_arrange cX2_arrange 4 none, Cond.fieldLink RX2 24 "OneWorse$Order" "isArranged" "Z", Cond.fieldLink RX2 15 "OneWorse$Order" "back" "[I", Cond.fieldLink RX2 18 "OneWorse$Order" "rank" "[I", Cond.fieldLink RX2 21 "OneWorse$Order" "arranged" "[I", Cond.fieldLink RX2 28 "OneWorse$Order" "town" "LOneWorse$Town;", Cond.methodLink RX2 50 yX2_isSameBook, Cond.instanceMethod yX2_isSameBook, Cond.selects RX2 yX2_isSameBook yX2_isSameBook, Cond.code yX2_isSameBook cX2_isSameBook 2 (some .boolean), Cond.static yX6_at, Cond.initialized RX6, Cond.code yX6_at cX6_at 2 (some .int), Cond.instanceMethod yX4_worseThan, Cond.initialized RX4, Cond.selects RX4 yX4_worseThan yX4_worseThan, Cond.code yX4_worseThan cX4_worseThan 2 (some .int), Cond.fieldLink RX4 9 "OneWorse$Town" "worse" "[I", Cond.static yX6_store, Cond.code yX6_store cX6_store 3 none]
def wsX6_ladder_r2 : List Cond := [Cond.methodLink RX2 54 yX2_nextAfter, Cond.instanceMethod yX2_nextAfter, Cond.selects RX2 yX2_nextAfter yX2_nextAfter, Cond.code yX2_nextAfter cX2_nextAfter 6 (some .int), Cond.static yX6_has, Cond.code yX6_has cX6_has 2 (some .boolean), Cond.methodLink RX2 57 yX2_backWith, Cond.instanceMethod yX2_backWith, Cond.selects RX2 yX2_backWith yX2_backWith, Cond.code yX2_backWith cX2_backWith 3 (some .int), Cond.methodLink RX2 61 yJ6_bitCount_0f7a4, Cond.static yJ6_bitCount_0f7a4, Cond.initialized RJ6, Cond.code yJ6_bitCount_0f7a4 cJ6_bitCount_0f7a4 1 (some .int), Cond.constant RJ6 265 (1431655765), Cond.constant RJ6 266 (858993459), Cond.constant RJ6 267 (252645135), Cond.instanceMethod yX2_countStruck, Cond.selects RX2 yX2_countStruck yX2_countStruck, Cond.code yX2_countStruck cX2_countStruck 1 (some .int), Cond.instanceMethod yX2_struck, Cond.selects RX2 yX2_struck yX2_struck, Cond.code yX2_struck cX2_struck 5 (some .int)]
def wsX6_ladder : List Cond := .code yX6_ladder cX6_ladder 2 (some .int) :: ((wsX6_ladder_r1 ++ wsX6_ladder_r2) ++ wsX60 ++ wsX20 ++ wsX40)
def wsX6_between_r1 : List Cond := [Cond.fieldLink RX6 55 "OneWorse" "ways" "LOneWorse$Ways;", Cond.methodLink RX6 98 yX6_isInsult, Cond.static yX6_isInsult, Cond.initialized RX6, Cond.code yX6_isInsult cX6_isInsult 1 (some .boolean), Cond.methodLink RX6 59 yX6_within, Cond.static yX6_within, Cond.code yX6_within cX6_within 3 (some .boolean), Cond.instanceMethod yX5_search, Cond.initialized RX5, Cond.selects RX5 yX5_search yX5_search, Cond.code yX5_search cX5_search 5 none, Cond.fieldLink RX5 9 "OneWorse$Ways" "goal" "I", Cond.fieldLink RX5 15 "OneWorse$Ways" "asked" "I", Cond.fieldLink RX5 18 "OneWorse$Ways" "count" "I", Cond.fieldLink RX5 21 "OneWorse$Ways" "wanted" "I", Cond.methodLink RX5 28 yX5_walk, Cond.instanceMethod yX5_walk, Cond.selects RX5 yX5_walk yX5_walk, Cond.code yX5_walk cX5_walk 6 none, Cond.fieldLink RX5 24 "OneWorse$Ways" "town" "LOneWorse$Town;", Cond.instanceMethod yX4_worseThan, Cond.initialized RX4, Cond.selects RX4 yX4_worseThan yX4_worseThan]
def wsX6_between_r2 : List Cond := [Cond.code yX4_worseThan cX4_worseThan 2 (some .int), Cond.fieldLink RX4 9 "OneWorse$Town" "worse" "[I", Cond.static yX6_at, Cond.code yX6_at cX6_at 2 (some .int), Cond.static yX6_has, Cond.code yX6_has cX6_has 2 (some .boolean), Cond.instanceMethod yX5_count, Cond.selects RX5 yX5_count yX5_count, Cond.code yX5_count cX5_count 1 (some .int), Cond.instanceMethod yX5_wanted, Cond.selects RX5 yX5_wanted yX5_wanted, Cond.code yX5_wanted cX5_wanted 1 (some .int)]
def wsX6_between : List Cond := .code yX6_between cX6_between 5 (some .int) :: ((wsX6_between_r1 ++ wsX6_between_r2) ++ wsX60 ++ wsX50 ++ wsX40)
def wsX6_high_r1 : List Cond := [Cond.fieldLink RX6 34 "OneWorse" "contest" "LOneWorse$Contest;", Cond.fieldLink RX6 19 "OneWorse" "town" "LOneWorse$Town;", Cond.methodLink RX6 98 yX6_isInsult, Cond.static yX6_isInsult, Cond.initialized RX6, Cond.code yX6_isInsult cX6_isInsult 1 (some .boolean), Cond.methodLink RX6 59 yX6_within, Cond.static yX6_within, Cond.code yX6_within cX6_within 3 (some .boolean), Cond.instanceMethod yX4_worseThan, Cond.initialized RX4, Cond.selects RX4 yX4_worseThan yX4_worseThan, Cond.code yX4_worseThan cX4_worseThan 2 (some .int), Cond.fieldLink RX4 9 "OneWorse$Town" "worse" "[I", Cond.static yX6_at, Cond.code yX6_at cX6_at 2 (some .int), Cond.instanceMethod yX0_spin, Cond.initialized RX0, Cond.selects RX0 yX0_spin yX0_spin, Cond.code yX0_spin cX0_spin 5 none, Cond.fieldLink RX0 19 "OneWorse$Contest" "spinning" "Z", Cond.methodLink RX0 36 yX0_start, Cond.instanceMethod yX0_start, Cond.selects RX0 yX0_start yX0_start]
def wsX6_high_r2 : List Cond := [Cond.code yX0_start cX0_start 5 none, Cond.fieldLink RX0 15 "OneWorse$Contest" "run" "I", Cond.fieldLink RX0 29 "OneWorse$Contest" "chosen" "I", Cond.fieldLink RX0 26 "OneWorse$Contest" "score" "I", Cond.methodLink RX0 40 yX0_best, Cond.instanceMethod yX0_best, Cond.selects RX0 yX0_best yX0_best, Cond.code yX0_best cX0_best 10 (some .int), Cond.fieldLink RX0 23 "OneWorse$Contest" "enough" "I", Cond.methodLink RX0 44 yJ6_bitCount_0f7a4, Cond.static yJ6_bitCount_0f7a4, Cond.initialized RJ6, Cond.code yJ6_bitCount_0f7a4 cJ6_bitCount_0f7a4 1 (some .int), Cond.constant RJ6 265 (1431655765), Cond.constant RJ6 266 (858993459), Cond.constant RJ6 267 (252645135), Cond.static yX6_has, Cond.code yX6_has cX6_has 2 (some .boolean), Cond.methodLink RX0 54 yX0_afterwards, Cond.instanceMethod yX0_afterwards, Cond.selects RX0 yX0_afterwards yX0_afterwards, Cond.methodLink RX0 57 yX0_turned, Cond.instanceMethod yX0_turned, Cond.selects RX0 yX0_turned yX0_turned]
def wsX6_high_r3 : List Cond := [Cond.code yX0_turned cX0_turned 2 (some .int), Cond.code yX0_afterwards cX0_afterwards 10 (some .int), Cond.fieldLink RX0 9 "OneWorse$Contest" "memo" "[I", Cond.fieldLink RX0 32 "OneWorse$Contest" "town" "LOneWorse$Town;", Cond.static yX6_store, Cond.code yX6_store cX6_store 3 none, Cond.instanceMethod yX0_spun, Cond.selects RX0 yX0_spun yX0_spun, Cond.code yX0_spun cX0_spun 1 (some .int)]
def wsX6_high : List Cond := .code yX6_high cX6_high 2 (some .int) :: ((wsX6_high_r1 ++ (wsX6_high_r2 ++ wsX6_high_r3)) ++ wsX60 ++ wsX40 ++ wsX00)
def wsX6_isImage : List Cond := .code yX6_isImage cX6_isImage 1 (some .boolean) :: ([.methodLink RX6 59 yX6_within, .static yX6_within, .initialized RX6, .code yX6_within cX6_within 3 (some .boolean)])
def wsX6_imageOf : List Cond := .code yX6_imageOf cX6_imageOf 2 (some (.object "OneWorse$Town")) :: ([.fieldLink RX6 23 "OneWorse" "firstImage" "LOneWorse$Town;", .fieldLink RX6 26 "OneWorse" "secondImage" "LOneWorse$Town;"] ++ wsX60)
def wsX6_image_r1 : List Cond := [Cond.fieldLink RX6 19 "OneWorse" "town" "LOneWorse$Town;", Cond.methodLink RX6 199 yX6_isImage, Cond.static yX6_isImage, Cond.initialized RX6, Cond.code yX6_isImage cX6_isImage 1 (some .boolean), Cond.methodLink RX6 59 yX6_within, Cond.static yX6_within, Cond.code yX6_within cX6_within 3 (some .boolean), Cond.methodLink RX6 202 yX6_imageOf, Cond.instanceMethod yX6_imageOf, Cond.selects RX6 yX6_imageOf yX6_imageOf, Cond.code yX6_imageOf cX6_imageOf 2 (some (.object "OneWorse$Town")), Cond.fieldLink RX6 23 "OneWorse" "firstImage" "LOneWorse$Town;", Cond.fieldLink RX6 26 "OneWorse" "secondImage" "LOneWorse$Town;", Cond.instanceMethod yX4_copy, Cond.initialized RX4, Cond.selects RX4 yX4_copy yX4_copy, Cond.code yX4_copy cX4_copy 3 none, Cond.fieldLink RX4 9 "OneWorse$Town" "worse" "[I", Cond.fieldLink RX4 15 "OneWorse$Town" "needed" "[I", Cond.fieldLink RX4 18 "OneWorse$Town" "traits" "[I", Cond.fieldLink RX4 21 "OneWorse$Town" "known" "[I", Cond.fieldLink RX4 24 "OneWorse$Town" "kept" "Z", Cond.methodLink RX4 36 yX4_worseThan]
def wsX6_image_r2 : List Cond := [Cond.instanceMethod yX4_worseThan, Cond.selects RX4 yX4_worseThan yX4_worseThan, Cond.code yX4_worseThan cX4_worseThan 2 (some .int), Cond.static yX6_at, Cond.code yX6_at cX6_at 2 (some .int), Cond.static yX6_store, Cond.code yX6_store cX6_store 3 none, Cond.methodLink RX4 47 yX4_neededBy, Cond.instanceMethod yX4_neededBy, Cond.selects RX4 yX4_neededBy yX4_neededBy, Cond.code yX4_neededBy cX4_neededBy 2 (some .int), Cond.methodLink RX4 44 yX4_traitsOf, Cond.instanceMethod yX4_traitsOf, Cond.selects RX4 yX4_traitsOf yX4_traitsOf, Cond.code yX4_traitsOf cX4_traitsOf 2 (some .int), Cond.methodLink RX4 50 yX4_knownTo, Cond.instanceMethod yX4_knownTo, Cond.selects RX4 yX4_knownTo yX4_knownTo, Cond.code yX4_knownTo cX4_knownTo 2 (some .int)]
def wsX6_image : List Cond := .code yX6_image cX6_image 2 (some .int) :: ((wsX6_image_r1 ++ wsX6_image_r2) ++ wsX60 ++ wsX40)
def wsX6_restore_r1 : List Cond := [Cond.fieldLink RX6 19 "OneWorse" "town" "LOneWorse$Town;", Cond.methodLink RX6 199 yX6_isImage, Cond.static yX6_isImage, Cond.initialized RX6, Cond.code yX6_isImage cX6_isImage 1 (some .boolean), Cond.methodLink RX6 59 yX6_within, Cond.static yX6_within, Cond.code yX6_within cX6_within 3 (some .boolean), Cond.methodLink RX6 202 yX6_imageOf, Cond.instanceMethod yX6_imageOf, Cond.selects RX6 yX6_imageOf yX6_imageOf, Cond.code yX6_imageOf cX6_imageOf 2 (some (.object "OneWorse$Town")), Cond.fieldLink RX6 23 "OneWorse" "firstImage" "LOneWorse$Town;", Cond.fieldLink RX6 26 "OneWorse" "secondImage" "LOneWorse$Town;", Cond.instanceMethod yX4_isKept, Cond.initialized RX4, Cond.selects RX4 yX4_isKept yX4_isKept, Cond.code yX4_isKept cX4_isKept 1 (some .boolean), Cond.fieldLink RX4 24 "OneWorse$Town" "kept" "Z", Cond.instanceMethod yX4_copy, Cond.selects RX4 yX4_copy yX4_copy, Cond.code yX4_copy cX4_copy 3 none, Cond.fieldLink RX4 9 "OneWorse$Town" "worse" "[I", Cond.fieldLink RX4 15 "OneWorse$Town" "needed" "[I"]
def wsX6_restore_r2 : List Cond := [Cond.fieldLink RX4 18 "OneWorse$Town" "traits" "[I", Cond.fieldLink RX4 21 "OneWorse$Town" "known" "[I", Cond.methodLink RX4 36 yX4_worseThan, Cond.instanceMethod yX4_worseThan, Cond.selects RX4 yX4_worseThan yX4_worseThan, Cond.code yX4_worseThan cX4_worseThan 2 (some .int), Cond.static yX6_at, Cond.code yX6_at cX6_at 2 (some .int), Cond.static yX6_store, Cond.code yX6_store cX6_store 3 none, Cond.methodLink RX4 47 yX4_neededBy, Cond.instanceMethod yX4_neededBy, Cond.selects RX4 yX4_neededBy yX4_neededBy, Cond.code yX4_neededBy cX4_neededBy 2 (some .int), Cond.methodLink RX4 44 yX4_traitsOf, Cond.instanceMethod yX4_traitsOf, Cond.selects RX4 yX4_traitsOf yX4_traitsOf, Cond.code yX4_traitsOf cX4_traitsOf 2 (some .int), Cond.methodLink RX4 50 yX4_knownTo, Cond.instanceMethod yX4_knownTo, Cond.selects RX4 yX4_knownTo yX4_knownTo, Cond.code yX4_knownTo cX4_knownTo 2 (some .int)]
def wsX6_restore : List Cond := .code yX6_restore cX6_restore 2 (some .int) :: ((wsX6_restore_r1 ++ wsX6_restore_r2) ++ wsX60 ++ wsX40)
def wsX6_join_r1 : List Cond := [Cond.fieldLink RX6 19 "OneWorse" "town" "LOneWorse$Town;", Cond.methodLink RX6 199 yX6_isImage, Cond.static yX6_isImage, Cond.initialized RX6, Cond.code yX6_isImage cX6_isImage 1 (some .boolean), Cond.methodLink RX6 59 yX6_within, Cond.static yX6_within, Cond.code yX6_within cX6_within 3 (some .boolean), Cond.methodLink RX6 202 yX6_imageOf, Cond.instanceMethod yX6_imageOf, Cond.selects RX6 yX6_imageOf yX6_imageOf, Cond.code yX6_imageOf cX6_imageOf 2 (some (.object "OneWorse$Town")), Cond.fieldLink RX6 23 "OneWorse" "firstImage" "LOneWorse$Town;", Cond.fieldLink RX6 26 "OneWorse" "secondImage" "LOneWorse$Town;", Cond.instanceMethod yX4_isKept, Cond.initialized RX4, Cond.selects RX4 yX4_isKept yX4_isKept, Cond.code yX4_isKept cX4_isKept 1 (some .boolean), Cond.fieldLink RX4 24 "OneWorse$Town" "kept" "Z", Cond.instanceMethod yX4_addSteps, Cond.selects RX4 yX4_addSteps yX4_addSteps, Cond.code yX4_addSteps cX4_addSteps 3 none, Cond.fieldLink RX4 9 "OneWorse$Town" "worse" "[I", Cond.methodLink RX4 36 yX4_worseThan]
def wsX6_join_r2 : List Cond := [Cond.instanceMethod yX4_worseThan, Cond.selects RX4 yX4_worseThan yX4_worseThan, Cond.code yX4_worseThan cX4_worseThan 2 (some .int), Cond.static yX6_at, Cond.code yX6_at cX6_at 2 (some .int), Cond.static yX6_store, Cond.code yX6_store cX6_store 3 none, Cond.instanceMethod yX4_countSteps, Cond.selects RX4 yX4_countSteps yX4_countSteps, Cond.code yX4_countSteps cX4_countSteps 3 (some .int), Cond.methodLink RX4 56 yJ6_bitCount_0f7a4, Cond.static yJ6_bitCount_0f7a4, Cond.initialized RJ6, Cond.code yJ6_bitCount_0f7a4 cJ6_bitCount_0f7a4 1 (some .int), Cond.constant RJ6 265 (1431655765), Cond.constant RJ6 266 (858993459), Cond.constant RJ6 267 (252645135)]
def wsX6_join : List Cond := .code yX6_join cX6_join 2 (some .int) :: ((wsX6_join_r1 ++ wsX6_join_r2) ++ wsX60 ++ wsX40)
def wsX6_told_r1 : List Cond := [Cond.fieldLink RX6 10 "OneWorse" "pad" "LOneWorse$Pad;", Cond.fieldLink RX6 19 "OneWorse" "town" "LOneWorse$Town;", Cond.instanceMethod yX3_size, Cond.initialized RX3, Cond.selects RX3 yX3_size yX3_size, Cond.code yX3_size cX3_size 1 (some .int), Cond.fieldLink RX3 15 "OneWorse$Pad" "size" "I", Cond.instanceMethod yX4_countSteps, Cond.initialized RX4, Cond.selects RX4 yX4_countSteps yX4_countSteps, Cond.code yX4_countSteps cX4_countSteps 3 (some .int), Cond.methodLink RX4 36 yX4_worseThan, Cond.instanceMethod yX4_worseThan, Cond.selects RX4 yX4_worseThan yX4_worseThan, Cond.code yX4_worseThan cX4_worseThan 2 (some .int), Cond.fieldLink RX4 9 "OneWorse$Town" "worse" "[I", Cond.static yX6_at, Cond.initialized RX6, Cond.code yX6_at cX6_at 2 (some .int), Cond.methodLink RX4 56 yJ6_bitCount_0f7a4, Cond.static yJ6_bitCount_0f7a4, Cond.initialized RJ6, Cond.code yJ6_bitCount_0f7a4 cJ6_bitCount_0f7a4 1 (some .int), Cond.constant RJ6 265 (1431655765)]
def wsX6_told_r2 : List Cond := [Cond.constant RJ6 266 (858993459), Cond.constant RJ6 267 (252645135), Cond.methodLink RX6 59 yX6_within, Cond.static yX6_within, Cond.code yX6_within cX6_within 3 (some .boolean), Cond.instanceMethod yX4_neededBy, Cond.selects RX4 yX4_neededBy yX4_neededBy, Cond.code yX4_neededBy cX4_neededBy 2 (some .int), Cond.fieldLink RX4 15 "OneWorse$Town" "needed" "[I", Cond.instanceMethod yX4_traitsOf, Cond.selects RX4 yX4_traitsOf yX4_traitsOf, Cond.code yX4_traitsOf cX4_traitsOf 2 (some .int), Cond.fieldLink RX4 18 "OneWorse$Town" "traits" "[I", Cond.instanceMethod yX4_knownTo, Cond.selects RX4 yX4_knownTo yX4_knownTo, Cond.code yX4_knownTo cX4_knownTo 2 (some .int), Cond.fieldLink RX4 21 "OneWorse$Town" "known" "[I"]
def wsX6_told : List Cond := .code yX6_told cX6_told 2 (some .int) :: ((wsX6_told_r1 ++ wsX6_told_r2) ++ wsX60 ++ wsX30 ++ wsX40)
def wsX7_init : List Cond := .code yX7_init cX7_init 2 none :: ([.methodLink RX7 1 objectInit, .instanceMethod objectInit, .code objectInit ⟨#[0xb1]⟩ 1 none, .arrayClass .int, .fieldLink RX7 7 "OneWorseModel" "pad" "[I", .fieldLink RX7 13 "OneWorseModel" "book" "[I", .fieldLink RX7 16 "OneWorseModel" "need" "[I", .fieldLink RX7 19 "OneWorseModel" "traits" "[I", .fieldLink RX7 22 "OneWorseModel" "knows" "[I", .fieldLink RX7 25 "OneWorseModel" "value" "[I", .fieldLink RX7 28 "OneWorseModel" "can" "[I", .fieldLink RX7 31 "OneWorseModel" "row" "[I", .fieldLink RX7 34 "OneWorseModel" "said" "[I", .arrayClass .boolean, .fieldLink RX7 37 "OneWorseModel" "day" "[Z", .fieldLink RX7 41 "OneWorseModel" "days" "[I", .fieldLink RX7 44 "OneWorseModel" "back" "[I", .fieldLink RX7 47 "OneWorseModel" "placeOf" "[I", .fieldLink RX7 50 "OneWorseModel" "high" "[I", .fieldLink RX7 53 "OneWorseModel" "image" "[I", .fieldLink RX7 56 "OneWorseModel" "isKept" "[Z"] ++ wsX70)
def wsX7_in : List Cond := .code yX7_in cX7_in 3 (some .boolean) :: ([])
def wsX7_has : List Cond := .code yX7_has cX7_has 2 (some .boolean) :: ([])
def wsX7_bits : List Cond := .code yX7_bits cX7_bits 3 (some .int) :: ([])
def wsX7_isInsult : List Cond := .code yX7_isInsult cX7_isInsult 1 (some .boolean) :: ([.methodLink RX7 59 yX7_in, .static yX7_in, .initialized RX7, .code yX7_in cX7_in 3 (some .boolean)])
def wsX7_isMan : List Cond := .code yX7_isMan cX7_isMan 1 (some .boolean) :: ([.methodLink RX7 59 yX7_in, .static yX7_in, .initialized RX7, .code yX7_in cX7_in 3 (some .boolean)])
def wsX7_areTwo : List Cond := .code yX7_areTwo cX7_areTwo 2 (some .boolean) :: ([.methodLink RX7 63 yX7_isMan, .static yX7_isMan, .initialized RX7, .code yX7_isMan cX7_isMan 1 (some .boolean), .methodLink RX7 59 yX7_in, .static yX7_in, .code yX7_in cX7_in 3 (some .boolean)])
def wsX7_say : List Cond := .code yX7_say cX7_say 2 (some .int) :: ([.fieldLink RX7 67 "OneWorseModel" "signs" "I", .fieldLink RX7 7 "OneWorseModel" "pad" "[I", .methodLink RX7 59 yX7_in, .static yX7_in, .initialized RX7, .code yX7_in cX7_in 3 (some .boolean)] ++ wsX70)
def wsX7_wipe : List Cond := .code yX7_wipe cX7_wipe 2 (some .int) :: ([.fieldLink RX7 67 "OneWorseModel" "signs" "I"] ++ wsX70)
def wsX7_isName : List Cond := .code yX7_isName cX7_isName 1 (some .boolean) :: ([.methodLink RX7 59 yX7_in, .static yX7_in, .initialized RX7, .code yX7_in cX7_in 3 (some .boolean)])
def wsX7_stepsFault : List Cond := .code yX7_stepsFault cX7_stepsFault 5 (some .int) :: ([.fieldLink RX7 67 "OneWorseModel" "signs" "I", .fieldLink RX7 7 "OneWorseModel" "pad" "[I", .methodLink RX7 71 yX7_isName, .static yX7_isName, .initialized RX7, .code yX7_isName cX7_isName 1 (some .boolean), .methodLink RX7 59 yX7_in, .static yX7_in, .code yX7_in cX7_in 3 (some .boolean)] ++ wsX70)
def wsX7_quarrelFault : List Cond := .code yX7_quarrelFault cX7_quarrelFault 3 (some .int) :: ([.fieldLink RX7 67 "OneWorseModel" "signs" "I", .fieldLink RX7 7 "OneWorseModel" "pad" "[I", .methodLink RX7 71 yX7_isName, .static yX7_isName, .initialized RX7, .code yX7_isName cX7_isName 1 (some .boolean), .methodLink RX7 59 yX7_in, .static yX7_in, .code yX7_in cX7_in 3 (some .boolean)] ++ wsX70)
def wsX7_fault : List Cond := .code yX7_fault cX7_fault 2 (some .int) :: ([.methodLink RX7 74 yX7_stepsFault, .instanceMethod yX7_stepsFault, .selects RX7 yX7_stepsFault yX7_stepsFault, .initialized RX7, .code yX7_stepsFault cX7_stepsFault 5 (some .int), .fieldLink RX7 67 "OneWorseModel" "signs" "I", .fieldLink RX7 7 "OneWorseModel" "pad" "[I", .methodLink RX7 71 yX7_isName, .static yX7_isName, .code yX7_isName cX7_isName 1 (some .boolean), .methodLink RX7 59 yX7_in, .static yX7_in, .code yX7_in cX7_in 3 (some .boolean), .methodLink RX7 78 yX7_quarrelFault, .instanceMethod yX7_quarrelFault, .selects RX7 yX7_quarrelFault yX7_quarrelFault, .code yX7_quarrelFault cX7_quarrelFault 3 (some .int)] ++ wsX70)
def wsX7_allSteps : List Cond := .code yX7_allSteps cX7_allSteps 3 (some .int) :: ([.fieldLink RX7 13 "OneWorseModel" "book" "[I", .methodLink RX7 81 yX7_bits, .static yX7_bits, .initialized RX7, .code yX7_bits cX7_bits 3 (some .int)] ++ wsX70)
def wsX7_steps : List Cond := .code yX7_steps cX7_steps 2 (some .int) :: ([.fieldLink RX7 67 "OneWorseModel" "signs" "I", .fieldLink RX7 7 "OneWorseModel" "pad" "[I", .fieldLink RX7 13 "OneWorseModel" "book" "[I", .methodLink RX7 74 yX7_stepsFault, .instanceMethod yX7_stepsFault, .selects RX7 yX7_stepsFault yX7_stepsFault, .initialized RX7, .code yX7_stepsFault cX7_stepsFault 5 (some .int), .methodLink RX7 71 yX7_isName, .static yX7_isName, .code yX7_isName cX7_isName 1 (some .boolean), .methodLink RX7 59 yX7_in, .static yX7_in, .code yX7_in cX7_in 3 (some .boolean), .methodLink RX7 85 yX7_allSteps, .instanceMethod yX7_allSteps, .selects RX7 yX7_allSteps yX7_allSteps, .code yX7_allSteps cX7_allSteps 3 (some .int), .methodLink RX7 81 yX7_bits, .static yX7_bits, .code yX7_bits cX7_bits 3 (some .int)] ++ wsX70)
def wsX7_step : List Cond := .code yX7_step cX7_step 5 (some .int) :: ([.fieldLink RX7 13 "OneWorseModel" "book" "[I", .methodLink RX7 88 yX7_isInsult, .static yX7_isInsult, .initialized RX7, .code yX7_isInsult cX7_isInsult 1 (some .boolean), .methodLink RX7 59 yX7_in, .static yX7_in, .code yX7_in cX7_in 3 (some .boolean)] ++ wsX70)
def wsX7_needs : List Cond := .code yX7_needs cX7_needs 4 (some .int) :: ([.fieldLink RX7 16 "OneWorseModel" "need" "[I", .methodLink RX7 88 yX7_isInsult, .static yX7_isInsult, .initialized RX7, .code yX7_isInsult cX7_isInsult 1 (some .boolean), .methodLink RX7 59 yX7_in, .static yX7_in, .code yX7_in cX7_in 3 (some .boolean)] ++ wsX70)
def wsX7_man : List Cond := .code yX7_man cX7_man 5 (some .int) :: ([.fieldLink RX7 19 "OneWorseModel" "traits" "[I", .fieldLink RX7 22 "OneWorseModel" "knows" "[I", .methodLink RX7 63 yX7_isMan, .static yX7_isMan, .initialized RX7, .code yX7_isMan cX7_isMan 1 (some .boolean), .methodLink RX7 59 yX7_in, .static yX7_in, .code yX7_in cX7_in 3 (some .boolean)] ++ wsX70)
def wsX7_fitOf : List Cond := .code yX7_fitOf cX7_fitOf 4 (some .int) :: ([.fieldLink RX7 16 "OneWorseModel" "need" "[I", .fieldLink RX7 19 "OneWorseModel" "traits" "[I"] ++ wsX70)
def wsX7_fit : List Cond := .code yX7_fit cX7_fit 2 (some .int) :: ([.methodLink RX7 63 yX7_isMan, .static yX7_isMan, .initialized RX7, .code yX7_isMan cX7_isMan 1 (some .boolean), .methodLink RX7 59 yX7_in, .static yX7_in, .code yX7_in cX7_in 3 (some .boolean), .methodLink RX7 91 yX7_fitOf, .instanceMethod yX7_fitOf, .selects RX7 yX7_fitOf yX7_fitOf, .code yX7_fitOf cX7_fitOf 4 (some .int), .fieldLink RX7 16 "OneWorseModel" "need" "[I", .fieldLink RX7 19 "OneWorseModel" "traits" "[I"] ++ wsX70)
def wsX7_whyNot : List Cond := .code yX7_whyNot cX7_whyNot 6 (some .int) :: ([.fieldLink RX7 7 "OneWorseModel" "pad" "[I", .fieldLink RX7 13 "OneWorseModel" "book" "[I", .fieldLink RX7 67 "OneWorseModel" "signs" "I", .fieldLink RX7 22 "OneWorseModel" "knows" "[I", .methodLink RX7 94 yX7_has, .static yX7_has, .initialized RX7, .code yX7_has cX7_has 2 (some .boolean), .methodLink RX7 91 yX7_fitOf, .instanceMethod yX7_fitOf, .selects RX7 yX7_fitOf yX7_fitOf, .code yX7_fitOf cX7_fitOf 4 (some .int), .fieldLink RX7 16 "OneWorseModel" "need" "[I", .fieldLink RX7 19 "OneWorseModel" "traits" "[I"] ++ wsX70)
def wsX7_judge_r1 : List Cond := [Cond.fieldLink RX7 67 "OneWorseModel" "signs" "I", Cond.methodLink RX7 59 yX7_in, Cond.static yX7_in, Cond.initialized RX7, Cond.code yX7_in cX7_in 3 (some .boolean), Cond.methodLink RX7 78 yX7_quarrelFault, Cond.instanceMethod yX7_quarrelFault, Cond.selects RX7 yX7_quarrelFault yX7_quarrelFault, Cond.code yX7_quarrelFault cX7_quarrelFault 3 (some .int), Cond.fieldLink RX7 7 "OneWorseModel" "pad" "[I", Cond.methodLink RX7 71 yX7_isName, Cond.static yX7_isName, Cond.code yX7_isName cX7_isName 1 (some .boolean), Cond.methodLink RX7 98 yX7_whyNot, Cond.instanceMethod yX7_whyNot, Cond.selects RX7 yX7_whyNot yX7_whyNot, Cond.code yX7_whyNot cX7_whyNot 6 (some .int), Cond.fieldLink RX7 13 "OneWorseModel" "book" "[I", Cond.fieldLink RX7 22 "OneWorseModel" "knows" "[I", Cond.methodLink RX7 94 yX7_has, Cond.static yX7_has, Cond.code yX7_has cX7_has 2 (some .boolean), Cond.methodLink RX7 91 yX7_fitOf, Cond.instanceMethod yX7_fitOf]
def wsX7_judge_r2 : List Cond := [Cond.selects RX7 yX7_fitOf yX7_fitOf, Cond.code yX7_fitOf cX7_fitOf 4 (some .int), Cond.fieldLink RX7 16 "OneWorseModel" "need" "[I", Cond.fieldLink RX7 19 "OneWorseModel" "traits" "[I"]
def wsX7_judge : List Cond := .code yX7_judge cX7_judge 4 (some .int) :: ((wsX7_judge_r1 ++ wsX7_judge_r2) ++ wsX70)
def wsX7_at : List Cond := .code yX7_at cX7_at 3 (some .int) :: ([])
def wsX7_isBetter : List Cond := .code yX7_isBetter cX7_isBetter 5 (some .boolean) :: ([])
def wsX7_bestOf : List Cond := .code yX7_bestOf cX7_bestOf 7 (some .int) :: ([.fieldLink RX7 101 "OneWorseModel" "chosen" "I", .fieldLink RX7 25 "OneWorseModel" "value" "[I", .methodLink RX7 94 yX7_has, .static yX7_has, .initialized RX7, .code yX7_has cX7_has 2 (some .boolean), .methodLink RX7 104 yX7_at, .static yX7_at, .code yX7_at cX7_at 3 (some .int), .methodLink RX7 108 yX7_isBetter, .static yX7_isBetter, .code yX7_isBetter cX7_isBetter 5 (some .boolean)] ++ wsX70)
def wsX7_layMatch_r1 : List Cond := [Cond.fieldLink RX7 28 "OneWorseModel" "can" "[I", Cond.fieldLink RX7 22 "OneWorseModel" "knows" "[I", Cond.fieldLink RX7 25 "OneWorseModel" "value" "[I", Cond.fieldLink RX7 13 "OneWorseModel" "book" "[I", Cond.methodLink RX7 91 yX7_fitOf, Cond.instanceMethod yX7_fitOf, Cond.selects RX7 yX7_fitOf yX7_fitOf, Cond.initialized RX7, Cond.code yX7_fitOf cX7_fitOf 4 (some .int), Cond.fieldLink RX7 16 "OneWorseModel" "need" "[I", Cond.fieldLink RX7 19 "OneWorseModel" "traits" "[I", Cond.methodLink RX7 94 yX7_has, Cond.static yX7_has, Cond.code yX7_has cX7_has 2 (some .boolean), Cond.methodLink RX7 104 yX7_at, Cond.static yX7_at, Cond.code yX7_at cX7_at 3 (some .int), Cond.methodLink RX7 111 yX7_bestOf, Cond.instanceMethod yX7_bestOf, Cond.selects RX7 yX7_bestOf yX7_bestOf, Cond.code yX7_bestOf cX7_bestOf 7 (some .int), Cond.fieldLink RX7 101 "OneWorseModel" "chosen" "I", Cond.methodLink RX7 108 yX7_isBetter, Cond.static yX7_isBetter]
def wsX7_layMatch_r2 : List Cond := [Cond.code yX7_isBetter cX7_isBetter 5 (some .boolean)]
def wsX7_layMatch : List Cond := .code yX7_layMatch cX7_layMatch 6 none :: ((wsX7_layMatch_r1 ++ wsX7_layMatch_r2) ++ wsX70)
def wsX7_toldOf : List Cond := .code yX7_toldOf cX7_toldOf 5 (some .int) :: ([])
def wsX7_match_r1 : List Cond := [Cond.fieldLink RX7 28 "OneWorseModel" "can" "[I", Cond.fieldLink RX7 101 "OneWorseModel" "chosen" "I", Cond.methodLink RX7 114 yX7_areTwo, Cond.static yX7_areTwo, Cond.initialized RX7, Cond.code yX7_areTwo cX7_areTwo 2 (some .boolean), Cond.methodLink RX7 63 yX7_isMan, Cond.static yX7_isMan, Cond.code yX7_isMan cX7_isMan 1 (some .boolean), Cond.methodLink RX7 59 yX7_in, Cond.static yX7_in, Cond.code yX7_in cX7_in 3 (some .boolean), Cond.methodLink RX7 117 yX7_layMatch, Cond.instanceMethod yX7_layMatch, Cond.selects RX7 yX7_layMatch yX7_layMatch, Cond.code yX7_layMatch cX7_layMatch 6 none, Cond.fieldLink RX7 22 "OneWorseModel" "knows" "[I", Cond.fieldLink RX7 25 "OneWorseModel" "value" "[I", Cond.fieldLink RX7 13 "OneWorseModel" "book" "[I", Cond.methodLink RX7 91 yX7_fitOf, Cond.instanceMethod yX7_fitOf, Cond.selects RX7 yX7_fitOf yX7_fitOf, Cond.code yX7_fitOf cX7_fitOf 4 (some .int), Cond.fieldLink RX7 16 "OneWorseModel" "need" "[I"]
def wsX7_match_r2 : List Cond := [Cond.fieldLink RX7 19 "OneWorseModel" "traits" "[I", Cond.methodLink RX7 94 yX7_has, Cond.static yX7_has, Cond.code yX7_has cX7_has 2 (some .boolean), Cond.methodLink RX7 104 yX7_at, Cond.static yX7_at, Cond.code yX7_at cX7_at 3 (some .int), Cond.methodLink RX7 111 yX7_bestOf, Cond.instanceMethod yX7_bestOf, Cond.selects RX7 yX7_bestOf yX7_bestOf, Cond.code yX7_bestOf cX7_bestOf 7 (some .int), Cond.methodLink RX7 108 yX7_isBetter, Cond.static yX7_isBetter, Cond.code yX7_isBetter cX7_isBetter 5 (some .boolean), Cond.methodLink RX7 121 yX7_toldOf, Cond.static yX7_toldOf, Cond.code yX7_toldOf cX7_toldOf 5 (some .int)]
def wsX7_match : List Cond := .code yX7_match cX7_match 5 (some .int) :: ((wsX7_match_r1 ++ wsX7_match_r2) ++ wsX70)
def wsX7_middle_r1 : List Cond := [Cond.fieldLink RX7 13 "OneWorseModel" "book" "[I", Cond.fieldLink RX7 28 "OneWorseModel" "can" "[I", Cond.fieldLink RX7 101 "OneWorseModel" "chosen" "I", Cond.methodLink RX7 114 yX7_areTwo, Cond.static yX7_areTwo, Cond.initialized RX7, Cond.code yX7_areTwo cX7_areTwo 2 (some .boolean), Cond.methodLink RX7 63 yX7_isMan, Cond.static yX7_isMan, Cond.code yX7_isMan cX7_isMan 1 (some .boolean), Cond.methodLink RX7 59 yX7_in, Cond.static yX7_in, Cond.code yX7_in cX7_in 3 (some .boolean), Cond.methodLink RX7 88 yX7_isInsult, Cond.static yX7_isInsult, Cond.code yX7_isInsult cX7_isInsult 1 (some .boolean), Cond.methodLink RX7 94 yX7_has, Cond.static yX7_has, Cond.code yX7_has cX7_has 2 (some .boolean), Cond.methodLink RX7 117 yX7_layMatch, Cond.instanceMethod yX7_layMatch, Cond.selects RX7 yX7_layMatch yX7_layMatch, Cond.code yX7_layMatch cX7_layMatch 6 none, Cond.fieldLink RX7 22 "OneWorseModel" "knows" "[I"]
def wsX7_middle_r2 : List Cond := [Cond.fieldLink RX7 25 "OneWorseModel" "value" "[I", Cond.methodLink RX7 91 yX7_fitOf, Cond.instanceMethod yX7_fitOf, Cond.selects RX7 yX7_fitOf yX7_fitOf, Cond.code yX7_fitOf cX7_fitOf 4 (some .int), Cond.fieldLink RX7 16 "OneWorseModel" "need" "[I", Cond.fieldLink RX7 19 "OneWorseModel" "traits" "[I", Cond.methodLink RX7 104 yX7_at, Cond.static yX7_at, Cond.code yX7_at cX7_at 3 (some .int), Cond.methodLink RX7 111 yX7_bestOf, Cond.instanceMethod yX7_bestOf, Cond.selects RX7 yX7_bestOf yX7_bestOf, Cond.code yX7_bestOf cX7_bestOf 7 (some .int), Cond.methodLink RX7 108 yX7_isBetter, Cond.static yX7_isBetter, Cond.code yX7_isBetter cX7_isBetter 5 (some .boolean), Cond.methodLink RX7 121 yX7_toldOf, Cond.static yX7_toldOf, Cond.code yX7_toldOf cX7_toldOf 5 (some .int)]
def wsX7_middle : List Cond := .code yX7_middle cX7_middle 7 (some .int) :: ((wsX7_middle_r1 ++ wsX7_middle_r2) ++ wsX70)
def wsX7_last_r1 : List Cond := [Cond.fieldLink RX7 28 "OneWorseModel" "can" "[I", Cond.fieldLink RX7 22 "OneWorseModel" "knows" "[I", Cond.fieldLink RX7 13 "OneWorseModel" "book" "[I", Cond.fieldLink RX7 25 "OneWorseModel" "value" "[I", Cond.methodLink RX7 114 yX7_areTwo, Cond.static yX7_areTwo, Cond.initialized RX7, Cond.code yX7_areTwo cX7_areTwo 2 (some .boolean), Cond.methodLink RX7 63 yX7_isMan, Cond.static yX7_isMan, Cond.code yX7_isMan cX7_isMan 1 (some .boolean), Cond.methodLink RX7 59 yX7_in, Cond.static yX7_in, Cond.code yX7_in cX7_in 3 (some .boolean), Cond.methodLink RX7 91 yX7_fitOf, Cond.instanceMethod yX7_fitOf, Cond.selects RX7 yX7_fitOf yX7_fitOf, Cond.code yX7_fitOf cX7_fitOf 4 (some .int), Cond.fieldLink RX7 16 "OneWorseModel" "need" "[I", Cond.fieldLink RX7 19 "OneWorseModel" "traits" "[I", Cond.methodLink RX7 94 yX7_has, Cond.static yX7_has, Cond.code yX7_has cX7_has 2 (some .boolean), Cond.methodLink RX7 104 yX7_at]
def wsX7_last_r2 : List Cond := [Cond.static yX7_at, Cond.code yX7_at cX7_at 3 (some .int)]
def wsX7_last : List Cond := .code yX7_last cX7_last 11 (some .int) :: ((wsX7_last_r1 ++ wsX7_last_r2) ++ wsX70)
def wsX7_payer_r1 : List Cond := [Cond.fieldLink RX7 28 "OneWorseModel" "can" "[I", Cond.methodLink RX7 117 yX7_layMatch, Cond.instanceMethod yX7_layMatch, Cond.selects RX7 yX7_layMatch yX7_layMatch, Cond.initialized RX7, Cond.code yX7_layMatch cX7_layMatch 6 none, Cond.fieldLink RX7 22 "OneWorseModel" "knows" "[I", Cond.fieldLink RX7 25 "OneWorseModel" "value" "[I", Cond.fieldLink RX7 13 "OneWorseModel" "book" "[I", Cond.methodLink RX7 91 yX7_fitOf, Cond.instanceMethod yX7_fitOf, Cond.selects RX7 yX7_fitOf yX7_fitOf, Cond.code yX7_fitOf cX7_fitOf 4 (some .int), Cond.fieldLink RX7 16 "OneWorseModel" "need" "[I", Cond.fieldLink RX7 19 "OneWorseModel" "traits" "[I", Cond.methodLink RX7 94 yX7_has, Cond.static yX7_has, Cond.code yX7_has cX7_has 2 (some .boolean), Cond.methodLink RX7 104 yX7_at, Cond.static yX7_at, Cond.code yX7_at cX7_at 3 (some .int), Cond.methodLink RX7 111 yX7_bestOf, Cond.instanceMethod yX7_bestOf, Cond.selects RX7 yX7_bestOf yX7_bestOf]
def wsX7_payer_r2 : List Cond := [Cond.code yX7_bestOf cX7_bestOf 7 (some .int), Cond.fieldLink RX7 101 "OneWorseModel" "chosen" "I", Cond.methodLink RX7 108 yX7_isBetter, Cond.static yX7_isBetter, Cond.code yX7_isBetter cX7_isBetter 5 (some .boolean)]
def wsX7_payer : List Cond := .code yX7_payer cX7_payer 3 (some .int) :: ((wsX7_payer_r1 ++ wsX7_payer_r2) ++ wsX70)
def wsX7_sent_r1 : List Cond := [Cond.methodLink RX7 63 yX7_isMan, Cond.static yX7_isMan, Cond.initialized RX7, Cond.code yX7_isMan cX7_isMan 1 (some .boolean), Cond.methodLink RX7 59 yX7_in, Cond.static yX7_in, Cond.code yX7_in cX7_in 3 (some .boolean), Cond.methodLink RX7 125 yX7_payer, Cond.instanceMethod yX7_payer, Cond.selects RX7 yX7_payer yX7_payer, Cond.code yX7_payer cX7_payer 3 (some .int), Cond.fieldLink RX7 28 "OneWorseModel" "can" "[I", Cond.methodLink RX7 117 yX7_layMatch, Cond.instanceMethod yX7_layMatch, Cond.selects RX7 yX7_layMatch yX7_layMatch, Cond.code yX7_layMatch cX7_layMatch 6 none, Cond.fieldLink RX7 22 "OneWorseModel" "knows" "[I", Cond.fieldLink RX7 25 "OneWorseModel" "value" "[I", Cond.fieldLink RX7 13 "OneWorseModel" "book" "[I", Cond.methodLink RX7 91 yX7_fitOf, Cond.instanceMethod yX7_fitOf, Cond.selects RX7 yX7_fitOf yX7_fitOf, Cond.code yX7_fitOf cX7_fitOf 4 (some .int), Cond.fieldLink RX7 16 "OneWorseModel" "need" "[I"]
def wsX7_sent_r2 : List Cond := [Cond.fieldLink RX7 19 "OneWorseModel" "traits" "[I", Cond.methodLink RX7 94 yX7_has, Cond.static yX7_has, Cond.code yX7_has cX7_has 2 (some .boolean), Cond.methodLink RX7 104 yX7_at, Cond.static yX7_at, Cond.code yX7_at cX7_at 3 (some .int), Cond.methodLink RX7 111 yX7_bestOf, Cond.instanceMethod yX7_bestOf, Cond.selects RX7 yX7_bestOf yX7_bestOf, Cond.code yX7_bestOf cX7_bestOf 7 (some .int), Cond.fieldLink RX7 101 "OneWorseModel" "chosen" "I", Cond.methodLink RX7 108 yX7_isBetter, Cond.static yX7_isBetter, Cond.code yX7_isBetter cX7_isBetter 5 (some .boolean)]
def wsX7_sent : List Cond := .code yX7_sent cX7_sent 6 (some .int) :: ((wsX7_sent_r1 ++ wsX7_sent_r2) ++ wsX70)
def wsX7_safe : List Cond := .code yX7_safe cX7_safe 4 (some .int) :: ([.fieldLink RX7 22 "OneWorseModel" "knows" "[I", .methodLink RX7 63 yX7_isMan, .static yX7_isMan, .initialized RX7, .code yX7_isMan cX7_isMan 1 (some .boolean), .methodLink RX7 59 yX7_in, .static yX7_in, .code yX7_in cX7_in 3 (some .boolean), .methodLink RX7 91 yX7_fitOf, .instanceMethod yX7_fitOf, .selects RX7 yX7_fitOf yX7_fitOf, .code yX7_fitOf cX7_fitOf 4 (some .int), .fieldLink RX7 16 "OneWorseModel" "need" "[I", .fieldLink RX7 19 "OneWorseModel" "traits" "[I"] ++ wsX70)
def wsX7_freeMatches_r1 : List Cond := [Cond.methodLink RX7 125 yX7_payer, Cond.instanceMethod yX7_payer, Cond.selects RX7 yX7_payer yX7_payer, Cond.initialized RX7, Cond.code yX7_payer cX7_payer 3 (some .int), Cond.fieldLink RX7 28 "OneWorseModel" "can" "[I", Cond.methodLink RX7 117 yX7_layMatch, Cond.instanceMethod yX7_layMatch, Cond.selects RX7 yX7_layMatch yX7_layMatch, Cond.code yX7_layMatch cX7_layMatch 6 none, Cond.fieldLink RX7 22 "OneWorseModel" "knows" "[I", Cond.fieldLink RX7 25 "OneWorseModel" "value" "[I", Cond.fieldLink RX7 13 "OneWorseModel" "book" "[I", Cond.methodLink RX7 91 yX7_fitOf, Cond.instanceMethod yX7_fitOf, Cond.selects RX7 yX7_fitOf yX7_fitOf, Cond.code yX7_fitOf cX7_fitOf 4 (some .int), Cond.fieldLink RX7 16 "OneWorseModel" "need" "[I", Cond.fieldLink RX7 19 "OneWorseModel" "traits" "[I", Cond.methodLink RX7 94 yX7_has, Cond.static yX7_has, Cond.code yX7_has cX7_has 2 (some .boolean), Cond.methodLink RX7 104 yX7_at, Cond.static yX7_at]
def wsX7_freeMatches_r2 : List Cond := [Cond.code yX7_at cX7_at 3 (some .int), Cond.methodLink RX7 111 yX7_bestOf, Cond.instanceMethod yX7_bestOf, Cond.selects RX7 yX7_bestOf yX7_bestOf, Cond.code yX7_bestOf cX7_bestOf 7 (some .int), Cond.fieldLink RX7 101 "OneWorseModel" "chosen" "I", Cond.methodLink RX7 108 yX7_isBetter, Cond.static yX7_isBetter, Cond.code yX7_isBetter cX7_isBetter 5 (some .boolean)]
def wsX7_freeMatches : List Cond := .code yX7_freeMatches cX7_freeMatches 4 (some .int) :: ((wsX7_freeMatches_r1 ++ wsX7_freeMatches_r2) ++ wsX70)
def wsX7_worth_r1 : List Cond := [Cond.fieldLink RX7 22 "OneWorseModel" "knows" "[I", Cond.methodLink RX7 88 yX7_isInsult, Cond.static yX7_isInsult, Cond.initialized RX7, Cond.code yX7_isInsult cX7_isInsult 1 (some .boolean), Cond.methodLink RX7 59 yX7_in, Cond.static yX7_in, Cond.code yX7_in cX7_in 3 (some .boolean), Cond.methodLink RX7 63 yX7_isMan, Cond.static yX7_isMan, Cond.code yX7_isMan cX7_isMan 1 (some .boolean), Cond.methodLink RX7 94 yX7_has, Cond.static yX7_has, Cond.code yX7_has cX7_has 2 (some .boolean), Cond.methodLink RX7 129 yX7_freeMatches, Cond.instanceMethod yX7_freeMatches, Cond.selects RX7 yX7_freeMatches yX7_freeMatches, Cond.code yX7_freeMatches cX7_freeMatches 4 (some .int), Cond.methodLink RX7 125 yX7_payer, Cond.instanceMethod yX7_payer, Cond.selects RX7 yX7_payer yX7_payer, Cond.code yX7_payer cX7_payer 3 (some .int), Cond.fieldLink RX7 28 "OneWorseModel" "can" "[I", Cond.methodLink RX7 117 yX7_layMatch]
def wsX7_worth_r2 : List Cond := [Cond.instanceMethod yX7_layMatch, Cond.selects RX7 yX7_layMatch yX7_layMatch, Cond.code yX7_layMatch cX7_layMatch 6 none, Cond.fieldLink RX7 25 "OneWorseModel" "value" "[I", Cond.fieldLink RX7 13 "OneWorseModel" "book" "[I", Cond.methodLink RX7 91 yX7_fitOf, Cond.instanceMethod yX7_fitOf, Cond.selects RX7 yX7_fitOf yX7_fitOf, Cond.code yX7_fitOf cX7_fitOf 4 (some .int), Cond.fieldLink RX7 16 "OneWorseModel" "need" "[I", Cond.fieldLink RX7 19 "OneWorseModel" "traits" "[I", Cond.methodLink RX7 104 yX7_at, Cond.static yX7_at, Cond.code yX7_at cX7_at 3 (some .int), Cond.methodLink RX7 111 yX7_bestOf, Cond.instanceMethod yX7_bestOf, Cond.selects RX7 yX7_bestOf yX7_bestOf, Cond.code yX7_bestOf cX7_bestOf 7 (some .int), Cond.fieldLink RX7 101 "OneWorseModel" "chosen" "I", Cond.methodLink RX7 108 yX7_isBetter, Cond.static yX7_isBetter, Cond.code yX7_isBetter cX7_isBetter 5 (some .boolean)]
def wsX7_worth : List Cond := .code yX7_worth cX7_worth 5 (some .int) :: ((wsX7_worth_r1 ++ wsX7_worth_r2) ++ wsX70)
def wsX7_fitsAt : List Cond := .code yX7_fitsAt cX7_fitsAt 6 (some .boolean) :: ([.fieldLink RX7 34 "OneWorseModel" "said" "[I", .fieldLink RX7 22 "OneWorseModel" "knows" "[I", .fieldLink RX7 31 "OneWorseModel" "row" "[I", .fieldLink RX7 13 "OneWorseModel" "book" "[I", .methodLink RX7 94 yX7_has, .static yX7_has, .initialized RX7, .code yX7_has cX7_has 2 (some .boolean), .methodLink RX7 91 yX7_fitOf, .instanceMethod yX7_fitOf, .selects RX7 yX7_fitOf yX7_fitOf, .code yX7_fitOf cX7_fitOf 4 (some .int), .fieldLink RX7 16 "OneWorseModel" "need" "[I", .fieldLink RX7 19 "OneWorseModel" "traits" "[I"] ++ wsX70)
def wsX7_canSay : List Cond := .code yX7_canSay cX7_canSay 3 (some .boolean) :: ([.fieldLink RX7 34 "OneWorseModel" "said" "[I", .methodLink RX7 132 yX7_fitsAt, .instanceMethod yX7_fitsAt, .selects RX7 yX7_fitsAt yX7_fitsAt, .initialized RX7, .code yX7_fitsAt cX7_fitsAt 6 (some .boolean), .fieldLink RX7 22 "OneWorseModel" "knows" "[I", .fieldLink RX7 31 "OneWorseModel" "row" "[I", .fieldLink RX7 13 "OneWorseModel" "book" "[I", .methodLink RX7 94 yX7_has, .static yX7_has, .code yX7_has cX7_has 2 (some .boolean), .methodLink RX7 91 yX7_fitOf, .instanceMethod yX7_fitOf, .selects RX7 yX7_fitOf yX7_fitOf, .code yX7_fitOf cX7_fitOf 4 (some .int), .fieldLink RX7 16 "OneWorseModel" "need" "[I", .fieldLink RX7 19 "OneWorseModel" "traits" "[I"] ++ wsX70)
def wsX7_layRow : List Cond := .code yX7_layRow cX7_layRow 7 (some .boolean) :: ([.fieldLink RX7 31 "OneWorseModel" "row" "[I", .methodLink RX7 81 yX7_bits, .static yX7_bits, .initialized RX7, .code yX7_bits cX7_bits 3 (some .int)] ++ wsX70)
def wsX7_layDay_r1 : List Cond := [Cond.fieldLink RX7 37 "OneWorseModel" "day" "[Z", Cond.methodLink RX7 81 yX7_bits, Cond.static yX7_bits, Cond.initialized RX7, Cond.code yX7_bits cX7_bits 3 (some .int), Cond.methodLink RX7 135 yX7_layRow, Cond.instanceMethod yX7_layRow, Cond.selects RX7 yX7_layRow yX7_layRow, Cond.code yX7_layRow cX7_layRow 7 (some .boolean), Cond.fieldLink RX7 31 "OneWorseModel" "row" "[I", Cond.methodLink RX7 138 yX7_canSay, Cond.instanceMethod yX7_canSay, Cond.selects RX7 yX7_canSay yX7_canSay, Cond.code yX7_canSay cX7_canSay 3 (some .boolean), Cond.fieldLink RX7 34 "OneWorseModel" "said" "[I", Cond.methodLink RX7 132 yX7_fitsAt, Cond.instanceMethod yX7_fitsAt, Cond.selects RX7 yX7_fitsAt yX7_fitsAt, Cond.code yX7_fitsAt cX7_fitsAt 6 (some .boolean), Cond.fieldLink RX7 22 "OneWorseModel" "knows" "[I", Cond.fieldLink RX7 13 "OneWorseModel" "book" "[I", Cond.methodLink RX7 94 yX7_has, Cond.static yX7_has, Cond.code yX7_has cX7_has 2 (some .boolean)]
def wsX7_layDay_r2 : List Cond := [Cond.methodLink RX7 91 yX7_fitOf, Cond.instanceMethod yX7_fitOf, Cond.selects RX7 yX7_fitOf yX7_fitOf, Cond.code yX7_fitOf cX7_fitOf 4 (some .int), Cond.fieldLink RX7 16 "OneWorseModel" "need" "[I", Cond.fieldLink RX7 19 "OneWorseModel" "traits" "[I"]
def wsX7_layDay : List Cond := .code yX7_layDay cX7_layDay 5 none :: ((wsX7_layDay_r1 ++ wsX7_layDay_r2) ++ wsX70)
def wsX7_crowd_r1 : List Cond := [Cond.fieldLink RX7 41 "OneWorseModel" "days" "[I", Cond.fieldLink RX7 37 "OneWorseModel" "day" "[Z", Cond.methodLink RX7 59 yX7_in, Cond.static yX7_in, Cond.initialized RX7, Cond.code yX7_in cX7_in 3 (some .boolean), Cond.methodLink RX7 141 yX7_layDay, Cond.instanceMethod yX7_layDay, Cond.selects RX7 yX7_layDay yX7_layDay, Cond.code yX7_layDay cX7_layDay 5 none, Cond.methodLink RX7 81 yX7_bits, Cond.static yX7_bits, Cond.code yX7_bits cX7_bits 3 (some .int), Cond.methodLink RX7 135 yX7_layRow, Cond.instanceMethod yX7_layRow, Cond.selects RX7 yX7_layRow yX7_layRow, Cond.code yX7_layRow cX7_layRow 7 (some .boolean), Cond.fieldLink RX7 31 "OneWorseModel" "row" "[I", Cond.methodLink RX7 138 yX7_canSay, Cond.instanceMethod yX7_canSay, Cond.selects RX7 yX7_canSay yX7_canSay, Cond.code yX7_canSay cX7_canSay 3 (some .boolean), Cond.fieldLink RX7 34 "OneWorseModel" "said" "[I", Cond.methodLink RX7 132 yX7_fitsAt]
def wsX7_crowd_r2 : List Cond := [Cond.instanceMethod yX7_fitsAt, Cond.selects RX7 yX7_fitsAt yX7_fitsAt, Cond.code yX7_fitsAt cX7_fitsAt 6 (some .boolean), Cond.fieldLink RX7 22 "OneWorseModel" "knows" "[I", Cond.fieldLink RX7 13 "OneWorseModel" "book" "[I", Cond.methodLink RX7 94 yX7_has, Cond.static yX7_has, Cond.code yX7_has cX7_has 2 (some .boolean), Cond.methodLink RX7 91 yX7_fitOf, Cond.instanceMethod yX7_fitOf, Cond.selects RX7 yX7_fitOf yX7_fitOf, Cond.code yX7_fitOf cX7_fitOf 4 (some .int), Cond.fieldLink RX7 16 "OneWorseModel" "need" "[I", Cond.fieldLink RX7 19 "OneWorseModel" "traits" "[I"]
def wsX7_crowd : List Cond := .code yX7_crowd cX7_crowd 6 (some .int) :: ((wsX7_crowd_r1 ++ wsX7_crowd_r2) ++ wsX70)
def wsX7_reachOf : List Cond := .code yX7_reachOf cX7_reachOf 5 (some .int) :: ([.fieldLink RX7 13 "OneWorseModel" "book" "[I", .methodLink RX7 94 yX7_has, .static yX7_has, .initialized RX7, .code yX7_has cX7_has 2 (some .boolean)] ++ wsX70)
def wsX7_rings : List Cond := .code yX7_rings cX7_rings 5 (some .int) :: ([.fieldLink RX7 13 "OneWorseModel" "book" "[I", .methodLink RX7 59 yX7_in, .static yX7_in, .initialized RX7, .code yX7_in cX7_in 3 (some .boolean), .methodLink RX7 145 yX7_reachOf, .instanceMethod yX7_reachOf, .selects RX7 yX7_reachOf yX7_reachOf, .code yX7_reachOf cX7_reachOf 5 (some .int), .methodLink RX7 94 yX7_has, .static yX7_has, .code yX7_has cX7_has 2 (some .boolean)] ++ wsX70)
def wsX7_ladder : List Cond := .code yX7_ladder cX7_ladder 7 (some .int) :: ([.fieldLink RX7 44 "OneWorseModel" "back" "[I", .fieldLink RX7 13 "OneWorseModel" "book" "[I", .fieldLink RX7 47 "OneWorseModel" "placeOf" "[I", .methodLink RX7 94 yX7_has, .static yX7_has, .initialized RX7, .code yX7_has cX7_has 2 (some .boolean), .methodLink RX7 81 yX7_bits, .static yX7_bits, .code yX7_bits cX7_bits 3 (some .int)] ++ wsX70)
def wsX7_between : List Cond := .code yX7_between cX7_between 14 (some .int) :: ([.fieldLink RX7 13 "OneWorseModel" "book" "[I", .methodLink RX7 88 yX7_isInsult, .static yX7_isInsult, .initialized RX7, .code yX7_isInsult cX7_isInsult 1 (some .boolean), .methodLink RX7 59 yX7_in, .static yX7_in, .code yX7_in cX7_in 3 (some .boolean), .methodLink RX7 94 yX7_has, .static yX7_has, .code yX7_has cX7_has 2 (some .boolean)] ++ wsX70)
def wsX7_high : List Cond := .code yX7_high cX7_high 7 (some .int) :: ([.fieldLink RX7 13 "OneWorseModel" "book" "[I", .fieldLink RX7 50 "OneWorseModel" "high" "[I", .methodLink RX7 88 yX7_isInsult, .static yX7_isInsult, .initialized RX7, .code yX7_isInsult cX7_isInsult 1 (some .boolean), .methodLink RX7 59 yX7_in, .static yX7_in, .code yX7_in cX7_in 3 (some .boolean), .methodLink RX7 94 yX7_has, .static yX7_has, .code yX7_has cX7_has 2 (some .boolean)] ++ wsX70)
def wsX7_image : List Cond := .code yX7_image cX7_image 3 (some .int) :: ([.fieldLink RX7 53 "OneWorseModel" "image" "[I", .fieldLink RX7 13 "OneWorseModel" "book" "[I", .fieldLink RX7 16 "OneWorseModel" "need" "[I", .fieldLink RX7 19 "OneWorseModel" "traits" "[I", .fieldLink RX7 22 "OneWorseModel" "knows" "[I", .fieldLink RX7 56 "OneWorseModel" "isKept" "[Z", .methodLink RX7 59 yX7_in, .static yX7_in, .initialized RX7, .code yX7_in cX7_in 3 (some .boolean)] ++ wsX70)
def wsX7_restore : List Cond := .code yX7_restore cX7_restore 3 (some .int) :: ([.fieldLink RX7 56 "OneWorseModel" "isKept" "[Z", .fieldLink RX7 13 "OneWorseModel" "book" "[I", .fieldLink RX7 53 "OneWorseModel" "image" "[I", .fieldLink RX7 16 "OneWorseModel" "need" "[I", .fieldLink RX7 19 "OneWorseModel" "traits" "[I", .fieldLink RX7 22 "OneWorseModel" "knows" "[I", .methodLink RX7 59 yX7_in, .static yX7_in, .initialized RX7, .code yX7_in cX7_in 3 (some .boolean)] ++ wsX70)
def wsX7_join : List Cond := .code yX7_join cX7_join 3 (some .int) :: ([.fieldLink RX7 56 "OneWorseModel" "isKept" "[Z", .fieldLink RX7 13 "OneWorseModel" "book" "[I", .fieldLink RX7 53 "OneWorseModel" "image" "[I", .methodLink RX7 59 yX7_in, .static yX7_in, .initialized RX7, .code yX7_in cX7_in 3 (some .boolean), .methodLink RX7 85 yX7_allSteps, .instanceMethod yX7_allSteps, .selects RX7 yX7_allSteps yX7_allSteps, .code yX7_allSteps cX7_allSteps 3 (some .int), .methodLink RX7 81 yX7_bits, .static yX7_bits, .code yX7_bits cX7_bits 3 (some .int)] ++ wsX70)
def wsX7_told : List Cond := .code yX7_told cX7_told 3 (some .int) :: ([.fieldLink RX7 16 "OneWorseModel" "need" "[I", .fieldLink RX7 19 "OneWorseModel" "traits" "[I", .fieldLink RX7 22 "OneWorseModel" "knows" "[I", .fieldLink RX7 13 "OneWorseModel" "book" "[I", .fieldLink RX7 67 "OneWorseModel" "signs" "I", .methodLink RX7 59 yX7_in, .static yX7_in, .initialized RX7, .code yX7_in cX7_in 3 (some .boolean), .methodLink RX7 85 yX7_allSteps, .instanceMethod yX7_allSteps, .selects RX7 yX7_allSteps yX7_allSteps, .code yX7_allSteps cX7_allSteps 3 (some .int), .methodLink RX7 81 yX7_bits, .static yX7_bits, .code yX7_bits cX7_bits 3 (some .int)] ++ wsX70)
def wsL_law_r1 : List Cond := [Cond.classLink RL 7 RX6, Cond.instantiable RX6 8, Cond.initialized RX6, Cond.classLink RL 10 RX7, Cond.instantiable RX7 18, Cond.initialized RX7, Cond.methodLink RL 9 yX6_init, Cond.instanceMethod yX6_init, Cond.code yX6_init cX6_init 1 none, Cond.methodLink RX6 1 objectInit, Cond.instanceMethod objectInit, Cond.code objectInit ⟨#[0xb1]⟩ 1 none, Cond.classLink RX6 7 RX3, Cond.instantiable RX3 2, Cond.initialized RX3, Cond.fieldLink RX6 10 "OneWorse" "pad" "LOneWorse$Pad;", Cond.classLink RX6 16 RX4, Cond.instantiable RX4 5, Cond.initialized RX4, Cond.fieldLink RX6 19 "OneWorse" "town" "LOneWorse$Town;", Cond.fieldLink RX6 23 "OneWorse" "firstImage" "LOneWorse$Town;", Cond.fieldLink RX6 26 "OneWorse" "secondImage" "LOneWorse$Town;", Cond.classLink RX6 29 RX0, Cond.instantiable RX0 7]
def wsL_law_r2 : List Cond := [Cond.initialized RX0, Cond.fieldLink RX6 34 "OneWorse" "contest" "LOneWorse$Contest;", Cond.classLink RX6 38 RX1, Cond.instantiable RX1 5, Cond.initialized RX1, Cond.fieldLink RX6 41 "OneWorse" "company" "LOneWorse$Crowd;", Cond.classLink RX6 45 RX2, Cond.instantiable RX2 6, Cond.initialized RX2, Cond.fieldLink RX6 48 "OneWorse" "order" "LOneWorse$Order;", Cond.classLink RX6 52 RX5, Cond.instantiable RX5 5, Cond.initialized RX5, Cond.fieldLink RX6 55 "OneWorse" "ways" "LOneWorse$Ways;", Cond.instanceMethod yX3_init, Cond.code yX3_init cX3_init 1 none, Cond.methodLink RX3 3 objectInit, Cond.arrayClass .int, Cond.fieldLink RX3 11 "OneWorse$Pad" "signs" "[I", Cond.fieldLink RX3 15 "OneWorse$Pad" "size" "I", Cond.instanceMethod yX4_init, Cond.code yX4_init cX4_init 2 none, Cond.methodLink RX4 3 objectInit, Cond.fieldLink RX4 9 "OneWorse$Town" "worse" "[I"]
def wsL_law_r3 : List Cond := [Cond.fieldLink RX4 15 "OneWorse$Town" "needed" "[I", Cond.fieldLink RX4 18 "OneWorse$Town" "traits" "[I", Cond.fieldLink RX4 21 "OneWorse$Town" "known" "[I", Cond.fieldLink RX4 24 "OneWorse$Town" "kept" "Z", Cond.instanceMethod yX0_init, Cond.code yX0_init cX0_init 2 none, Cond.methodLink RX0 3 objectInit, Cond.fieldLink RX0 9 "OneWorse$Contest" "memo" "[I", Cond.fieldLink RX0 15 "OneWorse$Contest" "run" "I", Cond.fieldLink RX0 19 "OneWorse$Contest" "spinning" "Z", Cond.fieldLink RX0 23 "OneWorse$Contest" "enough" "I", Cond.fieldLink RX0 26 "OneWorse$Contest" "score" "I", Cond.fieldLink RX0 29 "OneWorse$Contest" "chosen" "I", Cond.fieldLink RX0 32 "OneWorse$Contest" "town" "LOneWorse$Town;", Cond.instanceMethod yX1_init, Cond.code yX1_init cX1_init 2 none, Cond.methodLink RX1 3 objectInit, Cond.fieldLink RX1 9 "OneWorse$Crowd" "fitting" "[I", Cond.fieldLink RX1 15 "OneWorse$Crowd" "hope" "[I", Cond.arrayClass .boolean, Cond.fieldLink RX1 18 "OneWorse$Crowd" "able" "[Z", Cond.fieldLink RX1 22 "OneWorse$Crowd" "fewest" "[I", Cond.fieldLink RX1 25 "OneWorse$Crowd" "town" "LOneWorse$Town;", Cond.instanceMethod yX2_init]
def wsL_law_r4 : List Cond := [Cond.code yX2_init cX2_init 2 none, Cond.methodLink RX2 3 objectInit, Cond.fieldLink RX2 9 "OneWorse$Order" "reached" "[I", Cond.fieldLink RX2 15 "OneWorse$Order" "back" "[I", Cond.fieldLink RX2 18 "OneWorse$Order" "rank" "[I", Cond.fieldLink RX2 21 "OneWorse$Order" "arranged" "[I", Cond.fieldLink RX2 24 "OneWorse$Order" "isArranged" "Z", Cond.fieldLink RX2 28 "OneWorse$Order" "town" "LOneWorse$Town;", Cond.instanceMethod yX5_init, Cond.code yX5_init cX5_init 2 none, Cond.methodLink RX5 3 objectInit, Cond.fieldLink RX5 9 "OneWorse$Ways" "goal" "I", Cond.fieldLink RX5 15 "OneWorse$Ways" "asked" "I", Cond.fieldLink RX5 18 "OneWorse$Ways" "count" "I", Cond.fieldLink RX5 21 "OneWorse$Ways" "wanted" "I", Cond.fieldLink RX5 24 "OneWorse$Ways" "town" "LOneWorse$Town;", Cond.methodLink RL 12 yX7_init, Cond.instanceMethod yX7_init, Cond.code yX7_init cX7_init 2 none, Cond.methodLink RX7 1 objectInit, Cond.fieldLink RX7 7 "OneWorseModel" "pad" "[I", Cond.fieldLink RX7 13 "OneWorseModel" "book" "[I", Cond.fieldLink RX7 16 "OneWorseModel" "need" "[I", Cond.fieldLink RX7 19 "OneWorseModel" "traits" "[I"]
def wsL_law_r5 : List Cond := [Cond.fieldLink RX7 22 "OneWorseModel" "knows" "[I", Cond.fieldLink RX7 25 "OneWorseModel" "value" "[I", Cond.fieldLink RX7 28 "OneWorseModel" "can" "[I", Cond.fieldLink RX7 31 "OneWorseModel" "row" "[I", Cond.fieldLink RX7 34 "OneWorseModel" "said" "[I", Cond.fieldLink RX7 37 "OneWorseModel" "day" "[Z", Cond.fieldLink RX7 41 "OneWorseModel" "days" "[I", Cond.fieldLink RX7 44 "OneWorseModel" "back" "[I", Cond.fieldLink RX7 47 "OneWorseModel" "placeOf" "[I", Cond.fieldLink RX7 50 "OneWorseModel" "high" "[I", Cond.fieldLink RX7 53 "OneWorseModel" "image" "[I", Cond.fieldLink RX7 56 "OneWorseModel" "isKept" "[Z", Cond.methodLink RL 13 yX6_say, Cond.instanceMethod yX6_say, Cond.selects RX6 yX6_say yX6_say, Cond.code yX6_say cX6_say 2 (some .int), Cond.methodLink RX6 59 yX6_within, Cond.static yX6_within, Cond.code yX6_within cX6_within 3 (some .boolean), Cond.instanceMethod yX3_isFull, Cond.selects RX3 yX3_isFull yX3_isFull, Cond.code yX3_isFull cX3_isFull 1 (some .boolean), Cond.instanceMethod yX3_put, Cond.selects RX3 yX3_put yX3_put]
def wsL_law_r6 : List Cond := [Cond.code yX3_put cX3_put 2 none, Cond.instanceMethod yX3_size, Cond.selects RX3 yX3_size yX3_size, Cond.code yX3_size cX3_size 1 (some .int), Cond.methodLink RL 17 yX7_say, Cond.instanceMethod yX7_say, Cond.selects RX7 yX7_say yX7_say, Cond.code yX7_say cX7_say 2 (some .int), Cond.fieldLink RX7 67 "OneWorseModel" "signs" "I", Cond.methodLink RX7 59 yX7_in, Cond.static yX7_in, Cond.code yX7_in cX7_in 3 (some .boolean), Cond.methodLink RL 18 yX6_wipe, Cond.instanceMethod yX6_wipe, Cond.selects RX6 yX6_wipe yX6_wipe, Cond.code yX6_wipe cX6_wipe 2 (some .int), Cond.instanceMethod yX3_clear, Cond.selects RX3 yX3_clear yX3_clear, Cond.code yX3_clear cX3_clear 1 none, Cond.methodLink RL 22 yX7_wipe, Cond.instanceMethod yX7_wipe, Cond.selects RX7 yX7_wipe yX7_wipe, Cond.code yX7_wipe cX7_wipe 2 (some .int), Cond.methodLink RL 23 yX6_fault]
def wsL_law_r7 : List Cond := [Cond.instanceMethod yX6_fault, Cond.selects RX6 yX6_fault yX6_fault, Cond.code yX6_fault cX6_fault 2 (some .int), Cond.instanceMethod yX3_faultAsSteps, Cond.selects RX3 yX3_faultAsSteps yX3_faultAsSteps, Cond.code yX3_faultAsSteps cX3_faultAsSteps 2 (some .int), Cond.methodLink RX3 34 yX3_standsInSteps, Cond.instanceMethod yX3_standsInSteps, Cond.selects RX3 yX3_standsInSteps yX3_standsInSteps, Cond.code yX3_standsInSteps cX3_standsInSteps 4 (some .boolean), Cond.methodLink RX3 37 yX3_insultAt, Cond.instanceMethod yX3_insultAt, Cond.selects RX3 yX3_insultAt yX3_insultAt, Cond.code yX3_insultAt cX3_insultAt 3 (some .int), Cond.methodLink RX3 23 yX3_signAt, Cond.instanceMethod yX3_signAt, Cond.selects RX3 yX3_signAt yX3_signAt, Cond.code yX3_signAt cX3_signAt 2 (some .int), Cond.static yX6_at, Cond.code yX6_at cX6_at 2 (some .int), Cond.static yX6_isInsult, Cond.code yX6_isInsult cX6_isInsult 1 (some .boolean), Cond.instanceMethod yX3_faultAsQuarrel, Cond.selects RX3 yX3_faultAsQuarrel yX3_faultAsQuarrel]
def wsL_law_r8 : List Cond := [Cond.code yX3_faultAsQuarrel cX3_faultAsQuarrel 2 (some .int), Cond.methodLink RX3 40 yX3_standsInQuarrel, Cond.instanceMethod yX3_standsInQuarrel, Cond.selects RX3 yX3_standsInQuarrel yX3_standsInQuarrel, Cond.code yX3_standsInQuarrel cX3_standsInQuarrel 2 (some .boolean), Cond.methodLink RX3 43 yX3_manAt, Cond.instanceMethod yX3_manAt, Cond.selects RX3 yX3_manAt yX3_manAt, Cond.code yX3_manAt cX3_manAt 3 (some .int), Cond.static yX6_isMan, Cond.code yX6_isMan cX6_isMan 1 (some .boolean), Cond.methodLink RL 26 yX7_fault, Cond.instanceMethod yX7_fault, Cond.selects RX7 yX7_fault yX7_fault, Cond.code yX7_fault cX7_fault 2 (some .int), Cond.methodLink RX7 74 yX7_stepsFault, Cond.instanceMethod yX7_stepsFault, Cond.selects RX7 yX7_stepsFault yX7_stepsFault, Cond.code yX7_stepsFault cX7_stepsFault 5 (some .int), Cond.methodLink RX7 71 yX7_isName, Cond.static yX7_isName, Cond.code yX7_isName cX7_isName 1 (some .boolean), Cond.methodLink RX7 78 yX7_quarrelFault, Cond.instanceMethod yX7_quarrelFault]
def wsL_law_r9 : List Cond := [Cond.selects RX7 yX7_quarrelFault yX7_quarrelFault, Cond.code yX7_quarrelFault cX7_quarrelFault 3 (some .int), Cond.methodLink RL 27 yX6_steps, Cond.instanceMethod yX6_steps, Cond.selects RX6 yX6_steps yX6_steps, Cond.code yX6_steps cX6_steps 2 (some .int), Cond.instanceMethod yX4_setStep, Cond.selects RX4 yX4_setStep yX4_setStep, Cond.code yX4_setStep cX4_setStep 5 none, Cond.methodLink RX4 36 yX4_worseThan, Cond.instanceMethod yX4_worseThan, Cond.selects RX4 yX4_worseThan yX4_worseThan, Cond.code yX4_worseThan cX4_worseThan 2 (some .int), Cond.static yX6_store, Cond.code yX6_store cX6_store 3 none, Cond.instanceMethod yX4_countSteps, Cond.selects RX4 yX4_countSteps yX4_countSteps, Cond.code yX4_countSteps cX4_countSteps 3 (some .int), Cond.methodLink RX4 56 yJ6_bitCount_0f7a4, Cond.static yJ6_bitCount_0f7a4, Cond.initialized RJ6, Cond.code yJ6_bitCount_0f7a4 cJ6_bitCount_0f7a4 1 (some .int), Cond.constant RJ6 265 (1431655765), Cond.constant RJ6 266 (858993459)]
def wsL_law_r10 : List Cond := [Cond.constant RJ6 267 (252645135), Cond.methodLink RL 30 yX7_steps, Cond.instanceMethod yX7_steps, Cond.selects RX7 yX7_steps yX7_steps, Cond.code yX7_steps cX7_steps 2 (some .int), Cond.methodLink RX7 85 yX7_allSteps, Cond.instanceMethod yX7_allSteps, Cond.selects RX7 yX7_allSteps yX7_allSteps, Cond.code yX7_allSteps cX7_allSteps 3 (some .int), Cond.methodLink RX7 81 yX7_bits, Cond.static yX7_bits, Cond.code yX7_bits cX7_bits 3 (some .int), Cond.methodLink RL 31 yX6_step, Cond.instanceMethod yX6_step, Cond.selects RX6 yX6_step yX6_step, Cond.code yX6_step cX6_step 5 (some .int), Cond.methodLink RX6 98 yX6_isInsult, Cond.methodLink RX6 105 yX6_has, Cond.static yX6_has, Cond.code yX6_has cX6_has 2 (some .boolean), Cond.methodLink RL 35 yX7_step, Cond.instanceMethod yX7_step, Cond.selects RX7 yX7_step yX7_step, Cond.code yX7_step cX7_step 5 (some .int)]
def wsL_law_r11 : List Cond := [Cond.methodLink RX7 88 yX7_isInsult, Cond.static yX7_isInsult, Cond.code yX7_isInsult cX7_isInsult 1 (some .boolean), Cond.methodLink RL 36 yX6_needs, Cond.instanceMethod yX6_needs, Cond.selects RX6 yX6_needs yX6_needs, Cond.code yX6_needs cX6_needs 4 (some .int), Cond.instanceMethod yX4_neededBy, Cond.selects RX4 yX4_neededBy yX4_neededBy, Cond.code yX4_neededBy cX4_neededBy 2 (some .int), Cond.instanceMethod yX4_setNeeded, Cond.selects RX4 yX4_setNeeded yX4_setNeeded, Cond.code yX4_setNeeded cX4_setNeeded 3 none, Cond.methodLink RL 40 yX7_needs, Cond.instanceMethod yX7_needs, Cond.selects RX7 yX7_needs yX7_needs, Cond.code yX7_needs cX7_needs 4 (some .int), Cond.methodLink RL 41 yX6_man, Cond.instanceMethod yX6_man, Cond.selects RX6 yX6_man yX6_man, Cond.code yX6_man cX6_man 5 (some .int), Cond.methodLink RX6 116 yX6_isMan, Cond.instanceMethod yX4_traitsOf, Cond.selects RX4 yX4_traitsOf yX4_traitsOf]
def wsL_law_r12 : List Cond := [Cond.code yX4_traitsOf cX4_traitsOf 2 (some .int), Cond.instanceMethod yX4_setTraits, Cond.selects RX4 yX4_setTraits yX4_setTraits, Cond.code yX4_setTraits cX4_setTraits 3 none, Cond.instanceMethod yX4_knownTo, Cond.selects RX4 yX4_knownTo yX4_knownTo, Cond.code yX4_knownTo cX4_knownTo 2 (some .int), Cond.instanceMethod yX4_setKnown, Cond.selects RX4 yX4_setKnown yX4_setKnown, Cond.code yX4_setKnown cX4_setKnown 3 none, Cond.methodLink RL 45 yX7_man, Cond.instanceMethod yX7_man, Cond.selects RX7 yX7_man yX7_man, Cond.code yX7_man cX7_man 5 (some .int), Cond.methodLink RX7 63 yX7_isMan, Cond.static yX7_isMan, Cond.code yX7_isMan cX7_isMan 1 (some .boolean), Cond.methodLink RL 46 yX6_fit, Cond.instanceMethod yX6_fit, Cond.selects RX6 yX6_fit yX6_fit, Cond.code yX6_fit cX6_fit 2 (some .int), Cond.instanceMethod yX4_fitting, Cond.selects RX4 yX4_fitting yX4_fitting, Cond.code yX4_fitting cX4_fitting 5 (some .int)]
def wsL_law_r13 : List Cond := [Cond.methodLink RX4 44 yX4_traitsOf, Cond.methodLink RX4 47 yX4_neededBy, Cond.methodLink RL 49 yX7_fit, Cond.instanceMethod yX7_fit, Cond.selects RX7 yX7_fit yX7_fit, Cond.code yX7_fit cX7_fit 2 (some .int), Cond.methodLink RX7 91 yX7_fitOf, Cond.instanceMethod yX7_fitOf, Cond.selects RX7 yX7_fitOf yX7_fitOf, Cond.code yX7_fitOf cX7_fitOf 4 (some .int), Cond.methodLink RL 50 yX6_judge, Cond.instanceMethod yX6_judge, Cond.selects RX6 yX6_judge yX6_judge, Cond.code yX6_judge cX6_judge 5 (some .int), Cond.methodLink RX6 134 yX6_whyNone, Cond.instanceMethod yX6_whyNone, Cond.selects RX6 yX6_whyNone yX6_whyNone, Cond.code yX6_whyNone cX6_whyNone 5 (some .int), Cond.methodLink RL 53 yX7_judge, Cond.instanceMethod yX7_judge, Cond.selects RX7 yX7_judge yX7_judge, Cond.code yX7_judge cX7_judge 4 (some .int), Cond.methodLink RX7 98 yX7_whyNot, Cond.instanceMethod yX7_whyNot]
def wsL_law_r14 : List Cond := [Cond.selects RX7 yX7_whyNot yX7_whyNot, Cond.code yX7_whyNot cX7_whyNot 6 (some .int), Cond.methodLink RX7 94 yX7_has, Cond.static yX7_has, Cond.code yX7_has cX7_has 2 (some .boolean), Cond.methodLink RL 54 yX6_match, Cond.instanceMethod yX6_match, Cond.selects RX6 yX6_match yX6_match, Cond.code yX6_match cX6_match 5 (some .int), Cond.methodLink RX6 137 yX6_areTwo, Cond.static yX6_areTwo, Cond.code yX6_areTwo cX6_areTwo 2 (some .boolean), Cond.instanceMethod yX4_sayable, Cond.selects RX4 yX4_sayable yX4_sayable, Cond.code yX4_sayable cX4_sayable 3 (some .int), Cond.methodLink RX4 50 yX4_knownTo, Cond.methodLink RX4 53 yX4_fitting, Cond.instanceMethod yX0_fight, Cond.selects RX0 yX0_fight yX0_fight, Cond.code yX0_fight cX0_fight 6 none, Cond.methodLink RX0 36 yX0_start, Cond.instanceMethod yX0_start, Cond.selects RX0 yX0_start yX0_start, Cond.code yX0_start cX0_start 5 none]
def wsL_law_r15 : List Cond := [Cond.methodLink RX0 40 yX0_best, Cond.instanceMethod yX0_best, Cond.selects RX0 yX0_best yX0_best, Cond.code yX0_best cX0_best 10 (some .int), Cond.methodLink RX0 44 yJ6_bitCount_0f7a4, Cond.methodLink RX0 54 yX0_afterwards, Cond.instanceMethod yX0_afterwards, Cond.selects RX0 yX0_afterwards yX0_afterwards, Cond.methodLink RX0 57 yX0_turned, Cond.instanceMethod yX0_turned, Cond.selects RX0 yX0_turned yX0_turned, Cond.code yX0_turned cX0_turned 2 (some .int), Cond.code yX0_afterwards cX0_afterwards 10 (some .int), Cond.methodLink RX6 148 yX6_outcome, Cond.instanceMethod yX6_outcome, Cond.selects RX6 yX6_outcome yX6_outcome, Cond.code yX6_outcome cX6_outcome 4 (some .int), Cond.instanceMethod yX0_moverPays, Cond.selects RX0 yX0_moverPays yX0_moverPays, Cond.code yX0_moverPays cX0_moverPays 1 (some .boolean), Cond.instanceMethod yX0_howMany, Cond.selects RX0 yX0_howMany yX0_howMany, Cond.code yX0_howMany cX0_howMany 1 (some .int), Cond.instanceMethod yX0_firstMove]
def wsL_law_r16 : List Cond := [Cond.selects RX0 yX0_firstMove yX0_firstMove, Cond.code yX0_firstMove cX0_firstMove 1 (some .int), Cond.methodLink RL 57 yX7_match, Cond.instanceMethod yX7_match, Cond.selects RX7 yX7_match yX7_match, Cond.code yX7_match cX7_match 5 (some .int), Cond.fieldLink RX7 101 "OneWorseModel" "chosen" "I", Cond.methodLink RX7 114 yX7_areTwo, Cond.static yX7_areTwo, Cond.code yX7_areTwo cX7_areTwo 2 (some .boolean), Cond.methodLink RX7 117 yX7_layMatch, Cond.instanceMethod yX7_layMatch, Cond.selects RX7 yX7_layMatch yX7_layMatch, Cond.code yX7_layMatch cX7_layMatch 6 none, Cond.methodLink RX7 104 yX7_at, Cond.static yX7_at, Cond.code yX7_at cX7_at 3 (some .int), Cond.methodLink RX7 111 yX7_bestOf, Cond.instanceMethod yX7_bestOf, Cond.selects RX7 yX7_bestOf yX7_bestOf, Cond.code yX7_bestOf cX7_bestOf 7 (some .int), Cond.methodLink RX7 108 yX7_isBetter, Cond.static yX7_isBetter, Cond.code yX7_isBetter cX7_isBetter 5 (some .boolean)]
def wsL_law_r17 : List Cond := [Cond.methodLink RX7 121 yX7_toldOf, Cond.static yX7_toldOf, Cond.code yX7_toldOf cX7_toldOf 5 (some .int), Cond.methodLink RL 58 yX6_middle, Cond.instanceMethod yX6_middle, Cond.selects RX6 yX6_middle yX6_middle, Cond.code yX6_middle cX6_middle 8 (some .int), Cond.methodLink RL 62 yX7_middle, Cond.instanceMethod yX7_middle, Cond.selects RX7 yX7_middle yX7_middle, Cond.code yX7_middle cX7_middle 7 (some .int), Cond.methodLink RL 63 yX6_last, Cond.instanceMethod yX6_last, Cond.selects RX6 yX6_last yX6_last, Cond.code yX6_last cX6_last 5 (some .int), Cond.instanceMethod yX0_spin, Cond.selects RX0 yX0_spin yX0_spin, Cond.code yX0_spin cX0_spin 5 none, Cond.instanceMethod yX0_spun, Cond.selects RX0 yX0_spun yX0_spun, Cond.code yX0_spun cX0_spun 1 (some .int), Cond.methodLink RL 66 yX7_last, Cond.instanceMethod yX7_last, Cond.selects RX7 yX7_last yX7_last]
def wsL_law_r18 : List Cond := [Cond.code yX7_last cX7_last 11 (some .int), Cond.methodLink RL 67 yX6_sent, Cond.instanceMethod yX6_sent, Cond.selects RX6 yX6_sent yX6_sent, Cond.code yX6_sent cX6_sent 5 (some .int), Cond.methodLink RX6 162 yX6_comesOff, Cond.instanceMethod yX6_comesOff, Cond.selects RX6 yX6_comesOff yX6_comesOff, Cond.code yX6_comesOff cX6_comesOff 7 (some .boolean), Cond.methodLink RL 71 yX7_sent, Cond.instanceMethod yX7_sent, Cond.selects RX7 yX7_sent yX7_sent, Cond.code yX7_sent cX7_sent 6 (some .int), Cond.methodLink RX7 125 yX7_payer, Cond.instanceMethod yX7_payer, Cond.selects RX7 yX7_payer yX7_payer, Cond.code yX7_payer cX7_payer 3 (some .int), Cond.methodLink RL 72 yX6_safe, Cond.instanceMethod yX6_safe, Cond.selects RX6 yX6_safe yX6_safe, Cond.code yX6_safe cX6_safe 4 (some .int), Cond.methodLink RL 75 yX7_safe, Cond.instanceMethod yX7_safe, Cond.selects RX7 yX7_safe yX7_safe]
def wsL_law_r19 : List Cond := [Cond.code yX7_safe cX7_safe 4 (some .int), Cond.methodLink RL 76 yX6_worth, Cond.instanceMethod yX6_worth, Cond.selects RX6 yX6_worth yX6_worth, Cond.code yX6_worth cX6_worth 5 (some .int), Cond.methodLink RX6 166 yX6_goodMatches, Cond.instanceMethod yX6_goodMatches, Cond.selects RX6 yX6_goodMatches yX6_goodMatches, Cond.code yX6_goodMatches cX6_goodMatches 5 (some .int), Cond.methodLink RL 79 yX7_worth, Cond.instanceMethod yX7_worth, Cond.selects RX7 yX7_worth yX7_worth, Cond.code yX7_worth cX7_worth 5 (some .int), Cond.methodLink RX7 129 yX7_freeMatches, Cond.instanceMethod yX7_freeMatches, Cond.selects RX7 yX7_freeMatches yX7_freeMatches, Cond.code yX7_freeMatches cX7_freeMatches 4 (some .int), Cond.methodLink RL 80 yX6_crowd, Cond.instanceMethod yX6_crowd, Cond.selects RX6 yX6_crowd yX6_crowd, Cond.code yX6_crowd cX6_crowd 3 (some .int), Cond.instanceMethod yX1_fewestDays, Cond.selects RX1 yX1_fewestDays yX1_fewestDays, Cond.code yX1_fewestDays cX1_fewestDays 3 (some .int)]
def wsL_law_r20 : List Cond := [Cond.methodLink RX1 29 yX1_prepare, Cond.instanceMethod yX1_prepare, Cond.selects RX1 yX1_prepare yX1_prepare, Cond.code yX1_prepare cX1_prepare 3 none, Cond.methodLink RX1 53 yX1_hopeAheadOf, Cond.instanceMethod yX1_hopeAheadOf, Cond.selects RX1 yX1_hopeAheadOf yX1_hopeAheadOf, Cond.code yX1_hopeAheadOf cX1_hopeAheadOf 5 none, Cond.methodLink RX1 60 yX1_hopeful, Cond.instanceMethod yX1_hopeful, Cond.selects RX1 yX1_hopeful yX1_hopeful, Cond.code yX1_hopeful cX1_hopeful 3 (some .int), Cond.methodLink RX1 64 yX1_leadingTo, Cond.instanceMethod yX1_leadingTo, Cond.selects RX1 yX1_leadingTo yX1_leadingTo, Cond.code yX1_leadingTo cX1_leadingTo 4 (some .int), Cond.methodLink RX1 33 yX1_canSpeak, Cond.instanceMethod yX1_canSpeak, Cond.selects RX1 yX1_canSpeak yX1_canSpeak, Cond.code yX1_canSpeak cX1_canSpeak 4 (some .boolean), Cond.methodLink RX1 73 yX1_canSayOne, Cond.instanceMethod yX1_canSayOne, Cond.selects RX1 yX1_canSayOne yX1_canSayOne, Cond.code yX1_canSayOne cX1_canSayOne 6 (some .boolean)]
def wsL_law_r21 : List Cond := [Cond.methodLink RX1 77 yX1_canGoOn, Cond.instanceMethod yX1_canGoOn, Cond.selects RX1 yX1_canGoOn yX1_canGoOn, Cond.code yX1_canGoOn cX1_canGoOn 9 (some .boolean), Cond.methodLink RX1 37 yX1_fewestBySets, Cond.instanceMethod yX1_fewestBySets, Cond.selects RX1 yX1_fewestBySets yX1_fewestBySets, Cond.code yX1_fewestBySets cX1_fewestBySets 5 (some .int), Cond.instanceMethod yX1_isOneDayEnough, Cond.selects RX1 yX1_isOneDayEnough yX1_isOneDayEnough, Cond.code yX1_isOneDayEnough cX1_isOneDayEnough 2 (some .boolean), Cond.methodLink RL 83 yX7_crowd, Cond.instanceMethod yX7_crowd, Cond.selects RX7 yX7_crowd yX7_crowd, Cond.code yX7_crowd cX7_crowd 6 (some .int), Cond.methodLink RX7 141 yX7_layDay, Cond.instanceMethod yX7_layDay, Cond.selects RX7 yX7_layDay yX7_layDay, Cond.code yX7_layDay cX7_layDay 5 none, Cond.methodLink RX7 135 yX7_layRow, Cond.instanceMethod yX7_layRow, Cond.selects RX7 yX7_layRow yX7_layRow, Cond.code yX7_layRow cX7_layRow 7 (some .boolean), Cond.methodLink RX7 138 yX7_canSay]
def wsL_law_r22 : List Cond := [Cond.instanceMethod yX7_canSay, Cond.selects RX7 yX7_canSay yX7_canSay, Cond.code yX7_canSay cX7_canSay 3 (some .boolean), Cond.methodLink RX7 132 yX7_fitsAt, Cond.instanceMethod yX7_fitsAt, Cond.selects RX7 yX7_fitsAt yX7_fitsAt, Cond.code yX7_fitsAt cX7_fitsAt 6 (some .boolean), Cond.methodLink RL 84 yX6_rings, Cond.instanceMethod yX6_rings, Cond.selects RX6 yX6_rings yX6_rings, Cond.code yX6_rings cX6_rings 2 (some .int), Cond.instanceMethod yX2_inRings, Cond.selects RX2 yX2_inRings yX2_inRings, Cond.code yX2_inRings cX2_inRings 3 (some .int), Cond.instanceMethod yX2_tops, Cond.selects RX2 yX2_tops yX2_tops, Cond.code yX2_tops cX2_tops 3 (some .int), Cond.methodLink RL 87 yX7_rings, Cond.instanceMethod yX7_rings, Cond.selects RX7 yX7_rings yX7_rings, Cond.code yX7_rings cX7_rings 5 (some .int), Cond.methodLink RX7 145 yX7_reachOf, Cond.instanceMethod yX7_reachOf, Cond.selects RX7 yX7_reachOf yX7_reachOf]
def wsL_law_r23 : List Cond := [Cond.code yX7_reachOf cX7_reachOf 5 (some .int), Cond.methodLink RL 88 yX6_ladder, Cond.instanceMethod yX6_ladder, Cond.selects RX6 yX6_ladder yX6_ladder, Cond.code yX6_ladder cX6_ladder 2 (some .int), Cond.instanceMethod yX2_arrange, Cond.selects RX2 yX2_arrange yX2_arrange, Cond.code yX2_arrange cX2_arrange 4 none, Cond.methodLink RX2 50 yX2_isSameBook, Cond.instanceMethod yX2_isSameBook, Cond.selects RX2 yX2_isSameBook yX2_isSameBook, Cond.code yX2_isSameBook cX2_isSameBook 2 (some .boolean), Cond.methodLink RX2 54 yX2_nextAfter, Cond.instanceMethod yX2_nextAfter, Cond.selects RX2 yX2_nextAfter yX2_nextAfter, Cond.code yX2_nextAfter cX2_nextAfter 6 (some .int), Cond.methodLink RX2 57 yX2_backWith, Cond.instanceMethod yX2_backWith, Cond.selects RX2 yX2_backWith yX2_backWith, Cond.code yX2_backWith cX2_backWith 3 (some .int), Cond.methodLink RX2 61 yJ6_bitCount_0f7a4, Cond.instanceMethod yX2_countStruck, Cond.selects RX2 yX2_countStruck yX2_countStruck, Cond.code yX2_countStruck cX2_countStruck 1 (some .int)]
def wsL_law_r24 : List Cond := [Cond.instanceMethod yX2_struck, Cond.selects RX2 yX2_struck yX2_struck, Cond.code yX2_struck cX2_struck 5 (some .int), Cond.methodLink RL 91 yX7_ladder, Cond.instanceMethod yX7_ladder, Cond.selects RX7 yX7_ladder yX7_ladder, Cond.code yX7_ladder cX7_ladder 7 (some .int), Cond.methodLink RL 92 yX6_between, Cond.instanceMethod yX6_between, Cond.selects RX6 yX6_between yX6_between, Cond.code yX6_between cX6_between 5 (some .int), Cond.instanceMethod yX5_search, Cond.selects RX5 yX5_search yX5_search, Cond.code yX5_search cX5_search 5 none, Cond.methodLink RX5 28 yX5_walk, Cond.instanceMethod yX5_walk, Cond.selects RX5 yX5_walk yX5_walk, Cond.code yX5_walk cX5_walk 6 none, Cond.instanceMethod yX5_count, Cond.selects RX5 yX5_count yX5_count, Cond.code yX5_count cX5_count 1 (some .int), Cond.instanceMethod yX5_wanted, Cond.selects RX5 yX5_wanted yX5_wanted, Cond.code yX5_wanted cX5_wanted 1 (some .int)]
def wsL_law_r25 : List Cond := [Cond.methodLink RL 96 yX7_between, Cond.instanceMethod yX7_between, Cond.selects RX7 yX7_between yX7_between, Cond.code yX7_between cX7_between 14 (some .int), Cond.methodLink RL 97 yX6_high, Cond.instanceMethod yX6_high, Cond.selects RX6 yX6_high yX6_high, Cond.code yX6_high cX6_high 2 (some .int), Cond.methodLink RL 100 yX7_high, Cond.instanceMethod yX7_high, Cond.selects RX7 yX7_high yX7_high, Cond.code yX7_high cX7_high 7 (some .int), Cond.methodLink RL 101 yX6_image, Cond.instanceMethod yX6_image, Cond.selects RX6 yX6_image yX6_image, Cond.code yX6_image cX6_image 2 (some .int), Cond.methodLink RX6 199 yX6_isImage, Cond.static yX6_isImage, Cond.code yX6_isImage cX6_isImage 1 (some .boolean), Cond.methodLink RX6 202 yX6_imageOf, Cond.instanceMethod yX6_imageOf, Cond.selects RX6 yX6_imageOf yX6_imageOf, Cond.code yX6_imageOf cX6_imageOf 2 (some (.object "OneWorse$Town")), Cond.instanceMethod yX4_copy]
def wsL_law_r26 : List Cond := [Cond.selects RX4 yX4_copy yX4_copy, Cond.code yX4_copy cX4_copy 3 none, Cond.methodLink RL 104 yX7_image, Cond.instanceMethod yX7_image, Cond.selects RX7 yX7_image yX7_image, Cond.code yX7_image cX7_image 3 (some .int), Cond.methodLink RL 105 yX6_restore, Cond.instanceMethod yX6_restore, Cond.selects RX6 yX6_restore yX6_restore, Cond.code yX6_restore cX6_restore 2 (some .int), Cond.instanceMethod yX4_isKept, Cond.selects RX4 yX4_isKept yX4_isKept, Cond.code yX4_isKept cX4_isKept 1 (some .boolean), Cond.methodLink RL 108 yX7_restore, Cond.instanceMethod yX7_restore, Cond.selects RX7 yX7_restore yX7_restore, Cond.code yX7_restore cX7_restore 3 (some .int), Cond.methodLink RL 109 yX6_join, Cond.instanceMethod yX6_join, Cond.selects RX6 yX6_join yX6_join, Cond.code yX6_join cX6_join 2 (some .int), Cond.instanceMethod yX4_addSteps, Cond.selects RX4 yX4_addSteps yX4_addSteps, Cond.code yX4_addSteps cX4_addSteps 3 none]
def wsL_law_r27 : List Cond := [Cond.methodLink RL 112 yX7_join, Cond.instanceMethod yX7_join, Cond.selects RX7 yX7_join yX7_join, Cond.code yX7_join cX7_join 3 (some .int), Cond.methodLink RL 113 yX6_told, Cond.instanceMethod yX6_told, Cond.selects RX6 yX6_told yX6_told, Cond.code yX6_told cX6_told 2 (some .int), Cond.methodLink RL 116 yX7_told, Cond.instanceMethod yX7_told, Cond.selects RX7 yX7_told yX7_told, Cond.code yX7_told cX7_told 3 (some .int)]
def wsL_law : List Cond := (wsL_law_r1 ++ (wsL_law_r2 ++ (wsL_law_r3 ++ (wsL_law_r4 ++ (wsL_law_r5 ++ (wsL_law_r6 ++ (wsL_law_r7 ++ (wsL_law_r8 ++ (wsL_law_r9 ++ (wsL_law_r10 ++ (wsL_law_r11 ++ (wsL_law_r12 ++ (wsL_law_r13 ++ (wsL_law_r14 ++ (wsL_law_r15 ++ (wsL_law_r16 ++ (wsL_law_r17 ++ (wsL_law_r18 ++ (wsL_law_r19 ++ (wsL_law_r20 ++ (wsL_law_r21 ++ (wsL_law_r22 ++ (wsL_law_r23 ++ (wsL_law_r24 ++ (wsL_law_r25 ++ (wsL_law_r26 ++ wsL_law_r27)))))))))))))))))))))))))) ++ wsX60 ++ wsX70 ++ wsX30 ++ wsX40 ++ wsX00 ++ wsX10 ++ wsX20 ++ wsX50 ++ ([] : List Cond)
abbrev vwCl : List vw_C := [(RX0, TX0, 7), (RX1, TX1, 5), (RX2, TX2, 6), (RX3, TX3, 2), (RX4, TX4, 5), (RX5, TX5, 5), (RX6, TX6, 8), (RX7, TX7, 18)]
end
section
theorem ob_mapp {a b big : List Cond} (ha : ∀ w ∈ a, w ∈ big) (hb : ∀ w ∈ b, w ∈ big) : ∀ w ∈ a ++ b, w ∈ big := fun w h => (List.mem_append.mp h).elim (ha w) (hb w)
set_option maxRecDepth 20000 in
theorem in_wsL_law_r1 : ∀ w ∈ wsL_law_r1, w ∈ lw_tbl := fun w h => (goodIn_p wsL_law_r1 [90, 93] (by decide +kernel) (by decide +kernel) w h).1
set_option maxRecDepth 20000 in
theorem in_wsL_law_r2 : ∀ w ∈ wsL_law_r2, w ∈ lw_tbl := fun w h => (goodIn_p wsL_law_r2 [98, 112] (by decide +kernel) (by decide +kernel) w h).1
set_option maxRecDepth 20000 in
theorem in_wsL_law_r3 : ∀ w ∈ wsL_law_r3, w ∈ lw_tbl := fun w h => (goodIn_p wsL_law_r3 [134, 162] (by decide +kernel) (by decide +kernel) w h).1
set_option maxRecDepth 20000 in
theorem in_wsL_law_r4 : ∀ w ∈ wsL_law_r4, w ∈ lw_tbl := fun w h => (goodIn_p wsL_law_r4 [185, 210, 661] (by decide +kernel) (by decide +kernel) w h).1
set_option maxRecDepth 20000 in
theorem in_wsL_law_r5 : ∀ w ∈ wsL_law_r5, w ∈ lw_tbl := fun w h => (goodIn_p wsL_law_r5 [256, 259, 263] (by decide +kernel) (by decide +kernel) w h).1
set_option maxRecDepth 20000 in
theorem in_wsL_law_r6 : ∀ w ∈ wsL_law_r6, w ∈ lw_tbl := fun w h => (goodIn_p wsL_law_r6 [267, 271, 721, 724, 275, 279, 728] (by decide +kernel) (by decide +kernel) w h).1
set_option maxRecDepth 20000 in
theorem in_wsL_law_r7 : ∀ w ∈ wsL_law_r7, w ∈ lw_tbl := fun w h => (goodIn_p wsL_law_r7 [283, 287, 291, 295, 299, 302, 305] (by decide +kernel) (by decide +kernel) w h).1
set_option maxRecDepth 20000 in
theorem in_wsL_law_r8 : ∀ w ∈ wsL_law_r8, w ∈ lw_tbl := fun w h => (goodIn_p wsL_law_r8 [309, 313, 317, 320, 732, 736, 739] (by decide +kernel) (by decide +kernel) w h).1
set_option maxRecDepth 20000 in
theorem in_wsL_law_r9 : ∀ w ∈ wsL_law_r9, w ∈ lw_tbl := fun w h => (goodIn_p wsL_law_r9 [743, 324, 330, 335, 339, 343, 346] (by decide +kernel) (by decide +kernel) w h).1
set_option maxRecDepth 20000 in
theorem in_wsL_law_r10 : ∀ w ∈ wsL_law_r10, w ∈ lw_tbl := fun w h => (goodIn_p wsL_law_r10 [747, 751, 754, 353, 358, 758] (by decide +kernel) (by decide +kernel) w h).1
set_option maxRecDepth 20000 in
theorem in_wsL_law_r11 : ∀ w ∈ wsL_law_r11, w ∈ lw_tbl := fun w h => (goodIn_p wsL_law_r11 [761, 362, 366, 370, 765, 374] (by decide +kernel) (by decide +kernel) w h).1
set_option maxRecDepth 20000 in
theorem in_wsL_law_r12 : ∀ w ∈ wsL_law_r12, w ∈ lw_tbl := fun w h => (goodIn_p wsL_law_r12 [379, 383, 387, 391, 769, 772, 395, 399] (by decide +kernel) (by decide +kernel) w h).1
set_option maxRecDepth 20000 in
theorem in_wsL_law_r13 : ∀ w ∈ wsL_law_r13, w ∈ lw_tbl := fun w h => (goodIn_p wsL_law_r13 [776, 780, 405, 409, 784] (by decide +kernel) (by decide +kernel) w h).1
set_option maxRecDepth 20000 in
theorem in_wsL_law_r14 : ∀ w ∈ wsL_law_r14, w ∈ lw_tbl := fun w h => (goodIn_p wsL_law_r14 [788, 791, 414, 417, 421, 427, 431] (by decide +kernel) (by decide +kernel) w h).1
set_option maxRecDepth 20000 in
theorem in_wsL_law_r15 : ∀ w ∈ wsL_law_r15, w ∈ lw_tbl := fun w h => (goodIn_p wsL_law_r15 [435, 448, 441, 452, 456, 460] (by decide +kernel) (by decide +kernel) w h).1
set_option maxRecDepth 20000 in
theorem in_wsL_law_r16 : ∀ w ∈ wsL_law_r16, w ∈ lw_tbl := fun w h => (goodIn_p wsL_law_r16 [464, 795, 798, 802, 805, 809, 812] (by decide +kernel) (by decide +kernel) w h).1
set_option maxRecDepth 20000 in
theorem in_wsL_law_r17 : ∀ w ∈ wsL_law_r17, w ∈ lw_tbl := fun w h => (goodIn_p wsL_law_r17 [815, 468, 819, 472, 476, 480] (by decide +kernel) (by decide +kernel) w h).1
set_option maxRecDepth 20000 in
theorem in_wsL_law_r18 : ∀ w ∈ wsL_law_r18, w ∈ lw_tbl := fun w h => (goodIn_p wsL_law_r18 [823, 484, 488, 827, 831, 492] (by decide +kernel) (by decide +kernel) w h).1
set_option maxRecDepth 20000 in
theorem in_wsL_law_r19 : ∀ w ∈ wsL_law_r19, w ∈ lw_tbl := fun w h => (goodIn_p wsL_law_r19 [835, 496, 500, 839, 843, 504, 508] (by decide +kernel) (by decide +kernel) w h).1
set_option maxRecDepth 20000 in
theorem in_wsL_law_r20 : ∀ w ∈ wsL_law_r20, w ∈ lw_tbl := fun w h => (goodIn_p wsL_law_r20 [512, 518, 523, 528, 534, 538] (by decide +kernel) (by decide +kernel) w h).1
set_option maxRecDepth 20000 in
theorem in_wsL_law_r21 : ∀ w ∈ wsL_law_r21, w ∈ lw_tbl := fun w h => (goodIn_p wsL_law_r21 [542, 546, 550, 847, 851, 855] (by decide +kernel) (by decide +kernel) w h).1
set_option maxRecDepth 20000 in
theorem in_wsL_law_r22 : ∀ w ∈ wsL_law_r22, w ∈ lw_tbl := fun w h => (goodIn_p wsL_law_r22 [859, 863, 554, 558, 566, 867] (by decide +kernel) (by decide +kernel) w h).1
set_option maxRecDepth 20000 in
theorem in_wsL_law_r23 : ∀ w ∈ wsL_law_r23, w ∈ lw_tbl := fun w h => (goodIn_p wsL_law_r23 [871, 570, 574, 578, 582, 586, 591] (by decide +kernel) (by decide +kernel) w h).1
set_option maxRecDepth 20000 in
theorem in_wsL_law_r24 : ∀ w ∈ wsL_law_r24, w ∈ lw_tbl := fun w h => (goodIn_p wsL_law_r24 [595, 875, 599, 603, 607, 613, 617] (by decide +kernel) (by decide +kernel) w h).1
set_option maxRecDepth 20000 in
theorem in_wsL_law_r25 : ∀ w ∈ wsL_law_r25, w ∈ lw_tbl := fun w h => (goodIn_p wsL_law_r25 [879, 621, 883, 625, 628, 632] (by decide +kernel) (by decide +kernel) w h).1
set_option maxRecDepth 20000 in
theorem in_wsL_law_r26 : ∀ w ∈ wsL_law_r26, w ∈ lw_tbl := fun w h => (goodIn_p wsL_law_r26 [636, 887, 640, 644, 891, 648, 652] (by decide +kernel) (by decide +kernel) w h).1
set_option maxRecDepth 20000 in
theorem in_wsL_law_r27 : ∀ w ∈ wsL_law_r27, w ∈ lw_tbl := fun w h => (goodIn_p wsL_law_r27 [895, 656, 899] (by decide +kernel) (by decide +kernel) w h).1
set_option maxRecDepth 20000 in
theorem in_wsX60 : ∀ w ∈ wsX60, w ∈ lw_tbl := fun w h => (goodIn_p wsX60 [] (by decide +kernel) (by decide +kernel) w h).1
set_option maxRecDepth 20000 in
theorem in_wsX70 : ∀ w ∈ wsX70, w ∈ lw_tbl := fun w h => (goodIn_p wsX70 [] (by decide +kernel) (by decide +kernel) w h).1
set_option maxRecDepth 20000 in
theorem in_wsX30 : ∀ w ∈ wsX30, w ∈ lw_tbl := fun w h => (goodIn_p wsX30 [] (by decide +kernel) (by decide +kernel) w h).1
set_option maxRecDepth 20000 in
theorem in_wsX40 : ∀ w ∈ wsX40, w ∈ lw_tbl := fun w h => (goodIn_p wsX40 [] (by decide +kernel) (by decide +kernel) w h).1
set_option maxRecDepth 20000 in
theorem in_wsX00 : ∀ w ∈ wsX00, w ∈ lw_tbl := fun w h => (goodIn_p wsX00 [] (by decide +kernel) (by decide +kernel) w h).1
set_option maxRecDepth 20000 in
theorem in_wsX10 : ∀ w ∈ wsX10, w ∈ lw_tbl := fun w h => (goodIn_p wsX10 [] (by decide +kernel) (by decide +kernel) w h).1
set_option maxRecDepth 20000 in
theorem in_wsX20 : ∀ w ∈ wsX20, w ∈ lw_tbl := fun w h => (goodIn_p wsX20 [] (by decide +kernel) (by decide +kernel) w h).1
set_option maxRecDepth 20000 in
theorem in_wsX50 : ∀ w ∈ wsX50, w ∈ lw_tbl := fun w h => (goodIn_p wsX50 [] (by decide +kernel) (by decide +kernel) w h).1
theorem wsL_law_in : ∀ w ∈ wsL_law, w ∈ lw_tbl := ob_mapp (ob_mapp (ob_mapp (ob_mapp (ob_mapp (ob_mapp (ob_mapp (ob_mapp (ob_mapp (ob_mapp in_wsL_law_r1 (ob_mapp in_wsL_law_r2 (ob_mapp in_wsL_law_r3 (ob_mapp in_wsL_law_r4 (ob_mapp in_wsL_law_r5 (ob_mapp in_wsL_law_r6 (ob_mapp in_wsL_law_r7 (ob_mapp in_wsL_law_r8 (ob_mapp in_wsL_law_r9 (ob_mapp in_wsL_law_r10 (ob_mapp in_wsL_law_r11 (ob_mapp in_wsL_law_r12 (ob_mapp in_wsL_law_r13 (ob_mapp in_wsL_law_r14 (ob_mapp in_wsL_law_r15 (ob_mapp in_wsL_law_r16 (ob_mapp in_wsL_law_r17 (ob_mapp in_wsL_law_r18 (ob_mapp in_wsL_law_r19 (ob_mapp in_wsL_law_r20 (ob_mapp in_wsL_law_r21 (ob_mapp in_wsL_law_r22 (ob_mapp in_wsL_law_r23 (ob_mapp in_wsL_law_r24 (ob_mapp in_wsL_law_r25 (ob_mapp in_wsL_law_r26 (in_wsL_law_r27))))))))))))))))))))))))))) in_wsX60) in_wsX70) in_wsX30) in_wsX40) in_wsX00) in_wsX10) in_wsX20) in_wsX50) (fun _ h => absurd h List.not_mem_nil)
theorem inlX0 : ∀ w ∈ wsX00, w ∈ wsL_law := fun _ h => List.mem_append_left _ (List.mem_append_left _ (List.mem_append_left _ (List.mem_append_left _ (List.mem_append_right _ h))))
theorem inX0 : ∀ w ∈ wsX00, w ∈ lw_tbl := fun w h => wsL_law_in w (inlX0 w h)
theorem inlX1 : ∀ w ∈ wsX10, w ∈ wsL_law := fun _ h => List.mem_append_left _ (List.mem_append_left _ (List.mem_append_left _ (List.mem_append_right _ h)))
theorem inX1 : ∀ w ∈ wsX10, w ∈ lw_tbl := fun w h => wsL_law_in w (inlX1 w h)
theorem inlX2 : ∀ w ∈ wsX20, w ∈ wsL_law := fun _ h => List.mem_append_left _ (List.mem_append_left _ (List.mem_append_right _ h))
theorem inX2 : ∀ w ∈ wsX20, w ∈ lw_tbl := fun w h => wsL_law_in w (inlX2 w h)
theorem inlX3 : ∀ w ∈ wsX30, w ∈ wsL_law := fun _ h => List.mem_append_left _ (List.mem_append_left _ (List.mem_append_left _ (List.mem_append_left _ (List.mem_append_left _ (List.mem_append_left _ (List.mem_append_right _ h))))))
theorem inX3 : ∀ w ∈ wsX30, w ∈ lw_tbl := fun w h => wsL_law_in w (inlX3 w h)
theorem inlX4 : ∀ w ∈ wsX40, w ∈ wsL_law := fun _ h => List.mem_append_left _ (List.mem_append_left _ (List.mem_append_left _ (List.mem_append_left _ (List.mem_append_left _ (List.mem_append_right _ h)))))
theorem inX4 : ∀ w ∈ wsX40, w ∈ lw_tbl := fun w h => wsL_law_in w (inlX4 w h)
theorem inlX5 : ∀ w ∈ wsX50, w ∈ wsL_law := fun _ h => List.mem_append_left _ (List.mem_append_right _ h)
theorem inX5 : ∀ w ∈ wsX50, w ∈ lw_tbl := fun w h => wsL_law_in w (inlX5 w h)
theorem inlX6 : ∀ w ∈ wsX60, w ∈ wsL_law := fun _ h => List.mem_append_left _ (List.mem_append_left _ (List.mem_append_left _ (List.mem_append_left _ (List.mem_append_left _ (List.mem_append_left _ (List.mem_append_left _ (List.mem_append_left _ (List.mem_append_right _ h))))))))
theorem inX6 : ∀ w ∈ wsX60, w ∈ lw_tbl := fun w h => wsL_law_in w (inlX6 w h)
theorem inlX7 : ∀ w ∈ wsX70, w ∈ wsL_law := fun _ h => List.mem_append_left _ (List.mem_append_left _ (List.mem_append_left _ (List.mem_append_left _ (List.mem_append_left _ (List.mem_append_left _ (List.mem_append_left _ (List.mem_append_right _ h)))))))
theorem inX7 : ∀ w ∈ wsX70, w ∈ lw_tbl := fun w h => wsL_law_in w (inlX7 w h)
theorem inJ6 : ∀ w ∈ wsJ60, w ∈ lw_tbl := by decide +kernel
end
section
theorem dX0_init_0 : decode cX0_init 0 = .ok (.aload_n 0, 1) := by decide +kernel
theorem dX0_init_1 : decode cX0_init 1 = .ok (.invokespecial 3, 3) := by decide +kernel
theorem dX0_init_4 : decode cX0_init 4 = .ok (.aload_n 0, 1) := by decide +kernel
theorem dX0_init_5 : decode cX0_init 5 = .ok (.sipush 10240, 3) := by decide +kernel
theorem dX0_init_8 : decode cX0_init 8 = .ok (.newarray .int, 2) := by decide +kernel
theorem dX0_init_10 : decode cX0_init 10 = .ok (.putfield 9, 3) := by decide +kernel
theorem dX0_init_13 : decode cX0_init 13 = .ok (.aload_n 0, 1) := by decide +kernel
theorem dX0_init_14 : decode cX0_init 14 = .ok (.iconst 0, 1) := by decide +kernel
theorem dX0_init_15 : decode cX0_init 15 = .ok (.putfield 15, 3) := by decide +kernel
theorem dX0_init_18 : decode cX0_init 18 = .ok (.aload_n 0, 1) := by decide +kernel
theorem dX0_init_19 : decode cX0_init 19 = .ok (.iconst 0, 1) := by decide +kernel
theorem dX0_init_20 : decode cX0_init 20 = .ok (.putfield 19, 3) := by decide +kernel
theorem dX0_init_23 : decode cX0_init 23 = .ok (.aload_n 0, 1) := by decide +kernel
theorem dX0_init_24 : decode cX0_init 24 = .ok (.iconst 0, 1) := by decide +kernel
theorem dX0_init_25 : decode cX0_init 25 = .ok (.putfield 23, 3) := by decide +kernel
theorem dX0_init_28 : decode cX0_init 28 = .ok (.aload_n 0, 1) := by decide +kernel
theorem dX0_init_29 : decode cX0_init 29 = .ok (.iconst 0, 1) := by decide +kernel
theorem dX0_init_30 : decode cX0_init 30 = .ok (.putfield 26, 3) := by decide +kernel
theorem dX0_init_33 : decode cX0_init 33 = .ok (.aload_n 0, 1) := by decide +kernel
theorem dX0_init_34 : decode cX0_init 34 = .ok (.bipush (-6), 2) := by decide +kernel
theorem dX0_init_36 : decode cX0_init 36 = .ok (.putfield 29, 3) := by decide +kernel
theorem dX0_init_39 : decode cX0_init 39 = .ok (.aload_n 0, 1) := by decide +kernel
theorem dX0_init_40 : decode cX0_init 40 = .ok (.aload_n 1, 1) := by decide +kernel
theorem dX0_init_41 : decode cX0_init 41 = .ok (.putfield 32, 3) := by decide +kernel
theorem dX0_init_44 : decode cX0_init 44 = .ok (.return_, 1) := by decide +kernel
set_option maxRecDepth 20000 in
theorem ggX0_fight_X0_start : GoodIn wsX0_fight wsX0_start := goodIn_r _ [7, 8, 9, 10, 11, 12, 13, 6, 14, 1, 2, 15, 16, 17, 18, 19, 20, 21, 22, 23, 24, 25, 26, 27, 28, 29, 30, 31, 32, 33, 34, 35, 36, 37, 38, 39, 40, 41, 42, 43, 44, 45, 46, 47, 48, 49, 50, 51, 52, 53, 54, 55] (by decide +kernel) (by decide +kernel)
set_option maxRecDepth 20000 in
theorem gX0_fight_X0_start : GoodIn wsX0_fight (wsV RX0 36 RX0 yX0_start wsX0_start) := goodIn_app (goodIn_of _ (by decide +kernel)) ggX0_fight_X0_start
theorem dX0_fight_0 : decode cX0_fight 0 = .ok (.aload_n 0, 1) := by decide +kernel
theorem dX0_fight_1 : decode cX0_fight 1 = .ok (.iconst 0, 1) := by decide +kernel
theorem dX0_fight_2 : decode cX0_fight 2 = .ok (.putfield 19, 3) := by decide +kernel
theorem dX0_fight_5 : decode cX0_fight 5 = .ok (.aload_n 0, 1) := by decide +kernel
theorem dX0_fight_6 : decode cX0_fight 6 = .ok (.iload 5, 2) := by decide +kernel
theorem dX0_fight_8 : decode cX0_fight 8 = .ok (.ifCond .eq 8, 3) := by decide +kernel
theorem dX0_fight_11 : decode cX0_fight 11 = .ok (.bipush 20, 2) := by decide +kernel
theorem dX0_fight_13 : decode cX0_fight 13 = .ok (.goto 5, 3) := by decide +kernel
theorem dX0_fight_16 : decode cX0_fight 16 = .ok (.bipush 39, 2) := by decide +kernel
theorem dX0_fight_18 : decode cX0_fight 18 = .ok (.putfield 23, 3) := by decide +kernel
theorem dX0_fight_21 : decode cX0_fight 21 = .ok (.aload_n 0, 1) := by decide +kernel
theorem dX0_fight_22 : decode cX0_fight 22 = .ok (.iload_n 1, 1) := by decide +kernel
theorem dX0_fight_23 : decode cX0_fight 23 = .ok (.iload_n 2, 1) := by decide +kernel
theorem dX0_fight_24 : decode cX0_fight 24 = .ok (.iload_n 3, 1) := by decide +kernel
theorem dX0_fight_25 : decode cX0_fight 25 = .ok (.iload 4, 2) := by decide +kernel
theorem dX0_fight_27 : decode cX0_fight 27 = .ok (.invokevirtual 36, 3) := by decide +kernel
theorem dX0_fight_30 : decode cX0_fight 30 = .ok (.return_, 1) := by decide +kernel
set_option maxRecDepth 20000 in
theorem ggX0_spin_X0_start : GoodIn wsX0_spin wsX0_start := goodIn_r _ [6, 7, 8, 9, 10, 11, 12, 5, 13, 1, 14, 15, 16, 17, 18, 19, 20, 21, 22, 23, 24, 25, 26, 27, 28, 29, 30, 31, 32, 33, 34, 35, 36, 37, 38, 39, 40, 41, 42, 43, 44, 45, 46, 47, 48, 49, 50, 51, 52, 53, 54, 55] (by decide +kernel) (by decide +kernel)
set_option maxRecDepth 20000 in
theorem gX0_spin_X0_start : GoodIn wsX0_spin (wsV RX0 36 RX0 yX0_start wsX0_start) := goodIn_app (goodIn_of _ (by decide +kernel)) ggX0_spin_X0_start
theorem dX0_spin_0 : decode cX0_spin 0 = .ok (.aload_n 0, 1) := by decide +kernel
theorem dX0_spin_1 : decode cX0_spin 1 = .ok (.iconst 1, 1) := by decide +kernel
theorem dX0_spin_2 : decode cX0_spin 2 = .ok (.putfield 19, 3) := by decide +kernel
theorem dX0_spin_5 : decode cX0_spin 5 = .ok (.aload_n 0, 1) := by decide +kernel
theorem dX0_spin_6 : decode cX0_spin 6 = .ok (.iload_n 1, 1) := by decide +kernel
theorem dX0_spin_7 : decode cX0_spin 7 = .ok (.iload_n 2, 1) := by decide +kernel
theorem dX0_spin_8 : decode cX0_spin 8 = .ok (.iload_n 3, 1) := by decide +kernel
theorem dX0_spin_9 : decode cX0_spin 9 = .ok (.iload 4, 2) := by decide +kernel
theorem dX0_spin_11 : decode cX0_spin 11 = .ok (.invokevirtual 36, 3) := by decide +kernel
theorem dX0_spin_14 : decode cX0_spin 14 = .ok (.return_, 1) := by decide +kernel
theorem dX0_moverPays_0 : decode cX0_moverPays 0 = .ok (.aload_n 0, 1) := by decide +kernel
theorem dX0_moverPays_1 : decode cX0_moverPays 1 = .ok (.getfield 26, 3) := by decide +kernel
theorem dX0_moverPays_4 : decode cX0_moverPays 4 = .ok (.bipush 20, 2) := by decide +kernel
theorem dX0_moverPays_6 : decode cX0_moverPays 6 = .ok (.if_icmp .ge 7, 3) := by decide +kernel
theorem dX0_moverPays_9 : decode cX0_moverPays 9 = .ok (.iconst 1, 1) := by decide +kernel
theorem dX0_moverPays_10 : decode cX0_moverPays 10 = .ok (.goto 4, 3) := by decide +kernel
theorem dX0_moverPays_13 : decode cX0_moverPays 13 = .ok (.iconst 0, 1) := by decide +kernel
theorem dX0_moverPays_14 : decode cX0_moverPays 14 = .ok (.ireturn, 1) := by decide +kernel
theorem dX0_howMany_0 : decode cX0_howMany 0 = .ok (.aload_n 0, 1) := by decide +kernel
theorem dX0_howMany_1 : decode cX0_howMany 1 = .ok (.getfield 26, 3) := by decide +kernel
theorem dX0_howMany_4 : decode cX0_howMany 4 = .ok (.bipush 20, 2) := by decide +kernel
theorem dX0_howMany_6 : decode cX0_howMany 6 = .ok (.if_icmp .ge 10, 3) := by decide +kernel
theorem dX0_howMany_9 : decode cX0_howMany 9 = .ok (.aload_n 0, 1) := by decide +kernel
theorem dX0_howMany_10 : decode cX0_howMany 10 = .ok (.getfield 26, 3) := by decide +kernel
theorem dX0_howMany_13 : decode cX0_howMany 13 = .ok (.goto 10, 3) := by decide +kernel
theorem dX0_howMany_16 : decode cX0_howMany 16 = .ok (.bipush 40, 2) := by decide +kernel
theorem dX0_howMany_18 : decode cX0_howMany 18 = .ok (.aload_n 0, 1) := by decide +kernel
theorem dX0_howMany_19 : decode cX0_howMany 19 = .ok (.getfield 26, 3) := by decide +kernel
theorem dX0_howMany_22 : decode cX0_howMany 22 = .ok (.isub, 1) := by decide +kernel
theorem dX0_howMany_23 : decode cX0_howMany 23 = .ok (.ireturn, 1) := by decide +kernel
theorem dX0_spun_0 : decode cX0_spun 0 = .ok (.aload_n 0, 1) := by decide +kernel
theorem dX0_spun_1 : decode cX0_spun 1 = .ok (.getfield 26, 3) := by decide +kernel
theorem dX0_spun_4 : decode cX0_spun 4 = .ok (.ireturn, 1) := by decide +kernel
theorem dX0_firstMove_0 : decode cX0_firstMove 0 = .ok (.aload_n 0, 1) := by decide +kernel
theorem dX0_firstMove_1 : decode cX0_firstMove 1 = .ok (.getfield 29, 3) := by decide +kernel
theorem dX0_firstMove_4 : decode cX0_firstMove 4 = .ok (.ireturn, 1) := by decide +kernel
set_option maxRecDepth 20000 in
theorem ggX0_start_X0_best : GoodIn wsX0_start wsX0_best := goodIn_r _ [8, 9, 10, 2, 11, 12, 13, 14, 15, 16, 17, 18, 19, 20, 21, 22, 23, 7, 24, 25, 26, 27, 28, 29, 1, 30, 31, 32, 33, 34, 35, 36, 37, 4, 5, 6, 38, 39, 40, 41, 42, 43, 44, 45, 46, 47, 48, 49, 50, 51] (by decide +kernel) (by decide +kernel)
set_option maxRecDepth 20000 in
theorem gX0_start_X0_best : GoodIn wsX0_start (wsV RX0 40 RX0 yX0_best wsX0_best) := goodIn_app (goodIn_of _ (by decide +kernel)) ggX0_start_X0_best
theorem dX0_start_0 : decode cX0_start 0 = .ok (.aload_n 0, 1) := by decide +kernel
theorem dX0_start_1 : decode cX0_start 1 = .ok (.dup, 1) := by decide +kernel
theorem dX0_start_2 : decode cX0_start 2 = .ok (.getfield 15, 3) := by decide +kernel
theorem dX0_start_5 : decode cX0_start 5 = .ok (.iconst 1, 1) := by decide +kernel
theorem dX0_start_6 : decode cX0_start 6 = .ok (.iadd, 1) := by decide +kernel
theorem dX0_start_7 : decode cX0_start 7 = .ok (.putfield 15, 3) := by decide +kernel
theorem dX0_start_10 : decode cX0_start 10 = .ok (.aload_n 0, 1) := by decide +kernel
theorem dX0_start_11 : decode cX0_start 11 = .ok (.bipush (-6), 2) := by decide +kernel
theorem dX0_start_13 : decode cX0_start 13 = .ok (.putfield 29, 3) := by decide +kernel
theorem dX0_start_16 : decode cX0_start 16 = .ok (.aload_n 0, 1) := by decide +kernel
theorem dX0_start_17 : decode cX0_start 17 = .ok (.aload_n 0, 1) := by decide +kernel
theorem dX0_start_18 : decode cX0_start 18 = .ok (.iload_n 1, 1) := by decide +kernel
theorem dX0_start_19 : decode cX0_start 19 = .ok (.iload_n 2, 1) := by decide +kernel
theorem dX0_start_20 : decode cX0_start 20 = .ok (.iload_n 3, 1) := by decide +kernel
theorem dX0_start_21 : decode cX0_start 21 = .ok (.iload 4, 2) := by decide +kernel
theorem dX0_start_23 : decode cX0_start 23 = .ok (.iconst 0, 1) := by decide +kernel
theorem dX0_start_24 : decode cX0_start 24 = .ok (.invokevirtual 40, 3) := by decide +kernel
theorem dX0_start_27 : decode cX0_start 27 = .ok (.putfield 26, 3) := by decide +kernel
theorem dX0_start_30 : decode cX0_start 30 = .ok (.return_, 1) := by decide +kernel
set_option maxRecDepth 20000 in
theorem ggX0_best_J6_bitCount_0f7a4 : GoodIn wsX0_best wsJ6_bitCount_0f7a4 := goodIn_r _ [7, 8, 9, 10] (by decide +kernel) (by decide +kernel)
set_option maxRecDepth 20000 in
theorem gX0_best_J6_bitCount_0f7a4 : GoodIn wsX0_best (va_wsS RX0 44 yJ6_bitCount_0f7a4 wsJ6_bitCount_0f7a4) := goodIn_app (goodIn_of _ (by decide +kernel)) ggX0_best_J6_bitCount_0f7a4
set_option maxRecDepth 20000 in
theorem ggX0_best_X6_has : GoodIn wsX0_best wsX6_has := goodIn_r _ [13] (by decide +kernel) (by decide +kernel)
set_option maxRecDepth 20000 in
theorem gX0_best_X6_has_n50 : GoodIn wsX0_best (wsX6_has) := ggX0_best_X6_has
set_option maxRecDepth 20000 in
theorem ggX0_best_X0_afterwards : GoodIn wsX0_best wsX0_afterwards := goodIn_r _ [22, 23, 24, 25, 26, 12, 27, 28, 29, 30, 31, 32, 33, 34, 35, 17, 36, 37, 0, 1, 2, 3, 4, 5, 6, 7, 8, 9, 10, 11, 13, 14, 15, 16, 18, 19, 20, 21, 38, 39, 40, 41, 42, 43, 44, 45, 46, 47, 48, 49] (by decide +kernel) (by decide +kernel)
set_option maxRecDepth 20000 in
theorem gX0_best_X0_afterwards : GoodIn wsX0_best (wsV RX0 54 RX0 yX0_afterwards wsX0_afterwards) := goodIn_app (goodIn_of _ (by decide +kernel)) ggX0_best_X0_afterwards
set_option maxRecDepth 20000 in
theorem ggX0_best_X0_turned : GoodIn wsX0_best wsX0_turned := goodIn_r _ [21, 1, 38, 39, 40, 41, 42, 43, 44] (by decide +kernel) (by decide +kernel)
set_option maxRecDepth 20000 in
theorem gX0_best_X0_turned : GoodIn wsX0_best (wsV RX0 57 RX0 yX0_turned wsX0_turned) := goodIn_app (goodIn_of _ (by decide +kernel)) ggX0_best_X0_turned
theorem dX0_best_0 : decode cX0_best 0 = .ok (.iconst 0, 1) := by decide +kernel
theorem dX0_best_1 : decode cX0_best 1 = .ok (.istore 6, 2) := by decide +kernel
theorem dX0_best_3 : decode cX0_best 3 = .ok (.iload_n 1, 1) := by decide +kernel
theorem dX0_best_4 : decode cX0_best 4 = .ok (.ifCond .eq 10, 3) := by decide +kernel
theorem dX0_best_7 : decode cX0_best 7 = .ok (.iload 5, 2) := by decide +kernel
theorem dX0_best_9 : decode cX0_best 9 = .ok (.bipush 10, 2) := by decide +kernel
theorem dX0_best_11 : decode cX0_best 11 = .ok (.if_icmp .lt 6, 3) := by decide +kernel
theorem dX0_best_14 : decode cX0_best 14 = .ok (.iload 6, 2) := by decide +kernel
theorem dX0_best_16 : decode cX0_best 16 = .ok (.ireturn, 1) := by decide +kernel
theorem dX0_best_17 : decode cX0_best 17 = .ok (.aload_n 0, 1) := by decide +kernel
theorem dX0_best_18 : decode cX0_best 18 = .ok (.getfield 19, 3) := by decide +kernel
theorem dX0_best_21 : decode cX0_best 21 = .ok (.ifCond .eq 17, 3) := by decide +kernel
theorem dX0_best_24 : decode cX0_best 24 = .ok (.iload_n 3, 1) := by decide +kernel
theorem dX0_best_25 : decode cX0_best 25 = .ok (.iload 4, 2) := by decide +kernel
theorem dX0_best_27 : decode cX0_best 27 = .ok (.ior, 1) := by decide +kernel
theorem dX0_best_28 : decode cX0_best 28 = .ok (.iload_n 2, 1) := by decide +kernel
theorem dX0_best_29 : decode cX0_best 29 = .ok (.iconst (-1), 1) := by decide +kernel
theorem dX0_best_30 : decode cX0_best 30 = .ok (.ixor, 1) := by decide +kernel
theorem dX0_best_31 : decode cX0_best 31 = .ok (.iand, 1) := by decide +kernel
theorem dX0_best_32 : decode cX0_best 32 = .ok (.invokestatic 44, 3) := by decide +kernel
theorem dX0_best_35 : decode cX0_best 35 = .ok (.goto 7, 3) := by decide +kernel
theorem dX0_best_38 : decode cX0_best 38 = .ok (.aload_n 0, 1) := by decide +kernel
theorem dX0_best_39 : decode cX0_best 39 = .ok (.getfield 23, 3) := by decide +kernel
theorem dX0_best_42 : decode cX0_best 42 = .ok (.istore 7, 2) := by decide +kernel
theorem dX0_best_44 : decode cX0_best 44 = .ok (.iconst 0, 1) := by decide +kernel
theorem dX0_best_45 : decode cX0_best 45 = .ok (.istore 8, 2) := by decide +kernel
theorem dX0_best_47 : decode cX0_best 47 = .ok (.iload 8, 2) := by decide +kernel
theorem dX0_best_49 : decode cX0_best 49 = .ok (.bipush 10, 2) := by decide +kernel
theorem dX0_best_51 : decode cX0_best 51 = .ok (.if_icmp .ge 75, 3) := by decide +kernel
theorem dX0_best_54 : decode cX0_best 54 = .ok (.iload 6, 2) := by decide +kernel
theorem dX0_best_56 : decode cX0_best 56 = .ok (.iload 7, 2) := by decide +kernel
theorem dX0_best_58 : decode cX0_best 58 = .ok (.if_icmp .ge 68, 3) := by decide +kernel
theorem dX0_best_61 : decode cX0_best 61 = .ok (.iload_n 1, 1) := by decide +kernel
theorem dX0_best_62 : decode cX0_best 62 = .ok (.iload 8, 2) := by decide +kernel
theorem dX0_best_64 : decode cX0_best 64 = .ok (.invokestatic 50, 3) := by decide +kernel
theorem dX0_best_67 : decode cX0_best 67 = .ok (.ifCond .ne 6, 3) := by decide +kernel
theorem dX0_best_70 : decode cX0_best 70 = .ok (.goto 50, 3) := by decide +kernel
theorem dX0_best_73 : decode cX0_best 73 = .ok (.aload_n 0, 1) := by decide +kernel
theorem dX0_best_74 : decode cX0_best 74 = .ok (.aload_n 0, 1) := by decide +kernel
theorem dX0_best_75 : decode cX0_best 75 = .ok (.iload_n 2, 1) := by decide +kernel
theorem dX0_best_76 : decode cX0_best 76 = .ok (.iconst 1, 1) := by decide +kernel
theorem dX0_best_77 : decode cX0_best 77 = .ok (.iload 8, 2) := by decide +kernel
theorem dX0_best_79 : decode cX0_best 79 = .ok (.ishl, 1) := by decide +kernel
theorem dX0_best_80 : decode cX0_best 80 = .ok (.ior, 1) := by decide +kernel
theorem dX0_best_81 : decode cX0_best 81 = .ok (.iload 8, 2) := by decide +kernel
theorem dX0_best_83 : decode cX0_best 83 = .ok (.iload 4, 2) := by decide +kernel
theorem dX0_best_85 : decode cX0_best 85 = .ok (.iload_n 3, 1) := by decide +kernel
theorem dX0_best_86 : decode cX0_best 86 = .ok (.iload 5, 2) := by decide +kernel
theorem dX0_best_88 : decode cX0_best 88 = .ok (.iconst 1, 1) := by decide +kernel
theorem dX0_best_89 : decode cX0_best 89 = .ok (.iadd, 1) := by decide +kernel
theorem dX0_best_90 : decode cX0_best 90 = .ok (.invokevirtual 54, 3) := by decide +kernel
theorem dX0_best_93 : decode cX0_best 93 = .ok (.invokevirtual 57, 3) := by decide +kernel
theorem dX0_best_96 : decode cX0_best 96 = .ok (.istore 9, 2) := by decide +kernel
theorem dX0_best_98 : decode cX0_best 98 = .ok (.iload 9, 2) := by decide +kernel
theorem dX0_best_100 : decode cX0_best 100 = .ok (.iload 6, 2) := by decide +kernel
theorem dX0_best_102 : decode cX0_best 102 = .ok (.if_icmp .le 18, 3) := by decide +kernel
theorem dX0_best_105 : decode cX0_best 105 = .ok (.iload 9, 2) := by decide +kernel
theorem dX0_best_107 : decode cX0_best 107 = .ok (.istore 6, 2) := by decide +kernel
theorem dX0_best_109 : decode cX0_best 109 = .ok (.iload 5, 2) := by decide +kernel
theorem dX0_best_111 : decode cX0_best 111 = .ok (.ifCond .ne 9, 3) := by decide +kernel
theorem dX0_best_114 : decode cX0_best 114 = .ok (.aload_n 0, 1) := by decide +kernel
theorem dX0_best_115 : decode cX0_best 115 = .ok (.iload 8, 2) := by decide +kernel
theorem dX0_best_117 : decode cX0_best 117 = .ok (.putfield 29, 3) := by decide +kernel
theorem dX0_best_120 : decode cX0_best 120 = .ok (.iinc 8 1, 3) := by decide +kernel
theorem dX0_best_123 : decode cX0_best 123 = .ok (.goto (-76), 3) := by decide +kernel
theorem dX0_best_126 : decode cX0_best 126 = .ok (.iload 6, 2) := by decide +kernel
theorem dX0_best_128 : decode cX0_best 128 = .ok (.ireturn, 1) := by decide +kernel
set_option maxRecDepth 20000 in
theorem ggX0_afterwards_X6_at : GoodIn wsX0_afterwards wsX6_at := goodIn_r _ [6] (by decide +kernel) (by decide +kernel)
set_option maxRecDepth 20000 in
theorem gX0_afterwards_X6_at_n60 : GoodIn wsX0_afterwards (wsX6_at) := ggX0_afterwards_X6_at
set_option maxRecDepth 20000 in
theorem ggX0_afterwards_X4_worseThan : GoodIn wsX0_afterwards wsX4_worseThan := goodIn_r _ [10, 11, 4, 5, 6, 45, 46, 47, 48, 49] (by decide +kernel) (by decide +kernel)
set_option maxRecDepth 20000 in
theorem gX0_afterwards_X4_worseThan_n64 : GoodIn wsX0_afterwards (wsX4_worseThan) := ggX0_afterwards_X4_worseThan
set_option maxRecDepth 20000 in
theorem ggX0_afterwards_X0_best : GoodIn wsX0_afterwards wsX0_best := goodIn_r _ [18, 19, 20, 21, 22, 23, 24, 25, 26, 27, 28, 29, 5, 30, 31, 32, 33, 15, 34, 35, 36, 37, 0, 1, 2, 3, 4, 6, 7, 8, 9, 10, 11, 12, 13, 14, 16, 17, 38, 39, 40, 41, 42, 43, 44, 45, 46, 47, 48, 49] (by decide +kernel) (by decide +kernel)
set_option maxRecDepth 20000 in
theorem gX0_afterwards_X0_best : GoodIn wsX0_afterwards (wsV RX0 40 RX0 yX0_best wsX0_best) := goodIn_app (goodIn_of _ (by decide +kernel)) ggX0_afterwards_X0_best
set_option maxRecDepth 20000 in
theorem ggX0_afterwards_X6_store : GoodIn wsX0_afterwards wsX6_store := goodIn_r _ [17] (by decide +kernel) (by decide +kernel)
set_option maxRecDepth 20000 in
theorem gX0_afterwards_X6_store_n69 : GoodIn wsX0_afterwards (wsX6_store) := ggX0_afterwards_X6_store
theorem dX0_afterwards_0 : decode cX0_afterwards 0 = .ok (.iload_n 1, 1) := by decide +kernel
theorem dX0_afterwards_1 : decode cX0_afterwards 1 = .ok (.bipush 10, 2) := by decide +kernel
theorem dX0_afterwards_3 : decode cX0_afterwards 3 = .ok (.imul, 1) := by decide +kernel
theorem dX0_afterwards_4 : decode cX0_afterwards 4 = .ok (.iload_n 2, 1) := by decide +kernel
theorem dX0_afterwards_5 : decode cX0_afterwards 5 = .ok (.iadd, 1) := by decide +kernel
theorem dX0_afterwards_6 : decode cX0_afterwards 6 = .ok (.istore 6, 2) := by decide +kernel
theorem dX0_afterwards_8 : decode cX0_afterwards 8 = .ok (.aload_n 0, 1) := by decide +kernel
theorem dX0_afterwards_9 : decode cX0_afterwards 9 = .ok (.getfield 9, 3) := by decide +kernel
theorem dX0_afterwards_12 : decode cX0_afterwards 12 = .ok (.iload 6, 2) := by decide +kernel
theorem dX0_afterwards_14 : decode cX0_afterwards 14 = .ok (.invokestatic 60, 3) := by decide +kernel
theorem dX0_afterwards_17 : decode cX0_afterwards 17 = .ok (.istore 7, 2) := by decide +kernel
theorem dX0_afterwards_19 : decode cX0_afterwards 19 = .ok (.iload 7, 2) := by decide +kernel
theorem dX0_afterwards_21 : decode cX0_afterwards 21 = .ok (.bipush 64, 2) := by decide +kernel
theorem dX0_afterwards_23 : decode cX0_afterwards 23 = .ok (.idiv, 1) := by decide +kernel
theorem dX0_afterwards_24 : decode cX0_afterwards 24 = .ok (.aload_n 0, 1) := by decide +kernel
theorem dX0_afterwards_25 : decode cX0_afterwards 25 = .ok (.getfield 15, 3) := by decide +kernel
theorem dX0_afterwards_28 : decode cX0_afterwards 28 = .ok (.if_icmp .ne 9, 3) := by decide +kernel
theorem dX0_afterwards_31 : decode cX0_afterwards 31 = .ok (.iload 7, 2) := by decide +kernel
theorem dX0_afterwards_33 : decode cX0_afterwards 33 = .ok (.bipush 64, 2) := by decide +kernel
theorem dX0_afterwards_35 : decode cX0_afterwards 35 = .ok (.irem, 1) := by decide +kernel
theorem dX0_afterwards_36 : decode cX0_afterwards 36 = .ok (.ireturn, 1) := by decide +kernel
theorem dX0_afterwards_37 : decode cX0_afterwards 37 = .ok (.aload_n 0, 1) := by decide +kernel
theorem dX0_afterwards_38 : decode cX0_afterwards 38 = .ok (.getfield 32, 3) := by decide +kernel
theorem dX0_afterwards_41 : decode cX0_afterwards 41 = .ok (.iload_n 2, 1) := by decide +kernel
theorem dX0_afterwards_42 : decode cX0_afterwards 42 = .ok (.invokevirtual 64, 3) := by decide +kernel
theorem dX0_afterwards_45 : decode cX0_afterwards 45 = .ok (.iload_n 3, 1) := by decide +kernel
theorem dX0_afterwards_46 : decode cX0_afterwards 46 = .ok (.iand, 1) := by decide +kernel
theorem dX0_afterwards_47 : decode cX0_afterwards 47 = .ok (.iload_n 1, 1) := by decide +kernel
theorem dX0_afterwards_48 : decode cX0_afterwards 48 = .ok (.iconst (-1), 1) := by decide +kernel
theorem dX0_afterwards_49 : decode cX0_afterwards 49 = .ok (.ixor, 1) := by decide +kernel
theorem dX0_afterwards_50 : decode cX0_afterwards 50 = .ok (.iand, 1) := by decide +kernel
theorem dX0_afterwards_51 : decode cX0_afterwards 51 = .ok (.istore 8, 2) := by decide +kernel
theorem dX0_afterwards_53 : decode cX0_afterwards 53 = .ok (.aload_n 0, 1) := by decide +kernel
theorem dX0_afterwards_54 : decode cX0_afterwards 54 = .ok (.iload 8, 2) := by decide +kernel
theorem dX0_afterwards_56 : decode cX0_afterwards 56 = .ok (.iload_n 1, 1) := by decide +kernel
theorem dX0_afterwards_57 : decode cX0_afterwards 57 = .ok (.iload_n 3, 1) := by decide +kernel
theorem dX0_afterwards_58 : decode cX0_afterwards 58 = .ok (.iload 4, 2) := by decide +kernel
theorem dX0_afterwards_60 : decode cX0_afterwards 60 = .ok (.iload 5, 2) := by decide +kernel
theorem dX0_afterwards_62 : decode cX0_afterwards 62 = .ok (.invokevirtual 40, 3) := by decide +kernel
theorem dX0_afterwards_65 : decode cX0_afterwards 65 = .ok (.istore 9, 2) := by decide +kernel
theorem dX0_afterwards_67 : decode cX0_afterwards 67 = .ok (.aload_n 0, 1) := by decide +kernel
theorem dX0_afterwards_68 : decode cX0_afterwards 68 = .ok (.getfield 9, 3) := by decide +kernel
theorem dX0_afterwards_71 : decode cX0_afterwards 71 = .ok (.iload 6, 2) := by decide +kernel
theorem dX0_afterwards_73 : decode cX0_afterwards 73 = .ok (.aload_n 0, 1) := by decide +kernel
theorem dX0_afterwards_74 : decode cX0_afterwards 74 = .ok (.getfield 15, 3) := by decide +kernel
theorem dX0_afterwards_77 : decode cX0_afterwards 77 = .ok (.bipush 64, 2) := by decide +kernel
theorem dX0_afterwards_79 : decode cX0_afterwards 79 = .ok (.imul, 1) := by decide +kernel
theorem dX0_afterwards_80 : decode cX0_afterwards 80 = .ok (.iload 9, 2) := by decide +kernel
theorem dX0_afterwards_82 : decode cX0_afterwards 82 = .ok (.iadd, 1) := by decide +kernel
theorem dX0_afterwards_83 : decode cX0_afterwards 83 = .ok (.invokestatic 69, 3) := by decide +kernel
theorem dX0_afterwards_86 : decode cX0_afterwards 86 = .ok (.iload 9, 2) := by decide +kernel
theorem dX0_afterwards_88 : decode cX0_afterwards 88 = .ok (.ireturn, 1) := by decide +kernel
theorem dX0_turned_0 : decode cX0_turned 0 = .ok (.aload_n 0, 1) := by decide +kernel
theorem dX0_turned_1 : decode cX0_turned 1 = .ok (.getfield 19, 3) := by decide +kernel
theorem dX0_turned_4 : decode cX0_turned 4 = .ok (.ifCond .eq 7, 3) := by decide +kernel
theorem dX0_turned_7 : decode cX0_turned 7 = .ok (.iload_n 1, 1) := by decide +kernel
theorem dX0_turned_8 : decode cX0_turned 8 = .ok (.iconst 1, 1) := by decide +kernel
theorem dX0_turned_9 : decode cX0_turned 9 = .ok (.iadd, 1) := by decide +kernel
theorem dX0_turned_10 : decode cX0_turned 10 = .ok (.ireturn, 1) := by decide +kernel
theorem dX0_turned_11 : decode cX0_turned 11 = .ok (.iload_n 1, 1) := by decide +kernel
theorem dX0_turned_12 : decode cX0_turned 12 = .ok (.bipush 20, 2) := by decide +kernel
theorem dX0_turned_14 : decode cX0_turned 14 = .ok (.if_icmp .ge 10, 3) := by decide +kernel
theorem dX0_turned_17 : decode cX0_turned 17 = .ok (.bipush 40, 2) := by decide +kernel
theorem dX0_turned_19 : decode cX0_turned 19 = .ok (.iload_n 1, 1) := by decide +kernel
theorem dX0_turned_20 : decode cX0_turned 20 = .ok (.iconst 1, 1) := by decide +kernel
theorem dX0_turned_21 : decode cX0_turned 21 = .ok (.iadd, 1) := by decide +kernel
theorem dX0_turned_22 : decode cX0_turned 22 = .ok (.isub, 1) := by decide +kernel
theorem dX0_turned_23 : decode cX0_turned 23 = .ok (.ireturn, 1) := by decide +kernel
theorem dX0_turned_24 : decode cX0_turned 24 = .ok (.bipush 40, 2) := by decide +kernel
theorem dX0_turned_26 : decode cX0_turned 26 = .ok (.iload_n 1, 1) := by decide +kernel
theorem dX0_turned_27 : decode cX0_turned 27 = .ok (.isub, 1) := by decide +kernel
theorem dX0_turned_28 : decode cX0_turned 28 = .ok (.iconst 1, 1) := by decide +kernel
theorem dX0_turned_29 : decode cX0_turned 29 = .ok (.iadd, 1) := by decide +kernel
theorem dX0_turned_30 : decode cX0_turned 30 = .ok (.ireturn, 1) := by decide +kernel
theorem dX1_init_0 : decode cX1_init 0 = .ok (.aload_n 0, 1) := by decide +kernel
theorem dX1_init_1 : decode cX1_init 1 = .ok (.invokespecial 3, 3) := by decide +kernel
theorem dX1_init_4 : decode cX1_init 4 = .ok (.aload_n 0, 1) := by decide +kernel
theorem dX1_init_5 : decode cX1_init 5 = .ok (.iconst 5, 1) := by decide +kernel
theorem dX1_init_6 : decode cX1_init 6 = .ok (.newarray .int, 2) := by decide +kernel
theorem dX1_init_8 : decode cX1_init 8 = .ok (.putfield 9, 3) := by decide +kernel
theorem dX1_init_11 : decode cX1_init 11 = .ok (.aload_n 0, 1) := by decide +kernel
theorem dX1_init_12 : decode cX1_init 12 = .ok (.sipush 160, 3) := by decide +kernel
theorem dX1_init_15 : decode cX1_init 15 = .ok (.newarray .int, 2) := by decide +kernel
theorem dX1_init_17 : decode cX1_init 17 = .ok (.putfield 15, 3) := by decide +kernel
theorem dX1_init_20 : decode cX1_init 20 = .ok (.aload_n 0, 1) := by decide +kernel
theorem dX1_init_21 : decode cX1_init 21 = .ok (.bipush 32, 2) := by decide +kernel
theorem dX1_init_23 : decode cX1_init 23 = .ok (.newarray .boolean, 2) := by decide +kernel
theorem dX1_init_25 : decode cX1_init 25 = .ok (.putfield 18, 3) := by decide +kernel
theorem dX1_init_28 : decode cX1_init 28 = .ok (.aload_n 0, 1) := by decide +kernel
theorem dX1_init_29 : decode cX1_init 29 = .ok (.bipush 32, 2) := by decide +kernel
theorem dX1_init_31 : decode cX1_init 31 = .ok (.newarray .int, 2) := by decide +kernel
theorem dX1_init_33 : decode cX1_init 33 = .ok (.putfield 22, 3) := by decide +kernel
theorem dX1_init_36 : decode cX1_init 36 = .ok (.aload_n 0, 1) := by decide +kernel
theorem dX1_init_37 : decode cX1_init 37 = .ok (.aload_n 1, 1) := by decide +kernel
theorem dX1_init_38 : decode cX1_init 38 = .ok (.putfield 25, 3) := by decide +kernel
theorem dX1_init_41 : decode cX1_init 41 = .ok (.return_, 1) := by decide +kernel
set_option maxRecDepth 20000 in
theorem ggX1_isOneDayEnough_X1_prepare : GoodIn wsX1_isOneDayEnough wsX1_prepare := goodIn_r _ [5, 6, 7, 8, 9, 10, 11, 12, 13, 14, 15, 16, 17, 18, 19, 20, 21, 22, 23, 24, 25, 26, 27, 28, 29, 4, 30, 31, 32, 33, 34, 35, 36, 37, 38, 39, 40, 41, 42, 43, 44, 45, 46, 47, 48, 49, 62, 63, 64, 65, 66, 67, 68, 69, 70, 71] (by decide +kernel) (by decide +kernel)
set_option maxRecDepth 20000 in
theorem gX1_isOneDayEnough_X1_prepare : GoodIn wsX1_isOneDayEnough (wsV RX1 29 RX1 yX1_prepare wsX1_prepare) := goodIn_app (goodIn_of _ (by decide +kernel)) ggX1_isOneDayEnough_X1_prepare
set_option maxRecDepth 20000 in
theorem ggX1_isOneDayEnough_X1_canSpeak : GoodIn wsX1_isOneDayEnough wsX1_canSpeak := goodIn_r _ [53, 34, 35, 36, 4, 37, 31, 17, 18, 19, 54, 55, 56, 57, 32, 33, 58, 59, 60, 61, 7, 6, 42, 9, 43, 44, 45, 62, 63, 64, 65, 66, 67, 68, 69, 70, 71] (by decide +kernel) (by decide +kernel)
set_option maxRecDepth 20000 in
theorem gX1_isOneDayEnough_X1_canSpeak : GoodIn wsX1_isOneDayEnough (wsV RX1 33 RX1 yX1_canSpeak wsX1_canSpeak) := goodIn_app (goodIn_of _ (by decide +kernel)) ggX1_isOneDayEnough_X1_canSpeak
theorem dX1_isOneDayEnough_0 : decode cX1_isOneDayEnough 0 = .ok (.aload_n 0, 1) := by decide +kernel
theorem dX1_isOneDayEnough_1 : decode cX1_isOneDayEnough 1 = .ok (.iload_n 1, 1) := by decide +kernel
theorem dX1_isOneDayEnough_2 : decode cX1_isOneDayEnough 2 = .ok (.invokevirtual 29, 3) := by decide +kernel
theorem dX1_isOneDayEnough_5 : decode cX1_isOneDayEnough 5 = .ok (.aload_n 0, 1) := by decide +kernel
theorem dX1_isOneDayEnough_6 : decode cX1_isOneDayEnough 6 = .ok (.iload_n 1, 1) := by decide +kernel
theorem dX1_isOneDayEnough_7 : decode cX1_isOneDayEnough 7 = .ok (.invokevirtual 33, 3) := by decide +kernel
theorem dX1_isOneDayEnough_10 : decode cX1_isOneDayEnough 10 = .ok (.ireturn, 1) := by decide +kernel
set_option maxRecDepth 20000 in
theorem ggX1_fewestDays_X1_prepare : GoodIn wsX1_fewestDays wsX1_prepare := goodIn_r _ [7, 8, 9, 10, 11, 12, 13, 14, 15, 16, 17, 18, 19, 20, 21, 22, 23, 24, 25, 26, 27, 28, 29, 30, 31, 6, 32, 33, 34, 35, 36, 37, 38, 39, 40, 41, 42, 43, 44, 45, 46, 47, 48, 49, 50, 51, 68, 69, 70, 71, 72, 73, 74, 75, 76, 77] (by decide +kernel) (by decide +kernel)
set_option maxRecDepth 20000 in
theorem gX1_fewestDays_X1_prepare : GoodIn wsX1_fewestDays (wsV RX1 29 RX1 yX1_prepare wsX1_prepare) := goodIn_app (goodIn_of _ (by decide +kernel)) ggX1_fewestDays_X1_prepare
set_option maxRecDepth 20000 in
theorem ggX1_fewestDays_X1_canSpeak : GoodIn wsX1_fewestDays wsX1_canSpeak := goodIn_r _ [55, 36, 37, 38, 6, 39, 33, 19, 20, 21, 56, 57, 58, 59, 34, 35, 60, 61, 62, 63, 9, 8, 44, 11, 45, 46, 47, 68, 69, 70, 71, 72, 73, 74, 75, 76, 77] (by decide +kernel) (by decide +kernel)
set_option maxRecDepth 20000 in
theorem gX1_fewestDays_X1_canSpeak : GoodIn wsX1_fewestDays (wsV RX1 33 RX1 yX1_canSpeak wsX1_canSpeak) := goodIn_app (goodIn_of _ (by decide +kernel)) ggX1_fewestDays_X1_canSpeak
set_option maxRecDepth 20000 in
theorem ggX1_fewestDays_X1_fewestBySets : GoodIn wsX1_fewestDays wsX1_fewestBySets := goodIn_r _ [67, 1, 2, 19, 20, 21, 68, 69, 70, 71, 72] (by decide +kernel) (by decide +kernel)
set_option maxRecDepth 20000 in
theorem gX1_fewestDays_X1_fewestBySets : GoodIn wsX1_fewestDays (wsV RX1 37 RX1 yX1_fewestBySets wsX1_fewestBySets) := goodIn_app (goodIn_of _ (by decide +kernel)) ggX1_fewestDays_X1_fewestBySets
set_option maxRecDepth 20000 in
theorem ggX1_fewestDays_X6_store : GoodIn wsX1_fewestDays wsX6_store := goodIn_r _ [28] (by decide +kernel) (by decide +kernel)
set_option maxRecDepth 20000 in
theorem gX1_fewestDays_X6_store_n41 : GoodIn wsX1_fewestDays (wsX6_store) := ggX1_fewestDays_X6_store
set_option maxRecDepth 20000 in
theorem ggX1_fewestDays_X6_at : GoodIn wsX1_fewestDays wsX6_at := goodIn_r _ [21] (by decide +kernel) (by decide +kernel)
set_option maxRecDepth 20000 in
theorem gX1_fewestDays_X6_at_n45 : GoodIn wsX1_fewestDays (wsX6_at) := ggX1_fewestDays_X6_at
theorem dX1_fewestDays_0 : decode cX1_fewestDays 0 = .ok (.aload_n 0, 1) := by decide +kernel
theorem dX1_fewestDays_1 : decode cX1_fewestDays 1 = .ok (.iload_n 1, 1) := by decide +kernel
theorem dX1_fewestDays_2 : decode cX1_fewestDays 2 = .ok (.invokevirtual 29, 3) := by decide +kernel
theorem dX1_fewestDays_5 : decode cX1_fewestDays 5 = .ok (.iconst 0, 1) := by decide +kernel
theorem dX1_fewestDays_6 : decode cX1_fewestDays 6 = .ok (.istore_n 2, 1) := by decide +kernel
theorem dX1_fewestDays_7 : decode cX1_fewestDays 7 = .ok (.iload_n 2, 1) := by decide +kernel
theorem dX1_fewestDays_8 : decode cX1_fewestDays 8 = .ok (.bipush 31, 2) := by decide +kernel
theorem dX1_fewestDays_10 : decode cX1_fewestDays 10 = .ok (.if_icmp .gt 52, 3) := by decide +kernel
theorem dX1_fewestDays_13 : decode cX1_fewestDays 13 = .ok (.iload_n 2, 1) := by decide +kernel
theorem dX1_fewestDays_14 : decode cX1_fewestDays 14 = .ok (.iload_n 1, 1) := by decide +kernel
theorem dX1_fewestDays_15 : decode cX1_fewestDays 15 = .ok (.iconst (-1), 1) := by decide +kernel
theorem dX1_fewestDays_16 : decode cX1_fewestDays 16 = .ok (.ixor, 1) := by decide +kernel
theorem dX1_fewestDays_17 : decode cX1_fewestDays 17 = .ok (.iand, 1) := by decide +kernel
theorem dX1_fewestDays_18 : decode cX1_fewestDays 18 = .ok (.ifCond .eq 6, 3) := by decide +kernel
theorem dX1_fewestDays_21 : decode cX1_fewestDays 21 = .ok (.goto 35, 3) := by decide +kernel
theorem dX1_fewestDays_24 : decode cX1_fewestDays 24 = .ok (.aload_n 0, 1) := by decide +kernel
theorem dX1_fewestDays_25 : decode cX1_fewestDays 25 = .ok (.getfield 18, 3) := by decide +kernel
theorem dX1_fewestDays_28 : decode cX1_fewestDays 28 = .ok (.iload_n 2, 1) := by decide +kernel
theorem dX1_fewestDays_29 : decode cX1_fewestDays 29 = .ok (.aload_n 0, 1) := by decide +kernel
theorem dX1_fewestDays_30 : decode cX1_fewestDays 30 = .ok (.iload_n 2, 1) := by decide +kernel
theorem dX1_fewestDays_31 : decode cX1_fewestDays 31 = .ok (.invokevirtual 33, 3) := by decide +kernel
theorem dX1_fewestDays_34 : decode cX1_fewestDays 34 = .ok (.bastore, 1) := by decide +kernel
theorem dX1_fewestDays_35 : decode cX1_fewestDays 35 = .ok (.aload_n 0, 1) := by decide +kernel
theorem dX1_fewestDays_36 : decode cX1_fewestDays 36 = .ok (.getfield 22, 3) := by decide +kernel
theorem dX1_fewestDays_39 : decode cX1_fewestDays 39 = .ok (.iload_n 2, 1) := by decide +kernel
theorem dX1_fewestDays_40 : decode cX1_fewestDays 40 = .ok (.iload_n 2, 1) := by decide +kernel
theorem dX1_fewestDays_41 : decode cX1_fewestDays 41 = .ok (.ifCond .ne 7, 3) := by decide +kernel
theorem dX1_fewestDays_44 : decode cX1_fewestDays 44 = .ok (.iconst 0, 1) := by decide +kernel
theorem dX1_fewestDays_45 : decode cX1_fewestDays 45 = .ok (.goto 8, 3) := by decide +kernel
theorem dX1_fewestDays_48 : decode cX1_fewestDays 48 = .ok (.aload_n 0, 1) := by decide +kernel
theorem dX1_fewestDays_49 : decode cX1_fewestDays 49 = .ok (.iload_n 2, 1) := by decide +kernel
theorem dX1_fewestDays_50 : decode cX1_fewestDays 50 = .ok (.invokevirtual 37, 3) := by decide +kernel
theorem dX1_fewestDays_53 : decode cX1_fewestDays 53 = .ok (.invokestatic 41, 3) := by decide +kernel
theorem dX1_fewestDays_56 : decode cX1_fewestDays 56 = .ok (.iinc 2 1, 3) := by decide +kernel
theorem dX1_fewestDays_59 : decode cX1_fewestDays 59 = .ok (.goto (-52), 3) := by decide +kernel
theorem dX1_fewestDays_62 : decode cX1_fewestDays 62 = .ok (.aload_n 0, 1) := by decide +kernel
theorem dX1_fewestDays_63 : decode cX1_fewestDays 63 = .ok (.getfield 22, 3) := by decide +kernel
theorem dX1_fewestDays_66 : decode cX1_fewestDays 66 = .ok (.iload_n 1, 1) := by decide +kernel
theorem dX1_fewestDays_67 : decode cX1_fewestDays 67 = .ok (.invokestatic 45, 3) := by decide +kernel
theorem dX1_fewestDays_70 : decode cX1_fewestDays 70 = .ok (.ireturn, 1) := by decide +kernel
set_option maxRecDepth 20000 in
theorem ggX1_fewestBySets_X6_at : GoodIn wsX1_fewestBySets wsX6_at := goodIn_r _ [5] (by decide +kernel) (by decide +kernel)
set_option maxRecDepth 20000 in
theorem gX1_fewestBySets_X6_at_n45 : GoodIn wsX1_fewestBySets (wsX6_at) := ggX1_fewestBySets_X6_at
theorem dX1_fewestBySets_0 : decode cX1_fewestBySets 0 = .ok (.bipush (-6), 2) := by decide +kernel
theorem dX1_fewestBySets_2 : decode cX1_fewestBySets 2 = .ok (.istore_n 2, 1) := by decide +kernel
theorem dX1_fewestBySets_3 : decode cX1_fewestBySets 3 = .ok (.iconst 1, 1) := by decide +kernel
theorem dX1_fewestBySets_4 : decode cX1_fewestBySets 4 = .ok (.istore_n 3, 1) := by decide +kernel
theorem dX1_fewestBySets_5 : decode cX1_fewestBySets 5 = .ok (.iload_n 3, 1) := by decide +kernel
theorem dX1_fewestBySets_6 : decode cX1_fewestBySets 6 = .ok (.iload_n 1, 1) := by decide +kernel
theorem dX1_fewestBySets_7 : decode cX1_fewestBySets 7 = .ok (.if_icmp .gt 78, 3) := by decide +kernel
theorem dX1_fewestBySets_10 : decode cX1_fewestBySets 10 = .ok (.iload_n 3, 1) := by decide +kernel
theorem dX1_fewestBySets_11 : decode cX1_fewestBySets 11 = .ok (.aload_n 0, 1) := by decide +kernel
theorem dX1_fewestBySets_12 : decode cX1_fewestBySets 12 = .ok (.getfield 18, 3) := by decide +kernel
theorem dX1_fewestBySets_15 : decode cX1_fewestBySets 15 = .ok (.arraylength, 1) := by decide +kernel
theorem dX1_fewestBySets_16 : decode cX1_fewestBySets 16 = .ok (.if_icmp .ge 69, 3) := by decide +kernel
theorem dX1_fewestBySets_19 : decode cX1_fewestBySets 19 = .ok (.iload_n 3, 1) := by decide +kernel
theorem dX1_fewestBySets_20 : decode cX1_fewestBySets 20 = .ok (.iload_n 1, 1) := by decide +kernel
theorem dX1_fewestBySets_21 : decode cX1_fewestBySets 21 = .ok (.iconst (-1), 1) := by decide +kernel
theorem dX1_fewestBySets_22 : decode cX1_fewestBySets 22 = .ok (.ixor, 1) := by decide +kernel
theorem dX1_fewestBySets_23 : decode cX1_fewestBySets 23 = .ok (.iand, 1) := by decide +kernel
theorem dX1_fewestBySets_24 : decode cX1_fewestBySets 24 = .ok (.ifCond .ne 55, 3) := by decide +kernel
theorem dX1_fewestBySets_27 : decode cX1_fewestBySets 27 = .ok (.aload_n 0, 1) := by decide +kernel
theorem dX1_fewestBySets_28 : decode cX1_fewestBySets 28 = .ok (.getfield 18, 3) := by decide +kernel
theorem dX1_fewestBySets_31 : decode cX1_fewestBySets 31 = .ok (.iload_n 3, 1) := by decide +kernel
theorem dX1_fewestBySets_32 : decode cX1_fewestBySets 32 = .ok (.baload, 1) := by decide +kernel
theorem dX1_fewestBySets_33 : decode cX1_fewestBySets 33 = .ok (.ifCond .ne 6, 3) := by decide +kernel
theorem dX1_fewestBySets_36 : decode cX1_fewestBySets 36 = .ok (.goto 43, 3) := by decide +kernel
theorem dX1_fewestBySets_39 : decode cX1_fewestBySets 39 = .ok (.aload_n 0, 1) := by decide +kernel
theorem dX1_fewestBySets_40 : decode cX1_fewestBySets 40 = .ok (.getfield 22, 3) := by decide +kernel
theorem dX1_fewestBySets_43 : decode cX1_fewestBySets 43 = .ok (.iload_n 1, 1) := by decide +kernel
theorem dX1_fewestBySets_44 : decode cX1_fewestBySets 44 = .ok (.iload_n 3, 1) := by decide +kernel
theorem dX1_fewestBySets_45 : decode cX1_fewestBySets 45 = .ok (.iconst (-1), 1) := by decide +kernel
theorem dX1_fewestBySets_46 : decode cX1_fewestBySets 46 = .ok (.ixor, 1) := by decide +kernel
theorem dX1_fewestBySets_47 : decode cX1_fewestBySets 47 = .ok (.iand, 1) := by decide +kernel
theorem dX1_fewestBySets_48 : decode cX1_fewestBySets 48 = .ok (.invokestatic 45, 3) := by decide +kernel
theorem dX1_fewestBySets_51 : decode cX1_fewestBySets 51 = .ok (.istore 4, 2) := by decide +kernel
theorem dX1_fewestBySets_53 : decode cX1_fewestBySets 53 = .ok (.iload 4, 2) := by decide +kernel
theorem dX1_fewestBySets_55 : decode cX1_fewestBySets 55 = .ok (.bipush (-6), 2) := by decide +kernel
theorem dX1_fewestBySets_57 : decode cX1_fewestBySets 57 = .ok (.if_icmp .eq 22, 3) := by decide +kernel
theorem dX1_fewestBySets_60 : decode cX1_fewestBySets 60 = .ok (.iload_n 2, 1) := by decide +kernel
theorem dX1_fewestBySets_61 : decode cX1_fewestBySets 61 = .ok (.bipush (-6), 2) := by decide +kernel
theorem dX1_fewestBySets_63 : decode cX1_fewestBySets 63 = .ok (.if_icmp .eq 11, 3) := by decide +kernel
theorem dX1_fewestBySets_66 : decode cX1_fewestBySets 66 = .ok (.iload 4, 2) := by decide +kernel
theorem dX1_fewestBySets_68 : decode cX1_fewestBySets 68 = .ok (.iconst 1, 1) := by decide +kernel
theorem dX1_fewestBySets_69 : decode cX1_fewestBySets 69 = .ok (.iadd, 1) := by decide +kernel
theorem dX1_fewestBySets_70 : decode cX1_fewestBySets 70 = .ok (.iload_n 2, 1) := by decide +kernel
theorem dX1_fewestBySets_71 : decode cX1_fewestBySets 71 = .ok (.if_icmp .ge 8, 3) := by decide +kernel
theorem dX1_fewestBySets_74 : decode cX1_fewestBySets 74 = .ok (.iload 4, 2) := by decide +kernel
theorem dX1_fewestBySets_76 : decode cX1_fewestBySets 76 = .ok (.iconst 1, 1) := by decide +kernel
theorem dX1_fewestBySets_77 : decode cX1_fewestBySets 77 = .ok (.iadd, 1) := by decide +kernel
theorem dX1_fewestBySets_78 : decode cX1_fewestBySets 78 = .ok (.istore_n 2, 1) := by decide +kernel
theorem dX1_fewestBySets_79 : decode cX1_fewestBySets 79 = .ok (.iinc 3 1, 3) := by decide +kernel
theorem dX1_fewestBySets_82 : decode cX1_fewestBySets 82 = .ok (.goto (-77), 3) := by decide +kernel
theorem dX1_fewestBySets_85 : decode cX1_fewestBySets 85 = .ok (.iload_n 2, 1) := by decide +kernel
theorem dX1_fewestBySets_86 : decode cX1_fewestBySets 86 = .ok (.ireturn, 1) := by decide +kernel
set_option maxRecDepth 20000 in
theorem ggX1_prepare_X4_fitting : GoodIn wsX1_prepare wsX4_fitting := goodIn_r _ [6, 7, 8, 9, 4, 10, 11, 12, 13, 14, 15, 16, 17, 18, 19, 51, 52, 53, 54, 55] (by decide +kernel) (by decide +kernel)
set_option maxRecDepth 20000 in
theorem gX1_prepare_X4_fitting_n49 : GoodIn wsX1_prepare (wsX4_fitting) := ggX1_prepare_X4_fitting
set_option maxRecDepth 20000 in
theorem ggX1_prepare_X6_store : GoodIn wsX1_prepare wsX6_store := goodIn_r _ [21] (by decide +kernel) (by decide +kernel)
set_option maxRecDepth 20000 in
theorem gX1_prepare_X6_store_n41 : GoodIn wsX1_prepare (wsX6_store) := ggX1_prepare_X6_store
set_option maxRecDepth 20000 in
theorem ggX1_prepare_X1_hopeAheadOf : GoodIn wsX1_prepare wsX1_hopeAheadOf := goodIn_r _ [26, 1, 27, 2, 28, 13, 29, 30, 31, 32, 25, 33, 12, 14, 34, 35, 36, 37, 38, 4, 39, 40, 41, 42, 43, 44, 45, 20, 21, 46, 47, 48, 49, 50, 51, 52, 53, 54, 55] (by decide +kernel) (by decide +kernel)
set_option maxRecDepth 20000 in
theorem gX1_prepare_X1_hopeAheadOf : GoodIn wsX1_prepare (wsV RX1 53 RX1 yX1_hopeAheadOf wsX1_hopeAheadOf) := goodIn_app (goodIn_of _ (by decide +kernel)) ggX1_prepare_X1_hopeAheadOf
theorem dX1_prepare_0 : decode cX1_prepare 0 = .ok (.iconst 0, 1) := by decide +kernel
theorem dX1_prepare_1 : decode cX1_prepare 1 = .ok (.istore_n 2, 1) := by decide +kernel
theorem dX1_prepare_2 : decode cX1_prepare 2 = .ok (.iload_n 2, 1) := by decide +kernel
theorem dX1_prepare_3 : decode cX1_prepare 3 = .ok (.iconst 5, 1) := by decide +kernel
theorem dX1_prepare_4 : decode cX1_prepare 4 = .ok (.if_icmp .ge 25, 3) := by decide +kernel
theorem dX1_prepare_7 : decode cX1_prepare 7 = .ok (.aload_n 0, 1) := by decide +kernel
theorem dX1_prepare_8 : decode cX1_prepare 8 = .ok (.getfield 9, 3) := by decide +kernel
theorem dX1_prepare_11 : decode cX1_prepare 11 = .ok (.iload_n 2, 1) := by decide +kernel
theorem dX1_prepare_12 : decode cX1_prepare 12 = .ok (.aload_n 0, 1) := by decide +kernel
theorem dX1_prepare_13 : decode cX1_prepare 13 = .ok (.getfield 25, 3) := by decide +kernel
theorem dX1_prepare_16 : decode cX1_prepare 16 = .ok (.iload_n 2, 1) := by decide +kernel
theorem dX1_prepare_17 : decode cX1_prepare 17 = .ok (.invokevirtual 49, 3) := by decide +kernel
theorem dX1_prepare_20 : decode cX1_prepare 20 = .ok (.invokestatic 41, 3) := by decide +kernel
theorem dX1_prepare_23 : decode cX1_prepare 23 = .ok (.iinc 2 1, 3) := by decide +kernel
theorem dX1_prepare_26 : decode cX1_prepare 26 = .ok (.goto (-24), 3) := by decide +kernel
theorem dX1_prepare_29 : decode cX1_prepare 29 = .ok (.iconst 0, 1) := by decide +kernel
theorem dX1_prepare_30 : decode cX1_prepare 30 = .ok (.istore_n 2, 1) := by decide +kernel
theorem dX1_prepare_31 : decode cX1_prepare 31 = .ok (.iload_n 2, 1) := by decide +kernel
theorem dX1_prepare_32 : decode cX1_prepare 32 = .ok (.bipush 31, 2) := by decide +kernel
theorem dX1_prepare_34 : decode cX1_prepare 34 = .ok (.if_icmp .gt 22, 3) := by decide +kernel
theorem dX1_prepare_37 : decode cX1_prepare 37 = .ok (.iload_n 2, 1) := by decide +kernel
theorem dX1_prepare_38 : decode cX1_prepare 38 = .ok (.iload_n 1, 1) := by decide +kernel
theorem dX1_prepare_39 : decode cX1_prepare 39 = .ok (.iconst (-1), 1) := by decide +kernel
theorem dX1_prepare_40 : decode cX1_prepare 40 = .ok (.ixor, 1) := by decide +kernel
theorem dX1_prepare_41 : decode cX1_prepare 41 = .ok (.iand, 1) := by decide +kernel
theorem dX1_prepare_42 : decode cX1_prepare 42 = .ok (.ifCond .ne 8, 3) := by decide +kernel
theorem dX1_prepare_45 : decode cX1_prepare 45 = .ok (.aload_n 0, 1) := by decide +kernel
theorem dX1_prepare_46 : decode cX1_prepare 46 = .ok (.iload_n 2, 1) := by decide +kernel
theorem dX1_prepare_47 : decode cX1_prepare 47 = .ok (.invokevirtual 53, 3) := by decide +kernel
theorem dX1_prepare_50 : decode cX1_prepare 50 = .ok (.iinc 2 1, 3) := by decide +kernel
theorem dX1_prepare_53 : decode cX1_prepare 53 = .ok (.goto (-22), 3) := by decide +kernel
theorem dX1_prepare_56 : decode cX1_prepare 56 = .ok (.return_, 1) := by decide +kernel
set_option maxRecDepth 20000 in
theorem ggX1_hopeAheadOf_X6_has : GoodIn wsX1_hopeAheadOf wsX6_has := goodIn_r _ [6] (by decide +kernel) (by decide +kernel)
set_option maxRecDepth 20000 in
theorem gX1_hopeAheadOf_X6_has_n56 : GoodIn wsX1_hopeAheadOf (wsX6_has) := ggX1_hopeAheadOf_X6_has
set_option maxRecDepth 20000 in
theorem ggX1_hopeAheadOf_X1_hopeful : GoodIn wsX1_hopeAheadOf wsX1_hopeful := goodIn_r _ [11, 2, 12, 5, 13, 29, 30, 31, 32, 33] (by decide +kernel) (by decide +kernel)
set_option maxRecDepth 20000 in
theorem gX1_hopeAheadOf_X1_hopeful : GoodIn wsX1_hopeAheadOf (wsV RX1 60 RX1 yX1_hopeful wsX1_hopeful) := goodIn_app (goodIn_of _ (by decide +kernel)) ggX1_hopeAheadOf_X1_hopeful
set_option maxRecDepth 20000 in
theorem ggX1_hopeAheadOf_X6_at : GoodIn wsX1_hopeAheadOf wsX6_at := goodIn_r _ [13] (by decide +kernel) (by decide +kernel)
set_option maxRecDepth 20000 in
theorem gX1_hopeAheadOf_X6_at_n45 : GoodIn wsX1_hopeAheadOf (wsX6_at) := ggX1_hopeAheadOf_X6_at
set_option maxRecDepth 20000 in
theorem ggX1_hopeAheadOf_X1_leadingTo : GoodIn wsX1_hopeAheadOf wsX1_leadingTo := goodIn_r _ [17, 3, 18, 19, 20, 21, 22, 12, 5, 13, 29, 30, 31, 32, 33, 34, 35, 36, 37, 38] (by decide +kernel) (by decide +kernel)
set_option maxRecDepth 20000 in
theorem gX1_hopeAheadOf_X1_leadingTo : GoodIn wsX1_hopeAheadOf (wsV RX1 64 RX1 yX1_leadingTo wsX1_leadingTo) := goodIn_app (goodIn_of _ (by decide +kernel)) ggX1_hopeAheadOf_X1_leadingTo
set_option maxRecDepth 20000 in
theorem ggX1_hopeAheadOf_X4_knownTo : GoodIn wsX1_hopeAheadOf wsX4_knownTo := goodIn_r _ [25, 26, 12, 5, 13, 34, 35, 36, 37, 38] (by decide +kernel) (by decide +kernel)
set_option maxRecDepth 20000 in
theorem gX1_hopeAheadOf_X4_knownTo_n67 : GoodIn wsX1_hopeAheadOf (wsX4_knownTo) := ggX1_hopeAheadOf_X4_knownTo
set_option maxRecDepth 20000 in
theorem ggX1_hopeAheadOf_X6_store : GoodIn wsX1_hopeAheadOf wsX6_store := goodIn_r _ [28] (by decide +kernel) (by decide +kernel)
set_option maxRecDepth 20000 in
theorem gX1_hopeAheadOf_X6_store_n41 : GoodIn wsX1_hopeAheadOf (wsX6_store) := ggX1_hopeAheadOf_X6_store
theorem dX1_hopeAheadOf_0 : decode cX1_hopeAheadOf 0 = .ok (.iconst 0, 1) := by decide +kernel
theorem dX1_hopeAheadOf_1 : decode cX1_hopeAheadOf 1 = .ok (.istore_n 2, 1) := by decide +kernel
theorem dX1_hopeAheadOf_2 : decode cX1_hopeAheadOf 2 = .ok (.iconst 0, 1) := by decide +kernel
theorem dX1_hopeAheadOf_3 : decode cX1_hopeAheadOf 3 = .ok (.istore_n 3, 1) := by decide +kernel
theorem dX1_hopeAheadOf_4 : decode cX1_hopeAheadOf 4 = .ok (.iload_n 3, 1) := by decide +kernel
theorem dX1_hopeAheadOf_5 : decode cX1_hopeAheadOf 5 = .ok (.iconst 5, 1) := by decide +kernel
theorem dX1_hopeAheadOf_6 : decode cX1_hopeAheadOf 6 = .ok (.if_icmp .ge 32, 3) := by decide +kernel
theorem dX1_hopeAheadOf_9 : decode cX1_hopeAheadOf 9 = .ok (.iload_n 1, 1) := by decide +kernel
theorem dX1_hopeAheadOf_10 : decode cX1_hopeAheadOf 10 = .ok (.iload_n 3, 1) := by decide +kernel
theorem dX1_hopeAheadOf_11 : decode cX1_hopeAheadOf 11 = .ok (.invokestatic 56, 3) := by decide +kernel
theorem dX1_hopeAheadOf_14 : decode cX1_hopeAheadOf 14 = .ok (.ifCond .eq 18, 3) := by decide +kernel
theorem dX1_hopeAheadOf_17 : decode cX1_hopeAheadOf 17 = .ok (.iload_n 2, 1) := by decide +kernel
theorem dX1_hopeAheadOf_18 : decode cX1_hopeAheadOf 18 = .ok (.aload_n 0, 1) := by decide +kernel
theorem dX1_hopeAheadOf_19 : decode cX1_hopeAheadOf 19 = .ok (.iload_n 1, 1) := by decide +kernel
theorem dX1_hopeAheadOf_20 : decode cX1_hopeAheadOf 20 = .ok (.iconst 1, 1) := by decide +kernel
theorem dX1_hopeAheadOf_21 : decode cX1_hopeAheadOf 21 = .ok (.iload_n 3, 1) := by decide +kernel
theorem dX1_hopeAheadOf_22 : decode cX1_hopeAheadOf 22 = .ok (.ishl, 1) := by decide +kernel
theorem dX1_hopeAheadOf_23 : decode cX1_hopeAheadOf 23 = .ok (.iconst (-1), 1) := by decide +kernel
theorem dX1_hopeAheadOf_24 : decode cX1_hopeAheadOf 24 = .ok (.ixor, 1) := by decide +kernel
theorem dX1_hopeAheadOf_25 : decode cX1_hopeAheadOf 25 = .ok (.iand, 1) := by decide +kernel
theorem dX1_hopeAheadOf_26 : decode cX1_hopeAheadOf 26 = .ok (.iload_n 3, 1) := by decide +kernel
theorem dX1_hopeAheadOf_27 : decode cX1_hopeAheadOf 27 = .ok (.invokevirtual 60, 3) := by decide +kernel
theorem dX1_hopeAheadOf_30 : decode cX1_hopeAheadOf 30 = .ok (.ior, 1) := by decide +kernel
theorem dX1_hopeAheadOf_31 : decode cX1_hopeAheadOf 31 = .ok (.istore_n 2, 1) := by decide +kernel
theorem dX1_hopeAheadOf_32 : decode cX1_hopeAheadOf 32 = .ok (.iinc 3 1, 3) := by decide +kernel
theorem dX1_hopeAheadOf_35 : decode cX1_hopeAheadOf 35 = .ok (.goto (-31), 3) := by decide +kernel
theorem dX1_hopeAheadOf_38 : decode cX1_hopeAheadOf 38 = .ok (.iconst 0, 1) := by decide +kernel
theorem dX1_hopeAheadOf_39 : decode cX1_hopeAheadOf 39 = .ok (.istore_n 3, 1) := by decide +kernel
theorem dX1_hopeAheadOf_40 : decode cX1_hopeAheadOf 40 = .ok (.iload_n 3, 1) := by decide +kernel
theorem dX1_hopeAheadOf_41 : decode cX1_hopeAheadOf 41 = .ok (.iconst 5, 1) := by decide +kernel
theorem dX1_hopeAheadOf_42 : decode cX1_hopeAheadOf 42 = .ok (.if_icmp .ge 69, 3) := by decide +kernel
theorem dX1_hopeAheadOf_45 : decode cX1_hopeAheadOf 45 = .ok (.iload_n 1, 1) := by decide +kernel
theorem dX1_hopeAheadOf_46 : decode cX1_hopeAheadOf 46 = .ok (.iload_n 3, 1) := by decide +kernel
theorem dX1_hopeAheadOf_47 : decode cX1_hopeAheadOf 47 = .ok (.invokestatic 56, 3) := by decide +kernel
theorem dX1_hopeAheadOf_50 : decode cX1_hopeAheadOf 50 = .ok (.ifCond .eq 6, 3) := by decide +kernel
theorem dX1_hopeAheadOf_53 : decode cX1_hopeAheadOf 53 = .ok (.goto 52, 3) := by decide +kernel
theorem dX1_hopeAheadOf_56 : decode cX1_hopeAheadOf 56 = .ok (.iload_n 1, 1) := by decide +kernel
theorem dX1_hopeAheadOf_57 : decode cX1_hopeAheadOf 57 = .ok (.ifCond .ne 9, 3) := by decide +kernel
theorem dX1_hopeAheadOf_60 : decode cX1_hopeAheadOf 60 = .ok (.sipush 1023, 3) := by decide +kernel
theorem dX1_hopeAheadOf_63 : decode cX1_hopeAheadOf 63 = .ok (.goto 17, 3) := by decide +kernel
theorem dX1_hopeAheadOf_66 : decode cX1_hopeAheadOf 66 = .ok (.aload_n 0, 1) := by decide +kernel
theorem dX1_hopeAheadOf_67 : decode cX1_hopeAheadOf 67 = .ok (.iload_n 2, 1) := by decide +kernel
theorem dX1_hopeAheadOf_68 : decode cX1_hopeAheadOf 68 = .ok (.aload_n 0, 1) := by decide +kernel
theorem dX1_hopeAheadOf_69 : decode cX1_hopeAheadOf 69 = .ok (.getfield 9, 3) := by decide +kernel
theorem dX1_hopeAheadOf_72 : decode cX1_hopeAheadOf 72 = .ok (.iload_n 3, 1) := by decide +kernel
theorem dX1_hopeAheadOf_73 : decode cX1_hopeAheadOf 73 = .ok (.invokestatic 45, 3) := by decide +kernel
theorem dX1_hopeAheadOf_76 : decode cX1_hopeAheadOf 76 = .ok (.iand, 1) := by decide +kernel
theorem dX1_hopeAheadOf_77 : decode cX1_hopeAheadOf 77 = .ok (.invokevirtual 64, 3) := by decide +kernel
theorem dX1_hopeAheadOf_80 : decode cX1_hopeAheadOf 80 = .ok (.istore 4, 2) := by decide +kernel
theorem dX1_hopeAheadOf_82 : decode cX1_hopeAheadOf 82 = .ok (.aload_n 0, 1) := by decide +kernel
theorem dX1_hopeAheadOf_83 : decode cX1_hopeAheadOf 83 = .ok (.getfield 15, 3) := by decide +kernel
theorem dX1_hopeAheadOf_86 : decode cX1_hopeAheadOf 86 = .ok (.iload_n 1, 1) := by decide +kernel
theorem dX1_hopeAheadOf_87 : decode cX1_hopeAheadOf 87 = .ok (.iconst 5, 1) := by decide +kernel
theorem dX1_hopeAheadOf_88 : decode cX1_hopeAheadOf 88 = .ok (.imul, 1) := by decide +kernel
theorem dX1_hopeAheadOf_89 : decode cX1_hopeAheadOf 89 = .ok (.iload_n 3, 1) := by decide +kernel
theorem dX1_hopeAheadOf_90 : decode cX1_hopeAheadOf 90 = .ok (.iadd, 1) := by decide +kernel
theorem dX1_hopeAheadOf_91 : decode cX1_hopeAheadOf 91 = .ok (.iload 4, 2) := by decide +kernel
theorem dX1_hopeAheadOf_93 : decode cX1_hopeAheadOf 93 = .ok (.aload_n 0, 1) := by decide +kernel
theorem dX1_hopeAheadOf_94 : decode cX1_hopeAheadOf 94 = .ok (.getfield 25, 3) := by decide +kernel
theorem dX1_hopeAheadOf_97 : decode cX1_hopeAheadOf 97 = .ok (.iload_n 3, 1) := by decide +kernel
theorem dX1_hopeAheadOf_98 : decode cX1_hopeAheadOf 98 = .ok (.invokevirtual 67, 3) := by decide +kernel
theorem dX1_hopeAheadOf_101 : decode cX1_hopeAheadOf 101 = .ok (.iand, 1) := by decide +kernel
theorem dX1_hopeAheadOf_102 : decode cX1_hopeAheadOf 102 = .ok (.invokestatic 41, 3) := by decide +kernel
theorem dX1_hopeAheadOf_105 : decode cX1_hopeAheadOf 105 = .ok (.iinc 3 1, 3) := by decide +kernel
theorem dX1_hopeAheadOf_108 : decode cX1_hopeAheadOf 108 = .ok (.goto (-68), 3) := by decide +kernel
theorem dX1_hopeAheadOf_111 : decode cX1_hopeAheadOf 111 = .ok (.return_, 1) := by decide +kernel
set_option maxRecDepth 20000 in
theorem ggX1_leadingTo_X4_worseThan : GoodIn wsX1_leadingTo wsX4_worseThan := goodIn_r _ [5, 6, 7, 8, 9, 15, 16, 17, 18, 19] (by decide +kernel) (by decide +kernel)
set_option maxRecDepth 20000 in
theorem gX1_leadingTo_X4_worseThan_n70 : GoodIn wsX1_leadingTo (wsX4_worseThan) := ggX1_leadingTo_X4_worseThan
theorem dX1_leadingTo_0 : decode cX1_leadingTo 0 = .ok (.iconst 0, 1) := by decide +kernel
theorem dX1_leadingTo_1 : decode cX1_leadingTo 1 = .ok (.istore_n 2, 1) := by decide +kernel
theorem dX1_leadingTo_2 : decode cX1_leadingTo 2 = .ok (.iconst 0, 1) := by decide +kernel
theorem dX1_leadingTo_3 : decode cX1_leadingTo 3 = .ok (.istore_n 3, 1) := by decide +kernel
theorem dX1_leadingTo_4 : decode cX1_leadingTo 4 = .ok (.iload_n 3, 1) := by decide +kernel
theorem dX1_leadingTo_5 : decode cX1_leadingTo 5 = .ok (.bipush 10, 2) := by decide +kernel
theorem dX1_leadingTo_7 : decode cX1_leadingTo 7 = .ok (.if_icmp .ge 28, 3) := by decide +kernel
theorem dX1_leadingTo_10 : decode cX1_leadingTo 10 = .ok (.aload_n 0, 1) := by decide +kernel
theorem dX1_leadingTo_11 : decode cX1_leadingTo 11 = .ok (.getfield 25, 3) := by decide +kernel
theorem dX1_leadingTo_14 : decode cX1_leadingTo 14 = .ok (.iload_n 3, 1) := by decide +kernel
theorem dX1_leadingTo_15 : decode cX1_leadingTo 15 = .ok (.invokevirtual 70, 3) := by decide +kernel
theorem dX1_leadingTo_18 : decode cX1_leadingTo 18 = .ok (.iload_n 1, 1) := by decide +kernel
theorem dX1_leadingTo_19 : decode cX1_leadingTo 19 = .ok (.iand, 1) := by decide +kernel
theorem dX1_leadingTo_20 : decode cX1_leadingTo 20 = .ok (.ifCond .eq 9, 3) := by decide +kernel
theorem dX1_leadingTo_23 : decode cX1_leadingTo 23 = .ok (.iload_n 2, 1) := by decide +kernel
theorem dX1_leadingTo_24 : decode cX1_leadingTo 24 = .ok (.iconst 1, 1) := by decide +kernel
theorem dX1_leadingTo_25 : decode cX1_leadingTo 25 = .ok (.iload_n 3, 1) := by decide +kernel
theorem dX1_leadingTo_26 : decode cX1_leadingTo 26 = .ok (.ishl, 1) := by decide +kernel
theorem dX1_leadingTo_27 : decode cX1_leadingTo 27 = .ok (.ior, 1) := by decide +kernel
theorem dX1_leadingTo_28 : decode cX1_leadingTo 28 = .ok (.istore_n 2, 1) := by decide +kernel
theorem dX1_leadingTo_29 : decode cX1_leadingTo 29 = .ok (.iinc 3 1, 3) := by decide +kernel
theorem dX1_leadingTo_32 : decode cX1_leadingTo 32 = .ok (.goto (-28), 3) := by decide +kernel
theorem dX1_leadingTo_35 : decode cX1_leadingTo 35 = .ok (.iload_n 2, 1) := by decide +kernel
theorem dX1_leadingTo_36 : decode cX1_leadingTo 36 = .ok (.ireturn, 1) := by decide +kernel
set_option maxRecDepth 20000 in
theorem ggX1_hopeful_X6_at : GoodIn wsX1_hopeful wsX6_at := goodIn_r _ [4] (by decide +kernel) (by decide +kernel)
set_option maxRecDepth 20000 in
theorem gX1_hopeful_X6_at_n45 : GoodIn wsX1_hopeful (wsX6_at) := ggX1_hopeful_X6_at
theorem dX1_hopeful_0 : decode cX1_hopeful 0 = .ok (.aload_n 0, 1) := by decide +kernel
theorem dX1_hopeful_1 : decode cX1_hopeful 1 = .ok (.getfield 15, 3) := by decide +kernel
theorem dX1_hopeful_4 : decode cX1_hopeful 4 = .ok (.iload_n 1, 1) := by decide +kernel
theorem dX1_hopeful_5 : decode cX1_hopeful 5 = .ok (.iconst 5, 1) := by decide +kernel
theorem dX1_hopeful_6 : decode cX1_hopeful 6 = .ok (.imul, 1) := by decide +kernel
theorem dX1_hopeful_7 : decode cX1_hopeful 7 = .ok (.iload_n 2, 1) := by decide +kernel
theorem dX1_hopeful_8 : decode cX1_hopeful 8 = .ok (.iadd, 1) := by decide +kernel
theorem dX1_hopeful_9 : decode cX1_hopeful 9 = .ok (.invokestatic 45, 3) := by decide +kernel
theorem dX1_hopeful_12 : decode cX1_hopeful 12 = .ok (.ireturn, 1) := by decide +kernel
set_option maxRecDepth 20000 in
theorem ggX1_canSpeak_X1_hopeful : GoodIn wsX1_canSpeak wsX1_hopeful := goodIn_r _ [5, 6, 7, 8, 9, 27, 28, 29, 30, 31] (by decide +kernel) (by decide +kernel)
set_option maxRecDepth 20000 in
theorem gX1_canSpeak_X1_hopeful : GoodIn wsX1_canSpeak (wsV RX1 60 RX1 yX1_hopeful wsX1_hopeful) := goodIn_app (goodIn_of _ (by decide +kernel)) ggX1_canSpeak_X1_hopeful
set_option maxRecDepth 20000 in
theorem ggX1_canSpeak_X1_canSayOne : GoodIn wsX1_canSpeak wsX1_canSayOne := goodIn_r _ [13, 14, 8, 15, 16, 17, 18, 4, 19, 20, 21, 22, 23, 24, 25, 26, 7, 9, 1, 2, 3, 5, 6, 10, 11, 12, 27, 28, 29, 30, 31, 32, 33, 34, 35, 36] (by decide +kernel) (by decide +kernel)
set_option maxRecDepth 20000 in
theorem gX1_canSpeak_X1_canSayOne : GoodIn wsX1_canSpeak (wsV RX1 73 RX1 yX1_canSayOne wsX1_canSayOne) := goodIn_app (goodIn_of _ (by decide +kernel)) ggX1_canSpeak_X1_canSayOne
theorem dX1_canSpeak_0 : decode cX1_canSpeak 0 = .ok (.iload_n 1, 1) := by decide +kernel
theorem dX1_canSpeak_1 : decode cX1_canSpeak 1 = .ok (.ifCond .ne 5, 3) := by decide +kernel
theorem dX1_canSpeak_4 : decode cX1_canSpeak 4 = .ok (.iconst 1, 1) := by decide +kernel
theorem dX1_canSpeak_5 : decode cX1_canSpeak 5 = .ok (.ireturn, 1) := by decide +kernel
theorem dX1_canSpeak_6 : decode cX1_canSpeak 6 = .ok (.iconst 0, 1) := by decide +kernel
theorem dX1_canSpeak_7 : decode cX1_canSpeak 7 = .ok (.istore_n 2, 1) := by decide +kernel
theorem dX1_canSpeak_8 : decode cX1_canSpeak 8 = .ok (.iload_n 2, 1) := by decide +kernel
theorem dX1_canSpeak_9 : decode cX1_canSpeak 9 = .ok (.iconst 5, 1) := by decide +kernel
theorem dX1_canSpeak_10 : decode cX1_canSpeak 10 = .ok (.if_icmp .ge 40, 3) := by decide +kernel
theorem dX1_canSpeak_13 : decode cX1_canSpeak 13 = .ok (.iload_n 1, 1) := by decide +kernel
theorem dX1_canSpeak_14 : decode cX1_canSpeak 14 = .ok (.iconst 1, 1) := by decide +kernel
theorem dX1_canSpeak_15 : decode cX1_canSpeak 15 = .ok (.iload_n 2, 1) := by decide +kernel
theorem dX1_canSpeak_16 : decode cX1_canSpeak 16 = .ok (.ishl, 1) := by decide +kernel
theorem dX1_canSpeak_17 : decode cX1_canSpeak 17 = .ok (.iconst (-1), 1) := by decide +kernel
theorem dX1_canSpeak_18 : decode cX1_canSpeak 18 = .ok (.ixor, 1) := by decide +kernel
theorem dX1_canSpeak_19 : decode cX1_canSpeak 19 = .ok (.iand, 1) := by decide +kernel
theorem dX1_canSpeak_20 : decode cX1_canSpeak 20 = .ok (.istore_n 3, 1) := by decide +kernel
theorem dX1_canSpeak_21 : decode cX1_canSpeak 21 = .ok (.iload_n 3, 1) := by decide +kernel
theorem dX1_canSpeak_22 : decode cX1_canSpeak 22 = .ok (.iload_n 1, 1) := by decide +kernel
theorem dX1_canSpeak_23 : decode cX1_canSpeak 23 = .ok (.if_icmp .eq 21, 3) := by decide +kernel
theorem dX1_canSpeak_26 : decode cX1_canSpeak 26 = .ok (.aload_n 0, 1) := by decide +kernel
theorem dX1_canSpeak_27 : decode cX1_canSpeak 27 = .ok (.iload_n 3, 1) := by decide +kernel
theorem dX1_canSpeak_28 : decode cX1_canSpeak 28 = .ok (.iload_n 2, 1) := by decide +kernel
theorem dX1_canSpeak_29 : decode cX1_canSpeak 29 = .ok (.iconst 0, 1) := by decide +kernel
theorem dX1_canSpeak_30 : decode cX1_canSpeak 30 = .ok (.aload_n 0, 1) := by decide +kernel
theorem dX1_canSpeak_31 : decode cX1_canSpeak 31 = .ok (.iload_n 3, 1) := by decide +kernel
theorem dX1_canSpeak_32 : decode cX1_canSpeak 32 = .ok (.iload_n 2, 1) := by decide +kernel
theorem dX1_canSpeak_33 : decode cX1_canSpeak 33 = .ok (.invokevirtual 60, 3) := by decide +kernel
theorem dX1_canSpeak_36 : decode cX1_canSpeak 36 = .ok (.invokevirtual 73, 3) := by decide +kernel
theorem dX1_canSpeak_39 : decode cX1_canSpeak 39 = .ok (.ifCond .eq 5, 3) := by decide +kernel
theorem dX1_canSpeak_42 : decode cX1_canSpeak 42 = .ok (.iconst 1, 1) := by decide +kernel
theorem dX1_canSpeak_43 : decode cX1_canSpeak 43 = .ok (.ireturn, 1) := by decide +kernel
theorem dX1_canSpeak_44 : decode cX1_canSpeak 44 = .ok (.iinc 2 1, 3) := by decide +kernel
theorem dX1_canSpeak_47 : decode cX1_canSpeak 47 = .ok (.goto (-39), 3) := by decide +kernel
theorem dX1_canSpeak_50 : decode cX1_canSpeak 50 = .ok (.iconst 0, 1) := by decide +kernel
theorem dX1_canSpeak_51 : decode cX1_canSpeak 51 = .ok (.ireturn, 1) := by decide +kernel
set_option maxRecDepth 20000 in
theorem ggX1_canSayOne_X6_has : GoodIn wsX1_canSayOne wsX6_has := goodIn_r _ [3] (by decide +kernel) (by decide +kernel)
set_option maxRecDepth 20000 in
theorem gX1_canSayOne_X6_has_n56 : GoodIn wsX1_canSayOne (wsX6_has) := ggX1_canSayOne_X6_has
set_option maxRecDepth 20000 in
theorem ggX1_canSayOne_X1_canGoOn : GoodIn wsX1_canSayOne wsX1_canGoOn := goodIn_r _ [8, 9, 10, 11, 12, 13, 14, 15, 16, 2, 17, 1, 3, 18, 19, 20, 7, 21, 22, 23, 24, 25, 0, 4, 5, 6, 26, 27, 28, 29, 30, 31, 32, 33, 34, 35] (by decide +kernel) (by decide +kernel)
set_option maxRecDepth 20000 in
theorem gX1_canSayOne_X1_canGoOn : GoodIn wsX1_canSayOne (wsV RX1 77 RX1 yX1_canGoOn wsX1_canGoOn) := goodIn_app (goodIn_of _ (by decide +kernel)) ggX1_canSayOne_X1_canGoOn
theorem dX1_canSayOne_0 : decode cX1_canSayOne 0 = .ok (.iconst 0, 1) := by decide +kernel
theorem dX1_canSayOne_1 : decode cX1_canSayOne 1 = .ok (.istore 5, 2) := by decide +kernel
theorem dX1_canSayOne_3 : decode cX1_canSayOne 3 = .ok (.iload 5, 2) := by decide +kernel
theorem dX1_canSayOne_5 : decode cX1_canSayOne 5 = .ok (.bipush 10, 2) := by decide +kernel
theorem dX1_canSayOne_7 : decode cX1_canSayOne 7 = .ok (.if_icmp .ge 38, 3) := by decide +kernel
theorem dX1_canSayOne_10 : decode cX1_canSayOne 10 = .ok (.iload 4, 2) := by decide +kernel
theorem dX1_canSayOne_12 : decode cX1_canSayOne 12 = .ok (.iload 5, 2) := by decide +kernel
theorem dX1_canSayOne_14 : decode cX1_canSayOne 14 = .ok (.invokestatic 56, 3) := by decide +kernel
theorem dX1_canSayOne_17 : decode cX1_canSayOne 17 = .ok (.ifCond .eq 22, 3) := by decide +kernel
theorem dX1_canSayOne_20 : decode cX1_canSayOne 20 = .ok (.aload_n 0, 1) := by decide +kernel
theorem dX1_canSayOne_21 : decode cX1_canSayOne 21 = .ok (.iload_n 1, 1) := by decide +kernel
theorem dX1_canSayOne_22 : decode cX1_canSayOne 22 = .ok (.iload_n 2, 1) := by decide +kernel
theorem dX1_canSayOne_23 : decode cX1_canSayOne 23 = .ok (.iload_n 3, 1) := by decide +kernel
theorem dX1_canSayOne_24 : decode cX1_canSayOne 24 = .ok (.iconst 1, 1) := by decide +kernel
theorem dX1_canSayOne_25 : decode cX1_canSayOne 25 = .ok (.iload 5, 2) := by decide +kernel
theorem dX1_canSayOne_27 : decode cX1_canSayOne 27 = .ok (.ishl, 1) := by decide +kernel
theorem dX1_canSayOne_28 : decode cX1_canSayOne 28 = .ok (.ior, 1) := by decide +kernel
theorem dX1_canSayOne_29 : decode cX1_canSayOne 29 = .ok (.iload 5, 2) := by decide +kernel
theorem dX1_canSayOne_31 : decode cX1_canSayOne 31 = .ok (.invokevirtual 77, 3) := by decide +kernel
theorem dX1_canSayOne_34 : decode cX1_canSayOne 34 = .ok (.ifCond .eq 5, 3) := by decide +kernel
theorem dX1_canSayOne_37 : decode cX1_canSayOne 37 = .ok (.iconst 1, 1) := by decide +kernel
theorem dX1_canSayOne_38 : decode cX1_canSayOne 38 = .ok (.ireturn, 1) := by decide +kernel
theorem dX1_canSayOne_39 : decode cX1_canSayOne 39 = .ok (.iinc 5 1, 3) := by decide +kernel
theorem dX1_canSayOne_42 : decode cX1_canSayOne 42 = .ok (.goto (-39), 3) := by decide +kernel
theorem dX1_canSayOne_45 : decode cX1_canSayOne 45 = .ok (.iconst 0, 1) := by decide +kernel
theorem dX1_canSayOne_46 : decode cX1_canSayOne 46 = .ok (.ireturn, 1) := by decide +kernel
set_option maxRecDepth 20000 in
theorem ggX1_canGoOn_X4_worseThan : GoodIn wsX1_canGoOn wsX4_worseThan := goodIn_r _ [6, 7, 8, 9, 10, 31, 32, 33, 34, 35] (by decide +kernel) (by decide +kernel)
set_option maxRecDepth 20000 in
theorem gX1_canGoOn_X4_worseThan_n70 : GoodIn wsX1_canGoOn (wsX4_worseThan) := ggX1_canGoOn_X4_worseThan
set_option maxRecDepth 20000 in
theorem ggX1_canGoOn_X6_at : GoodIn wsX1_canGoOn wsX6_at := goodIn_r _ [10] (by decide +kernel) (by decide +kernel)
set_option maxRecDepth 20000 in
theorem gX1_canGoOn_X6_at_n45 : GoodIn wsX1_canGoOn (wsX6_at) := ggX1_canGoOn_X6_at
set_option maxRecDepth 20000 in
theorem ggX1_canGoOn_X6_has : GoodIn wsX1_canGoOn wsX6_has := goodIn_r _ [12] (by decide +kernel) (by decide +kernel)
set_option maxRecDepth 20000 in
theorem gX1_canGoOn_X6_has_n56 : GoodIn wsX1_canGoOn (wsX6_has) := ggX1_canGoOn_X6_has
set_option maxRecDepth 20000 in
theorem ggX1_canGoOn_X1_hopeful : GoodIn wsX1_canGoOn wsX1_hopeful := goodIn_r _ [17, 18, 8, 9, 10, 26, 27, 28, 29, 30] (by decide +kernel) (by decide +kernel)
set_option maxRecDepth 20000 in
theorem gX1_canGoOn_X1_hopeful : GoodIn wsX1_canGoOn (wsV RX1 60 RX1 yX1_hopeful wsX1_hopeful) := goodIn_app (goodIn_of _ (by decide +kernel)) ggX1_canGoOn_X1_hopeful
set_option maxRecDepth 20000 in
theorem ggX1_canGoOn_X1_canSayOne : GoodIn wsX1_canGoOn wsX1_canSayOne := goodIn_r _ [22, 11, 9, 12, 23, 24, 25, 16, 0, 1, 2, 3, 4, 5, 6, 7, 8, 10, 13, 14, 15, 17, 18, 19, 20, 21, 26, 27, 28, 29, 30, 31, 32, 33, 34, 35] (by decide +kernel) (by decide +kernel)
set_option maxRecDepth 20000 in
theorem gX1_canGoOn_X1_canSayOne : GoodIn wsX1_canGoOn (wsV RX1 73 RX1 yX1_canSayOne wsX1_canSayOne) := goodIn_app (goodIn_of _ (by decide +kernel)) ggX1_canGoOn_X1_canSayOne
theorem dX1_canGoOn_0 : decode cX1_canGoOn 0 = .ok (.iload_n 1, 1) := by decide +kernel
theorem dX1_canGoOn_1 : decode cX1_canGoOn 1 = .ok (.ifCond .ne 5, 3) := by decide +kernel
theorem dX1_canGoOn_4 : decode cX1_canGoOn 4 = .ok (.iconst 1, 1) := by decide +kernel
theorem dX1_canGoOn_5 : decode cX1_canGoOn 5 = .ok (.ireturn, 1) := by decide +kernel
theorem dX1_canGoOn_6 : decode cX1_canGoOn 6 = .ok (.aload_n 0, 1) := by decide +kernel
theorem dX1_canGoOn_7 : decode cX1_canGoOn 7 = .ok (.getfield 25, 3) := by decide +kernel
theorem dX1_canGoOn_10 : decode cX1_canGoOn 10 = .ok (.iload 4, 2) := by decide +kernel
theorem dX1_canGoOn_12 : decode cX1_canGoOn 12 = .ok (.invokevirtual 70, 3) := by decide +kernel
theorem dX1_canGoOn_15 : decode cX1_canGoOn 15 = .ok (.aload_n 0, 1) := by decide +kernel
theorem dX1_canGoOn_16 : decode cX1_canGoOn 16 = .ok (.getfield 9, 3) := by decide +kernel
theorem dX1_canGoOn_19 : decode cX1_canGoOn 19 = .ok (.iload_n 2, 1) := by decide +kernel
theorem dX1_canGoOn_20 : decode cX1_canGoOn 20 = .ok (.invokestatic 45, 3) := by decide +kernel
theorem dX1_canGoOn_23 : decode cX1_canGoOn 23 = .ok (.iand, 1) := by decide +kernel
theorem dX1_canGoOn_24 : decode cX1_canGoOn 24 = .ok (.iload_n 3, 1) := by decide +kernel
theorem dX1_canGoOn_25 : decode cX1_canGoOn 25 = .ok (.iconst (-1), 1) := by decide +kernel
theorem dX1_canGoOn_26 : decode cX1_canGoOn 26 = .ok (.ixor, 1) := by decide +kernel
theorem dX1_canGoOn_27 : decode cX1_canGoOn 27 = .ok (.iand, 1) := by decide +kernel
theorem dX1_canGoOn_28 : decode cX1_canGoOn 28 = .ok (.istore 5, 2) := by decide +kernel
theorem dX1_canGoOn_30 : decode cX1_canGoOn 30 = .ok (.iload 5, 2) := by decide +kernel
theorem dX1_canGoOn_32 : decode cX1_canGoOn 32 = .ok (.ifCond .ne 5, 3) := by decide +kernel
theorem dX1_canGoOn_35 : decode cX1_canGoOn 35 = .ok (.iconst 0, 1) := by decide +kernel
theorem dX1_canGoOn_36 : decode cX1_canGoOn 36 = .ok (.ireturn, 1) := by decide +kernel
theorem dX1_canGoOn_37 : decode cX1_canGoOn 37 = .ok (.iload_n 3, 1) := by decide +kernel
theorem dX1_canGoOn_38 : decode cX1_canGoOn 38 = .ok (.iconst 1, 1) := by decide +kernel
theorem dX1_canGoOn_39 : decode cX1_canGoOn 39 = .ok (.iload 4, 2) := by decide +kernel
theorem dX1_canGoOn_41 : decode cX1_canGoOn 41 = .ok (.ishl, 1) := by decide +kernel
theorem dX1_canGoOn_42 : decode cX1_canGoOn 42 = .ok (.if_icmp .ne 7, 3) := by decide +kernel
theorem dX1_canGoOn_45 : decode cX1_canGoOn 45 = .ok (.iconst 1, 1) := by decide +kernel
theorem dX1_canGoOn_46 : decode cX1_canGoOn 46 = .ok (.goto 4, 3) := by decide +kernel
theorem dX1_canGoOn_49 : decode cX1_canGoOn 49 = .ok (.iconst 0, 1) := by decide +kernel
theorem dX1_canGoOn_50 : decode cX1_canGoOn 50 = .ok (.istore 6, 2) := by decide +kernel
theorem dX1_canGoOn_52 : decode cX1_canGoOn 52 = .ok (.iconst 0, 1) := by decide +kernel
theorem dX1_canGoOn_53 : decode cX1_canGoOn 53 = .ok (.istore 7, 2) := by decide +kernel
theorem dX1_canGoOn_55 : decode cX1_canGoOn 55 = .ok (.iload 7, 2) := by decide +kernel
theorem dX1_canGoOn_57 : decode cX1_canGoOn 57 = .ok (.iconst 5, 1) := by decide +kernel
theorem dX1_canGoOn_58 : decode cX1_canGoOn 58 = .ok (.if_icmp .ge 75, 3) := by decide +kernel
theorem dX1_canGoOn_61 : decode cX1_canGoOn 61 = .ok (.iload_n 1, 1) := by decide +kernel
theorem dX1_canGoOn_62 : decode cX1_canGoOn 62 = .ok (.iconst 1, 1) := by decide +kernel
theorem dX1_canGoOn_63 : decode cX1_canGoOn 63 = .ok (.iload 7, 2) := by decide +kernel
theorem dX1_canGoOn_65 : decode cX1_canGoOn 65 = .ok (.ishl, 1) := by decide +kernel
theorem dX1_canGoOn_66 : decode cX1_canGoOn 66 = .ok (.iconst (-1), 1) := by decide +kernel
theorem dX1_canGoOn_67 : decode cX1_canGoOn 67 = .ok (.ixor, 1) := by decide +kernel
theorem dX1_canGoOn_68 : decode cX1_canGoOn 68 = .ok (.iand, 1) := by decide +kernel
theorem dX1_canGoOn_69 : decode cX1_canGoOn 69 = .ok (.istore 8, 2) := by decide +kernel
theorem dX1_canGoOn_71 : decode cX1_canGoOn 71 = .ok (.iload 8, 2) := by decide +kernel
theorem dX1_canGoOn_73 : decode cX1_canGoOn 73 = .ok (.iload_n 1, 1) := by decide +kernel
theorem dX1_canGoOn_74 : decode cX1_canGoOn 74 = .ok (.if_icmp .eq 53, 3) := by decide +kernel
theorem dX1_canGoOn_77 : decode cX1_canGoOn 77 = .ok (.iload 6, 2) := by decide +kernel
theorem dX1_canGoOn_79 : decode cX1_canGoOn 79 = .ok (.ifCond .eq 23, 3) := by decide +kernel
theorem dX1_canGoOn_82 : decode cX1_canGoOn 82 = .ok (.aload_n 0, 1) := by decide +kernel
theorem dX1_canGoOn_83 : decode cX1_canGoOn 83 = .ok (.getfield 9, 3) := by decide +kernel
theorem dX1_canGoOn_86 : decode cX1_canGoOn 86 = .ok (.iload 7, 2) := by decide +kernel
theorem dX1_canGoOn_88 : decode cX1_canGoOn 88 = .ok (.invokestatic 45, 3) := by decide +kernel
theorem dX1_canGoOn_91 : decode cX1_canGoOn 91 = .ok (.iload 4, 2) := by decide +kernel
theorem dX1_canGoOn_93 : decode cX1_canGoOn 93 = .ok (.invokestatic 56, 3) := by decide +kernel
theorem dX1_canGoOn_96 : decode cX1_canGoOn 96 = .ok (.ifCond .ne 6, 3) := by decide +kernel
theorem dX1_canGoOn_99 : decode cX1_canGoOn 99 = .ok (.goto 28, 3) := by decide +kernel
theorem dX1_canGoOn_102 : decode cX1_canGoOn 102 = .ok (.aload_n 0, 1) := by decide +kernel
theorem dX1_canGoOn_103 : decode cX1_canGoOn 103 = .ok (.iload 8, 2) := by decide +kernel
theorem dX1_canGoOn_105 : decode cX1_canGoOn 105 = .ok (.iload 7, 2) := by decide +kernel
theorem dX1_canGoOn_107 : decode cX1_canGoOn 107 = .ok (.iload_n 3, 1) := by decide +kernel
theorem dX1_canGoOn_108 : decode cX1_canGoOn 108 = .ok (.iload 5, 2) := by decide +kernel
theorem dX1_canGoOn_110 : decode cX1_canGoOn 110 = .ok (.aload_n 0, 1) := by decide +kernel
theorem dX1_canGoOn_111 : decode cX1_canGoOn 111 = .ok (.iload 8, 2) := by decide +kernel
theorem dX1_canGoOn_113 : decode cX1_canGoOn 113 = .ok (.iload 7, 2) := by decide +kernel
theorem dX1_canGoOn_115 : decode cX1_canGoOn 115 = .ok (.invokevirtual 60, 3) := by decide +kernel
theorem dX1_canGoOn_118 : decode cX1_canGoOn 118 = .ok (.iand, 1) := by decide +kernel
theorem dX1_canGoOn_119 : decode cX1_canGoOn 119 = .ok (.invokevirtual 73, 3) := by decide +kernel
theorem dX1_canGoOn_122 : decode cX1_canGoOn 122 = .ok (.ifCond .eq 5, 3) := by decide +kernel
theorem dX1_canGoOn_125 : decode cX1_canGoOn 125 = .ok (.iconst 1, 1) := by decide +kernel
theorem dX1_canGoOn_126 : decode cX1_canGoOn 126 = .ok (.ireturn, 1) := by decide +kernel
theorem dX1_canGoOn_127 : decode cX1_canGoOn 127 = .ok (.iinc 7 1, 3) := by decide +kernel
theorem dX1_canGoOn_130 : decode cX1_canGoOn 130 = .ok (.goto (-75), 3) := by decide +kernel
theorem dX1_canGoOn_133 : decode cX1_canGoOn 133 = .ok (.iconst 0, 1) := by decide +kernel
theorem dX1_canGoOn_134 : decode cX1_canGoOn 134 = .ok (.ireturn, 1) := by decide +kernel
theorem dX2_init_0 : decode cX2_init 0 = .ok (.aload_n 0, 1) := by decide +kernel
theorem dX2_init_1 : decode cX2_init 1 = .ok (.invokespecial 3, 3) := by decide +kernel
theorem dX2_init_4 : decode cX2_init 4 = .ok (.aload_n 0, 1) := by decide +kernel
theorem dX2_init_5 : decode cX2_init 5 = .ok (.bipush 10, 2) := by decide +kernel
theorem dX2_init_7 : decode cX2_init 7 = .ok (.newarray .int, 2) := by decide +kernel
theorem dX2_init_9 : decode cX2_init 9 = .ok (.putfield 9, 3) := by decide +kernel
theorem dX2_init_12 : decode cX2_init 12 = .ok (.aload_n 0, 1) := by decide +kernel
theorem dX2_init_13 : decode cX2_init 13 = .ok (.sipush 1024, 3) := by decide +kernel
theorem dX2_init_16 : decode cX2_init 16 = .ok (.newarray .int, 2) := by decide +kernel
theorem dX2_init_18 : decode cX2_init 18 = .ok (.putfield 15, 3) := by decide +kernel
theorem dX2_init_21 : decode cX2_init 21 = .ok (.aload_n 0, 1) := by decide +kernel
theorem dX2_init_22 : decode cX2_init 22 = .ok (.bipush 10, 2) := by decide +kernel
theorem dX2_init_24 : decode cX2_init 24 = .ok (.newarray .int, 2) := by decide +kernel
theorem dX2_init_26 : decode cX2_init 26 = .ok (.putfield 18, 3) := by decide +kernel
theorem dX2_init_29 : decode cX2_init 29 = .ok (.aload_n 0, 1) := by decide +kernel
theorem dX2_init_30 : decode cX2_init 30 = .ok (.bipush 10, 2) := by decide +kernel
theorem dX2_init_32 : decode cX2_init 32 = .ok (.newarray .int, 2) := by decide +kernel
theorem dX2_init_34 : decode cX2_init 34 = .ok (.putfield 21, 3) := by decide +kernel
theorem dX2_init_37 : decode cX2_init 37 = .ok (.aload_n 0, 1) := by decide +kernel
theorem dX2_init_38 : decode cX2_init 38 = .ok (.iconst 0, 1) := by decide +kernel
theorem dX2_init_39 : decode cX2_init 39 = .ok (.putfield 24, 3) := by decide +kernel
theorem dX2_init_42 : decode cX2_init 42 = .ok (.aload_n 0, 1) := by decide +kernel
theorem dX2_init_43 : decode cX2_init 43 = .ok (.aload_n 1, 1) := by decide +kernel
theorem dX2_init_44 : decode cX2_init 44 = .ok (.putfield 28, 3) := by decide +kernel
theorem dX2_init_47 : decode cX2_init 47 = .ok (.return_, 1) := by decide +kernel
set_option maxRecDepth 20000 in
theorem ggX2_tops_X4_worseThan : GoodIn wsX2_tops wsX4_worseThan := goodIn_r _ [5, 6, 7, 8, 9, 16, 17, 18, 19, 20] (by decide +kernel) (by decide +kernel)
set_option maxRecDepth 20000 in
theorem gX2_tops_X4_worseThan_n32 : GoodIn wsX2_tops (wsX4_worseThan) := ggX2_tops_X4_worseThan
theorem dX2_tops_0 : decode cX2_tops 0 = .ok (.iconst 0, 1) := by decide +kernel
theorem dX2_tops_1 : decode cX2_tops 1 = .ok (.istore_n 1, 1) := by decide +kernel
theorem dX2_tops_2 : decode cX2_tops 2 = .ok (.iconst 0, 1) := by decide +kernel
theorem dX2_tops_3 : decode cX2_tops 3 = .ok (.istore_n 2, 1) := by decide +kernel
theorem dX2_tops_4 : decode cX2_tops 4 = .ok (.iload_n 2, 1) := by decide +kernel
theorem dX2_tops_5 : decode cX2_tops 5 = .ok (.bipush 10, 2) := by decide +kernel
theorem dX2_tops_7 : decode cX2_tops 7 = .ok (.if_icmp .ge 26, 3) := by decide +kernel
theorem dX2_tops_10 : decode cX2_tops 10 = .ok (.aload_n 0, 1) := by decide +kernel
theorem dX2_tops_11 : decode cX2_tops 11 = .ok (.getfield 28, 3) := by decide +kernel
theorem dX2_tops_14 : decode cX2_tops 14 = .ok (.iload_n 2, 1) := by decide +kernel
theorem dX2_tops_15 : decode cX2_tops 15 = .ok (.invokevirtual 32, 3) := by decide +kernel
theorem dX2_tops_18 : decode cX2_tops 18 = .ok (.ifCond .ne 9, 3) := by decide +kernel
theorem dX2_tops_21 : decode cX2_tops 21 = .ok (.iload_n 1, 1) := by decide +kernel
theorem dX2_tops_22 : decode cX2_tops 22 = .ok (.iconst 1, 1) := by decide +kernel
theorem dX2_tops_23 : decode cX2_tops 23 = .ok (.iload_n 2, 1) := by decide +kernel
theorem dX2_tops_24 : decode cX2_tops 24 = .ok (.ishl, 1) := by decide +kernel
theorem dX2_tops_25 : decode cX2_tops 25 = .ok (.ior, 1) := by decide +kernel
theorem dX2_tops_26 : decode cX2_tops 26 = .ok (.istore_n 1, 1) := by decide +kernel
theorem dX2_tops_27 : decode cX2_tops 27 = .ok (.iinc 2 1, 3) := by decide +kernel
theorem dX2_tops_30 : decode cX2_tops 30 = .ok (.goto (-26), 3) := by decide +kernel
theorem dX2_tops_33 : decode cX2_tops 33 = .ok (.iload_n 1, 1) := by decide +kernel
theorem dX2_tops_34 : decode cX2_tops 34 = .ok (.ireturn, 1) := by decide +kernel
set_option maxRecDepth 20000 in
theorem ggX2_inRings_X4_worseThan : GoodIn wsX2_inRings wsX4_worseThan := goodIn_r _ [6, 7, 8, 9, 10, 21, 22, 23, 24, 25] (by decide +kernel) (by decide +kernel)
set_option maxRecDepth 20000 in
theorem gX2_inRings_X4_worseThan_n32 : GoodIn wsX2_inRings (wsX4_worseThan) := ggX2_inRings_X4_worseThan
set_option maxRecDepth 20000 in
theorem ggX2_inRings_X6_store : GoodIn wsX2_inRings wsX6_store := goodIn_r _ [12] (by decide +kernel) (by decide +kernel)
set_option maxRecDepth 20000 in
theorem gX2_inRings_X6_store_n38 : GoodIn wsX2_inRings (wsX6_store) := ggX2_inRings_X6_store
set_option maxRecDepth 20000 in
theorem ggX2_inRings_X6_at : GoodIn wsX2_inRings wsX6_at := goodIn_r _ [10] (by decide +kernel) (by decide +kernel)
set_option maxRecDepth 20000 in
theorem gX2_inRings_X6_at_n42 : GoodIn wsX2_inRings (wsX6_at) := ggX2_inRings_X6_at
set_option maxRecDepth 20000 in
theorem ggX2_inRings_X6_has : GoodIn wsX2_inRings wsX6_has := goodIn_r _ [14] (by decide +kernel) (by decide +kernel)
set_option maxRecDepth 20000 in
theorem gX2_inRings_X6_has_n46 : GoodIn wsX2_inRings (wsX6_has) := ggX2_inRings_X6_has
theorem dX2_inRings_0 : decode cX2_inRings 0 = .ok (.iconst 0, 1) := by decide +kernel
theorem dX2_inRings_1 : decode cX2_inRings 1 = .ok (.istore_n 1, 1) := by decide +kernel
theorem dX2_inRings_2 : decode cX2_inRings 2 = .ok (.iload_n 1, 1) := by decide +kernel
theorem dX2_inRings_3 : decode cX2_inRings 3 = .ok (.bipush 10, 2) := by decide +kernel
theorem dX2_inRings_5 : decode cX2_inRings 5 = .ok (.if_icmp .ge 25, 3) := by decide +kernel
theorem dX2_inRings_8 : decode cX2_inRings 8 = .ok (.aload_n 0, 1) := by decide +kernel
theorem dX2_inRings_9 : decode cX2_inRings 9 = .ok (.getfield 9, 3) := by decide +kernel
theorem dX2_inRings_12 : decode cX2_inRings 12 = .ok (.iload_n 1, 1) := by decide +kernel
theorem dX2_inRings_13 : decode cX2_inRings 13 = .ok (.aload_n 0, 1) := by decide +kernel
theorem dX2_inRings_14 : decode cX2_inRings 14 = .ok (.getfield 28, 3) := by decide +kernel
theorem dX2_inRings_17 : decode cX2_inRings 17 = .ok (.iload_n 1, 1) := by decide +kernel
theorem dX2_inRings_18 : decode cX2_inRings 18 = .ok (.invokevirtual 32, 3) := by decide +kernel
theorem dX2_inRings_21 : decode cX2_inRings 21 = .ok (.invokestatic 38, 3) := by decide +kernel
theorem dX2_inRings_24 : decode cX2_inRings 24 = .ok (.iinc 1 1, 3) := by decide +kernel
theorem dX2_inRings_27 : decode cX2_inRings 27 = .ok (.goto (-25), 3) := by decide +kernel
theorem dX2_inRings_30 : decode cX2_inRings 30 = .ok (.iconst 0, 1) := by decide +kernel
theorem dX2_inRings_31 : decode cX2_inRings 31 = .ok (.istore_n 1, 1) := by decide +kernel
theorem dX2_inRings_32 : decode cX2_inRings 32 = .ok (.iload_n 1, 1) := by decide +kernel
theorem dX2_inRings_33 : decode cX2_inRings 33 = .ok (.bipush 10, 2) := by decide +kernel
theorem dX2_inRings_35 : decode cX2_inRings 35 = .ok (.if_icmp .ge 63, 3) := by decide +kernel
theorem dX2_inRings_38 : decode cX2_inRings 38 = .ok (.iconst 0, 1) := by decide +kernel
theorem dX2_inRings_39 : decode cX2_inRings 39 = .ok (.istore_n 2, 1) := by decide +kernel
theorem dX2_inRings_40 : decode cX2_inRings 40 = .ok (.iload_n 2, 1) := by decide +kernel
theorem dX2_inRings_41 : decode cX2_inRings 41 = .ok (.bipush 10, 2) := by decide +kernel
theorem dX2_inRings_43 : decode cX2_inRings 43 = .ok (.if_icmp .ge 49, 3) := by decide +kernel
theorem dX2_inRings_46 : decode cX2_inRings 46 = .ok (.aload_n 0, 1) := by decide +kernel
theorem dX2_inRings_47 : decode cX2_inRings 47 = .ok (.getfield 9, 3) := by decide +kernel
theorem dX2_inRings_50 : decode cX2_inRings 50 = .ok (.iload_n 2, 1) := by decide +kernel
theorem dX2_inRings_51 : decode cX2_inRings 51 = .ok (.invokestatic 42, 3) := by decide +kernel
theorem dX2_inRings_54 : decode cX2_inRings 54 = .ok (.iload_n 1, 1) := by decide +kernel
theorem dX2_inRings_55 : decode cX2_inRings 55 = .ok (.invokestatic 46, 3) := by decide +kernel
theorem dX2_inRings_58 : decode cX2_inRings 58 = .ok (.ifCond .eq 28, 3) := by decide +kernel
theorem dX2_inRings_61 : decode cX2_inRings 61 = .ok (.aload_n 0, 1) := by decide +kernel
theorem dX2_inRings_62 : decode cX2_inRings 62 = .ok (.getfield 9, 3) := by decide +kernel
theorem dX2_inRings_65 : decode cX2_inRings 65 = .ok (.iload_n 2, 1) := by decide +kernel
theorem dX2_inRings_66 : decode cX2_inRings 66 = .ok (.aload_n 0, 1) := by decide +kernel
theorem dX2_inRings_67 : decode cX2_inRings 67 = .ok (.getfield 9, 3) := by decide +kernel
theorem dX2_inRings_70 : decode cX2_inRings 70 = .ok (.iload_n 2, 1) := by decide +kernel
theorem dX2_inRings_71 : decode cX2_inRings 71 = .ok (.invokestatic 42, 3) := by decide +kernel
theorem dX2_inRings_74 : decode cX2_inRings 74 = .ok (.aload_n 0, 1) := by decide +kernel
theorem dX2_inRings_75 : decode cX2_inRings 75 = .ok (.getfield 9, 3) := by decide +kernel
theorem dX2_inRings_78 : decode cX2_inRings 78 = .ok (.iload_n 1, 1) := by decide +kernel
theorem dX2_inRings_79 : decode cX2_inRings 79 = .ok (.invokestatic 42, 3) := by decide +kernel
theorem dX2_inRings_82 : decode cX2_inRings 82 = .ok (.ior, 1) := by decide +kernel
theorem dX2_inRings_83 : decode cX2_inRings 83 = .ok (.invokestatic 38, 3) := by decide +kernel
theorem dX2_inRings_86 : decode cX2_inRings 86 = .ok (.iinc 2 1, 3) := by decide +kernel
theorem dX2_inRings_89 : decode cX2_inRings 89 = .ok (.goto (-49), 3) := by decide +kernel
theorem dX2_inRings_92 : decode cX2_inRings 92 = .ok (.iinc 1 1, 3) := by decide +kernel
theorem dX2_inRings_95 : decode cX2_inRings 95 = .ok (.goto (-63), 3) := by decide +kernel
theorem dX2_inRings_98 : decode cX2_inRings 98 = .ok (.iconst 0, 1) := by decide +kernel
theorem dX2_inRings_99 : decode cX2_inRings 99 = .ok (.istore_n 1, 1) := by decide +kernel
theorem dX2_inRings_100 : decode cX2_inRings 100 = .ok (.iconst 0, 1) := by decide +kernel
theorem dX2_inRings_101 : decode cX2_inRings 101 = .ok (.istore_n 2, 1) := by decide +kernel
theorem dX2_inRings_102 : decode cX2_inRings 102 = .ok (.iload_n 2, 1) := by decide +kernel
theorem dX2_inRings_103 : decode cX2_inRings 103 = .ok (.bipush 10, 2) := by decide +kernel
theorem dX2_inRings_105 : decode cX2_inRings 105 = .ok (.if_icmp .ge 30, 3) := by decide +kernel
theorem dX2_inRings_108 : decode cX2_inRings 108 = .ok (.aload_n 0, 1) := by decide +kernel
theorem dX2_inRings_109 : decode cX2_inRings 109 = .ok (.getfield 9, 3) := by decide +kernel
theorem dX2_inRings_112 : decode cX2_inRings 112 = .ok (.iload_n 2, 1) := by decide +kernel
theorem dX2_inRings_113 : decode cX2_inRings 113 = .ok (.invokestatic 42, 3) := by decide +kernel
theorem dX2_inRings_116 : decode cX2_inRings 116 = .ok (.iload_n 2, 1) := by decide +kernel
theorem dX2_inRings_117 : decode cX2_inRings 117 = .ok (.invokestatic 46, 3) := by decide +kernel
theorem dX2_inRings_120 : decode cX2_inRings 120 = .ok (.ifCond .eq 9, 3) := by decide +kernel
theorem dX2_inRings_123 : decode cX2_inRings 123 = .ok (.iload_n 1, 1) := by decide +kernel
theorem dX2_inRings_124 : decode cX2_inRings 124 = .ok (.iconst 1, 1) := by decide +kernel
theorem dX2_inRings_125 : decode cX2_inRings 125 = .ok (.iload_n 2, 1) := by decide +kernel
theorem dX2_inRings_126 : decode cX2_inRings 126 = .ok (.ishl, 1) := by decide +kernel
theorem dX2_inRings_127 : decode cX2_inRings 127 = .ok (.ior, 1) := by decide +kernel
theorem dX2_inRings_128 : decode cX2_inRings 128 = .ok (.istore_n 1, 1) := by decide +kernel
theorem dX2_inRings_129 : decode cX2_inRings 129 = .ok (.iinc 2 1, 3) := by decide +kernel
theorem dX2_inRings_132 : decode cX2_inRings 132 = .ok (.goto (-30), 3) := by decide +kernel
theorem dX2_inRings_135 : decode cX2_inRings 135 = .ok (.iload_n 1, 1) := by decide +kernel
theorem dX2_inRings_136 : decode cX2_inRings 136 = .ok (.ireturn, 1) := by decide +kernel
set_option maxRecDepth 20000 in
theorem ggX2_arrange_X2_isSameBook : GoodIn wsX2_arrange wsX2_isSameBook := goodIn_r _ [10, 4, 5, 11, 12, 13, 14, 15, 16, 17, 18, 38, 39, 40, 41, 42, 43, 44, 45, 46, 47, 48] (by decide +kernel) (by decide +kernel)
set_option maxRecDepth 20000 in
theorem gX2_arrange_X2_isSameBook : GoodIn wsX2_arrange (wsV RX2 50 RX2 yX2_isSameBook wsX2_isSameBook) := goodIn_app (goodIn_of _ (by decide +kernel)) ggX2_arrange_X2_isSameBook
set_option maxRecDepth 20000 in
theorem ggX2_arrange_X6_store : GoodIn wsX2_arrange wsX6_store := goodIn_r _ [20] (by decide +kernel) (by decide +kernel)
set_option maxRecDepth 20000 in
theorem gX2_arrange_X6_store_n38 : GoodIn wsX2_arrange (wsX6_store) := ggX2_arrange_X6_store
set_option maxRecDepth 20000 in
theorem ggX2_arrange_X2_nextAfter : GoodIn wsX2_arrange wsX2_nextAfter := goodIn_r _ [24, 25, 12, 26, 27, 28, 29, 9, 30, 5, 2, 14, 15, 16, 17, 18, 11, 13, 31, 32, 33, 34, 35, 36, 37, 38, 39, 40, 41, 42, 43, 44, 45, 46, 47, 48] (by decide +kernel) (by decide +kernel)
set_option maxRecDepth 20000 in
theorem gX2_arrange_X2_nextAfter : GoodIn wsX2_arrange (wsV RX2 54 RX2 yX2_nextAfter wsX2_nextAfter) := goodIn_app (goodIn_of _ (by decide +kernel)) ggX2_arrange_X2_nextAfter
set_option maxRecDepth 20000 in
theorem ggX2_arrange_X2_backWith : GoodIn wsX2_arrange wsX2_backWith := goodIn_r _ [30, 5, 2, 14, 15, 16, 17, 18, 11, 12, 13, 31, 32, 33, 34, 35, 36, 37, 38, 39, 40, 41, 42, 43, 44, 45, 46, 47, 48] (by decide +kernel) (by decide +kernel)
set_option maxRecDepth 20000 in
theorem gX2_arrange_X2_backWith : GoodIn wsX2_arrange (wsV RX2 57 RX2 yX2_backWith wsX2_backWith) := goodIn_app (goodIn_of _ (by decide +kernel)) ggX2_arrange_X2_backWith
set_option maxRecDepth 20000 in
theorem ggX2_arrange_X4_worseThan : GoodIn wsX2_arrange wsX4_worseThan := goodIn_r _ [17, 18, 11, 12, 13, 44, 45, 46, 47, 48] (by decide +kernel) (by decide +kernel)
set_option maxRecDepth 20000 in
theorem gX2_arrange_X4_worseThan_n32 : GoodIn wsX2_arrange (wsX4_worseThan) := ggX2_arrange_X4_worseThan
theorem dX2_arrange_0 : decode cX2_arrange 0 = .ok (.aload_n 0, 1) := by decide +kernel
theorem dX2_arrange_1 : decode cX2_arrange 1 = .ok (.getfield 24, 3) := by decide +kernel
theorem dX2_arrange_4 : decode cX2_arrange 4 = .ok (.ifCond .eq 11, 3) := by decide +kernel
theorem dX2_arrange_7 : decode cX2_arrange 7 = .ok (.aload_n 0, 1) := by decide +kernel
theorem dX2_arrange_8 : decode cX2_arrange 8 = .ok (.invokevirtual 50, 3) := by decide +kernel
theorem dX2_arrange_11 : decode cX2_arrange 11 = .ok (.ifCond .eq 4, 3) := by decide +kernel
theorem dX2_arrange_14 : decode cX2_arrange 14 = .ok (.return_, 1) := by decide +kernel
theorem dX2_arrange_15 : decode cX2_arrange 15 = .ok (.aload_n 0, 1) := by decide +kernel
theorem dX2_arrange_16 : decode cX2_arrange 16 = .ok (.getfield 15, 3) := by decide +kernel
theorem dX2_arrange_19 : decode cX2_arrange 19 = .ok (.sipush 1023, 3) := by decide +kernel
theorem dX2_arrange_22 : decode cX2_arrange 22 = .ok (.iconst 0, 1) := by decide +kernel
theorem dX2_arrange_23 : decode cX2_arrange 23 = .ok (.invokestatic 38, 3) := by decide +kernel
theorem dX2_arrange_26 : decode cX2_arrange 26 = .ok (.sipush 1022, 3) := by decide +kernel
theorem dX2_arrange_29 : decode cX2_arrange 29 = .ok (.istore_n 1, 1) := by decide +kernel
theorem dX2_arrange_30 : decode cX2_arrange 30 = .ok (.iload_n 1, 1) := by decide +kernel
theorem dX2_arrange_31 : decode cX2_arrange 31 = .ok (.ifCond .lt 27, 3) := by decide +kernel
theorem dX2_arrange_34 : decode cX2_arrange 34 = .ok (.aload_n 0, 1) := by decide +kernel
theorem dX2_arrange_35 : decode cX2_arrange 35 = .ok (.getfield 15, 3) := by decide +kernel
theorem dX2_arrange_38 : decode cX2_arrange 38 = .ok (.iload_n 1, 1) := by decide +kernel
theorem dX2_arrange_39 : decode cX2_arrange 39 = .ok (.aload_n 0, 1) := by decide +kernel
theorem dX2_arrange_40 : decode cX2_arrange 40 = .ok (.iload_n 1, 1) := by decide +kernel
theorem dX2_arrange_41 : decode cX2_arrange 41 = .ok (.aload_n 0, 1) := by decide +kernel
theorem dX2_arrange_42 : decode cX2_arrange 42 = .ok (.iload_n 1, 1) := by decide +kernel
theorem dX2_arrange_43 : decode cX2_arrange 43 = .ok (.invokevirtual 54, 3) := by decide +kernel
theorem dX2_arrange_46 : decode cX2_arrange 46 = .ok (.invokevirtual 57, 3) := by decide +kernel
theorem dX2_arrange_49 : decode cX2_arrange 49 = .ok (.invokestatic 38, 3) := by decide +kernel
theorem dX2_arrange_52 : decode cX2_arrange 52 = .ok (.iinc 1 (-1), 3) := by decide +kernel
theorem dX2_arrange_55 : decode cX2_arrange 55 = .ok (.goto (-25), 3) := by decide +kernel
theorem dX2_arrange_58 : decode cX2_arrange 58 = .ok (.iconst 0, 1) := by decide +kernel
theorem dX2_arrange_59 : decode cX2_arrange 59 = .ok (.istore_n 1, 1) := by decide +kernel
theorem dX2_arrange_60 : decode cX2_arrange 60 = .ok (.iconst 0, 1) := by decide +kernel
theorem dX2_arrange_61 : decode cX2_arrange 61 = .ok (.istore_n 2, 1) := by decide +kernel
theorem dX2_arrange_62 : decode cX2_arrange 62 = .ok (.iload_n 2, 1) := by decide +kernel
theorem dX2_arrange_63 : decode cX2_arrange 63 = .ok (.bipush 10, 2) := by decide +kernel
theorem dX2_arrange_65 : decode cX2_arrange 65 = .ok (.if_icmp .ge 30, 3) := by decide +kernel
theorem dX2_arrange_68 : decode cX2_arrange 68 = .ok (.aload_n 0, 1) := by decide +kernel
theorem dX2_arrange_69 : decode cX2_arrange 69 = .ok (.iload_n 1, 1) := by decide +kernel
theorem dX2_arrange_70 : decode cX2_arrange 70 = .ok (.invokevirtual 54, 3) := by decide +kernel
theorem dX2_arrange_73 : decode cX2_arrange 73 = .ok (.istore_n 3, 1) := by decide +kernel
theorem dX2_arrange_74 : decode cX2_arrange 74 = .ok (.aload_n 0, 1) := by decide +kernel
theorem dX2_arrange_75 : decode cX2_arrange 75 = .ok (.getfield 18, 3) := by decide +kernel
theorem dX2_arrange_78 : decode cX2_arrange 78 = .ok (.iload_n 3, 1) := by decide +kernel
theorem dX2_arrange_79 : decode cX2_arrange 79 = .ok (.iload_n 2, 1) := by decide +kernel
theorem dX2_arrange_80 : decode cX2_arrange 80 = .ok (.invokestatic 38, 3) := by decide +kernel
theorem dX2_arrange_83 : decode cX2_arrange 83 = .ok (.iload_n 1, 1) := by decide +kernel
theorem dX2_arrange_84 : decode cX2_arrange 84 = .ok (.iconst 1, 1) := by decide +kernel
theorem dX2_arrange_85 : decode cX2_arrange 85 = .ok (.iload_n 3, 1) := by decide +kernel
theorem dX2_arrange_86 : decode cX2_arrange 86 = .ok (.ishl, 1) := by decide +kernel
theorem dX2_arrange_87 : decode cX2_arrange 87 = .ok (.ior, 1) := by decide +kernel
theorem dX2_arrange_88 : decode cX2_arrange 88 = .ok (.istore_n 1, 1) := by decide +kernel
theorem dX2_arrange_89 : decode cX2_arrange 89 = .ok (.iinc 2 1, 3) := by decide +kernel
theorem dX2_arrange_92 : decode cX2_arrange 92 = .ok (.goto (-30), 3) := by decide +kernel
theorem dX2_arrange_95 : decode cX2_arrange 95 = .ok (.iconst 0, 1) := by decide +kernel
theorem dX2_arrange_96 : decode cX2_arrange 96 = .ok (.istore_n 2, 1) := by decide +kernel
theorem dX2_arrange_97 : decode cX2_arrange 97 = .ok (.iload_n 2, 1) := by decide +kernel
theorem dX2_arrange_98 : decode cX2_arrange 98 = .ok (.bipush 10, 2) := by decide +kernel
theorem dX2_arrange_100 : decode cX2_arrange 100 = .ok (.if_icmp .ge 25, 3) := by decide +kernel
theorem dX2_arrange_103 : decode cX2_arrange 103 = .ok (.aload_n 0, 1) := by decide +kernel
theorem dX2_arrange_104 : decode cX2_arrange 104 = .ok (.getfield 21, 3) := by decide +kernel
theorem dX2_arrange_107 : decode cX2_arrange 107 = .ok (.iload_n 2, 1) := by decide +kernel
theorem dX2_arrange_108 : decode cX2_arrange 108 = .ok (.aload_n 0, 1) := by decide +kernel
theorem dX2_arrange_109 : decode cX2_arrange 109 = .ok (.getfield 28, 3) := by decide +kernel
theorem dX2_arrange_112 : decode cX2_arrange 112 = .ok (.iload_n 2, 1) := by decide +kernel
theorem dX2_arrange_113 : decode cX2_arrange 113 = .ok (.invokevirtual 32, 3) := by decide +kernel
theorem dX2_arrange_116 : decode cX2_arrange 116 = .ok (.invokestatic 38, 3) := by decide +kernel
theorem dX2_arrange_119 : decode cX2_arrange 119 = .ok (.iinc 2 1, 3) := by decide +kernel
theorem dX2_arrange_122 : decode cX2_arrange 122 = .ok (.goto (-25), 3) := by decide +kernel
theorem dX2_arrange_125 : decode cX2_arrange 125 = .ok (.aload_n 0, 1) := by decide +kernel
theorem dX2_arrange_126 : decode cX2_arrange 126 = .ok (.iconst 1, 1) := by decide +kernel
theorem dX2_arrange_127 : decode cX2_arrange 127 = .ok (.putfield 24, 3) := by decide +kernel
theorem dX2_arrange_130 : decode cX2_arrange 130 = .ok (.return_, 1) := by decide +kernel
set_option maxRecDepth 20000 in
theorem ggX2_isSameBook_X6_at : GoodIn wsX2_isSameBook wsX6_at := goodIn_r _ [5] (by decide +kernel) (by decide +kernel)
set_option maxRecDepth 20000 in
theorem gX2_isSameBook_X6_at_n42 : GoodIn wsX2_isSameBook (wsX6_at) := ggX2_isSameBook_X6_at
set_option maxRecDepth 20000 in
theorem ggX2_isSameBook_X4_worseThan : GoodIn wsX2_isSameBook wsX4_worseThan := goodIn_r _ [9, 10, 3, 4, 5, 17, 18, 19, 20, 21] (by decide +kernel) (by decide +kernel)
set_option maxRecDepth 20000 in
theorem gX2_isSameBook_X4_worseThan_n32 : GoodIn wsX2_isSameBook (wsX4_worseThan) := ggX2_isSameBook_X4_worseThan
theorem dX2_isSameBook_0 : decode cX2_isSameBook 0 = .ok (.iconst 0, 1) := by decide +kernel
theorem dX2_isSameBook_1 : decode cX2_isSameBook 1 = .ok (.istore_n 1, 1) := by decide +kernel
theorem dX2_isSameBook_2 : decode cX2_isSameBook 2 = .ok (.iload_n 1, 1) := by decide +kernel
theorem dX2_isSameBook_3 : decode cX2_isSameBook 3 = .ok (.bipush 10, 2) := by decide +kernel
theorem dX2_isSameBook_5 : decode cX2_isSameBook 5 = .ok (.if_icmp .ge 30, 3) := by decide +kernel
theorem dX2_isSameBook_8 : decode cX2_isSameBook 8 = .ok (.aload_n 0, 1) := by decide +kernel
theorem dX2_isSameBook_9 : decode cX2_isSameBook 9 = .ok (.getfield 21, 3) := by decide +kernel
theorem dX2_isSameBook_12 : decode cX2_isSameBook 12 = .ok (.iload_n 1, 1) := by decide +kernel
theorem dX2_isSameBook_13 : decode cX2_isSameBook 13 = .ok (.invokestatic 42, 3) := by decide +kernel
theorem dX2_isSameBook_16 : decode cX2_isSameBook 16 = .ok (.aload_n 0, 1) := by decide +kernel
theorem dX2_isSameBook_17 : decode cX2_isSameBook 17 = .ok (.getfield 28, 3) := by decide +kernel
theorem dX2_isSameBook_20 : decode cX2_isSameBook 20 = .ok (.iload_n 1, 1) := by decide +kernel
theorem dX2_isSameBook_21 : decode cX2_isSameBook 21 = .ok (.invokevirtual 32, 3) := by decide +kernel
theorem dX2_isSameBook_24 : decode cX2_isSameBook 24 = .ok (.if_icmp .eq 5, 3) := by decide +kernel
theorem dX2_isSameBook_27 : decode cX2_isSameBook 27 = .ok (.iconst 0, 1) := by decide +kernel
theorem dX2_isSameBook_28 : decode cX2_isSameBook 28 = .ok (.ireturn, 1) := by decide +kernel
theorem dX2_isSameBook_29 : decode cX2_isSameBook 29 = .ok (.iinc 1 1, 3) := by decide +kernel
theorem dX2_isSameBook_32 : decode cX2_isSameBook 32 = .ok (.goto (-30), 3) := by decide +kernel
theorem dX2_isSameBook_35 : decode cX2_isSameBook 35 = .ok (.iconst 1, 1) := by decide +kernel
theorem dX2_isSameBook_36 : decode cX2_isSameBook 36 = .ok (.ireturn, 1) := by decide +kernel
set_option maxRecDepth 20000 in
theorem ggX2_nextAfter_X6_has : GoodIn wsX2_nextAfter wsX6_has := goodIn_r _ [3] (by decide +kernel) (by decide +kernel)
set_option maxRecDepth 20000 in
theorem gX2_nextAfter_X6_has_n46 : GoodIn wsX2_nextAfter (wsX6_has) := ggX2_nextAfter_X6_has
set_option maxRecDepth 20000 in
theorem ggX2_nextAfter_X2_backWith : GoodIn wsX2_nextAfter wsX2_backWith := goodIn_r _ [8, 9, 10, 11, 12, 13, 14, 15, 16, 2, 17, 18, 19, 20, 21, 22, 23, 24, 25, 26, 27, 28, 29, 30, 31, 32, 33, 34, 35] (by decide +kernel) (by decide +kernel)
set_option maxRecDepth 20000 in
theorem gX2_nextAfter_X2_backWith : GoodIn wsX2_nextAfter (wsV RX2 57 RX2 yX2_backWith wsX2_backWith) := goodIn_app (goodIn_of _ (by decide +kernel)) ggX2_nextAfter_X2_backWith
theorem dX2_nextAfter_0 : decode cX2_nextAfter 0 = .ok (.sipush 1000, 3) := by decide +kernel
theorem dX2_nextAfter_3 : decode cX2_nextAfter 3 = .ok (.istore_n 2, 1) := by decide +kernel
theorem dX2_nextAfter_4 : decode cX2_nextAfter 4 = .ok (.iconst 0, 1) := by decide +kernel
theorem dX2_nextAfter_5 : decode cX2_nextAfter 5 = .ok (.istore_n 3, 1) := by decide +kernel
theorem dX2_nextAfter_6 : decode cX2_nextAfter 6 = .ok (.iconst 0, 1) := by decide +kernel
theorem dX2_nextAfter_7 : decode cX2_nextAfter 7 = .ok (.istore 4, 2) := by decide +kernel
theorem dX2_nextAfter_9 : decode cX2_nextAfter 9 = .ok (.iload 4, 2) := by decide +kernel
theorem dX2_nextAfter_11 : decode cX2_nextAfter 11 = .ok (.bipush 10, 2) := by decide +kernel
theorem dX2_nextAfter_13 : decode cX2_nextAfter 13 = .ok (.if_icmp .ge 42, 3) := by decide +kernel
theorem dX2_nextAfter_16 : decode cX2_nextAfter 16 = .ok (.iload_n 1, 1) := by decide +kernel
theorem dX2_nextAfter_17 : decode cX2_nextAfter 17 = .ok (.iload 4, 2) := by decide +kernel
theorem dX2_nextAfter_19 : decode cX2_nextAfter 19 = .ok (.invokestatic 46, 3) := by decide +kernel
theorem dX2_nextAfter_22 : decode cX2_nextAfter 22 = .ok (.ifCond .eq 6, 3) := by decide +kernel
theorem dX2_nextAfter_25 : decode cX2_nextAfter 25 = .ok (.goto 24, 3) := by decide +kernel
theorem dX2_nextAfter_28 : decode cX2_nextAfter 28 = .ok (.aload_n 0, 1) := by decide +kernel
theorem dX2_nextAfter_29 : decode cX2_nextAfter 29 = .ok (.iload_n 1, 1) := by decide +kernel
theorem dX2_nextAfter_30 : decode cX2_nextAfter 30 = .ok (.iload 4, 2) := by decide +kernel
theorem dX2_nextAfter_32 : decode cX2_nextAfter 32 = .ok (.invokevirtual 57, 3) := by decide +kernel
theorem dX2_nextAfter_35 : decode cX2_nextAfter 35 = .ok (.istore 5, 2) := by decide +kernel
theorem dX2_nextAfter_37 : decode cX2_nextAfter 37 = .ok (.iload 5, 2) := by decide +kernel
theorem dX2_nextAfter_39 : decode cX2_nextAfter 39 = .ok (.iload_n 2, 1) := by decide +kernel
theorem dX2_nextAfter_40 : decode cX2_nextAfter 40 = .ok (.if_icmp .ge 9, 3) := by decide +kernel
theorem dX2_nextAfter_43 : decode cX2_nextAfter 43 = .ok (.iload 5, 2) := by decide +kernel
theorem dX2_nextAfter_45 : decode cX2_nextAfter 45 = .ok (.istore_n 2, 1) := by decide +kernel
theorem dX2_nextAfter_46 : decode cX2_nextAfter 46 = .ok (.iload 4, 2) := by decide +kernel
theorem dX2_nextAfter_48 : decode cX2_nextAfter 48 = .ok (.istore_n 3, 1) := by decide +kernel
theorem dX2_nextAfter_49 : decode cX2_nextAfter 49 = .ok (.iinc 4 1, 3) := by decide +kernel
theorem dX2_nextAfter_52 : decode cX2_nextAfter 52 = .ok (.goto (-43), 3) := by decide +kernel
theorem dX2_nextAfter_55 : decode cX2_nextAfter 55 = .ok (.iload_n 3, 1) := by decide +kernel
theorem dX2_nextAfter_56 : decode cX2_nextAfter 56 = .ok (.ireturn, 1) := by decide +kernel
set_option maxRecDepth 20000 in
theorem ggX2_backWith_X4_worseThan : GoodIn wsX2_backWith wsX4_worseThan := goodIn_r _ [6, 7, 8, 9, 10, 24, 25, 26, 27, 28] (by decide +kernel) (by decide +kernel)
set_option maxRecDepth 20000 in
theorem gX2_backWith_X4_worseThan_n32 : GoodIn wsX2_backWith (wsX4_worseThan) := ggX2_backWith_X4_worseThan
set_option maxRecDepth 20000 in
theorem ggX2_backWith_J6_bitCount_0f7a4 : GoodIn wsX2_backWith wsJ6_bitCount_0f7a4 := goodIn_r _ [14, 15, 16, 17] (by decide +kernel) (by decide +kernel)
set_option maxRecDepth 20000 in
theorem gX2_backWith_J6_bitCount_0f7a4 : GoodIn wsX2_backWith (va_wsS RX2 61 yJ6_bitCount_0f7a4 wsJ6_bitCount_0f7a4) := goodIn_app (goodIn_of _ (by decide +kernel)) ggX2_backWith_J6_bitCount_0f7a4
set_option maxRecDepth 20000 in
theorem ggX2_backWith_X6_at : GoodIn wsX2_backWith wsX6_at := goodIn_r _ [10] (by decide +kernel) (by decide +kernel)
set_option maxRecDepth 20000 in
theorem gX2_backWith_X6_at_n42 : GoodIn wsX2_backWith (wsX6_at) := ggX2_backWith_X6_at
theorem dX2_backWith_0 : decode cX2_backWith 0 = .ok (.aload_n 0, 1) := by decide +kernel
theorem dX2_backWith_1 : decode cX2_backWith 1 = .ok (.getfield 28, 3) := by decide +kernel
theorem dX2_backWith_4 : decode cX2_backWith 4 = .ok (.iload_n 2, 1) := by decide +kernel
theorem dX2_backWith_5 : decode cX2_backWith 5 = .ok (.invokevirtual 32, 3) := by decide +kernel
theorem dX2_backWith_8 : decode cX2_backWith 8 = .ok (.iload_n 1, 1) := by decide +kernel
theorem dX2_backWith_9 : decode cX2_backWith 9 = .ok (.iand, 1) := by decide +kernel
theorem dX2_backWith_10 : decode cX2_backWith 10 = .ok (.invokestatic 61, 3) := by decide +kernel
theorem dX2_backWith_13 : decode cX2_backWith 13 = .ok (.aload_n 0, 1) := by decide +kernel
theorem dX2_backWith_14 : decode cX2_backWith 14 = .ok (.getfield 15, 3) := by decide +kernel
theorem dX2_backWith_17 : decode cX2_backWith 17 = .ok (.iload_n 1, 1) := by decide +kernel
theorem dX2_backWith_18 : decode cX2_backWith 18 = .ok (.iconst 1, 1) := by decide +kernel
theorem dX2_backWith_19 : decode cX2_backWith 19 = .ok (.iload_n 2, 1) := by decide +kernel
theorem dX2_backWith_20 : decode cX2_backWith 20 = .ok (.ishl, 1) := by decide +kernel
theorem dX2_backWith_21 : decode cX2_backWith 21 = .ok (.ior, 1) := by decide +kernel
theorem dX2_backWith_22 : decode cX2_backWith 22 = .ok (.invokestatic 42, 3) := by decide +kernel
theorem dX2_backWith_25 : decode cX2_backWith 25 = .ok (.iadd, 1) := by decide +kernel
theorem dX2_backWith_26 : decode cX2_backWith 26 = .ok (.ireturn, 1) := by decide +kernel
set_option maxRecDepth 20000 in
theorem ggX2_countStruck_X6_at : GoodIn wsX2_countStruck wsX6_at := goodIn_r _ [4] (by decide +kernel) (by decide +kernel)
set_option maxRecDepth 20000 in
theorem gX2_countStruck_X6_at_n42 : GoodIn wsX2_countStruck (wsX6_at) := ggX2_countStruck_X6_at
theorem dX2_countStruck_0 : decode cX2_countStruck 0 = .ok (.aload_n 0, 1) := by decide +kernel
theorem dX2_countStruck_1 : decode cX2_countStruck 1 = .ok (.getfield 15, 3) := by decide +kernel
theorem dX2_countStruck_4 : decode cX2_countStruck 4 = .ok (.iconst 0, 1) := by decide +kernel
theorem dX2_countStruck_5 : decode cX2_countStruck 5 = .ok (.invokestatic 42, 3) := by decide +kernel
theorem dX2_countStruck_8 : decode cX2_countStruck 8 = .ok (.ireturn, 1) := by decide +kernel
set_option maxRecDepth 20000 in
theorem ggX2_struck_X4_worseThan : GoodIn wsX2_struck wsX4_worseThan := goodIn_r _ [6, 7, 8, 9, 10, 19, 20, 21, 22, 23] (by decide +kernel) (by decide +kernel)
set_option maxRecDepth 20000 in
theorem gX2_struck_X4_worseThan_n32 : GoodIn wsX2_struck (wsX4_worseThan) := ggX2_struck_X4_worseThan
set_option maxRecDepth 20000 in
theorem ggX2_struck_X6_has : GoodIn wsX2_struck wsX6_has := goodIn_r _ [12] (by decide +kernel) (by decide +kernel)
set_option maxRecDepth 20000 in
theorem gX2_struck_X6_has_n46 : GoodIn wsX2_struck (wsX6_has) := ggX2_struck_X6_has
set_option maxRecDepth 20000 in
theorem ggX2_struck_X6_at : GoodIn wsX2_struck wsX6_at := goodIn_r _ [10] (by decide +kernel) (by decide +kernel)
set_option maxRecDepth 20000 in
theorem gX2_struck_X6_at_n42 : GoodIn wsX2_struck (wsX6_at) := ggX2_struck_X6_at
theorem dX2_struck_0 : decode cX2_struck 0 = .ok (.iconst 0, 1) := by decide +kernel
theorem dX2_struck_1 : decode cX2_struck 1 = .ok (.istore_n 2, 1) := by decide +kernel
theorem dX2_struck_2 : decode cX2_struck 2 = .ok (.iconst 0, 1) := by decide +kernel
theorem dX2_struck_3 : decode cX2_struck 3 = .ok (.istore_n 3, 1) := by decide +kernel
theorem dX2_struck_4 : decode cX2_struck 4 = .ok (.iload_n 3, 1) := by decide +kernel
theorem dX2_struck_5 : decode cX2_struck 5 = .ok (.bipush 10, 2) := by decide +kernel
theorem dX2_struck_7 : decode cX2_struck 7 = .ok (.if_icmp .ge 80, 3) := by decide +kernel
theorem dX2_struck_10 : decode cX2_struck 10 = .ok (.iconst 0, 1) := by decide +kernel
theorem dX2_struck_11 : decode cX2_struck 11 = .ok (.istore 4, 2) := by decide +kernel
theorem dX2_struck_13 : decode cX2_struck 13 = .ok (.iload 4, 2) := by decide +kernel
theorem dX2_struck_15 : decode cX2_struck 15 = .ok (.bipush 10, 2) := by decide +kernel
theorem dX2_struck_17 : decode cX2_struck 17 = .ok (.if_icmp .ge 64, 3) := by decide +kernel
theorem dX2_struck_20 : decode cX2_struck 20 = .ok (.aload_n 0, 1) := by decide +kernel
theorem dX2_struck_21 : decode cX2_struck 21 = .ok (.getfield 28, 3) := by decide +kernel
theorem dX2_struck_24 : decode cX2_struck 24 = .ok (.iload_n 3, 1) := by decide +kernel
theorem dX2_struck_25 : decode cX2_struck 25 = .ok (.invokevirtual 32, 3) := by decide +kernel
theorem dX2_struck_28 : decode cX2_struck 28 = .ok (.iload 4, 2) := by decide +kernel
theorem dX2_struck_30 : decode cX2_struck 30 = .ok (.invokestatic 46, 3) := by decide +kernel
theorem dX2_struck_33 : decode cX2_struck 33 = .ok (.ifCond .eq 42, 3) := by decide +kernel
theorem dX2_struck_36 : decode cX2_struck 36 = .ok (.aload_n 0, 1) := by decide +kernel
theorem dX2_struck_37 : decode cX2_struck 37 = .ok (.getfield 18, 3) := by decide +kernel
theorem dX2_struck_40 : decode cX2_struck 40 = .ok (.iload_n 3, 1) := by decide +kernel
theorem dX2_struck_41 : decode cX2_struck 41 = .ok (.invokestatic 42, 3) := by decide +kernel
theorem dX2_struck_44 : decode cX2_struck 44 = .ok (.aload_n 0, 1) := by decide +kernel
theorem dX2_struck_45 : decode cX2_struck 45 = .ok (.getfield 18, 3) := by decide +kernel
theorem dX2_struck_48 : decode cX2_struck 48 = .ok (.iload 4, 2) := by decide +kernel
theorem dX2_struck_50 : decode cX2_struck 50 = .ok (.invokestatic 42, 3) := by decide +kernel
theorem dX2_struck_53 : decode cX2_struck 53 = .ok (.if_icmp .ge 6, 3) := by decide +kernel
theorem dX2_struck_56 : decode cX2_struck 56 = .ok (.goto 19, 3) := by decide +kernel
theorem dX2_struck_59 : decode cX2_struck 59 = .ok (.iload_n 2, 1) := by decide +kernel
theorem dX2_struck_60 : decode cX2_struck 60 = .ok (.iload_n 1, 1) := by decide +kernel
theorem dX2_struck_61 : decode cX2_struck 61 = .ok (.if_icmp .ne 11, 3) := by decide +kernel
theorem dX2_struck_64 : decode cX2_struck 64 = .ok (.bipush 10, 2) := by decide +kernel
theorem dX2_struck_66 : decode cX2_struck 66 = .ok (.iload_n 3, 1) := by decide +kernel
theorem dX2_struck_67 : decode cX2_struck 67 = .ok (.imul, 1) := by decide +kernel
theorem dX2_struck_68 : decode cX2_struck 68 = .ok (.iload 4, 2) := by decide +kernel
theorem dX2_struck_70 : decode cX2_struck 70 = .ok (.iadd, 1) := by decide +kernel
theorem dX2_struck_71 : decode cX2_struck 71 = .ok (.ireturn, 1) := by decide +kernel
theorem dX2_struck_72 : decode cX2_struck 72 = .ok (.iinc 2 1, 3) := by decide +kernel
theorem dX2_struck_75 : decode cX2_struck 75 = .ok (.iinc 4 1, 3) := by decide +kernel
theorem dX2_struck_78 : decode cX2_struck 78 = .ok (.goto (-65), 3) := by decide +kernel
theorem dX2_struck_81 : decode cX2_struck 81 = .ok (.iinc 3 1, 3) := by decide +kernel
theorem dX2_struck_84 : decode cX2_struck 84 = .ok (.goto (-80), 3) := by decide +kernel
theorem dX2_struck_87 : decode cX2_struck 87 = .ok (.bipush (-6), 2) := by decide +kernel
theorem dX2_struck_89 : decode cX2_struck 89 = .ok (.ireturn, 1) := by decide +kernel
theorem dX3_init_0 : decode cX3_init 0 = .ok (.aload_n 0, 1) := by decide +kernel
theorem dX3_init_1 : decode cX3_init 1 = .ok (.invokespecial 3, 3) := by decide +kernel
theorem dX3_init_4 : decode cX3_init 4 = .ok (.aload_n 0, 1) := by decide +kernel
theorem dX3_init_5 : decode cX3_init 5 = .ok (.bipush 40, 2) := by decide +kernel
theorem dX3_init_7 : decode cX3_init 7 = .ok (.newarray .int, 2) := by decide +kernel
theorem dX3_init_9 : decode cX3_init 9 = .ok (.putfield 11, 3) := by decide +kernel
theorem dX3_init_12 : decode cX3_init 12 = .ok (.aload_n 0, 1) := by decide +kernel
theorem dX3_init_13 : decode cX3_init 13 = .ok (.iconst 0, 1) := by decide +kernel
theorem dX3_init_14 : decode cX3_init 14 = .ok (.putfield 15, 3) := by decide +kernel
theorem dX3_init_17 : decode cX3_init 17 = .ok (.return_, 1) := by decide +kernel
theorem dX3_size_0 : decode cX3_size 0 = .ok (.aload_n 0, 1) := by decide +kernel
theorem dX3_size_1 : decode cX3_size 1 = .ok (.getfield 15, 3) := by decide +kernel
theorem dX3_size_4 : decode cX3_size 4 = .ok (.ireturn, 1) := by decide +kernel
theorem dX3_isFull_0 : decode cX3_isFull 0 = .ok (.aload_n 0, 1) := by decide +kernel
theorem dX3_isFull_1 : decode cX3_isFull 1 = .ok (.getfield 15, 3) := by decide +kernel
theorem dX3_isFull_4 : decode cX3_isFull 4 = .ok (.bipush 40, 2) := by decide +kernel
theorem dX3_isFull_6 : decode cX3_isFull 6 = .ok (.if_icmp .lt 7, 3) := by decide +kernel
theorem dX3_isFull_9 : decode cX3_isFull 9 = .ok (.iconst 1, 1) := by decide +kernel
theorem dX3_isFull_10 : decode cX3_isFull 10 = .ok (.goto 4, 3) := by decide +kernel
theorem dX3_isFull_13 : decode cX3_isFull 13 = .ok (.iconst 0, 1) := by decide +kernel
theorem dX3_isFull_14 : decode cX3_isFull 14 = .ok (.ireturn, 1) := by decide +kernel
theorem dX3_put_0 : decode cX3_put 0 = .ok (.aload_n 0, 1) := by decide +kernel
theorem dX3_put_1 : decode cX3_put 1 = .ok (.getfield 15, 3) := by decide +kernel
theorem dX3_put_4 : decode cX3_put 4 = .ok (.ifCond .lt 15, 3) := by decide +kernel
theorem dX3_put_7 : decode cX3_put 7 = .ok (.aload_n 0, 1) := by decide +kernel
theorem dX3_put_8 : decode cX3_put 8 = .ok (.getfield 15, 3) := by decide +kernel
theorem dX3_put_11 : decode cX3_put 11 = .ok (.aload_n 0, 1) := by decide +kernel
theorem dX3_put_12 : decode cX3_put 12 = .ok (.getfield 11, 3) := by decide +kernel
theorem dX3_put_15 : decode cX3_put 15 = .ok (.arraylength, 1) := by decide +kernel
theorem dX3_put_16 : decode cX3_put 16 = .ok (.if_icmp .lt 4, 3) := by decide +kernel
theorem dX3_put_19 : decode cX3_put 19 = .ok (.return_, 1) := by decide +kernel
theorem dX3_put_20 : decode cX3_put 20 = .ok (.aload_n 0, 1) := by decide +kernel
theorem dX3_put_21 : decode cX3_put 21 = .ok (.getfield 11, 3) := by decide +kernel
theorem dX3_put_24 : decode cX3_put 24 = .ok (.aload_n 0, 1) := by decide +kernel
theorem dX3_put_25 : decode cX3_put 25 = .ok (.getfield 15, 3) := by decide +kernel
theorem dX3_put_28 : decode cX3_put 28 = .ok (.iload_n 1, 1) := by decide +kernel
theorem dX3_put_29 : decode cX3_put 29 = .ok (.iastore, 1) := by decide +kernel
theorem dX3_put_30 : decode cX3_put 30 = .ok (.aload_n 0, 1) := by decide +kernel
theorem dX3_put_31 : decode cX3_put 31 = .ok (.dup, 1) := by decide +kernel
theorem dX3_put_32 : decode cX3_put 32 = .ok (.getfield 15, 3) := by decide +kernel
theorem dX3_put_35 : decode cX3_put 35 = .ok (.iconst 1, 1) := by decide +kernel
theorem dX3_put_36 : decode cX3_put 36 = .ok (.iadd, 1) := by decide +kernel
theorem dX3_put_37 : decode cX3_put 37 = .ok (.putfield 15, 3) := by decide +kernel
theorem dX3_put_40 : decode cX3_put 40 = .ok (.return_, 1) := by decide +kernel
theorem dX3_clear_0 : decode cX3_clear 0 = .ok (.aload_n 0, 1) := by decide +kernel
theorem dX3_clear_1 : decode cX3_clear 1 = .ok (.iconst 0, 1) := by decide +kernel
theorem dX3_clear_2 : decode cX3_clear 2 = .ok (.putfield 15, 3) := by decide +kernel
theorem dX3_clear_5 : decode cX3_clear 5 = .ok (.return_, 1) := by decide +kernel
set_option maxRecDepth 20000 in
theorem ggX3_signAt_X6_at : GoodIn wsX3_signAt wsX6_at := goodIn_r _ [5] (by decide +kernel) (by decide +kernel)
set_option maxRecDepth 20000 in
theorem gX3_signAt_X6_at_n19 : GoodIn wsX3_signAt (wsX6_at) := ggX3_signAt_X6_at
theorem dX3_signAt_0 : decode cX3_signAt 0 = .ok (.iload_n 1, 1) := by decide +kernel
theorem dX3_signAt_1 : decode cX3_signAt 1 = .ok (.aload_n 0, 1) := by decide +kernel
theorem dX3_signAt_2 : decode cX3_signAt 2 = .ok (.getfield 15, 3) := by decide +kernel
theorem dX3_signAt_5 : decode cX3_signAt 5 = .ok (.if_icmp .ge 14, 3) := by decide +kernel
theorem dX3_signAt_8 : decode cX3_signAt 8 = .ok (.aload_n 0, 1) := by decide +kernel
theorem dX3_signAt_9 : decode cX3_signAt 9 = .ok (.getfield 11, 3) := by decide +kernel
theorem dX3_signAt_12 : decode cX3_signAt 12 = .ok (.iload_n 1, 1) := by decide +kernel
theorem dX3_signAt_13 : decode cX3_signAt 13 = .ok (.invokestatic 19, 3) := by decide +kernel
theorem dX3_signAt_16 : decode cX3_signAt 16 = .ok (.goto 4, 3) := by decide +kernel
theorem dX3_signAt_19 : decode cX3_signAt 19 = .ok (.iconst 0, 1) := by decide +kernel
theorem dX3_signAt_20 : decode cX3_signAt 20 = .ok (.ireturn, 1) := by decide +kernel
set_option maxRecDepth 20000 in
theorem ggX3_insultAt_X3_signAt : GoodIn wsX3_insultAt wsX3_signAt := goodIn_r _ [5, 6, 7, 8, 9, 10, 16, 17] (by decide +kernel) (by decide +kernel)
set_option maxRecDepth 20000 in
theorem gX3_insultAt_X3_signAt : GoodIn wsX3_insultAt (wsV RX3 23 RX3 yX3_signAt wsX3_signAt) := goodIn_app (goodIn_of _ (by decide +kernel)) ggX3_insultAt_X3_signAt
set_option maxRecDepth 20000 in
theorem ggX3_insultAt_X6_isInsult : GoodIn wsX3_insultAt wsX6_isInsult := goodIn_r _ [12, 13, 14, 9, 15] (by decide +kernel) (by decide +kernel)
set_option maxRecDepth 20000 in
theorem gX3_insultAt_X6_isInsult_n27 : GoodIn wsX3_insultAt (wsX6_isInsult) := ggX3_insultAt_X6_isInsult
theorem dX3_insultAt_0 : decode cX3_insultAt 0 = .ok (.aload_n 0, 1) := by decide +kernel
theorem dX3_insultAt_1 : decode cX3_insultAt 1 = .ok (.iload_n 1, 1) := by decide +kernel
theorem dX3_insultAt_2 : decode cX3_insultAt 2 = .ok (.invokevirtual 23, 3) := by decide +kernel
theorem dX3_insultAt_5 : decode cX3_insultAt 5 = .ok (.bipush 97, 2) := by decide +kernel
theorem dX3_insultAt_7 : decode cX3_insultAt 7 = .ok (.isub, 1) := by decide +kernel
theorem dX3_insultAt_8 : decode cX3_insultAt 8 = .ok (.istore_n 2, 1) := by decide +kernel
theorem dX3_insultAt_9 : decode cX3_insultAt 9 = .ok (.iload_n 2, 1) := by decide +kernel
theorem dX3_insultAt_10 : decode cX3_insultAt 10 = .ok (.invokestatic 27, 3) := by decide +kernel
theorem dX3_insultAt_13 : decode cX3_insultAt 13 = .ok (.ifCond .eq 7, 3) := by decide +kernel
theorem dX3_insultAt_16 : decode cX3_insultAt 16 = .ok (.iload_n 2, 1) := by decide +kernel
theorem dX3_insultAt_17 : decode cX3_insultAt 17 = .ok (.goto 4, 3) := by decide +kernel
theorem dX3_insultAt_20 : decode cX3_insultAt 20 = .ok (.iconst (-1), 1) := by decide +kernel
theorem dX3_insultAt_21 : decode cX3_insultAt 21 = .ok (.ireturn, 1) := by decide +kernel
set_option maxRecDepth 20000 in
theorem ggX3_manAt_X3_signAt : GoodIn wsX3_manAt wsX3_signAt := goodIn_r _ [5, 6, 7, 8, 9, 10, 16, 17] (by decide +kernel) (by decide +kernel)
set_option maxRecDepth 20000 in
theorem gX3_manAt_X3_signAt : GoodIn wsX3_manAt (wsV RX3 23 RX3 yX3_signAt wsX3_signAt) := goodIn_app (goodIn_of _ (by decide +kernel)) ggX3_manAt_X3_signAt
set_option maxRecDepth 20000 in
theorem ggX3_manAt_X6_isMan : GoodIn wsX3_manAt wsX6_isMan := goodIn_r _ [12, 13, 14, 9, 15] (by decide +kernel) (by decide +kernel)
set_option maxRecDepth 20000 in
theorem gX3_manAt_X6_isMan_n31 : GoodIn wsX3_manAt (wsX6_isMan) := ggX3_manAt_X6_isMan
theorem dX3_manAt_0 : decode cX3_manAt 0 = .ok (.aload_n 0, 1) := by decide +kernel
theorem dX3_manAt_1 : decode cX3_manAt 1 = .ok (.iload_n 1, 1) := by decide +kernel
theorem dX3_manAt_2 : decode cX3_manAt 2 = .ok (.invokevirtual 23, 3) := by decide +kernel
theorem dX3_manAt_5 : decode cX3_manAt 5 = .ok (.bipush 48, 2) := by decide +kernel
theorem dX3_manAt_7 : decode cX3_manAt 7 = .ok (.isub, 1) := by decide +kernel
theorem dX3_manAt_8 : decode cX3_manAt 8 = .ok (.istore_n 2, 1) := by decide +kernel
theorem dX3_manAt_9 : decode cX3_manAt 9 = .ok (.iload_n 2, 1) := by decide +kernel
theorem dX3_manAt_10 : decode cX3_manAt 10 = .ok (.invokestatic 31, 3) := by decide +kernel
theorem dX3_manAt_13 : decode cX3_manAt 13 = .ok (.ifCond .eq 7, 3) := by decide +kernel
theorem dX3_manAt_16 : decode cX3_manAt 16 = .ok (.iload_n 2, 1) := by decide +kernel
theorem dX3_manAt_17 : decode cX3_manAt 17 = .ok (.goto 4, 3) := by decide +kernel
theorem dX3_manAt_20 : decode cX3_manAt 20 = .ok (.iconst (-1), 1) := by decide +kernel
theorem dX3_manAt_21 : decode cX3_manAt 21 = .ok (.ireturn, 1) := by decide +kernel
set_option maxRecDepth 20000 in
theorem ggX3_faultAsSteps_X3_standsInSteps : GoodIn wsX3_faultAsSteps wsX3_standsInSteps := goodIn_r _ [6, 7, 8, 9, 5, 10, 11, 12, 13, 14, 1, 15, 16, 17, 18, 19, 20, 21, 22, 23, 24, 25] (by decide +kernel) (by decide +kernel)
set_option maxRecDepth 20000 in
theorem gX3_faultAsSteps_X3_standsInSteps : GoodIn wsX3_faultAsSteps (wsV RX3 34 RX3 yX3_standsInSteps wsX3_standsInSteps) := goodIn_app (goodIn_of _ (by decide +kernel)) ggX3_faultAsSteps_X3_standsInSteps
set_option maxRecDepth 20000 in
theorem ggX3_faultAsSteps_X3_signAt : GoodIn wsX3_faultAsSteps wsX3_signAt := goodIn_r _ [14, 1, 15, 16, 17, 18, 24, 25] (by decide +kernel) (by decide +kernel)
set_option maxRecDepth 20000 in
theorem gX3_faultAsSteps_X3_signAt : GoodIn wsX3_faultAsSteps (wsV RX3 23 RX3 yX3_signAt wsX3_signAt) := goodIn_app (goodIn_of _ (by decide +kernel)) ggX3_faultAsSteps_X3_signAt
theorem dX3_faultAsSteps_0 : decode cX3_faultAsSteps 0 = .ok (.iconst 0, 1) := by decide +kernel
theorem dX3_faultAsSteps_1 : decode cX3_faultAsSteps 1 = .ok (.istore_n 1, 1) := by decide +kernel
theorem dX3_faultAsSteps_2 : decode cX3_faultAsSteps 2 = .ok (.iload_n 1, 1) := by decide +kernel
theorem dX3_faultAsSteps_3 : decode cX3_faultAsSteps 3 = .ok (.aload_n 0, 1) := by decide +kernel
theorem dX3_faultAsSteps_4 : decode cX3_faultAsSteps 4 = .ok (.getfield 15, 3) := by decide +kernel
theorem dX3_faultAsSteps_7 : decode cX3_faultAsSteps 7 = .ok (.if_icmp .ge 19, 3) := by decide +kernel
theorem dX3_faultAsSteps_10 : decode cX3_faultAsSteps 10 = .ok (.aload_n 0, 1) := by decide +kernel
theorem dX3_faultAsSteps_11 : decode cX3_faultAsSteps 11 = .ok (.iload_n 1, 1) := by decide +kernel
theorem dX3_faultAsSteps_12 : decode cX3_faultAsSteps 12 = .ok (.invokevirtual 34, 3) := by decide +kernel
theorem dX3_faultAsSteps_15 : decode cX3_faultAsSteps 15 = .ok (.ifCond .ne 5, 3) := by decide +kernel
theorem dX3_faultAsSteps_18 : decode cX3_faultAsSteps 18 = .ok (.iload_n 1, 1) := by decide +kernel
theorem dX3_faultAsSteps_19 : decode cX3_faultAsSteps 19 = .ok (.ireturn, 1) := by decide +kernel
theorem dX3_faultAsSteps_20 : decode cX3_faultAsSteps 20 = .ok (.iinc 1 1, 3) := by decide +kernel
theorem dX3_faultAsSteps_23 : decode cX3_faultAsSteps 23 = .ok (.goto (-21), 3) := by decide +kernel
theorem dX3_faultAsSteps_26 : decode cX3_faultAsSteps 26 = .ok (.aload_n 0, 1) := by decide +kernel
theorem dX3_faultAsSteps_27 : decode cX3_faultAsSteps 27 = .ok (.getfield 15, 3) := by decide +kernel
theorem dX3_faultAsSteps_30 : decode cX3_faultAsSteps 30 = .ok (.iconst 2, 1) := by decide +kernel
theorem dX3_faultAsSteps_31 : decode cX3_faultAsSteps 31 = .ok (.irem, 1) := by decide +kernel
theorem dX3_faultAsSteps_32 : decode cX3_faultAsSteps 32 = .ok (.iconst 1, 1) := by decide +kernel
theorem dX3_faultAsSteps_33 : decode cX3_faultAsSteps 33 = .ok (.if_icmp .ne 22, 3) := by decide +kernel
theorem dX3_faultAsSteps_36 : decode cX3_faultAsSteps 36 = .ok (.aload_n 0, 1) := by decide +kernel
theorem dX3_faultAsSteps_37 : decode cX3_faultAsSteps 37 = .ok (.aload_n 0, 1) := by decide +kernel
theorem dX3_faultAsSteps_38 : decode cX3_faultAsSteps 38 = .ok (.getfield 15, 3) := by decide +kernel
theorem dX3_faultAsSteps_41 : decode cX3_faultAsSteps 41 = .ok (.iconst 2, 1) := by decide +kernel
theorem dX3_faultAsSteps_42 : decode cX3_faultAsSteps 42 = .ok (.isub, 1) := by decide +kernel
theorem dX3_faultAsSteps_43 : decode cX3_faultAsSteps 43 = .ok (.invokevirtual 23, 3) := by decide +kernel
theorem dX3_faultAsSteps_46 : decode cX3_faultAsSteps 46 = .ok (.bipush 62, 2) := by decide +kernel
theorem dX3_faultAsSteps_48 : decode cX3_faultAsSteps 48 = .ok (.if_icmp .ne 7, 3) := by decide +kernel
theorem dX3_faultAsSteps_51 : decode cX3_faultAsSteps 51 = .ok (.iconst 1, 1) := by decide +kernel
theorem dX3_faultAsSteps_52 : decode cX3_faultAsSteps 52 = .ok (.goto 4, 3) := by decide +kernel
theorem dX3_faultAsSteps_55 : decode cX3_faultAsSteps 55 = .ok (.iconst 0, 1) := by decide +kernel
theorem dX3_faultAsSteps_56 : decode cX3_faultAsSteps 56 = .ok (.istore_n 1, 1) := by decide +kernel
theorem dX3_faultAsSteps_57 : decode cX3_faultAsSteps 57 = .ok (.iload_n 1, 1) := by decide +kernel
theorem dX3_faultAsSteps_58 : decode cX3_faultAsSteps 58 = .ok (.ifCond .eq 8, 3) := by decide +kernel
theorem dX3_faultAsSteps_61 : decode cX3_faultAsSteps 61 = .ok (.bipush (-6), 2) := by decide +kernel
theorem dX3_faultAsSteps_63 : decode cX3_faultAsSteps 63 = .ok (.goto 7, 3) := by decide +kernel
theorem dX3_faultAsSteps_66 : decode cX3_faultAsSteps 66 = .ok (.aload_n 0, 1) := by decide +kernel
theorem dX3_faultAsSteps_67 : decode cX3_faultAsSteps 67 = .ok (.getfield 15, 3) := by decide +kernel
theorem dX3_faultAsSteps_70 : decode cX3_faultAsSteps 70 = .ok (.ireturn, 1) := by decide +kernel
set_option maxRecDepth 20000 in
theorem ggX3_standsInSteps_X3_insultAt : GoodIn wsX3_standsInSteps wsX3_insultAt := goodIn_r _ [5, 6, 7, 8, 4, 9, 10, 11, 12, 13, 14, 15, 16, 17, 18, 19, 20, 21] (by decide +kernel) (by decide +kernel)
set_option maxRecDepth 20000 in
theorem gX3_standsInSteps_X3_insultAt : GoodIn wsX3_standsInSteps (wsV RX3 37 RX3 yX3_insultAt wsX3_insultAt) := goodIn_app (goodIn_of _ (by decide +kernel)) ggX3_standsInSteps_X3_insultAt
set_option maxRecDepth 20000 in
theorem ggX3_standsInSteps_X3_signAt : GoodIn wsX3_standsInSteps wsX3_signAt := goodIn_r _ [9, 10, 11, 12, 13, 14, 20, 21] (by decide +kernel) (by decide +kernel)
set_option maxRecDepth 20000 in
theorem gX3_standsInSteps_X3_signAt : GoodIn wsX3_standsInSteps (wsV RX3 23 RX3 yX3_signAt wsX3_signAt) := goodIn_app (goodIn_of _ (by decide +kernel)) ggX3_standsInSteps_X3_signAt
theorem dX3_standsInSteps_0 : decode cX3_standsInSteps 0 = .ok (.iload_n 1, 1) := by decide +kernel
theorem dX3_standsInSteps_1 : decode cX3_standsInSteps 1 = .ok (.iconst 2, 1) := by decide +kernel
theorem dX3_standsInSteps_2 : decode cX3_standsInSteps 2 = .ok (.irem, 1) := by decide +kernel
theorem dX3_standsInSteps_3 : decode cX3_standsInSteps 3 = .ok (.ifCond .ne 52, 3) := by decide +kernel
theorem dX3_standsInSteps_6 : decode cX3_standsInSteps 6 = .ok (.aload_n 0, 1) := by decide +kernel
theorem dX3_standsInSteps_7 : decode cX3_standsInSteps 7 = .ok (.iload_n 1, 1) := by decide +kernel
theorem dX3_standsInSteps_8 : decode cX3_standsInSteps 8 = .ok (.invokevirtual 37, 3) := by decide +kernel
theorem dX3_standsInSteps_11 : decode cX3_standsInSteps 11 = .ok (.istore_n 2, 1) := by decide +kernel
theorem dX3_standsInSteps_12 : decode cX3_standsInSteps 12 = .ok (.aload_n 0, 1) := by decide +kernel
theorem dX3_standsInSteps_13 : decode cX3_standsInSteps 13 = .ok (.iload_n 1, 1) := by decide +kernel
theorem dX3_standsInSteps_14 : decode cX3_standsInSteps 14 = .ok (.iconst 1, 1) := by decide +kernel
theorem dX3_standsInSteps_15 : decode cX3_standsInSteps 15 = .ok (.isub, 1) := by decide +kernel
theorem dX3_standsInSteps_16 : decode cX3_standsInSteps 16 = .ok (.invokevirtual 23, 3) := by decide +kernel
theorem dX3_standsInSteps_19 : decode cX3_standsInSteps 19 = .ok (.bipush 62, 2) := by decide +kernel
theorem dX3_standsInSteps_21 : decode cX3_standsInSteps 21 = .ok (.if_icmp .ne 7, 3) := by decide +kernel
theorem dX3_standsInSteps_24 : decode cX3_standsInSteps 24 = .ok (.iconst 1, 1) := by decide +kernel
theorem dX3_standsInSteps_25 : decode cX3_standsInSteps 25 = .ok (.goto 4, 3) := by decide +kernel
theorem dX3_standsInSteps_28 : decode cX3_standsInSteps 28 = .ok (.iconst 0, 1) := by decide +kernel
theorem dX3_standsInSteps_29 : decode cX3_standsInSteps 29 = .ok (.istore_n 3, 1) := by decide +kernel
theorem dX3_standsInSteps_30 : decode cX3_standsInSteps 30 = .ok (.iload_n 2, 1) := by decide +kernel
theorem dX3_standsInSteps_31 : decode cX3_standsInSteps 31 = .ok (.ifCond .lt 22, 3) := by decide +kernel
theorem dX3_standsInSteps_34 : decode cX3_standsInSteps 34 = .ok (.iload_n 3, 1) := by decide +kernel
theorem dX3_standsInSteps_35 : decode cX3_standsInSteps 35 = .ok (.ifCond .eq 14, 3) := by decide +kernel
theorem dX3_standsInSteps_38 : decode cX3_standsInSteps 38 = .ok (.aload_n 0, 1) := by decide +kernel
theorem dX3_standsInSteps_39 : decode cX3_standsInSteps 39 = .ok (.iload_n 1, 1) := by decide +kernel
theorem dX3_standsInSteps_40 : decode cX3_standsInSteps 40 = .ok (.iconst 2, 1) := by decide +kernel
theorem dX3_standsInSteps_41 : decode cX3_standsInSteps 41 = .ok (.isub, 1) := by decide +kernel
theorem dX3_standsInSteps_42 : decode cX3_standsInSteps 42 = .ok (.invokevirtual 37, 3) := by decide +kernel
theorem dX3_standsInSteps_45 : decode cX3_standsInSteps 45 = .ok (.iload_n 2, 1) := by decide +kernel
theorem dX3_standsInSteps_46 : decode cX3_standsInSteps 46 = .ok (.if_icmp .eq 7, 3) := by decide +kernel
theorem dX3_standsInSteps_49 : decode cX3_standsInSteps 49 = .ok (.iconst 1, 1) := by decide +kernel
theorem dX3_standsInSteps_50 : decode cX3_standsInSteps 50 = .ok (.goto 4, 3) := by decide +kernel
theorem dX3_standsInSteps_53 : decode cX3_standsInSteps 53 = .ok (.iconst 0, 1) := by decide +kernel
theorem dX3_standsInSteps_54 : decode cX3_standsInSteps 54 = .ok (.ireturn, 1) := by decide +kernel
theorem dX3_standsInSteps_55 : decode cX3_standsInSteps 55 = .ok (.aload_n 0, 1) := by decide +kernel
theorem dX3_standsInSteps_56 : decode cX3_standsInSteps 56 = .ok (.iload_n 1, 1) := by decide +kernel
theorem dX3_standsInSteps_57 : decode cX3_standsInSteps 57 = .ok (.invokevirtual 23, 3) := by decide +kernel
theorem dX3_standsInSteps_60 : decode cX3_standsInSteps 60 = .ok (.bipush 62, 2) := by decide +kernel
theorem dX3_standsInSteps_62 : decode cX3_standsInSteps 62 = .ok (.if_icmp .ne 5, 3) := by decide +kernel
theorem dX3_standsInSteps_65 : decode cX3_standsInSteps 65 = .ok (.iconst 1, 1) := by decide +kernel
theorem dX3_standsInSteps_66 : decode cX3_standsInSteps 66 = .ok (.ireturn, 1) := by decide +kernel
theorem dX3_standsInSteps_67 : decode cX3_standsInSteps 67 = .ok (.aload_n 0, 1) := by decide +kernel
theorem dX3_standsInSteps_68 : decode cX3_standsInSteps 68 = .ok (.iload_n 1, 1) := by decide +kernel
theorem dX3_standsInSteps_69 : decode cX3_standsInSteps 69 = .ok (.invokevirtual 23, 3) := by decide +kernel
theorem dX3_standsInSteps_72 : decode cX3_standsInSteps 72 = .ok (.bipush 44, 2) := by decide +kernel
theorem dX3_standsInSteps_74 : decode cX3_standsInSteps 74 = .ok (.if_icmp .ne 19, 3) := by decide +kernel
theorem dX3_standsInSteps_77 : decode cX3_standsInSteps 77 = .ok (.aload_n 0, 1) := by decide +kernel
theorem dX3_standsInSteps_78 : decode cX3_standsInSteps 78 = .ok (.iload_n 1, 1) := by decide +kernel
theorem dX3_standsInSteps_79 : decode cX3_standsInSteps 79 = .ok (.iconst 2, 1) := by decide +kernel
theorem dX3_standsInSteps_80 : decode cX3_standsInSteps 80 = .ok (.isub, 1) := by decide +kernel
theorem dX3_standsInSteps_81 : decode cX3_standsInSteps 81 = .ok (.invokevirtual 23, 3) := by decide +kernel
theorem dX3_standsInSteps_84 : decode cX3_standsInSteps 84 = .ok (.bipush 62, 2) := by decide +kernel
theorem dX3_standsInSteps_86 : decode cX3_standsInSteps 86 = .ok (.if_icmp .ne 7, 3) := by decide +kernel
theorem dX3_standsInSteps_89 : decode cX3_standsInSteps 89 = .ok (.iconst 1, 1) := by decide +kernel
theorem dX3_standsInSteps_90 : decode cX3_standsInSteps 90 = .ok (.goto 4, 3) := by decide +kernel
theorem dX3_standsInSteps_93 : decode cX3_standsInSteps 93 = .ok (.iconst 0, 1) := by decide +kernel
theorem dX3_standsInSteps_94 : decode cX3_standsInSteps 94 = .ok (.ireturn, 1) := by decide +kernel
set_option maxRecDepth 20000 in
theorem ggX3_faultAsQuarrel_X3_standsInQuarrel : GoodIn wsX3_faultAsQuarrel wsX3_standsInQuarrel := goodIn_r _ [6, 7, 8, 9, 5, 10, 11, 12, 13, 14, 1, 15, 16, 17, 18, 19, 20, 21, 22, 23, 24, 25, 26, 27, 28, 29, 30, 31] (by decide +kernel) (by decide +kernel)
set_option maxRecDepth 20000 in
theorem gX3_faultAsQuarrel_X3_standsInQuarrel : GoodIn wsX3_faultAsQuarrel (wsV RX3 40 RX3 yX3_standsInQuarrel wsX3_standsInQuarrel) := goodIn_app (goodIn_of _ (by decide +kernel)) ggX3_faultAsQuarrel_X3_standsInQuarrel
theorem dX3_faultAsQuarrel_0 : decode cX3_faultAsQuarrel 0 = .ok (.iconst 0, 1) := by decide +kernel
theorem dX3_faultAsQuarrel_1 : decode cX3_faultAsQuarrel 1 = .ok (.istore_n 1, 1) := by decide +kernel
theorem dX3_faultAsQuarrel_2 : decode cX3_faultAsQuarrel 2 = .ok (.iload_n 1, 1) := by decide +kernel
theorem dX3_faultAsQuarrel_3 : decode cX3_faultAsQuarrel 3 = .ok (.aload_n 0, 1) := by decide +kernel
theorem dX3_faultAsQuarrel_4 : decode cX3_faultAsQuarrel 4 = .ok (.getfield 15, 3) := by decide +kernel
theorem dX3_faultAsQuarrel_7 : decode cX3_faultAsQuarrel 7 = .ok (.if_icmp .ge 19, 3) := by decide +kernel
theorem dX3_faultAsQuarrel_10 : decode cX3_faultAsQuarrel 10 = .ok (.aload_n 0, 1) := by decide +kernel
theorem dX3_faultAsQuarrel_11 : decode cX3_faultAsQuarrel 11 = .ok (.iload_n 1, 1) := by decide +kernel
theorem dX3_faultAsQuarrel_12 : decode cX3_faultAsQuarrel 12 = .ok (.invokevirtual 40, 3) := by decide +kernel
theorem dX3_faultAsQuarrel_15 : decode cX3_faultAsQuarrel 15 = .ok (.ifCond .ne 5, 3) := by decide +kernel
theorem dX3_faultAsQuarrel_18 : decode cX3_faultAsQuarrel 18 = .ok (.iload_n 1, 1) := by decide +kernel
theorem dX3_faultAsQuarrel_19 : decode cX3_faultAsQuarrel 19 = .ok (.ireturn, 1) := by decide +kernel
theorem dX3_faultAsQuarrel_20 : decode cX3_faultAsQuarrel 20 = .ok (.iinc 1 1, 3) := by decide +kernel
theorem dX3_faultAsQuarrel_23 : decode cX3_faultAsQuarrel 23 = .ok (.goto (-21), 3) := by decide +kernel
theorem dX3_faultAsQuarrel_26 : decode cX3_faultAsQuarrel 26 = .ok (.aload_n 0, 1) := by decide +kernel
theorem dX3_faultAsQuarrel_27 : decode cX3_faultAsQuarrel 27 = .ok (.getfield 15, 3) := by decide +kernel
theorem dX3_faultAsQuarrel_30 : decode cX3_faultAsQuarrel 30 = .ok (.ifCond .le 16, 3) := by decide +kernel
theorem dX3_faultAsQuarrel_33 : decode cX3_faultAsQuarrel 33 = .ok (.aload_n 0, 1) := by decide +kernel
theorem dX3_faultAsQuarrel_34 : decode cX3_faultAsQuarrel 34 = .ok (.getfield 15, 3) := by decide +kernel
theorem dX3_faultAsQuarrel_37 : decode cX3_faultAsQuarrel 37 = .ok (.iconst 2, 1) := by decide +kernel
theorem dX3_faultAsQuarrel_38 : decode cX3_faultAsQuarrel 38 = .ok (.irem, 1) := by decide +kernel
theorem dX3_faultAsQuarrel_39 : decode cX3_faultAsQuarrel 39 = .ok (.ifCond .ne 7, 3) := by decide +kernel
theorem dX3_faultAsQuarrel_42 : decode cX3_faultAsQuarrel 42 = .ok (.iconst 1, 1) := by decide +kernel
theorem dX3_faultAsQuarrel_43 : decode cX3_faultAsQuarrel 43 = .ok (.goto 4, 3) := by decide +kernel
theorem dX3_faultAsQuarrel_46 : decode cX3_faultAsQuarrel 46 = .ok (.iconst 0, 1) := by decide +kernel
theorem dX3_faultAsQuarrel_47 : decode cX3_faultAsQuarrel 47 = .ok (.istore_n 1, 1) := by decide +kernel
theorem dX3_faultAsQuarrel_48 : decode cX3_faultAsQuarrel 48 = .ok (.iload_n 1, 1) := by decide +kernel
theorem dX3_faultAsQuarrel_49 : decode cX3_faultAsQuarrel 49 = .ok (.ifCond .eq 8, 3) := by decide +kernel
theorem dX3_faultAsQuarrel_52 : decode cX3_faultAsQuarrel 52 = .ok (.bipush (-6), 2) := by decide +kernel
theorem dX3_faultAsQuarrel_54 : decode cX3_faultAsQuarrel 54 = .ok (.goto 7, 3) := by decide +kernel
theorem dX3_faultAsQuarrel_57 : decode cX3_faultAsQuarrel 57 = .ok (.aload_n 0, 1) := by decide +kernel
theorem dX3_faultAsQuarrel_58 : decode cX3_faultAsQuarrel 58 = .ok (.getfield 15, 3) := by decide +kernel
theorem dX3_faultAsQuarrel_61 : decode cX3_faultAsQuarrel 61 = .ok (.ireturn, 1) := by decide +kernel
set_option maxRecDepth 20000 in
theorem ggX3_standsInQuarrel_X3_insultAt : GoodIn wsX3_standsInQuarrel wsX3_insultAt := goodIn_r _ [5, 6, 7, 8, 4, 9, 10, 11, 12, 13, 14, 15, 16, 17, 18, 19, 26, 27] (by decide +kernel) (by decide +kernel)
set_option maxRecDepth 20000 in
theorem gX3_standsInQuarrel_X3_insultAt : GoodIn wsX3_standsInQuarrel (wsV RX3 37 RX3 yX3_insultAt wsX3_insultAt) := goodIn_app (goodIn_of _ (by decide +kernel)) ggX3_standsInQuarrel_X3_insultAt
set_option maxRecDepth 20000 in
theorem ggX3_standsInQuarrel_X3_manAt : GoodIn wsX3_standsInQuarrel wsX3_manAt := goodIn_r _ [23, 6, 7, 8, 4, 9, 10, 11, 12, 13, 14, 24, 25, 17, 18, 19, 26, 27] (by decide +kernel) (by decide +kernel)
set_option maxRecDepth 20000 in
theorem gX3_standsInQuarrel_X3_manAt : GoodIn wsX3_standsInQuarrel (wsV RX3 43 RX3 yX3_manAt wsX3_manAt) := goodIn_app (goodIn_of _ (by decide +kernel)) ggX3_standsInQuarrel_X3_manAt
theorem dX3_standsInQuarrel_0 : decode cX3_standsInQuarrel 0 = .ok (.iload_n 1, 1) := by decide +kernel
theorem dX3_standsInQuarrel_1 : decode cX3_standsInQuarrel 1 = .ok (.iconst 2, 1) := by decide +kernel
theorem dX3_standsInQuarrel_2 : decode cX3_standsInQuarrel 2 = .ok (.irem, 1) := by decide +kernel
theorem dX3_standsInQuarrel_3 : decode cX3_standsInQuarrel 3 = .ok (.iconst 1, 1) := by decide +kernel
theorem dX3_standsInQuarrel_4 : decode cX3_standsInQuarrel 4 = .ok (.if_icmp .ne 17, 3) := by decide +kernel
theorem dX3_standsInQuarrel_7 : decode cX3_standsInQuarrel 7 = .ok (.aload_n 0, 1) := by decide +kernel
theorem dX3_standsInQuarrel_8 : decode cX3_standsInQuarrel 8 = .ok (.iload_n 1, 1) := by decide +kernel
theorem dX3_standsInQuarrel_9 : decode cX3_standsInQuarrel 9 = .ok (.invokevirtual 37, 3) := by decide +kernel
theorem dX3_standsInQuarrel_12 : decode cX3_standsInQuarrel 12 = .ok (.ifCond .lt 7, 3) := by decide +kernel
theorem dX3_standsInQuarrel_15 : decode cX3_standsInQuarrel 15 = .ok (.iconst 1, 1) := by decide +kernel
theorem dX3_standsInQuarrel_16 : decode cX3_standsInQuarrel 16 = .ok (.goto 4, 3) := by decide +kernel
theorem dX3_standsInQuarrel_19 : decode cX3_standsInQuarrel 19 = .ok (.iconst 0, 1) := by decide +kernel
theorem dX3_standsInQuarrel_20 : decode cX3_standsInQuarrel 20 = .ok (.ireturn, 1) := by decide +kernel
theorem dX3_standsInQuarrel_21 : decode cX3_standsInQuarrel 21 = .ok (.aload_n 0, 1) := by decide +kernel
theorem dX3_standsInQuarrel_22 : decode cX3_standsInQuarrel 22 = .ok (.iload_n 1, 1) := by decide +kernel
theorem dX3_standsInQuarrel_23 : decode cX3_standsInQuarrel 23 = .ok (.invokevirtual 43, 3) := by decide +kernel
theorem dX3_standsInQuarrel_26 : decode cX3_standsInQuarrel 26 = .ok (.ifCond .lt 22, 3) := by decide +kernel
theorem dX3_standsInQuarrel_29 : decode cX3_standsInQuarrel 29 = .ok (.aload_n 0, 1) := by decide +kernel
theorem dX3_standsInQuarrel_30 : decode cX3_standsInQuarrel 30 = .ok (.iload_n 1, 1) := by decide +kernel
theorem dX3_standsInQuarrel_31 : decode cX3_standsInQuarrel 31 = .ok (.invokevirtual 43, 3) := by decide +kernel
theorem dX3_standsInQuarrel_34 : decode cX3_standsInQuarrel 34 = .ok (.aload_n 0, 1) := by decide +kernel
theorem dX3_standsInQuarrel_35 : decode cX3_standsInQuarrel 35 = .ok (.iload_n 1, 1) := by decide +kernel
theorem dX3_standsInQuarrel_36 : decode cX3_standsInQuarrel 36 = .ok (.iconst 2, 1) := by decide +kernel
theorem dX3_standsInQuarrel_37 : decode cX3_standsInQuarrel 37 = .ok (.isub, 1) := by decide +kernel
theorem dX3_standsInQuarrel_38 : decode cX3_standsInQuarrel 38 = .ok (.invokevirtual 43, 3) := by decide +kernel
theorem dX3_standsInQuarrel_41 : decode cX3_standsInQuarrel 41 = .ok (.if_icmp .eq 7, 3) := by decide +kernel
theorem dX3_standsInQuarrel_44 : decode cX3_standsInQuarrel 44 = .ok (.iconst 1, 1) := by decide +kernel
theorem dX3_standsInQuarrel_45 : decode cX3_standsInQuarrel 45 = .ok (.goto 4, 3) := by decide +kernel
theorem dX3_standsInQuarrel_48 : decode cX3_standsInQuarrel 48 = .ok (.iconst 0, 1) := by decide +kernel
theorem dX3_standsInQuarrel_49 : decode cX3_standsInQuarrel 49 = .ok (.ireturn, 1) := by decide +kernel
theorem dX4_init_0 : decode cX4_init 0 = .ok (.aload_n 0, 1) := by decide +kernel
theorem dX4_init_1 : decode cX4_init 1 = .ok (.invokespecial 3, 3) := by decide +kernel
theorem dX4_init_4 : decode cX4_init 4 = .ok (.aload_n 0, 1) := by decide +kernel
theorem dX4_init_5 : decode cX4_init 5 = .ok (.bipush 10, 2) := by decide +kernel
theorem dX4_init_7 : decode cX4_init 7 = .ok (.newarray .int, 2) := by decide +kernel
theorem dX4_init_9 : decode cX4_init 9 = .ok (.putfield 9, 3) := by decide +kernel
theorem dX4_init_12 : decode cX4_init 12 = .ok (.aload_n 0, 1) := by decide +kernel
theorem dX4_init_13 : decode cX4_init 13 = .ok (.bipush 10, 2) := by decide +kernel
theorem dX4_init_15 : decode cX4_init 15 = .ok (.newarray .int, 2) := by decide +kernel
theorem dX4_init_17 : decode cX4_init 17 = .ok (.putfield 15, 3) := by decide +kernel
theorem dX4_init_20 : decode cX4_init 20 = .ok (.aload_n 0, 1) := by decide +kernel
theorem dX4_init_21 : decode cX4_init 21 = .ok (.iconst 5, 1) := by decide +kernel
theorem dX4_init_22 : decode cX4_init 22 = .ok (.newarray .int, 2) := by decide +kernel
theorem dX4_init_24 : decode cX4_init 24 = .ok (.putfield 18, 3) := by decide +kernel
theorem dX4_init_27 : decode cX4_init 27 = .ok (.aload_n 0, 1) := by decide +kernel
theorem dX4_init_28 : decode cX4_init 28 = .ok (.iconst 5, 1) := by decide +kernel
theorem dX4_init_29 : decode cX4_init 29 = .ok (.newarray .int, 2) := by decide +kernel
theorem dX4_init_31 : decode cX4_init 31 = .ok (.putfield 21, 3) := by decide +kernel
theorem dX4_init_34 : decode cX4_init 34 = .ok (.aload_n 0, 1) := by decide +kernel
theorem dX4_init_35 : decode cX4_init 35 = .ok (.iconst 0, 1) := by decide +kernel
theorem dX4_init_36 : decode cX4_init 36 = .ok (.putfield 24, 3) := by decide +kernel
theorem dX4_init_39 : decode cX4_init 39 = .ok (.iconst 0, 1) := by decide +kernel
theorem dX4_init_40 : decode cX4_init 40 = .ok (.istore_n 1, 1) := by decide +kernel
theorem dX4_init_41 : decode cX4_init 41 = .ok (.iload_n 1, 1) := by decide +kernel
theorem dX4_init_42 : decode cX4_init 42 = .ok (.iconst 5, 1) := by decide +kernel
theorem dX4_init_43 : decode cX4_init 43 = .ok (.if_icmp .ge 26, 3) := by decide +kernel
theorem dX4_init_46 : decode cX4_init 46 = .ok (.aload_n 0, 1) := by decide +kernel
theorem dX4_init_47 : decode cX4_init 47 = .ok (.getfield 18, 3) := by decide +kernel
theorem dX4_init_50 : decode cX4_init 50 = .ok (.iload_n 1, 1) := by decide +kernel
theorem dX4_init_51 : decode cX4_init 51 = .ok (.bipush 63, 2) := by decide +kernel
theorem dX4_init_53 : decode cX4_init 53 = .ok (.iastore, 1) := by decide +kernel
theorem dX4_init_54 : decode cX4_init 54 = .ok (.aload_n 0, 1) := by decide +kernel
theorem dX4_init_55 : decode cX4_init 55 = .ok (.getfield 21, 3) := by decide +kernel
theorem dX4_init_58 : decode cX4_init 58 = .ok (.iload_n 1, 1) := by decide +kernel
theorem dX4_init_59 : decode cX4_init 59 = .ok (.sipush 1023, 3) := by decide +kernel
theorem dX4_init_62 : decode cX4_init 62 = .ok (.iastore, 1) := by decide +kernel
theorem dX4_init_63 : decode cX4_init 63 = .ok (.iinc 1 1, 3) := by decide +kernel
theorem dX4_init_66 : decode cX4_init 66 = .ok (.goto (-25), 3) := by decide +kernel
theorem dX4_init_69 : decode cX4_init 69 = .ok (.return_, 1) := by decide +kernel
set_option maxRecDepth 20000 in
theorem ggX4_worseThan_X6_at : GoodIn wsX4_worseThan wsX6_at := goodIn_r _ [4] (by decide +kernel) (by decide +kernel)
set_option maxRecDepth 20000 in
theorem gX4_worseThan_X6_at_n28 : GoodIn wsX4_worseThan (wsX6_at) := ggX4_worseThan_X6_at
theorem dX4_worseThan_0 : decode cX4_worseThan 0 = .ok (.aload_n 0, 1) := by decide +kernel
theorem dX4_worseThan_1 : decode cX4_worseThan 1 = .ok (.getfield 9, 3) := by decide +kernel
theorem dX4_worseThan_4 : decode cX4_worseThan 4 = .ok (.iload_n 1, 1) := by decide +kernel
theorem dX4_worseThan_5 : decode cX4_worseThan 5 = .ok (.invokestatic 28, 3) := by decide +kernel
theorem dX4_worseThan_8 : decode cX4_worseThan 8 = .ok (.ireturn, 1) := by decide +kernel
set_option maxRecDepth 20000 in
theorem ggX4_neededBy_X6_at : GoodIn wsX4_neededBy wsX6_at := goodIn_r _ [4] (by decide +kernel) (by decide +kernel)
set_option maxRecDepth 20000 in
theorem gX4_neededBy_X6_at_n28 : GoodIn wsX4_neededBy (wsX6_at) := ggX4_neededBy_X6_at
theorem dX4_neededBy_0 : decode cX4_neededBy 0 = .ok (.aload_n 0, 1) := by decide +kernel
theorem dX4_neededBy_1 : decode cX4_neededBy 1 = .ok (.getfield 15, 3) := by decide +kernel
theorem dX4_neededBy_4 : decode cX4_neededBy 4 = .ok (.iload_n 1, 1) := by decide +kernel
theorem dX4_neededBy_5 : decode cX4_neededBy 5 = .ok (.invokestatic 28, 3) := by decide +kernel
theorem dX4_neededBy_8 : decode cX4_neededBy 8 = .ok (.ireturn, 1) := by decide +kernel
set_option maxRecDepth 20000 in
theorem ggX4_traitsOf_X6_at : GoodIn wsX4_traitsOf wsX6_at := goodIn_r _ [4] (by decide +kernel) (by decide +kernel)
set_option maxRecDepth 20000 in
theorem gX4_traitsOf_X6_at_n28 : GoodIn wsX4_traitsOf (wsX6_at) := ggX4_traitsOf_X6_at
theorem dX4_traitsOf_0 : decode cX4_traitsOf 0 = .ok (.aload_n 0, 1) := by decide +kernel
theorem dX4_traitsOf_1 : decode cX4_traitsOf 1 = .ok (.getfield 18, 3) := by decide +kernel
theorem dX4_traitsOf_4 : decode cX4_traitsOf 4 = .ok (.iload_n 1, 1) := by decide +kernel
theorem dX4_traitsOf_5 : decode cX4_traitsOf 5 = .ok (.invokestatic 28, 3) := by decide +kernel
theorem dX4_traitsOf_8 : decode cX4_traitsOf 8 = .ok (.ireturn, 1) := by decide +kernel
set_option maxRecDepth 20000 in
theorem ggX4_knownTo_X6_at : GoodIn wsX4_knownTo wsX6_at := goodIn_r _ [4] (by decide +kernel) (by decide +kernel)
set_option maxRecDepth 20000 in
theorem gX4_knownTo_X6_at_n28 : GoodIn wsX4_knownTo (wsX6_at) := ggX4_knownTo_X6_at
theorem dX4_knownTo_0 : decode cX4_knownTo 0 = .ok (.aload_n 0, 1) := by decide +kernel
theorem dX4_knownTo_1 : decode cX4_knownTo 1 = .ok (.getfield 21, 3) := by decide +kernel
theorem dX4_knownTo_4 : decode cX4_knownTo 4 = .ok (.iload_n 1, 1) := by decide +kernel
theorem dX4_knownTo_5 : decode cX4_knownTo 5 = .ok (.invokestatic 28, 3) := by decide +kernel
theorem dX4_knownTo_8 : decode cX4_knownTo 8 = .ok (.ireturn, 1) := by decide +kernel
set_option maxRecDepth 20000 in
theorem ggX4_setStep_X6_isInsult : GoodIn wsX4_setStep wsX6_isInsult := goodIn_r _ [4, 5, 6, 3, 7] (by decide +kernel) (by decide +kernel)
set_option maxRecDepth 20000 in
theorem gX4_setStep_X6_isInsult_n32 : GoodIn wsX4_setStep (wsX6_isInsult) := ggX4_setStep_X6_isInsult
set_option maxRecDepth 20000 in
theorem ggX4_setStep_X4_worseThan : GoodIn wsX4_setStep wsX4_worseThan := goodIn_r _ [12, 1, 13, 3, 14, 17, 18, 19, 20, 21] (by decide +kernel) (by decide +kernel)
set_option maxRecDepth 20000 in
theorem gX4_setStep_X4_worseThan : GoodIn wsX4_setStep (wsV RX4 36 RX4 yX4_worseThan wsX4_worseThan) := goodIn_app (goodIn_of _ (by decide +kernel)) ggX4_setStep_X4_worseThan
set_option maxRecDepth 20000 in
theorem ggX4_setStep_X6_store : GoodIn wsX4_setStep wsX6_store := goodIn_r _ [16] (by decide +kernel) (by decide +kernel)
set_option maxRecDepth 20000 in
theorem gX4_setStep_X6_store_n40 : GoodIn wsX4_setStep (wsX6_store) := ggX4_setStep_X6_store
theorem dX4_setStep_0 : decode cX4_setStep 0 = .ok (.iload_n 1, 1) := by decide +kernel
theorem dX4_setStep_1 : decode cX4_setStep 1 = .ok (.invokestatic 32, 3) := by decide +kernel
theorem dX4_setStep_4 : decode cX4_setStep 4 = .ok (.ifCond .eq 10, 3) := by decide +kernel
theorem dX4_setStep_7 : decode cX4_setStep 7 = .ok (.iload_n 2, 1) := by decide +kernel
theorem dX4_setStep_8 : decode cX4_setStep 8 = .ok (.invokestatic 32, 3) := by decide +kernel
theorem dX4_setStep_11 : decode cX4_setStep 11 = .ok (.ifCond .ne 4, 3) := by decide +kernel
theorem dX4_setStep_14 : decode cX4_setStep 14 = .ok (.return_, 1) := by decide +kernel
theorem dX4_setStep_15 : decode cX4_setStep 15 = .ok (.aload_n 0, 1) := by decide +kernel
theorem dX4_setStep_16 : decode cX4_setStep 16 = .ok (.iload_n 1, 1) := by decide +kernel
theorem dX4_setStep_17 : decode cX4_setStep 17 = .ok (.invokevirtual 36, 3) := by decide +kernel
theorem dX4_setStep_20 : decode cX4_setStep 20 = .ok (.iconst 1, 1) := by decide +kernel
theorem dX4_setStep_21 : decode cX4_setStep 21 = .ok (.iload_n 2, 1) := by decide +kernel
theorem dX4_setStep_22 : decode cX4_setStep 22 = .ok (.ishl, 1) := by decide +kernel
theorem dX4_setStep_23 : decode cX4_setStep 23 = .ok (.iconst (-1), 1) := by decide +kernel
theorem dX4_setStep_24 : decode cX4_setStep 24 = .ok (.ixor, 1) := by decide +kernel
theorem dX4_setStep_25 : decode cX4_setStep 25 = .ok (.iand, 1) := by decide +kernel
theorem dX4_setStep_26 : decode cX4_setStep 26 = .ok (.istore 4, 2) := by decide +kernel
theorem dX4_setStep_28 : decode cX4_setStep 28 = .ok (.aload_n 0, 1) := by decide +kernel
theorem dX4_setStep_29 : decode cX4_setStep 29 = .ok (.getfield 9, 3) := by decide +kernel
theorem dX4_setStep_32 : decode cX4_setStep 32 = .ok (.iload_n 1, 1) := by decide +kernel
theorem dX4_setStep_33 : decode cX4_setStep 33 = .ok (.iload_n 3, 1) := by decide +kernel
theorem dX4_setStep_34 : decode cX4_setStep 34 = .ok (.ifCond .eq 12, 3) := by decide +kernel
theorem dX4_setStep_37 : decode cX4_setStep 37 = .ok (.iload 4, 2) := by decide +kernel
theorem dX4_setStep_39 : decode cX4_setStep 39 = .ok (.iconst 1, 1) := by decide +kernel
theorem dX4_setStep_40 : decode cX4_setStep 40 = .ok (.iload_n 2, 1) := by decide +kernel
theorem dX4_setStep_41 : decode cX4_setStep 41 = .ok (.ishl, 1) := by decide +kernel
theorem dX4_setStep_42 : decode cX4_setStep 42 = .ok (.ior, 1) := by decide +kernel
theorem dX4_setStep_43 : decode cX4_setStep 43 = .ok (.goto 5, 3) := by decide +kernel
theorem dX4_setStep_46 : decode cX4_setStep 46 = .ok (.iload 4, 2) := by decide +kernel
theorem dX4_setStep_48 : decode cX4_setStep 48 = .ok (.invokestatic 40, 3) := by decide +kernel
theorem dX4_setStep_51 : decode cX4_setStep 51 = .ok (.return_, 1) := by decide +kernel
set_option maxRecDepth 20000 in
theorem ggX4_setNeeded_X6_store : GoodIn wsX4_setNeeded wsX6_store := goodIn_r _ [4] (by decide +kernel) (by decide +kernel)
set_option maxRecDepth 20000 in
theorem gX4_setNeeded_X6_store_n40 : GoodIn wsX4_setNeeded (wsX6_store) := ggX4_setNeeded_X6_store
theorem dX4_setNeeded_0 : decode cX4_setNeeded 0 = .ok (.aload_n 0, 1) := by decide +kernel
theorem dX4_setNeeded_1 : decode cX4_setNeeded 1 = .ok (.getfield 15, 3) := by decide +kernel
theorem dX4_setNeeded_4 : decode cX4_setNeeded 4 = .ok (.iload_n 1, 1) := by decide +kernel
theorem dX4_setNeeded_5 : decode cX4_setNeeded 5 = .ok (.iload_n 2, 1) := by decide +kernel
theorem dX4_setNeeded_6 : decode cX4_setNeeded 6 = .ok (.invokestatic 40, 3) := by decide +kernel
theorem dX4_setNeeded_9 : decode cX4_setNeeded 9 = .ok (.return_, 1) := by decide +kernel
set_option maxRecDepth 20000 in
theorem ggX4_setTraits_X6_store : GoodIn wsX4_setTraits wsX6_store := goodIn_r _ [4] (by decide +kernel) (by decide +kernel)
set_option maxRecDepth 20000 in
theorem gX4_setTraits_X6_store_n40 : GoodIn wsX4_setTraits (wsX6_store) := ggX4_setTraits_X6_store
theorem dX4_setTraits_0 : decode cX4_setTraits 0 = .ok (.aload_n 0, 1) := by decide +kernel
theorem dX4_setTraits_1 : decode cX4_setTraits 1 = .ok (.getfield 18, 3) := by decide +kernel
theorem dX4_setTraits_4 : decode cX4_setTraits 4 = .ok (.iload_n 1, 1) := by decide +kernel
theorem dX4_setTraits_5 : decode cX4_setTraits 5 = .ok (.iload_n 2, 1) := by decide +kernel
theorem dX4_setTraits_6 : decode cX4_setTraits 6 = .ok (.invokestatic 40, 3) := by decide +kernel
theorem dX4_setTraits_9 : decode cX4_setTraits 9 = .ok (.return_, 1) := by decide +kernel
set_option maxRecDepth 20000 in
theorem ggX4_setKnown_X6_store : GoodIn wsX4_setKnown wsX6_store := goodIn_r _ [4] (by decide +kernel) (by decide +kernel)
set_option maxRecDepth 20000 in
theorem gX4_setKnown_X6_store_n40 : GoodIn wsX4_setKnown (wsX6_store) := ggX4_setKnown_X6_store
theorem dX4_setKnown_0 : decode cX4_setKnown 0 = .ok (.aload_n 0, 1) := by decide +kernel
theorem dX4_setKnown_1 : decode cX4_setKnown 1 = .ok (.getfield 21, 3) := by decide +kernel
theorem dX4_setKnown_4 : decode cX4_setKnown 4 = .ok (.iload_n 1, 1) := by decide +kernel
theorem dX4_setKnown_5 : decode cX4_setKnown 5 = .ok (.iload_n 2, 1) := by decide +kernel
theorem dX4_setKnown_6 : decode cX4_setKnown 6 = .ok (.invokestatic 40, 3) := by decide +kernel
theorem dX4_setKnown_9 : decode cX4_setKnown 9 = .ok (.return_, 1) := by decide +kernel
set_option maxRecDepth 20000 in
theorem ggX4_fitting_X4_traitsOf : GoodIn wsX4_fitting wsX4_traitsOf := goodIn_r _ [5, 6, 7, 8, 9, 15, 16, 17, 18, 19] (by decide +kernel) (by decide +kernel)
set_option maxRecDepth 20000 in
theorem gX4_fitting_X4_traitsOf : GoodIn wsX4_fitting (wsV RX4 44 RX4 yX4_traitsOf wsX4_traitsOf) := goodIn_app (goodIn_of _ (by decide +kernel)) ggX4_fitting_X4_traitsOf
set_option maxRecDepth 20000 in
theorem ggX4_fitting_X4_neededBy : GoodIn wsX4_fitting wsX4_neededBy := goodIn_r _ [13, 14, 7, 8, 9, 15, 16, 17, 18, 19] (by decide +kernel) (by decide +kernel)
set_option maxRecDepth 20000 in
theorem gX4_fitting_X4_neededBy : GoodIn wsX4_fitting (wsV RX4 47 RX4 yX4_neededBy wsX4_neededBy) := goodIn_app (goodIn_of _ (by decide +kernel)) ggX4_fitting_X4_neededBy
theorem dX4_fitting_0 : decode cX4_fitting 0 = .ok (.aload_n 0, 1) := by decide +kernel
theorem dX4_fitting_1 : decode cX4_fitting 1 = .ok (.iload_n 1, 1) := by decide +kernel
theorem dX4_fitting_2 : decode cX4_fitting 2 = .ok (.invokevirtual 44, 3) := by decide +kernel
theorem dX4_fitting_5 : decode cX4_fitting 5 = .ok (.istore_n 2, 1) := by decide +kernel
theorem dX4_fitting_6 : decode cX4_fitting 6 = .ok (.iconst 0, 1) := by decide +kernel
theorem dX4_fitting_7 : decode cX4_fitting 7 = .ok (.istore_n 3, 1) := by decide +kernel
theorem dX4_fitting_8 : decode cX4_fitting 8 = .ok (.iconst 0, 1) := by decide +kernel
theorem dX4_fitting_9 : decode cX4_fitting 9 = .ok (.istore 4, 2) := by decide +kernel
theorem dX4_fitting_11 : decode cX4_fitting 11 = .ok (.iload 4, 2) := by decide +kernel
theorem dX4_fitting_13 : decode cX4_fitting 13 = .ok (.bipush 10, 2) := by decide +kernel
theorem dX4_fitting_15 : decode cX4_fitting 15 = .ok (.if_icmp .ge 29, 3) := by decide +kernel
theorem dX4_fitting_18 : decode cX4_fitting 18 = .ok (.aload_n 0, 1) := by decide +kernel
theorem dX4_fitting_19 : decode cX4_fitting 19 = .ok (.iload 4, 2) := by decide +kernel
theorem dX4_fitting_21 : decode cX4_fitting 21 = .ok (.invokevirtual 47, 3) := by decide +kernel
theorem dX4_fitting_24 : decode cX4_fitting 24 = .ok (.iload_n 2, 1) := by decide +kernel
theorem dX4_fitting_25 : decode cX4_fitting 25 = .ok (.iconst (-1), 1) := by decide +kernel
theorem dX4_fitting_26 : decode cX4_fitting 26 = .ok (.ixor, 1) := by decide +kernel
theorem dX4_fitting_27 : decode cX4_fitting 27 = .ok (.iand, 1) := by decide +kernel
theorem dX4_fitting_28 : decode cX4_fitting 28 = .ok (.ifCond .ne 10, 3) := by decide +kernel
theorem dX4_fitting_31 : decode cX4_fitting 31 = .ok (.iload_n 3, 1) := by decide +kernel
theorem dX4_fitting_32 : decode cX4_fitting 32 = .ok (.iconst 1, 1) := by decide +kernel
theorem dX4_fitting_33 : decode cX4_fitting 33 = .ok (.iload 4, 2) := by decide +kernel
theorem dX4_fitting_35 : decode cX4_fitting 35 = .ok (.ishl, 1) := by decide +kernel
theorem dX4_fitting_36 : decode cX4_fitting 36 = .ok (.ior, 1) := by decide +kernel
theorem dX4_fitting_37 : decode cX4_fitting 37 = .ok (.istore_n 3, 1) := by decide +kernel
theorem dX4_fitting_38 : decode cX4_fitting 38 = .ok (.iinc 4 1, 3) := by decide +kernel
theorem dX4_fitting_41 : decode cX4_fitting 41 = .ok (.goto (-30), 3) := by decide +kernel
theorem dX4_fitting_44 : decode cX4_fitting 44 = .ok (.iload_n 3, 1) := by decide +kernel
theorem dX4_fitting_45 : decode cX4_fitting 45 = .ok (.ireturn, 1) := by decide +kernel
set_option maxRecDepth 20000 in
theorem ggX4_sayable_X4_knownTo : GoodIn wsX4_sayable wsX4_knownTo := goodIn_r _ [5, 6, 7, 8, 9, 24, 25, 26, 27, 28] (by decide +kernel) (by decide +kernel)
set_option maxRecDepth 20000 in
theorem gX4_sayable_X4_knownTo : GoodIn wsX4_sayable (wsV RX4 50 RX4 yX4_knownTo wsX4_knownTo) := goodIn_app (goodIn_of _ (by decide +kernel)) ggX4_sayable_X4_knownTo
set_option maxRecDepth 20000 in
theorem ggX4_sayable_X4_fitting : GoodIn wsX4_sayable wsX4_fitting := goodIn_r _ [13, 14, 15, 16, 4, 17, 18, 7, 8, 9, 19, 20, 21, 22, 23, 24, 25, 26, 27, 28] (by decide +kernel) (by decide +kernel)
set_option maxRecDepth 20000 in
theorem gX4_sayable_X4_fitting : GoodIn wsX4_sayable (wsV RX4 53 RX4 yX4_fitting wsX4_fitting) := goodIn_app (goodIn_of _ (by decide +kernel)) ggX4_sayable_X4_fitting
theorem dX4_sayable_0 : decode cX4_sayable 0 = .ok (.aload_n 0, 1) := by decide +kernel
theorem dX4_sayable_1 : decode cX4_sayable 1 = .ok (.iload_n 1, 1) := by decide +kernel
theorem dX4_sayable_2 : decode cX4_sayable 2 = .ok (.invokevirtual 50, 3) := by decide +kernel
theorem dX4_sayable_5 : decode cX4_sayable 5 = .ok (.aload_n 0, 1) := by decide +kernel
theorem dX4_sayable_6 : decode cX4_sayable 6 = .ok (.iload_n 2, 1) := by decide +kernel
theorem dX4_sayable_7 : decode cX4_sayable 7 = .ok (.invokevirtual 53, 3) := by decide +kernel
theorem dX4_sayable_10 : decode cX4_sayable 10 = .ok (.iand, 1) := by decide +kernel
theorem dX4_sayable_11 : decode cX4_sayable 11 = .ok (.ireturn, 1) := by decide +kernel
set_option maxRecDepth 20000 in
theorem ggX4_countSteps_X4_worseThan : GoodIn wsX4_countSteps wsX4_worseThan := goodIn_r _ [5, 6, 7, 8, 9, 17, 18, 19, 20, 21] (by decide +kernel) (by decide +kernel)
set_option maxRecDepth 20000 in
theorem gX4_countSteps_X4_worseThan : GoodIn wsX4_countSteps (wsV RX4 36 RX4 yX4_worseThan wsX4_worseThan) := goodIn_app (goodIn_of _ (by decide +kernel)) ggX4_countSteps_X4_worseThan
set_option maxRecDepth 20000 in
theorem ggX4_countSteps_J6_bitCount_0f7a4 : GoodIn wsX4_countSteps wsJ6_bitCount_0f7a4 := goodIn_r _ [13, 14, 15, 16] (by decide +kernel) (by decide +kernel)
set_option maxRecDepth 20000 in
theorem gX4_countSteps_J6_bitCount_0f7a4 : GoodIn wsX4_countSteps (va_wsS RX4 56 yJ6_bitCount_0f7a4 wsJ6_bitCount_0f7a4) := goodIn_app (goodIn_of _ (by decide +kernel)) ggX4_countSteps_J6_bitCount_0f7a4
theorem dX4_countSteps_0 : decode cX4_countSteps 0 = .ok (.iconst 0, 1) := by decide +kernel
theorem dX4_countSteps_1 : decode cX4_countSteps 1 = .ok (.istore_n 1, 1) := by decide +kernel
theorem dX4_countSteps_2 : decode cX4_countSteps 2 = .ok (.iconst 0, 1) := by decide +kernel
theorem dX4_countSteps_3 : decode cX4_countSteps 3 = .ok (.istore_n 2, 1) := by decide +kernel
theorem dX4_countSteps_4 : decode cX4_countSteps 4 = .ok (.iload_n 2, 1) := by decide +kernel
theorem dX4_countSteps_5 : decode cX4_countSteps 5 = .ok (.bipush 10, 2) := by decide +kernel
theorem dX4_countSteps_7 : decode cX4_countSteps 7 = .ok (.if_icmp .ge 20, 3) := by decide +kernel
theorem dX4_countSteps_10 : decode cX4_countSteps 10 = .ok (.iload_n 1, 1) := by decide +kernel
theorem dX4_countSteps_11 : decode cX4_countSteps 11 = .ok (.aload_n 0, 1) := by decide +kernel
theorem dX4_countSteps_12 : decode cX4_countSteps 12 = .ok (.iload_n 2, 1) := by decide +kernel
theorem dX4_countSteps_13 : decode cX4_countSteps 13 = .ok (.invokevirtual 36, 3) := by decide +kernel
theorem dX4_countSteps_16 : decode cX4_countSteps 16 = .ok (.invokestatic 56, 3) := by decide +kernel
theorem dX4_countSteps_19 : decode cX4_countSteps 19 = .ok (.iadd, 1) := by decide +kernel
theorem dX4_countSteps_20 : decode cX4_countSteps 20 = .ok (.istore_n 1, 1) := by decide +kernel
theorem dX4_countSteps_21 : decode cX4_countSteps 21 = .ok (.iinc 2 1, 3) := by decide +kernel
theorem dX4_countSteps_24 : decode cX4_countSteps 24 = .ok (.goto (-20), 3) := by decide +kernel
theorem dX4_countSteps_27 : decode cX4_countSteps 27 = .ok (.iload_n 1, 1) := by decide +kernel
theorem dX4_countSteps_28 : decode cX4_countSteps 28 = .ok (.ireturn, 1) := by decide +kernel
set_option maxRecDepth 20000 in
theorem ggX4_addSteps_X4_worseThan : GoodIn wsX4_addSteps wsX4_worseThan := goodIn_r _ [6, 1, 7, 8, 9, 12, 13, 14, 15, 16] (by decide +kernel) (by decide +kernel)
set_option maxRecDepth 20000 in
theorem gX4_addSteps_X4_worseThan : GoodIn wsX4_addSteps (wsV RX4 36 RX4 yX4_worseThan wsX4_worseThan) := goodIn_app (goodIn_of _ (by decide +kernel)) ggX4_addSteps_X4_worseThan
set_option maxRecDepth 20000 in
theorem ggX4_addSteps_X6_store : GoodIn wsX4_addSteps wsX6_store := goodIn_r _ [11] (by decide +kernel) (by decide +kernel)
set_option maxRecDepth 20000 in
theorem gX4_addSteps_X6_store_n40 : GoodIn wsX4_addSteps (wsX6_store) := ggX4_addSteps_X6_store
theorem dX4_addSteps_0 : decode cX4_addSteps 0 = .ok (.iconst 0, 1) := by decide +kernel
theorem dX4_addSteps_1 : decode cX4_addSteps 1 = .ok (.istore_n 2, 1) := by decide +kernel
theorem dX4_addSteps_2 : decode cX4_addSteps 2 = .ok (.iload_n 2, 1) := by decide +kernel
theorem dX4_addSteps_3 : decode cX4_addSteps 3 = .ok (.bipush 10, 2) := by decide +kernel
theorem dX4_addSteps_5 : decode cX4_addSteps 5 = .ok (.if_icmp .ge 28, 3) := by decide +kernel
theorem dX4_addSteps_8 : decode cX4_addSteps 8 = .ok (.aload_n 0, 1) := by decide +kernel
theorem dX4_addSteps_9 : decode cX4_addSteps 9 = .ok (.getfield 9, 3) := by decide +kernel
theorem dX4_addSteps_12 : decode cX4_addSteps 12 = .ok (.iload_n 2, 1) := by decide +kernel
theorem dX4_addSteps_13 : decode cX4_addSteps 13 = .ok (.aload_n 0, 1) := by decide +kernel
theorem dX4_addSteps_14 : decode cX4_addSteps 14 = .ok (.iload_n 2, 1) := by decide +kernel
theorem dX4_addSteps_15 : decode cX4_addSteps 15 = .ok (.invokevirtual 36, 3) := by decide +kernel
theorem dX4_addSteps_18 : decode cX4_addSteps 18 = .ok (.aload_n 1, 1) := by decide +kernel
theorem dX4_addSteps_19 : decode cX4_addSteps 19 = .ok (.iload_n 2, 1) := by decide +kernel
theorem dX4_addSteps_20 : decode cX4_addSteps 20 = .ok (.invokevirtual 36, 3) := by decide +kernel
theorem dX4_addSteps_23 : decode cX4_addSteps 23 = .ok (.ior, 1) := by decide +kernel
theorem dX4_addSteps_24 : decode cX4_addSteps 24 = .ok (.invokestatic 40, 3) := by decide +kernel
theorem dX4_addSteps_27 : decode cX4_addSteps 27 = .ok (.iinc 2 1, 3) := by decide +kernel
theorem dX4_addSteps_30 : decode cX4_addSteps 30 = .ok (.goto (-28), 3) := by decide +kernel
theorem dX4_addSteps_33 : decode cX4_addSteps 33 = .ok (.return_, 1) := by decide +kernel
set_option maxRecDepth 20000 in
theorem ggX4_copy_X4_worseThan : GoodIn wsX4_copy wsX4_worseThan := goodIn_r _ [10, 1, 11, 12, 13, 28, 29, 30, 31, 32] (by decide +kernel) (by decide +kernel)
set_option maxRecDepth 20000 in
theorem gX4_copy_X4_worseThan : GoodIn wsX4_copy (wsV RX4 36 RX4 yX4_worseThan wsX4_worseThan) := goodIn_app (goodIn_of _ (by decide +kernel)) ggX4_copy_X4_worseThan
set_option maxRecDepth 20000 in
theorem ggX4_copy_X6_store : GoodIn wsX4_copy wsX6_store := goodIn_r _ [15] (by decide +kernel) (by decide +kernel)
set_option maxRecDepth 20000 in
theorem gX4_copy_X6_store_n40 : GoodIn wsX4_copy (wsX6_store) := ggX4_copy_X6_store
set_option maxRecDepth 20000 in
theorem ggX4_copy_X4_neededBy : GoodIn wsX4_copy wsX4_neededBy := goodIn_r _ [19, 2, 11, 12, 13, 28, 29, 30, 31, 32] (by decide +kernel) (by decide +kernel)
set_option maxRecDepth 20000 in
theorem gX4_copy_X4_neededBy : GoodIn wsX4_copy (wsV RX4 47 RX4 yX4_neededBy wsX4_neededBy) := goodIn_app (goodIn_of _ (by decide +kernel)) ggX4_copy_X4_neededBy
set_option maxRecDepth 20000 in
theorem ggX4_copy_X4_traitsOf : GoodIn wsX4_copy wsX4_traitsOf := goodIn_r _ [23, 3, 11, 12, 13, 28, 29, 30, 31, 32] (by decide +kernel) (by decide +kernel)
set_option maxRecDepth 20000 in
theorem gX4_copy_X4_traitsOf : GoodIn wsX4_copy (wsV RX4 44 RX4 yX4_traitsOf wsX4_traitsOf) := goodIn_app (goodIn_of _ (by decide +kernel)) ggX4_copy_X4_traitsOf
set_option maxRecDepth 20000 in
theorem ggX4_copy_X4_knownTo : GoodIn wsX4_copy wsX4_knownTo := goodIn_r _ [27, 4, 11, 12, 13, 28, 29, 30, 31, 32] (by decide +kernel) (by decide +kernel)
set_option maxRecDepth 20000 in
theorem gX4_copy_X4_knownTo : GoodIn wsX4_copy (wsV RX4 50 RX4 yX4_knownTo wsX4_knownTo) := goodIn_app (goodIn_of _ (by decide +kernel)) ggX4_copy_X4_knownTo
theorem dX4_copy_0 : decode cX4_copy 0 = .ok (.iconst 0, 1) := by decide +kernel
theorem dX4_copy_1 : decode cX4_copy 1 = .ok (.istore_n 2, 1) := by decide +kernel
theorem dX4_copy_2 : decode cX4_copy 2 = .ok (.iload_n 2, 1) := by decide +kernel
theorem dX4_copy_3 : decode cX4_copy 3 = .ok (.bipush 10, 2) := by decide +kernel
theorem dX4_copy_5 : decode cX4_copy 5 = .ok (.if_icmp .ge 35, 3) := by decide +kernel
theorem dX4_copy_8 : decode cX4_copy 8 = .ok (.aload_n 0, 1) := by decide +kernel
theorem dX4_copy_9 : decode cX4_copy 9 = .ok (.getfield 9, 3) := by decide +kernel
theorem dX4_copy_12 : decode cX4_copy 12 = .ok (.iload_n 2, 1) := by decide +kernel
theorem dX4_copy_13 : decode cX4_copy 13 = .ok (.aload_n 1, 1) := by decide +kernel
theorem dX4_copy_14 : decode cX4_copy 14 = .ok (.iload_n 2, 1) := by decide +kernel
theorem dX4_copy_15 : decode cX4_copy 15 = .ok (.invokevirtual 36, 3) := by decide +kernel
theorem dX4_copy_18 : decode cX4_copy 18 = .ok (.invokestatic 40, 3) := by decide +kernel
theorem dX4_copy_21 : decode cX4_copy 21 = .ok (.aload_n 0, 1) := by decide +kernel
theorem dX4_copy_22 : decode cX4_copy 22 = .ok (.getfield 15, 3) := by decide +kernel
theorem dX4_copy_25 : decode cX4_copy 25 = .ok (.iload_n 2, 1) := by decide +kernel
theorem dX4_copy_26 : decode cX4_copy 26 = .ok (.aload_n 1, 1) := by decide +kernel
theorem dX4_copy_27 : decode cX4_copy 27 = .ok (.iload_n 2, 1) := by decide +kernel
theorem dX4_copy_28 : decode cX4_copy 28 = .ok (.invokevirtual 47, 3) := by decide +kernel
theorem dX4_copy_31 : decode cX4_copy 31 = .ok (.invokestatic 40, 3) := by decide +kernel
theorem dX4_copy_34 : decode cX4_copy 34 = .ok (.iinc 2 1, 3) := by decide +kernel
theorem dX4_copy_37 : decode cX4_copy 37 = .ok (.goto (-35), 3) := by decide +kernel
theorem dX4_copy_40 : decode cX4_copy 40 = .ok (.iconst 0, 1) := by decide +kernel
theorem dX4_copy_41 : decode cX4_copy 41 = .ok (.istore_n 2, 1) := by decide +kernel
theorem dX4_copy_42 : decode cX4_copy 42 = .ok (.iload_n 2, 1) := by decide +kernel
theorem dX4_copy_43 : decode cX4_copy 43 = .ok (.iconst 5, 1) := by decide +kernel
theorem dX4_copy_44 : decode cX4_copy 44 = .ok (.if_icmp .ge 35, 3) := by decide +kernel
theorem dX4_copy_47 : decode cX4_copy 47 = .ok (.aload_n 0, 1) := by decide +kernel
theorem dX4_copy_48 : decode cX4_copy 48 = .ok (.getfield 18, 3) := by decide +kernel
theorem dX4_copy_51 : decode cX4_copy 51 = .ok (.iload_n 2, 1) := by decide +kernel
theorem dX4_copy_52 : decode cX4_copy 52 = .ok (.aload_n 1, 1) := by decide +kernel
theorem dX4_copy_53 : decode cX4_copy 53 = .ok (.iload_n 2, 1) := by decide +kernel
theorem dX4_copy_54 : decode cX4_copy 54 = .ok (.invokevirtual 44, 3) := by decide +kernel
theorem dX4_copy_57 : decode cX4_copy 57 = .ok (.invokestatic 40, 3) := by decide +kernel
theorem dX4_copy_60 : decode cX4_copy 60 = .ok (.aload_n 0, 1) := by decide +kernel
theorem dX4_copy_61 : decode cX4_copy 61 = .ok (.getfield 21, 3) := by decide +kernel
theorem dX4_copy_64 : decode cX4_copy 64 = .ok (.iload_n 2, 1) := by decide +kernel
theorem dX4_copy_65 : decode cX4_copy 65 = .ok (.aload_n 1, 1) := by decide +kernel
theorem dX4_copy_66 : decode cX4_copy 66 = .ok (.iload_n 2, 1) := by decide +kernel
theorem dX4_copy_67 : decode cX4_copy 67 = .ok (.invokevirtual 50, 3) := by decide +kernel
theorem dX4_copy_70 : decode cX4_copy 70 = .ok (.invokestatic 40, 3) := by decide +kernel
theorem dX4_copy_73 : decode cX4_copy 73 = .ok (.iinc 2 1, 3) := by decide +kernel
theorem dX4_copy_76 : decode cX4_copy 76 = .ok (.goto (-34), 3) := by decide +kernel
theorem dX4_copy_79 : decode cX4_copy 79 = .ok (.aload_n 0, 1) := by decide +kernel
theorem dX4_copy_80 : decode cX4_copy 80 = .ok (.iconst 1, 1) := by decide +kernel
theorem dX4_copy_81 : decode cX4_copy 81 = .ok (.putfield 24, 3) := by decide +kernel
theorem dX4_copy_84 : decode cX4_copy 84 = .ok (.return_, 1) := by decide +kernel
theorem dX4_isKept_0 : decode cX4_isKept 0 = .ok (.aload_n 0, 1) := by decide +kernel
theorem dX4_isKept_1 : decode cX4_isKept 1 = .ok (.getfield 24, 3) := by decide +kernel
theorem dX4_isKept_4 : decode cX4_isKept 4 = .ok (.ireturn, 1) := by decide +kernel
theorem dX5_init_0 : decode cX5_init 0 = .ok (.aload_n 0, 1) := by decide +kernel
end
section
theorem dX5_init_1 : decode cX5_init 1 = .ok (.invokespecial 3, 3) := by decide +kernel
theorem dX5_init_4 : decode cX5_init 4 = .ok (.aload_n 0, 1) := by decide +kernel
theorem dX5_init_5 : decode cX5_init 5 = .ok (.iconst 0, 1) := by decide +kernel
theorem dX5_init_6 : decode cX5_init 6 = .ok (.putfield 9, 3) := by decide +kernel
theorem dX5_init_9 : decode cX5_init 9 = .ok (.aload_n 0, 1) := by decide +kernel
theorem dX5_init_10 : decode cX5_init 10 = .ok (.iconst 0, 1) := by decide +kernel
theorem dX5_init_11 : decode cX5_init 11 = .ok (.putfield 15, 3) := by decide +kernel
theorem dX5_init_14 : decode cX5_init 14 = .ok (.aload_n 0, 1) := by decide +kernel
theorem dX5_init_15 : decode cX5_init 15 = .ok (.iconst 0, 1) := by decide +kernel
theorem dX5_init_16 : decode cX5_init 16 = .ok (.putfield 18, 3) := by decide +kernel
theorem dX5_init_19 : decode cX5_init 19 = .ok (.aload_n 0, 1) := by decide +kernel
theorem dX5_init_20 : decode cX5_init 20 = .ok (.bipush (-6), 2) := by decide +kernel
theorem dX5_init_22 : decode cX5_init 22 = .ok (.putfield 21, 3) := by decide +kernel
theorem dX5_init_25 : decode cX5_init 25 = .ok (.aload_n 0, 1) := by decide +kernel
theorem dX5_init_26 : decode cX5_init 26 = .ok (.aload_n 1, 1) := by decide +kernel
theorem dX5_init_27 : decode cX5_init 27 = .ok (.putfield 24, 3) := by decide +kernel
theorem dX5_init_30 : decode cX5_init 30 = .ok (.return_, 1) := by decide +kernel
set_option maxRecDepth 20000 in
theorem ggX5_search_X5_walk : GoodIn wsX5_search wsX5_walk := goodIn_r _ [9, 10, 1, 3, 2, 4, 11, 12, 13, 14, 15, 16, 17, 18, 19, 20, 5, 6, 7, 8, 21, 22, 23, 24, 25, 26, 27, 28, 29, 30] (by decide +kernel) (by decide +kernel)
set_option maxRecDepth 20000 in
theorem gX5_search_X5_walk : GoodIn wsX5_search (wsV RX5 28 RX5 yX5_walk wsX5_walk) := goodIn_app (goodIn_of _ (by decide +kernel)) ggX5_search_X5_walk
theorem dX5_search_0 : decode cX5_search 0 = .ok (.aload_n 0, 1) := by decide +kernel
theorem dX5_search_1 : decode cX5_search 1 = .ok (.iload_n 2, 1) := by decide +kernel
theorem dX5_search_2 : decode cX5_search 2 = .ok (.putfield 9, 3) := by decide +kernel
theorem dX5_search_5 : decode cX5_search 5 = .ok (.aload_n 0, 1) := by decide +kernel
theorem dX5_search_6 : decode cX5_search 6 = .ok (.iload 4, 2) := by decide +kernel
theorem dX5_search_8 : decode cX5_search 8 = .ok (.putfield 15, 3) := by decide +kernel
theorem dX5_search_11 : decode cX5_search 11 = .ok (.aload_n 0, 1) := by decide +kernel
theorem dX5_search_12 : decode cX5_search 12 = .ok (.iconst 0, 1) := by decide +kernel
theorem dX5_search_13 : decode cX5_search 13 = .ok (.putfield 18, 3) := by decide +kernel
theorem dX5_search_16 : decode cX5_search 16 = .ok (.aload_n 0, 1) := by decide +kernel
theorem dX5_search_17 : decode cX5_search 17 = .ok (.bipush (-6), 2) := by decide +kernel
theorem dX5_search_19 : decode cX5_search 19 = .ok (.putfield 21, 3) := by decide +kernel
theorem dX5_search_22 : decode cX5_search 22 = .ok (.aload_n 0, 1) := by decide +kernel
theorem dX5_search_23 : decode cX5_search 23 = .ok (.iload_n 1, 1) := by decide +kernel
theorem dX5_search_24 : decode cX5_search 24 = .ok (.iconst 1, 1) := by decide +kernel
theorem dX5_search_25 : decode cX5_search 25 = .ok (.iload_n 1, 1) := by decide +kernel
theorem dX5_search_26 : decode cX5_search 26 = .ok (.ishl, 1) := by decide +kernel
theorem dX5_search_27 : decode cX5_search 27 = .ok (.iconst 1, 1) := by decide +kernel
theorem dX5_search_28 : decode cX5_search 28 = .ok (.iload_n 2, 1) := by decide +kernel
theorem dX5_search_29 : decode cX5_search 29 = .ok (.ishl, 1) := by decide +kernel
theorem dX5_search_30 : decode cX5_search 30 = .ok (.ior, 1) := by decide +kernel
theorem dX5_search_31 : decode cX5_search 31 = .ok (.iload_n 3, 1) := by decide +kernel
theorem dX5_search_32 : decode cX5_search 32 = .ok (.iconst 1, 1) := by decide +kernel
theorem dX5_search_33 : decode cX5_search 33 = .ok (.invokevirtual 28, 3) := by decide +kernel
theorem dX5_search_36 : decode cX5_search 36 = .ok (.return_, 1) := by decide +kernel
set_option maxRecDepth 20000 in
theorem ggX5_walk_X4_worseThan : GoodIn wsX5_walk wsX4_worseThan := goodIn_r _ [9, 10, 11, 12, 13, 25, 26, 27, 28, 29] (by decide +kernel) (by decide +kernel)
set_option maxRecDepth 20000 in
theorem gX5_walk_X4_worseThan_n32 : GoodIn wsX5_walk (wsX4_worseThan) := ggX5_walk_X4_worseThan
set_option maxRecDepth 20000 in
theorem ggX5_walk_X6_has : GoodIn wsX5_walk wsX6_has := goodIn_r _ [15] (by decide +kernel) (by decide +kernel)
set_option maxRecDepth 20000 in
theorem gX5_walk_X6_has_n38 : GoodIn wsX5_walk (wsX6_has) := ggX5_walk_X6_has
set_option maxRecDepth 20000 in
theorem ggX5_walk_X5_walk : GoodIn wsX5_walk wsX5_walk := goodIn_r _ [0, 1, 2, 3, 4, 5, 6, 7, 8, 9, 10, 11, 12, 13, 14, 15, 16, 17, 18, 19, 20, 21, 22, 23, 24, 25, 26, 27, 28, 29] (by decide +kernel) (by decide +kernel)
set_option maxRecDepth 20000 in
theorem gX5_walk_X5_walk : GoodIn wsX5_walk (wsV RX5 28 RX5 yX5_walk wsX5_walk) := goodIn_app (goodIn_of _ (by decide +kernel)) ggX5_walk_X5_walk
theorem dX5_walk_0 : decode cX5_walk 0 = .ok (.iload_n 3, 1) := by decide +kernel
theorem dX5_walk_1 : decode cX5_walk 1 = .ok (.ifCond .gt 50, 3) := by decide +kernel
theorem dX5_walk_4 : decode cX5_walk 4 = .ok (.aload_n 0, 1) := by decide +kernel
theorem dX5_walk_5 : decode cX5_walk 5 = .ok (.getfield 24, 3) := by decide +kernel
theorem dX5_walk_8 : decode cX5_walk 8 = .ok (.iload_n 1, 1) := by decide +kernel
theorem dX5_walk_9 : decode cX5_walk 9 = .ok (.invokevirtual 32, 3) := by decide +kernel
theorem dX5_walk_12 : decode cX5_walk 12 = .ok (.aload_n 0, 1) := by decide +kernel
theorem dX5_walk_13 : decode cX5_walk 13 = .ok (.getfield 9, 3) := by decide +kernel
theorem dX5_walk_16 : decode cX5_walk 16 = .ok (.invokestatic 38, 3) := by decide +kernel
theorem dX5_walk_19 : decode cX5_walk 19 = .ok (.ifCond .ne 4, 3) := by decide +kernel
theorem dX5_walk_22 : decode cX5_walk 22 = .ok (.return_, 1) := by decide +kernel
theorem dX5_walk_23 : decode cX5_walk 23 = .ok (.aload_n 0, 1) := by decide +kernel
theorem dX5_walk_24 : decode cX5_walk 24 = .ok (.getfield 18, 3) := by decide +kernel
theorem dX5_walk_27 : decode cX5_walk 27 = .ok (.aload_n 0, 1) := by decide +kernel
theorem dX5_walk_28 : decode cX5_walk 28 = .ok (.getfield 15, 3) := by decide +kernel
theorem dX5_walk_31 : decode cX5_walk 31 = .ok (.if_icmp .ne 9, 3) := by decide +kernel
theorem dX5_walk_34 : decode cX5_walk 34 = .ok (.aload_n 0, 1) := by decide +kernel
theorem dX5_walk_35 : decode cX5_walk 35 = .ok (.iload 4, 2) := by decide +kernel
theorem dX5_walk_37 : decode cX5_walk 37 = .ok (.putfield 21, 3) := by decide +kernel
theorem dX5_walk_40 : decode cX5_walk 40 = .ok (.aload_n 0, 1) := by decide +kernel
theorem dX5_walk_41 : decode cX5_walk 41 = .ok (.dup, 1) := by decide +kernel
theorem dX5_walk_42 : decode cX5_walk 42 = .ok (.getfield 18, 3) := by decide +kernel
theorem dX5_walk_45 : decode cX5_walk 45 = .ok (.iconst 1, 1) := by decide +kernel
theorem dX5_walk_46 : decode cX5_walk 46 = .ok (.iadd, 1) := by decide +kernel
theorem dX5_walk_47 : decode cX5_walk 47 = .ok (.putfield 18, 3) := by decide +kernel
theorem dX5_walk_50 : decode cX5_walk 50 = .ok (.return_, 1) := by decide +kernel
theorem dX5_walk_51 : decode cX5_walk 51 = .ok (.iconst 0, 1) := by decide +kernel
theorem dX5_walk_52 : decode cX5_walk 52 = .ok (.istore 5, 2) := by decide +kernel
theorem dX5_walk_54 : decode cX5_walk 54 = .ok (.iload 5, 2) := by decide +kernel
theorem dX5_walk_56 : decode cX5_walk 56 = .ok (.bipush 10, 2) := by decide +kernel
theorem dX5_walk_58 : decode cX5_walk 58 = .ok (.if_icmp .ge 55, 3) := by decide +kernel
theorem dX5_walk_61 : decode cX5_walk 61 = .ok (.aload_n 0, 1) := by decide +kernel
theorem dX5_walk_62 : decode cX5_walk 62 = .ok (.getfield 24, 3) := by decide +kernel
theorem dX5_walk_65 : decode cX5_walk 65 = .ok (.iload_n 1, 1) := by decide +kernel
theorem dX5_walk_66 : decode cX5_walk 66 = .ok (.invokevirtual 32, 3) := by decide +kernel
theorem dX5_walk_69 : decode cX5_walk 69 = .ok (.iload_n 2, 1) := by decide +kernel
theorem dX5_walk_70 : decode cX5_walk 70 = .ok (.iconst (-1), 1) := by decide +kernel
theorem dX5_walk_71 : decode cX5_walk 71 = .ok (.ixor, 1) := by decide +kernel
theorem dX5_walk_72 : decode cX5_walk 72 = .ok (.iand, 1) := by decide +kernel
theorem dX5_walk_73 : decode cX5_walk 73 = .ok (.iload 5, 2) := by decide +kernel
theorem dX5_walk_75 : decode cX5_walk 75 = .ok (.invokestatic 38, 3) := by decide +kernel
theorem dX5_walk_78 : decode cX5_walk 78 = .ok (.ifCond .ne 6, 3) := by decide +kernel
theorem dX5_walk_81 : decode cX5_walk 81 = .ok (.goto 26, 3) := by decide +kernel
theorem dX5_walk_84 : decode cX5_walk 84 = .ok (.aload_n 0, 1) := by decide +kernel
theorem dX5_walk_85 : decode cX5_walk 85 = .ok (.iload 5, 2) := by decide +kernel
theorem dX5_walk_87 : decode cX5_walk 87 = .ok (.iload_n 2, 1) := by decide +kernel
theorem dX5_walk_88 : decode cX5_walk 88 = .ok (.iconst 1, 1) := by decide +kernel
theorem dX5_walk_89 : decode cX5_walk 89 = .ok (.iload 5, 2) := by decide +kernel
theorem dX5_walk_91 : decode cX5_walk 91 = .ok (.ishl, 1) := by decide +kernel
theorem dX5_walk_92 : decode cX5_walk 92 = .ok (.ior, 1) := by decide +kernel
theorem dX5_walk_93 : decode cX5_walk 93 = .ok (.iload_n 3, 1) := by decide +kernel
theorem dX5_walk_94 : decode cX5_walk 94 = .ok (.iconst 1, 1) := by decide +kernel
theorem dX5_walk_95 : decode cX5_walk 95 = .ok (.isub, 1) := by decide +kernel
theorem dX5_walk_96 : decode cX5_walk 96 = .ok (.iload 4, 2) := by decide +kernel
theorem dX5_walk_98 : decode cX5_walk 98 = .ok (.bipush 10, 2) := by decide +kernel
theorem dX5_walk_100 : decode cX5_walk 100 = .ok (.imul, 1) := by decide +kernel
theorem dX5_walk_101 : decode cX5_walk 101 = .ok (.iload 5, 2) := by decide +kernel
theorem dX5_walk_103 : decode cX5_walk 103 = .ok (.iadd, 1) := by decide +kernel
theorem dX5_walk_104 : decode cX5_walk 104 = .ok (.invokevirtual 28, 3) := by decide +kernel
theorem dX5_walk_107 : decode cX5_walk 107 = .ok (.iinc 5 1, 3) := by decide +kernel
theorem dX5_walk_110 : decode cX5_walk 110 = .ok (.goto (-56), 3) := by decide +kernel
theorem dX5_walk_113 : decode cX5_walk 113 = .ok (.return_, 1) := by decide +kernel
theorem dX5_count_0 : decode cX5_count 0 = .ok (.aload_n 0, 1) := by decide +kernel
theorem dX5_count_1 : decode cX5_count 1 = .ok (.getfield 18, 3) := by decide +kernel
theorem dX5_count_4 : decode cX5_count 4 = .ok (.ireturn, 1) := by decide +kernel
theorem dX5_wanted_0 : decode cX5_wanted 0 = .ok (.aload_n 0, 1) := by decide +kernel
theorem dX5_wanted_1 : decode cX5_wanted 1 = .ok (.getfield 21, 3) := by decide +kernel
theorem dX5_wanted_4 : decode cX5_wanted 4 = .ok (.ireturn, 1) := by decide +kernel
set_option maxRecDepth 20000 in
theorem ggX6_init_X3_init : GoodIn wsX6_init wsX3_init := goodIn_r _ [31, 32, 2, 3, 33, 34, 35, 80, 81] (by decide +kernel) (by decide +kernel)
set_option maxRecDepth 20000 in
theorem gX6_init_X3_init_n9 : GoodIn wsX6_init (wsX3_init) := ggX6_init_X3_init
set_option maxRecDepth 20000 in
theorem ggX6_init_X4_init : GoodIn wsX6_init wsX4_init := goodIn_r _ [37, 38, 2, 3, 33, 39, 40, 41, 42, 43, 90, 91, 92, 93, 94] (by decide +kernel) (by decide +kernel)
set_option maxRecDepth 20000 in
theorem gX6_init_X4_init_n18 : GoodIn wsX6_init (wsX4_init) := ggX6_init_X4_init
set_option maxRecDepth 20000 in
theorem ggX6_init_X0_init : GoodIn wsX6_init wsX0_init := goodIn_r _ [45, 46, 2, 3, 33, 47, 48, 49, 50, 51, 52, 53, 95, 96, 97, 98, 99, 100, 101] (by decide +kernel) (by decide +kernel)
set_option maxRecDepth 20000 in
theorem gX6_init_X0_init_n31 : GoodIn wsX6_init (wsX0_init) := ggX6_init_X0_init
set_option maxRecDepth 20000 in
theorem ggX6_init_X1_init : GoodIn wsX6_init wsX1_init := goodIn_r _ [55, 56, 2, 3, 33, 57, 58, 59, 60, 61, 62, 102, 103, 104, 105, 106] (by decide +kernel) (by decide +kernel)
set_option maxRecDepth 20000 in
theorem gX6_init_X1_init_n40 : GoodIn wsX6_init (wsX1_init) := ggX6_init_X1_init
set_option maxRecDepth 20000 in
theorem ggX6_init_X2_init : GoodIn wsX6_init wsX2_init := goodIn_r _ [64, 65, 2, 3, 33, 66, 67, 68, 69, 70, 71, 107, 108, 109, 110, 111, 112] (by decide +kernel) (by decide +kernel)
set_option maxRecDepth 20000 in
theorem gX6_init_X2_init_n47 : GoodIn wsX6_init (wsX2_init) := ggX6_init_X2_init
set_option maxRecDepth 20000 in
theorem ggX6_init_X5_init : GoodIn wsX6_init wsX5_init := goodIn_r _ [73, 74, 2, 3, 75, 76, 77, 78, 79, 113, 114, 115, 116, 117] (by decide +kernel) (by decide +kernel)
set_option maxRecDepth 20000 in
theorem gX6_init_X5_init_n54 : GoodIn wsX6_init (wsX5_init) := ggX6_init_X5_init
theorem dX6_init_0 : decode cX6_init 0 = .ok (.aload_n 0, 1) := by decide +kernel
theorem dX6_init_1 : decode cX6_init 1 = .ok (.invokespecial 1, 3) := by decide +kernel
theorem dX6_init_4 : decode cX6_init 4 = .ok (.aload_n 0, 1) := by decide +kernel
theorem dX6_init_5 : decode cX6_init 5 = .ok (.new 7, 3) := by decide +kernel
theorem dX6_init_8 : decode cX6_init 8 = .ok (.dup, 1) := by decide +kernel
theorem dX6_init_9 : decode cX6_init 9 = .ok (.invokespecial 9, 3) := by decide +kernel
theorem dX6_init_12 : decode cX6_init 12 = .ok (.putfield 10, 3) := by decide +kernel
theorem dX6_init_15 : decode cX6_init 15 = .ok (.aload_n 0, 1) := by decide +kernel
theorem dX6_init_16 : decode cX6_init 16 = .ok (.new 16, 3) := by decide +kernel
theorem dX6_init_19 : decode cX6_init 19 = .ok (.dup, 1) := by decide +kernel
theorem dX6_init_20 : decode cX6_init 20 = .ok (.invokespecial 18, 3) := by decide +kernel
theorem dX6_init_23 : decode cX6_init 23 = .ok (.putfield 19, 3) := by decide +kernel
theorem dX6_init_26 : decode cX6_init 26 = .ok (.aload_n 0, 1) := by decide +kernel
theorem dX6_init_27 : decode cX6_init 27 = .ok (.new 16, 3) := by decide +kernel
theorem dX6_init_30 : decode cX6_init 30 = .ok (.dup, 1) := by decide +kernel
theorem dX6_init_31 : decode cX6_init 31 = .ok (.invokespecial 18, 3) := by decide +kernel
theorem dX6_init_34 : decode cX6_init 34 = .ok (.putfield 23, 3) := by decide +kernel
theorem dX6_init_37 : decode cX6_init 37 = .ok (.aload_n 0, 1) := by decide +kernel
theorem dX6_init_38 : decode cX6_init 38 = .ok (.new 16, 3) := by decide +kernel
theorem dX6_init_41 : decode cX6_init 41 = .ok (.dup, 1) := by decide +kernel
theorem dX6_init_42 : decode cX6_init 42 = .ok (.invokespecial 18, 3) := by decide +kernel
theorem dX6_init_45 : decode cX6_init 45 = .ok (.putfield 26, 3) := by decide +kernel
theorem dX6_init_48 : decode cX6_init 48 = .ok (.aload_n 0, 1) := by decide +kernel
theorem dX6_init_49 : decode cX6_init 49 = .ok (.new 29, 3) := by decide +kernel
theorem dX6_init_52 : decode cX6_init 52 = .ok (.dup, 1) := by decide +kernel
theorem dX6_init_53 : decode cX6_init 53 = .ok (.aload_n 0, 1) := by decide +kernel
theorem dX6_init_54 : decode cX6_init 54 = .ok (.getfield 19, 3) := by decide +kernel
theorem dX6_init_57 : decode cX6_init 57 = .ok (.invokespecial 31, 3) := by decide +kernel
theorem dX6_init_60 : decode cX6_init 60 = .ok (.putfield 34, 3) := by decide +kernel
theorem dX6_init_63 : decode cX6_init 63 = .ok (.aload_n 0, 1) := by decide +kernel
theorem dX6_init_64 : decode cX6_init 64 = .ok (.new 38, 3) := by decide +kernel
theorem dX6_init_67 : decode cX6_init 67 = .ok (.dup, 1) := by decide +kernel
theorem dX6_init_68 : decode cX6_init 68 = .ok (.aload_n 0, 1) := by decide +kernel
theorem dX6_init_69 : decode cX6_init 69 = .ok (.getfield 19, 3) := by decide +kernel
theorem dX6_init_72 : decode cX6_init 72 = .ok (.invokespecial 40, 3) := by decide +kernel
theorem dX6_init_75 : decode cX6_init 75 = .ok (.putfield 41, 3) := by decide +kernel
theorem dX6_init_78 : decode cX6_init 78 = .ok (.aload_n 0, 1) := by decide +kernel
theorem dX6_init_79 : decode cX6_init 79 = .ok (.new 45, 3) := by decide +kernel
theorem dX6_init_82 : decode cX6_init 82 = .ok (.dup, 1) := by decide +kernel
theorem dX6_init_83 : decode cX6_init 83 = .ok (.aload_n 0, 1) := by decide +kernel
theorem dX6_init_84 : decode cX6_init 84 = .ok (.getfield 19, 3) := by decide +kernel
theorem dX6_init_87 : decode cX6_init 87 = .ok (.invokespecial 47, 3) := by decide +kernel
theorem dX6_init_90 : decode cX6_init 90 = .ok (.putfield 48, 3) := by decide +kernel
theorem dX6_init_93 : decode cX6_init 93 = .ok (.aload_n 0, 1) := by decide +kernel
theorem dX6_init_94 : decode cX6_init 94 = .ok (.new 52, 3) := by decide +kernel
theorem dX6_init_97 : decode cX6_init 97 = .ok (.dup, 1) := by decide +kernel
theorem dX6_init_98 : decode cX6_init 98 = .ok (.aload_n 0, 1) := by decide +kernel
theorem dX6_init_99 : decode cX6_init 99 = .ok (.getfield 19, 3) := by decide +kernel
theorem dX6_init_102 : decode cX6_init 102 = .ok (.invokespecial 54, 3) := by decide +kernel
theorem dX6_init_105 : decode cX6_init 105 = .ok (.putfield 55, 3) := by decide +kernel
theorem dX6_init_108 : decode cX6_init 108 = .ok (.return_, 1) := by decide +kernel
set_option maxRecDepth 20000 in
theorem ggX6_say_X6_within : GoodIn wsX6_say wsX6_within := goodIn_r _ [5] (by decide +kernel) (by decide +kernel)
set_option maxRecDepth 20000 in
theorem gX6_say_X6_within : GoodIn wsX6_say (va_wsS RX6 59 yX6_within wsX6_within) := goodIn_app (goodIn_of _ (by decide +kernel)) ggX6_say_X6_within
set_option maxRecDepth 20000 in
theorem ggX6_say_X3_isFull : GoodIn wsX6_say wsX3_isFull := goodIn_r _ [9, 10, 26, 27] (by decide +kernel) (by decide +kernel)
set_option maxRecDepth 20000 in
theorem gX6_say_X3_isFull_n63 : GoodIn wsX6_say (wsX3_isFull) := ggX6_say_X3_isFull
set_option maxRecDepth 20000 in
theorem ggX6_say_X3_put : GoodIn wsX6_say wsX3_put := goodIn_r _ [13, 10, 14, 26, 27] (by decide +kernel) (by decide +kernel)
set_option maxRecDepth 20000 in
theorem gX6_say_X3_put_n67 : GoodIn wsX6_say (wsX3_put) := ggX6_say_X3_put
set_option maxRecDepth 20000 in
theorem ggX6_say_X3_size : GoodIn wsX6_say wsX3_size := goodIn_r _ [17, 10, 26, 27] (by decide +kernel) (by decide +kernel)
set_option maxRecDepth 20000 in
theorem gX6_say_X3_size_n71 : GoodIn wsX6_say (wsX3_size) := ggX6_say_X3_size
theorem dX6_say_0 : decode cX6_say 0 = .ok (.iload_n 1, 1) := by decide +kernel
theorem dX6_say_1 : decode cX6_say 1 = .ok (.bipush 33, 2) := by decide +kernel
theorem dX6_say_3 : decode cX6_say 3 = .ok (.bipush 126, 2) := by decide +kernel
theorem dX6_say_5 : decode cX6_say 5 = .ok (.invokestatic 59, 3) := by decide +kernel
theorem dX6_say_8 : decode cX6_say 8 = .ok (.ifCond .ne 6, 3) := by decide +kernel
theorem dX6_say_11 : decode cX6_say 11 = .ok (.bipush (-2), 2) := by decide +kernel
theorem dX6_say_13 : decode cX6_say 13 = .ok (.ireturn, 1) := by decide +kernel
theorem dX6_say_14 : decode cX6_say 14 = .ok (.aload_n 0, 1) := by decide +kernel
theorem dX6_say_15 : decode cX6_say 15 = .ok (.getfield 10, 3) := by decide +kernel
theorem dX6_say_18 : decode cX6_say 18 = .ok (.invokevirtual 63, 3) := by decide +kernel
theorem dX6_say_21 : decode cX6_say 21 = .ok (.ifCond .eq 6, 3) := by decide +kernel
theorem dX6_say_24 : decode cX6_say 24 = .ok (.bipush (-4), 2) := by decide +kernel
theorem dX6_say_26 : decode cX6_say 26 = .ok (.ireturn, 1) := by decide +kernel
theorem dX6_say_27 : decode cX6_say 27 = .ok (.aload_n 0, 1) := by decide +kernel
theorem dX6_say_28 : decode cX6_say 28 = .ok (.getfield 10, 3) := by decide +kernel
theorem dX6_say_31 : decode cX6_say 31 = .ok (.iload_n 1, 1) := by decide +kernel
theorem dX6_say_32 : decode cX6_say 32 = .ok (.invokevirtual 67, 3) := by decide +kernel
theorem dX6_say_35 : decode cX6_say 35 = .ok (.aload_n 0, 1) := by decide +kernel
theorem dX6_say_36 : decode cX6_say 36 = .ok (.getfield 10, 3) := by decide +kernel
theorem dX6_say_39 : decode cX6_say 39 = .ok (.invokevirtual 71, 3) := by decide +kernel
theorem dX6_say_42 : decode cX6_say 42 = .ok (.ireturn, 1) := by decide +kernel
set_option maxRecDepth 20000 in
theorem ggX6_wipe_X3_size : GoodIn wsX6_wipe wsX3_size := goodIn_r _ [5, 6, 18, 19] (by decide +kernel) (by decide +kernel)
set_option maxRecDepth 20000 in
theorem gX6_wipe_X3_size_n71 : GoodIn wsX6_wipe (wsX3_size) := ggX6_wipe_X3_size
set_option maxRecDepth 20000 in
theorem ggX6_wipe_X3_clear : GoodIn wsX6_wipe wsX3_clear := goodIn_r _ [9, 6, 18, 19] (by decide +kernel) (by decide +kernel)
set_option maxRecDepth 20000 in
theorem gX6_wipe_X3_clear_n75 : GoodIn wsX6_wipe (wsX3_clear) := ggX6_wipe_X3_clear
theorem dX6_wipe_0 : decode cX6_wipe 0 = .ok (.aload_n 0, 1) := by decide +kernel
theorem dX6_wipe_1 : decode cX6_wipe 1 = .ok (.getfield 10, 3) := by decide +kernel
theorem dX6_wipe_4 : decode cX6_wipe 4 = .ok (.invokevirtual 71, 3) := by decide +kernel
theorem dX6_wipe_7 : decode cX6_wipe 7 = .ok (.istore_n 1, 1) := by decide +kernel
theorem dX6_wipe_8 : decode cX6_wipe 8 = .ok (.aload_n 0, 1) := by decide +kernel
theorem dX6_wipe_9 : decode cX6_wipe 9 = .ok (.getfield 10, 3) := by decide +kernel
theorem dX6_wipe_12 : decode cX6_wipe 12 = .ok (.invokevirtual 75, 3) := by decide +kernel
theorem dX6_wipe_15 : decode cX6_wipe 15 = .ok (.iload_n 1, 1) := by decide +kernel
theorem dX6_wipe_16 : decode cX6_wipe 16 = .ok (.ireturn, 1) := by decide +kernel
set_option maxRecDepth 20000 in
theorem ggX6_fault_X6_within : GoodIn wsX6_fault wsX6_within := goodIn_r _ [5] (by decide +kernel) (by decide +kernel)
set_option maxRecDepth 20000 in
theorem gX6_fault_X6_within : GoodIn wsX6_fault (va_wsS RX6 59 yX6_within wsX6_within) := goodIn_app (goodIn_of _ (by decide +kernel)) ggX6_fault_X6_within
set_option maxRecDepth 20000 in
theorem ggX6_fault_X3_faultAsSteps : GoodIn wsX6_fault wsX3_faultAsSteps := goodIn_r _ [9, 10, 11, 12, 13, 7, 14, 15, 16, 17, 18, 19, 20, 21, 22, 23, 24, 4, 25, 26, 27, 2, 3, 5, 49, 50] (by decide +kernel) (by decide +kernel)
set_option maxRecDepth 20000 in
theorem gX6_fault_X3_faultAsSteps_n78 : GoodIn wsX6_fault (wsX3_faultAsSteps) := ggX6_fault_X3_faultAsSteps
set_option maxRecDepth 20000 in
theorem ggX6_fault_X3_faultAsQuarrel : GoodIn wsX6_fault wsX3_faultAsQuarrel := goodIn_r _ [30, 10, 31, 32, 33, 7, 34, 15, 16, 17, 18, 19, 20, 21, 22, 23, 24, 4, 25, 26, 27, 2, 3, 5, 35, 36, 37, 38, 39, 40, 49, 50] (by decide +kernel) (by decide +kernel)
set_option maxRecDepth 20000 in
theorem gX6_fault_X3_faultAsQuarrel_n81 : GoodIn wsX6_fault (wsX3_faultAsQuarrel) := ggX6_fault_X3_faultAsQuarrel
theorem dX6_fault_0 : decode cX6_fault 0 = .ok (.iload_n 1, 1) := by decide +kernel
theorem dX6_fault_1 : decode cX6_fault 1 = .ok (.iconst 0, 1) := by decide +kernel
theorem dX6_fault_2 : decode cX6_fault 2 = .ok (.iconst 1, 1) := by decide +kernel
theorem dX6_fault_3 : decode cX6_fault 3 = .ok (.invokestatic 59, 3) := by decide +kernel
theorem dX6_fault_6 : decode cX6_fault 6 = .ok (.ifCond .ne 6, 3) := by decide +kernel
theorem dX6_fault_9 : decode cX6_fault 9 = .ok (.bipush (-2), 2) := by decide +kernel
theorem dX6_fault_11 : decode cX6_fault 11 = .ok (.ireturn, 1) := by decide +kernel
theorem dX6_fault_12 : decode cX6_fault 12 = .ok (.iload_n 1, 1) := by decide +kernel
theorem dX6_fault_13 : decode cX6_fault 13 = .ok (.ifCond .ne 13, 3) := by decide +kernel
theorem dX6_fault_16 : decode cX6_fault 16 = .ok (.aload_n 0, 1) := by decide +kernel
theorem dX6_fault_17 : decode cX6_fault 17 = .ok (.getfield 10, 3) := by decide +kernel
theorem dX6_fault_20 : decode cX6_fault 20 = .ok (.invokevirtual 78, 3) := by decide +kernel
theorem dX6_fault_23 : decode cX6_fault 23 = .ok (.goto 10, 3) := by decide +kernel
theorem dX6_fault_26 : decode cX6_fault 26 = .ok (.aload_n 0, 1) := by decide +kernel
theorem dX6_fault_27 : decode cX6_fault 27 = .ok (.getfield 10, 3) := by decide +kernel
theorem dX6_fault_30 : decode cX6_fault 30 = .ok (.invokevirtual 81, 3) := by decide +kernel
theorem dX6_fault_33 : decode cX6_fault 33 = .ok (.ireturn, 1) := by decide +kernel
set_option maxRecDepth 20000 in
theorem ggX6_steps_X3_faultAsSteps : GoodIn wsX6_steps wsX3_faultAsSteps := goodIn_r _ [6, 7, 8, 9, 10, 4, 11, 12, 13, 14, 15, 16, 17, 18, 19, 20, 21, 22, 23, 24, 25, 26, 27, 28, 64, 65] (by decide +kernel) (by decide +kernel)
set_option maxRecDepth 20000 in
theorem gX6_steps_X3_faultAsSteps_n78 : GoodIn wsX6_steps (wsX3_faultAsSteps) := ggX6_steps_X3_faultAsSteps
set_option maxRecDepth 20000 in
theorem ggX6_steps_X3_size : GoodIn wsX6_steps wsX3_size := goodIn_r _ [31, 7, 64, 65] (by decide +kernel) (by decide +kernel)
set_option maxRecDepth 20000 in
theorem gX6_steps_X3_size_n71 : GoodIn wsX6_steps (wsX3_size) := ggX6_steps_X3_size
set_option maxRecDepth 20000 in
theorem ggX6_steps_X3_signAt : GoodIn wsX6_steps wsX3_signAt := goodIn_r _ [19, 7, 20, 21, 22, 23, 64, 65] (by decide +kernel) (by decide +kernel)
set_option maxRecDepth 20000 in
theorem gX6_steps_X3_signAt_n84 : GoodIn wsX6_steps (wsX3_signAt) := ggX6_steps_X3_signAt
set_option maxRecDepth 20000 in
theorem ggX6_steps_X3_insultAt : GoodIn wsX6_steps wsX3_insultAt := goodIn_r _ [15, 16, 17, 18, 4, 19, 7, 20, 21, 22, 23, 24, 25, 26, 27, 28, 64, 65] (by decide +kernel) (by decide +kernel)
set_option maxRecDepth 20000 in
theorem gX6_steps_X3_insultAt_n88 : GoodIn wsX6_steps (wsX3_insultAt) := ggX6_steps_X3_insultAt
set_option maxRecDepth 20000 in
theorem ggX6_steps_X4_setStep : GoodIn wsX6_steps wsX4_setStep := goodIn_r _ [35, 36, 24, 22, 25, 26, 27, 28, 37, 38, 39, 33, 40, 21, 23, 41, 42, 66, 67, 68, 69, 70] (by decide +kernel) (by decide +kernel)
set_option maxRecDepth 20000 in
theorem gX6_steps_X4_setStep_n91 : GoodIn wsX6_steps (wsX4_setStep) := ggX6_steps_X4_setStep
set_option maxRecDepth 20000 in
theorem ggX6_steps_X3_clear : GoodIn wsX6_steps wsX3_clear := goodIn_r _ [45, 7, 64, 65] (by decide +kernel) (by decide +kernel)
set_option maxRecDepth 20000 in
theorem gX6_steps_X3_clear_n75 : GoodIn wsX6_steps (wsX3_clear) := ggX6_steps_X3_clear
set_option maxRecDepth 20000 in
theorem ggX6_steps_X4_countSteps : GoodIn wsX6_steps wsX4_countSteps := goodIn_r _ [48, 37, 38, 39, 33, 40, 36, 21, 22, 23, 49, 50, 51, 52, 53, 54, 55, 66, 67, 68, 69, 70] (by decide +kernel) (by decide +kernel)
set_option maxRecDepth 20000 in
theorem gX6_steps_X4_countSteps_n95 : GoodIn wsX6_steps (wsX4_countSteps) := ggX6_steps_X4_countSteps
theorem dX6_steps_0 : decode cX6_steps 0 = .ok (.aload_n 0, 1) := by decide +kernel
theorem dX6_steps_1 : decode cX6_steps 1 = .ok (.getfield 10, 3) := by decide +kernel
theorem dX6_steps_4 : decode cX6_steps 4 = .ok (.invokevirtual 78, 3) := by decide +kernel
theorem dX6_steps_7 : decode cX6_steps 7 = .ok (.bipush (-6), 2) := by decide +kernel
theorem dX6_steps_9 : decode cX6_steps 9 = .ok (.if_icmp .eq 6, 3) := by decide +kernel
theorem dX6_steps_12 : decode cX6_steps 12 = .ok (.bipush (-5), 2) := by decide +kernel
theorem dX6_steps_14 : decode cX6_steps 14 = .ok (.ireturn, 1) := by decide +kernel
theorem dX6_steps_15 : decode cX6_steps 15 = .ok (.iconst 2, 1) := by decide +kernel
theorem dX6_steps_16 : decode cX6_steps 16 = .ok (.istore_n 1, 1) := by decide +kernel
theorem dX6_steps_17 : decode cX6_steps 17 = .ok (.iload_n 1, 1) := by decide +kernel
theorem dX6_steps_18 : decode cX6_steps 18 = .ok (.aload_n 0, 1) := by decide +kernel
theorem dX6_steps_19 : decode cX6_steps 19 = .ok (.getfield 10, 3) := by decide +kernel
theorem dX6_steps_22 : decode cX6_steps 22 = .ok (.invokevirtual 71, 3) := by decide +kernel
theorem dX6_steps_25 : decode cX6_steps 25 = .ok (.if_icmp .ge 50, 3) := by decide +kernel
theorem dX6_steps_28 : decode cX6_steps 28 = .ok (.aload_n 0, 1) := by decide +kernel
theorem dX6_steps_29 : decode cX6_steps 29 = .ok (.getfield 10, 3) := by decide +kernel
theorem dX6_steps_32 : decode cX6_steps 32 = .ok (.iload_n 1, 1) := by decide +kernel
theorem dX6_steps_33 : decode cX6_steps 33 = .ok (.iconst 1, 1) := by decide +kernel
theorem dX6_steps_34 : decode cX6_steps 34 = .ok (.isub, 1) := by decide +kernel
theorem dX6_steps_35 : decode cX6_steps 35 = .ok (.invokevirtual 84, 3) := by decide +kernel
theorem dX6_steps_38 : decode cX6_steps 38 = .ok (.bipush 62, 2) := by decide +kernel
theorem dX6_steps_40 : decode cX6_steps 40 = .ok (.if_icmp .ne 29, 3) := by decide +kernel
theorem dX6_steps_43 : decode cX6_steps 43 = .ok (.aload_n 0, 1) := by decide +kernel
theorem dX6_steps_44 : decode cX6_steps 44 = .ok (.getfield 19, 3) := by decide +kernel
theorem dX6_steps_47 : decode cX6_steps 47 = .ok (.aload_n 0, 1) := by decide +kernel
theorem dX6_steps_48 : decode cX6_steps 48 = .ok (.getfield 10, 3) := by decide +kernel
theorem dX6_steps_51 : decode cX6_steps 51 = .ok (.iload_n 1, 1) := by decide +kernel
theorem dX6_steps_52 : decode cX6_steps 52 = .ok (.iconst 2, 1) := by decide +kernel
theorem dX6_steps_53 : decode cX6_steps 53 = .ok (.isub, 1) := by decide +kernel
theorem dX6_steps_54 : decode cX6_steps 54 = .ok (.invokevirtual 88, 3) := by decide +kernel
theorem dX6_steps_57 : decode cX6_steps 57 = .ok (.aload_n 0, 1) := by decide +kernel
theorem dX6_steps_58 : decode cX6_steps 58 = .ok (.getfield 10, 3) := by decide +kernel
theorem dX6_steps_61 : decode cX6_steps 61 = .ok (.iload_n 1, 1) := by decide +kernel
theorem dX6_steps_62 : decode cX6_steps 62 = .ok (.invokevirtual 88, 3) := by decide +kernel
theorem dX6_steps_65 : decode cX6_steps 65 = .ok (.iconst 1, 1) := by decide +kernel
theorem dX6_steps_66 : decode cX6_steps 66 = .ok (.invokevirtual 91, 3) := by decide +kernel
theorem dX6_steps_69 : decode cX6_steps 69 = .ok (.iinc 1 2, 3) := by decide +kernel
theorem dX6_steps_72 : decode cX6_steps 72 = .ok (.goto (-55), 3) := by decide +kernel
theorem dX6_steps_75 : decode cX6_steps 75 = .ok (.aload_n 0, 1) := by decide +kernel
theorem dX6_steps_76 : decode cX6_steps 76 = .ok (.getfield 10, 3) := by decide +kernel
theorem dX6_steps_79 : decode cX6_steps 79 = .ok (.invokevirtual 75, 3) := by decide +kernel
theorem dX6_steps_82 : decode cX6_steps 82 = .ok (.aload_n 0, 1) := by decide +kernel
theorem dX6_steps_83 : decode cX6_steps 83 = .ok (.getfield 19, 3) := by decide +kernel
theorem dX6_steps_86 : decode cX6_steps 86 = .ok (.invokevirtual 95, 3) := by decide +kernel
theorem dX6_steps_89 : decode cX6_steps 89 = .ok (.ireturn, 1) := by decide +kernel
set_option maxRecDepth 20000 in
theorem ggX6_step_X6_isInsult : GoodIn wsX6_step wsX6_isInsult := goodIn_r _ [5, 6, 7, 4, 8] (by decide +kernel) (by decide +kernel)
set_option maxRecDepth 20000 in
theorem gX6_step_X6_isInsult : GoodIn wsX6_step (va_wsS RX6 98 yX6_isInsult wsX6_isInsult) := goodIn_app (goodIn_of _ (by decide +kernel)) ggX6_step_X6_isInsult
set_option maxRecDepth 20000 in
theorem ggX6_step_X4_worseThan : GoodIn wsX6_step wsX4_worseThan := goodIn_r _ [12, 13, 14, 4, 15, 33, 34, 35, 36, 37] (by decide +kernel) (by decide +kernel)
set_option maxRecDepth 20000 in
theorem gX6_step_X4_worseThan_n102 : GoodIn wsX6_step (wsX4_worseThan) := ggX6_step_X4_worseThan
set_option maxRecDepth 20000 in
theorem ggX6_step_X6_has : GoodIn wsX6_step wsX6_has := goodIn_r _ [18] (by decide +kernel) (by decide +kernel)
set_option maxRecDepth 20000 in
theorem gX6_step_X6_has : GoodIn wsX6_step (va_wsS RX6 105 yX6_has wsX6_has) := goodIn_app (goodIn_of _ (by decide +kernel)) ggX6_step_X6_has
set_option maxRecDepth 20000 in
theorem ggX6_step_X4_setStep : GoodIn wsX6_step wsX4_setStep := goodIn_r _ [21, 13, 3, 4, 5, 6, 7, 8, 22, 9, 11, 10, 12, 14, 15, 23, 24, 33, 34, 35, 36, 37] (by decide +kernel) (by decide +kernel)
set_option maxRecDepth 20000 in
theorem gX6_step_X4_setStep_n91 : GoodIn wsX6_step (wsX4_setStep) := ggX6_step_X4_setStep
theorem dX6_step_0 : decode cX6_step 0 = .ok (.iload_n 1, 1) := by decide +kernel
theorem dX6_step_1 : decode cX6_step 1 = .ok (.invokestatic 98, 3) := by decide +kernel
theorem dX6_step_4 : decode cX6_step 4 = .ok (.ifCond .eq 15, 3) := by decide +kernel
theorem dX6_step_7 : decode cX6_step 7 = .ok (.iload_n 2, 1) := by decide +kernel
theorem dX6_step_8 : decode cX6_step 8 = .ok (.invokestatic 98, 3) := by decide +kernel
theorem dX6_step_11 : decode cX6_step 11 = .ok (.ifCond .eq 8, 3) := by decide +kernel
theorem dX6_step_14 : decode cX6_step 14 = .ok (.iload_n 1, 1) := by decide +kernel
theorem dX6_step_15 : decode cX6_step 15 = .ok (.iload_n 2, 1) := by decide +kernel
theorem dX6_step_16 : decode cX6_step 16 = .ok (.if_icmp .ne 5, 3) := by decide +kernel
theorem dX6_step_19 : decode cX6_step 19 = .ok (.iconst (-1), 1) := by decide +kernel
theorem dX6_step_20 : decode cX6_step 20 = .ok (.ireturn, 1) := by decide +kernel
theorem dX6_step_21 : decode cX6_step 21 = .ok (.aload_n 0, 1) := by decide +kernel
theorem dX6_step_22 : decode cX6_step 22 = .ok (.getfield 19, 3) := by decide +kernel
theorem dX6_step_25 : decode cX6_step 25 = .ok (.iload_n 1, 1) := by decide +kernel
theorem dX6_step_26 : decode cX6_step 26 = .ok (.invokevirtual 102, 3) := by decide +kernel
theorem dX6_step_29 : decode cX6_step 29 = .ok (.iload_n 2, 1) := by decide +kernel
theorem dX6_step_30 : decode cX6_step 30 = .ok (.invokestatic 105, 3) := by decide +kernel
theorem dX6_step_33 : decode cX6_step 33 = .ok (.ifCond .eq 7, 3) := by decide +kernel
theorem dX6_step_36 : decode cX6_step 36 = .ok (.iconst 1, 1) := by decide +kernel
theorem dX6_step_37 : decode cX6_step 37 = .ok (.goto 4, 3) := by decide +kernel
theorem dX6_step_40 : decode cX6_step 40 = .ok (.iconst 0, 1) := by decide +kernel
theorem dX6_step_41 : decode cX6_step 41 = .ok (.istore 4, 2) := by decide +kernel
theorem dX6_step_43 : decode cX6_step 43 = .ok (.aload_n 0, 1) := by decide +kernel
theorem dX6_step_44 : decode cX6_step 44 = .ok (.getfield 19, 3) := by decide +kernel
theorem dX6_step_47 : decode cX6_step 47 = .ok (.iload_n 1, 1) := by decide +kernel
theorem dX6_step_48 : decode cX6_step 48 = .ok (.iload_n 2, 1) := by decide +kernel
theorem dX6_step_49 : decode cX6_step 49 = .ok (.iload_n 3, 1) := by decide +kernel
theorem dX6_step_50 : decode cX6_step 50 = .ok (.invokevirtual 91, 3) := by decide +kernel
theorem dX6_step_53 : decode cX6_step 53 = .ok (.iload 4, 2) := by decide +kernel
theorem dX6_step_55 : decode cX6_step 55 = .ok (.ireturn, 1) := by decide +kernel
set_option maxRecDepth 20000 in
theorem ggX6_needs_X6_isInsult : GoodIn wsX6_needs wsX6_isInsult := goodIn_r _ [5, 6, 7, 4, 8] (by decide +kernel) (by decide +kernel)
set_option maxRecDepth 20000 in
theorem gX6_needs_X6_isInsult : GoodIn wsX6_needs (va_wsS RX6 98 yX6_isInsult wsX6_isInsult) := goodIn_app (goodIn_of _ (by decide +kernel)) ggX6_needs_X6_isInsult
set_option maxRecDepth 20000 in
theorem ggX6_needs_X6_within : GoodIn wsX6_needs wsX6_within := goodIn_r _ [8] (by decide +kernel) (by decide +kernel)
set_option maxRecDepth 20000 in
theorem gX6_needs_X6_within : GoodIn wsX6_needs (va_wsS RX6 59 yX6_within wsX6_within) := goodIn_app (goodIn_of _ (by decide +kernel)) ggX6_needs_X6_within
set_option maxRecDepth 20000 in
theorem ggX6_needs_X4_neededBy : GoodIn wsX6_needs wsX4_neededBy := goodIn_r _ [12, 13, 14, 4, 15, 29, 30, 31, 32, 33] (by decide +kernel) (by decide +kernel)
set_option maxRecDepth 20000 in
theorem gX6_needs_X4_neededBy_n109 : GoodIn wsX6_needs (wsX4_neededBy) := ggX6_needs_X4_neededBy
set_option maxRecDepth 20000 in
theorem ggX6_needs_X4_setNeeded : GoodIn wsX6_needs wsX4_setNeeded := goodIn_r _ [18, 13, 19, 4, 20, 29, 30, 31, 32, 33] (by decide +kernel) (by decide +kernel)
set_option maxRecDepth 20000 in
theorem gX6_needs_X4_setNeeded_n112 : GoodIn wsX6_needs (wsX4_setNeeded) := ggX6_needs_X4_setNeeded
theorem dX6_needs_0 : decode cX6_needs 0 = .ok (.iload_n 1, 1) := by decide +kernel
theorem dX6_needs_1 : decode cX6_needs 1 = .ok (.invokestatic 98, 3) := by decide +kernel
theorem dX6_needs_4 : decode cX6_needs 4 = .ok (.ifCond .ne 5, 3) := by decide +kernel
theorem dX6_needs_7 : decode cX6_needs 7 = .ok (.iconst (-1), 1) := by decide +kernel
theorem dX6_needs_8 : decode cX6_needs 8 = .ok (.ireturn, 1) := by decide +kernel
theorem dX6_needs_9 : decode cX6_needs 9 = .ok (.iload_n 2, 1) := by decide +kernel
theorem dX6_needs_10 : decode cX6_needs 10 = .ok (.iconst 0, 1) := by decide +kernel
theorem dX6_needs_11 : decode cX6_needs 11 = .ok (.bipush 63, 2) := by decide +kernel
theorem dX6_needs_13 : decode cX6_needs 13 = .ok (.invokestatic 59, 3) := by decide +kernel
theorem dX6_needs_16 : decode cX6_needs 16 = .ok (.ifCond .ne 6, 3) := by decide +kernel
theorem dX6_needs_19 : decode cX6_needs 19 = .ok (.bipush (-2), 2) := by decide +kernel
theorem dX6_needs_21 : decode cX6_needs 21 = .ok (.ireturn, 1) := by decide +kernel
theorem dX6_needs_22 : decode cX6_needs 22 = .ok (.aload_n 0, 1) := by decide +kernel
theorem dX6_needs_23 : decode cX6_needs 23 = .ok (.getfield 19, 3) := by decide +kernel
theorem dX6_needs_26 : decode cX6_needs 26 = .ok (.iload_n 1, 1) := by decide +kernel
theorem dX6_needs_27 : decode cX6_needs 27 = .ok (.invokevirtual 109, 3) := by decide +kernel
theorem dX6_needs_30 : decode cX6_needs 30 = .ok (.istore_n 3, 1) := by decide +kernel
theorem dX6_needs_31 : decode cX6_needs 31 = .ok (.aload_n 0, 1) := by decide +kernel
theorem dX6_needs_32 : decode cX6_needs 32 = .ok (.getfield 19, 3) := by decide +kernel
theorem dX6_needs_35 : decode cX6_needs 35 = .ok (.iload_n 1, 1) := by decide +kernel
theorem dX6_needs_36 : decode cX6_needs 36 = .ok (.iload_n 2, 1) := by decide +kernel
theorem dX6_needs_37 : decode cX6_needs 37 = .ok (.invokevirtual 112, 3) := by decide +kernel
theorem dX6_needs_40 : decode cX6_needs 40 = .ok (.iload_n 3, 1) := by decide +kernel
theorem dX6_needs_41 : decode cX6_needs 41 = .ok (.ireturn, 1) := by decide +kernel
set_option maxRecDepth 20000 in
theorem ggX6_man_X6_isMan : GoodIn wsX6_man wsX6_isMan := goodIn_r _ [5, 6, 7, 4, 8] (by decide +kernel) (by decide +kernel)
set_option maxRecDepth 20000 in
theorem gX6_man_X6_isMan : GoodIn wsX6_man (va_wsS RX6 116 yX6_isMan wsX6_isMan) := goodIn_app (goodIn_of _ (by decide +kernel)) ggX6_man_X6_isMan
set_option maxRecDepth 20000 in
theorem ggX6_man_X6_within : GoodIn wsX6_man wsX6_within := goodIn_r _ [8] (by decide +kernel) (by decide +kernel)
set_option maxRecDepth 20000 in
theorem gX6_man_X6_within : GoodIn wsX6_man (va_wsS RX6 59 yX6_within wsX6_within) := goodIn_app (goodIn_of _ (by decide +kernel)) ggX6_man_X6_within
set_option maxRecDepth 20000 in
theorem ggX6_man_X4_traitsOf : GoodIn wsX6_man wsX4_traitsOf := goodIn_r _ [12, 13, 14, 4, 15, 36, 37, 38, 39, 40] (by decide +kernel) (by decide +kernel)
set_option maxRecDepth 20000 in
theorem gX6_man_X4_traitsOf_n119 : GoodIn wsX6_man (wsX4_traitsOf) := ggX6_man_X4_traitsOf
set_option maxRecDepth 20000 in
theorem ggX6_man_X4_setTraits : GoodIn wsX6_man wsX4_setTraits := goodIn_r _ [18, 13, 19, 4, 20, 36, 37, 38, 39, 40] (by decide +kernel) (by decide +kernel)
set_option maxRecDepth 20000 in
theorem gX6_man_X4_setTraits_n122 : GoodIn wsX6_man (wsX4_setTraits) := ggX6_man_X4_setTraits
set_option maxRecDepth 20000 in
theorem ggX6_man_X4_knownTo : GoodIn wsX6_man wsX4_knownTo := goodIn_r _ [23, 24, 14, 4, 15, 36, 37, 38, 39, 40] (by decide +kernel) (by decide +kernel)
set_option maxRecDepth 20000 in
theorem gX6_man_X4_knownTo_n125 : GoodIn wsX6_man (wsX4_knownTo) := ggX6_man_X4_knownTo
set_option maxRecDepth 20000 in
theorem ggX6_man_X4_setKnown : GoodIn wsX6_man wsX4_setKnown := goodIn_r _ [27, 24, 19, 4, 20, 36, 37, 38, 39, 40] (by decide +kernel) (by decide +kernel)
set_option maxRecDepth 20000 in
theorem gX6_man_X4_setKnown_n128 : GoodIn wsX6_man (wsX4_setKnown) := ggX6_man_X4_setKnown
theorem dX6_man_0 : decode cX6_man 0 = .ok (.iload_n 1, 1) := by decide +kernel
theorem dX6_man_1 : decode cX6_man 1 = .ok (.invokestatic 116, 3) := by decide +kernel
theorem dX6_man_4 : decode cX6_man 4 = .ok (.ifCond .ne 5, 3) := by decide +kernel
theorem dX6_man_7 : decode cX6_man 7 = .ok (.iconst (-1), 1) := by decide +kernel
theorem dX6_man_8 : decode cX6_man 8 = .ok (.ireturn, 1) := by decide +kernel
theorem dX6_man_9 : decode cX6_man 9 = .ok (.iload_n 2, 1) := by decide +kernel
theorem dX6_man_10 : decode cX6_man 10 = .ok (.iconst 0, 1) := by decide +kernel
theorem dX6_man_11 : decode cX6_man 11 = .ok (.iconst 1, 1) := by decide +kernel
theorem dX6_man_12 : decode cX6_man 12 = .ok (.invokestatic 59, 3) := by decide +kernel
theorem dX6_man_15 : decode cX6_man 15 = .ok (.ifCond .ne 6, 3) := by decide +kernel
theorem dX6_man_18 : decode cX6_man 18 = .ok (.bipush (-2), 2) := by decide +kernel
theorem dX6_man_20 : decode cX6_man 20 = .ok (.ireturn, 1) := by decide +kernel
theorem dX6_man_21 : decode cX6_man 21 = .ok (.iload_n 3, 1) := by decide +kernel
theorem dX6_man_22 : decode cX6_man 22 = .ok (.iconst 0, 1) := by decide +kernel
theorem dX6_man_23 : decode cX6_man 23 = .ok (.iload_n 2, 1) := by decide +kernel
theorem dX6_man_24 : decode cX6_man 24 = .ok (.ifCond .ne 8, 3) := by decide +kernel
theorem dX6_man_27 : decode cX6_man 27 = .ok (.bipush 63, 2) := by decide +kernel
theorem dX6_man_29 : decode cX6_man 29 = .ok (.goto 6, 3) := by decide +kernel
theorem dX6_man_32 : decode cX6_man 32 = .ok (.sipush 1023, 3) := by decide +kernel
theorem dX6_man_35 : decode cX6_man 35 = .ok (.invokestatic 59, 3) := by decide +kernel
theorem dX6_man_38 : decode cX6_man 38 = .ok (.ifCond .ne 6, 3) := by decide +kernel
theorem dX6_man_41 : decode cX6_man 41 = .ok (.bipush (-2), 2) := by decide +kernel
theorem dX6_man_43 : decode cX6_man 43 = .ok (.ireturn, 1) := by decide +kernel
theorem dX6_man_44 : decode cX6_man 44 = .ok (.iload_n 2, 1) := by decide +kernel
theorem dX6_man_45 : decode cX6_man 45 = .ok (.ifCond .ne 25, 3) := by decide +kernel
theorem dX6_man_48 : decode cX6_man 48 = .ok (.aload_n 0, 1) := by decide +kernel
theorem dX6_man_49 : decode cX6_man 49 = .ok (.getfield 19, 3) := by decide +kernel
theorem dX6_man_52 : decode cX6_man 52 = .ok (.iload_n 1, 1) := by decide +kernel
theorem dX6_man_53 : decode cX6_man 53 = .ok (.invokevirtual 119, 3) := by decide +kernel
theorem dX6_man_56 : decode cX6_man 56 = .ok (.istore 4, 2) := by decide +kernel
theorem dX6_man_58 : decode cX6_man 58 = .ok (.aload_n 0, 1) := by decide +kernel
theorem dX6_man_59 : decode cX6_man 59 = .ok (.getfield 19, 3) := by decide +kernel
theorem dX6_man_62 : decode cX6_man 62 = .ok (.iload_n 1, 1) := by decide +kernel
theorem dX6_man_63 : decode cX6_man 63 = .ok (.iload_n 3, 1) := by decide +kernel
theorem dX6_man_64 : decode cX6_man 64 = .ok (.invokevirtual 122, 3) := by decide +kernel
theorem dX6_man_67 : decode cX6_man 67 = .ok (.goto 22, 3) := by decide +kernel
theorem dX6_man_70 : decode cX6_man 70 = .ok (.aload_n 0, 1) := by decide +kernel
theorem dX6_man_71 : decode cX6_man 71 = .ok (.getfield 19, 3) := by decide +kernel
theorem dX6_man_74 : decode cX6_man 74 = .ok (.iload_n 1, 1) := by decide +kernel
theorem dX6_man_75 : decode cX6_man 75 = .ok (.invokevirtual 125, 3) := by decide +kernel
theorem dX6_man_78 : decode cX6_man 78 = .ok (.istore 4, 2) := by decide +kernel
theorem dX6_man_80 : decode cX6_man 80 = .ok (.aload_n 0, 1) := by decide +kernel
theorem dX6_man_81 : decode cX6_man 81 = .ok (.getfield 19, 3) := by decide +kernel
theorem dX6_man_84 : decode cX6_man 84 = .ok (.iload_n 1, 1) := by decide +kernel
theorem dX6_man_85 : decode cX6_man 85 = .ok (.iload_n 3, 1) := by decide +kernel
theorem dX6_man_86 : decode cX6_man 86 = .ok (.invokevirtual 128, 3) := by decide +kernel
theorem dX6_man_89 : decode cX6_man 89 = .ok (.iload 4, 2) := by decide +kernel
theorem dX6_man_91 : decode cX6_man 91 = .ok (.ireturn, 1) := by decide +kernel
set_option maxRecDepth 20000 in
theorem ggX6_fit_X6_isMan : GoodIn wsX6_fit wsX6_isMan := goodIn_r _ [5, 6, 7, 4, 8] (by decide +kernel) (by decide +kernel)
set_option maxRecDepth 20000 in
theorem gX6_fit_X6_isMan : GoodIn wsX6_fit (va_wsS RX6 116 yX6_isMan wsX6_isMan) := goodIn_app (goodIn_of _ (by decide +kernel)) ggX6_fit_X6_isMan
set_option maxRecDepth 20000 in
theorem ggX6_fit_X4_fitting : GoodIn wsX6_fit wsX4_fitting := goodIn_r _ [12, 13, 14, 15, 10, 16, 17, 18, 4, 19, 20, 21, 22, 23, 24, 33, 34, 35, 36, 37] (by decide +kernel) (by decide +kernel)
set_option maxRecDepth 20000 in
theorem gX6_fit_X4_fitting_n131 : GoodIn wsX6_fit (wsX4_fitting) := ggX6_fit_X4_fitting
theorem dX6_fit_0 : decode cX6_fit 0 = .ok (.iload_n 1, 1) := by decide +kernel
theorem dX6_fit_1 : decode cX6_fit 1 = .ok (.invokestatic 116, 3) := by decide +kernel
theorem dX6_fit_4 : decode cX6_fit 4 = .ok (.ifCond .ne 5, 3) := by decide +kernel
theorem dX6_fit_7 : decode cX6_fit 7 = .ok (.iconst (-1), 1) := by decide +kernel
theorem dX6_fit_8 : decode cX6_fit 8 = .ok (.ireturn, 1) := by decide +kernel
theorem dX6_fit_9 : decode cX6_fit 9 = .ok (.aload_n 0, 1) := by decide +kernel
theorem dX6_fit_10 : decode cX6_fit 10 = .ok (.getfield 19, 3) := by decide +kernel
theorem dX6_fit_13 : decode cX6_fit 13 = .ok (.iload_n 1, 1) := by decide +kernel
theorem dX6_fit_14 : decode cX6_fit 14 = .ok (.invokevirtual 131, 3) := by decide +kernel
theorem dX6_fit_17 : decode cX6_fit 17 = .ok (.ireturn, 1) := by decide +kernel
set_option maxRecDepth 20000 in
theorem ggX6_judge_X6_within : GoodIn wsX6_judge wsX6_within := goodIn_r _ [5] (by decide +kernel) (by decide +kernel)
set_option maxRecDepth 20000 in
theorem gX6_judge_X6_within : GoodIn wsX6_judge (va_wsS RX6 59 yX6_within wsX6_within) := goodIn_app (goodIn_of _ (by decide +kernel)) ggX6_judge_X6_within
set_option maxRecDepth 20000 in
theorem ggX6_judge_X3_faultAsQuarrel : GoodIn wsX6_judge wsX3_faultAsQuarrel := goodIn_r _ [9, 10, 11, 12, 13, 7, 14, 15, 16, 17, 18, 19, 20, 21, 22, 23, 24, 4, 25, 26, 27, 2, 3, 5, 28, 29, 30, 31, 32, 33, 76, 77] (by decide +kernel) (by decide +kernel)
set_option maxRecDepth 20000 in
theorem gX6_judge_X3_faultAsQuarrel_n81 : GoodIn wsX6_judge (wsX3_faultAsQuarrel) := ggX6_judge_X3_faultAsQuarrel
set_option maxRecDepth 20000 in
theorem ggX6_judge_X3_size : GoodIn wsX6_judge wsX3_size := goodIn_r _ [36, 10, 76, 77] (by decide +kernel) (by decide +kernel)
set_option maxRecDepth 20000 in
theorem gX6_judge_X3_size_n71 : GoodIn wsX6_judge (wsX3_size) := ggX6_judge_X3_size
set_option maxRecDepth 20000 in
theorem ggX6_judge_X6_whyNone : GoodIn wsX6_judge wsX6_whyNone := goodIn_r _ [40, 1, 41, 29, 7, 30, 31, 19, 20, 21, 22, 10, 23, 24, 4, 25, 32, 33, 2, 3, 5, 16, 17, 18, 26, 27, 42, 43, 44, 45, 46, 47, 48, 49, 50, 51, 52, 53, 54, 55, 56, 57, 58, 59, 60, 61, 62, 63, 64, 65, 66, 67, 68, 69, 70, 71, 72, 73, 74, 75, 76, 77, 78, 79, 80, 81, 82] (by decide +kernel) (by decide +kernel)
set_option maxRecDepth 20000 in
theorem gX6_judge_X6_whyNone : GoodIn wsX6_judge (wsV RX6 134 RX6 yX6_whyNone wsX6_whyNone) := goodIn_app (goodIn_of _ (by decide +kernel)) ggX6_judge_X6_whyNone
theorem dX6_judge_0 : decode cX6_judge 0 = .ok (.iload_n 1, 1) := by decide +kernel
theorem dX6_judge_1 : decode cX6_judge 1 = .ok (.iconst 0, 1) := by decide +kernel
theorem dX6_judge_2 : decode cX6_judge 2 = .ok (.iconst 1, 1) := by decide +kernel
theorem dX6_judge_3 : decode cX6_judge 3 = .ok (.invokestatic 59, 3) := by decide +kernel
theorem dX6_judge_6 : decode cX6_judge 6 = .ok (.ifCond .ne 6, 3) := by decide +kernel
theorem dX6_judge_9 : decode cX6_judge 9 = .ok (.bipush (-2), 2) := by decide +kernel
theorem dX6_judge_11 : decode cX6_judge 11 = .ok (.ireturn, 1) := by decide +kernel
theorem dX6_judge_12 : decode cX6_judge 12 = .ok (.aload_n 0, 1) := by decide +kernel
theorem dX6_judge_13 : decode cX6_judge 13 = .ok (.getfield 10, 3) := by decide +kernel
theorem dX6_judge_16 : decode cX6_judge 16 = .ok (.invokevirtual 81, 3) := by decide +kernel
theorem dX6_judge_19 : decode cX6_judge 19 = .ok (.bipush (-6), 2) := by decide +kernel
theorem dX6_judge_21 : decode cX6_judge 21 = .ok (.if_icmp .eq 6, 3) := by decide +kernel
theorem dX6_judge_24 : decode cX6_judge 24 = .ok (.bipush (-5), 2) := by decide +kernel
theorem dX6_judge_26 : decode cX6_judge 26 = .ok (.ireturn, 1) := by decide +kernel
theorem dX6_judge_27 : decode cX6_judge 27 = .ok (.aload_n 0, 1) := by decide +kernel
theorem dX6_judge_28 : decode cX6_judge 28 = .ok (.getfield 10, 3) := by decide +kernel
theorem dX6_judge_31 : decode cX6_judge 31 = .ok (.invokevirtual 71, 3) := by decide +kernel
theorem dX6_judge_34 : decode cX6_judge 34 = .ok (.iconst 2, 1) := by decide +kernel
theorem dX6_judge_35 : decode cX6_judge 35 = .ok (.idiv, 1) := by decide +kernel
theorem dX6_judge_36 : decode cX6_judge 36 = .ok (.istore_n 2, 1) := by decide +kernel
theorem dX6_judge_37 : decode cX6_judge 37 = .ok (.iconst 0, 1) := by decide +kernel
theorem dX6_judge_38 : decode cX6_judge 38 = .ok (.istore_n 3, 1) := by decide +kernel
theorem dX6_judge_39 : decode cX6_judge 39 = .ok (.iload_n 3, 1) := by decide +kernel
theorem dX6_judge_40 : decode cX6_judge 40 = .ok (.iload_n 2, 1) := by decide +kernel
theorem dX6_judge_41 : decode cX6_judge 41 = .ok (.if_icmp .ge 32, 3) := by decide +kernel
theorem dX6_judge_44 : decode cX6_judge 44 = .ok (.aload_n 0, 1) := by decide +kernel
theorem dX6_judge_45 : decode cX6_judge 45 = .ok (.iload_n 3, 1) := by decide +kernel
theorem dX6_judge_46 : decode cX6_judge 46 = .ok (.invokevirtual 134, 3) := by decide +kernel
theorem dX6_judge_49 : decode cX6_judge 49 = .ok (.istore 4, 2) := by decide +kernel
theorem dX6_judge_51 : decode cX6_judge 51 = .ok (.iload 4, 2) := by decide +kernel
theorem dX6_judge_53 : decode cX6_judge 53 = .ok (.ifCond .eq 14, 3) := by decide +kernel
theorem dX6_judge_56 : decode cX6_judge 56 = .ok (.iload_n 1, 1) := by decide +kernel
theorem dX6_judge_57 : decode cX6_judge 57 = .ok (.ifCond .ne 7, 3) := by decide +kernel
theorem dX6_judge_60 : decode cX6_judge 60 = .ok (.iload_n 3, 1) := by decide +kernel
theorem dX6_judge_61 : decode cX6_judge 61 = .ok (.goto 5, 3) := by decide +kernel
theorem dX6_judge_64 : decode cX6_judge 64 = .ok (.iload 4, 2) := by decide +kernel
theorem dX6_judge_66 : decode cX6_judge 66 = .ok (.ireturn, 1) := by decide +kernel
theorem dX6_judge_67 : decode cX6_judge 67 = .ok (.iinc 3 1, 3) := by decide +kernel
theorem dX6_judge_70 : decode cX6_judge 70 = .ok (.goto (-31), 3) := by decide +kernel
theorem dX6_judge_73 : decode cX6_judge 73 = .ok (.bipush (-6), 2) := by decide +kernel
theorem dX6_judge_75 : decode cX6_judge 75 = .ok (.ireturn, 1) := by decide +kernel
set_option maxRecDepth 20000 in
theorem ggX6_match_X6_areTwo : GoodIn wsX6_match wsX6_areTwo := goodIn_r _ [6, 7, 8, 5, 9, 10, 11, 12] (by decide +kernel) (by decide +kernel)
set_option maxRecDepth 20000 in
theorem gX6_match_X6_areTwo : GoodIn wsX6_match (va_wsS RX6 137 yX6_areTwo wsX6_areTwo) := goodIn_app (goodIn_of _ (by decide +kernel)) ggX6_match_X6_areTwo
set_option maxRecDepth 20000 in
theorem ggX6_match_X6_within : GoodIn wsX6_match wsX6_within := goodIn_r _ [12] (by decide +kernel) (by decide +kernel)
set_option maxRecDepth 20000 in
theorem gX6_match_X6_within : GoodIn wsX6_match (va_wsS RX6 59 yX6_within wsX6_within) := goodIn_app (goodIn_of _ (by decide +kernel)) ggX6_match_X6_within
set_option maxRecDepth 20000 in
theorem ggX6_match_X4_sayable : GoodIn wsX6_match wsX4_sayable := goodIn_r _ [16, 17, 18, 19, 14, 20, 21, 22, 5, 23, 24, 25, 26, 27, 28, 29, 30, 31, 32, 33, 34, 35, 36, 37, 101, 102, 103, 104, 105] (by decide +kernel) (by decide +kernel)
set_option maxRecDepth 20000 in
theorem gX6_match_X4_sayable_n140 : GoodIn wsX6_match (wsX4_sayable) := ggX6_match_X4_sayable
set_option maxRecDepth 20000 in
theorem ggX6_match_X0_fight : GoodIn wsX6_match wsX0_fight := goodIn_r _ [41, 42, 43, 44, 45, 46, 39, 47, 48, 49, 50, 51, 52, 53, 54, 55, 56, 57, 58, 59, 60, 61, 62, 5, 63, 64, 65, 66, 67, 68, 69, 70, 71, 72, 73, 22, 23, 74, 14, 75, 76, 77, 78, 79, 106, 107, 108, 109, 110, 111, 112, 101, 102, 103, 104, 105] (by decide +kernel) (by decide +kernel)
set_option maxRecDepth 20000 in
theorem gX6_match_X0_fight_n144 : GoodIn wsX6_match (wsX0_fight) := ggX6_match_X0_fight
set_option maxRecDepth 20000 in
theorem ggX6_match_X6_outcome : GoodIn wsX6_match wsX6_outcome := goodIn_r _ [83, 2, 84, 39, 85, 86, 50, 87, 88, 89, 90, 91, 92, 49, 93, 94, 95, 96, 97, 98, 99, 100, 106, 107, 108, 109, 110, 111, 112] (by decide +kernel) (by decide +kernel)
set_option maxRecDepth 20000 in
theorem gX6_match_X6_outcome : GoodIn wsX6_match (wsV RX6 148 RX6 yX6_outcome wsX6_outcome) := goodIn_app (goodIn_of _ (by decide +kernel)) ggX6_match_X6_outcome
theorem dX6_match_0 : decode cX6_match 0 = .ok (.iload_n 1, 1) := by decide +kernel
theorem dX6_match_1 : decode cX6_match 1 = .ok (.iload_n 2, 1) := by decide +kernel
theorem dX6_match_2 : decode cX6_match 2 = .ok (.invokestatic 137, 3) := by decide +kernel
theorem dX6_match_5 : decode cX6_match 5 = .ok (.ifCond .ne 5, 3) := by decide +kernel
theorem dX6_match_8 : decode cX6_match 8 = .ok (.iconst (-1), 1) := by decide +kernel
theorem dX6_match_9 : decode cX6_match 9 = .ok (.ireturn, 1) := by decide +kernel
theorem dX6_match_10 : decode cX6_match 10 = .ok (.iload_n 3, 1) := by decide +kernel
theorem dX6_match_11 : decode cX6_match 11 = .ok (.iconst 0, 1) := by decide +kernel
theorem dX6_match_12 : decode cX6_match 12 = .ok (.iconst 2, 1) := by decide +kernel
theorem dX6_match_13 : decode cX6_match 13 = .ok (.invokestatic 59, 3) := by decide +kernel
theorem dX6_match_16 : decode cX6_match 16 = .ok (.ifCond .ne 6, 3) := by decide +kernel
theorem dX6_match_19 : decode cX6_match 19 = .ok (.bipush (-2), 2) := by decide +kernel
theorem dX6_match_21 : decode cX6_match 21 = .ok (.ireturn, 1) := by decide +kernel
theorem dX6_match_22 : decode cX6_match 22 = .ok (.aload_n 0, 1) := by decide +kernel
theorem dX6_match_23 : decode cX6_match 23 = .ok (.getfield 19, 3) := by decide +kernel
theorem dX6_match_26 : decode cX6_match 26 = .ok (.iload_n 1, 1) := by decide +kernel
theorem dX6_match_27 : decode cX6_match 27 = .ok (.iload_n 2, 1) := by decide +kernel
theorem dX6_match_28 : decode cX6_match 28 = .ok (.invokevirtual 140, 3) := by decide +kernel
theorem dX6_match_31 : decode cX6_match 31 = .ok (.istore 4, 2) := by decide +kernel
theorem dX6_match_33 : decode cX6_match 33 = .ok (.aload_n 0, 1) := by decide +kernel
theorem dX6_match_34 : decode cX6_match 34 = .ok (.getfield 34, 3) := by decide +kernel
theorem dX6_match_37 : decode cX6_match 37 = .ok (.iload 4, 2) := by decide +kernel
theorem dX6_match_39 : decode cX6_match 39 = .ok (.iconst 0, 1) := by decide +kernel
theorem dX6_match_40 : decode cX6_match 40 = .ok (.iload 4, 2) := by decide +kernel
theorem dX6_match_42 : decode cX6_match 42 = .ok (.aload_n 0, 1) := by decide +kernel
theorem dX6_match_43 : decode cX6_match 43 = .ok (.getfield 19, 3) := by decide +kernel
theorem dX6_match_46 : decode cX6_match 46 = .ok (.iload_n 2, 1) := by decide +kernel
theorem dX6_match_47 : decode cX6_match 47 = .ok (.iload_n 1, 1) := by decide +kernel
theorem dX6_match_48 : decode cX6_match 48 = .ok (.invokevirtual 140, 3) := by decide +kernel
theorem dX6_match_51 : decode cX6_match 51 = .ok (.iload_n 3, 1) := by decide +kernel
theorem dX6_match_52 : decode cX6_match 52 = .ok (.ifCond .ne 7, 3) := by decide +kernel
theorem dX6_match_55 : decode cX6_match 55 = .ok (.iconst 1, 1) := by decide +kernel
theorem dX6_match_56 : decode cX6_match 56 = .ok (.goto 4, 3) := by decide +kernel
theorem dX6_match_59 : decode cX6_match 59 = .ok (.iconst 0, 1) := by decide +kernel
theorem dX6_match_60 : decode cX6_match 60 = .ok (.invokevirtual 144, 3) := by decide +kernel
theorem dX6_match_63 : decode cX6_match 63 = .ok (.aload_n 0, 1) := by decide +kernel
theorem dX6_match_64 : decode cX6_match 64 = .ok (.iload_n 1, 1) := by decide +kernel
theorem dX6_match_65 : decode cX6_match 65 = .ok (.iload_n 2, 1) := by decide +kernel
theorem dX6_match_66 : decode cX6_match 66 = .ok (.iload_n 3, 1) := by decide +kernel
theorem dX6_match_67 : decode cX6_match 67 = .ok (.invokevirtual 148, 3) := by decide +kernel
theorem dX6_match_70 : decode cX6_match 70 = .ok (.ireturn, 1) := by decide +kernel
set_option maxRecDepth 20000 in
theorem ggX6_middle_X6_areTwo : GoodIn wsX6_middle wsX6_areTwo := goodIn_r _ [6, 7, 8, 5, 9, 10, 11, 12] (by decide +kernel) (by decide +kernel)
set_option maxRecDepth 20000 in
theorem gX6_middle_X6_areTwo : GoodIn wsX6_middle (va_wsS RX6 137 yX6_areTwo wsX6_areTwo) := goodIn_app (goodIn_of _ (by decide +kernel)) ggX6_middle_X6_areTwo
set_option maxRecDepth 20000 in
theorem ggX6_middle_X6_isInsult : GoodIn wsX6_middle wsX6_isInsult := goodIn_r _ [15, 10, 11, 5, 12] (by decide +kernel) (by decide +kernel)
set_option maxRecDepth 20000 in
theorem gX6_middle_X6_isInsult : GoodIn wsX6_middle (va_wsS RX6 98 yX6_isInsult wsX6_isInsult) := goodIn_app (goodIn_of _ (by decide +kernel)) ggX6_middle_X6_isInsult
set_option maxRecDepth 20000 in
theorem ggX6_middle_X6_within : GoodIn wsX6_middle wsX6_within := goodIn_r _ [12] (by decide +kernel) (by decide +kernel)
set_option maxRecDepth 20000 in
theorem gX6_middle_X6_within : GoodIn wsX6_middle (va_wsS RX6 59 yX6_within wsX6_within) := goodIn_app (goodIn_of _ (by decide +kernel)) ggX6_middle_X6_within
set_option maxRecDepth 20000 in
theorem ggX6_middle_X6_has : GoodIn wsX6_middle wsX6_has := goodIn_r _ [18] (by decide +kernel) (by decide +kernel)
set_option maxRecDepth 20000 in
theorem gX6_middle_X6_has : GoodIn wsX6_middle (va_wsS RX6 105 yX6_has wsX6_has) := goodIn_app (goodIn_of _ (by decide +kernel)) ggX6_middle_X6_has
set_option maxRecDepth 20000 in
theorem ggX6_middle_X4_sayable : GoodIn wsX6_middle wsX4_sayable := goodIn_r _ [22, 23, 24, 25, 20, 26, 27, 28, 5, 29, 30, 31, 32, 33, 34, 35, 36, 37, 38, 39, 40, 41, 42, 43, 105, 106, 107, 108, 109] (by decide +kernel) (by decide +kernel)
set_option maxRecDepth 20000 in
theorem gX6_middle_X4_sayable_n140 : GoodIn wsX6_middle (wsX4_sayable) := ggX6_middle_X4_sayable
set_option maxRecDepth 20000 in
theorem ggX6_middle_X4_worseThan : GoodIn wsX6_middle wsX4_worseThan := goodIn_r _ [46, 47, 28, 5, 29, 105, 106, 107, 108, 109] (by decide +kernel) (by decide +kernel)
set_option maxRecDepth 20000 in
theorem gX6_middle_X4_worseThan_n102 : GoodIn wsX6_middle (wsX4_worseThan) := ggX6_middle_X4_worseThan
set_option maxRecDepth 20000 in
theorem ggX6_middle_X0_fight : GoodIn wsX6_middle wsX0_fight := goodIn_r _ [51, 52, 53, 54, 55, 56, 49, 57, 58, 59, 60, 61, 62, 63, 64, 65, 66, 67, 68, 69, 70, 71, 17, 5, 18, 72, 73, 74, 75, 76, 77, 78, 79, 80, 81, 28, 29, 44, 20, 45, 46, 47, 82, 83, 110, 111, 112, 113, 114, 115, 116, 105, 106, 107, 108, 109] (by decide +kernel) (by decide +kernel)
set_option maxRecDepth 20000 in
theorem gX6_middle_X0_fight_n144 : GoodIn wsX6_middle (wsX0_fight) := ggX6_middle_X0_fight
set_option maxRecDepth 20000 in
theorem ggX6_middle_X6_outcome : GoodIn wsX6_middle wsX6_outcome := goodIn_r _ [87, 2, 88, 49, 89, 90, 60, 91, 92, 93, 94, 95, 96, 59, 97, 98, 99, 100, 101, 102, 103, 104, 110, 111, 112, 113, 114, 115, 116] (by decide +kernel) (by decide +kernel)
set_option maxRecDepth 20000 in
theorem gX6_middle_X6_outcome : GoodIn wsX6_middle (wsV RX6 148 RX6 yX6_outcome wsX6_outcome) := goodIn_app (goodIn_of _ (by decide +kernel)) ggX6_middle_X6_outcome
theorem dX6_middle_0 : decode cX6_middle 0 = .ok (.iload_n 1, 1) := by decide +kernel
theorem dX6_middle_1 : decode cX6_middle 1 = .ok (.iload_n 2, 1) := by decide +kernel
theorem dX6_middle_2 : decode cX6_middle 2 = .ok (.invokestatic 137, 3) := by decide +kernel
theorem dX6_middle_5 : decode cX6_middle 5 = .ok (.ifCond .eq 10, 3) := by decide +kernel
theorem dX6_middle_8 : decode cX6_middle 8 = .ok (.iload_n 3, 1) := by decide +kernel
theorem dX6_middle_9 : decode cX6_middle 9 = .ok (.invokestatic 98, 3) := by decide +kernel
theorem dX6_middle_12 : decode cX6_middle 12 = .ok (.ifCond .ne 5, 3) := by decide +kernel
theorem dX6_middle_15 : decode cX6_middle 15 = .ok (.iconst (-1), 1) := by decide +kernel
theorem dX6_middle_16 : decode cX6_middle 16 = .ok (.ireturn, 1) := by decide +kernel
theorem dX6_middle_17 : decode cX6_middle 17 = .ok (.iload 4, 2) := by decide +kernel
theorem dX6_middle_19 : decode cX6_middle 19 = .ok (.iconst 0, 1) := by decide +kernel
theorem dX6_middle_20 : decode cX6_middle 20 = .ok (.sipush 1023, 3) := by decide +kernel
theorem dX6_middle_23 : decode cX6_middle 23 = .ok (.invokestatic 59, 3) := by decide +kernel
theorem dX6_middle_26 : decode cX6_middle 26 = .ok (.ifCond .eq 12, 3) := by decide +kernel
theorem dX6_middle_29 : decode cX6_middle 29 = .ok (.iload 4, 2) := by decide +kernel
theorem dX6_middle_31 : decode cX6_middle 31 = .ok (.iload_n 3, 1) := by decide +kernel
theorem dX6_middle_32 : decode cX6_middle 32 = .ok (.invokestatic 105, 3) := by decide +kernel
theorem dX6_middle_35 : decode cX6_middle 35 = .ok (.ifCond .ne 6, 3) := by decide +kernel
theorem dX6_middle_38 : decode cX6_middle 38 = .ok (.bipush (-2), 2) := by decide +kernel
theorem dX6_middle_40 : decode cX6_middle 40 = .ok (.ireturn, 1) := by decide +kernel
theorem dX6_middle_41 : decode cX6_middle 41 = .ok (.iload 5, 2) := by decide +kernel
theorem dX6_middle_43 : decode cX6_middle 43 = .ok (.iconst 0, 1) := by decide +kernel
theorem dX6_middle_44 : decode cX6_middle 44 = .ok (.iconst 2, 1) := by decide +kernel
theorem dX6_middle_45 : decode cX6_middle 45 = .ok (.invokestatic 59, 3) := by decide +kernel
theorem dX6_middle_48 : decode cX6_middle 48 = .ok (.ifCond .ne 6, 3) := by decide +kernel
theorem dX6_middle_51 : decode cX6_middle 51 = .ok (.bipush (-2), 2) := by decide +kernel
theorem dX6_middle_53 : decode cX6_middle 53 = .ok (.ireturn, 1) := by decide +kernel
theorem dX6_middle_54 : decode cX6_middle 54 = .ok (.aload_n 0, 1) := by decide +kernel
theorem dX6_middle_55 : decode cX6_middle 55 = .ok (.getfield 19, 3) := by decide +kernel
theorem dX6_middle_58 : decode cX6_middle 58 = .ok (.iload_n 1, 1) := by decide +kernel
theorem dX6_middle_59 : decode cX6_middle 59 = .ok (.iload_n 2, 1) := by decide +kernel
theorem dX6_middle_60 : decode cX6_middle 60 = .ok (.invokevirtual 140, 3) := by decide +kernel
theorem dX6_middle_63 : decode cX6_middle 63 = .ok (.istore 6, 2) := by decide +kernel
theorem dX6_middle_65 : decode cX6_middle 65 = .ok (.iload 6, 2) := by decide +kernel
theorem dX6_middle_67 : decode cX6_middle 67 = .ok (.aload_n 0, 1) := by decide +kernel
theorem dX6_middle_68 : decode cX6_middle 68 = .ok (.getfield 19, 3) := by decide +kernel
theorem dX6_middle_71 : decode cX6_middle 71 = .ok (.iload_n 3, 1) := by decide +kernel
theorem dX6_middle_72 : decode cX6_middle 72 = .ok (.invokevirtual 102, 3) := by decide +kernel
theorem dX6_middle_75 : decode cX6_middle 75 = .ok (.iand, 1) := by decide +kernel
theorem dX6_middle_76 : decode cX6_middle 76 = .ok (.iload 4, 2) := by decide +kernel
theorem dX6_middle_78 : decode cX6_middle 78 = .ok (.iconst (-1), 1) := by decide +kernel
theorem dX6_middle_79 : decode cX6_middle 79 = .ok (.ixor, 1) := by decide +kernel
theorem dX6_middle_80 : decode cX6_middle 80 = .ok (.iand, 1) := by decide +kernel
theorem dX6_middle_81 : decode cX6_middle 81 = .ok (.istore 7, 2) := by decide +kernel
theorem dX6_middle_83 : decode cX6_middle 83 = .ok (.aload_n 0, 1) := by decide +kernel
theorem dX6_middle_84 : decode cX6_middle 84 = .ok (.getfield 34, 3) := by decide +kernel
theorem dX6_middle_87 : decode cX6_middle 87 = .ok (.iload 7, 2) := by decide +kernel
theorem dX6_middle_89 : decode cX6_middle 89 = .ok (.iload 4, 2) := by decide +kernel
theorem dX6_middle_91 : decode cX6_middle 91 = .ok (.iload 6, 2) := by decide +kernel
theorem dX6_middle_93 : decode cX6_middle 93 = .ok (.aload_n 0, 1) := by decide +kernel
theorem dX6_middle_94 : decode cX6_middle 94 = .ok (.getfield 19, 3) := by decide +kernel
theorem dX6_middle_97 : decode cX6_middle 97 = .ok (.iload_n 2, 1) := by decide +kernel
theorem dX6_middle_98 : decode cX6_middle 98 = .ok (.iload_n 1, 1) := by decide +kernel
theorem dX6_middle_99 : decode cX6_middle 99 = .ok (.invokevirtual 140, 3) := by decide +kernel
theorem dX6_middle_102 : decode cX6_middle 102 = .ok (.iload 5, 2) := by decide +kernel
theorem dX6_middle_104 : decode cX6_middle 104 = .ok (.ifCond .ne 7, 3) := by decide +kernel
theorem dX6_middle_107 : decode cX6_middle 107 = .ok (.iconst 1, 1) := by decide +kernel
theorem dX6_middle_108 : decode cX6_middle 108 = .ok (.goto 4, 3) := by decide +kernel
theorem dX6_middle_111 : decode cX6_middle 111 = .ok (.iconst 0, 1) := by decide +kernel
theorem dX6_middle_112 : decode cX6_middle 112 = .ok (.invokevirtual 144, 3) := by decide +kernel
theorem dX6_middle_115 : decode cX6_middle 115 = .ok (.aload_n 0, 1) := by decide +kernel
theorem dX6_middle_116 : decode cX6_middle 116 = .ok (.iload_n 1, 1) := by decide +kernel
theorem dX6_middle_117 : decode cX6_middle 117 = .ok (.iload_n 2, 1) := by decide +kernel
theorem dX6_middle_118 : decode cX6_middle 118 = .ok (.iload 5, 2) := by decide +kernel
theorem dX6_middle_120 : decode cX6_middle 120 = .ok (.invokevirtual 148, 3) := by decide +kernel
theorem dX6_middle_123 : decode cX6_middle 123 = .ok (.ireturn, 1) := by decide +kernel
set_option maxRecDepth 20000 in
theorem ggX6_last_X6_areTwo : GoodIn wsX6_last wsX6_areTwo := goodIn_r _ [6, 7, 8, 5, 9, 10, 11, 12] (by decide +kernel) (by decide +kernel)
set_option maxRecDepth 20000 in
theorem gX6_last_X6_areTwo : GoodIn wsX6_last (va_wsS RX6 137 yX6_areTwo wsX6_areTwo) := goodIn_app (goodIn_of _ (by decide +kernel)) ggX6_last_X6_areTwo
set_option maxRecDepth 20000 in
theorem ggX6_last_X6_within : GoodIn wsX6_last wsX6_within := goodIn_r _ [12] (by decide +kernel) (by decide +kernel)
set_option maxRecDepth 20000 in
theorem gX6_last_X6_within : GoodIn wsX6_last (va_wsS RX6 59 yX6_within wsX6_within) := goodIn_app (goodIn_of _ (by decide +kernel)) ggX6_last_X6_within
set_option maxRecDepth 20000 in
theorem ggX6_last_X4_sayable : GoodIn wsX6_last wsX4_sayable := goodIn_r _ [16, 17, 18, 19, 14, 20, 21, 22, 5, 23, 24, 25, 26, 27, 28, 29, 30, 31, 32, 33, 34, 35, 36, 37, 94, 95, 96, 97, 98] (by decide +kernel) (by decide +kernel)
set_option maxRecDepth 20000 in
theorem gX6_last_X4_sayable_n140 : GoodIn wsX6_last (wsX4_sayable) := ggX6_last_X4_sayable
set_option maxRecDepth 20000 in
theorem ggX6_last_X0_spin : GoodIn wsX6_last wsX0_spin := goodIn_r _ [41, 42, 43, 44, 45, 39, 46, 47, 48, 49, 50, 51, 52, 53, 54, 55, 56, 57, 58, 59, 60, 61, 62, 5, 63, 64, 65, 66, 67, 68, 69, 70, 71, 72, 73, 22, 23, 74, 14, 75, 76, 77, 78, 79, 99, 100, 101, 102, 103, 104, 105, 94, 95, 96, 97, 98] (by decide +kernel) (by decide +kernel)
set_option maxRecDepth 20000 in
theorem gX6_last_X0_spin_n152 : GoodIn wsX6_last (wsX0_spin) := ggX6_last_X0_spin
set_option maxRecDepth 20000 in
theorem ggX6_last_X0_spun : GoodIn wsX6_last wsX0_spun := goodIn_r _ [82, 49, 99, 100, 101, 102, 103, 104, 105] (by decide +kernel) (by decide +kernel)
set_option maxRecDepth 20000 in
theorem gX6_last_X0_spun_n156 : GoodIn wsX6_last (wsX0_spun) := ggX6_last_X0_spun
set_option maxRecDepth 20000 in
theorem ggX6_last_X0_firstMove : GoodIn wsX6_last wsX0_firstMove := goodIn_r _ [85, 48, 99, 100, 101, 102, 103, 104, 105] (by decide +kernel) (by decide +kernel)
set_option maxRecDepth 20000 in
theorem gX6_last_X0_firstMove_n159 : GoodIn wsX6_last (wsX0_firstMove) := ggX6_last_X0_firstMove
theorem dX6_last_0 : decode cX6_last 0 = .ok (.iload_n 1, 1) := by decide +kernel
theorem dX6_last_1 : decode cX6_last 1 = .ok (.iload_n 2, 1) := by decide +kernel
theorem dX6_last_2 : decode cX6_last 2 = .ok (.invokestatic 137, 3) := by decide +kernel
theorem dX6_last_5 : decode cX6_last 5 = .ok (.ifCond .ne 5, 3) := by decide +kernel
theorem dX6_last_8 : decode cX6_last 8 = .ok (.iconst (-1), 1) := by decide +kernel
theorem dX6_last_9 : decode cX6_last 9 = .ok (.ireturn, 1) := by decide +kernel
theorem dX6_last_10 : decode cX6_last 10 = .ok (.iload_n 3, 1) := by decide +kernel
theorem dX6_last_11 : decode cX6_last 11 = .ok (.iconst 0, 1) := by decide +kernel
theorem dX6_last_12 : decode cX6_last 12 = .ok (.iconst 1, 1) := by decide +kernel
theorem dX6_last_13 : decode cX6_last 13 = .ok (.invokestatic 59, 3) := by decide +kernel
theorem dX6_last_16 : decode cX6_last 16 = .ok (.ifCond .ne 6, 3) := by decide +kernel
theorem dX6_last_19 : decode cX6_last 19 = .ok (.bipush (-2), 2) := by decide +kernel
theorem dX6_last_21 : decode cX6_last 21 = .ok (.ireturn, 1) := by decide +kernel
theorem dX6_last_22 : decode cX6_last 22 = .ok (.aload_n 0, 1) := by decide +kernel
theorem dX6_last_23 : decode cX6_last 23 = .ok (.getfield 19, 3) := by decide +kernel
theorem dX6_last_26 : decode cX6_last 26 = .ok (.iload_n 1, 1) := by decide +kernel
theorem dX6_last_27 : decode cX6_last 27 = .ok (.iload_n 2, 1) := by decide +kernel
theorem dX6_last_28 : decode cX6_last 28 = .ok (.invokevirtual 140, 3) := by decide +kernel
theorem dX6_last_31 : decode cX6_last 31 = .ok (.istore 4, 2) := by decide +kernel
theorem dX6_last_33 : decode cX6_last 33 = .ok (.aload_n 0, 1) := by decide +kernel
theorem dX6_last_34 : decode cX6_last 34 = .ok (.getfield 34, 3) := by decide +kernel
theorem dX6_last_37 : decode cX6_last 37 = .ok (.iload 4, 2) := by decide +kernel
theorem dX6_last_39 : decode cX6_last 39 = .ok (.iconst 0, 1) := by decide +kernel
theorem dX6_last_40 : decode cX6_last 40 = .ok (.iload 4, 2) := by decide +kernel
theorem dX6_last_42 : decode cX6_last 42 = .ok (.aload_n 0, 1) := by decide +kernel
theorem dX6_last_43 : decode cX6_last 43 = .ok (.getfield 19, 3) := by decide +kernel
theorem dX6_last_46 : decode cX6_last 46 = .ok (.iload_n 2, 1) := by decide +kernel
theorem dX6_last_47 : decode cX6_last 47 = .ok (.iload_n 1, 1) := by decide +kernel
theorem dX6_last_48 : decode cX6_last 48 = .ok (.invokevirtual 140, 3) := by decide +kernel
theorem dX6_last_51 : decode cX6_last 51 = .ok (.invokevirtual 152, 3) := by decide +kernel
theorem dX6_last_54 : decode cX6_last 54 = .ok (.iload_n 3, 1) := by decide +kernel
theorem dX6_last_55 : decode cX6_last 55 = .ok (.ifCond .ne 13, 3) := by decide +kernel
theorem dX6_last_58 : decode cX6_last 58 = .ok (.aload_n 0, 1) := by decide +kernel
theorem dX6_last_59 : decode cX6_last 59 = .ok (.getfield 34, 3) := by decide +kernel
theorem dX6_last_62 : decode cX6_last 62 = .ok (.invokevirtual 156, 3) := by decide +kernel
theorem dX6_last_65 : decode cX6_last 65 = .ok (.goto 10, 3) := by decide +kernel
theorem dX6_last_68 : decode cX6_last 68 = .ok (.aload_n 0, 1) := by decide +kernel
theorem dX6_last_69 : decode cX6_last 69 = .ok (.getfield 34, 3) := by decide +kernel
theorem dX6_last_72 : decode cX6_last 72 = .ok (.invokevirtual 159, 3) := by decide +kernel
theorem dX6_last_75 : decode cX6_last 75 = .ok (.ireturn, 1) := by decide +kernel
set_option maxRecDepth 20000 in
theorem ggX6_sent_X6_isMan : GoodIn wsX6_sent wsX6_isMan := goodIn_r _ [5, 6, 7, 4, 8] (by decide +kernel) (by decide +kernel)
set_option maxRecDepth 20000 in
theorem gX6_sent_X6_isMan : GoodIn wsX6_sent (va_wsS RX6 116 yX6_isMan wsX6_isMan) := goodIn_app (goodIn_of _ (by decide +kernel)) ggX6_sent_X6_isMan
set_option maxRecDepth 20000 in
theorem ggX6_sent_X4_knownTo : GoodIn wsX6_sent wsX4_knownTo := goodIn_r _ [12, 13, 14, 4, 15, 92, 93, 94, 95, 96] (by decide +kernel) (by decide +kernel)
set_option maxRecDepth 20000 in
theorem gX6_sent_X4_knownTo_n125 : GoodIn wsX6_sent (wsX4_knownTo) := ggX6_sent_X4_knownTo
set_option maxRecDepth 20000 in
theorem ggX6_sent_X6_comesOff : GoodIn wsX6_sent wsX6_comesOff := goodIn_r _ [19, 1, 20, 21, 10, 22, 23, 24, 25, 26, 27, 28, 14, 4, 15, 29, 30, 31, 32, 33, 34, 35, 36, 37, 9, 11, 12, 13, 38, 39, 40, 41, 42, 43, 44, 45, 46, 47, 48, 49, 50, 51, 52, 53, 54, 55, 56, 57, 58, 59, 60, 61, 62, 63, 64, 65, 66, 67, 68, 69, 70, 71, 72, 73, 74, 75, 76, 77, 78, 79, 80, 81, 82, 83, 84, 85, 86, 87, 88, 89, 90, 91, 92, 93, 94, 95, 96, 97, 98, 99, 100, 101, 102, 103] (by decide +kernel) (by decide +kernel)
set_option maxRecDepth 20000 in
theorem gX6_sent_X6_comesOff : GoodIn wsX6_sent (wsV RX6 162 RX6 yX6_comesOff wsX6_comesOff) := goodIn_app (goodIn_of _ (by decide +kernel)) ggX6_sent_X6_comesOff
theorem dX6_sent_0 : decode cX6_sent 0 = .ok (.iload_n 1, 1) := by decide +kernel
theorem dX6_sent_1 : decode cX6_sent 1 = .ok (.invokestatic 116, 3) := by decide +kernel
theorem dX6_sent_4 : decode cX6_sent 4 = .ok (.ifCond .ne 5, 3) := by decide +kernel
theorem dX6_sent_7 : decode cX6_sent 7 = .ok (.iconst (-1), 1) := by decide +kernel
theorem dX6_sent_8 : decode cX6_sent 8 = .ok (.ireturn, 1) := by decide +kernel
theorem dX6_sent_9 : decode cX6_sent 9 = .ok (.iconst 0, 1) := by decide +kernel
theorem dX6_sent_10 : decode cX6_sent 10 = .ok (.istore_n 3, 1) := by decide +kernel
theorem dX6_sent_11 : decode cX6_sent 11 = .ok (.iconst 0, 1) := by decide +kernel
theorem dX6_sent_12 : decode cX6_sent 12 = .ok (.istore 4, 2) := by decide +kernel
theorem dX6_sent_14 : decode cX6_sent 14 = .ok (.iload 4, 2) := by decide +kernel
theorem dX6_sent_16 : decode cX6_sent 16 = .ok (.iconst 5, 1) := by decide +kernel
theorem dX6_sent_17 : decode cX6_sent 17 = .ok (.if_icmp .ge 42, 3) := by decide +kernel
theorem dX6_sent_20 : decode cX6_sent 20 = .ok (.iload 4, 2) := by decide +kernel
theorem dX6_sent_22 : decode cX6_sent 22 = .ok (.iload_n 1, 1) := by decide +kernel
theorem dX6_sent_23 : decode cX6_sent 23 = .ok (.if_icmp .eq 30, 3) := by decide +kernel
theorem dX6_sent_26 : decode cX6_sent 26 = .ok (.aload_n 0, 1) := by decide +kernel
theorem dX6_sent_27 : decode cX6_sent 27 = .ok (.iload 4, 2) := by decide +kernel
theorem dX6_sent_29 : decode cX6_sent 29 = .ok (.aload_n 0, 1) := by decide +kernel
theorem dX6_sent_30 : decode cX6_sent 30 = .ok (.getfield 19, 3) := by decide +kernel
theorem dX6_sent_33 : decode cX6_sent 33 = .ok (.iload 4, 2) := by decide +kernel
theorem dX6_sent_35 : decode cX6_sent 35 = .ok (.invokevirtual 125, 3) := by decide +kernel
theorem dX6_sent_38 : decode cX6_sent 38 = .ok (.iload_n 1, 1) := by decide +kernel
theorem dX6_sent_39 : decode cX6_sent 39 = .ok (.iload_n 2, 1) := by decide +kernel
theorem dX6_sent_40 : decode cX6_sent 40 = .ok (.invokevirtual 162, 3) := by decide +kernel
theorem dX6_sent_43 : decode cX6_sent 43 = .ok (.ifCond .eq 10, 3) := by decide +kernel
theorem dX6_sent_46 : decode cX6_sent 46 = .ok (.iload_n 3, 1) := by decide +kernel
theorem dX6_sent_47 : decode cX6_sent 47 = .ok (.iconst 1, 1) := by decide +kernel
theorem dX6_sent_48 : decode cX6_sent 48 = .ok (.iload 4, 2) := by decide +kernel
theorem dX6_sent_50 : decode cX6_sent 50 = .ok (.ishl, 1) := by decide +kernel
theorem dX6_sent_51 : decode cX6_sent 51 = .ok (.ior, 1) := by decide +kernel
theorem dX6_sent_52 : decode cX6_sent 52 = .ok (.istore_n 3, 1) := by decide +kernel
theorem dX6_sent_53 : decode cX6_sent 53 = .ok (.iinc 4 1, 3) := by decide +kernel
theorem dX6_sent_56 : decode cX6_sent 56 = .ok (.goto (-42), 3) := by decide +kernel
theorem dX6_sent_59 : decode cX6_sent 59 = .ok (.iload_n 3, 1) := by decide +kernel
theorem dX6_sent_60 : decode cX6_sent 60 = .ok (.ireturn, 1) := by decide +kernel
set_option maxRecDepth 20000 in
theorem ggX6_safe_X6_isMan : GoodIn wsX6_safe wsX6_isMan := goodIn_r _ [5, 6, 7, 4, 8] (by decide +kernel) (by decide +kernel)
set_option maxRecDepth 20000 in
theorem gX6_safe_X6_isMan : GoodIn wsX6_safe (va_wsS RX6 116 yX6_isMan wsX6_isMan) := goodIn_app (goodIn_of _ (by decide +kernel)) ggX6_safe_X6_isMan
set_option maxRecDepth 20000 in
theorem ggX6_safe_X4_sayable : GoodIn wsX6_safe wsX4_sayable := goodIn_r _ [12, 13, 14, 15, 10, 16, 17, 18, 4, 19, 20, 21, 22, 23, 24, 25, 26, 27, 28, 29, 30, 31, 32, 33, 42, 43, 44, 45, 46] (by decide +kernel) (by decide +kernel)
set_option maxRecDepth 20000 in
theorem gX6_safe_X4_sayable_n140 : GoodIn wsX6_safe (wsX4_sayable) := ggX6_safe_X4_sayable
theorem dX6_safe_0 : decode cX6_safe 0 = .ok (.iload_n 1, 1) := by decide +kernel
theorem dX6_safe_1 : decode cX6_safe 1 = .ok (.invokestatic 116, 3) := by decide +kernel
theorem dX6_safe_4 : decode cX6_safe 4 = .ok (.ifCond .ne 5, 3) := by decide +kernel
theorem dX6_safe_7 : decode cX6_safe 7 = .ok (.iconst (-1), 1) := by decide +kernel
theorem dX6_safe_8 : decode cX6_safe 8 = .ok (.ireturn, 1) := by decide +kernel
theorem dX6_safe_9 : decode cX6_safe 9 = .ok (.iconst 0, 1) := by decide +kernel
theorem dX6_safe_10 : decode cX6_safe 10 = .ok (.istore_n 2, 1) := by decide +kernel
theorem dX6_safe_11 : decode cX6_safe 11 = .ok (.iconst 0, 1) := by decide +kernel
theorem dX6_safe_12 : decode cX6_safe 12 = .ok (.istore_n 3, 1) := by decide +kernel
theorem dX6_safe_13 : decode cX6_safe 13 = .ok (.iload_n 3, 1) := by decide +kernel
theorem dX6_safe_14 : decode cX6_safe 14 = .ok (.iconst 5, 1) := by decide +kernel
theorem dX6_safe_15 : decode cX6_safe 15 = .ok (.if_icmp .ge 26, 3) := by decide +kernel
theorem dX6_safe_18 : decode cX6_safe 18 = .ok (.iload_n 3, 1) := by decide +kernel
theorem dX6_safe_19 : decode cX6_safe 19 = .ok (.iload_n 1, 1) := by decide +kernel
theorem dX6_safe_20 : decode cX6_safe 20 = .ok (.if_icmp .eq 15, 3) := by decide +kernel
theorem dX6_safe_23 : decode cX6_safe 23 = .ok (.iload_n 2, 1) := by decide +kernel
theorem dX6_safe_24 : decode cX6_safe 24 = .ok (.aload_n 0, 1) := by decide +kernel
theorem dX6_safe_25 : decode cX6_safe 25 = .ok (.getfield 19, 3) := by decide +kernel
theorem dX6_safe_28 : decode cX6_safe 28 = .ok (.iload_n 3, 1) := by decide +kernel
theorem dX6_safe_29 : decode cX6_safe 29 = .ok (.iload_n 1, 1) := by decide +kernel
theorem dX6_safe_30 : decode cX6_safe 30 = .ok (.invokevirtual 140, 3) := by decide +kernel
theorem dX6_safe_33 : decode cX6_safe 33 = .ok (.ior, 1) := by decide +kernel
theorem dX6_safe_34 : decode cX6_safe 34 = .ok (.istore_n 2, 1) := by decide +kernel
theorem dX6_safe_35 : decode cX6_safe 35 = .ok (.iinc 3 1, 3) := by decide +kernel
theorem dX6_safe_38 : decode cX6_safe 38 = .ok (.goto (-25), 3) := by decide +kernel
theorem dX6_safe_41 : decode cX6_safe 41 = .ok (.iload_n 2, 1) := by decide +kernel
theorem dX6_safe_42 : decode cX6_safe 42 = .ok (.ifCond .ne 7, 3) := by decide +kernel
theorem dX6_safe_45 : decode cX6_safe 45 = .ok (.iconst 1, 1) := by decide +kernel
theorem dX6_safe_46 : decode cX6_safe 46 = .ok (.goto 4, 3) := by decide +kernel
theorem dX6_safe_49 : decode cX6_safe 49 = .ok (.iconst 0, 1) := by decide +kernel
theorem dX6_safe_50 : decode cX6_safe 50 = .ok (.ireturn, 1) := by decide +kernel
set_option maxRecDepth 20000 in
theorem ggX6_worth_X6_isInsult : GoodIn wsX6_worth wsX6_isInsult := goodIn_r _ [5, 6, 7, 4, 8] (by decide +kernel) (by decide +kernel)
set_option maxRecDepth 20000 in
theorem gX6_worth_X6_isInsult : GoodIn wsX6_worth (va_wsS RX6 98 yX6_isInsult wsX6_isInsult) := goodIn_app (goodIn_of _ (by decide +kernel)) ggX6_worth_X6_isInsult
set_option maxRecDepth 20000 in
theorem ggX6_worth_X6_isMan : GoodIn wsX6_worth wsX6_isMan := goodIn_r _ [11, 6, 7, 4, 8] (by decide +kernel) (by decide +kernel)
set_option maxRecDepth 20000 in
theorem gX6_worth_X6_isMan : GoodIn wsX6_worth (va_wsS RX6 116 yX6_isMan wsX6_isMan) := goodIn_app (goodIn_of _ (by decide +kernel)) ggX6_worth_X6_isMan
set_option maxRecDepth 20000 in
theorem ggX6_worth_X4_knownTo : GoodIn wsX6_worth wsX4_knownTo := goodIn_r _ [15, 16, 17, 4, 18, 100, 101, 102, 103, 104] (by decide +kernel) (by decide +kernel)
set_option maxRecDepth 20000 in
theorem gX6_worth_X4_knownTo_n125 : GoodIn wsX6_worth (wsX4_knownTo) := ggX6_worth_X4_knownTo
set_option maxRecDepth 20000 in
theorem ggX6_worth_X6_has : GoodIn wsX6_worth wsX6_has := goodIn_r _ [21] (by decide +kernel) (by decide +kernel)
set_option maxRecDepth 20000 in
theorem gX6_worth_X6_has : GoodIn wsX6_worth (va_wsS RX6 105 yX6_has wsX6_has) := goodIn_app (goodIn_of _ (by decide +kernel)) ggX6_worth_X6_has
set_option maxRecDepth 20000 in
theorem ggX6_worth_X6_goodMatches : GoodIn wsX6_worth wsX6_goodMatches := goodIn_r _ [25, 26, 27, 28, 4, 29, 1, 30, 31, 13, 32, 33, 34, 35, 36, 37, 38, 17, 18, 39, 40, 41, 42, 43, 44, 45, 46, 47, 12, 14, 15, 16, 48, 49, 50, 51, 52, 53, 54, 55, 56, 57, 58, 59, 60, 61, 62, 63, 64, 65, 66, 67, 68, 69, 70, 71, 72, 20, 21, 73, 74, 75, 76, 77, 78, 79, 80, 81, 82, 83, 84, 85, 86, 87, 88, 89, 90, 91, 92, 93, 94, 95, 96, 97, 98, 99, 100, 101, 102, 103, 104, 105, 106, 107, 108, 109, 110, 111] (by decide +kernel) (by decide +kernel)
set_option maxRecDepth 20000 in
theorem gX6_worth_X6_goodMatches : GoodIn wsX6_worth (wsV RX6 166 RX6 yX6_goodMatches wsX6_goodMatches) := goodIn_app (goodIn_of _ (by decide +kernel)) ggX6_worth_X6_goodMatches
theorem dX6_worth_0 : decode cX6_worth 0 = .ok (.iload_n 1, 1) := by decide +kernel
theorem dX6_worth_1 : decode cX6_worth 1 = .ok (.invokestatic 98, 3) := by decide +kernel
theorem dX6_worth_4 : decode cX6_worth 4 = .ok (.ifCond .eq 10, 3) := by decide +kernel
theorem dX6_worth_7 : decode cX6_worth 7 = .ok (.iload_n 2, 1) := by decide +kernel
theorem dX6_worth_8 : decode cX6_worth 8 = .ok (.invokestatic 116, 3) := by decide +kernel
theorem dX6_worth_11 : decode cX6_worth 11 = .ok (.ifCond .ne 5, 3) := by decide +kernel
theorem dX6_worth_14 : decode cX6_worth 14 = .ok (.iconst (-1), 1) := by decide +kernel
theorem dX6_worth_15 : decode cX6_worth 15 = .ok (.ireturn, 1) := by decide +kernel
theorem dX6_worth_16 : decode cX6_worth 16 = .ok (.aload_n 0, 1) := by decide +kernel
theorem dX6_worth_17 : decode cX6_worth 17 = .ok (.getfield 19, 3) := by decide +kernel
theorem dX6_worth_20 : decode cX6_worth 20 = .ok (.iload_n 2, 1) := by decide +kernel
theorem dX6_worth_21 : decode cX6_worth 21 = .ok (.invokevirtual 125, 3) := by decide +kernel
theorem dX6_worth_24 : decode cX6_worth 24 = .ok (.istore_n 3, 1) := by decide +kernel
theorem dX6_worth_25 : decode cX6_worth 25 = .ok (.iload_n 3, 1) := by decide +kernel
theorem dX6_worth_26 : decode cX6_worth 26 = .ok (.iload_n 1, 1) := by decide +kernel
theorem dX6_worth_27 : decode cX6_worth 27 = .ok (.invokestatic 105, 3) := by decide +kernel
theorem dX6_worth_30 : decode cX6_worth 30 = .ok (.ifCond .eq 6, 3) := by decide +kernel
theorem dX6_worth_33 : decode cX6_worth 33 = .ok (.bipush (-3), 2) := by decide +kernel
theorem dX6_worth_35 : decode cX6_worth 35 = .ok (.ireturn, 1) := by decide +kernel
theorem dX6_worth_36 : decode cX6_worth 36 = .ok (.aload_n 0, 1) := by decide +kernel
theorem dX6_worth_37 : decode cX6_worth 37 = .ok (.iload_n 2, 1) := by decide +kernel
theorem dX6_worth_38 : decode cX6_worth 38 = .ok (.iload_n 3, 1) := by decide +kernel
theorem dX6_worth_39 : decode cX6_worth 39 = .ok (.iconst 1, 1) := by decide +kernel
theorem dX6_worth_40 : decode cX6_worth 40 = .ok (.iload_n 1, 1) := by decide +kernel
theorem dX6_worth_41 : decode cX6_worth 41 = .ok (.ishl, 1) := by decide +kernel
theorem dX6_worth_42 : decode cX6_worth 42 = .ok (.ior, 1) := by decide +kernel
theorem dX6_worth_43 : decode cX6_worth 43 = .ok (.invokevirtual 166, 3) := by decide +kernel
theorem dX6_worth_46 : decode cX6_worth 46 = .ok (.aload_n 0, 1) := by decide +kernel
theorem dX6_worth_47 : decode cX6_worth 47 = .ok (.iload_n 2, 1) := by decide +kernel
theorem dX6_worth_48 : decode cX6_worth 48 = .ok (.iload_n 3, 1) := by decide +kernel
theorem dX6_worth_49 : decode cX6_worth 49 = .ok (.invokevirtual 166, 3) := by decide +kernel
theorem dX6_worth_52 : decode cX6_worth 52 = .ok (.isub, 1) := by decide +kernel
theorem dX6_worth_53 : decode cX6_worth 53 = .ok (.istore 4, 2) := by decide +kernel
theorem dX6_worth_55 : decode cX6_worth 55 = .ok (.bipush 100, 2) := by decide +kernel
theorem dX6_worth_57 : decode cX6_worth 57 = .ok (.iload 4, 2) := by decide +kernel
theorem dX6_worth_59 : decode cX6_worth 59 = .ok (.iadd, 1) := by decide +kernel
theorem dX6_worth_60 : decode cX6_worth 60 = .ok (.ireturn, 1) := by decide +kernel
set_option maxRecDepth 20000 in
theorem ggX6_crowd_X6_within : GoodIn wsX6_crowd wsX6_within := goodIn_r _ [5] (by decide +kernel) (by decide +kernel)
set_option maxRecDepth 20000 in
theorem gX6_crowd_X6_within : GoodIn wsX6_crowd (va_wsS RX6 59 yX6_within wsX6_within) := goodIn_app (goodIn_of _ (by decide +kernel)) ggX6_crowd_X6_within
set_option maxRecDepth 20000 in
theorem ggX6_crowd_X1_fewestDays : GoodIn wsX6_crowd wsX1_fewestDays := goodIn_r _ [9, 10, 11, 12, 13, 14, 7, 15, 16, 17, 18, 19, 20, 21, 22, 23, 24, 25, 26, 27, 4, 28, 29, 30, 31, 32, 33, 34, 35, 36, 37, 38, 39, 40, 41, 42, 43, 44, 45, 46, 47, 48, 49, 50, 51, 52, 53, 54, 55, 56, 57, 58, 59, 60, 61, 62, 63, 64, 65, 66, 67, 68, 69, 70, 71, 72, 73, 74, 86, 87, 88, 89, 90, 91, 92, 93, 94, 95] (by decide +kernel) (by decide +kernel)
set_option maxRecDepth 20000 in
theorem gX6_crowd_X1_fewestDays_n169 : GoodIn wsX6_crowd (wsX1_fewestDays) := ggX6_crowd_X1_fewestDays
set_option maxRecDepth 20000 in
theorem ggX6_crowd_X1_isOneDayEnough : GoodIn wsX6_crowd wsX1_isOneDayEnough := goodIn_r _ [77, 12, 13, 14, 7, 15, 16, 17, 18, 19, 20, 21, 22, 23, 24, 25, 26, 27, 4, 28, 29, 30, 31, 32, 33, 34, 35, 36, 37, 38, 39, 40, 41, 42, 43, 44, 45, 46, 47, 48, 49, 50, 51, 52, 53, 54, 55, 56, 57, 58, 59, 60, 61, 62, 63, 64, 65, 66, 67, 68, 69, 70, 86, 87, 88, 89, 90, 91, 92, 93, 94, 95] (by decide +kernel) (by decide +kernel)
set_option maxRecDepth 20000 in
theorem gX6_crowd_X1_isOneDayEnough_n172 : GoodIn wsX6_crowd (wsX1_isOneDayEnough) := ggX6_crowd_X1_isOneDayEnough
theorem dX6_crowd_0 : decode cX6_crowd 0 = .ok (.iload_n 1, 1) := by decide +kernel
theorem dX6_crowd_1 : decode cX6_crowd 1 = .ok (.iconst 0, 1) := by decide +kernel
theorem dX6_crowd_2 : decode cX6_crowd 2 = .ok (.bipush 31, 2) := by decide +kernel
theorem dX6_crowd_4 : decode cX6_crowd 4 = .ok (.invokestatic 59, 3) := by decide +kernel
theorem dX6_crowd_7 : decode cX6_crowd 7 = .ok (.ifCond .eq 12, 3) := by decide +kernel
theorem dX6_crowd_10 : decode cX6_crowd 10 = .ok (.iload_n 2, 1) := by decide +kernel
theorem dX6_crowd_11 : decode cX6_crowd 11 = .ok (.iconst 0, 1) := by decide +kernel
theorem dX6_crowd_12 : decode cX6_crowd 12 = .ok (.iconst 1, 1) := by decide +kernel
theorem dX6_crowd_13 : decode cX6_crowd 13 = .ok (.invokestatic 59, 3) := by decide +kernel
theorem dX6_crowd_16 : decode cX6_crowd 16 = .ok (.ifCond .ne 6, 3) := by decide +kernel
theorem dX6_crowd_19 : decode cX6_crowd 19 = .ok (.bipush (-2), 2) := by decide +kernel
theorem dX6_crowd_21 : decode cX6_crowd 21 = .ok (.ireturn, 1) := by decide +kernel
theorem dX6_crowd_22 : decode cX6_crowd 22 = .ok (.iload_n 2, 1) := by decide +kernel
theorem dX6_crowd_23 : decode cX6_crowd 23 = .ok (.iconst 1, 1) := by decide +kernel
theorem dX6_crowd_24 : decode cX6_crowd 24 = .ok (.if_icmp .ne 12, 3) := by decide +kernel
theorem dX6_crowd_27 : decode cX6_crowd 27 = .ok (.aload_n 0, 1) := by decide +kernel
theorem dX6_crowd_28 : decode cX6_crowd 28 = .ok (.getfield 41, 3) := by decide +kernel
theorem dX6_crowd_31 : decode cX6_crowd 31 = .ok (.iload_n 1, 1) := by decide +kernel
theorem dX6_crowd_32 : decode cX6_crowd 32 = .ok (.invokevirtual 169, 3) := by decide +kernel
theorem dX6_crowd_35 : decode cX6_crowd 35 = .ok (.ireturn, 1) := by decide +kernel
theorem dX6_crowd_36 : decode cX6_crowd 36 = .ok (.aload_n 0, 1) := by decide +kernel
theorem dX6_crowd_37 : decode cX6_crowd 37 = .ok (.getfield 41, 3) := by decide +kernel
theorem dX6_crowd_40 : decode cX6_crowd 40 = .ok (.iload_n 1, 1) := by decide +kernel
theorem dX6_crowd_41 : decode cX6_crowd 41 = .ok (.invokevirtual 172, 3) := by decide +kernel
theorem dX6_crowd_44 : decode cX6_crowd 44 = .ok (.ifCond .eq 7, 3) := by decide +kernel
theorem dX6_crowd_47 : decode cX6_crowd 47 = .ok (.iconst 1, 1) := by decide +kernel
theorem dX6_crowd_48 : decode cX6_crowd 48 = .ok (.goto 4, 3) := by decide +kernel
theorem dX6_crowd_51 : decode cX6_crowd 51 = .ok (.iconst 0, 1) := by decide +kernel
theorem dX6_crowd_52 : decode cX6_crowd 52 = .ok (.ireturn, 1) := by decide +kernel
set_option maxRecDepth 20000 in
theorem ggX6_rings_X6_within : GoodIn wsX6_rings wsX6_within := goodIn_r _ [5] (by decide +kernel) (by decide +kernel)
set_option maxRecDepth 20000 in
theorem gX6_rings_X6_within : GoodIn wsX6_rings (va_wsS RX6 59 yX6_within wsX6_within) := goodIn_app (goodIn_of _ (by decide +kernel)) ggX6_rings_X6_within
set_option maxRecDepth 20000 in
theorem ggX6_rings_X2_inRings : GoodIn wsX6_rings wsX2_inRings := goodIn_r _ [9, 10, 11, 12, 13, 14, 15, 16, 17, 4, 18, 19, 20, 21, 22, 34, 35, 36, 37, 38, 39, 40, 41, 42, 43, 44] (by decide +kernel) (by decide +kernel)
set_option maxRecDepth 20000 in
theorem gX6_rings_X2_inRings_n175 : GoodIn wsX6_rings (wsX2_inRings) := ggX6_rings_X2_inRings
set_option maxRecDepth 20000 in
theorem ggX6_rings_X2_tops : GoodIn wsX6_rings wsX2_tops := goodIn_r _ [25, 11, 12, 13, 14, 15, 16, 17, 4, 18, 34, 35, 36, 37, 38, 39, 40, 41, 42, 43, 44] (by decide +kernel) (by decide +kernel)
set_option maxRecDepth 20000 in
theorem gX6_rings_X2_tops_n178 : GoodIn wsX6_rings (wsX2_tops) := ggX6_rings_X2_tops
theorem dX6_rings_0 : decode cX6_rings 0 = .ok (.iload_n 1, 1) := by decide +kernel
theorem dX6_rings_1 : decode cX6_rings 1 = .ok (.iconst 0, 1) := by decide +kernel
theorem dX6_rings_2 : decode cX6_rings 2 = .ok (.iconst 1, 1) := by decide +kernel
theorem dX6_rings_3 : decode cX6_rings 3 = .ok (.invokestatic 59, 3) := by decide +kernel
theorem dX6_rings_6 : decode cX6_rings 6 = .ok (.ifCond .ne 6, 3) := by decide +kernel
theorem dX6_rings_9 : decode cX6_rings 9 = .ok (.bipush (-2), 2) := by decide +kernel
theorem dX6_rings_11 : decode cX6_rings 11 = .ok (.ireturn, 1) := by decide +kernel
theorem dX6_rings_12 : decode cX6_rings 12 = .ok (.iload_n 1, 1) := by decide +kernel
theorem dX6_rings_13 : decode cX6_rings 13 = .ok (.ifCond .ne 13, 3) := by decide +kernel
theorem dX6_rings_16 : decode cX6_rings 16 = .ok (.aload_n 0, 1) := by decide +kernel
theorem dX6_rings_17 : decode cX6_rings 17 = .ok (.getfield 48, 3) := by decide +kernel
theorem dX6_rings_20 : decode cX6_rings 20 = .ok (.invokevirtual 175, 3) := by decide +kernel
theorem dX6_rings_23 : decode cX6_rings 23 = .ok (.goto 10, 3) := by decide +kernel
theorem dX6_rings_26 : decode cX6_rings 26 = .ok (.aload_n 0, 1) := by decide +kernel
theorem dX6_rings_27 : decode cX6_rings 27 = .ok (.getfield 48, 3) := by decide +kernel
theorem dX6_rings_30 : decode cX6_rings 30 = .ok (.invokevirtual 178, 3) := by decide +kernel
theorem dX6_rings_33 : decode cX6_rings 33 = .ok (.ireturn, 1) := by decide +kernel
set_option maxRecDepth 20000 in
theorem ggX6_ladder_X2_arrange : GoodIn wsX6_ladder wsX2_arrange := goodIn_r _ [5, 6, 7, 8, 9, 10, 11, 12, 13, 3, 14, 15, 16, 17, 18, 19, 20, 21, 22, 23, 24, 25, 26, 27, 28, 29, 30, 31, 32, 33, 34, 35, 36, 37, 38, 39, 40, 41, 56, 57, 58, 59, 60, 61, 62, 63, 64, 65, 66] (by decide +kernel) (by decide +kernel)
set_option maxRecDepth 20000 in
theorem gX6_ladder_X2_arrange_n181 : GoodIn wsX6_ladder (wsX2_arrange) := ggX6_ladder_X2_arrange
set_option maxRecDepth 20000 in
theorem ggX6_ladder_X2_countStruck : GoodIn wsX6_ladder wsX2_countStruck := goodIn_r _ [44, 7, 15, 16, 17, 56, 57, 58, 59, 60, 61] (by decide +kernel) (by decide +kernel)
set_option maxRecDepth 20000 in
theorem gX6_ladder_X2_countStruck_n184 : GoodIn wsX6_ladder (wsX2_countStruck) := ggX6_ladder_X2_countStruck
set_option maxRecDepth 20000 in
theorem ggX6_ladder_X2_struck : GoodIn wsX6_ladder wsX2_struck := goodIn_r _ [47, 10, 8, 18, 19, 20, 21, 22, 15, 16, 17, 29, 30, 56, 57, 58, 59, 60, 61, 62, 63, 64, 65, 66] (by decide +kernel) (by decide +kernel)
set_option maxRecDepth 20000 in
theorem gX6_ladder_X2_struck_n187 : GoodIn wsX6_ladder (wsX2_struck) := ggX6_ladder_X2_struck
theorem dX6_ladder_0 : decode cX6_ladder 0 = .ok (.aload_n 0, 1) := by decide +kernel
theorem dX6_ladder_1 : decode cX6_ladder 1 = .ok (.getfield 48, 3) := by decide +kernel
theorem dX6_ladder_4 : decode cX6_ladder 4 = .ok (.invokevirtual 181, 3) := by decide +kernel
theorem dX6_ladder_7 : decode cX6_ladder 7 = .ok (.iload_n 1, 1) := by decide +kernel
theorem dX6_ladder_8 : decode cX6_ladder 8 = .ok (.iconst (-1), 1) := by decide +kernel
theorem dX6_ladder_9 : decode cX6_ladder 9 = .ok (.if_icmp .ne 13, 3) := by decide +kernel
theorem dX6_ladder_12 : decode cX6_ladder 12 = .ok (.aload_n 0, 1) := by decide +kernel
theorem dX6_ladder_13 : decode cX6_ladder 13 = .ok (.getfield 48, 3) := by decide +kernel
theorem dX6_ladder_16 : decode cX6_ladder 16 = .ok (.invokevirtual 184, 3) := by decide +kernel
theorem dX6_ladder_19 : decode cX6_ladder 19 = .ok (.goto 11, 3) := by decide +kernel
theorem dX6_ladder_22 : decode cX6_ladder 22 = .ok (.aload_n 0, 1) := by decide +kernel
theorem dX6_ladder_23 : decode cX6_ladder 23 = .ok (.getfield 48, 3) := by decide +kernel
theorem dX6_ladder_26 : decode cX6_ladder 26 = .ok (.iload_n 1, 1) := by decide +kernel
theorem dX6_ladder_27 : decode cX6_ladder 27 = .ok (.invokevirtual 187, 3) := by decide +kernel
theorem dX6_ladder_30 : decode cX6_ladder 30 = .ok (.ireturn, 1) := by decide +kernel
set_option maxRecDepth 20000 in
theorem ggX6_between_X6_isInsult : GoodIn wsX6_between wsX6_isInsult := goodIn_r _ [5, 6, 7, 4, 8] (by decide +kernel) (by decide +kernel)
set_option maxRecDepth 20000 in
theorem gX6_between_X6_isInsult : GoodIn wsX6_between (va_wsS RX6 98 yX6_isInsult wsX6_isInsult) := goodIn_app (goodIn_of _ (by decide +kernel)) ggX6_between_X6_isInsult
set_option maxRecDepth 20000 in
theorem ggX6_between_X6_within : GoodIn wsX6_between wsX6_within := goodIn_r _ [8] (by decide +kernel) (by decide +kernel)
set_option maxRecDepth 20000 in
theorem gX6_between_X6_within : GoodIn wsX6_between (va_wsS RX6 59 yX6_within wsX6_within) := goodIn_app (goodIn_of _ (by decide +kernel)) ggX6_between_X6_within
set_option maxRecDepth 20000 in
theorem ggX6_between_X5_search : GoodIn wsX6_between wsX5_search := goodIn_r _ [12, 13, 14, 15, 16, 17, 18, 19, 10, 20, 21, 22, 23, 24, 25, 26, 27, 4, 28, 29, 30, 45, 46, 47, 48, 49, 50, 51, 52, 53, 54] (by decide +kernel) (by decide +kernel)
set_option maxRecDepth 20000 in
theorem gX6_between_X5_search_n190 : GoodIn wsX6_between (wsX5_search) := ggX6_between_X5_search
set_option maxRecDepth 20000 in
theorem ggX6_between_X5_count : GoodIn wsX6_between wsX5_count := goodIn_r _ [33, 15, 45, 46, 47, 48, 49] (by decide +kernel) (by decide +kernel)
set_option maxRecDepth 20000 in
theorem gX6_between_X5_count_n193 : GoodIn wsX6_between (wsX5_count) := ggX6_between_X5_count
set_option maxRecDepth 20000 in
theorem ggX6_between_X5_wanted : GoodIn wsX6_between wsX5_wanted := goodIn_r _ [36, 16, 45, 46, 47, 48, 49] (by decide +kernel) (by decide +kernel)
set_option maxRecDepth 20000 in
theorem gX6_between_X5_wanted_n196 : GoodIn wsX6_between (wsX5_wanted) := ggX6_between_X5_wanted
theorem dX6_between_0 : decode cX6_between 0 = .ok (.iload_n 1, 1) := by decide +kernel
theorem dX6_between_1 : decode cX6_between 1 = .ok (.invokestatic 98, 3) := by decide +kernel
theorem dX6_between_4 : decode cX6_between 4 = .ok (.ifCond .eq 15, 3) := by decide +kernel
theorem dX6_between_7 : decode cX6_between 7 = .ok (.iload_n 2, 1) := by decide +kernel
theorem dX6_between_8 : decode cX6_between 8 = .ok (.invokestatic 98, 3) := by decide +kernel
theorem dX6_between_11 : decode cX6_between 11 = .ok (.ifCond .eq 8, 3) := by decide +kernel
theorem dX6_between_14 : decode cX6_between 14 = .ok (.iload_n 1, 1) := by decide +kernel
theorem dX6_between_15 : decode cX6_between 15 = .ok (.iload_n 2, 1) := by decide +kernel
theorem dX6_between_16 : decode cX6_between 16 = .ok (.if_icmp .ne 5, 3) := by decide +kernel
theorem dX6_between_19 : decode cX6_between 19 = .ok (.iconst (-1), 1) := by decide +kernel
theorem dX6_between_20 : decode cX6_between 20 = .ok (.ireturn, 1) := by decide +kernel
theorem dX6_between_21 : decode cX6_between 21 = .ok (.iload_n 3, 1) := by decide +kernel
theorem dX6_between_22 : decode cX6_between 22 = .ok (.iconst 0, 1) := by decide +kernel
theorem dX6_between_23 : decode cX6_between 23 = .ok (.iconst 4, 1) := by decide +kernel
theorem dX6_between_24 : decode cX6_between 24 = .ok (.invokestatic 59, 3) := by decide +kernel
theorem dX6_between_27 : decode cX6_between 27 = .ok (.ifCond .ne 6, 3) := by decide +kernel
theorem dX6_between_30 : decode cX6_between 30 = .ok (.bipush (-2), 2) := by decide +kernel
theorem dX6_between_32 : decode cX6_between 32 = .ok (.ireturn, 1) := by decide +kernel
theorem dX6_between_33 : decode cX6_between 33 = .ok (.aload_n 0, 1) := by decide +kernel
theorem dX6_between_34 : decode cX6_between 34 = .ok (.getfield 55, 3) := by decide +kernel
theorem dX6_between_37 : decode cX6_between 37 = .ok (.iload_n 1, 1) := by decide +kernel
theorem dX6_between_38 : decode cX6_between 38 = .ok (.iload_n 2, 1) := by decide +kernel
theorem dX6_between_39 : decode cX6_between 39 = .ok (.iload_n 3, 1) := by decide +kernel
theorem dX6_between_40 : decode cX6_between 40 = .ok (.iload 4, 2) := by decide +kernel
theorem dX6_between_42 : decode cX6_between 42 = .ok (.invokevirtual 190, 3) := by decide +kernel
theorem dX6_between_45 : decode cX6_between 45 = .ok (.iload 4, 2) := by decide +kernel
theorem dX6_between_47 : decode cX6_between 47 = .ok (.iconst (-1), 1) := by decide +kernel
theorem dX6_between_48 : decode cX6_between 48 = .ok (.if_icmp .ne 13, 3) := by decide +kernel
theorem dX6_between_51 : decode cX6_between 51 = .ok (.aload_n 0, 1) := by decide +kernel
theorem dX6_between_52 : decode cX6_between 52 = .ok (.getfield 55, 3) := by decide +kernel
theorem dX6_between_55 : decode cX6_between 55 = .ok (.invokevirtual 193, 3) := by decide +kernel
theorem dX6_between_58 : decode cX6_between 58 = .ok (.goto 10, 3) := by decide +kernel
theorem dX6_between_61 : decode cX6_between 61 = .ok (.aload_n 0, 1) := by decide +kernel
theorem dX6_between_62 : decode cX6_between 62 = .ok (.getfield 55, 3) := by decide +kernel
theorem dX6_between_65 : decode cX6_between 65 = .ok (.invokevirtual 196, 3) := by decide +kernel
theorem dX6_between_68 : decode cX6_between 68 = .ok (.ireturn, 1) := by decide +kernel
set_option maxRecDepth 20000 in
theorem ggX6_high_X6_isInsult : GoodIn wsX6_high wsX6_isInsult := goodIn_r _ [6, 7, 8, 5, 9] (by decide +kernel) (by decide +kernel)
set_option maxRecDepth 20000 in
theorem gX6_high_X6_isInsult : GoodIn wsX6_high (va_wsS RX6 98 yX6_isInsult wsX6_isInsult) := goodIn_app (goodIn_of _ (by decide +kernel)) ggX6_high_X6_isInsult
set_option maxRecDepth 20000 in
theorem ggX6_high_X4_worseThan : GoodIn wsX6_high wsX4_worseThan := goodIn_r _ [13, 14, 15, 5, 16, 66, 67, 68, 69, 70] (by decide +kernel) (by decide +kernel)
set_option maxRecDepth 20000 in
theorem gX6_high_X4_worseThan_n102 : GoodIn wsX6_high (wsX4_worseThan) := ggX6_high_X4_worseThan
set_option maxRecDepth 20000 in
theorem ggX6_high_X0_spin : GoodIn wsX6_high wsX0_spin := goodIn_r _ [20, 21, 22, 23, 24, 18, 25, 26, 27, 28, 29, 30, 31, 32, 33, 34, 35, 36, 37, 38, 39, 40, 41, 5, 42, 43, 44, 45, 46, 47, 48, 49, 50, 51, 52, 15, 16, 10, 11, 12, 13, 14, 53, 54, 71, 72, 73, 74, 75, 76, 77, 66, 67, 68, 69, 70] (by decide +kernel) (by decide +kernel)
set_option maxRecDepth 20000 in
theorem gX6_high_X0_spin_n152 : GoodIn wsX6_high (wsX0_spin) := ggX6_high_X0_spin
set_option maxRecDepth 20000 in
theorem ggX6_high_X0_spun : GoodIn wsX6_high wsX0_spun := goodIn_r _ [57, 28, 71, 72, 73, 74, 75, 76, 77] (by decide +kernel) (by decide +kernel)
set_option maxRecDepth 20000 in
theorem gX6_high_X0_spun_n156 : GoodIn wsX6_high (wsX0_spun) := ggX6_high_X0_spun
theorem dX6_high_0 : decode cX6_high 0 = .ok (.iload_n 1, 1) := by decide +kernel
theorem dX6_high_1 : decode cX6_high 1 = .ok (.invokestatic 98, 3) := by decide +kernel
theorem dX6_high_4 : decode cX6_high 4 = .ok (.ifCond .ne 5, 3) := by decide +kernel
theorem dX6_high_7 : decode cX6_high 7 = .ok (.iconst (-1), 1) := by decide +kernel
theorem dX6_high_8 : decode cX6_high 8 = .ok (.ireturn, 1) := by decide +kernel
theorem dX6_high_9 : decode cX6_high 9 = .ok (.aload_n 0, 1) := by decide +kernel
theorem dX6_high_10 : decode cX6_high 10 = .ok (.getfield 34, 3) := by decide +kernel
theorem dX6_high_13 : decode cX6_high 13 = .ok (.aload_n 0, 1) := by decide +kernel
theorem dX6_high_14 : decode cX6_high 14 = .ok (.getfield 19, 3) := by decide +kernel
theorem dX6_high_17 : decode cX6_high 17 = .ok (.iload_n 1, 1) := by decide +kernel
theorem dX6_high_18 : decode cX6_high 18 = .ok (.invokevirtual 102, 3) := by decide +kernel
theorem dX6_high_21 : decode cX6_high 21 = .ok (.iconst 1, 1) := by decide +kernel
theorem dX6_high_22 : decode cX6_high 22 = .ok (.iload_n 1, 1) := by decide +kernel
theorem dX6_high_23 : decode cX6_high 23 = .ok (.ishl, 1) := by decide +kernel
theorem dX6_high_24 : decode cX6_high 24 = .ok (.sipush 1023, 3) := by decide +kernel
theorem dX6_high_27 : decode cX6_high 27 = .ok (.sipush 1023, 3) := by decide +kernel
theorem dX6_high_30 : decode cX6_high 30 = .ok (.invokevirtual 152, 3) := by decide +kernel
theorem dX6_high_33 : decode cX6_high 33 = .ok (.aload_n 0, 1) := by decide +kernel
theorem dX6_high_34 : decode cX6_high 34 = .ok (.getfield 34, 3) := by decide +kernel
theorem dX6_high_37 : decode cX6_high 37 = .ok (.invokevirtual 156, 3) := by decide +kernel
theorem dX6_high_40 : decode cX6_high 40 = .ok (.ireturn, 1) := by decide +kernel
set_option maxRecDepth 20000 in
theorem ggX6_image_X6_isImage : GoodIn wsX6_image wsX6_isImage := goodIn_r _ [5, 6, 7, 4, 8] (by decide +kernel) (by decide +kernel)
set_option maxRecDepth 20000 in
theorem gX6_image_X6_isImage : GoodIn wsX6_image (va_wsS RX6 199 yX6_isImage wsX6_isImage) := goodIn_app (goodIn_of _ (by decide +kernel)) ggX6_image_X6_isImage
set_option maxRecDepth 20000 in
theorem ggX6_image_X6_imageOf : GoodIn wsX6_image wsX6_imageOf := goodIn_r _ [12, 13, 14, 44, 45, 46, 47, 48, 49, 50, 51] (by decide +kernel) (by decide +kernel)
set_option maxRecDepth 20000 in
theorem gX6_image_X6_imageOf : GoodIn wsX6_image (wsV RX6 202 RX6 yX6_imageOf wsX6_imageOf) := goodIn_app (goodIn_of _ (by decide +kernel)) ggX6_image_X6_imageOf
set_option maxRecDepth 20000 in
theorem ggX6_image_X4_copy : GoodIn wsX6_image wsX4_copy := goodIn_r _ [18, 19, 20, 21, 22, 23, 24, 25, 26, 16, 27, 28, 4, 29, 30, 31, 32, 33, 34, 35, 36, 37, 38, 39, 40, 41, 42, 43, 52, 53, 54, 55, 56] (by decide +kernel) (by decide +kernel)
set_option maxRecDepth 20000 in
theorem gX6_image_X4_copy_n206 : GoodIn wsX6_image (wsX4_copy) := ggX6_image_X4_copy
theorem dX6_image_0 : decode cX6_image 0 = .ok (.iload_n 1, 1) := by decide +kernel
theorem dX6_image_1 : decode cX6_image 1 = .ok (.invokestatic 199, 3) := by decide +kernel
theorem dX6_image_4 : decode cX6_image 4 = .ok (.ifCond .ne 6, 3) := by decide +kernel
theorem dX6_image_7 : decode cX6_image 7 = .ok (.bipush (-2), 2) := by decide +kernel
theorem dX6_image_9 : decode cX6_image 9 = .ok (.ireturn, 1) := by decide +kernel
theorem dX6_image_10 : decode cX6_image 10 = .ok (.aload_n 0, 1) := by decide +kernel
theorem dX6_image_11 : decode cX6_image 11 = .ok (.iload_n 1, 1) := by decide +kernel
theorem dX6_image_12 : decode cX6_image 12 = .ok (.invokevirtual 202, 3) := by decide +kernel
theorem dX6_image_15 : decode cX6_image 15 = .ok (.aload_n 0, 1) := by decide +kernel
theorem dX6_image_16 : decode cX6_image 16 = .ok (.getfield 19, 3) := by decide +kernel
theorem dX6_image_19 : decode cX6_image 19 = .ok (.invokevirtual 206, 3) := by decide +kernel
theorem dX6_image_22 : decode cX6_image 22 = .ok (.iconst 1, 1) := by decide +kernel
theorem dX6_image_23 : decode cX6_image 23 = .ok (.ireturn, 1) := by decide +kernel
set_option maxRecDepth 20000 in
theorem ggX6_restore_X6_isImage : GoodIn wsX6_restore wsX6_isImage := goodIn_r _ [5, 6, 7, 4, 8] (by decide +kernel) (by decide +kernel)
set_option maxRecDepth 20000 in
theorem gX6_restore_X6_isImage : GoodIn wsX6_restore (va_wsS RX6 199 yX6_isImage wsX6_isImage) := goodIn_app (goodIn_of _ (by decide +kernel)) ggX6_restore_X6_isImage
set_option maxRecDepth 20000 in
theorem ggX6_restore_X6_imageOf : GoodIn wsX6_restore wsX6_imageOf := goodIn_r _ [12, 13, 14, 47, 48, 49, 50, 51, 52, 53, 54] (by decide +kernel) (by decide +kernel)
set_option maxRecDepth 20000 in
theorem gX6_restore_X6_imageOf : GoodIn wsX6_restore (wsV RX6 202 RX6 yX6_imageOf wsX6_imageOf) := goodIn_app (goodIn_of _ (by decide +kernel)) ggX6_restore_X6_imageOf
set_option maxRecDepth 20000 in
theorem ggX6_restore_X4_isKept : GoodIn wsX6_restore wsX4_isKept := goodIn_r _ [18, 19, 55, 56, 57, 58, 59] (by decide +kernel) (by decide +kernel)
set_option maxRecDepth 20000 in
theorem gX6_restore_X4_isKept_n209 : GoodIn wsX6_restore (wsX4_isKept) := ggX6_restore_X4_isKept
set_option maxRecDepth 20000 in
theorem ggX6_restore_X4_copy : GoodIn wsX6_restore wsX4_copy := goodIn_r _ [22, 23, 24, 25, 26, 19, 27, 28, 29, 16, 30, 31, 4, 32, 33, 34, 35, 36, 37, 38, 39, 40, 41, 42, 43, 44, 45, 46, 55, 56, 57, 58, 59] (by decide +kernel) (by decide +kernel)
set_option maxRecDepth 20000 in
theorem gX6_restore_X4_copy_n206 : GoodIn wsX6_restore (wsX4_copy) := ggX6_restore_X4_copy
theorem dX6_restore_0 : decode cX6_restore 0 = .ok (.iload_n 1, 1) := by decide +kernel
theorem dX6_restore_1 : decode cX6_restore 1 = .ok (.invokestatic 199, 3) := by decide +kernel
theorem dX6_restore_4 : decode cX6_restore 4 = .ok (.ifCond .ne 6, 3) := by decide +kernel
theorem dX6_restore_7 : decode cX6_restore 7 = .ok (.bipush (-2), 2) := by decide +kernel
theorem dX6_restore_9 : decode cX6_restore 9 = .ok (.ireturn, 1) := by decide +kernel
theorem dX6_restore_10 : decode cX6_restore 10 = .ok (.aload_n 0, 1) := by decide +kernel
theorem dX6_restore_11 : decode cX6_restore 11 = .ok (.iload_n 1, 1) := by decide +kernel
theorem dX6_restore_12 : decode cX6_restore 12 = .ok (.invokevirtual 202, 3) := by decide +kernel
theorem dX6_restore_15 : decode cX6_restore 15 = .ok (.invokevirtual 209, 3) := by decide +kernel
theorem dX6_restore_18 : decode cX6_restore 18 = .ok (.ifCond .ne 6, 3) := by decide +kernel
theorem dX6_restore_21 : decode cX6_restore 21 = .ok (.bipush (-3), 2) := by decide +kernel
theorem dX6_restore_23 : decode cX6_restore 23 = .ok (.ireturn, 1) := by decide +kernel
theorem dX6_restore_24 : decode cX6_restore 24 = .ok (.aload_n 0, 1) := by decide +kernel
theorem dX6_restore_25 : decode cX6_restore 25 = .ok (.getfield 19, 3) := by decide +kernel
theorem dX6_restore_28 : decode cX6_restore 28 = .ok (.aload_n 0, 1) := by decide +kernel
theorem dX6_restore_29 : decode cX6_restore 29 = .ok (.iload_n 1, 1) := by decide +kernel
theorem dX6_restore_30 : decode cX6_restore 30 = .ok (.invokevirtual 202, 3) := by decide +kernel
theorem dX6_restore_33 : decode cX6_restore 33 = .ok (.invokevirtual 206, 3) := by decide +kernel
theorem dX6_restore_36 : decode cX6_restore 36 = .ok (.iconst 1, 1) := by decide +kernel
theorem dX6_restore_37 : decode cX6_restore 37 = .ok (.ireturn, 1) := by decide +kernel
set_option maxRecDepth 20000 in
theorem ggX6_join_X6_isImage : GoodIn wsX6_join wsX6_isImage := goodIn_r _ [5, 6, 7, 4, 8] (by decide +kernel) (by decide +kernel)
set_option maxRecDepth 20000 in
theorem gX6_join_X6_isImage : GoodIn wsX6_join (va_wsS RX6 199 yX6_isImage wsX6_isImage) := goodIn_app (goodIn_of _ (by decide +kernel)) ggX6_join_X6_isImage
set_option maxRecDepth 20000 in
theorem ggX6_join_X6_imageOf : GoodIn wsX6_join wsX6_imageOf := goodIn_r _ [12, 13, 14, 42, 43, 44, 45, 46, 47, 48, 49] (by decide +kernel) (by decide +kernel)
set_option maxRecDepth 20000 in
theorem gX6_join_X6_imageOf : GoodIn wsX6_join (wsV RX6 202 RX6 yX6_imageOf wsX6_imageOf) := goodIn_app (goodIn_of _ (by decide +kernel)) ggX6_join_X6_imageOf
set_option maxRecDepth 20000 in
theorem ggX6_join_X4_isKept : GoodIn wsX6_join wsX4_isKept := goodIn_r _ [18, 19, 50, 51, 52, 53, 54] (by decide +kernel) (by decide +kernel)
set_option maxRecDepth 20000 in
theorem gX6_join_X4_isKept_n209 : GoodIn wsX6_join (wsX4_isKept) := ggX6_join_X4_isKept
set_option maxRecDepth 20000 in
theorem ggX6_join_X4_addSteps : GoodIn wsX6_join wsX4_addSteps := goodIn_r _ [22, 23, 24, 25, 26, 16, 27, 28, 4, 29, 30, 31, 50, 51, 52, 53, 54] (by decide +kernel) (by decide +kernel)
set_option maxRecDepth 20000 in
theorem gX6_join_X4_addSteps_n212 : GoodIn wsX6_join (wsX4_addSteps) := ggX6_join_X4_addSteps
set_option maxRecDepth 20000 in
theorem ggX6_join_X4_countSteps : GoodIn wsX6_join wsX4_countSteps := goodIn_r _ [34, 24, 25, 26, 16, 27, 23, 28, 4, 29, 35, 36, 37, 38, 39, 40, 41, 50, 51, 52, 53, 54] (by decide +kernel) (by decide +kernel)
set_option maxRecDepth 20000 in
theorem gX6_join_X4_countSteps_n95 : GoodIn wsX6_join (wsX4_countSteps) := ggX6_join_X4_countSteps
theorem dX6_join_0 : decode cX6_join 0 = .ok (.iload_n 1, 1) := by decide +kernel
theorem dX6_join_1 : decode cX6_join 1 = .ok (.invokestatic 199, 3) := by decide +kernel
theorem dX6_join_4 : decode cX6_join 4 = .ok (.ifCond .ne 6, 3) := by decide +kernel
theorem dX6_join_7 : decode cX6_join 7 = .ok (.bipush (-2), 2) := by decide +kernel
theorem dX6_join_9 : decode cX6_join 9 = .ok (.ireturn, 1) := by decide +kernel
theorem dX6_join_10 : decode cX6_join 10 = .ok (.aload_n 0, 1) := by decide +kernel
theorem dX6_join_11 : decode cX6_join 11 = .ok (.iload_n 1, 1) := by decide +kernel
theorem dX6_join_12 : decode cX6_join 12 = .ok (.invokevirtual 202, 3) := by decide +kernel
theorem dX6_join_15 : decode cX6_join 15 = .ok (.invokevirtual 209, 3) := by decide +kernel
theorem dX6_join_18 : decode cX6_join 18 = .ok (.ifCond .ne 6, 3) := by decide +kernel
theorem dX6_join_21 : decode cX6_join 21 = .ok (.bipush (-3), 2) := by decide +kernel
theorem dX6_join_23 : decode cX6_join 23 = .ok (.ireturn, 1) := by decide +kernel
theorem dX6_join_24 : decode cX6_join 24 = .ok (.aload_n 0, 1) := by decide +kernel
theorem dX6_join_25 : decode cX6_join 25 = .ok (.getfield 19, 3) := by decide +kernel
theorem dX6_join_28 : decode cX6_join 28 = .ok (.aload_n 0, 1) := by decide +kernel
theorem dX6_join_29 : decode cX6_join 29 = .ok (.iload_n 1, 1) := by decide +kernel
theorem dX6_join_30 : decode cX6_join 30 = .ok (.invokevirtual 202, 3) := by decide +kernel
theorem dX6_join_33 : decode cX6_join 33 = .ok (.invokevirtual 212, 3) := by decide +kernel
theorem dX6_join_36 : decode cX6_join 36 = .ok (.aload_n 0, 1) := by decide +kernel
theorem dX6_join_37 : decode cX6_join 37 = .ok (.getfield 19, 3) := by decide +kernel
theorem dX6_join_40 : decode cX6_join 40 = .ok (.invokevirtual 95, 3) := by decide +kernel
theorem dX6_join_43 : decode cX6_join 43 = .ok (.ireturn, 1) := by decide +kernel
set_option maxRecDepth 20000 in
theorem ggX6_told_X3_size : GoodIn wsX6_told wsX3_size := goodIn_r _ [6, 7, 50, 51] (by decide +kernel) (by decide +kernel)
set_option maxRecDepth 20000 in
theorem gX6_told_X3_size_n71 : GoodIn wsX6_told (wsX3_size) := ggX6_told_X3_size
set_option maxRecDepth 20000 in
theorem ggX6_told_X4_countSteps : GoodIn wsX6_told wsX4_countSteps := goodIn_r _ [11, 12, 13, 14, 9, 15, 16, 17, 18, 19, 20, 21, 22, 23, 24, 25, 26, 52, 53, 54, 55, 56] (by decide +kernel) (by decide +kernel)
set_option maxRecDepth 20000 in
theorem gX6_told_X4_countSteps_n95 : GoodIn wsX6_told (wsX4_countSteps) := ggX6_told_X4_countSteps
set_option maxRecDepth 20000 in
theorem ggX6_told_X6_within : GoodIn wsX6_told wsX6_within := goodIn_r _ [29] (by decide +kernel) (by decide +kernel)
set_option maxRecDepth 20000 in
theorem gX6_told_X6_within : GoodIn wsX6_told (va_wsS RX6 59 yX6_within wsX6_within) := goodIn_app (goodIn_of _ (by decide +kernel)) ggX6_told_X6_within
set_option maxRecDepth 20000 in
theorem ggX6_told_X4_neededBy : GoodIn wsX6_told wsX4_neededBy := goodIn_r _ [32, 33, 17, 18, 19, 52, 53, 54, 55, 56] (by decide +kernel) (by decide +kernel)
set_option maxRecDepth 20000 in
theorem gX6_told_X4_neededBy_n109 : GoodIn wsX6_told (wsX4_neededBy) := ggX6_told_X4_neededBy
set_option maxRecDepth 20000 in
theorem ggX6_told_X4_traitsOf : GoodIn wsX6_told wsX4_traitsOf := goodIn_r _ [36, 37, 17, 18, 19, 52, 53, 54, 55, 56] (by decide +kernel) (by decide +kernel)
set_option maxRecDepth 20000 in
theorem gX6_told_X4_traitsOf_n119 : GoodIn wsX6_told (wsX4_traitsOf) := ggX6_told_X4_traitsOf
set_option maxRecDepth 20000 in
theorem ggX6_told_X4_knownTo : GoodIn wsX6_told wsX4_knownTo := goodIn_r _ [40, 41, 17, 18, 19, 52, 53, 54, 55, 56] (by decide +kernel) (by decide +kernel)
set_option maxRecDepth 20000 in
theorem gX6_told_X4_knownTo_n125 : GoodIn wsX6_told (wsX4_knownTo) := ggX6_told_X4_knownTo
set_option maxRecDepth 20000 in
theorem ggX6_told_X4_worseThan : GoodIn wsX6_told wsX4_worseThan := goodIn_r _ [15, 16, 17, 18, 19, 52, 53, 54, 55, 56] (by decide +kernel) (by decide +kernel)
set_option maxRecDepth 20000 in
theorem gX6_told_X4_worseThan_n102 : GoodIn wsX6_told (wsX4_worseThan) := ggX6_told_X4_worseThan
theorem dX6_told_0 : decode cX6_told 0 = .ok (.iload_n 1, 1) := by decide +kernel
theorem dX6_told_1 : decode cX6_told 1 = .ok (.ifCond .ne 11, 3) := by decide +kernel
theorem dX6_told_4 : decode cX6_told 4 = .ok (.aload_n 0, 1) := by decide +kernel
theorem dX6_told_5 : decode cX6_told 5 = .ok (.getfield 10, 3) := by decide +kernel
theorem dX6_told_8 : decode cX6_told 8 = .ok (.invokevirtual 71, 3) := by decide +kernel
theorem dX6_told_11 : decode cX6_told 11 = .ok (.ireturn, 1) := by decide +kernel
theorem dX6_told_12 : decode cX6_told 12 = .ok (.iload_n 1, 1) := by decide +kernel
theorem dX6_told_13 : decode cX6_told 13 = .ok (.iconst 1, 1) := by decide +kernel
theorem dX6_told_14 : decode cX6_told 14 = .ok (.if_icmp .ne 11, 3) := by decide +kernel
theorem dX6_told_17 : decode cX6_told 17 = .ok (.aload_n 0, 1) := by decide +kernel
theorem dX6_told_18 : decode cX6_told 18 = .ok (.getfield 19, 3) := by decide +kernel
theorem dX6_told_21 : decode cX6_told 21 = .ok (.invokevirtual 95, 3) := by decide +kernel
theorem dX6_told_24 : decode cX6_told 24 = .ok (.ireturn, 1) := by decide +kernel
theorem dX6_told_25 : decode cX6_told 25 = .ok (.iload_n 1, 1) := by decide +kernel
theorem dX6_told_26 : decode cX6_told 26 = .ok (.bipush 10, 2) := by decide +kernel
theorem dX6_told_28 : decode cX6_told 28 = .ok (.bipush 19, 2) := by decide +kernel
theorem dX6_told_30 : decode cX6_told 30 = .ok (.invokestatic 59, 3) := by decide +kernel
theorem dX6_told_33 : decode cX6_told 33 = .ok (.ifCond .eq 15, 3) := by decide +kernel
theorem dX6_told_36 : decode cX6_told 36 = .ok (.aload_n 0, 1) := by decide +kernel
theorem dX6_told_37 : decode cX6_told 37 = .ok (.getfield 19, 3) := by decide +kernel
theorem dX6_told_40 : decode cX6_told 40 = .ok (.iload_n 1, 1) := by decide +kernel
theorem dX6_told_41 : decode cX6_told 41 = .ok (.bipush 10, 2) := by decide +kernel
theorem dX6_told_43 : decode cX6_told 43 = .ok (.isub, 1) := by decide +kernel
theorem dX6_told_44 : decode cX6_told 44 = .ok (.invokevirtual 109, 3) := by decide +kernel
theorem dX6_told_47 : decode cX6_told 47 = .ok (.ireturn, 1) := by decide +kernel
theorem dX6_told_48 : decode cX6_told 48 = .ok (.iload_n 1, 1) := by decide +kernel
theorem dX6_told_49 : decode cX6_told 49 = .ok (.bipush 20, 2) := by decide +kernel
theorem dX6_told_51 : decode cX6_told 51 = .ok (.bipush 24, 2) := by decide +kernel
theorem dX6_told_53 : decode cX6_told 53 = .ok (.invokestatic 59, 3) := by decide +kernel
theorem dX6_told_56 : decode cX6_told 56 = .ok (.ifCond .eq 15, 3) := by decide +kernel
theorem dX6_told_59 : decode cX6_told 59 = .ok (.aload_n 0, 1) := by decide +kernel
theorem dX6_told_60 : decode cX6_told 60 = .ok (.getfield 19, 3) := by decide +kernel
theorem dX6_told_63 : decode cX6_told 63 = .ok (.iload_n 1, 1) := by decide +kernel
theorem dX6_told_64 : decode cX6_told 64 = .ok (.bipush 20, 2) := by decide +kernel
theorem dX6_told_66 : decode cX6_told 66 = .ok (.isub, 1) := by decide +kernel
theorem dX6_told_67 : decode cX6_told 67 = .ok (.invokevirtual 119, 3) := by decide +kernel
theorem dX6_told_70 : decode cX6_told 70 = .ok (.ireturn, 1) := by decide +kernel
theorem dX6_told_71 : decode cX6_told 71 = .ok (.iload_n 1, 1) := by decide +kernel
theorem dX6_told_72 : decode cX6_told 72 = .ok (.bipush 30, 2) := by decide +kernel
theorem dX6_told_74 : decode cX6_told 74 = .ok (.bipush 34, 2) := by decide +kernel
theorem dX6_told_76 : decode cX6_told 76 = .ok (.invokestatic 59, 3) := by decide +kernel
theorem dX6_told_79 : decode cX6_told 79 = .ok (.ifCond .eq 15, 3) := by decide +kernel
theorem dX6_told_82 : decode cX6_told 82 = .ok (.aload_n 0, 1) := by decide +kernel
theorem dX6_told_83 : decode cX6_told 83 = .ok (.getfield 19, 3) := by decide +kernel
theorem dX6_told_86 : decode cX6_told 86 = .ok (.iload_n 1, 1) := by decide +kernel
theorem dX6_told_87 : decode cX6_told 87 = .ok (.bipush 30, 2) := by decide +kernel
theorem dX6_told_89 : decode cX6_told 89 = .ok (.isub, 1) := by decide +kernel
theorem dX6_told_90 : decode cX6_told 90 = .ok (.invokevirtual 125, 3) := by decide +kernel
theorem dX6_told_93 : decode cX6_told 93 = .ok (.ireturn, 1) := by decide +kernel
theorem dX6_told_94 : decode cX6_told 94 = .ok (.iload_n 1, 1) := by decide +kernel
theorem dX6_told_95 : decode cX6_told 95 = .ok (.bipush 40, 2) := by decide +kernel
theorem dX6_told_97 : decode cX6_told 97 = .ok (.bipush 49, 2) := by decide +kernel
theorem dX6_told_99 : decode cX6_told 99 = .ok (.invokestatic 59, 3) := by decide +kernel
theorem dX6_told_102 : decode cX6_told 102 = .ok (.ifCond .eq 15, 3) := by decide +kernel
theorem dX6_told_105 : decode cX6_told 105 = .ok (.aload_n 0, 1) := by decide +kernel
theorem dX6_told_106 : decode cX6_told 106 = .ok (.getfield 19, 3) := by decide +kernel
theorem dX6_told_109 : decode cX6_told 109 = .ok (.iload_n 1, 1) := by decide +kernel
theorem dX6_told_110 : decode cX6_told 110 = .ok (.bipush 40, 2) := by decide +kernel
theorem dX6_told_112 : decode cX6_told 112 = .ok (.isub, 1) := by decide +kernel
theorem dX6_told_113 : decode cX6_told 113 = .ok (.invokevirtual 102, 3) := by decide +kernel
theorem dX6_told_116 : decode cX6_told 116 = .ok (.ireturn, 1) := by decide +kernel
theorem dX6_told_117 : decode cX6_told 117 = .ok (.bipush (-2), 2) := by decide +kernel
theorem dX6_told_119 : decode cX6_told 119 = .ok (.ireturn, 1) := by decide +kernel
theorem dX6_within_0 : decode cX6_within 0 = .ok (.iload_n 0, 1) := by decide +kernel
theorem dX6_within_1 : decode cX6_within 1 = .ok (.iload_n 1, 1) := by decide +kernel
theorem dX6_within_2 : decode cX6_within 2 = .ok (.if_icmp .lt 12, 3) := by decide +kernel
theorem dX6_within_5 : decode cX6_within 5 = .ok (.iload_n 0, 1) := by decide +kernel
theorem dX6_within_6 : decode cX6_within 6 = .ok (.iload_n 2, 1) := by decide +kernel
theorem dX6_within_7 : decode cX6_within 7 = .ok (.if_icmp .gt 7, 3) := by decide +kernel
theorem dX6_within_10 : decode cX6_within 10 = .ok (.iconst 1, 1) := by decide +kernel
theorem dX6_within_11 : decode cX6_within 11 = .ok (.goto 4, 3) := by decide +kernel
theorem dX6_within_14 : decode cX6_within 14 = .ok (.iconst 0, 1) := by decide +kernel
theorem dX6_within_15 : decode cX6_within 15 = .ok (.ireturn, 1) := by decide +kernel
set_option maxRecDepth 20000 in
theorem ggX6_isInsult_X6_within : GoodIn wsX6_isInsult wsX6_within := goodIn_r _ [4] (by decide +kernel) (by decide +kernel)
set_option maxRecDepth 20000 in
theorem gX6_isInsult_X6_within : GoodIn wsX6_isInsult (va_wsS RX6 59 yX6_within wsX6_within) := goodIn_app (goodIn_of _ (by decide +kernel)) ggX6_isInsult_X6_within
theorem dX6_isInsult_0 : decode cX6_isInsult 0 = .ok (.iload_n 0, 1) := by decide +kernel
theorem dX6_isInsult_1 : decode cX6_isInsult 1 = .ok (.iconst 0, 1) := by decide +kernel
theorem dX6_isInsult_2 : decode cX6_isInsult 2 = .ok (.bipush 9, 2) := by decide +kernel
theorem dX6_isInsult_4 : decode cX6_isInsult 4 = .ok (.invokestatic 59, 3) := by decide +kernel
theorem dX6_isInsult_7 : decode cX6_isInsult 7 = .ok (.ireturn, 1) := by decide +kernel
set_option maxRecDepth 20000 in
theorem ggX6_isMan_X6_within : GoodIn wsX6_isMan wsX6_within := goodIn_r _ [4] (by decide +kernel) (by decide +kernel)
set_option maxRecDepth 20000 in
theorem gX6_isMan_X6_within : GoodIn wsX6_isMan (va_wsS RX6 59 yX6_within wsX6_within) := goodIn_app (goodIn_of _ (by decide +kernel)) ggX6_isMan_X6_within
theorem dX6_isMan_0 : decode cX6_isMan 0 = .ok (.iload_n 0, 1) := by decide +kernel
theorem dX6_isMan_1 : decode cX6_isMan 1 = .ok (.iconst 0, 1) := by decide +kernel
theorem dX6_isMan_2 : decode cX6_isMan 2 = .ok (.iconst 4, 1) := by decide +kernel
theorem dX6_isMan_3 : decode cX6_isMan 3 = .ok (.invokestatic 59, 3) := by decide +kernel
theorem dX6_isMan_6 : decode cX6_isMan 6 = .ok (.ireturn, 1) := by decide +kernel
set_option maxRecDepth 20000 in
theorem ggX6_areTwo_X6_isMan : GoodIn wsX6_areTwo wsX6_isMan := goodIn_r _ [4, 5, 6, 3, 7] (by decide +kernel) (by decide +kernel)
set_option maxRecDepth 20000 in
theorem gX6_areTwo_X6_isMan : GoodIn wsX6_areTwo (va_wsS RX6 116 yX6_isMan wsX6_isMan) := goodIn_app (goodIn_of _ (by decide +kernel)) ggX6_areTwo_X6_isMan
theorem dX6_areTwo_0 : decode cX6_areTwo 0 = .ok (.iload_n 0, 1) := by decide +kernel
theorem dX6_areTwo_1 : decode cX6_areTwo 1 = .ok (.invokestatic 116, 3) := by decide +kernel
theorem dX6_areTwo_4 : decode cX6_areTwo 4 = .ok (.ifCond .eq 19, 3) := by decide +kernel
theorem dX6_areTwo_7 : decode cX6_areTwo 7 = .ok (.iload_n 1, 1) := by decide +kernel
theorem dX6_areTwo_8 : decode cX6_areTwo 8 = .ok (.invokestatic 116, 3) := by decide +kernel
theorem dX6_areTwo_11 : decode cX6_areTwo 11 = .ok (.ifCond .eq 12, 3) := by decide +kernel
theorem dX6_areTwo_14 : decode cX6_areTwo 14 = .ok (.iload_n 0, 1) := by decide +kernel
theorem dX6_areTwo_15 : decode cX6_areTwo 15 = .ok (.iload_n 1, 1) := by decide +kernel
theorem dX6_areTwo_16 : decode cX6_areTwo 16 = .ok (.if_icmp .eq 7, 3) := by decide +kernel
theorem dX6_areTwo_19 : decode cX6_areTwo 19 = .ok (.iconst 1, 1) := by decide +kernel
theorem dX6_areTwo_20 : decode cX6_areTwo 20 = .ok (.goto 4, 3) := by decide +kernel
theorem dX6_areTwo_23 : decode cX6_areTwo 23 = .ok (.iconst 0, 1) := by decide +kernel
theorem dX6_areTwo_24 : decode cX6_areTwo 24 = .ok (.ireturn, 1) := by decide +kernel
set_option maxRecDepth 20000 in
theorem ggX6_isImage_X6_within : GoodIn wsX6_isImage wsX6_within := goodIn_r _ [4] (by decide +kernel) (by decide +kernel)
set_option maxRecDepth 20000 in
theorem gX6_isImage_X6_within : GoodIn wsX6_isImage (va_wsS RX6 59 yX6_within wsX6_within) := goodIn_app (goodIn_of _ (by decide +kernel)) ggX6_isImage_X6_within
theorem dX6_isImage_0 : decode cX6_isImage 0 = .ok (.iload_n 0, 1) := by decide +kernel
theorem dX6_isImage_1 : decode cX6_isImage 1 = .ok (.iconst 0, 1) := by decide +kernel
theorem dX6_isImage_2 : decode cX6_isImage 2 = .ok (.iconst 1, 1) := by decide +kernel
theorem dX6_isImage_3 : decode cX6_isImage 3 = .ok (.invokestatic 59, 3) := by decide +kernel
theorem dX6_isImage_6 : decode cX6_isImage 6 = .ok (.ireturn, 1) := by decide +kernel
theorem dX6_has_0 : decode cX6_has 0 = .ok (.iload_n 0, 1) := by decide +kernel
theorem dX6_has_1 : decode cX6_has 1 = .ok (.iload_n 1, 1) := by decide +kernel
theorem dX6_has_2 : decode cX6_has 2 = .ok (.ishr, 1) := by decide +kernel
theorem dX6_has_3 : decode cX6_has 3 = .ok (.iconst 1, 1) := by decide +kernel
theorem dX6_has_4 : decode cX6_has 4 = .ok (.iand, 1) := by decide +kernel
theorem dX6_has_5 : decode cX6_has 5 = .ok (.iconst 1, 1) := by decide +kernel
theorem dX6_has_6 : decode cX6_has 6 = .ok (.if_icmp .ne 7, 3) := by decide +kernel
theorem dX6_has_9 : decode cX6_has 9 = .ok (.iconst 1, 1) := by decide +kernel
theorem dX6_has_10 : decode cX6_has 10 = .ok (.goto 4, 3) := by decide +kernel
theorem dX6_has_13 : decode cX6_has 13 = .ok (.iconst 0, 1) := by decide +kernel
theorem dX6_has_14 : decode cX6_has 14 = .ok (.ireturn, 1) := by decide +kernel
theorem dX6_at_0 : decode cX6_at 0 = .ok (.iload_n 1, 1) := by decide +kernel
theorem dX6_at_1 : decode cX6_at 1 = .ok (.ifCond .lt 15, 3) := by decide +kernel
theorem dX6_at_4 : decode cX6_at 4 = .ok (.iload_n 1, 1) := by decide +kernel
theorem dX6_at_5 : decode cX6_at 5 = .ok (.aload_n 0, 1) := by decide +kernel
theorem dX6_at_6 : decode cX6_at 6 = .ok (.arraylength, 1) := by decide +kernel
theorem dX6_at_7 : decode cX6_at 7 = .ok (.if_icmp .ge 9, 3) := by decide +kernel
theorem dX6_at_10 : decode cX6_at 10 = .ok (.aload_n 0, 1) := by decide +kernel
theorem dX6_at_11 : decode cX6_at 11 = .ok (.iload_n 1, 1) := by decide +kernel
theorem dX6_at_12 : decode cX6_at 12 = .ok (.iaload, 1) := by decide +kernel
theorem dX6_at_13 : decode cX6_at 13 = .ok (.goto 4, 3) := by decide +kernel
theorem dX6_at_16 : decode cX6_at 16 = .ok (.iconst 0, 1) := by decide +kernel
theorem dX6_at_17 : decode cX6_at 17 = .ok (.ireturn, 1) := by decide +kernel
theorem dX6_store_0 : decode cX6_store 0 = .ok (.iload_n 1, 1) := by decide +kernel
theorem dX6_store_1 : decode cX6_store 1 = .ok (.ifCond .lt 13, 3) := by decide +kernel
theorem dX6_store_4 : decode cX6_store 4 = .ok (.iload_n 1, 1) := by decide +kernel
theorem dX6_store_5 : decode cX6_store 5 = .ok (.aload_n 0, 1) := by decide +kernel
theorem dX6_store_6 : decode cX6_store 6 = .ok (.arraylength, 1) := by decide +kernel
theorem dX6_store_7 : decode cX6_store 7 = .ok (.if_icmp .ge 7, 3) := by decide +kernel
theorem dX6_store_10 : decode cX6_store 10 = .ok (.aload_n 0, 1) := by decide +kernel
theorem dX6_store_11 : decode cX6_store 11 = .ok (.iload_n 1, 1) := by decide +kernel
theorem dX6_store_12 : decode cX6_store 12 = .ok (.iload_n 2, 1) := by decide +kernel
theorem dX6_store_13 : decode cX6_store 13 = .ok (.iastore, 1) := by decide +kernel
theorem dX6_store_14 : decode cX6_store 14 = .ok (.return_, 1) := by decide +kernel
theorem dX6_imageOf_0 : decode cX6_imageOf 0 = .ok (.iload_n 1, 1) := by decide +kernel
theorem dX6_imageOf_1 : decode cX6_imageOf 1 = .ok (.ifCond .ne 10, 3) := by decide +kernel
theorem dX6_imageOf_4 : decode cX6_imageOf 4 = .ok (.aload_n 0, 1) := by decide +kernel
theorem dX6_imageOf_5 : decode cX6_imageOf 5 = .ok (.getfield 23, 3) := by decide +kernel
theorem dX6_imageOf_8 : decode cX6_imageOf 8 = .ok (.goto 7, 3) := by decide +kernel
theorem dX6_imageOf_11 : decode cX6_imageOf 11 = .ok (.aload_n 0, 1) := by decide +kernel
theorem dX6_imageOf_12 : decode cX6_imageOf 12 = .ok (.getfield 26, 3) := by decide +kernel
theorem dX6_imageOf_15 : decode cX6_imageOf 15 = .ok (.areturn, 1) := by decide +kernel
set_option maxRecDepth 20000 in
theorem ggX6_whyNone_X3_manAt : GoodIn wsX6_whyNone wsX3_manAt := goodIn_r _ [6, 7, 8, 9, 4, 10, 11, 12, 13, 14, 15, 16, 17, 18, 19, 20, 60, 61] (by decide +kernel) (by decide +kernel)
set_option maxRecDepth 20000 in
theorem gX6_whyNone_X3_manAt_n215 : GoodIn wsX6_whyNone (wsX3_manAt) := ggX6_whyNone_X3_manAt
set_option maxRecDepth 20000 in
theorem ggX6_whyNone_X3_insultAt : GoodIn wsX6_whyNone wsX3_insultAt := goodIn_r _ [23, 7, 8, 9, 4, 10, 11, 12, 13, 14, 15, 24, 25, 18, 19, 20, 60, 61] (by decide +kernel) (by decide +kernel)
set_option maxRecDepth 20000 in
theorem gX6_whyNone_X3_insultAt_n88 : GoodIn wsX6_whyNone (wsX3_insultAt) := ggX6_whyNone_X3_insultAt
set_option maxRecDepth 20000 in
theorem ggX6_whyNone_X4_worseThan : GoodIn wsX6_whyNone wsX4_worseThan := goodIn_r _ [29, 30, 13, 14, 15, 62, 63, 64, 65, 66] (by decide +kernel) (by decide +kernel)
set_option maxRecDepth 20000 in
theorem gX6_whyNone_X4_worseThan_n102 : GoodIn wsX6_whyNone (wsX4_worseThan) := ggX6_whyNone_X4_worseThan
set_option maxRecDepth 20000 in
theorem ggX6_whyNone_X6_has : GoodIn wsX6_whyNone wsX6_has := goodIn_r _ [33] (by decide +kernel) (by decide +kernel)
set_option maxRecDepth 20000 in
theorem gX6_whyNone_X6_has : GoodIn wsX6_whyNone (va_wsS RX6 105 yX6_has wsX6_has) := goodIn_app (goodIn_of _ (by decide +kernel)) ggX6_whyNone_X6_has
set_option maxRecDepth 20000 in
theorem ggX6_whyNone_X6_isMan : GoodIn wsX6_whyNone wsX6_isMan := goodIn_r _ [17, 18, 19, 14, 20] (by decide +kernel) (by decide +kernel)
set_option maxRecDepth 20000 in
theorem gX6_whyNone_X6_isMan : GoodIn wsX6_whyNone (va_wsS RX6 116 yX6_isMan wsX6_isMan) := goodIn_app (goodIn_of _ (by decide +kernel)) ggX6_whyNone_X6_isMan
set_option maxRecDepth 20000 in
theorem ggX6_whyNone_X4_fitting : GoodIn wsX6_whyNone wsX4_fitting := goodIn_r _ [37, 38, 39, 40, 27, 41, 42, 13, 14, 15, 43, 44, 45, 46, 47, 62, 63, 64, 65, 66] (by decide +kernel) (by decide +kernel)
set_option maxRecDepth 20000 in
theorem gX6_whyNone_X4_fitting_n131 : GoodIn wsX6_whyNone (wsX4_fitting) := ggX6_whyNone_X4_fitting
set_option maxRecDepth 20000 in
theorem ggX6_whyNone_X4_knownTo : GoodIn wsX6_whyNone wsX4_knownTo := goodIn_r _ [50, 51, 13, 14, 15, 62, 63, 64, 65, 66] (by decide +kernel) (by decide +kernel)
set_option maxRecDepth 20000 in
theorem gX6_whyNone_X4_knownTo_n125 : GoodIn wsX6_whyNone (wsX4_knownTo) := ggX6_whyNone_X4_knownTo
theorem dX6_whyNone_0 : decode cX6_whyNone 0 = .ok (.aload_n 0, 1) := by decide +kernel
theorem dX6_whyNone_1 : decode cX6_whyNone 1 = .ok (.getfield 10, 3) := by decide +kernel
theorem dX6_whyNone_4 : decode cX6_whyNone 4 = .ok (.iconst 2, 1) := by decide +kernel
theorem dX6_whyNone_5 : decode cX6_whyNone 5 = .ok (.iload_n 1, 1) := by decide +kernel
theorem dX6_whyNone_6 : decode cX6_whyNone 6 = .ok (.imul, 1) := by decide +kernel
theorem dX6_whyNone_7 : decode cX6_whyNone 7 = .ok (.invokevirtual 215, 3) := by decide +kernel
theorem dX6_whyNone_10 : decode cX6_whyNone 10 = .ok (.istore_n 2, 1) := by decide +kernel
theorem dX6_whyNone_11 : decode cX6_whyNone 11 = .ok (.aload_n 0, 1) := by decide +kernel
theorem dX6_whyNone_12 : decode cX6_whyNone 12 = .ok (.getfield 10, 3) := by decide +kernel
theorem dX6_whyNone_15 : decode cX6_whyNone 15 = .ok (.iconst 2, 1) := by decide +kernel
theorem dX6_whyNone_16 : decode cX6_whyNone 16 = .ok (.iload_n 1, 1) := by decide +kernel
theorem dX6_whyNone_17 : decode cX6_whyNone 17 = .ok (.imul, 1) := by decide +kernel
theorem dX6_whyNone_18 : decode cX6_whyNone 18 = .ok (.iconst 1, 1) := by decide +kernel
theorem dX6_whyNone_19 : decode cX6_whyNone 19 = .ok (.iadd, 1) := by decide +kernel
theorem dX6_whyNone_20 : decode cX6_whyNone 20 = .ok (.invokevirtual 88, 3) := by decide +kernel
theorem dX6_whyNone_23 : decode cX6_whyNone 23 = .ok (.istore_n 3, 1) := by decide +kernel
theorem dX6_whyNone_24 : decode cX6_whyNone 24 = .ok (.iload_n 1, 1) := by decide +kernel
theorem dX6_whyNone_25 : decode cX6_whyNone 25 = .ok (.ifCond .le 31, 3) := by decide +kernel
theorem dX6_whyNone_28 : decode cX6_whyNone 28 = .ok (.aload_n 0, 1) := by decide +kernel
theorem dX6_whyNone_29 : decode cX6_whyNone 29 = .ok (.getfield 19, 3) := by decide +kernel
theorem dX6_whyNone_32 : decode cX6_whyNone 32 = .ok (.aload_n 0, 1) := by decide +kernel
theorem dX6_whyNone_33 : decode cX6_whyNone 33 = .ok (.getfield 10, 3) := by decide +kernel
theorem dX6_whyNone_36 : decode cX6_whyNone 36 = .ok (.iconst 2, 1) := by decide +kernel
theorem dX6_whyNone_37 : decode cX6_whyNone 37 = .ok (.iload_n 1, 1) := by decide +kernel
theorem dX6_whyNone_38 : decode cX6_whyNone 38 = .ok (.imul, 1) := by decide +kernel
theorem dX6_whyNone_39 : decode cX6_whyNone 39 = .ok (.iconst 1, 1) := by decide +kernel
theorem dX6_whyNone_40 : decode cX6_whyNone 40 = .ok (.isub, 1) := by decide +kernel
theorem dX6_whyNone_41 : decode cX6_whyNone 41 = .ok (.invokevirtual 88, 3) := by decide +kernel
theorem dX6_whyNone_44 : decode cX6_whyNone 44 = .ok (.invokevirtual 102, 3) := by decide +kernel
theorem dX6_whyNone_47 : decode cX6_whyNone 47 = .ok (.iload_n 3, 1) := by decide +kernel
theorem dX6_whyNone_48 : decode cX6_whyNone 48 = .ok (.invokestatic 105, 3) := by decide +kernel
theorem dX6_whyNone_51 : decode cX6_whyNone 51 = .ok (.ifCond .ne 5, 3) := by decide +kernel
theorem dX6_whyNone_54 : decode cX6_whyNone 54 = .ok (.iconst 1, 1) := by decide +kernel
theorem dX6_whyNone_55 : decode cX6_whyNone 55 = .ok (.ireturn, 1) := by decide +kernel
theorem dX6_whyNone_56 : decode cX6_whyNone 56 = .ok (.iconst 0, 1) := by decide +kernel
theorem dX6_whyNone_57 : decode cX6_whyNone 57 = .ok (.istore 4, 2) := by decide +kernel
theorem dX6_whyNone_59 : decode cX6_whyNone 59 = .ok (.iload 4, 2) := by decide +kernel
theorem dX6_whyNone_61 : decode cX6_whyNone 61 = .ok (.iload_n 1, 1) := by decide +kernel
theorem dX6_whyNone_62 : decode cX6_whyNone 62 = .ok (.if_icmp .ge 28, 3) := by decide +kernel
theorem dX6_whyNone_65 : decode cX6_whyNone 65 = .ok (.aload_n 0, 1) := by decide +kernel
theorem dX6_whyNone_66 : decode cX6_whyNone 66 = .ok (.getfield 10, 3) := by decide +kernel
theorem dX6_whyNone_69 : decode cX6_whyNone 69 = .ok (.iconst 2, 1) := by decide +kernel
theorem dX6_whyNone_70 : decode cX6_whyNone 70 = .ok (.iload 4, 2) := by decide +kernel
theorem dX6_whyNone_72 : decode cX6_whyNone 72 = .ok (.imul, 1) := by decide +kernel
theorem dX6_whyNone_73 : decode cX6_whyNone 73 = .ok (.iconst 1, 1) := by decide +kernel
theorem dX6_whyNone_74 : decode cX6_whyNone 74 = .ok (.iadd, 1) := by decide +kernel
theorem dX6_whyNone_75 : decode cX6_whyNone 75 = .ok (.invokevirtual 88, 3) := by decide +kernel
theorem dX6_whyNone_78 : decode cX6_whyNone 78 = .ok (.iload_n 3, 1) := by decide +kernel
theorem dX6_whyNone_79 : decode cX6_whyNone 79 = .ok (.if_icmp .ne 5, 3) := by decide +kernel
theorem dX6_whyNone_82 : decode cX6_whyNone 82 = .ok (.iconst 2, 1) := by decide +kernel
theorem dX6_whyNone_83 : decode cX6_whyNone 83 = .ok (.ireturn, 1) := by decide +kernel
theorem dX6_whyNone_84 : decode cX6_whyNone 84 = .ok (.iinc 4 1, 3) := by decide +kernel
theorem dX6_whyNone_87 : decode cX6_whyNone 87 = .ok (.goto (-28), 3) := by decide +kernel
theorem dX6_whyNone_90 : decode cX6_whyNone 90 = .ok (.iload_n 1, 1) := by decide +kernel
theorem dX6_whyNone_91 : decode cX6_whyNone 91 = .ok (.ifCond .le 18, 3) := by decide +kernel
theorem dX6_whyNone_94 : decode cX6_whyNone 94 = .ok (.aload_n 0, 1) := by decide +kernel
theorem dX6_whyNone_95 : decode cX6_whyNone 95 = .ok (.getfield 10, 3) := by decide +kernel
theorem dX6_whyNone_98 : decode cX6_whyNone 98 = .ok (.iconst 2, 1) := by decide +kernel
theorem dX6_whyNone_99 : decode cX6_whyNone 99 = .ok (.iload_n 1, 1) := by decide +kernel
theorem dX6_whyNone_100 : decode cX6_whyNone 100 = .ok (.imul, 1) := by decide +kernel
theorem dX6_whyNone_101 : decode cX6_whyNone 101 = .ok (.iconst 2, 1) := by decide +kernel
theorem dX6_whyNone_102 : decode cX6_whyNone 102 = .ok (.isub, 1) := by decide +kernel
theorem dX6_whyNone_103 : decode cX6_whyNone 103 = .ok (.invokevirtual 215, 3) := by decide +kernel
theorem dX6_whyNone_106 : decode cX6_whyNone 106 = .ok (.goto 11, 3) := by decide +kernel
theorem dX6_whyNone_109 : decode cX6_whyNone 109 = .ok (.aload_n 0, 1) := by decide +kernel
theorem dX6_whyNone_110 : decode cX6_whyNone 110 = .ok (.getfield 10, 3) := by decide +kernel
theorem dX6_whyNone_113 : decode cX6_whyNone 113 = .ok (.iconst 2, 1) := by decide +kernel
theorem dX6_whyNone_114 : decode cX6_whyNone 114 = .ok (.invokevirtual 215, 3) := by decide +kernel
theorem dX6_whyNone_117 : decode cX6_whyNone 117 = .ok (.istore 4, 2) := by decide +kernel
theorem dX6_whyNone_119 : decode cX6_whyNone 119 = .ok (.iload 4, 2) := by decide +kernel
theorem dX6_whyNone_121 : decode cX6_whyNone 121 = .ok (.invokestatic 116, 3) := by decide +kernel
theorem dX6_whyNone_124 : decode cX6_whyNone 124 = .ok (.ifCond .eq 21, 3) := by decide +kernel
theorem dX6_whyNone_127 : decode cX6_whyNone 127 = .ok (.aload_n 0, 1) := by decide +kernel
theorem dX6_whyNone_128 : decode cX6_whyNone 128 = .ok (.getfield 19, 3) := by decide +kernel
theorem dX6_whyNone_131 : decode cX6_whyNone 131 = .ok (.iload 4, 2) := by decide +kernel
theorem dX6_whyNone_133 : decode cX6_whyNone 133 = .ok (.invokevirtual 131, 3) := by decide +kernel
theorem dX6_whyNone_136 : decode cX6_whyNone 136 = .ok (.iload_n 3, 1) := by decide +kernel
theorem dX6_whyNone_137 : decode cX6_whyNone 137 = .ok (.invokestatic 105, 3) := by decide +kernel
theorem dX6_whyNone_140 : decode cX6_whyNone 140 = .ok (.ifCond .ne 5, 3) := by decide +kernel
theorem dX6_whyNone_143 : decode cX6_whyNone 143 = .ok (.iconst 3, 1) := by decide +kernel
theorem dX6_whyNone_144 : decode cX6_whyNone 144 = .ok (.ireturn, 1) := by decide +kernel
theorem dX6_whyNone_145 : decode cX6_whyNone 145 = .ok (.aload_n 0, 1) := by decide +kernel
theorem dX6_whyNone_146 : decode cX6_whyNone 146 = .ok (.getfield 19, 3) := by decide +kernel
theorem dX6_whyNone_149 : decode cX6_whyNone 149 = .ok (.iload_n 2, 1) := by decide +kernel
theorem dX6_whyNone_150 : decode cX6_whyNone 150 = .ok (.invokevirtual 125, 3) := by decide +kernel
theorem dX6_whyNone_153 : decode cX6_whyNone 153 = .ok (.iload_n 3, 1) := by decide +kernel
theorem dX6_whyNone_154 : decode cX6_whyNone 154 = .ok (.invokestatic 105, 3) := by decide +kernel
theorem dX6_whyNone_157 : decode cX6_whyNone 157 = .ok (.ifCond .eq 7, 3) := by decide +kernel
theorem dX6_whyNone_160 : decode cX6_whyNone 160 = .ok (.iconst 0, 1) := by decide +kernel
theorem dX6_whyNone_161 : decode cX6_whyNone 161 = .ok (.goto 4, 3) := by decide +kernel
theorem dX6_whyNone_164 : decode cX6_whyNone 164 = .ok (.iconst 4, 1) := by decide +kernel
theorem dX6_whyNone_165 : decode cX6_whyNone 165 = .ok (.ireturn, 1) := by decide +kernel
set_option maxRecDepth 20000 in
theorem ggX6_outcome_X0_moverPays : GoodIn wsX6_outcome wsX0_moverPays := goodIn_r _ [5, 6, 22, 23, 24, 25, 26, 27, 28] (by decide +kernel) (by decide +kernel)
set_option maxRecDepth 20000 in
theorem gX6_outcome_X0_moverPays_n218 : GoodIn wsX6_outcome (wsX0_moverPays) := ggX6_outcome_X0_moverPays
set_option maxRecDepth 20000 in
theorem ggX6_outcome_X0_howMany : GoodIn wsX6_outcome wsX0_howMany := goodIn_r _ [9, 6, 22, 23, 24, 25, 26, 27, 28] (by decide +kernel) (by decide +kernel)
set_option maxRecDepth 20000 in
theorem gX6_outcome_X0_howMany_n221 : GoodIn wsX6_outcome (wsX0_howMany) := ggX6_outcome_X0_howMany
set_option maxRecDepth 20000 in
theorem ggX6_outcome_X0_firstMove : GoodIn wsX6_outcome wsX0_firstMove := goodIn_r _ [12, 13, 22, 23, 24, 25, 26, 27, 28] (by decide +kernel) (by decide +kernel)
set_option maxRecDepth 20000 in
theorem gX6_outcome_X0_firstMove_n159 : GoodIn wsX6_outcome (wsX0_firstMove) := ggX6_outcome_X0_firstMove
theorem dX6_outcome_0 : decode cX6_outcome 0 = .ok (.iload_n 3, 1) := by decide +kernel
theorem dX6_outcome_1 : decode cX6_outcome 1 = .ok (.ifCond .ne 19, 3) := by decide +kernel
theorem dX6_outcome_4 : decode cX6_outcome 4 = .ok (.aload_n 0, 1) := by decide +kernel
theorem dX6_outcome_5 : decode cX6_outcome 5 = .ok (.getfield 34, 3) := by decide +kernel
theorem dX6_outcome_8 : decode cX6_outcome 8 = .ok (.invokevirtual 218, 3) := by decide +kernel
theorem dX6_outcome_11 : decode cX6_outcome 11 = .ok (.ifCond .eq 7, 3) := by decide +kernel
theorem dX6_outcome_14 : decode cX6_outcome 14 = .ok (.iload_n 1, 1) := by decide +kernel
theorem dX6_outcome_15 : decode cX6_outcome 15 = .ok (.goto 4, 3) := by decide +kernel
theorem dX6_outcome_18 : decode cX6_outcome 18 = .ok (.iload_n 2, 1) := by decide +kernel
theorem dX6_outcome_19 : decode cX6_outcome 19 = .ok (.ireturn, 1) := by decide +kernel
theorem dX6_outcome_20 : decode cX6_outcome 20 = .ok (.iload_n 3, 1) := by decide +kernel
theorem dX6_outcome_21 : decode cX6_outcome 21 = .ok (.iconst 1, 1) := by decide +kernel
theorem dX6_outcome_22 : decode cX6_outcome 22 = .ok (.if_icmp .ne 13, 3) := by decide +kernel
theorem dX6_outcome_25 : decode cX6_outcome 25 = .ok (.aload_n 0, 1) := by decide +kernel
theorem dX6_outcome_26 : decode cX6_outcome 26 = .ok (.getfield 34, 3) := by decide +kernel
theorem dX6_outcome_29 : decode cX6_outcome 29 = .ok (.invokevirtual 221, 3) := by decide +kernel
theorem dX6_outcome_32 : decode cX6_outcome 32 = .ok (.goto 10, 3) := by decide +kernel
theorem dX6_outcome_35 : decode cX6_outcome 35 = .ok (.aload_n 0, 1) := by decide +kernel
theorem dX6_outcome_36 : decode cX6_outcome 36 = .ok (.getfield 34, 3) := by decide +kernel
theorem dX6_outcome_39 : decode cX6_outcome 39 = .ok (.invokevirtual 159, 3) := by decide +kernel
theorem dX6_outcome_42 : decode cX6_outcome 42 = .ok (.ireturn, 1) := by decide +kernel
set_option maxRecDepth 20000 in
theorem ggX6_comesOff_X4_fitting : GoodIn wsX6_comesOff wsX4_fitting := goodIn_r _ [6, 7, 8, 9, 4, 10, 11, 12, 13, 14, 15, 16, 17, 18, 19, 82, 83, 84, 85, 86] (by decide +kernel) (by decide +kernel)
set_option maxRecDepth 20000 in
theorem gX6_comesOff_X4_fitting_n131 : GoodIn wsX6_comesOff (wsX4_fitting) := ggX6_comesOff_X4_fitting
set_option maxRecDepth 20000 in
theorem ggX6_comesOff_X4_sayable : GoodIn wsX6_comesOff wsX4_sayable := goodIn_r _ [22, 23, 24, 25, 4, 26, 27, 12, 13, 14, 28, 3, 5, 6, 7, 8, 9, 10, 11, 15, 16, 17, 18, 19, 82, 83, 84, 85, 86] (by decide +kernel) (by decide +kernel)
set_option maxRecDepth 20000 in
theorem gX6_comesOff_X4_sayable_n140 : GoodIn wsX6_comesOff (wsX4_sayable) := ggX6_comesOff_X4_sayable
set_option maxRecDepth 20000 in
theorem ggX6_comesOff_X0_fight : GoodIn wsX6_comesOff wsX0_fight := goodIn_r _ [32, 33, 34, 35, 36, 37, 30, 38, 39, 40, 41, 42, 43, 44, 45, 46, 47, 48, 49, 50, 51, 52, 53, 13, 54, 55, 56, 57, 58, 59, 60, 61, 62, 63, 64, 12, 14, 65, 4, 66, 67, 68, 69, 70, 87, 88, 89, 90, 91, 92, 93, 82, 83, 84, 85, 86] (by decide +kernel) (by decide +kernel)
set_option maxRecDepth 20000 in
theorem gX6_comesOff_X0_fight_n144 : GoodIn wsX6_comesOff (wsX0_fight) := ggX6_comesOff_X0_fight
set_option maxRecDepth 20000 in
theorem ggX6_comesOff_X0_moverPays : GoodIn wsX6_comesOff wsX0_moverPays := goodIn_r _ [73, 41, 87, 88, 89, 90, 91, 92, 93] (by decide +kernel) (by decide +kernel)
set_option maxRecDepth 20000 in
theorem gX6_comesOff_X0_moverPays_n218 : GoodIn wsX6_comesOff (wsX0_moverPays) := ggX6_comesOff_X0_moverPays
theorem dX6_comesOff_0 : decode cX6_comesOff 0 = .ok (.iload_n 2, 1) := by decide +kernel
theorem dX6_comesOff_1 : decode cX6_comesOff 1 = .ok (.aload_n 0, 1) := by decide +kernel
theorem dX6_comesOff_2 : decode cX6_comesOff 2 = .ok (.getfield 19, 3) := by decide +kernel
theorem dX6_comesOff_5 : decode cX6_comesOff 5 = .ok (.iload_n 3, 1) := by decide +kernel
theorem dX6_comesOff_6 : decode cX6_comesOff 6 = .ok (.invokevirtual 131, 3) := by decide +kernel
theorem dX6_comesOff_9 : decode cX6_comesOff 9 = .ok (.iand, 1) := by decide +kernel
theorem dX6_comesOff_10 : decode cX6_comesOff 10 = .ok (.istore 5, 2) := by decide +kernel
theorem dX6_comesOff_12 : decode cX6_comesOff 12 = .ok (.aload_n 0, 1) := by decide +kernel
theorem dX6_comesOff_13 : decode cX6_comesOff 13 = .ok (.getfield 19, 3) := by decide +kernel
theorem dX6_comesOff_16 : decode cX6_comesOff 16 = .ok (.iload_n 3, 1) := by decide +kernel
theorem dX6_comesOff_17 : decode cX6_comesOff 17 = .ok (.iload_n 1, 1) := by decide +kernel
theorem dX6_comesOff_18 : decode cX6_comesOff 18 = .ok (.invokevirtual 140, 3) := by decide +kernel
theorem dX6_comesOff_21 : decode cX6_comesOff 21 = .ok (.istore 6, 2) := by decide +kernel
theorem dX6_comesOff_23 : decode cX6_comesOff 23 = .ok (.iload 4, 2) := by decide +kernel
theorem dX6_comesOff_25 : decode cX6_comesOff 25 = .ok (.ifCond .eq 34, 3) := by decide +kernel
theorem dX6_comesOff_28 : decode cX6_comesOff 28 = .ok (.aload_n 0, 1) := by decide +kernel
theorem dX6_comesOff_29 : decode cX6_comesOff 29 = .ok (.getfield 34, 3) := by decide +kernel
theorem dX6_comesOff_32 : decode cX6_comesOff 32 = .ok (.iload 5, 2) := by decide +kernel
theorem dX6_comesOff_34 : decode cX6_comesOff 34 = .ok (.iconst 0, 1) := by decide +kernel
theorem dX6_comesOff_35 : decode cX6_comesOff 35 = .ok (.iload 5, 2) := by decide +kernel
theorem dX6_comesOff_37 : decode cX6_comesOff 37 = .ok (.iload 6, 2) := by decide +kernel
theorem dX6_comesOff_39 : decode cX6_comesOff 39 = .ok (.iconst 1, 1) := by decide +kernel
theorem dX6_comesOff_40 : decode cX6_comesOff 40 = .ok (.invokevirtual 144, 3) := by decide +kernel
theorem dX6_comesOff_43 : decode cX6_comesOff 43 = .ok (.aload_n 0, 1) := by decide +kernel
theorem dX6_comesOff_44 : decode cX6_comesOff 44 = .ok (.getfield 34, 3) := by decide +kernel
theorem dX6_comesOff_47 : decode cX6_comesOff 47 = .ok (.invokevirtual 218, 3) := by decide +kernel
theorem dX6_comesOff_50 : decode cX6_comesOff 50 = .ok (.ifCond .ne 7, 3) := by decide +kernel
theorem dX6_comesOff_53 : decode cX6_comesOff 53 = .ok (.iconst 1, 1) := by decide +kernel
theorem dX6_comesOff_54 : decode cX6_comesOff 54 = .ok (.goto 4, 3) := by decide +kernel
theorem dX6_comesOff_57 : decode cX6_comesOff 57 = .ok (.iconst 0, 1) := by decide +kernel
theorem dX6_comesOff_58 : decode cX6_comesOff 58 = .ok (.ireturn, 1) := by decide +kernel
theorem dX6_comesOff_59 : decode cX6_comesOff 59 = .ok (.aload_n 0, 1) := by decide +kernel
theorem dX6_comesOff_60 : decode cX6_comesOff 60 = .ok (.getfield 34, 3) := by decide +kernel
theorem dX6_comesOff_63 : decode cX6_comesOff 63 = .ok (.iload 6, 2) := by decide +kernel
theorem dX6_comesOff_65 : decode cX6_comesOff 65 = .ok (.iconst 0, 1) := by decide +kernel
theorem dX6_comesOff_66 : decode cX6_comesOff 66 = .ok (.iload 6, 2) := by decide +kernel
theorem dX6_comesOff_68 : decode cX6_comesOff 68 = .ok (.iload 5, 2) := by decide +kernel
theorem dX6_comesOff_70 : decode cX6_comesOff 70 = .ok (.iconst 1, 1) := by decide +kernel
theorem dX6_comesOff_71 : decode cX6_comesOff 71 = .ok (.invokevirtual 144, 3) := by decide +kernel
theorem dX6_comesOff_74 : decode cX6_comesOff 74 = .ok (.aload_n 0, 1) := by decide +kernel
theorem dX6_comesOff_75 : decode cX6_comesOff 75 = .ok (.getfield 34, 3) := by decide +kernel
theorem dX6_comesOff_78 : decode cX6_comesOff 78 = .ok (.invokevirtual 218, 3) := by decide +kernel
theorem dX6_comesOff_81 : decode cX6_comesOff 81 = .ok (.ireturn, 1) := by decide +kernel
set_option maxRecDepth 20000 in
theorem ggX6_goodMatches_X6_comesOff : GoodIn wsX6_goodMatches wsX6_comesOff := goodIn_r _ [5, 6, 7, 8, 9, 10, 11, 12, 13, 14, 15, 16, 17, 4, 18, 19, 20, 21, 22, 23, 24, 25, 26, 27, 28, 29, 30, 31, 32, 33, 34, 35, 36, 37, 38, 39, 40, 41, 42, 43, 44, 45, 46, 47, 48, 49, 50, 51, 52, 53, 54, 55, 56, 57, 58, 59, 60, 61, 62, 63, 64, 65, 66, 67, 68, 69, 70, 71, 72, 73, 74, 75, 76, 77, 78, 79, 80, 81, 82, 83, 84, 85, 86, 87, 88, 89, 90, 91, 92, 93, 94, 95, 96, 97] (by decide +kernel) (by decide +kernel)
set_option maxRecDepth 20000 in
theorem gX6_goodMatches_X6_comesOff : GoodIn wsX6_goodMatches (wsV RX6 162 RX6 yX6_comesOff wsX6_comesOff) := goodIn_app (goodIn_of _ (by decide +kernel)) ggX6_goodMatches_X6_comesOff
theorem dX6_goodMatches_0 : decode cX6_goodMatches 0 = .ok (.iconst 0, 1) := by decide +kernel
theorem dX6_goodMatches_1 : decode cX6_goodMatches 1 = .ok (.istore_n 3, 1) := by decide +kernel
theorem dX6_goodMatches_2 : decode cX6_goodMatches 2 = .ok (.iconst 0, 1) := by decide +kernel
theorem dX6_goodMatches_3 : decode cX6_goodMatches 3 = .ok (.istore 4, 2) := by decide +kernel
theorem dX6_goodMatches_5 : decode cX6_goodMatches 5 = .ok (.iload 4, 2) := by decide +kernel
theorem dX6_goodMatches_7 : decode cX6_goodMatches 7 = .ok (.iconst 5, 1) := by decide +kernel
theorem dX6_goodMatches_8 : decode cX6_goodMatches 8 = .ok (.if_icmp .ge 48, 3) := by decide +kernel
theorem dX6_goodMatches_11 : decode cX6_goodMatches 11 = .ok (.iload 4, 2) := by decide +kernel
theorem dX6_goodMatches_13 : decode cX6_goodMatches 13 = .ok (.iload_n 1, 1) := by decide +kernel
theorem dX6_goodMatches_14 : decode cX6_goodMatches 14 = .ok (.if_icmp .ne 6, 3) := by decide +kernel
theorem dX6_goodMatches_17 : decode cX6_goodMatches 17 = .ok (.goto 33, 3) := by decide +kernel
theorem dX6_goodMatches_20 : decode cX6_goodMatches 20 = .ok (.aload_n 0, 1) := by decide +kernel
theorem dX6_goodMatches_21 : decode cX6_goodMatches 21 = .ok (.iload_n 1, 1) := by decide +kernel
theorem dX6_goodMatches_22 : decode cX6_goodMatches 22 = .ok (.iload_n 2, 1) := by decide +kernel
theorem dX6_goodMatches_23 : decode cX6_goodMatches 23 = .ok (.iload 4, 2) := by decide +kernel
theorem dX6_goodMatches_25 : decode cX6_goodMatches 25 = .ok (.iconst 1, 1) := by decide +kernel
theorem dX6_goodMatches_26 : decode cX6_goodMatches 26 = .ok (.invokevirtual 162, 3) := by decide +kernel
theorem dX6_goodMatches_29 : decode cX6_goodMatches 29 = .ok (.ifCond .eq 6, 3) := by decide +kernel
theorem dX6_goodMatches_32 : decode cX6_goodMatches 32 = .ok (.iinc 3 1, 3) := by decide +kernel
theorem dX6_goodMatches_35 : decode cX6_goodMatches 35 = .ok (.aload_n 0, 1) := by decide +kernel
theorem dX6_goodMatches_36 : decode cX6_goodMatches 36 = .ok (.iload_n 1, 1) := by decide +kernel
theorem dX6_goodMatches_37 : decode cX6_goodMatches 37 = .ok (.iload_n 2, 1) := by decide +kernel
theorem dX6_goodMatches_38 : decode cX6_goodMatches 38 = .ok (.iload 4, 2) := by decide +kernel
theorem dX6_goodMatches_40 : decode cX6_goodMatches 40 = .ok (.iconst 0, 1) := by decide +kernel
theorem dX6_goodMatches_41 : decode cX6_goodMatches 41 = .ok (.invokevirtual 162, 3) := by decide +kernel
theorem dX6_goodMatches_44 : decode cX6_goodMatches 44 = .ok (.ifCond .eq 6, 3) := by decide +kernel
theorem dX6_goodMatches_47 : decode cX6_goodMatches 47 = .ok (.iinc 3 1, 3) := by decide +kernel
theorem dX6_goodMatches_50 : decode cX6_goodMatches 50 = .ok (.iinc 4 1, 3) := by decide +kernel
theorem dX6_goodMatches_53 : decode cX6_goodMatches 53 = .ok (.goto (-48), 3) := by decide +kernel
theorem dX6_goodMatches_56 : decode cX6_goodMatches 56 = .ok (.iload_n 3, 1) := by decide +kernel
theorem dX6_goodMatches_57 : decode cX6_goodMatches 57 = .ok (.ireturn, 1) := by decide +kernel
theorem dX7_init_0 : decode cX7_init 0 = .ok (.aload_n 0, 1) := by decide +kernel
theorem dX7_init_1 : decode cX7_init 1 = .ok (.invokespecial 1, 3) := by decide +kernel
theorem dX7_init_4 : decode cX7_init 4 = .ok (.aload_n 0, 1) := by decide +kernel
theorem dX7_init_5 : decode cX7_init 5 = .ok (.bipush 40, 2) := by decide +kernel
theorem dX7_init_7 : decode cX7_init 7 = .ok (.newarray .int, 2) := by decide +kernel
theorem dX7_init_9 : decode cX7_init 9 = .ok (.putfield 7, 3) := by decide +kernel
theorem dX7_init_12 : decode cX7_init 12 = .ok (.aload_n 0, 1) := by decide +kernel
theorem dX7_init_13 : decode cX7_init 13 = .ok (.bipush 10, 2) := by decide +kernel
theorem dX7_init_15 : decode cX7_init 15 = .ok (.newarray .int, 2) := by decide +kernel
theorem dX7_init_17 : decode cX7_init 17 = .ok (.putfield 13, 3) := by decide +kernel
theorem dX7_init_20 : decode cX7_init 20 = .ok (.aload_n 0, 1) := by decide +kernel
theorem dX7_init_21 : decode cX7_init 21 = .ok (.bipush 10, 2) := by decide +kernel
theorem dX7_init_23 : decode cX7_init 23 = .ok (.newarray .int, 2) := by decide +kernel
theorem dX7_init_25 : decode cX7_init 25 = .ok (.putfield 16, 3) := by decide +kernel
theorem dX7_init_28 : decode cX7_init 28 = .ok (.aload_n 0, 1) := by decide +kernel
theorem dX7_init_29 : decode cX7_init 29 = .ok (.iconst 5, 1) := by decide +kernel
theorem dX7_init_30 : decode cX7_init 30 = .ok (.newarray .int, 2) := by decide +kernel
end
section
theorem dX7_init_32 : decode cX7_init 32 = .ok (.putfield 19, 3) := by decide +kernel
theorem dX7_init_35 : decode cX7_init 35 = .ok (.aload_n 0, 1) := by decide +kernel
theorem dX7_init_36 : decode cX7_init 36 = .ok (.iconst 5, 1) := by decide +kernel
theorem dX7_init_37 : decode cX7_init 37 = .ok (.newarray .int, 2) := by decide +kernel
theorem dX7_init_39 : decode cX7_init 39 = .ok (.putfield 22, 3) := by decide +kernel
theorem dX7_init_42 : decode cX7_init 42 = .ok (.aload_n 0, 1) := by decide +kernel
theorem dX7_init_43 : decode cX7_init 43 = .ok (.sipush 20480, 3) := by decide +kernel
theorem dX7_init_46 : decode cX7_init 46 = .ok (.newarray .int, 2) := by decide +kernel
theorem dX7_init_48 : decode cX7_init 48 = .ok (.putfield 25, 3) := by decide +kernel
theorem dX7_init_51 : decode cX7_init 51 = .ok (.aload_n 0, 1) := by decide +kernel
theorem dX7_init_52 : decode cX7_init 52 = .ok (.iconst 2, 1) := by decide +kernel
theorem dX7_init_53 : decode cX7_init 53 = .ok (.newarray .int, 2) := by decide +kernel
theorem dX7_init_55 : decode cX7_init 55 = .ok (.putfield 28, 3) := by decide +kernel
theorem dX7_init_58 : decode cX7_init 58 = .ok (.aload_n 0, 1) := by decide +kernel
theorem dX7_init_59 : decode cX7_init 59 = .ok (.iconst 5, 1) := by decide +kernel
theorem dX7_init_60 : decode cX7_init 60 = .ok (.newarray .int, 2) := by decide +kernel
theorem dX7_init_62 : decode cX7_init 62 = .ok (.putfield 31, 3) := by decide +kernel
theorem dX7_init_65 : decode cX7_init 65 = .ok (.aload_n 0, 1) := by decide +kernel
theorem dX7_init_66 : decode cX7_init 66 = .ok (.iconst 5, 1) := by decide +kernel
theorem dX7_init_67 : decode cX7_init 67 = .ok (.newarray .int, 2) := by decide +kernel
theorem dX7_init_69 : decode cX7_init 69 = .ok (.putfield 34, 3) := by decide +kernel
theorem dX7_init_72 : decode cX7_init 72 = .ok (.aload_n 0, 1) := by decide +kernel
theorem dX7_init_73 : decode cX7_init 73 = .ok (.bipush 32, 2) := by decide +kernel
theorem dX7_init_75 : decode cX7_init 75 = .ok (.newarray .boolean, 2) := by decide +kernel
theorem dX7_init_77 : decode cX7_init 77 = .ok (.putfield 37, 3) := by decide +kernel
theorem dX7_init_80 : decode cX7_init 80 = .ok (.aload_n 0, 1) := by decide +kernel
theorem dX7_init_81 : decode cX7_init 81 = .ok (.bipush 32, 2) := by decide +kernel
theorem dX7_init_83 : decode cX7_init 83 = .ok (.newarray .int, 2) := by decide +kernel
theorem dX7_init_85 : decode cX7_init 85 = .ok (.putfield 41, 3) := by decide +kernel
theorem dX7_init_88 : decode cX7_init 88 = .ok (.aload_n 0, 1) := by decide +kernel
theorem dX7_init_89 : decode cX7_init 89 = .ok (.sipush 1024, 3) := by decide +kernel
theorem dX7_init_92 : decode cX7_init 92 = .ok (.newarray .int, 2) := by decide +kernel
theorem dX7_init_94 : decode cX7_init 94 = .ok (.putfield 44, 3) := by decide +kernel
theorem dX7_init_97 : decode cX7_init 97 = .ok (.aload_n 0, 1) := by decide +kernel
theorem dX7_init_98 : decode cX7_init 98 = .ok (.bipush 10, 2) := by decide +kernel
theorem dX7_init_100 : decode cX7_init 100 = .ok (.newarray .int, 2) := by decide +kernel
theorem dX7_init_102 : decode cX7_init 102 = .ok (.putfield 47, 3) := by decide +kernel
theorem dX7_init_105 : decode cX7_init 105 = .ok (.aload_n 0, 1) := by decide +kernel
theorem dX7_init_106 : decode cX7_init 106 = .ok (.sipush 10240, 3) := by decide +kernel
theorem dX7_init_109 : decode cX7_init 109 = .ok (.newarray .int, 2) := by decide +kernel
theorem dX7_init_111 : decode cX7_init 111 = .ok (.putfield 50, 3) := by decide +kernel
theorem dX7_init_114 : decode cX7_init 114 = .ok (.aload_n 0, 1) := by decide +kernel
theorem dX7_init_115 : decode cX7_init 115 = .ok (.bipush 60, 2) := by decide +kernel
theorem dX7_init_117 : decode cX7_init 117 = .ok (.newarray .int, 2) := by decide +kernel
theorem dX7_init_119 : decode cX7_init 119 = .ok (.putfield 53, 3) := by decide +kernel
theorem dX7_init_122 : decode cX7_init 122 = .ok (.aload_n 0, 1) := by decide +kernel
theorem dX7_init_123 : decode cX7_init 123 = .ok (.iconst 2, 1) := by decide +kernel
theorem dX7_init_124 : decode cX7_init 124 = .ok (.newarray .boolean, 2) := by decide +kernel
theorem dX7_init_126 : decode cX7_init 126 = .ok (.putfield 56, 3) := by decide +kernel
theorem dX7_init_129 : decode cX7_init 129 = .ok (.iconst 0, 1) := by decide +kernel
theorem dX7_init_130 : decode cX7_init 130 = .ok (.istore_n 1, 1) := by decide +kernel
theorem dX7_init_131 : decode cX7_init 131 = .ok (.iload_n 1, 1) := by decide +kernel
theorem dX7_init_132 : decode cX7_init 132 = .ok (.iconst 5, 1) := by decide +kernel
theorem dX7_init_133 : decode cX7_init 133 = .ok (.if_icmp .ge 26, 3) := by decide +kernel
theorem dX7_init_136 : decode cX7_init 136 = .ok (.aload_n 0, 1) := by decide +kernel
theorem dX7_init_137 : decode cX7_init 137 = .ok (.getfield 19, 3) := by decide +kernel
theorem dX7_init_140 : decode cX7_init 140 = .ok (.iload_n 1, 1) := by decide +kernel
theorem dX7_init_141 : decode cX7_init 141 = .ok (.bipush 63, 2) := by decide +kernel
theorem dX7_init_143 : decode cX7_init 143 = .ok (.iastore, 1) := by decide +kernel
theorem dX7_init_144 : decode cX7_init 144 = .ok (.aload_n 0, 1) := by decide +kernel
theorem dX7_init_145 : decode cX7_init 145 = .ok (.getfield 22, 3) := by decide +kernel
theorem dX7_init_148 : decode cX7_init 148 = .ok (.iload_n 1, 1) := by decide +kernel
theorem dX7_init_149 : decode cX7_init 149 = .ok (.sipush 1023, 3) := by decide +kernel
theorem dX7_init_152 : decode cX7_init 152 = .ok (.iastore, 1) := by decide +kernel
theorem dX7_init_153 : decode cX7_init 153 = .ok (.iinc 1 1, 3) := by decide +kernel
theorem dX7_init_156 : decode cX7_init 156 = .ok (.goto (-25), 3) := by decide +kernel
theorem dX7_init_159 : decode cX7_init 159 = .ok (.return_, 1) := by decide +kernel
theorem dX7_in_0 : decode cX7_in 0 = .ok (.iload_n 0, 1) := by decide +kernel
theorem dX7_in_1 : decode cX7_in 1 = .ok (.iload_n 1, 1) := by decide +kernel
theorem dX7_in_2 : decode cX7_in 2 = .ok (.if_icmp .lt 12, 3) := by decide +kernel
theorem dX7_in_5 : decode cX7_in 5 = .ok (.iload_n 0, 1) := by decide +kernel
theorem dX7_in_6 : decode cX7_in 6 = .ok (.iload_n 2, 1) := by decide +kernel
theorem dX7_in_7 : decode cX7_in 7 = .ok (.if_icmp .gt 7, 3) := by decide +kernel
theorem dX7_in_10 : decode cX7_in 10 = .ok (.iconst 1, 1) := by decide +kernel
theorem dX7_in_11 : decode cX7_in 11 = .ok (.goto 4, 3) := by decide +kernel
theorem dX7_in_14 : decode cX7_in 14 = .ok (.iconst 0, 1) := by decide +kernel
theorem dX7_in_15 : decode cX7_in 15 = .ok (.ireturn, 1) := by decide +kernel
theorem dX7_has_0 : decode cX7_has 0 = .ok (.iload_n 0, 1) := by decide +kernel
theorem dX7_has_1 : decode cX7_has 1 = .ok (.iload_n 1, 1) := by decide +kernel
theorem dX7_has_2 : decode cX7_has 2 = .ok (.ishr, 1) := by decide +kernel
theorem dX7_has_3 : decode cX7_has 3 = .ok (.iconst 1, 1) := by decide +kernel
theorem dX7_has_4 : decode cX7_has 4 = .ok (.iand, 1) := by decide +kernel
theorem dX7_has_5 : decode cX7_has 5 = .ok (.iconst 1, 1) := by decide +kernel
theorem dX7_has_6 : decode cX7_has 6 = .ok (.if_icmp .ne 7, 3) := by decide +kernel
theorem dX7_has_9 : decode cX7_has 9 = .ok (.iconst 1, 1) := by decide +kernel
theorem dX7_has_10 : decode cX7_has 10 = .ok (.goto 4, 3) := by decide +kernel
theorem dX7_has_13 : decode cX7_has 13 = .ok (.iconst 0, 1) := by decide +kernel
theorem dX7_has_14 : decode cX7_has 14 = .ok (.ireturn, 1) := by decide +kernel
theorem dX7_bits_0 : decode cX7_bits 0 = .ok (.iconst 0, 1) := by decide +kernel
theorem dX7_bits_1 : decode cX7_bits 1 = .ok (.istore_n 1, 1) := by decide +kernel
theorem dX7_bits_2 : decode cX7_bits 2 = .ok (.iconst 0, 1) := by decide +kernel
theorem dX7_bits_3 : decode cX7_bits 3 = .ok (.istore_n 2, 1) := by decide +kernel
theorem dX7_bits_4 : decode cX7_bits 4 = .ok (.iload_n 2, 1) := by decide +kernel
theorem dX7_bits_5 : decode cX7_bits 5 = .ok (.bipush 10, 2) := by decide +kernel
theorem dX7_bits_7 : decode cX7_bits 7 = .ok (.if_icmp .ge 17, 3) := by decide +kernel
theorem dX7_bits_10 : decode cX7_bits 10 = .ok (.iload_n 1, 1) := by decide +kernel
theorem dX7_bits_11 : decode cX7_bits 11 = .ok (.iload_n 0, 1) := by decide +kernel
theorem dX7_bits_12 : decode cX7_bits 12 = .ok (.iload_n 2, 1) := by decide +kernel
theorem dX7_bits_13 : decode cX7_bits 13 = .ok (.ishr, 1) := by decide +kernel
theorem dX7_bits_14 : decode cX7_bits 14 = .ok (.iconst 1, 1) := by decide +kernel
theorem dX7_bits_15 : decode cX7_bits 15 = .ok (.iand, 1) := by decide +kernel
theorem dX7_bits_16 : decode cX7_bits 16 = .ok (.iadd, 1) := by decide +kernel
theorem dX7_bits_17 : decode cX7_bits 17 = .ok (.istore_n 1, 1) := by decide +kernel
theorem dX7_bits_18 : decode cX7_bits 18 = .ok (.iinc 2 1, 3) := by decide +kernel
theorem dX7_bits_21 : decode cX7_bits 21 = .ok (.goto (-17), 3) := by decide +kernel
theorem dX7_bits_24 : decode cX7_bits 24 = .ok (.iload_n 1, 1) := by decide +kernel
theorem dX7_bits_25 : decode cX7_bits 25 = .ok (.ireturn, 1) := by decide +kernel
set_option maxRecDepth 20000 in
theorem ggX7_isInsult_X7_in : GoodIn wsX7_isInsult wsX7_in := goodIn_r _ [4] (by decide +kernel) (by decide +kernel)
set_option maxRecDepth 20000 in
theorem gX7_isInsult_X7_in : GoodIn wsX7_isInsult (va_wsS RX7 59 yX7_in wsX7_in) := goodIn_app (goodIn_of _ (by decide +kernel)) ggX7_isInsult_X7_in
theorem dX7_isInsult_0 : decode cX7_isInsult 0 = .ok (.iload_n 0, 1) := by decide +kernel
theorem dX7_isInsult_1 : decode cX7_isInsult 1 = .ok (.iconst 0, 1) := by decide +kernel
theorem dX7_isInsult_2 : decode cX7_isInsult 2 = .ok (.bipush 9, 2) := by decide +kernel
theorem dX7_isInsult_4 : decode cX7_isInsult 4 = .ok (.invokestatic 59, 3) := by decide +kernel
theorem dX7_isInsult_7 : decode cX7_isInsult 7 = .ok (.ireturn, 1) := by decide +kernel
set_option maxRecDepth 20000 in
theorem ggX7_isMan_X7_in : GoodIn wsX7_isMan wsX7_in := goodIn_r _ [4] (by decide +kernel) (by decide +kernel)
set_option maxRecDepth 20000 in
theorem gX7_isMan_X7_in : GoodIn wsX7_isMan (va_wsS RX7 59 yX7_in wsX7_in) := goodIn_app (goodIn_of _ (by decide +kernel)) ggX7_isMan_X7_in
theorem dX7_isMan_0 : decode cX7_isMan 0 = .ok (.iload_n 0, 1) := by decide +kernel
theorem dX7_isMan_1 : decode cX7_isMan 1 = .ok (.iconst 0, 1) := by decide +kernel
theorem dX7_isMan_2 : decode cX7_isMan 2 = .ok (.iconst 4, 1) := by decide +kernel
theorem dX7_isMan_3 : decode cX7_isMan 3 = .ok (.invokestatic 59, 3) := by decide +kernel
theorem dX7_isMan_6 : decode cX7_isMan 6 = .ok (.ireturn, 1) := by decide +kernel
set_option maxRecDepth 20000 in
theorem ggX7_areTwo_X7_isMan : GoodIn wsX7_areTwo wsX7_isMan := goodIn_r _ [4, 5, 6, 3, 7] (by decide +kernel) (by decide +kernel)
set_option maxRecDepth 20000 in
theorem gX7_areTwo_X7_isMan : GoodIn wsX7_areTwo (va_wsS RX7 63 yX7_isMan wsX7_isMan) := goodIn_app (goodIn_of _ (by decide +kernel)) ggX7_areTwo_X7_isMan
theorem dX7_areTwo_0 : decode cX7_areTwo 0 = .ok (.iload_n 0, 1) := by decide +kernel
theorem dX7_areTwo_1 : decode cX7_areTwo 1 = .ok (.invokestatic 63, 3) := by decide +kernel
theorem dX7_areTwo_4 : decode cX7_areTwo 4 = .ok (.ifCond .eq 19, 3) := by decide +kernel
theorem dX7_areTwo_7 : decode cX7_areTwo 7 = .ok (.iload_n 1, 1) := by decide +kernel
theorem dX7_areTwo_8 : decode cX7_areTwo 8 = .ok (.invokestatic 63, 3) := by decide +kernel
theorem dX7_areTwo_11 : decode cX7_areTwo 11 = .ok (.ifCond .eq 12, 3) := by decide +kernel
theorem dX7_areTwo_14 : decode cX7_areTwo 14 = .ok (.iload_n 0, 1) := by decide +kernel
theorem dX7_areTwo_15 : decode cX7_areTwo 15 = .ok (.iload_n 1, 1) := by decide +kernel
theorem dX7_areTwo_16 : decode cX7_areTwo 16 = .ok (.if_icmp .eq 7, 3) := by decide +kernel
theorem dX7_areTwo_19 : decode cX7_areTwo 19 = .ok (.iconst 1, 1) := by decide +kernel
theorem dX7_areTwo_20 : decode cX7_areTwo 20 = .ok (.goto 4, 3) := by decide +kernel
theorem dX7_areTwo_23 : decode cX7_areTwo 23 = .ok (.iconst 0, 1) := by decide +kernel
theorem dX7_areTwo_24 : decode cX7_areTwo 24 = .ok (.ireturn, 1) := by decide +kernel
set_option maxRecDepth 20000 in
theorem ggX7_say_X7_in : GoodIn wsX7_say wsX7_in := goodIn_r _ [6] (by decide +kernel) (by decide +kernel)
set_option maxRecDepth 20000 in
theorem gX7_say_X7_in : GoodIn wsX7_say (va_wsS RX7 59 yX7_in wsX7_in) := goodIn_app (goodIn_of _ (by decide +kernel)) ggX7_say_X7_in
theorem dX7_say_0 : decode cX7_say 0 = .ok (.iload_n 1, 1) := by decide +kernel
theorem dX7_say_1 : decode cX7_say 1 = .ok (.bipush 33, 2) := by decide +kernel
theorem dX7_say_3 : decode cX7_say 3 = .ok (.bipush 126, 2) := by decide +kernel
theorem dX7_say_5 : decode cX7_say 5 = .ok (.invokestatic 59, 3) := by decide +kernel
theorem dX7_say_8 : decode cX7_say 8 = .ok (.ifCond .ne 6, 3) := by decide +kernel
theorem dX7_say_11 : decode cX7_say 11 = .ok (.bipush (-2), 2) := by decide +kernel
theorem dX7_say_13 : decode cX7_say 13 = .ok (.ireturn, 1) := by decide +kernel
theorem dX7_say_14 : decode cX7_say 14 = .ok (.aload_n 0, 1) := by decide +kernel
theorem dX7_say_15 : decode cX7_say 15 = .ok (.getfield 67, 3) := by decide +kernel
theorem dX7_say_18 : decode cX7_say 18 = .ok (.bipush 40, 2) := by decide +kernel
theorem dX7_say_20 : decode cX7_say 20 = .ok (.if_icmp .ne 6, 3) := by decide +kernel
theorem dX7_say_23 : decode cX7_say 23 = .ok (.bipush (-4), 2) := by decide +kernel
theorem dX7_say_25 : decode cX7_say 25 = .ok (.ireturn, 1) := by decide +kernel
theorem dX7_say_26 : decode cX7_say 26 = .ok (.aload_n 0, 1) := by decide +kernel
theorem dX7_say_27 : decode cX7_say 27 = .ok (.getfield 7, 3) := by decide +kernel
theorem dX7_say_30 : decode cX7_say 30 = .ok (.aload_n 0, 1) := by decide +kernel
theorem dX7_say_31 : decode cX7_say 31 = .ok (.getfield 67, 3) := by decide +kernel
theorem dX7_say_34 : decode cX7_say 34 = .ok (.iload_n 1, 1) := by decide +kernel
theorem dX7_say_35 : decode cX7_say 35 = .ok (.iastore, 1) := by decide +kernel
theorem dX7_say_36 : decode cX7_say 36 = .ok (.aload_n 0, 1) := by decide +kernel
theorem dX7_say_37 : decode cX7_say 37 = .ok (.dup, 1) := by decide +kernel
theorem dX7_say_38 : decode cX7_say 38 = .ok (.getfield 67, 3) := by decide +kernel
theorem dX7_say_41 : decode cX7_say 41 = .ok (.iconst 1, 1) := by decide +kernel
theorem dX7_say_42 : decode cX7_say 42 = .ok (.iadd, 1) := by decide +kernel
theorem dX7_say_43 : decode cX7_say 43 = .ok (.putfield 67, 3) := by decide +kernel
theorem dX7_say_46 : decode cX7_say 46 = .ok (.aload_n 0, 1) := by decide +kernel
theorem dX7_say_47 : decode cX7_say 47 = .ok (.getfield 67, 3) := by decide +kernel
theorem dX7_say_50 : decode cX7_say 50 = .ok (.ireturn, 1) := by decide +kernel
theorem dX7_wipe_0 : decode cX7_wipe 0 = .ok (.aload_n 0, 1) := by decide +kernel
theorem dX7_wipe_1 : decode cX7_wipe 1 = .ok (.getfield 67, 3) := by decide +kernel
theorem dX7_wipe_4 : decode cX7_wipe 4 = .ok (.istore_n 1, 1) := by decide +kernel
theorem dX7_wipe_5 : decode cX7_wipe 5 = .ok (.aload_n 0, 1) := by decide +kernel
theorem dX7_wipe_6 : decode cX7_wipe 6 = .ok (.iconst 0, 1) := by decide +kernel
theorem dX7_wipe_7 : decode cX7_wipe 7 = .ok (.putfield 67, 3) := by decide +kernel
theorem dX7_wipe_10 : decode cX7_wipe 10 = .ok (.iload_n 1, 1) := by decide +kernel
theorem dX7_wipe_11 : decode cX7_wipe 11 = .ok (.ireturn, 1) := by decide +kernel
set_option maxRecDepth 20000 in
theorem ggX7_isName_X7_in : GoodIn wsX7_isName wsX7_in := goodIn_r _ [4] (by decide +kernel) (by decide +kernel)
set_option maxRecDepth 20000 in
theorem gX7_isName_X7_in : GoodIn wsX7_isName (va_wsS RX7 59 yX7_in wsX7_in) := goodIn_app (goodIn_of _ (by decide +kernel)) ggX7_isName_X7_in
theorem dX7_isName_0 : decode cX7_isName 0 = .ok (.iload_n 0, 1) := by decide +kernel
theorem dX7_isName_1 : decode cX7_isName 1 = .ok (.bipush 97, 2) := by decide +kernel
theorem dX7_isName_3 : decode cX7_isName 3 = .ok (.bipush 106, 2) := by decide +kernel
theorem dX7_isName_5 : decode cX7_isName 5 = .ok (.invokestatic 59, 3) := by decide +kernel
theorem dX7_isName_8 : decode cX7_isName 8 = .ok (.ireturn, 1) := by decide +kernel
set_option maxRecDepth 20000 in
theorem ggX7_stepsFault_X7_isName : GoodIn wsX7_stepsFault wsX7_isName := goodIn_r _ [6, 7, 8, 5, 9] (by decide +kernel) (by decide +kernel)
set_option maxRecDepth 20000 in
theorem gX7_stepsFault_X7_isName : GoodIn wsX7_stepsFault (va_wsS RX7 71 yX7_isName wsX7_isName) := goodIn_app (goodIn_of _ (by decide +kernel)) ggX7_stepsFault_X7_isName
theorem dX7_stepsFault_0 : decode cX7_stepsFault 0 = .ok (.iconst 0, 1) := by decide +kernel
theorem dX7_stepsFault_1 : decode cX7_stepsFault 1 = .ok (.istore_n 1, 1) := by decide +kernel
theorem dX7_stepsFault_2 : decode cX7_stepsFault 2 = .ok (.iconst 0, 1) := by decide +kernel
theorem dX7_stepsFault_3 : decode cX7_stepsFault 3 = .ok (.istore_n 2, 1) := by decide +kernel
theorem dX7_stepsFault_4 : decode cX7_stepsFault 4 = .ok (.iload_n 2, 1) := by decide +kernel
theorem dX7_stepsFault_5 : decode cX7_stepsFault 5 = .ok (.aload_n 0, 1) := by decide +kernel
theorem dX7_stepsFault_6 : decode cX7_stepsFault 6 = .ok (.getfield 67, 3) := by decide +kernel
theorem dX7_stepsFault_9 : decode cX7_stepsFault 9 = .ok (.if_icmp .ge 112, 3) := by decide +kernel
theorem dX7_stepsFault_12 : decode cX7_stepsFault 12 = .ok (.aload_n 0, 1) := by decide +kernel
theorem dX7_stepsFault_13 : decode cX7_stepsFault 13 = .ok (.getfield 7, 3) := by decide +kernel
theorem dX7_stepsFault_16 : decode cX7_stepsFault 16 = .ok (.iload_n 2, 1) := by decide +kernel
theorem dX7_stepsFault_17 : decode cX7_stepsFault 17 = .ok (.iaload, 1) := by decide +kernel
theorem dX7_stepsFault_18 : decode cX7_stepsFault 18 = .ok (.istore_n 3, 1) := by decide +kernel
theorem dX7_stepsFault_19 : decode cX7_stepsFault 19 = .ok (.iload_n 1, 1) := by decide +kernel
theorem dX7_stepsFault_20 : decode cX7_stepsFault 20 = .ok (.ifCond .ne 21, 3) := by decide +kernel
theorem dX7_stepsFault_23 : decode cX7_stepsFault 23 = .ok (.iload_n 3, 1) := by decide +kernel
theorem dX7_stepsFault_24 : decode cX7_stepsFault 24 = .ok (.invokestatic 71, 3) := by decide +kernel
theorem dX7_stepsFault_27 : decode cX7_stepsFault 27 = .ok (.ifCond .eq 7, 3) := by decide +kernel
theorem dX7_stepsFault_30 : decode cX7_stepsFault 30 = .ok (.iconst 1, 1) := by decide +kernel
theorem dX7_stepsFault_31 : decode cX7_stepsFault 31 = .ok (.goto 5, 3) := by decide +kernel
theorem dX7_stepsFault_34 : decode cX7_stepsFault 34 = .ok (.bipush (-6), 2) := by decide +kernel
theorem dX7_stepsFault_36 : decode cX7_stepsFault 36 = .ok (.istore 4, 2) := by decide +kernel
theorem dX7_stepsFault_38 : decode cX7_stepsFault 38 = .ok (.goto 67, 3) := by decide +kernel
theorem dX7_stepsFault_41 : decode cX7_stepsFault 41 = .ok (.iload_n 1, 1) := by decide +kernel
theorem dX7_stepsFault_42 : decode cX7_stepsFault 42 = .ok (.iconst 2, 1) := by decide +kernel
theorem dX7_stepsFault_43 : decode cX7_stepsFault 43 = .ok (.if_icmp .ne 33, 3) := by decide +kernel
theorem dX7_stepsFault_46 : decode cX7_stepsFault 46 = .ok (.iload_n 3, 1) := by decide +kernel
theorem dX7_stepsFault_47 : decode cX7_stepsFault 47 = .ok (.invokestatic 71, 3) := by decide +kernel
theorem dX7_stepsFault_50 : decode cX7_stepsFault 50 = .ok (.ifCond .eq 19, 3) := by decide +kernel
theorem dX7_stepsFault_53 : decode cX7_stepsFault 53 = .ok (.iload_n 3, 1) := by decide +kernel
theorem dX7_stepsFault_54 : decode cX7_stepsFault 54 = .ok (.aload_n 0, 1) := by decide +kernel
theorem dX7_stepsFault_55 : decode cX7_stepsFault 55 = .ok (.getfield 7, 3) := by decide +kernel
theorem dX7_stepsFault_58 : decode cX7_stepsFault 58 = .ok (.iload_n 2, 1) := by decide +kernel
theorem dX7_stepsFault_59 : decode cX7_stepsFault 59 = .ok (.iconst 2, 1) := by decide +kernel
theorem dX7_stepsFault_60 : decode cX7_stepsFault 60 = .ok (.isub, 1) := by decide +kernel
theorem dX7_stepsFault_61 : decode cX7_stepsFault 61 = .ok (.iaload, 1) := by decide +kernel
theorem dX7_stepsFault_62 : decode cX7_stepsFault 62 = .ok (.if_icmp .eq 7, 3) := by decide +kernel
theorem dX7_stepsFault_65 : decode cX7_stepsFault 65 = .ok (.iconst 3, 1) := by decide +kernel
theorem dX7_stepsFault_66 : decode cX7_stepsFault 66 = .ok (.goto 5, 3) := by decide +kernel
theorem dX7_stepsFault_69 : decode cX7_stepsFault 69 = .ok (.bipush (-6), 2) := by decide +kernel
theorem dX7_stepsFault_71 : decode cX7_stepsFault 71 = .ok (.istore 4, 2) := by decide +kernel
theorem dX7_stepsFault_73 : decode cX7_stepsFault 73 = .ok (.goto 32, 3) := by decide +kernel
theorem dX7_stepsFault_76 : decode cX7_stepsFault 76 = .ok (.iload_n 3, 1) := by decide +kernel
theorem dX7_stepsFault_77 : decode cX7_stepsFault 77 = .ok (.bipush 62, 2) := by decide +kernel
theorem dX7_stepsFault_79 : decode cX7_stepsFault 79 = .ok (.if_icmp .ne 7, 3) := by decide +kernel
theorem dX7_stepsFault_82 : decode cX7_stepsFault 82 = .ok (.iconst 2, 1) := by decide +kernel
theorem dX7_stepsFault_83 : decode cX7_stepsFault 83 = .ok (.goto 20, 3) := by decide +kernel
theorem dX7_stepsFault_86 : decode cX7_stepsFault 86 = .ok (.iload_n 3, 1) := by decide +kernel
theorem dX7_stepsFault_87 : decode cX7_stepsFault 87 = .ok (.bipush 44, 2) := by decide +kernel
theorem dX7_stepsFault_89 : decode cX7_stepsFault 89 = .ok (.if_icmp .ne 12, 3) := by decide +kernel
theorem dX7_stepsFault_92 : decode cX7_stepsFault 92 = .ok (.iload_n 1, 1) := by decide +kernel
theorem dX7_stepsFault_93 : decode cX7_stepsFault 93 = .ok (.iconst 3, 1) := by decide +kernel
theorem dX7_stepsFault_94 : decode cX7_stepsFault 94 = .ok (.if_icmp .ne 7, 3) := by decide +kernel
theorem dX7_stepsFault_97 : decode cX7_stepsFault 97 = .ok (.iconst 0, 1) := by decide +kernel
theorem dX7_stepsFault_98 : decode cX7_stepsFault 98 = .ok (.goto 5, 3) := by decide +kernel
theorem dX7_stepsFault_101 : decode cX7_stepsFault 101 = .ok (.bipush (-6), 2) := by decide +kernel
theorem dX7_stepsFault_103 : decode cX7_stepsFault 103 = .ok (.istore 4, 2) := by decide +kernel
theorem dX7_stepsFault_105 : decode cX7_stepsFault 105 = .ok (.iload 4, 2) := by decide +kernel
theorem dX7_stepsFault_107 : decode cX7_stepsFault 107 = .ok (.ifCond .ge 5, 3) := by decide +kernel
theorem dX7_stepsFault_110 : decode cX7_stepsFault 110 = .ok (.iload_n 2, 1) := by decide +kernel
theorem dX7_stepsFault_111 : decode cX7_stepsFault 111 = .ok (.ireturn, 1) := by decide +kernel
theorem dX7_stepsFault_112 : decode cX7_stepsFault 112 = .ok (.iload 4, 2) := by decide +kernel
theorem dX7_stepsFault_114 : decode cX7_stepsFault 114 = .ok (.istore_n 1, 1) := by decide +kernel
theorem dX7_stepsFault_115 : decode cX7_stepsFault 115 = .ok (.iinc 2 1, 3) := by decide +kernel
theorem dX7_stepsFault_118 : decode cX7_stepsFault 118 = .ok (.goto (-114), 3) := by decide +kernel
theorem dX7_stepsFault_121 : decode cX7_stepsFault 121 = .ok (.iload_n 1, 1) := by decide +kernel
theorem dX7_stepsFault_122 : decode cX7_stepsFault 122 = .ok (.iconst 3, 1) := by decide +kernel
theorem dX7_stepsFault_123 : decode cX7_stepsFault 123 = .ok (.if_icmp .ne 8, 3) := by decide +kernel
theorem dX7_stepsFault_126 : decode cX7_stepsFault 126 = .ok (.bipush (-6), 2) := by decide +kernel
theorem dX7_stepsFault_128 : decode cX7_stepsFault 128 = .ok (.goto 7, 3) := by decide +kernel
theorem dX7_stepsFault_131 : decode cX7_stepsFault 131 = .ok (.aload_n 0, 1) := by decide +kernel
theorem dX7_stepsFault_132 : decode cX7_stepsFault 132 = .ok (.getfield 67, 3) := by decide +kernel
theorem dX7_stepsFault_135 : decode cX7_stepsFault 135 = .ok (.ireturn, 1) := by decide +kernel
set_option maxRecDepth 20000 in
theorem ggX7_quarrelFault_X7_isName : GoodIn wsX7_quarrelFault wsX7_isName := goodIn_r _ [6, 7, 8, 5, 9] (by decide +kernel) (by decide +kernel)
set_option maxRecDepth 20000 in
theorem gX7_quarrelFault_X7_isName : GoodIn wsX7_quarrelFault (va_wsS RX7 71 yX7_isName wsX7_isName) := goodIn_app (goodIn_of _ (by decide +kernel)) ggX7_quarrelFault_X7_isName
set_option maxRecDepth 20000 in
theorem ggX7_quarrelFault_X7_in : GoodIn wsX7_quarrelFault wsX7_in := goodIn_r _ [9] (by decide +kernel) (by decide +kernel)
set_option maxRecDepth 20000 in
theorem gX7_quarrelFault_X7_in : GoodIn wsX7_quarrelFault (va_wsS RX7 59 yX7_in wsX7_in) := goodIn_app (goodIn_of _ (by decide +kernel)) ggX7_quarrelFault_X7_in
theorem dX7_quarrelFault_0 : decode cX7_quarrelFault 0 = .ok (.iconst 0, 1) := by decide +kernel
theorem dX7_quarrelFault_1 : decode cX7_quarrelFault 1 = .ok (.istore_n 1, 1) := by decide +kernel
theorem dX7_quarrelFault_2 : decode cX7_quarrelFault 2 = .ok (.iload_n 1, 1) := by decide +kernel
theorem dX7_quarrelFault_3 : decode cX7_quarrelFault 3 = .ok (.aload_n 0, 1) := by decide +kernel
theorem dX7_quarrelFault_4 : decode cX7_quarrelFault 4 = .ok (.getfield 67, 3) := by decide +kernel
theorem dX7_quarrelFault_7 : decode cX7_quarrelFault 7 = .ok (.if_icmp .ge 77, 3) := by decide +kernel
theorem dX7_quarrelFault_10 : decode cX7_quarrelFault 10 = .ok (.iload_n 1, 1) := by decide +kernel
theorem dX7_quarrelFault_11 : decode cX7_quarrelFault 11 = .ok (.iconst 2, 1) := by decide +kernel
theorem dX7_quarrelFault_12 : decode cX7_quarrelFault 12 = .ok (.irem, 1) := by decide +kernel
theorem dX7_quarrelFault_13 : decode cX7_quarrelFault 13 = .ok (.iconst 1, 1) := by decide +kernel
theorem dX7_quarrelFault_14 : decode cX7_quarrelFault 14 = .ok (.if_icmp .ne 15, 3) := by decide +kernel
theorem dX7_quarrelFault_17 : decode cX7_quarrelFault 17 = .ok (.aload_n 0, 1) := by decide +kernel
theorem dX7_quarrelFault_18 : decode cX7_quarrelFault 18 = .ok (.getfield 7, 3) := by decide +kernel
theorem dX7_quarrelFault_21 : decode cX7_quarrelFault 21 = .ok (.iload_n 1, 1) := by decide +kernel
theorem dX7_quarrelFault_22 : decode cX7_quarrelFault 22 = .ok (.iaload, 1) := by decide +kernel
theorem dX7_quarrelFault_23 : decode cX7_quarrelFault 23 = .ok (.invokestatic 71, 3) := by decide +kernel
theorem dX7_quarrelFault_26 : decode cX7_quarrelFault 26 = .ok (.goto 45, 3) := by decide +kernel
theorem dX7_quarrelFault_29 : decode cX7_quarrelFault 29 = .ok (.aload_n 0, 1) := by decide +kernel
theorem dX7_quarrelFault_30 : decode cX7_quarrelFault 30 = .ok (.getfield 7, 3) := by decide +kernel
theorem dX7_quarrelFault_33 : decode cX7_quarrelFault 33 = .ok (.iload_n 1, 1) := by decide +kernel
theorem dX7_quarrelFault_34 : decode cX7_quarrelFault 34 = .ok (.iaload, 1) := by decide +kernel
theorem dX7_quarrelFault_35 : decode cX7_quarrelFault 35 = .ok (.bipush 48, 2) := by decide +kernel
theorem dX7_quarrelFault_37 : decode cX7_quarrelFault 37 = .ok (.bipush 52, 2) := by decide +kernel
theorem dX7_quarrelFault_39 : decode cX7_quarrelFault 39 = .ok (.invokestatic 59, 3) := by decide +kernel
theorem dX7_quarrelFault_42 : decode cX7_quarrelFault 42 = .ok (.ifCond .eq 28, 3) := by decide +kernel
theorem dX7_quarrelFault_45 : decode cX7_quarrelFault 45 = .ok (.iload_n 1, 1) := by decide +kernel
theorem dX7_quarrelFault_46 : decode cX7_quarrelFault 46 = .ok (.ifCond .eq 20, 3) := by decide +kernel
theorem dX7_quarrelFault_49 : decode cX7_quarrelFault 49 = .ok (.aload_n 0, 1) := by decide +kernel
theorem dX7_quarrelFault_50 : decode cX7_quarrelFault 50 = .ok (.getfield 7, 3) := by decide +kernel
theorem dX7_quarrelFault_53 : decode cX7_quarrelFault 53 = .ok (.iload_n 1, 1) := by decide +kernel
theorem dX7_quarrelFault_54 : decode cX7_quarrelFault 54 = .ok (.iaload, 1) := by decide +kernel
theorem dX7_quarrelFault_55 : decode cX7_quarrelFault 55 = .ok (.aload_n 0, 1) := by decide +kernel
theorem dX7_quarrelFault_56 : decode cX7_quarrelFault 56 = .ok (.getfield 7, 3) := by decide +kernel
theorem dX7_quarrelFault_59 : decode cX7_quarrelFault 59 = .ok (.iload_n 1, 1) := by decide +kernel
theorem dX7_quarrelFault_60 : decode cX7_quarrelFault 60 = .ok (.iconst 2, 1) := by decide +kernel
theorem dX7_quarrelFault_61 : decode cX7_quarrelFault 61 = .ok (.isub, 1) := by decide +kernel
theorem dX7_quarrelFault_62 : decode cX7_quarrelFault 62 = .ok (.iaload, 1) := by decide +kernel
theorem dX7_quarrelFault_63 : decode cX7_quarrelFault 63 = .ok (.if_icmp .eq 7, 3) := by decide +kernel
theorem dX7_quarrelFault_66 : decode cX7_quarrelFault 66 = .ok (.iconst 1, 1) := by decide +kernel
theorem dX7_quarrelFault_67 : decode cX7_quarrelFault 67 = .ok (.goto 4, 3) := by decide +kernel
theorem dX7_quarrelFault_70 : decode cX7_quarrelFault 70 = .ok (.iconst 0, 1) := by decide +kernel
theorem dX7_quarrelFault_71 : decode cX7_quarrelFault 71 = .ok (.istore_n 2, 1) := by decide +kernel
theorem dX7_quarrelFault_72 : decode cX7_quarrelFault 72 = .ok (.iload_n 2, 1) := by decide +kernel
theorem dX7_quarrelFault_73 : decode cX7_quarrelFault 73 = .ok (.ifCond .ne 5, 3) := by decide +kernel
theorem dX7_quarrelFault_76 : decode cX7_quarrelFault 76 = .ok (.iload_n 1, 1) := by decide +kernel
theorem dX7_quarrelFault_77 : decode cX7_quarrelFault 77 = .ok (.ireturn, 1) := by decide +kernel
theorem dX7_quarrelFault_78 : decode cX7_quarrelFault 78 = .ok (.iinc 1 1, 3) := by decide +kernel
theorem dX7_quarrelFault_81 : decode cX7_quarrelFault 81 = .ok (.goto (-79), 3) := by decide +kernel
theorem dX7_quarrelFault_84 : decode cX7_quarrelFault 84 = .ok (.aload_n 0, 1) := by decide +kernel
theorem dX7_quarrelFault_85 : decode cX7_quarrelFault 85 = .ok (.getfield 67, 3) := by decide +kernel
theorem dX7_quarrelFault_88 : decode cX7_quarrelFault 88 = .ok (.ifCond .eq 13, 3) := by decide +kernel
theorem dX7_quarrelFault_91 : decode cX7_quarrelFault 91 = .ok (.aload_n 0, 1) := by decide +kernel
theorem dX7_quarrelFault_92 : decode cX7_quarrelFault 92 = .ok (.getfield 67, 3) := by decide +kernel
theorem dX7_quarrelFault_95 : decode cX7_quarrelFault 95 = .ok (.iconst 2, 1) := by decide +kernel
theorem dX7_quarrelFault_96 : decode cX7_quarrelFault 96 = .ok (.irem, 1) := by decide +kernel
theorem dX7_quarrelFault_97 : decode cX7_quarrelFault 97 = .ok (.iconst 1, 1) := by decide +kernel
theorem dX7_quarrelFault_98 : decode cX7_quarrelFault 98 = .ok (.if_icmp .ne 10, 3) := by decide +kernel
theorem dX7_quarrelFault_101 : decode cX7_quarrelFault 101 = .ok (.aload_n 0, 1) := by decide +kernel
theorem dX7_quarrelFault_102 : decode cX7_quarrelFault 102 = .ok (.getfield 67, 3) := by decide +kernel
theorem dX7_quarrelFault_105 : decode cX7_quarrelFault 105 = .ok (.goto 5, 3) := by decide +kernel
theorem dX7_quarrelFault_108 : decode cX7_quarrelFault 108 = .ok (.bipush (-6), 2) := by decide +kernel
theorem dX7_quarrelFault_110 : decode cX7_quarrelFault 110 = .ok (.ireturn, 1) := by decide +kernel
set_option maxRecDepth 20000 in
theorem ggX7_fault_X7_stepsFault : GoodIn wsX7_fault wsX7_stepsFault := goodIn_r _ [5, 6, 7, 8, 9, 4, 10, 11, 12, 13, 18, 19, 20, 21, 22, 23, 24, 25, 26, 27, 28, 29, 30, 31, 32, 33, 34, 35] (by decide +kernel) (by decide +kernel)
set_option maxRecDepth 20000 in
theorem gX7_fault_X7_stepsFault : GoodIn wsX7_fault (wsV RX7 74 RX7 yX7_stepsFault wsX7_stepsFault) := goodIn_app (goodIn_of _ (by decide +kernel)) ggX7_fault_X7_stepsFault
set_option maxRecDepth 20000 in
theorem ggX7_fault_X7_quarrelFault : GoodIn wsX7_fault wsX7_quarrelFault := goodIn_r _ [17, 6, 7, 8, 9, 4, 10, 11, 12, 13, 18, 19, 20, 21, 22, 23, 24, 25, 26, 27, 28, 29, 30, 31, 32, 33, 34, 35] (by decide +kernel) (by decide +kernel)
set_option maxRecDepth 20000 in
theorem gX7_fault_X7_quarrelFault : GoodIn wsX7_fault (wsV RX7 78 RX7 yX7_quarrelFault wsX7_quarrelFault) := goodIn_app (goodIn_of _ (by decide +kernel)) ggX7_fault_X7_quarrelFault
theorem dX7_fault_0 : decode cX7_fault 0 = .ok (.iload_n 1, 1) := by decide +kernel
theorem dX7_fault_1 : decode cX7_fault 1 = .ok (.ifCond .ne 10, 3) := by decide +kernel
theorem dX7_fault_4 : decode cX7_fault 4 = .ok (.aload_n 0, 1) := by decide +kernel
theorem dX7_fault_5 : decode cX7_fault 5 = .ok (.invokevirtual 74, 3) := by decide +kernel
theorem dX7_fault_8 : decode cX7_fault 8 = .ok (.goto 17, 3) := by decide +kernel
theorem dX7_fault_11 : decode cX7_fault 11 = .ok (.iload_n 1, 1) := by decide +kernel
theorem dX7_fault_12 : decode cX7_fault 12 = .ok (.iconst 1, 1) := by decide +kernel
theorem dX7_fault_13 : decode cX7_fault 13 = .ok (.if_icmp .ne 10, 3) := by decide +kernel
theorem dX7_fault_16 : decode cX7_fault 16 = .ok (.aload_n 0, 1) := by decide +kernel
theorem dX7_fault_17 : decode cX7_fault 17 = .ok (.invokevirtual 78, 3) := by decide +kernel
theorem dX7_fault_20 : decode cX7_fault 20 = .ok (.goto 5, 3) := by decide +kernel
theorem dX7_fault_23 : decode cX7_fault 23 = .ok (.bipush (-2), 2) := by decide +kernel
theorem dX7_fault_25 : decode cX7_fault 25 = .ok (.ireturn, 1) := by decide +kernel
set_option maxRecDepth 20000 in
theorem ggX7_allSteps_X7_bits : GoodIn wsX7_allSteps wsX7_bits := goodIn_r _ [5] (by decide +kernel) (by decide +kernel)
set_option maxRecDepth 20000 in
theorem gX7_allSteps_X7_bits : GoodIn wsX7_allSteps (va_wsS RX7 81 yX7_bits wsX7_bits) := goodIn_app (goodIn_of _ (by decide +kernel)) ggX7_allSteps_X7_bits
theorem dX7_allSteps_0 : decode cX7_allSteps 0 = .ok (.iconst 0, 1) := by decide +kernel
theorem dX7_allSteps_1 : decode cX7_allSteps 1 = .ok (.istore_n 1, 1) := by decide +kernel
theorem dX7_allSteps_2 : decode cX7_allSteps 2 = .ok (.iconst 0, 1) := by decide +kernel
theorem dX7_allSteps_3 : decode cX7_allSteps 3 = .ok (.istore_n 2, 1) := by decide +kernel
theorem dX7_allSteps_4 : decode cX7_allSteps 4 = .ok (.iload_n 2, 1) := by decide +kernel
theorem dX7_allSteps_5 : decode cX7_allSteps 5 = .ok (.bipush 10, 2) := by decide +kernel
theorem dX7_allSteps_7 : decode cX7_allSteps 7 = .ok (.if_icmp .ge 21, 3) := by decide +kernel
theorem dX7_allSteps_10 : decode cX7_allSteps 10 = .ok (.iload_n 1, 1) := by decide +kernel
theorem dX7_allSteps_11 : decode cX7_allSteps 11 = .ok (.aload_n 0, 1) := by decide +kernel
theorem dX7_allSteps_12 : decode cX7_allSteps 12 = .ok (.getfield 13, 3) := by decide +kernel
theorem dX7_allSteps_15 : decode cX7_allSteps 15 = .ok (.iload_n 2, 1) := by decide +kernel
theorem dX7_allSteps_16 : decode cX7_allSteps 16 = .ok (.iaload, 1) := by decide +kernel
theorem dX7_allSteps_17 : decode cX7_allSteps 17 = .ok (.invokestatic 81, 3) := by decide +kernel
theorem dX7_allSteps_20 : decode cX7_allSteps 20 = .ok (.iadd, 1) := by decide +kernel
theorem dX7_allSteps_21 : decode cX7_allSteps 21 = .ok (.istore_n 1, 1) := by decide +kernel
theorem dX7_allSteps_22 : decode cX7_allSteps 22 = .ok (.iinc 2 1, 3) := by decide +kernel
theorem dX7_allSteps_25 : decode cX7_allSteps 25 = .ok (.goto (-21), 3) := by decide +kernel
theorem dX7_allSteps_28 : decode cX7_allSteps 28 = .ok (.iload_n 1, 1) := by decide +kernel
theorem dX7_allSteps_29 : decode cX7_allSteps 29 = .ok (.ireturn, 1) := by decide +kernel
set_option maxRecDepth 20000 in
theorem ggX7_steps_X7_stepsFault : GoodIn wsX7_steps wsX7_stepsFault := goodIn_r _ [8, 1, 2, 9, 10, 7, 11, 12, 13, 14, 22, 23, 24, 25, 26, 27, 28, 29, 30, 31, 32, 33, 34, 35, 36, 37, 38, 39] (by decide +kernel) (by decide +kernel)
set_option maxRecDepth 20000 in
theorem gX7_steps_X7_stepsFault : GoodIn wsX7_steps (wsV RX7 74 RX7 yX7_stepsFault wsX7_stepsFault) := goodIn_app (goodIn_of _ (by decide +kernel)) ggX7_steps_X7_stepsFault
set_option maxRecDepth 20000 in
theorem ggX7_steps_X7_allSteps : GoodIn wsX7_steps wsX7_allSteps := goodIn_r _ [18, 3, 19, 20, 7, 21, 22, 23, 24, 25, 26, 27, 28, 29, 30, 31, 32, 33, 34, 35, 36, 37, 38, 39] (by decide +kernel) (by decide +kernel)
set_option maxRecDepth 20000 in
theorem gX7_steps_X7_allSteps : GoodIn wsX7_steps (wsV RX7 85 RX7 yX7_allSteps wsX7_allSteps) := goodIn_app (goodIn_of _ (by decide +kernel)) ggX7_steps_X7_allSteps
theorem dX7_steps_0 : decode cX7_steps 0 = .ok (.aload_n 0, 1) := by decide +kernel
theorem dX7_steps_1 : decode cX7_steps 1 = .ok (.invokevirtual 74, 3) := by decide +kernel
theorem dX7_steps_4 : decode cX7_steps 4 = .ok (.ifCond .lt 6, 3) := by decide +kernel
theorem dX7_steps_7 : decode cX7_steps 7 = .ok (.bipush (-5), 2) := by decide +kernel
theorem dX7_steps_9 : decode cX7_steps 9 = .ok (.ireturn, 1) := by decide +kernel
theorem dX7_steps_10 : decode cX7_steps 10 = .ok (.iconst 1, 1) := by decide +kernel
theorem dX7_steps_11 : decode cX7_steps 11 = .ok (.istore_n 1, 1) := by decide +kernel
theorem dX7_steps_12 : decode cX7_steps 12 = .ok (.iload_n 1, 1) := by decide +kernel
theorem dX7_steps_13 : decode cX7_steps 13 = .ok (.aload_n 0, 1) := by decide +kernel
theorem dX7_steps_14 : decode cX7_steps 14 = .ok (.getfield 67, 3) := by decide +kernel
theorem dX7_steps_17 : decode cX7_steps 17 = .ok (.if_icmp .ge 52, 3) := by decide +kernel
theorem dX7_steps_20 : decode cX7_steps 20 = .ok (.aload_n 0, 1) := by decide +kernel
theorem dX7_steps_21 : decode cX7_steps 21 = .ok (.getfield 7, 3) := by decide +kernel
theorem dX7_steps_24 : decode cX7_steps 24 = .ok (.iload_n 1, 1) := by decide +kernel
theorem dX7_steps_25 : decode cX7_steps 25 = .ok (.iaload, 1) := by decide +kernel
theorem dX7_steps_26 : decode cX7_steps 26 = .ok (.bipush 62, 2) := by decide +kernel
theorem dX7_steps_28 : decode cX7_steps 28 = .ok (.if_icmp .ne 35, 3) := by decide +kernel
theorem dX7_steps_31 : decode cX7_steps 31 = .ok (.aload_n 0, 1) := by decide +kernel
theorem dX7_steps_32 : decode cX7_steps 32 = .ok (.getfield 13, 3) := by decide +kernel
theorem dX7_steps_35 : decode cX7_steps 35 = .ok (.aload_n 0, 1) := by decide +kernel
theorem dX7_steps_36 : decode cX7_steps 36 = .ok (.getfield 7, 3) := by decide +kernel
theorem dX7_steps_39 : decode cX7_steps 39 = .ok (.iload_n 1, 1) := by decide +kernel
theorem dX7_steps_40 : decode cX7_steps 40 = .ok (.iconst 1, 1) := by decide +kernel
theorem dX7_steps_41 : decode cX7_steps 41 = .ok (.isub, 1) := by decide +kernel
theorem dX7_steps_42 : decode cX7_steps 42 = .ok (.iaload, 1) := by decide +kernel
theorem dX7_steps_43 : decode cX7_steps 43 = .ok (.bipush 97, 2) := by decide +kernel
theorem dX7_steps_45 : decode cX7_steps 45 = .ok (.isub, 1) := by decide +kernel
theorem dX7_steps_46 : decode cX7_steps 46 = .ok (.dup2, 1) := by decide +kernel
theorem dX7_steps_47 : decode cX7_steps 47 = .ok (.iaload, 1) := by decide +kernel
theorem dX7_steps_48 : decode cX7_steps 48 = .ok (.iconst 1, 1) := by decide +kernel
theorem dX7_steps_49 : decode cX7_steps 49 = .ok (.aload_n 0, 1) := by decide +kernel
theorem dX7_steps_50 : decode cX7_steps 50 = .ok (.getfield 7, 3) := by decide +kernel
theorem dX7_steps_53 : decode cX7_steps 53 = .ok (.iload_n 1, 1) := by decide +kernel
theorem dX7_steps_54 : decode cX7_steps 54 = .ok (.iconst 1, 1) := by decide +kernel
theorem dX7_steps_55 : decode cX7_steps 55 = .ok (.iadd, 1) := by decide +kernel
theorem dX7_steps_56 : decode cX7_steps 56 = .ok (.iaload, 1) := by decide +kernel
theorem dX7_steps_57 : decode cX7_steps 57 = .ok (.bipush 97, 2) := by decide +kernel
theorem dX7_steps_59 : decode cX7_steps 59 = .ok (.isub, 1) := by decide +kernel
theorem dX7_steps_60 : decode cX7_steps 60 = .ok (.ishl, 1) := by decide +kernel
theorem dX7_steps_61 : decode cX7_steps 61 = .ok (.ior, 1) := by decide +kernel
theorem dX7_steps_62 : decode cX7_steps 62 = .ok (.iastore, 1) := by decide +kernel
theorem dX7_steps_63 : decode cX7_steps 63 = .ok (.iinc 1 2, 3) := by decide +kernel
theorem dX7_steps_66 : decode cX7_steps 66 = .ok (.goto (-54), 3) := by decide +kernel
theorem dX7_steps_69 : decode cX7_steps 69 = .ok (.aload_n 0, 1) := by decide +kernel
theorem dX7_steps_70 : decode cX7_steps 70 = .ok (.iconst 0, 1) := by decide +kernel
theorem dX7_steps_71 : decode cX7_steps 71 = .ok (.putfield 67, 3) := by decide +kernel
theorem dX7_steps_74 : decode cX7_steps 74 = .ok (.aload_n 0, 1) := by decide +kernel
theorem dX7_steps_75 : decode cX7_steps 75 = .ok (.invokevirtual 85, 3) := by decide +kernel
theorem dX7_steps_78 : decode cX7_steps 78 = .ok (.ireturn, 1) := by decide +kernel
set_option maxRecDepth 20000 in
theorem ggX7_step_X7_isInsult : GoodIn wsX7_step wsX7_isInsult := goodIn_r _ [5, 6, 7, 4, 8] (by decide +kernel) (by decide +kernel)
set_option maxRecDepth 20000 in
theorem gX7_step_X7_isInsult : GoodIn wsX7_step (va_wsS RX7 88 yX7_isInsult wsX7_isInsult) := goodIn_app (goodIn_of _ (by decide +kernel)) ggX7_step_X7_isInsult
theorem dX7_step_0 : decode cX7_step 0 = .ok (.iload_n 1, 1) := by decide +kernel
theorem dX7_step_1 : decode cX7_step 1 = .ok (.invokestatic 88, 3) := by decide +kernel
theorem dX7_step_4 : decode cX7_step 4 = .ok (.ifCond .eq 15, 3) := by decide +kernel
theorem dX7_step_7 : decode cX7_step 7 = .ok (.iload_n 2, 1) := by decide +kernel
theorem dX7_step_8 : decode cX7_step 8 = .ok (.invokestatic 88, 3) := by decide +kernel
theorem dX7_step_11 : decode cX7_step 11 = .ok (.ifCond .eq 8, 3) := by decide +kernel
theorem dX7_step_14 : decode cX7_step 14 = .ok (.iload_n 1, 1) := by decide +kernel
theorem dX7_step_15 : decode cX7_step 15 = .ok (.iload_n 2, 1) := by decide +kernel
theorem dX7_step_16 : decode cX7_step 16 = .ok (.if_icmp .ne 5, 3) := by decide +kernel
theorem dX7_step_19 : decode cX7_step 19 = .ok (.iconst (-1), 1) := by decide +kernel
theorem dX7_step_20 : decode cX7_step 20 = .ok (.ireturn, 1) := by decide +kernel
theorem dX7_step_21 : decode cX7_step 21 = .ok (.aload_n 0, 1) := by decide +kernel
theorem dX7_step_22 : decode cX7_step 22 = .ok (.getfield 13, 3) := by decide +kernel
theorem dX7_step_25 : decode cX7_step 25 = .ok (.iload_n 1, 1) := by decide +kernel
theorem dX7_step_26 : decode cX7_step 26 = .ok (.iaload, 1) := by decide +kernel
theorem dX7_step_27 : decode cX7_step 27 = .ok (.iload_n 2, 1) := by decide +kernel
theorem dX7_step_28 : decode cX7_step 28 = .ok (.ishr, 1) := by decide +kernel
theorem dX7_step_29 : decode cX7_step 29 = .ok (.iconst 1, 1) := by decide +kernel
theorem dX7_step_30 : decode cX7_step 30 = .ok (.iand, 1) := by decide +kernel
theorem dX7_step_31 : decode cX7_step 31 = .ok (.istore 4, 2) := by decide +kernel
theorem dX7_step_33 : decode cX7_step 33 = .ok (.aload_n 0, 1) := by decide +kernel
theorem dX7_step_34 : decode cX7_step 34 = .ok (.getfield 13, 3) := by decide +kernel
theorem dX7_step_37 : decode cX7_step 37 = .ok (.iload_n 1, 1) := by decide +kernel
theorem dX7_step_38 : decode cX7_step 38 = .ok (.iload_n 3, 1) := by decide +kernel
theorem dX7_step_39 : decode cX7_step 39 = .ok (.ifCond .eq 16, 3) := by decide +kernel
theorem dX7_step_42 : decode cX7_step 42 = .ok (.aload_n 0, 1) := by decide +kernel
theorem dX7_step_43 : decode cX7_step 43 = .ok (.getfield 13, 3) := by decide +kernel
theorem dX7_step_46 : decode cX7_step 46 = .ok (.iload_n 1, 1) := by decide +kernel
theorem dX7_step_47 : decode cX7_step 47 = .ok (.iaload, 1) := by decide +kernel
theorem dX7_step_48 : decode cX7_step 48 = .ok (.iconst 1, 1) := by decide +kernel
theorem dX7_step_49 : decode cX7_step 49 = .ok (.iload_n 2, 1) := by decide +kernel
theorem dX7_step_50 : decode cX7_step 50 = .ok (.ishl, 1) := by decide +kernel
theorem dX7_step_51 : decode cX7_step 51 = .ok (.ior, 1) := by decide +kernel
theorem dX7_step_52 : decode cX7_step 52 = .ok (.goto 15, 3) := by decide +kernel
theorem dX7_step_55 : decode cX7_step 55 = .ok (.aload_n 0, 1) := by decide +kernel
theorem dX7_step_56 : decode cX7_step 56 = .ok (.getfield 13, 3) := by decide +kernel
theorem dX7_step_59 : decode cX7_step 59 = .ok (.iload_n 1, 1) := by decide +kernel
theorem dX7_step_60 : decode cX7_step 60 = .ok (.iaload, 1) := by decide +kernel
theorem dX7_step_61 : decode cX7_step 61 = .ok (.iconst 1, 1) := by decide +kernel
theorem dX7_step_62 : decode cX7_step 62 = .ok (.iload_n 2, 1) := by decide +kernel
theorem dX7_step_63 : decode cX7_step 63 = .ok (.ishl, 1) := by decide +kernel
theorem dX7_step_64 : decode cX7_step 64 = .ok (.iconst (-1), 1) := by decide +kernel
theorem dX7_step_65 : decode cX7_step 65 = .ok (.ixor, 1) := by decide +kernel
theorem dX7_step_66 : decode cX7_step 66 = .ok (.iand, 1) := by decide +kernel
theorem dX7_step_67 : decode cX7_step 67 = .ok (.iastore, 1) := by decide +kernel
theorem dX7_step_68 : decode cX7_step 68 = .ok (.iload 4, 2) := by decide +kernel
theorem dX7_step_70 : decode cX7_step 70 = .ok (.ireturn, 1) := by decide +kernel
set_option maxRecDepth 20000 in
theorem ggX7_needs_X7_isInsult : GoodIn wsX7_needs wsX7_isInsult := goodIn_r _ [5, 6, 7, 4, 8] (by decide +kernel) (by decide +kernel)
set_option maxRecDepth 20000 in
theorem gX7_needs_X7_isInsult : GoodIn wsX7_needs (va_wsS RX7 88 yX7_isInsult wsX7_isInsult) := goodIn_app (goodIn_of _ (by decide +kernel)) ggX7_needs_X7_isInsult
set_option maxRecDepth 20000 in
theorem ggX7_needs_X7_in : GoodIn wsX7_needs wsX7_in := goodIn_r _ [8] (by decide +kernel) (by decide +kernel)
set_option maxRecDepth 20000 in
theorem gX7_needs_X7_in : GoodIn wsX7_needs (va_wsS RX7 59 yX7_in wsX7_in) := goodIn_app (goodIn_of _ (by decide +kernel)) ggX7_needs_X7_in
theorem dX7_needs_0 : decode cX7_needs 0 = .ok (.iload_n 1, 1) := by decide +kernel
theorem dX7_needs_1 : decode cX7_needs 1 = .ok (.invokestatic 88, 3) := by decide +kernel
theorem dX7_needs_4 : decode cX7_needs 4 = .ok (.ifCond .ne 5, 3) := by decide +kernel
theorem dX7_needs_7 : decode cX7_needs 7 = .ok (.iconst (-1), 1) := by decide +kernel
theorem dX7_needs_8 : decode cX7_needs 8 = .ok (.ireturn, 1) := by decide +kernel
theorem dX7_needs_9 : decode cX7_needs 9 = .ok (.iload_n 2, 1) := by decide +kernel
theorem dX7_needs_10 : decode cX7_needs 10 = .ok (.iconst 0, 1) := by decide +kernel
theorem dX7_needs_11 : decode cX7_needs 11 = .ok (.bipush 63, 2) := by decide +kernel
theorem dX7_needs_13 : decode cX7_needs 13 = .ok (.invokestatic 59, 3) := by decide +kernel
theorem dX7_needs_16 : decode cX7_needs 16 = .ok (.ifCond .ne 6, 3) := by decide +kernel
theorem dX7_needs_19 : decode cX7_needs 19 = .ok (.bipush (-2), 2) := by decide +kernel
theorem dX7_needs_21 : decode cX7_needs 21 = .ok (.ireturn, 1) := by decide +kernel
theorem dX7_needs_22 : decode cX7_needs 22 = .ok (.aload_n 0, 1) := by decide +kernel
theorem dX7_needs_23 : decode cX7_needs 23 = .ok (.getfield 16, 3) := by decide +kernel
theorem dX7_needs_26 : decode cX7_needs 26 = .ok (.iload_n 1, 1) := by decide +kernel
theorem dX7_needs_27 : decode cX7_needs 27 = .ok (.iaload, 1) := by decide +kernel
theorem dX7_needs_28 : decode cX7_needs 28 = .ok (.istore_n 3, 1) := by decide +kernel
theorem dX7_needs_29 : decode cX7_needs 29 = .ok (.aload_n 0, 1) := by decide +kernel
theorem dX7_needs_30 : decode cX7_needs 30 = .ok (.getfield 16, 3) := by decide +kernel
theorem dX7_needs_33 : decode cX7_needs 33 = .ok (.iload_n 1, 1) := by decide +kernel
theorem dX7_needs_34 : decode cX7_needs 34 = .ok (.iload_n 2, 1) := by decide +kernel
theorem dX7_needs_35 : decode cX7_needs 35 = .ok (.iastore, 1) := by decide +kernel
theorem dX7_needs_36 : decode cX7_needs 36 = .ok (.iload_n 3, 1) := by decide +kernel
theorem dX7_needs_37 : decode cX7_needs 37 = .ok (.ireturn, 1) := by decide +kernel
set_option maxRecDepth 20000 in
theorem ggX7_man_X7_isMan : GoodIn wsX7_man wsX7_isMan := goodIn_r _ [6, 7, 8, 5, 9] (by decide +kernel) (by decide +kernel)
set_option maxRecDepth 20000 in
theorem gX7_man_X7_isMan : GoodIn wsX7_man (va_wsS RX7 63 yX7_isMan wsX7_isMan) := goodIn_app (goodIn_of _ (by decide +kernel)) ggX7_man_X7_isMan
set_option maxRecDepth 20000 in
theorem ggX7_man_X7_in : GoodIn wsX7_man wsX7_in := goodIn_r _ [9] (by decide +kernel) (by decide +kernel)
set_option maxRecDepth 20000 in
theorem gX7_man_X7_in : GoodIn wsX7_man (va_wsS RX7 59 yX7_in wsX7_in) := goodIn_app (goodIn_of _ (by decide +kernel)) ggX7_man_X7_in
theorem dX7_man_0 : decode cX7_man 0 = .ok (.iload_n 1, 1) := by decide +kernel
theorem dX7_man_1 : decode cX7_man 1 = .ok (.invokestatic 63, 3) := by decide +kernel
theorem dX7_man_4 : decode cX7_man 4 = .ok (.ifCond .ne 5, 3) := by decide +kernel
theorem dX7_man_7 : decode cX7_man 7 = .ok (.iconst (-1), 1) := by decide +kernel
theorem dX7_man_8 : decode cX7_man 8 = .ok (.ireturn, 1) := by decide +kernel
theorem dX7_man_9 : decode cX7_man 9 = .ok (.iload_n 2, 1) := by decide +kernel
theorem dX7_man_10 : decode cX7_man 10 = .ok (.iconst 0, 1) := by decide +kernel
theorem dX7_man_11 : decode cX7_man 11 = .ok (.iconst 1, 1) := by decide +kernel
theorem dX7_man_12 : decode cX7_man 12 = .ok (.invokestatic 59, 3) := by decide +kernel
theorem dX7_man_15 : decode cX7_man 15 = .ok (.ifCond .eq 23, 3) := by decide +kernel
theorem dX7_man_18 : decode cX7_man 18 = .ok (.iload_n 3, 1) := by decide +kernel
theorem dX7_man_19 : decode cX7_man 19 = .ok (.iconst 0, 1) := by decide +kernel
theorem dX7_man_20 : decode cX7_man 20 = .ok (.iload_n 2, 1) := by decide +kernel
theorem dX7_man_21 : decode cX7_man 21 = .ok (.ifCond .ne 8, 3) := by decide +kernel
theorem dX7_man_24 : decode cX7_man 24 = .ok (.bipush 63, 2) := by decide +kernel
theorem dX7_man_26 : decode cX7_man 26 = .ok (.goto 6, 3) := by decide +kernel
theorem dX7_man_29 : decode cX7_man 29 = .ok (.sipush 1023, 3) := by decide +kernel
theorem dX7_man_32 : decode cX7_man 32 = .ok (.invokestatic 59, 3) := by decide +kernel
theorem dX7_man_35 : decode cX7_man 35 = .ok (.ifCond .ne 6, 3) := by decide +kernel
theorem dX7_man_38 : decode cX7_man 38 = .ok (.bipush (-2), 2) := by decide +kernel
theorem dX7_man_40 : decode cX7_man 40 = .ok (.ireturn, 1) := by decide +kernel
theorem dX7_man_41 : decode cX7_man 41 = .ok (.iload_n 2, 1) := by decide +kernel
theorem dX7_man_42 : decode cX7_man 42 = .ok (.ifCond .ne 12, 3) := by decide +kernel
theorem dX7_man_45 : decode cX7_man 45 = .ok (.aload_n 0, 1) := by decide +kernel
theorem dX7_man_46 : decode cX7_man 46 = .ok (.getfield 19, 3) := by decide +kernel
theorem dX7_man_49 : decode cX7_man 49 = .ok (.iload_n 1, 1) := by decide +kernel
theorem dX7_man_50 : decode cX7_man 50 = .ok (.iaload, 1) := by decide +kernel
theorem dX7_man_51 : decode cX7_man 51 = .ok (.goto 9, 3) := by decide +kernel
theorem dX7_man_54 : decode cX7_man 54 = .ok (.aload_n 0, 1) := by decide +kernel
theorem dX7_man_55 : decode cX7_man 55 = .ok (.getfield 22, 3) := by decide +kernel
theorem dX7_man_58 : decode cX7_man 58 = .ok (.iload_n 1, 1) := by decide +kernel
theorem dX7_man_59 : decode cX7_man 59 = .ok (.iaload, 1) := by decide +kernel
theorem dX7_man_60 : decode cX7_man 60 = .ok (.istore 4, 2) := by decide +kernel
theorem dX7_man_62 : decode cX7_man 62 = .ok (.iload_n 2, 1) := by decide +kernel
theorem dX7_man_63 : decode cX7_man 63 = .ok (.ifCond .ne 13, 3) := by decide +kernel
theorem dX7_man_66 : decode cX7_man 66 = .ok (.aload_n 0, 1) := by decide +kernel
theorem dX7_man_67 : decode cX7_man 67 = .ok (.getfield 19, 3) := by decide +kernel
theorem dX7_man_70 : decode cX7_man 70 = .ok (.iload_n 1, 1) := by decide +kernel
theorem dX7_man_71 : decode cX7_man 71 = .ok (.iload_n 3, 1) := by decide +kernel
theorem dX7_man_72 : decode cX7_man 72 = .ok (.iastore, 1) := by decide +kernel
theorem dX7_man_73 : decode cX7_man 73 = .ok (.goto 10, 3) := by decide +kernel
theorem dX7_man_76 : decode cX7_man 76 = .ok (.aload_n 0, 1) := by decide +kernel
theorem dX7_man_77 : decode cX7_man 77 = .ok (.getfield 22, 3) := by decide +kernel
theorem dX7_man_80 : decode cX7_man 80 = .ok (.iload_n 1, 1) := by decide +kernel
theorem dX7_man_81 : decode cX7_man 81 = .ok (.iload_n 3, 1) := by decide +kernel
theorem dX7_man_82 : decode cX7_man 82 = .ok (.iastore, 1) := by decide +kernel
theorem dX7_man_83 : decode cX7_man 83 = .ok (.iload 4, 2) := by decide +kernel
theorem dX7_man_85 : decode cX7_man 85 = .ok (.ireturn, 1) := by decide +kernel
theorem dX7_fitOf_0 : decode cX7_fitOf 0 = .ok (.iconst 0, 1) := by decide +kernel
theorem dX7_fitOf_1 : decode cX7_fitOf 1 = .ok (.istore_n 2, 1) := by decide +kernel
theorem dX7_fitOf_2 : decode cX7_fitOf 2 = .ok (.iconst 0, 1) := by decide +kernel
theorem dX7_fitOf_3 : decode cX7_fitOf 3 = .ok (.istore_n 3, 1) := by decide +kernel
theorem dX7_fitOf_4 : decode cX7_fitOf 4 = .ok (.iload_n 3, 1) := by decide +kernel
theorem dX7_fitOf_5 : decode cX7_fitOf 5 = .ok (.bipush 10, 2) := by decide +kernel
theorem dX7_fitOf_7 : decode cX7_fitOf 7 = .ok (.if_icmp .ge 37, 3) := by decide +kernel
theorem dX7_fitOf_10 : decode cX7_fitOf 10 = .ok (.iload_n 2, 1) := by decide +kernel
theorem dX7_fitOf_11 : decode cX7_fitOf 11 = .ok (.aload_n 0, 1) := by decide +kernel
theorem dX7_fitOf_12 : decode cX7_fitOf 12 = .ok (.getfield 16, 3) := by decide +kernel
theorem dX7_fitOf_15 : decode cX7_fitOf 15 = .ok (.iload_n 3, 1) := by decide +kernel
theorem dX7_fitOf_16 : decode cX7_fitOf 16 = .ok (.iaload, 1) := by decide +kernel
theorem dX7_fitOf_17 : decode cX7_fitOf 17 = .ok (.aload_n 0, 1) := by decide +kernel
theorem dX7_fitOf_18 : decode cX7_fitOf 18 = .ok (.getfield 19, 3) := by decide +kernel
theorem dX7_fitOf_21 : decode cX7_fitOf 21 = .ok (.iload_n 1, 1) := by decide +kernel
theorem dX7_fitOf_22 : decode cX7_fitOf 22 = .ok (.iaload, 1) := by decide +kernel
theorem dX7_fitOf_23 : decode cX7_fitOf 23 = .ok (.iconst (-1), 1) := by decide +kernel
theorem dX7_fitOf_24 : decode cX7_fitOf 24 = .ok (.ixor, 1) := by decide +kernel
theorem dX7_fitOf_25 : decode cX7_fitOf 25 = .ok (.iand, 1) := by decide +kernel
theorem dX7_fitOf_26 : decode cX7_fitOf 26 = .ok (.ifCond .ne 9, 3) := by decide +kernel
theorem dX7_fitOf_29 : decode cX7_fitOf 29 = .ok (.iconst 1, 1) := by decide +kernel
theorem dX7_fitOf_30 : decode cX7_fitOf 30 = .ok (.iload_n 3, 1) := by decide +kernel
theorem dX7_fitOf_31 : decode cX7_fitOf 31 = .ok (.ishl, 1) := by decide +kernel
theorem dX7_fitOf_32 : decode cX7_fitOf 32 = .ok (.goto 4, 3) := by decide +kernel
theorem dX7_fitOf_35 : decode cX7_fitOf 35 = .ok (.iconst 0, 1) := by decide +kernel
theorem dX7_fitOf_36 : decode cX7_fitOf 36 = .ok (.ior, 1) := by decide +kernel
theorem dX7_fitOf_37 : decode cX7_fitOf 37 = .ok (.istore_n 2, 1) := by decide +kernel
theorem dX7_fitOf_38 : decode cX7_fitOf 38 = .ok (.iinc 3 1, 3) := by decide +kernel
theorem dX7_fitOf_41 : decode cX7_fitOf 41 = .ok (.goto (-37), 3) := by decide +kernel
theorem dX7_fitOf_44 : decode cX7_fitOf 44 = .ok (.iload_n 2, 1) := by decide +kernel
theorem dX7_fitOf_45 : decode cX7_fitOf 45 = .ok (.ireturn, 1) := by decide +kernel
set_option maxRecDepth 20000 in
theorem ggX7_fit_X7_isMan : GoodIn wsX7_fit wsX7_isMan := goodIn_r _ [4, 5, 6, 3, 7] (by decide +kernel) (by decide +kernel)
set_option maxRecDepth 20000 in
theorem gX7_fit_X7_isMan : GoodIn wsX7_fit (va_wsS RX7 63 yX7_isMan wsX7_isMan) := goodIn_app (goodIn_of _ (by decide +kernel)) ggX7_fit_X7_isMan
set_option maxRecDepth 20000 in
theorem ggX7_fit_X7_fitOf : GoodIn wsX7_fit wsX7_fitOf := goodIn_r _ [11, 12, 13, 14, 15, 16, 17, 18, 19, 20, 21, 22, 23, 24, 25, 26, 27, 28, 29, 30, 31] (by decide +kernel) (by decide +kernel)
set_option maxRecDepth 20000 in
theorem gX7_fit_X7_fitOf : GoodIn wsX7_fit (wsV RX7 91 RX7 yX7_fitOf wsX7_fitOf) := goodIn_app (goodIn_of _ (by decide +kernel)) ggX7_fit_X7_fitOf
theorem dX7_fit_0 : decode cX7_fit 0 = .ok (.iload_n 1, 1) := by decide +kernel
theorem dX7_fit_1 : decode cX7_fit 1 = .ok (.invokestatic 63, 3) := by decide +kernel
theorem dX7_fit_4 : decode cX7_fit 4 = .ok (.ifCond .eq 11, 3) := by decide +kernel
theorem dX7_fit_7 : decode cX7_fit 7 = .ok (.aload_n 0, 1) := by decide +kernel
theorem dX7_fit_8 : decode cX7_fit 8 = .ok (.iload_n 1, 1) := by decide +kernel
theorem dX7_fit_9 : decode cX7_fit 9 = .ok (.invokevirtual 91, 3) := by decide +kernel
theorem dX7_fit_12 : decode cX7_fit 12 = .ok (.goto 4, 3) := by decide +kernel
theorem dX7_fit_15 : decode cX7_fit 15 = .ok (.iconst (-1), 1) := by decide +kernel
theorem dX7_fit_16 : decode cX7_fit 16 = .ok (.ireturn, 1) := by decide +kernel
set_option maxRecDepth 20000 in
theorem ggX7_whyNot_X7_has : GoodIn wsX7_whyNot wsX7_has := goodIn_r _ [8] (by decide +kernel) (by decide +kernel)
set_option maxRecDepth 20000 in
theorem gX7_whyNot_X7_has : GoodIn wsX7_whyNot (va_wsS RX7 94 yX7_has wsX7_has) := goodIn_app (goodIn_of _ (by decide +kernel)) ggX7_whyNot_X7_has
set_option maxRecDepth 20000 in
theorem ggX7_whyNot_X7_fitOf : GoodIn wsX7_whyNot wsX7_fitOf := goodIn_r _ [12, 13, 14, 15, 16, 17, 18, 19, 20, 21, 22, 23, 24, 25, 26, 27, 28, 29, 30, 31, 32] (by decide +kernel) (by decide +kernel)
set_option maxRecDepth 20000 in
theorem gX7_whyNot_X7_fitOf : GoodIn wsX7_whyNot (wsV RX7 91 RX7 yX7_fitOf wsX7_fitOf) := goodIn_app (goodIn_of _ (by decide +kernel)) ggX7_whyNot_X7_fitOf
theorem dX7_whyNot_0 : decode cX7_whyNot 0 = .ok (.aload_n 0, 1) := by decide +kernel
theorem dX7_whyNot_1 : decode cX7_whyNot 1 = .ok (.getfield 7, 3) := by decide +kernel
theorem dX7_whyNot_4 : decode cX7_whyNot 4 = .ok (.iconst 2, 1) := by decide +kernel
theorem dX7_whyNot_5 : decode cX7_whyNot 5 = .ok (.iload_n 1, 1) := by decide +kernel
theorem dX7_whyNot_6 : decode cX7_whyNot 6 = .ok (.imul, 1) := by decide +kernel
theorem dX7_whyNot_7 : decode cX7_whyNot 7 = .ok (.iaload, 1) := by decide +kernel
theorem dX7_whyNot_8 : decode cX7_whyNot 8 = .ok (.bipush 48, 2) := by decide +kernel
theorem dX7_whyNot_10 : decode cX7_whyNot 10 = .ok (.isub, 1) := by decide +kernel
theorem dX7_whyNot_11 : decode cX7_whyNot 11 = .ok (.istore_n 2, 1) := by decide +kernel
theorem dX7_whyNot_12 : decode cX7_whyNot 12 = .ok (.aload_n 0, 1) := by decide +kernel
theorem dX7_whyNot_13 : decode cX7_whyNot 13 = .ok (.getfield 7, 3) := by decide +kernel
theorem dX7_whyNot_16 : decode cX7_whyNot 16 = .ok (.iconst 2, 1) := by decide +kernel
theorem dX7_whyNot_17 : decode cX7_whyNot 17 = .ok (.iload_n 1, 1) := by decide +kernel
theorem dX7_whyNot_18 : decode cX7_whyNot 18 = .ok (.imul, 1) := by decide +kernel
theorem dX7_whyNot_19 : decode cX7_whyNot 19 = .ok (.iconst 1, 1) := by decide +kernel
theorem dX7_whyNot_20 : decode cX7_whyNot 20 = .ok (.iadd, 1) := by decide +kernel
theorem dX7_whyNot_21 : decode cX7_whyNot 21 = .ok (.iaload, 1) := by decide +kernel
theorem dX7_whyNot_22 : decode cX7_whyNot 22 = .ok (.bipush 97, 2) := by decide +kernel
theorem dX7_whyNot_24 : decode cX7_whyNot 24 = .ok (.isub, 1) := by decide +kernel
theorem dX7_whyNot_25 : decode cX7_whyNot 25 = .ok (.istore_n 3, 1) := by decide +kernel
theorem dX7_whyNot_26 : decode cX7_whyNot 26 = .ok (.iload_n 1, 1) := by decide +kernel
theorem dX7_whyNot_27 : decode cX7_whyNot 27 = .ok (.ifCond .le 30, 3) := by decide +kernel
theorem dX7_whyNot_30 : decode cX7_whyNot 30 = .ok (.aload_n 0, 1) := by decide +kernel
theorem dX7_whyNot_31 : decode cX7_whyNot 31 = .ok (.getfield 13, 3) := by decide +kernel
theorem dX7_whyNot_34 : decode cX7_whyNot 34 = .ok (.aload_n 0, 1) := by decide +kernel
theorem dX7_whyNot_35 : decode cX7_whyNot 35 = .ok (.getfield 7, 3) := by decide +kernel
theorem dX7_whyNot_38 : decode cX7_whyNot 38 = .ok (.iconst 2, 1) := by decide +kernel
theorem dX7_whyNot_39 : decode cX7_whyNot 39 = .ok (.iload_n 1, 1) := by decide +kernel
theorem dX7_whyNot_40 : decode cX7_whyNot 40 = .ok (.imul, 1) := by decide +kernel
theorem dX7_whyNot_41 : decode cX7_whyNot 41 = .ok (.iconst 1, 1) := by decide +kernel
theorem dX7_whyNot_42 : decode cX7_whyNot 42 = .ok (.isub, 1) := by decide +kernel
theorem dX7_whyNot_43 : decode cX7_whyNot 43 = .ok (.iaload, 1) := by decide +kernel
theorem dX7_whyNot_44 : decode cX7_whyNot 44 = .ok (.bipush 97, 2) := by decide +kernel
theorem dX7_whyNot_46 : decode cX7_whyNot 46 = .ok (.isub, 1) := by decide +kernel
theorem dX7_whyNot_47 : decode cX7_whyNot 47 = .ok (.iaload, 1) := by decide +kernel
theorem dX7_whyNot_48 : decode cX7_whyNot 48 = .ok (.iload_n 3, 1) := by decide +kernel
theorem dX7_whyNot_49 : decode cX7_whyNot 49 = .ok (.invokestatic 94, 3) := by decide +kernel
theorem dX7_whyNot_52 : decode cX7_whyNot 52 = .ok (.ifCond .ne 5, 3) := by decide +kernel
theorem dX7_whyNot_55 : decode cX7_whyNot 55 = .ok (.iconst 1, 1) := by decide +kernel
theorem dX7_whyNot_56 : decode cX7_whyNot 56 = .ok (.ireturn, 1) := by decide +kernel
theorem dX7_whyNot_57 : decode cX7_whyNot 57 = .ok (.iconst 0, 1) := by decide +kernel
theorem dX7_whyNot_58 : decode cX7_whyNot 58 = .ok (.istore 4, 2) := by decide +kernel
theorem dX7_whyNot_60 : decode cX7_whyNot 60 = .ok (.iconst 0, 1) := by decide +kernel
theorem dX7_whyNot_61 : decode cX7_whyNot 61 = .ok (.istore 5, 2) := by decide +kernel
theorem dX7_whyNot_63 : decode cX7_whyNot 63 = .ok (.iload 5, 2) := by decide +kernel
theorem dX7_whyNot_65 : decode cX7_whyNot 65 = .ok (.iload_n 1, 1) := by decide +kernel
theorem dX7_whyNot_66 : decode cX7_whyNot 66 = .ok (.if_icmp .ge 39, 3) := by decide +kernel
theorem dX7_whyNot_69 : decode cX7_whyNot 69 = .ok (.iload 4, 2) := by decide +kernel
theorem dX7_whyNot_71 : decode cX7_whyNot 71 = .ok (.ifCond .ne 21, 3) := by decide +kernel
theorem dX7_whyNot_74 : decode cX7_whyNot 74 = .ok (.aload_n 0, 1) := by decide +kernel
theorem dX7_whyNot_75 : decode cX7_whyNot 75 = .ok (.getfield 7, 3) := by decide +kernel
theorem dX7_whyNot_78 : decode cX7_whyNot 78 = .ok (.iconst 2, 1) := by decide +kernel
theorem dX7_whyNot_79 : decode cX7_whyNot 79 = .ok (.iload 5, 2) := by decide +kernel
theorem dX7_whyNot_81 : decode cX7_whyNot 81 = .ok (.imul, 1) := by decide +kernel
theorem dX7_whyNot_82 : decode cX7_whyNot 82 = .ok (.iconst 1, 1) := by decide +kernel
theorem dX7_whyNot_83 : decode cX7_whyNot 83 = .ok (.iadd, 1) := by decide +kernel
theorem dX7_whyNot_84 : decode cX7_whyNot 84 = .ok (.iaload, 1) := by decide +kernel
theorem dX7_whyNot_85 : decode cX7_whyNot 85 = .ok (.bipush 97, 2) := by decide +kernel
theorem dX7_whyNot_87 : decode cX7_whyNot 87 = .ok (.isub, 1) := by decide +kernel
theorem dX7_whyNot_88 : decode cX7_whyNot 88 = .ok (.iload_n 3, 1) := by decide +kernel
theorem dX7_whyNot_89 : decode cX7_whyNot 89 = .ok (.if_icmp .ne 7, 3) := by decide +kernel
theorem dX7_whyNot_92 : decode cX7_whyNot 92 = .ok (.iconst 1, 1) := by decide +kernel
theorem dX7_whyNot_93 : decode cX7_whyNot 93 = .ok (.goto 4, 3) := by decide +kernel
theorem dX7_whyNot_96 : decode cX7_whyNot 96 = .ok (.iconst 0, 1) := by decide +kernel
theorem dX7_whyNot_97 : decode cX7_whyNot 97 = .ok (.istore 4, 2) := by decide +kernel
theorem dX7_whyNot_99 : decode cX7_whyNot 99 = .ok (.iinc 5 1, 3) := by decide +kernel
theorem dX7_whyNot_102 : decode cX7_whyNot 102 = .ok (.goto (-39), 3) := by decide +kernel
theorem dX7_whyNot_105 : decode cX7_whyNot 105 = .ok (.iload_n 1, 1) := by decide +kernel
theorem dX7_whyNot_106 : decode cX7_whyNot 106 = .ok (.ifCond .le 19, 3) := by decide +kernel
theorem dX7_whyNot_109 : decode cX7_whyNot 109 = .ok (.aload_n 0, 1) := by decide +kernel
theorem dX7_whyNot_110 : decode cX7_whyNot 110 = .ok (.getfield 7, 3) := by decide +kernel
theorem dX7_whyNot_113 : decode cX7_whyNot 113 = .ok (.iconst 2, 1) := by decide +kernel
theorem dX7_whyNot_114 : decode cX7_whyNot 114 = .ok (.iload_n 1, 1) := by decide +kernel
theorem dX7_whyNot_115 : decode cX7_whyNot 115 = .ok (.imul, 1) := by decide +kernel
theorem dX7_whyNot_116 : decode cX7_whyNot 116 = .ok (.iconst 2, 1) := by decide +kernel
theorem dX7_whyNot_117 : decode cX7_whyNot 117 = .ok (.isub, 1) := by decide +kernel
theorem dX7_whyNot_118 : decode cX7_whyNot 118 = .ok (.iaload, 1) := by decide +kernel
theorem dX7_whyNot_119 : decode cX7_whyNot 119 = .ok (.bipush 48, 2) := by decide +kernel
theorem dX7_whyNot_121 : decode cX7_whyNot 121 = .ok (.isub, 1) := by decide +kernel
theorem dX7_whyNot_122 : decode cX7_whyNot 122 = .ok (.goto 25, 3) := by decide +kernel
theorem dX7_whyNot_125 : decode cX7_whyNot 125 = .ok (.aload_n 0, 1) := by decide +kernel
theorem dX7_whyNot_126 : decode cX7_whyNot 126 = .ok (.getfield 67, 3) := by decide +kernel
theorem dX7_whyNot_129 : decode cX7_whyNot 129 = .ok (.iconst 2, 1) := by decide +kernel
theorem dX7_whyNot_130 : decode cX7_whyNot 130 = .ok (.if_icmp .le 15, 3) := by decide +kernel
theorem dX7_whyNot_133 : decode cX7_whyNot 133 = .ok (.aload_n 0, 1) := by decide +kernel
theorem dX7_whyNot_134 : decode cX7_whyNot 134 = .ok (.getfield 7, 3) := by decide +kernel
theorem dX7_whyNot_137 : decode cX7_whyNot 137 = .ok (.iconst 2, 1) := by decide +kernel
theorem dX7_whyNot_138 : decode cX7_whyNot 138 = .ok (.iaload, 1) := by decide +kernel
theorem dX7_whyNot_139 : decode cX7_whyNot 139 = .ok (.bipush 48, 2) := by decide +kernel
theorem dX7_whyNot_141 : decode cX7_whyNot 141 = .ok (.isub, 1) := by decide +kernel
theorem dX7_whyNot_142 : decode cX7_whyNot 142 = .ok (.goto 5, 3) := by decide +kernel
theorem dX7_whyNot_145 : decode cX7_whyNot 145 = .ok (.bipush (-6), 2) := by decide +kernel
theorem dX7_whyNot_147 : decode cX7_whyNot 147 = .ok (.istore 5, 2) := by decide +kernel
theorem dX7_whyNot_149 : decode cX7_whyNot 149 = .ok (.iload 4, 2) := by decide +kernel
theorem dX7_whyNot_151 : decode cX7_whyNot 151 = .ok (.ifCond .eq 7, 3) := by decide +kernel
theorem dX7_whyNot_154 : decode cX7_whyNot 154 = .ok (.iconst 2, 1) := by decide +kernel
theorem dX7_whyNot_155 : decode cX7_whyNot 155 = .ok (.goto 43, 3) := by decide +kernel
theorem dX7_whyNot_158 : decode cX7_whyNot 158 = .ok (.iload 5, 2) := by decide +kernel
theorem dX7_whyNot_160 : decode cX7_whyNot 160 = .ok (.ifCond .lt 20, 3) := by decide +kernel
theorem dX7_whyNot_163 : decode cX7_whyNot 163 = .ok (.aload_n 0, 1) := by decide +kernel
theorem dX7_whyNot_164 : decode cX7_whyNot 164 = .ok (.iload 5, 2) := by decide +kernel
theorem dX7_whyNot_166 : decode cX7_whyNot 166 = .ok (.invokevirtual 91, 3) := by decide +kernel
theorem dX7_whyNot_169 : decode cX7_whyNot 169 = .ok (.iload_n 3, 1) := by decide +kernel
theorem dX7_whyNot_170 : decode cX7_whyNot 170 = .ok (.invokestatic 94, 3) := by decide +kernel
theorem dX7_whyNot_173 : decode cX7_whyNot 173 = .ok (.ifCond .ne 7, 3) := by decide +kernel
theorem dX7_whyNot_176 : decode cX7_whyNot 176 = .ok (.iconst 3, 1) := by decide +kernel
theorem dX7_whyNot_177 : decode cX7_whyNot 177 = .ok (.goto 21, 3) := by decide +kernel
theorem dX7_whyNot_180 : decode cX7_whyNot 180 = .ok (.aload_n 0, 1) := by decide +kernel
theorem dX7_whyNot_181 : decode cX7_whyNot 181 = .ok (.getfield 22, 3) := by decide +kernel
theorem dX7_whyNot_184 : decode cX7_whyNot 184 = .ok (.iload_n 2, 1) := by decide +kernel
theorem dX7_whyNot_185 : decode cX7_whyNot 185 = .ok (.iaload, 1) := by decide +kernel
theorem dX7_whyNot_186 : decode cX7_whyNot 186 = .ok (.iload_n 3, 1) := by decide +kernel
theorem dX7_whyNot_187 : decode cX7_whyNot 187 = .ok (.invokestatic 94, 3) := by decide +kernel
theorem dX7_whyNot_190 : decode cX7_whyNot 190 = .ok (.ifCond .eq 7, 3) := by decide +kernel
theorem dX7_whyNot_193 : decode cX7_whyNot 193 = .ok (.iconst 0, 1) := by decide +kernel
theorem dX7_whyNot_194 : decode cX7_whyNot 194 = .ok (.goto 4, 3) := by decide +kernel
theorem dX7_whyNot_197 : decode cX7_whyNot 197 = .ok (.iconst 4, 1) := by decide +kernel
theorem dX7_whyNot_198 : decode cX7_whyNot 198 = .ok (.ireturn, 1) := by decide +kernel
set_option maxRecDepth 20000 in
theorem ggX7_judge_X7_in : GoodIn wsX7_judge wsX7_in := goodIn_r _ [5] (by decide +kernel) (by decide +kernel)
set_option maxRecDepth 20000 in
theorem gX7_judge_X7_in : GoodIn wsX7_judge (va_wsS RX7 59 yX7_in wsX7_in) := goodIn_app (goodIn_of _ (by decide +kernel)) ggX7_judge_X7_in
set_option maxRecDepth 20000 in
theorem ggX7_judge_X7_quarrelFault : GoodIn wsX7_judge wsX7_quarrelFault := goodIn_r _ [9, 1, 10, 11, 12, 4, 13, 2, 3, 5, 29, 30, 31, 32, 33, 34, 35, 36, 37, 38, 39, 40, 41, 42, 43, 44, 45, 46] (by decide +kernel) (by decide +kernel)
set_option maxRecDepth 20000 in
theorem gX7_judge_X7_quarrelFault : GoodIn wsX7_judge (wsV RX7 78 RX7 yX7_quarrelFault wsX7_quarrelFault) := goodIn_app (goodIn_of _ (by decide +kernel)) ggX7_judge_X7_quarrelFault
set_option maxRecDepth 20000 in
theorem ggX7_judge_X7_whyNot : GoodIn wsX7_judge wsX7_whyNot := goodIn_r _ [17, 10, 18, 1, 19, 20, 21, 4, 22, 23, 24, 25, 26, 27, 28, 29, 30, 31, 32, 33, 34, 35, 36, 37, 38, 39, 40, 41, 42, 43, 44, 45, 46] (by decide +kernel) (by decide +kernel)
set_option maxRecDepth 20000 in
theorem gX7_judge_X7_whyNot : GoodIn wsX7_judge (wsV RX7 98 RX7 yX7_whyNot wsX7_whyNot) := goodIn_app (goodIn_of _ (by decide +kernel)) ggX7_judge_X7_whyNot
theorem dX7_judge_0 : decode cX7_judge 0 = .ok (.iload_n 1, 1) := by decide +kernel
theorem dX7_judge_1 : decode cX7_judge 1 = .ok (.iconst 0, 1) := by decide +kernel
theorem dX7_judge_2 : decode cX7_judge 2 = .ok (.iconst 1, 1) := by decide +kernel
theorem dX7_judge_3 : decode cX7_judge 3 = .ok (.invokestatic 59, 3) := by decide +kernel
theorem dX7_judge_6 : decode cX7_judge 6 = .ok (.ifCond .ne 6, 3) := by decide +kernel
theorem dX7_judge_9 : decode cX7_judge 9 = .ok (.bipush (-2), 2) := by decide +kernel
theorem dX7_judge_11 : decode cX7_judge 11 = .ok (.ireturn, 1) := by decide +kernel
theorem dX7_judge_12 : decode cX7_judge 12 = .ok (.aload_n 0, 1) := by decide +kernel
theorem dX7_judge_13 : decode cX7_judge 13 = .ok (.invokevirtual 78, 3) := by decide +kernel
theorem dX7_judge_16 : decode cX7_judge 16 = .ok (.ifCond .lt 6, 3) := by decide +kernel
theorem dX7_judge_19 : decode cX7_judge 19 = .ok (.bipush (-5), 2) := by decide +kernel
theorem dX7_judge_21 : decode cX7_judge 21 = .ok (.ireturn, 1) := by decide +kernel
theorem dX7_judge_22 : decode cX7_judge 22 = .ok (.iconst 0, 1) := by decide +kernel
theorem dX7_judge_23 : decode cX7_judge 23 = .ok (.istore_n 2, 1) := by decide +kernel
theorem dX7_judge_24 : decode cX7_judge 24 = .ok (.iconst 2, 1) := by decide +kernel
theorem dX7_judge_25 : decode cX7_judge 25 = .ok (.iload_n 2, 1) := by decide +kernel
theorem dX7_judge_26 : decode cX7_judge 26 = .ok (.imul, 1) := by decide +kernel
theorem dX7_judge_27 : decode cX7_judge 27 = .ok (.aload_n 0, 1) := by decide +kernel
theorem dX7_judge_28 : decode cX7_judge 28 = .ok (.getfield 67, 3) := by decide +kernel
theorem dX7_judge_31 : decode cX7_judge 31 = .ok (.if_icmp .ge 29, 3) := by decide +kernel
theorem dX7_judge_34 : decode cX7_judge 34 = .ok (.aload_n 0, 1) := by decide +kernel
theorem dX7_judge_35 : decode cX7_judge 35 = .ok (.iload_n 2, 1) := by decide +kernel
theorem dX7_judge_36 : decode cX7_judge 36 = .ok (.invokevirtual 98, 3) := by decide +kernel
theorem dX7_judge_39 : decode cX7_judge 39 = .ok (.istore_n 3, 1) := by decide +kernel
theorem dX7_judge_40 : decode cX7_judge 40 = .ok (.iload_n 3, 1) := by decide +kernel
theorem dX7_judge_41 : decode cX7_judge 41 = .ok (.ifCond .le 13, 3) := by decide +kernel
theorem dX7_judge_44 : decode cX7_judge 44 = .ok (.iload_n 1, 1) := by decide +kernel
theorem dX7_judge_45 : decode cX7_judge 45 = .ok (.ifCond .ne 7, 3) := by decide +kernel
theorem dX7_judge_48 : decode cX7_judge 48 = .ok (.iload_n 2, 1) := by decide +kernel
theorem dX7_judge_49 : decode cX7_judge 49 = .ok (.goto 4, 3) := by decide +kernel
theorem dX7_judge_52 : decode cX7_judge 52 = .ok (.iload_n 3, 1) := by decide +kernel
theorem dX7_judge_53 : decode cX7_judge 53 = .ok (.ireturn, 1) := by decide +kernel
theorem dX7_judge_54 : decode cX7_judge 54 = .ok (.iinc 2 1, 3) := by decide +kernel
theorem dX7_judge_57 : decode cX7_judge 57 = .ok (.goto (-33), 3) := by decide +kernel
theorem dX7_judge_60 : decode cX7_judge 60 = .ok (.bipush (-6), 2) := by decide +kernel
theorem dX7_judge_62 : decode cX7_judge 62 = .ok (.ireturn, 1) := by decide +kernel
theorem dX7_at_0 : decode cX7_at 0 = .ok (.bipush 10, 2) := by decide +kernel
theorem dX7_at_2 : decode cX7_at 2 = .ok (.iload_n 0, 1) := by decide +kernel
theorem dX7_at_3 : decode cX7_at 3 = .ok (.imul, 1) := by decide +kernel
theorem dX7_at_4 : decode cX7_at 4 = .ok (.iload_n 1, 1) := by decide +kernel
theorem dX7_at_5 : decode cX7_at 5 = .ok (.iadd, 1) := by decide +kernel
theorem dX7_at_6 : decode cX7_at 6 = .ok (.sipush 1024, 3) := by decide +kernel
theorem dX7_at_9 : decode cX7_at 9 = .ok (.imul, 1) := by decide +kernel
theorem dX7_at_10 : decode cX7_at 10 = .ok (.iload_n 2, 1) := by decide +kernel
theorem dX7_at_11 : decode cX7_at 11 = .ok (.iadd, 1) := by decide +kernel
theorem dX7_at_12 : decode cX7_at 12 = .ok (.ireturn, 1) := by decide +kernel
theorem dX7_isBetter_0 : decode cX7_isBetter 0 = .ok (.iload_n 1, 1) := by decide +kernel
theorem dX7_isBetter_1 : decode cX7_isBetter 1 = .ok (.iconst 2, 1) := by decide +kernel
theorem dX7_isBetter_2 : decode cX7_isBetter 2 = .ok (.irem, 1) := by decide +kernel
theorem dX7_isBetter_3 : decode cX7_isBetter 3 = .ok (.iload_n 0, 1) := by decide +kernel
theorem dX7_isBetter_4 : decode cX7_isBetter 4 = .ok (.if_icmp .ne 7, 3) := by decide +kernel
theorem dX7_isBetter_7 : decode cX7_isBetter 7 = .ok (.iconst 1, 1) := by decide +kernel
theorem dX7_isBetter_8 : decode cX7_isBetter 8 = .ok (.goto 4, 3) := by decide +kernel
theorem dX7_isBetter_11 : decode cX7_isBetter 11 = .ok (.iconst 0, 1) := by decide +kernel
theorem dX7_isBetter_12 : decode cX7_isBetter 12 = .ok (.istore_n 3, 1) := by decide +kernel
theorem dX7_isBetter_13 : decode cX7_isBetter 13 = .ok (.iload_n 2, 1) := by decide +kernel
theorem dX7_isBetter_14 : decode cX7_isBetter 14 = .ok (.iconst 2, 1) := by decide +kernel
theorem dX7_isBetter_15 : decode cX7_isBetter 15 = .ok (.irem, 1) := by decide +kernel
theorem dX7_isBetter_16 : decode cX7_isBetter 16 = .ok (.iload_n 0, 1) := by decide +kernel
theorem dX7_isBetter_17 : decode cX7_isBetter 17 = .ok (.if_icmp .ne 7, 3) := by decide +kernel
theorem dX7_isBetter_20 : decode cX7_isBetter 20 = .ok (.iconst 1, 1) := by decide +kernel
theorem dX7_isBetter_21 : decode cX7_isBetter 21 = .ok (.goto 4, 3) := by decide +kernel
theorem dX7_isBetter_24 : decode cX7_isBetter 24 = .ok (.iconst 0, 1) := by decide +kernel
theorem dX7_isBetter_25 : decode cX7_isBetter 25 = .ok (.istore 4, 2) := by decide +kernel
theorem dX7_isBetter_27 : decode cX7_isBetter 27 = .ok (.iload_n 3, 1) := by decide +kernel
theorem dX7_isBetter_28 : decode cX7_isBetter 28 = .ok (.iload 4, 2) := by decide +kernel
theorem dX7_isBetter_30 : decode cX7_isBetter 30 = .ok (.if_icmp .eq 8, 3) := by decide +kernel
theorem dX7_isBetter_33 : decode cX7_isBetter 33 = .ok (.iload 4, 2) := by decide +kernel
theorem dX7_isBetter_35 : decode cX7_isBetter 35 = .ok (.goto 30, 3) := by decide +kernel
theorem dX7_isBetter_38 : decode cX7_isBetter 38 = .ok (.iload_n 3, 1) := by decide +kernel
theorem dX7_isBetter_39 : decode cX7_isBetter 39 = .ok (.ifCond .eq 16, 3) := by decide +kernel
theorem dX7_isBetter_42 : decode cX7_isBetter 42 = .ok (.iload_n 1, 1) := by decide +kernel
theorem dX7_isBetter_43 : decode cX7_isBetter 43 = .ok (.iload_n 2, 1) := by decide +kernel
theorem dX7_isBetter_44 : decode cX7_isBetter 44 = .ok (.if_icmp .le 7, 3) := by decide +kernel
theorem dX7_isBetter_47 : decode cX7_isBetter 47 = .ok (.iconst 1, 1) := by decide +kernel
theorem dX7_isBetter_48 : decode cX7_isBetter 48 = .ok (.goto 17, 3) := by decide +kernel
theorem dX7_isBetter_51 : decode cX7_isBetter 51 = .ok (.iconst 0, 1) := by decide +kernel
theorem dX7_isBetter_52 : decode cX7_isBetter 52 = .ok (.goto 13, 3) := by decide +kernel
theorem dX7_isBetter_55 : decode cX7_isBetter 55 = .ok (.iload_n 1, 1) := by decide +kernel
theorem dX7_isBetter_56 : decode cX7_isBetter 56 = .ok (.iload_n 2, 1) := by decide +kernel
theorem dX7_isBetter_57 : decode cX7_isBetter 57 = .ok (.if_icmp .ge 7, 3) := by decide +kernel
theorem dX7_isBetter_60 : decode cX7_isBetter 60 = .ok (.iconst 1, 1) := by decide +kernel
theorem dX7_isBetter_61 : decode cX7_isBetter 61 = .ok (.goto 4, 3) := by decide +kernel
theorem dX7_isBetter_64 : decode cX7_isBetter 64 = .ok (.iconst 0, 1) := by decide +kernel
theorem dX7_isBetter_65 : decode cX7_isBetter 65 = .ok (.ireturn, 1) := by decide +kernel
set_option maxRecDepth 20000 in
theorem ggX7_bestOf_X7_has : GoodIn wsX7_bestOf wsX7_has := goodIn_r _ [6] (by decide +kernel) (by decide +kernel)
set_option maxRecDepth 20000 in
theorem gX7_bestOf_X7_has : GoodIn wsX7_bestOf (va_wsS RX7 94 yX7_has wsX7_has) := goodIn_app (goodIn_of _ (by decide +kernel)) ggX7_bestOf_X7_has
set_option maxRecDepth 20000 in
theorem ggX7_bestOf_X7_at : GoodIn wsX7_bestOf wsX7_at := goodIn_r _ [9] (by decide +kernel) (by decide +kernel)
set_option maxRecDepth 20000 in
theorem gX7_bestOf_X7_at : GoodIn wsX7_bestOf (va_wsS RX7 104 yX7_at wsX7_at) := goodIn_app (goodIn_of _ (by decide +kernel)) ggX7_bestOf_X7_at
set_option maxRecDepth 20000 in
theorem ggX7_bestOf_X7_isBetter : GoodIn wsX7_bestOf wsX7_isBetter := goodIn_r _ [12] (by decide +kernel) (by decide +kernel)
set_option maxRecDepth 20000 in
theorem gX7_bestOf_X7_isBetter : GoodIn wsX7_bestOf (va_wsS RX7 108 yX7_isBetter wsX7_isBetter) := goodIn_app (goodIn_of _ (by decide +kernel)) ggX7_bestOf_X7_isBetter
theorem dX7_bestOf_0 : decode cX7_bestOf 0 = .ok (.bipush (-6), 2) := by decide +kernel
theorem dX7_bestOf_2 : decode cX7_bestOf 2 = .ok (.istore 4, 2) := by decide +kernel
theorem dX7_bestOf_4 : decode cX7_bestOf 4 = .ok (.aload_n 0, 1) := by decide +kernel
theorem dX7_bestOf_5 : decode cX7_bestOf 5 = .ok (.bipush (-6), 2) := by decide +kernel
theorem dX7_bestOf_7 : decode cX7_bestOf 7 = .ok (.putfield 101, 3) := by decide +kernel
theorem dX7_bestOf_10 : decode cX7_bestOf 10 = .ok (.iconst 0, 1) := by decide +kernel
theorem dX7_bestOf_11 : decode cX7_bestOf 11 = .ok (.istore 5, 2) := by decide +kernel
theorem dX7_bestOf_13 : decode cX7_bestOf 13 = .ok (.iload 5, 2) := by decide +kernel
theorem dX7_bestOf_15 : decode cX7_bestOf 15 = .ok (.bipush 10, 2) := by decide +kernel
theorem dX7_bestOf_17 : decode cX7_bestOf 17 = .ok (.if_icmp .ge 67, 3) := by decide +kernel
theorem dX7_bestOf_20 : decode cX7_bestOf 20 = .ok (.iload_n 2, 1) := by decide +kernel
theorem dX7_bestOf_21 : decode cX7_bestOf 21 = .ok (.iload 5, 2) := by decide +kernel
theorem dX7_bestOf_23 : decode cX7_bestOf 23 = .ok (.invokestatic 94, 3) := by decide +kernel
theorem dX7_bestOf_26 : decode cX7_bestOf 26 = .ok (.ifCond .eq 52, 3) := by decide +kernel
theorem dX7_bestOf_29 : decode cX7_bestOf 29 = .ok (.aload_n 0, 1) := by decide +kernel
theorem dX7_bestOf_30 : decode cX7_bestOf 30 = .ok (.getfield 25, 3) := by decide +kernel
theorem dX7_bestOf_33 : decode cX7_bestOf 33 = .ok (.iconst 1, 1) := by decide +kernel
theorem dX7_bestOf_34 : decode cX7_bestOf 34 = .ok (.iload_n 1, 1) := by decide +kernel
theorem dX7_bestOf_35 : decode cX7_bestOf 35 = .ok (.isub, 1) := by decide +kernel
theorem dX7_bestOf_36 : decode cX7_bestOf 36 = .ok (.iload 5, 2) := by decide +kernel
theorem dX7_bestOf_38 : decode cX7_bestOf 38 = .ok (.iload_n 3, 1) := by decide +kernel
theorem dX7_bestOf_39 : decode cX7_bestOf 39 = .ok (.iconst 1, 1) := by decide +kernel
theorem dX7_bestOf_40 : decode cX7_bestOf 40 = .ok (.iload 5, 2) := by decide +kernel
theorem dX7_bestOf_42 : decode cX7_bestOf 42 = .ok (.ishl, 1) := by decide +kernel
theorem dX7_bestOf_43 : decode cX7_bestOf 43 = .ok (.ior, 1) := by decide +kernel
theorem dX7_bestOf_44 : decode cX7_bestOf 44 = .ok (.invokestatic 104, 3) := by decide +kernel
theorem dX7_bestOf_47 : decode cX7_bestOf 47 = .ok (.iaload, 1) := by decide +kernel
theorem dX7_bestOf_48 : decode cX7_bestOf 48 = .ok (.iconst 2, 1) := by decide +kernel
theorem dX7_bestOf_49 : decode cX7_bestOf 49 = .ok (.iadd, 1) := by decide +kernel
theorem dX7_bestOf_50 : decode cX7_bestOf 50 = .ok (.istore 6, 2) := by decide +kernel
theorem dX7_bestOf_52 : decode cX7_bestOf 52 = .ok (.iload 4, 2) := by decide +kernel
theorem dX7_bestOf_54 : decode cX7_bestOf 54 = .ok (.ifCond .lt 14, 3) := by decide +kernel
theorem dX7_bestOf_57 : decode cX7_bestOf 57 = .ok (.iload_n 1, 1) := by decide +kernel
theorem dX7_bestOf_58 : decode cX7_bestOf 58 = .ok (.iload 6, 2) := by decide +kernel
theorem dX7_bestOf_60 : decode cX7_bestOf 60 = .ok (.iload 4, 2) := by decide +kernel
theorem dX7_bestOf_62 : decode cX7_bestOf 62 = .ok (.invokestatic 108, 3) := by decide +kernel
theorem dX7_bestOf_65 : decode cX7_bestOf 65 = .ok (.ifCond .eq 13, 3) := by decide +kernel
theorem dX7_bestOf_68 : decode cX7_bestOf 68 = .ok (.iload 6, 2) := by decide +kernel
theorem dX7_bestOf_70 : decode cX7_bestOf 70 = .ok (.istore 4, 2) := by decide +kernel
theorem dX7_bestOf_72 : decode cX7_bestOf 72 = .ok (.aload_n 0, 1) := by decide +kernel
theorem dX7_bestOf_73 : decode cX7_bestOf 73 = .ok (.iload 5, 2) := by decide +kernel
theorem dX7_bestOf_75 : decode cX7_bestOf 75 = .ok (.putfield 101, 3) := by decide +kernel
theorem dX7_bestOf_78 : decode cX7_bestOf 78 = .ok (.iinc 5 1, 3) := by decide +kernel
theorem dX7_bestOf_81 : decode cX7_bestOf 81 = .ok (.goto (-68), 3) := by decide +kernel
theorem dX7_bestOf_84 : decode cX7_bestOf 84 = .ok (.iload 4, 2) := by decide +kernel
theorem dX7_bestOf_86 : decode cX7_bestOf 86 = .ok (.ifCond .ge 7, 3) := by decide +kernel
theorem dX7_bestOf_89 : decode cX7_bestOf 89 = .ok (.iload_n 1, 1) := by decide +kernel
theorem dX7_bestOf_90 : decode cX7_bestOf 90 = .ok (.goto 5, 3) := by decide +kernel
theorem dX7_bestOf_93 : decode cX7_bestOf 93 = .ok (.iload 4, 2) := by decide +kernel
theorem dX7_bestOf_95 : decode cX7_bestOf 95 = .ok (.ireturn, 1) := by decide +kernel
set_option maxRecDepth 20000 in
theorem ggX7_layMatch_X7_fitOf : GoodIn wsX7_layMatch wsX7_fitOf := goodIn_r _ [9, 10, 11, 26, 27, 28, 29, 30, 31, 32, 33, 34, 35, 36, 37, 38, 39, 40, 41, 42, 43] (by decide +kernel) (by decide +kernel)
set_option maxRecDepth 20000 in
theorem gX7_layMatch_X7_fitOf : GoodIn wsX7_layMatch (wsV RX7 91 RX7 yX7_fitOf wsX7_fitOf) := goodIn_app (goodIn_of _ (by decide +kernel)) ggX7_layMatch_X7_fitOf
set_option maxRecDepth 20000 in
theorem ggX7_layMatch_X7_has : GoodIn wsX7_layMatch wsX7_has := goodIn_r _ [14] (by decide +kernel) (by decide +kernel)
set_option maxRecDepth 20000 in
theorem gX7_layMatch_X7_has : GoodIn wsX7_layMatch (va_wsS RX7 94 yX7_has wsX7_has) := goodIn_app (goodIn_of _ (by decide +kernel)) ggX7_layMatch_X7_has
set_option maxRecDepth 20000 in
theorem ggX7_layMatch_X7_at : GoodIn wsX7_layMatch wsX7_at := goodIn_r _ [17] (by decide +kernel) (by decide +kernel)
set_option maxRecDepth 20000 in
theorem gX7_layMatch_X7_at : GoodIn wsX7_layMatch (va_wsS RX7 104 yX7_at wsX7_at) := goodIn_app (goodIn_of _ (by decide +kernel)) ggX7_layMatch_X7_at
set_option maxRecDepth 20000 in
theorem ggX7_layMatch_X7_bestOf : GoodIn wsX7_layMatch wsX7_bestOf := goodIn_r _ [21, 22, 3, 12, 13, 8, 14, 15, 16, 17, 23, 24, 25, 26, 27, 28, 29, 30, 31, 32, 33, 34, 35, 36, 37, 38, 39, 40, 41, 42, 43] (by decide +kernel) (by decide +kernel)
set_option maxRecDepth 20000 in
theorem gX7_layMatch_X7_bestOf : GoodIn wsX7_layMatch (wsV RX7 111 RX7 yX7_bestOf wsX7_bestOf) := goodIn_app (goodIn_of _ (by decide +kernel)) ggX7_layMatch_X7_bestOf
theorem dX7_layMatch_0 : decode cX7_layMatch 0 = .ok (.aload_n 0, 1) := by decide +kernel
theorem dX7_layMatch_1 : decode cX7_layMatch 1 = .ok (.getfield 28, 3) := by decide +kernel
theorem dX7_layMatch_4 : decode cX7_layMatch 4 = .ok (.iconst 0, 1) := by decide +kernel
theorem dX7_layMatch_5 : decode cX7_layMatch 5 = .ok (.aload_n 0, 1) := by decide +kernel
theorem dX7_layMatch_6 : decode cX7_layMatch 6 = .ok (.getfield 22, 3) := by decide +kernel
theorem dX7_layMatch_9 : decode cX7_layMatch 9 = .ok (.iload_n 1, 1) := by decide +kernel
theorem dX7_layMatch_10 : decode cX7_layMatch 10 = .ok (.iaload, 1) := by decide +kernel
theorem dX7_layMatch_11 : decode cX7_layMatch 11 = .ok (.aload_n 0, 1) := by decide +kernel
theorem dX7_layMatch_12 : decode cX7_layMatch 12 = .ok (.iload_n 2, 1) := by decide +kernel
theorem dX7_layMatch_13 : decode cX7_layMatch 13 = .ok (.invokevirtual 91, 3) := by decide +kernel
theorem dX7_layMatch_16 : decode cX7_layMatch 16 = .ok (.iand, 1) := by decide +kernel
theorem dX7_layMatch_17 : decode cX7_layMatch 17 = .ok (.iastore, 1) := by decide +kernel
theorem dX7_layMatch_18 : decode cX7_layMatch 18 = .ok (.aload_n 0, 1) := by decide +kernel
theorem dX7_layMatch_19 : decode cX7_layMatch 19 = .ok (.getfield 28, 3) := by decide +kernel
theorem dX7_layMatch_22 : decode cX7_layMatch 22 = .ok (.iconst 1, 1) := by decide +kernel
theorem dX7_layMatch_23 : decode cX7_layMatch 23 = .ok (.aload_n 0, 1) := by decide +kernel
theorem dX7_layMatch_24 : decode cX7_layMatch 24 = .ok (.getfield 22, 3) := by decide +kernel
theorem dX7_layMatch_27 : decode cX7_layMatch 27 = .ok (.iload_n 2, 1) := by decide +kernel
theorem dX7_layMatch_28 : decode cX7_layMatch 28 = .ok (.iaload, 1) := by decide +kernel
theorem dX7_layMatch_29 : decode cX7_layMatch 29 = .ok (.aload_n 0, 1) := by decide +kernel
theorem dX7_layMatch_30 : decode cX7_layMatch 30 = .ok (.iload_n 1, 1) := by decide +kernel
theorem dX7_layMatch_31 : decode cX7_layMatch 31 = .ok (.invokevirtual 91, 3) := by decide +kernel
theorem dX7_layMatch_34 : decode cX7_layMatch 34 = .ok (.iand, 1) := by decide +kernel
theorem dX7_layMatch_35 : decode cX7_layMatch 35 = .ok (.iastore, 1) := by decide +kernel
theorem dX7_layMatch_36 : decode cX7_layMatch 36 = .ok (.sipush 1023, 3) := by decide +kernel
theorem dX7_layMatch_39 : decode cX7_layMatch 39 = .ok (.istore_n 3, 1) := by decide +kernel
theorem dX7_layMatch_40 : decode cX7_layMatch 40 = .ok (.iload_n 3, 1) := by decide +kernel
theorem dX7_layMatch_41 : decode cX7_layMatch 41 = .ok (.ifCond .le 88, 3) := by decide +kernel
theorem dX7_layMatch_44 : decode cX7_layMatch 44 = .ok (.iconst 0, 1) := by decide +kernel
theorem dX7_layMatch_45 : decode cX7_layMatch 45 = .ok (.istore 4, 2) := by decide +kernel
theorem dX7_layMatch_47 : decode cX7_layMatch 47 = .ok (.iload 4, 2) := by decide +kernel
theorem dX7_layMatch_49 : decode cX7_layMatch 49 = .ok (.bipush 10, 2) := by decide +kernel
theorem dX7_layMatch_51 : decode cX7_layMatch 51 = .ok (.if_icmp .ge 72, 3) := by decide +kernel
theorem dX7_layMatch_54 : decode cX7_layMatch 54 = .ok (.iconst 0, 1) := by decide +kernel
theorem dX7_layMatch_55 : decode cX7_layMatch 55 = .ok (.istore 5, 2) := by decide +kernel
theorem dX7_layMatch_57 : decode cX7_layMatch 57 = .ok (.iload 5, 2) := by decide +kernel
theorem dX7_layMatch_59 : decode cX7_layMatch 59 = .ok (.iconst 2, 1) := by decide +kernel
theorem dX7_layMatch_60 : decode cX7_layMatch 60 = .ok (.if_icmp .ge 57, 3) := by decide +kernel
theorem dX7_layMatch_63 : decode cX7_layMatch 63 = .ok (.iload_n 3, 1) := by decide +kernel
theorem dX7_layMatch_64 : decode cX7_layMatch 64 = .ok (.iload 4, 2) := by decide +kernel
theorem dX7_layMatch_66 : decode cX7_layMatch 66 = .ok (.invokestatic 94, 3) := by decide +kernel
theorem dX7_layMatch_69 : decode cX7_layMatch 69 = .ok (.ifCond .eq 48, 3) := by decide +kernel
theorem dX7_layMatch_72 : decode cX7_layMatch 72 = .ok (.aload_n 0, 1) := by decide +kernel
theorem dX7_layMatch_73 : decode cX7_layMatch 73 = .ok (.getfield 25, 3) := by decide +kernel
theorem dX7_layMatch_76 : decode cX7_layMatch 76 = .ok (.iload 5, 2) := by decide +kernel
theorem dX7_layMatch_78 : decode cX7_layMatch 78 = .ok (.iload 4, 2) := by decide +kernel
theorem dX7_layMatch_80 : decode cX7_layMatch 80 = .ok (.iload_n 3, 1) := by decide +kernel
theorem dX7_layMatch_81 : decode cX7_layMatch 81 = .ok (.invokestatic 104, 3) := by decide +kernel
theorem dX7_layMatch_84 : decode cX7_layMatch 84 = .ok (.aload_n 0, 1) := by decide +kernel
theorem dX7_layMatch_85 : decode cX7_layMatch 85 = .ok (.iload 5, 2) := by decide +kernel
theorem dX7_layMatch_87 : decode cX7_layMatch 87 = .ok (.aload_n 0, 1) := by decide +kernel
theorem dX7_layMatch_88 : decode cX7_layMatch 88 = .ok (.getfield 13, 3) := by decide +kernel
theorem dX7_layMatch_91 : decode cX7_layMatch 91 = .ok (.iload 4, 2) := by decide +kernel
theorem dX7_layMatch_93 : decode cX7_layMatch 93 = .ok (.iaload, 1) := by decide +kernel
theorem dX7_layMatch_94 : decode cX7_layMatch 94 = .ok (.aload_n 0, 1) := by decide +kernel
theorem dX7_layMatch_95 : decode cX7_layMatch 95 = .ok (.getfield 28, 3) := by decide +kernel
theorem dX7_layMatch_98 : decode cX7_layMatch 98 = .ok (.iload 5, 2) := by decide +kernel
theorem dX7_layMatch_100 : decode cX7_layMatch 100 = .ok (.iaload, 1) := by decide +kernel
theorem dX7_layMatch_101 : decode cX7_layMatch 101 = .ok (.iand, 1) := by decide +kernel
theorem dX7_layMatch_102 : decode cX7_layMatch 102 = .ok (.iload_n 3, 1) := by decide +kernel
theorem dX7_layMatch_103 : decode cX7_layMatch 103 = .ok (.iconst (-1), 1) := by decide +kernel
theorem dX7_layMatch_104 : decode cX7_layMatch 104 = .ok (.ixor, 1) := by decide +kernel
theorem dX7_layMatch_105 : decode cX7_layMatch 105 = .ok (.iand, 1) := by decide +kernel
theorem dX7_layMatch_106 : decode cX7_layMatch 106 = .ok (.iload_n 3, 1) := by decide +kernel
theorem dX7_layMatch_107 : decode cX7_layMatch 107 = .ok (.invokevirtual 111, 3) := by decide +kernel
theorem dX7_layMatch_110 : decode cX7_layMatch 110 = .ok (.iastore, 1) := by decide +kernel
theorem dX7_layMatch_111 : decode cX7_layMatch 111 = .ok (.iinc 5 1, 3) := by decide +kernel
theorem dX7_layMatch_114 : decode cX7_layMatch 114 = .ok (.goto (-57), 3) := by decide +kernel
theorem dX7_layMatch_117 : decode cX7_layMatch 117 = .ok (.iinc 4 1, 3) := by decide +kernel
theorem dX7_layMatch_120 : decode cX7_layMatch 120 = .ok (.goto (-73), 3) := by decide +kernel
theorem dX7_layMatch_123 : decode cX7_layMatch 123 = .ok (.iinc 3 (-1), 3) := by decide +kernel
theorem dX7_layMatch_126 : decode cX7_layMatch 126 = .ok (.goto (-86), 3) := by decide +kernel
theorem dX7_layMatch_129 : decode cX7_layMatch 129 = .ok (.return_, 1) := by decide +kernel
theorem dX7_toldOf_0 : decode cX7_toldOf 0 = .ok (.iload_n 1, 1) := by decide +kernel
theorem dX7_toldOf_1 : decode cX7_toldOf 1 = .ok (.ifCond .ne 17, 3) := by decide +kernel
theorem dX7_toldOf_4 : decode cX7_toldOf 4 = .ok (.iload_n 0, 1) := by decide +kernel
theorem dX7_toldOf_5 : decode cX7_toldOf 5 = .ok (.iconst 2, 1) := by decide +kernel
theorem dX7_toldOf_6 : decode cX7_toldOf 6 = .ok (.irem, 1) := by decide +kernel
theorem dX7_toldOf_7 : decode cX7_toldOf 7 = .ok (.ifCond .ne 7, 3) := by decide +kernel
theorem dX7_toldOf_10 : decode cX7_toldOf 10 = .ok (.iload_n 2, 1) := by decide +kernel
theorem dX7_toldOf_11 : decode cX7_toldOf 11 = .ok (.goto 20, 3) := by decide +kernel
theorem dX7_toldOf_14 : decode cX7_toldOf 14 = .ok (.iload_n 3, 1) := by decide +kernel
theorem dX7_toldOf_15 : decode cX7_toldOf 15 = .ok (.goto 16, 3) := by decide +kernel
theorem dX7_toldOf_18 : decode cX7_toldOf 18 = .ok (.iload_n 1, 1) := by decide +kernel
theorem dX7_toldOf_19 : decode cX7_toldOf 19 = .ok (.iconst 1, 1) := by decide +kernel
theorem dX7_toldOf_20 : decode cX7_toldOf 20 = .ok (.if_icmp .ne 9, 3) := by decide +kernel
theorem dX7_toldOf_23 : decode cX7_toldOf 23 = .ok (.iload_n 0, 1) := by decide +kernel
theorem dX7_toldOf_24 : decode cX7_toldOf 24 = .ok (.iconst 2, 1) := by decide +kernel
theorem dX7_toldOf_25 : decode cX7_toldOf 25 = .ok (.idiv, 1) := by decide +kernel
theorem dX7_toldOf_26 : decode cX7_toldOf 26 = .ok (.goto 5, 3) := by decide +kernel
theorem dX7_toldOf_29 : decode cX7_toldOf 29 = .ok (.iload 4, 2) := by decide +kernel
theorem dX7_toldOf_31 : decode cX7_toldOf 31 = .ok (.ireturn, 1) := by decide +kernel
set_option maxRecDepth 20000 in
theorem ggX7_match_X7_areTwo : GoodIn wsX7_match wsX7_areTwo := goodIn_r _ [6, 7, 8, 5, 9, 10, 11, 12] (by decide +kernel) (by decide +kernel)
set_option maxRecDepth 20000 in
theorem gX7_match_X7_areTwo : GoodIn wsX7_match (va_wsS RX7 114 yX7_areTwo wsX7_areTwo) := goodIn_app (goodIn_of _ (by decide +kernel)) ggX7_match_X7_areTwo
set_option maxRecDepth 20000 in
theorem ggX7_match_X7_in : GoodIn wsX7_match wsX7_in := goodIn_r _ [12] (by decide +kernel) (by decide +kernel)
set_option maxRecDepth 20000 in
theorem gX7_match_X7_in : GoodIn wsX7_match (va_wsS RX7 59 yX7_in wsX7_in) := goodIn_app (goodIn_of _ (by decide +kernel)) ggX7_match_X7_in
set_option maxRecDepth 20000 in
theorem ggX7_match_X7_layMatch : GoodIn wsX7_match wsX7_layMatch := goodIn_r _ [16, 1, 17, 18, 19, 20, 21, 22, 5, 23, 24, 25, 26, 27, 28, 29, 30, 31, 32, 33, 34, 35, 2, 36, 37, 38, 42, 43, 44, 45, 46, 47, 48, 49, 50, 51, 52, 53, 54, 55, 56, 57, 58, 59] (by decide +kernel) (by decide +kernel)
set_option maxRecDepth 20000 in
theorem gX7_match_X7_layMatch : GoodIn wsX7_match (wsV RX7 117 RX7 yX7_layMatch wsX7_layMatch) := goodIn_app (goodIn_of _ (by decide +kernel)) ggX7_match_X7_layMatch
set_option maxRecDepth 20000 in
theorem ggX7_match_X7_bestOf : GoodIn wsX7_match wsX7_bestOf := goodIn_r _ [35, 2, 18, 26, 27, 5, 28, 29, 30, 31, 36, 37, 38, 42, 43, 44, 45, 46, 47, 48, 49, 50, 51, 52, 53, 54, 55, 56, 57, 58, 59] (by decide +kernel) (by decide +kernel)
set_option maxRecDepth 20000 in
theorem gX7_match_X7_bestOf : GoodIn wsX7_match (wsV RX7 111 RX7 yX7_bestOf wsX7_bestOf) := goodIn_app (goodIn_of _ (by decide +kernel)) ggX7_match_X7_bestOf
set_option maxRecDepth 20000 in
theorem ggX7_match_X7_toldOf : GoodIn wsX7_match wsX7_toldOf := goodIn_r _ [41] (by decide +kernel) (by decide +kernel)
set_option maxRecDepth 20000 in
theorem gX7_match_X7_toldOf : GoodIn wsX7_match (va_wsS RX7 121 yX7_toldOf wsX7_toldOf) := goodIn_app (goodIn_of _ (by decide +kernel)) ggX7_match_X7_toldOf
theorem dX7_match_0 : decode cX7_match 0 = .ok (.iload_n 1, 1) := by decide +kernel
theorem dX7_match_1 : decode cX7_match 1 = .ok (.iload_n 2, 1) := by decide +kernel
theorem dX7_match_2 : decode cX7_match 2 = .ok (.invokestatic 114, 3) := by decide +kernel
theorem dX7_match_5 : decode cX7_match 5 = .ok (.ifCond .ne 5, 3) := by decide +kernel
theorem dX7_match_8 : decode cX7_match 8 = .ok (.iconst (-1), 1) := by decide +kernel
theorem dX7_match_9 : decode cX7_match 9 = .ok (.ireturn, 1) := by decide +kernel
theorem dX7_match_10 : decode cX7_match 10 = .ok (.iload_n 3, 1) := by decide +kernel
theorem dX7_match_11 : decode cX7_match 11 = .ok (.iconst 0, 1) := by decide +kernel
theorem dX7_match_12 : decode cX7_match 12 = .ok (.iconst 2, 1) := by decide +kernel
theorem dX7_match_13 : decode cX7_match 13 = .ok (.invokestatic 59, 3) := by decide +kernel
theorem dX7_match_16 : decode cX7_match 16 = .ok (.ifCond .ne 6, 3) := by decide +kernel
theorem dX7_match_19 : decode cX7_match 19 = .ok (.bipush (-2), 2) := by decide +kernel
theorem dX7_match_21 : decode cX7_match 21 = .ok (.ireturn, 1) := by decide +kernel
theorem dX7_match_22 : decode cX7_match 22 = .ok (.aload_n 0, 1) := by decide +kernel
theorem dX7_match_23 : decode cX7_match 23 = .ok (.iload_n 1, 1) := by decide +kernel
theorem dX7_match_24 : decode cX7_match 24 = .ok (.iload_n 2, 1) := by decide +kernel
theorem dX7_match_25 : decode cX7_match 25 = .ok (.invokevirtual 117, 3) := by decide +kernel
theorem dX7_match_28 : decode cX7_match 28 = .ok (.aload_n 0, 1) := by decide +kernel
theorem dX7_match_29 : decode cX7_match 29 = .ok (.iconst 0, 1) := by decide +kernel
theorem dX7_match_30 : decode cX7_match 30 = .ok (.aload_n 0, 1) := by decide +kernel
theorem dX7_match_31 : decode cX7_match 31 = .ok (.getfield 28, 3) := by decide +kernel
theorem dX7_match_34 : decode cX7_match 34 = .ok (.iconst 0, 1) := by decide +kernel
theorem dX7_match_35 : decode cX7_match 35 = .ok (.iaload, 1) := by decide +kernel
theorem dX7_match_36 : decode cX7_match 36 = .ok (.iconst 0, 1) := by decide +kernel
theorem dX7_match_37 : decode cX7_match 37 = .ok (.invokevirtual 111, 3) := by decide +kernel
theorem dX7_match_40 : decode cX7_match 40 = .ok (.istore 4, 2) := by decide +kernel
theorem dX7_match_42 : decode cX7_match 42 = .ok (.iload 4, 2) := by decide +kernel
theorem dX7_match_44 : decode cX7_match 44 = .ok (.iload_n 3, 1) := by decide +kernel
theorem dX7_match_45 : decode cX7_match 45 = .ok (.iload_n 1, 1) := by decide +kernel
theorem dX7_match_46 : decode cX7_match 46 = .ok (.iload_n 2, 1) := by decide +kernel
theorem dX7_match_47 : decode cX7_match 47 = .ok (.aload_n 0, 1) := by decide +kernel
theorem dX7_match_48 : decode cX7_match 48 = .ok (.getfield 101, 3) := by decide +kernel
theorem dX7_match_51 : decode cX7_match 51 = .ok (.invokestatic 121, 3) := by decide +kernel
theorem dX7_match_54 : decode cX7_match 54 = .ok (.ireturn, 1) := by decide +kernel
set_option maxRecDepth 20000 in
theorem ggX7_middle_X7_areTwo : GoodIn wsX7_middle wsX7_areTwo := goodIn_r _ [7, 8, 9, 6, 10, 11, 12, 13] (by decide +kernel) (by decide +kernel)
set_option maxRecDepth 20000 in
theorem gX7_middle_X7_areTwo : GoodIn wsX7_middle (va_wsS RX7 114 yX7_areTwo wsX7_areTwo) := goodIn_app (goodIn_of _ (by decide +kernel)) ggX7_middle_X7_areTwo
set_option maxRecDepth 20000 in
theorem ggX7_middle_X7_isInsult : GoodIn wsX7_middle wsX7_isInsult := goodIn_r _ [16, 11, 12, 6, 13] (by decide +kernel) (by decide +kernel)
set_option maxRecDepth 20000 in
theorem gX7_middle_X7_isInsult : GoodIn wsX7_middle (va_wsS RX7 88 yX7_isInsult wsX7_isInsult) := goodIn_app (goodIn_of _ (by decide +kernel)) ggX7_middle_X7_isInsult
set_option maxRecDepth 20000 in
theorem ggX7_middle_X7_in : GoodIn wsX7_middle wsX7_in := goodIn_r _ [13] (by decide +kernel) (by decide +kernel)
set_option maxRecDepth 20000 in
theorem gX7_middle_X7_in : GoodIn wsX7_middle (va_wsS RX7 59 yX7_in wsX7_in) := goodIn_app (goodIn_of _ (by decide +kernel)) ggX7_middle_X7_in
set_option maxRecDepth 20000 in
theorem ggX7_middle_X7_has : GoodIn wsX7_middle wsX7_has := goodIn_r _ [19] (by decide +kernel) (by decide +kernel)
set_option maxRecDepth 20000 in
theorem gX7_middle_X7_has : GoodIn wsX7_middle (va_wsS RX7 94 yX7_has wsX7_has) := goodIn_app (goodIn_of _ (by decide +kernel)) ggX7_middle_X7_has
set_option maxRecDepth 20000 in
theorem ggX7_middle_X7_layMatch : GoodIn wsX7_middle wsX7_layMatch := goodIn_r _ [23, 2, 24, 25, 1, 26, 27, 28, 6, 29, 30, 31, 17, 18, 19, 32, 33, 34, 35, 36, 37, 38, 3, 39, 40, 41, 45, 46, 47, 48, 49, 50, 51, 52, 53, 54, 55, 56, 57, 58, 59, 60, 61, 62] (by decide +kernel) (by decide +kernel)
set_option maxRecDepth 20000 in
theorem gX7_middle_X7_layMatch : GoodIn wsX7_middle (wsV RX7 117 RX7 yX7_layMatch wsX7_layMatch) := goodIn_app (goodIn_of _ (by decide +kernel)) ggX7_middle_X7_layMatch
set_option maxRecDepth 20000 in
theorem ggX7_middle_X7_bestOf : GoodIn wsX7_middle wsX7_bestOf := goodIn_r _ [38, 3, 25, 17, 18, 6, 19, 32, 33, 34, 39, 40, 41, 45, 46, 47, 48, 49, 50, 51, 52, 53, 54, 55, 56, 57, 58, 59, 60, 61, 62] (by decide +kernel) (by decide +kernel)
set_option maxRecDepth 20000 in
theorem gX7_middle_X7_bestOf : GoodIn wsX7_middle (wsV RX7 111 RX7 yX7_bestOf wsX7_bestOf) := goodIn_app (goodIn_of _ (by decide +kernel)) ggX7_middle_X7_bestOf
set_option maxRecDepth 20000 in
theorem ggX7_middle_X7_toldOf : GoodIn wsX7_middle wsX7_toldOf := goodIn_r _ [44] (by decide +kernel) (by decide +kernel)
set_option maxRecDepth 20000 in
theorem gX7_middle_X7_toldOf : GoodIn wsX7_middle (va_wsS RX7 121 yX7_toldOf wsX7_toldOf) := goodIn_app (goodIn_of _ (by decide +kernel)) ggX7_middle_X7_toldOf
theorem dX7_middle_0 : decode cX7_middle 0 = .ok (.iload_n 1, 1) := by decide +kernel
theorem dX7_middle_1 : decode cX7_middle 1 = .ok (.iload_n 2, 1) := by decide +kernel
theorem dX7_middle_2 : decode cX7_middle 2 = .ok (.invokestatic 114, 3) := by decide +kernel
theorem dX7_middle_5 : decode cX7_middle 5 = .ok (.ifCond .eq 10, 3) := by decide +kernel
theorem dX7_middle_8 : decode cX7_middle 8 = .ok (.iload_n 3, 1) := by decide +kernel
theorem dX7_middle_9 : decode cX7_middle 9 = .ok (.invokestatic 88, 3) := by decide +kernel
theorem dX7_middle_12 : decode cX7_middle 12 = .ok (.ifCond .ne 5, 3) := by decide +kernel
theorem dX7_middle_15 : decode cX7_middle 15 = .ok (.iconst (-1), 1) := by decide +kernel
theorem dX7_middle_16 : decode cX7_middle 16 = .ok (.ireturn, 1) := by decide +kernel
theorem dX7_middle_17 : decode cX7_middle 17 = .ok (.iload 4, 2) := by decide +kernel
theorem dX7_middle_19 : decode cX7_middle 19 = .ok (.iconst 0, 1) := by decide +kernel
theorem dX7_middle_20 : decode cX7_middle 20 = .ok (.sipush 1023, 3) := by decide +kernel
theorem dX7_middle_23 : decode cX7_middle 23 = .ok (.invokestatic 59, 3) := by decide +kernel
theorem dX7_middle_26 : decode cX7_middle 26 = .ok (.ifCond .eq 22, 3) := by decide +kernel
theorem dX7_middle_29 : decode cX7_middle 29 = .ok (.iload 4, 2) := by decide +kernel
theorem dX7_middle_31 : decode cX7_middle 31 = .ok (.iload_n 3, 1) := by decide +kernel
theorem dX7_middle_32 : decode cX7_middle 32 = .ok (.invokestatic 94, 3) := by decide +kernel
theorem dX7_middle_35 : decode cX7_middle 35 = .ok (.ifCond .eq 13, 3) := by decide +kernel
theorem dX7_middle_38 : decode cX7_middle 38 = .ok (.iload 5, 2) := by decide +kernel
theorem dX7_middle_40 : decode cX7_middle 40 = .ok (.iconst 0, 1) := by decide +kernel
theorem dX7_middle_41 : decode cX7_middle 41 = .ok (.iconst 2, 1) := by decide +kernel
theorem dX7_middle_42 : decode cX7_middle 42 = .ok (.invokestatic 59, 3) := by decide +kernel
theorem dX7_middle_45 : decode cX7_middle 45 = .ok (.ifCond .ne 6, 3) := by decide +kernel
theorem dX7_middle_48 : decode cX7_middle 48 = .ok (.bipush (-2), 2) := by decide +kernel
theorem dX7_middle_50 : decode cX7_middle 50 = .ok (.ireturn, 1) := by decide +kernel
theorem dX7_middle_51 : decode cX7_middle 51 = .ok (.aload_n 0, 1) := by decide +kernel
theorem dX7_middle_52 : decode cX7_middle 52 = .ok (.iload_n 1, 1) := by decide +kernel
theorem dX7_middle_53 : decode cX7_middle 53 = .ok (.iload_n 2, 1) := by decide +kernel
theorem dX7_middle_54 : decode cX7_middle 54 = .ok (.invokevirtual 117, 3) := by decide +kernel
theorem dX7_middle_57 : decode cX7_middle 57 = .ok (.aload_n 0, 1) := by decide +kernel
theorem dX7_middle_58 : decode cX7_middle 58 = .ok (.iconst 0, 1) := by decide +kernel
theorem dX7_middle_59 : decode cX7_middle 59 = .ok (.aload_n 0, 1) := by decide +kernel
theorem dX7_middle_60 : decode cX7_middle 60 = .ok (.getfield 13, 3) := by decide +kernel
theorem dX7_middle_63 : decode cX7_middle 63 = .ok (.iload_n 3, 1) := by decide +kernel
theorem dX7_middle_64 : decode cX7_middle 64 = .ok (.iaload, 1) := by decide +kernel
theorem dX7_middle_65 : decode cX7_middle 65 = .ok (.aload_n 0, 1) := by decide +kernel
theorem dX7_middle_66 : decode cX7_middle 66 = .ok (.getfield 28, 3) := by decide +kernel
theorem dX7_middle_69 : decode cX7_middle 69 = .ok (.iconst 0, 1) := by decide +kernel
theorem dX7_middle_70 : decode cX7_middle 70 = .ok (.iaload, 1) := by decide +kernel
theorem dX7_middle_71 : decode cX7_middle 71 = .ok (.iand, 1) := by decide +kernel
theorem dX7_middle_72 : decode cX7_middle 72 = .ok (.iload 4, 2) := by decide +kernel
theorem dX7_middle_74 : decode cX7_middle 74 = .ok (.iconst (-1), 1) := by decide +kernel
theorem dX7_middle_75 : decode cX7_middle 75 = .ok (.ixor, 1) := by decide +kernel
theorem dX7_middle_76 : decode cX7_middle 76 = .ok (.iand, 1) := by decide +kernel
theorem dX7_middle_77 : decode cX7_middle 77 = .ok (.iload 4, 2) := by decide +kernel
theorem dX7_middle_79 : decode cX7_middle 79 = .ok (.invokevirtual 111, 3) := by decide +kernel
theorem dX7_middle_82 : decode cX7_middle 82 = .ok (.istore 6, 2) := by decide +kernel
theorem dX7_middle_84 : decode cX7_middle 84 = .ok (.iload 6, 2) := by decide +kernel
theorem dX7_middle_86 : decode cX7_middle 86 = .ok (.iload 5, 2) := by decide +kernel
theorem dX7_middle_88 : decode cX7_middle 88 = .ok (.iload_n 1, 1) := by decide +kernel
theorem dX7_middle_89 : decode cX7_middle 89 = .ok (.iload_n 2, 1) := by decide +kernel
theorem dX7_middle_90 : decode cX7_middle 90 = .ok (.aload_n 0, 1) := by decide +kernel
theorem dX7_middle_91 : decode cX7_middle 91 = .ok (.getfield 101, 3) := by decide +kernel
theorem dX7_middle_94 : decode cX7_middle 94 = .ok (.invokestatic 121, 3) := by decide +kernel
theorem dX7_middle_97 : decode cX7_middle 97 = .ok (.ireturn, 1) := by decide +kernel
set_option maxRecDepth 20000 in
theorem ggX7_last_X7_areTwo : GoodIn wsX7_last wsX7_areTwo := goodIn_r _ [8, 9, 10, 7, 11, 12, 13, 14] (by decide +kernel) (by decide +kernel)
set_option maxRecDepth 20000 in
theorem gX7_last_X7_areTwo : GoodIn wsX7_last (va_wsS RX7 114 yX7_areTwo wsX7_areTwo) := goodIn_app (goodIn_of _ (by decide +kernel)) ggX7_last_X7_areTwo
set_option maxRecDepth 20000 in
theorem ggX7_last_X7_in : GoodIn wsX7_last wsX7_in := goodIn_r _ [14] (by decide +kernel) (by decide +kernel)
set_option maxRecDepth 20000 in
theorem gX7_last_X7_in : GoodIn wsX7_last (va_wsS RX7 59 yX7_in wsX7_in) := goodIn_app (goodIn_of _ (by decide +kernel)) ggX7_last_X7_in
set_option maxRecDepth 20000 in
theorem ggX7_last_X7_fitOf : GoodIn wsX7_last wsX7_fitOf := goodIn_r _ [18, 19, 20, 27, 28, 29, 30, 31, 32, 33, 34, 35, 36, 37, 38, 39, 40, 41, 42, 43, 44] (by decide +kernel) (by decide +kernel)
set_option maxRecDepth 20000 in
theorem gX7_last_X7_fitOf : GoodIn wsX7_last (wsV RX7 91 RX7 yX7_fitOf wsX7_fitOf) := goodIn_app (goodIn_of _ (by decide +kernel)) ggX7_last_X7_fitOf
set_option maxRecDepth 20000 in
theorem ggX7_last_X7_has : GoodIn wsX7_last wsX7_has := goodIn_r _ [23] (by decide +kernel) (by decide +kernel)
set_option maxRecDepth 20000 in
theorem gX7_last_X7_has : GoodIn wsX7_last (va_wsS RX7 94 yX7_has wsX7_has) := goodIn_app (goodIn_of _ (by decide +kernel)) ggX7_last_X7_has
set_option maxRecDepth 20000 in
theorem ggX7_last_X7_at : GoodIn wsX7_last wsX7_at := goodIn_r _ [26] (by decide +kernel) (by decide +kernel)
set_option maxRecDepth 20000 in
theorem gX7_last_X7_at : GoodIn wsX7_last (va_wsS RX7 104 yX7_at wsX7_at) := goodIn_app (goodIn_of _ (by decide +kernel)) ggX7_last_X7_at
theorem dX7_last_0 : decode cX7_last 0 = .ok (.iload_n 1, 1) := by decide +kernel
theorem dX7_last_1 : decode cX7_last 1 = .ok (.iload_n 2, 1) := by decide +kernel
theorem dX7_last_2 : decode cX7_last 2 = .ok (.invokestatic 114, 3) := by decide +kernel
theorem dX7_last_5 : decode cX7_last 5 = .ok (.ifCond .ne 5, 3) := by decide +kernel
theorem dX7_last_8 : decode cX7_last 8 = .ok (.iconst (-1), 1) := by decide +kernel
theorem dX7_last_9 : decode cX7_last 9 = .ok (.ireturn, 1) := by decide +kernel
theorem dX7_last_10 : decode cX7_last 10 = .ok (.iload_n 3, 1) := by decide +kernel
theorem dX7_last_11 : decode cX7_last 11 = .ok (.iconst 0, 1) := by decide +kernel
theorem dX7_last_12 : decode cX7_last 12 = .ok (.iconst 1, 1) := by decide +kernel
theorem dX7_last_13 : decode cX7_last 13 = .ok (.invokestatic 59, 3) := by decide +kernel
theorem dX7_last_16 : decode cX7_last 16 = .ok (.ifCond .ne 6, 3) := by decide +kernel
theorem dX7_last_19 : decode cX7_last 19 = .ok (.bipush (-2), 2) := by decide +kernel
theorem dX7_last_21 : decode cX7_last 21 = .ok (.ireturn, 1) := by decide +kernel
theorem dX7_last_22 : decode cX7_last 22 = .ok (.aload_n 0, 1) := by decide +kernel
theorem dX7_last_23 : decode cX7_last 23 = .ok (.getfield 28, 3) := by decide +kernel
theorem dX7_last_26 : decode cX7_last 26 = .ok (.iconst 0, 1) := by decide +kernel
theorem dX7_last_27 : decode cX7_last 27 = .ok (.aload_n 0, 1) := by decide +kernel
theorem dX7_last_28 : decode cX7_last 28 = .ok (.getfield 22, 3) := by decide +kernel
theorem dX7_last_31 : decode cX7_last 31 = .ok (.iload_n 1, 1) := by decide +kernel
theorem dX7_last_32 : decode cX7_last 32 = .ok (.iaload, 1) := by decide +kernel
theorem dX7_last_33 : decode cX7_last 33 = .ok (.aload_n 0, 1) := by decide +kernel
theorem dX7_last_34 : decode cX7_last 34 = .ok (.iload_n 2, 1) := by decide +kernel
theorem dX7_last_35 : decode cX7_last 35 = .ok (.invokevirtual 91, 3) := by decide +kernel
theorem dX7_last_38 : decode cX7_last 38 = .ok (.iand, 1) := by decide +kernel
theorem dX7_last_39 : decode cX7_last 39 = .ok (.iastore, 1) := by decide +kernel
theorem dX7_last_40 : decode cX7_last 40 = .ok (.aload_n 0, 1) := by decide +kernel
theorem dX7_last_41 : decode cX7_last 41 = .ok (.getfield 28, 3) := by decide +kernel
theorem dX7_last_44 : decode cX7_last 44 = .ok (.iconst 1, 1) := by decide +kernel
theorem dX7_last_45 : decode cX7_last 45 = .ok (.aload_n 0, 1) := by decide +kernel
theorem dX7_last_46 : decode cX7_last 46 = .ok (.getfield 22, 3) := by decide +kernel
theorem dX7_last_49 : decode cX7_last 49 = .ok (.iload_n 2, 1) := by decide +kernel
theorem dX7_last_50 : decode cX7_last 50 = .ok (.iaload, 1) := by decide +kernel
theorem dX7_last_51 : decode cX7_last 51 = .ok (.aload_n 0, 1) := by decide +kernel
theorem dX7_last_52 : decode cX7_last 52 = .ok (.iload_n 1, 1) := by decide +kernel
theorem dX7_last_53 : decode cX7_last 53 = .ok (.invokevirtual 91, 3) := by decide +kernel
theorem dX7_last_56 : decode cX7_last 56 = .ok (.iand, 1) := by decide +kernel
theorem dX7_last_57 : decode cX7_last 57 = .ok (.iastore, 1) := by decide +kernel
theorem dX7_last_58 : decode cX7_last 58 = .ok (.sipush 1023, 3) := by decide +kernel
theorem dX7_last_61 : decode cX7_last 61 = .ok (.istore 4, 2) := by decide +kernel
theorem dX7_last_63 : decode cX7_last 63 = .ok (.iload 4, 2) := by decide +kernel
theorem dX7_last_65 : decode cX7_last 65 = .ok (.ifCond .le 162, 3) := by decide +kernel
theorem dX7_last_68 : decode cX7_last 68 = .ok (.iconst 0, 1) := by decide +kernel
theorem dX7_last_69 : decode cX7_last 69 = .ok (.istore 5, 2) := by decide +kernel
theorem dX7_last_71 : decode cX7_last 71 = .ok (.iload 5, 2) := by decide +kernel
theorem dX7_last_73 : decode cX7_last 73 = .ok (.bipush 10, 2) := by decide +kernel
theorem dX7_last_75 : decode cX7_last 75 = .ok (.if_icmp .ge 146, 3) := by decide +kernel
theorem dX7_last_78 : decode cX7_last 78 = .ok (.iconst 0, 1) := by decide +kernel
theorem dX7_last_79 : decode cX7_last 79 = .ok (.istore 6, 2) := by decide +kernel
theorem dX7_last_81 : decode cX7_last 81 = .ok (.iload 6, 2) := by decide +kernel
theorem dX7_last_83 : decode cX7_last 83 = .ok (.iconst 2, 1) := by decide +kernel
theorem dX7_last_84 : decode cX7_last 84 = .ok (.if_icmp .ge 131, 3) := by decide +kernel
theorem dX7_last_87 : decode cX7_last 87 = .ok (.iload 4, 2) := by decide +kernel
theorem dX7_last_89 : decode cX7_last 89 = .ok (.iload 5, 2) := by decide +kernel
theorem dX7_last_91 : decode cX7_last 91 = .ok (.invokestatic 94, 3) := by decide +kernel
theorem dX7_last_94 : decode cX7_last 94 = .ok (.ifCond .eq 121, 3) := by decide +kernel
theorem dX7_last_97 : decode cX7_last 97 = .ok (.iconst 0, 1) := by decide +kernel
theorem dX7_last_98 : decode cX7_last 98 = .ok (.istore 7, 2) := by decide +kernel
theorem dX7_last_100 : decode cX7_last 100 = .ok (.iconst 0, 1) := by decide +kernel
theorem dX7_last_101 : decode cX7_last 101 = .ok (.istore 8, 2) := by decide +kernel
theorem dX7_last_103 : decode cX7_last 103 = .ok (.iload 8, 2) := by decide +kernel
theorem dX7_last_105 : decode cX7_last 105 = .ok (.bipush 10, 2) := by decide +kernel
theorem dX7_last_107 : decode cX7_last 107 = .ok (.if_icmp .ge 86, 3) := by decide +kernel
theorem dX7_last_110 : decode cX7_last 110 = .ok (.aload_n 0, 1) := by decide +kernel
theorem dX7_last_111 : decode cX7_last 111 = .ok (.getfield 13, 3) := by decide +kernel
theorem dX7_last_114 : decode cX7_last 114 = .ok (.iload 5, 2) := by decide +kernel
theorem dX7_last_116 : decode cX7_last 116 = .ok (.iaload, 1) := by decide +kernel
theorem dX7_last_117 : decode cX7_last 117 = .ok (.aload_n 0, 1) := by decide +kernel
theorem dX7_last_118 : decode cX7_last 118 = .ok (.getfield 28, 3) := by decide +kernel
theorem dX7_last_121 : decode cX7_last 121 = .ok (.iload 6, 2) := by decide +kernel
theorem dX7_last_123 : decode cX7_last 123 = .ok (.iaload, 1) := by decide +kernel
theorem dX7_last_124 : decode cX7_last 124 = .ok (.iand, 1) := by decide +kernel
theorem dX7_last_125 : decode cX7_last 125 = .ok (.iload 4, 2) := by decide +kernel
theorem dX7_last_127 : decode cX7_last 127 = .ok (.iconst (-1), 1) := by decide +kernel
theorem dX7_last_128 : decode cX7_last 128 = .ok (.ixor, 1) := by decide +kernel
theorem dX7_last_129 : decode cX7_last 129 = .ok (.iand, 1) := by decide +kernel
theorem dX7_last_130 : decode cX7_last 130 = .ok (.iload 8, 2) := by decide +kernel
theorem dX7_last_132 : decode cX7_last 132 = .ok (.invokestatic 94, 3) := by decide +kernel
theorem dX7_last_135 : decode cX7_last 135 = .ok (.istore 9, 2) := by decide +kernel
theorem dX7_last_137 : decode cX7_last 137 = .ok (.iload 9, 2) := by decide +kernel
theorem dX7_last_139 : decode cX7_last 139 = .ok (.ifCond .eq 29, 3) := by decide +kernel
theorem dX7_last_142 : decode cX7_last 142 = .ok (.aload_n 0, 1) := by decide +kernel
theorem dX7_last_143 : decode cX7_last 143 = .ok (.getfield 25, 3) := by decide +kernel
theorem dX7_last_146 : decode cX7_last 146 = .ok (.iconst 1, 1) := by decide +kernel
theorem dX7_last_147 : decode cX7_last 147 = .ok (.iload 6, 2) := by decide +kernel
theorem dX7_last_149 : decode cX7_last 149 = .ok (.isub, 1) := by decide +kernel
theorem dX7_last_150 : decode cX7_last 150 = .ok (.iload 8, 2) := by decide +kernel
theorem dX7_last_152 : decode cX7_last 152 = .ok (.iload 4, 2) := by decide +kernel
theorem dX7_last_154 : decode cX7_last 154 = .ok (.iconst 1, 1) := by decide +kernel
theorem dX7_last_155 : decode cX7_last 155 = .ok (.iload 8, 2) := by decide +kernel
theorem dX7_last_157 : decode cX7_last 157 = .ok (.ishl, 1) := by decide +kernel
theorem dX7_last_158 : decode cX7_last 158 = .ok (.ior, 1) := by decide +kernel
theorem dX7_last_159 : decode cX7_last 159 = .ok (.invokestatic 104, 3) := by decide +kernel
theorem dX7_last_162 : decode cX7_last 162 = .ok (.iaload, 1) := by decide +kernel
theorem dX7_last_163 : decode cX7_last 163 = .ok (.iconst 1, 1) := by decide +kernel
theorem dX7_last_164 : decode cX7_last 164 = .ok (.iadd, 1) := by decide +kernel
theorem dX7_last_165 : decode cX7_last 165 = .ok (.goto 4, 3) := by decide +kernel
theorem dX7_last_168 : decode cX7_last 168 = .ok (.iconst 0, 1) := by decide +kernel
theorem dX7_last_169 : decode cX7_last 169 = .ok (.istore 10, 2) := by decide +kernel
theorem dX7_last_171 : decode cX7_last 171 = .ok (.iload 10, 2) := by decide +kernel
theorem dX7_last_173 : decode cX7_last 173 = .ok (.iload 7, 2) := by decide +kernel
theorem dX7_last_175 : decode cX7_last 175 = .ok (.if_icmp .le 8, 3) := by decide +kernel
theorem dX7_last_178 : decode cX7_last 178 = .ok (.iload 10, 2) := by decide +kernel
theorem dX7_last_180 : decode cX7_last 180 = .ok (.goto 5, 3) := by decide +kernel
theorem dX7_last_183 : decode cX7_last 183 = .ok (.iload 7, 2) := by decide +kernel
theorem dX7_last_185 : decode cX7_last 185 = .ok (.istore 7, 2) := by decide +kernel
theorem dX7_last_187 : decode cX7_last 187 = .ok (.iinc 8 1, 3) := by decide +kernel
theorem dX7_last_190 : decode cX7_last 190 = .ok (.goto (-87), 3) := by decide +kernel
theorem dX7_last_193 : decode cX7_last 193 = .ok (.aload_n 0, 1) := by decide +kernel
theorem dX7_last_194 : decode cX7_last 194 = .ok (.getfield 25, 3) := by decide +kernel
theorem dX7_last_197 : decode cX7_last 197 = .ok (.iload 6, 2) := by decide +kernel
theorem dX7_last_199 : decode cX7_last 199 = .ok (.iload 5, 2) := by decide +kernel
theorem dX7_last_201 : decode cX7_last 201 = .ok (.iload 4, 2) := by decide +kernel
theorem dX7_last_203 : decode cX7_last 203 = .ok (.invokestatic 104, 3) := by decide +kernel
theorem dX7_last_206 : decode cX7_last 206 = .ok (.iload 7, 2) := by decide +kernel
theorem dX7_last_208 : decode cX7_last 208 = .ok (.iastore, 1) := by decide +kernel
theorem dX7_last_209 : decode cX7_last 209 = .ok (.iinc 6 1, 3) := by decide +kernel
theorem dX7_last_212 : decode cX7_last 212 = .ok (.goto (-131), 3) := by decide +kernel
theorem dX7_last_215 : decode cX7_last 215 = .ok (.iinc 5 1, 3) := by decide +kernel
theorem dX7_last_218 : decode cX7_last 218 = .ok (.goto (-147), 3) := by decide +kernel
theorem dX7_last_221 : decode cX7_last 221 = .ok (.iinc 4 (-1), 3) := by decide +kernel
theorem dX7_last_224 : decode cX7_last 224 = .ok (.goto (-161), 3) := by decide +kernel
theorem dX7_last_227 : decode cX7_last 227 = .ok (.iconst 0, 1) := by decide +kernel
theorem dX7_last_228 : decode cX7_last 228 = .ok (.istore 4, 2) := by decide +kernel
theorem dX7_last_230 : decode cX7_last 230 = .ok (.bipush (-6), 2) := by decide +kernel
theorem dX7_last_232 : decode cX7_last 232 = .ok (.istore 5, 2) := by decide +kernel
theorem dX7_last_234 : decode cX7_last 234 = .ok (.iconst 0, 1) := by decide +kernel
theorem dX7_last_235 : decode cX7_last 235 = .ok (.istore 6, 2) := by decide +kernel
theorem dX7_last_237 : decode cX7_last 237 = .ok (.iload 6, 2) := by decide +kernel
theorem dX7_last_239 : decode cX7_last 239 = .ok (.bipush 10, 2) := by decide +kernel
theorem dX7_last_241 : decode cX7_last 241 = .ok (.if_icmp .ge 78, 3) := by decide +kernel
theorem dX7_last_244 : decode cX7_last 244 = .ok (.aload_n 0, 1) := by decide +kernel
theorem dX7_last_245 : decode cX7_last 245 = .ok (.getfield 28, 3) := by decide +kernel
theorem dX7_last_248 : decode cX7_last 248 = .ok (.iconst 0, 1) := by decide +kernel
theorem dX7_last_249 : decode cX7_last 249 = .ok (.iaload, 1) := by decide +kernel
theorem dX7_last_250 : decode cX7_last 250 = .ok (.iload 6, 2) := by decide +kernel
theorem dX7_last_252 : decode cX7_last 252 = .ok (.invokestatic 94, 3) := by decide +kernel
theorem dX7_last_255 : decode cX7_last 255 = .ok (.ifCond .eq 23, 3) := by decide +kernel
theorem dX7_last_258 : decode cX7_last 258 = .ok (.aload_n 0, 1) := by decide +kernel
theorem dX7_last_259 : decode cX7_last 259 = .ok (.getfield 25, 3) := by decide +kernel
theorem dX7_last_262 : decode cX7_last 262 = .ok (.iconst 1, 1) := by decide +kernel
theorem dX7_last_263 : decode cX7_last 263 = .ok (.iload 6, 2) := by decide +kernel
theorem dX7_last_265 : decode cX7_last 265 = .ok (.iconst 1, 1) := by decide +kernel
theorem dX7_last_266 : decode cX7_last 266 = .ok (.iload 6, 2) := by decide +kernel
theorem dX7_last_268 : decode cX7_last 268 = .ok (.ishl, 1) := by decide +kernel
theorem dX7_last_269 : decode cX7_last 269 = .ok (.invokestatic 104, 3) := by decide +kernel
theorem dX7_last_272 : decode cX7_last 272 = .ok (.iaload, 1) := by decide +kernel
theorem dX7_last_273 : decode cX7_last 273 = .ok (.iconst 1, 1) := by decide +kernel
theorem dX7_last_274 : decode cX7_last 274 = .ok (.iadd, 1) := by decide +kernel
theorem dX7_last_275 : decode cX7_last 275 = .ok (.goto 4, 3) := by decide +kernel
theorem dX7_last_278 : decode cX7_last 278 = .ok (.iconst 0, 1) := by decide +kernel
theorem dX7_last_279 : decode cX7_last 279 = .ok (.istore 7, 2) := by decide +kernel
theorem dX7_last_281 : decode cX7_last 281 = .ok (.iload 7, 2) := by decide +kernel
theorem dX7_last_283 : decode cX7_last 283 = .ok (.iload 4, 2) := by decide +kernel
theorem dX7_last_285 : decode cX7_last 285 = .ok (.if_icmp .le 8, 3) := by decide +kernel
theorem dX7_last_288 : decode cX7_last 288 = .ok (.iload 6, 2) := by decide +kernel
theorem dX7_last_290 : decode cX7_last 290 = .ok (.goto 5, 3) := by decide +kernel
theorem dX7_last_293 : decode cX7_last 293 = .ok (.iload 5, 2) := by decide +kernel
theorem dX7_last_295 : decode cX7_last 295 = .ok (.istore 5, 2) := by decide +kernel
theorem dX7_last_297 : decode cX7_last 297 = .ok (.iload 7, 2) := by decide +kernel
theorem dX7_last_299 : decode cX7_last 299 = .ok (.iload 4, 2) := by decide +kernel
theorem dX7_last_301 : decode cX7_last 301 = .ok (.if_icmp .le 8, 3) := by decide +kernel
theorem dX7_last_304 : decode cX7_last 304 = .ok (.iload 7, 2) := by decide +kernel
theorem dX7_last_306 : decode cX7_last 306 = .ok (.goto 5, 3) := by decide +kernel
theorem dX7_last_309 : decode cX7_last 309 = .ok (.iload 4, 2) := by decide +kernel
theorem dX7_last_311 : decode cX7_last 311 = .ok (.istore 4, 2) := by decide +kernel
theorem dX7_last_313 : decode cX7_last 313 = .ok (.iinc 6 1, 3) := by decide +kernel
theorem dX7_last_316 : decode cX7_last 316 = .ok (.goto (-79), 3) := by decide +kernel
theorem dX7_last_319 : decode cX7_last 319 = .ok (.iload_n 3, 1) := by decide +kernel
theorem dX7_last_320 : decode cX7_last 320 = .ok (.ifCond .ne 8, 3) := by decide +kernel
theorem dX7_last_323 : decode cX7_last 323 = .ok (.iload 4, 2) := by decide +kernel
theorem dX7_last_325 : decode cX7_last 325 = .ok (.goto 5, 3) := by decide +kernel
theorem dX7_last_328 : decode cX7_last 328 = .ok (.iload 5, 2) := by decide +kernel
theorem dX7_last_330 : decode cX7_last 330 = .ok (.ireturn, 1) := by decide +kernel
set_option maxRecDepth 20000 in
theorem ggX7_payer_X7_layMatch : GoodIn wsX7_payer wsX7_layMatch := goodIn_r _ [6, 1, 7, 8, 9, 10, 11, 12, 5, 13, 14, 15, 16, 17, 18, 19, 20, 21, 22, 23, 24, 25, 26, 27, 28, 29, 30, 31, 32, 33, 34, 35, 36, 37, 38, 39, 40, 41, 42, 43, 44, 45, 46, 47] (by decide +kernel) (by decide +kernel)
set_option maxRecDepth 20000 in
theorem gX7_payer_X7_layMatch : GoodIn wsX7_payer (wsV RX7 117 RX7 yX7_layMatch wsX7_layMatch) := goodIn_app (goodIn_of _ (by decide +kernel)) ggX7_payer_X7_layMatch
set_option maxRecDepth 20000 in
theorem ggX7_payer_X7_bestOf : GoodIn wsX7_payer wsX7_bestOf := goodIn_r _ [25, 26, 8, 16, 17, 5, 18, 19, 20, 21, 27, 28, 29, 30, 31, 32, 33, 34, 35, 36, 37, 38, 39, 40, 41, 42, 43, 44, 45, 46, 47] (by decide +kernel) (by decide +kernel)
set_option maxRecDepth 20000 in
theorem gX7_payer_X7_bestOf : GoodIn wsX7_payer (wsV RX7 111 RX7 yX7_bestOf wsX7_bestOf) := goodIn_app (goodIn_of _ (by decide +kernel)) ggX7_payer_X7_bestOf
theorem dX7_payer_0 : decode cX7_payer 0 = .ok (.aload_n 0, 1) := by decide +kernel
theorem dX7_payer_1 : decode cX7_payer 1 = .ok (.iload_n 1, 1) := by decide +kernel
theorem dX7_payer_2 : decode cX7_payer 2 = .ok (.iload_n 2, 1) := by decide +kernel
theorem dX7_payer_3 : decode cX7_payer 3 = .ok (.invokevirtual 117, 3) := by decide +kernel
theorem dX7_payer_6 : decode cX7_payer 6 = .ok (.aload_n 0, 1) := by decide +kernel
theorem dX7_payer_7 : decode cX7_payer 7 = .ok (.iconst 0, 1) := by decide +kernel
theorem dX7_payer_8 : decode cX7_payer 8 = .ok (.aload_n 0, 1) := by decide +kernel
theorem dX7_payer_9 : decode cX7_payer 9 = .ok (.getfield 28, 3) := by decide +kernel
theorem dX7_payer_12 : decode cX7_payer 12 = .ok (.iconst 0, 1) := by decide +kernel
theorem dX7_payer_13 : decode cX7_payer 13 = .ok (.iaload, 1) := by decide +kernel
theorem dX7_payer_14 : decode cX7_payer 14 = .ok (.iconst 0, 1) := by decide +kernel
theorem dX7_payer_15 : decode cX7_payer 15 = .ok (.invokevirtual 111, 3) := by decide +kernel
theorem dX7_payer_18 : decode cX7_payer 18 = .ok (.iconst 2, 1) := by decide +kernel
theorem dX7_payer_19 : decode cX7_payer 19 = .ok (.irem, 1) := by decide +kernel
theorem dX7_payer_20 : decode cX7_payer 20 = .ok (.ifCond .ne 7, 3) := by decide +kernel
theorem dX7_payer_23 : decode cX7_payer 23 = .ok (.iload_n 1, 1) := by decide +kernel
theorem dX7_payer_24 : decode cX7_payer 24 = .ok (.goto 4, 3) := by decide +kernel
theorem dX7_payer_27 : decode cX7_payer 27 = .ok (.iload_n 2, 1) := by decide +kernel
theorem dX7_payer_28 : decode cX7_payer 28 = .ok (.ireturn, 1) := by decide +kernel
set_option maxRecDepth 20000 in
theorem ggX7_sent_X7_isMan : GoodIn wsX7_sent wsX7_isMan := goodIn_r _ [4, 5, 6, 3, 7] (by decide +kernel) (by decide +kernel)
set_option maxRecDepth 20000 in
theorem gX7_sent_X7_isMan : GoodIn wsX7_sent (va_wsS RX7 63 yX7_isMan wsX7_isMan) := goodIn_app (goodIn_of _ (by decide +kernel)) ggX7_sent_X7_isMan
set_option maxRecDepth 20000 in
theorem ggX7_sent_X7_payer : GoodIn wsX7_sent wsX7_payer := goodIn_r _ [11, 12, 13, 14, 15, 3, 16, 17, 18, 19, 20, 21, 22, 23, 24, 25, 26, 27, 28, 29, 30, 31, 32, 33, 34, 35, 36, 37, 38, 39, 40, 41, 42, 43, 44, 45, 46, 47, 48, 49, 50, 51, 52, 53, 54, 55, 56, 57] (by decide +kernel) (by decide +kernel)
set_option maxRecDepth 20000 in
theorem gX7_sent_X7_payer : GoodIn wsX7_sent (wsV RX7 125 RX7 yX7_payer wsX7_payer) := goodIn_app (goodIn_of _ (by decide +kernel)) ggX7_sent_X7_payer
theorem dX7_sent_0 : decode cX7_sent 0 = .ok (.iload_n 1, 1) := by decide +kernel
theorem dX7_sent_1 : decode cX7_sent 1 = .ok (.invokestatic 63, 3) := by decide +kernel
theorem dX7_sent_4 : decode cX7_sent 4 = .ok (.ifCond .ne 5, 3) := by decide +kernel
theorem dX7_sent_7 : decode cX7_sent 7 = .ok (.iconst (-1), 1) := by decide +kernel
theorem dX7_sent_8 : decode cX7_sent 8 = .ok (.ireturn, 1) := by decide +kernel
theorem dX7_sent_9 : decode cX7_sent 9 = .ok (.iconst 0, 1) := by decide +kernel
theorem dX7_sent_10 : decode cX7_sent 10 = .ok (.istore_n 3, 1) := by decide +kernel
theorem dX7_sent_11 : decode cX7_sent 11 = .ok (.iconst 0, 1) := by decide +kernel
theorem dX7_sent_12 : decode cX7_sent 12 = .ok (.istore 4, 2) := by decide +kernel
theorem dX7_sent_14 : decode cX7_sent 14 = .ok (.iload 4, 2) := by decide +kernel
theorem dX7_sent_16 : decode cX7_sent 16 = .ok (.iconst 5, 1) := by decide +kernel
theorem dX7_sent_17 : decode cX7_sent 17 = .ok (.if_icmp .ge 56, 3) := by decide +kernel
theorem dX7_sent_20 : decode cX7_sent 20 = .ok (.iload 4, 2) := by decide +kernel
theorem dX7_sent_22 : decode cX7_sent 22 = .ok (.iload_n 1, 1) := by decide +kernel
theorem dX7_sent_23 : decode cX7_sent 23 = .ok (.if_icmp .eq 44, 3) := by decide +kernel
theorem dX7_sent_26 : decode cX7_sent 26 = .ok (.iload_n 2, 1) := by decide +kernel
theorem dX7_sent_27 : decode cX7_sent 27 = .ok (.ifCond .eq 13, 3) := by decide +kernel
theorem dX7_sent_30 : decode cX7_sent 30 = .ok (.aload_n 0, 1) := by decide +kernel
theorem dX7_sent_31 : decode cX7_sent 31 = .ok (.iload 4, 2) := by decide +kernel
theorem dX7_sent_33 : decode cX7_sent 33 = .ok (.iload_n 1, 1) := by decide +kernel
theorem dX7_sent_34 : decode cX7_sent 34 = .ok (.invokevirtual 125, 3) := by decide +kernel
theorem dX7_sent_37 : decode cX7_sent 37 = .ok (.goto 10, 3) := by decide +kernel
theorem dX7_sent_40 : decode cX7_sent 40 = .ok (.aload_n 0, 1) := by decide +kernel
theorem dX7_sent_41 : decode cX7_sent 41 = .ok (.iload_n 1, 1) := by decide +kernel
theorem dX7_sent_42 : decode cX7_sent 42 = .ok (.iload 4, 2) := by decide +kernel
theorem dX7_sent_44 : decode cX7_sent 44 = .ok (.invokevirtual 125, 3) := by decide +kernel
theorem dX7_sent_47 : decode cX7_sent 47 = .ok (.istore 5, 2) := by decide +kernel
theorem dX7_sent_49 : decode cX7_sent 49 = .ok (.iload_n 3, 1) := by decide +kernel
theorem dX7_sent_50 : decode cX7_sent 50 = .ok (.iload 5, 2) := by decide +kernel
theorem dX7_sent_52 : decode cX7_sent 52 = .ok (.iload 4, 2) := by decide +kernel
theorem dX7_sent_54 : decode cX7_sent 54 = .ok (.if_icmp .ne 7, 3) := by decide +kernel
theorem dX7_sent_57 : decode cX7_sent 57 = .ok (.iconst 0, 1) := by decide +kernel
theorem dX7_sent_58 : decode cX7_sent 58 = .ok (.goto 7, 3) := by decide +kernel
theorem dX7_sent_61 : decode cX7_sent 61 = .ok (.iconst 1, 1) := by decide +kernel
theorem dX7_sent_62 : decode cX7_sent 62 = .ok (.iload 4, 2) := by decide +kernel
theorem dX7_sent_64 : decode cX7_sent 64 = .ok (.ishl, 1) := by decide +kernel
theorem dX7_sent_65 : decode cX7_sent 65 = .ok (.ior, 1) := by decide +kernel
theorem dX7_sent_66 : decode cX7_sent 66 = .ok (.istore_n 3, 1) := by decide +kernel
theorem dX7_sent_67 : decode cX7_sent 67 = .ok (.iinc 4 1, 3) := by decide +kernel
theorem dX7_sent_70 : decode cX7_sent 70 = .ok (.goto (-56), 3) := by decide +kernel
theorem dX7_sent_73 : decode cX7_sent 73 = .ok (.iload_n 3, 1) := by decide +kernel
theorem dX7_sent_74 : decode cX7_sent 74 = .ok (.ireturn, 1) := by decide +kernel
set_option maxRecDepth 20000 in
theorem ggX7_safe_X7_isMan : GoodIn wsX7_safe wsX7_isMan := goodIn_r _ [5, 6, 7, 4, 8] (by decide +kernel) (by decide +kernel)
set_option maxRecDepth 20000 in
theorem gX7_safe_X7_isMan : GoodIn wsX7_safe (va_wsS RX7 63 yX7_isMan wsX7_isMan) := goodIn_app (goodIn_of _ (by decide +kernel)) ggX7_safe_X7_isMan
set_option maxRecDepth 20000 in
theorem ggX7_safe_X7_fitOf : GoodIn wsX7_safe wsX7_fitOf := goodIn_r _ [12, 13, 14, 15, 16, 17, 18, 19, 20, 21, 22, 23, 24, 25, 26, 27, 28, 29, 30, 31, 32] (by decide +kernel) (by decide +kernel)
set_option maxRecDepth 20000 in
theorem gX7_safe_X7_fitOf : GoodIn wsX7_safe (wsV RX7 91 RX7 yX7_fitOf wsX7_fitOf) := goodIn_app (goodIn_of _ (by decide +kernel)) ggX7_safe_X7_fitOf
theorem dX7_safe_0 : decode cX7_safe 0 = .ok (.iload_n 1, 1) := by decide +kernel
theorem dX7_safe_1 : decode cX7_safe 1 = .ok (.invokestatic 63, 3) := by decide +kernel
theorem dX7_safe_4 : decode cX7_safe 4 = .ok (.ifCond .ne 5, 3) := by decide +kernel
theorem dX7_safe_7 : decode cX7_safe 7 = .ok (.iconst (-1), 1) := by decide +kernel
theorem dX7_safe_8 : decode cX7_safe 8 = .ok (.ireturn, 1) := by decide +kernel
theorem dX7_safe_9 : decode cX7_safe 9 = .ok (.iconst 0, 1) := by decide +kernel
theorem dX7_safe_10 : decode cX7_safe 10 = .ok (.istore_n 2, 1) := by decide +kernel
theorem dX7_safe_11 : decode cX7_safe 11 = .ok (.iconst 0, 1) := by decide +kernel
theorem dX7_safe_12 : decode cX7_safe 12 = .ok (.istore_n 3, 1) := by decide +kernel
theorem dX7_safe_13 : decode cX7_safe 13 = .ok (.iload_n 3, 1) := by decide +kernel
theorem dX7_safe_14 : decode cX7_safe 14 = .ok (.iconst 5, 1) := by decide +kernel
theorem dX7_safe_15 : decode cX7_safe 15 = .ok (.if_icmp .ge 27, 3) := by decide +kernel
theorem dX7_safe_18 : decode cX7_safe 18 = .ok (.iload_n 2, 1) := by decide +kernel
theorem dX7_safe_19 : decode cX7_safe 19 = .ok (.iload_n 3, 1) := by decide +kernel
theorem dX7_safe_20 : decode cX7_safe 20 = .ok (.iload_n 1, 1) := by decide +kernel
theorem dX7_safe_21 : decode cX7_safe 21 = .ok (.if_icmp .ne 7, 3) := by decide +kernel
theorem dX7_safe_24 : decode cX7_safe 24 = .ok (.iconst 0, 1) := by decide +kernel
theorem dX7_safe_25 : decode cX7_safe 25 = .ok (.goto 9, 3) := by decide +kernel
theorem dX7_safe_28 : decode cX7_safe 28 = .ok (.aload_n 0, 1) := by decide +kernel
theorem dX7_safe_29 : decode cX7_safe 29 = .ok (.getfield 22, 3) := by decide +kernel
theorem dX7_safe_32 : decode cX7_safe 32 = .ok (.iload_n 3, 1) := by decide +kernel
theorem dX7_safe_33 : decode cX7_safe 33 = .ok (.iaload, 1) := by decide +kernel
theorem dX7_safe_34 : decode cX7_safe 34 = .ok (.ior, 1) := by decide +kernel
theorem dX7_safe_35 : decode cX7_safe 35 = .ok (.istore_n 2, 1) := by decide +kernel
theorem dX7_safe_36 : decode cX7_safe 36 = .ok (.iinc 3 1, 3) := by decide +kernel
theorem dX7_safe_39 : decode cX7_safe 39 = .ok (.goto (-26), 3) := by decide +kernel
theorem dX7_safe_42 : decode cX7_safe 42 = .ok (.iload_n 2, 1) := by decide +kernel
theorem dX7_safe_43 : decode cX7_safe 43 = .ok (.aload_n 0, 1) := by decide +kernel
theorem dX7_safe_44 : decode cX7_safe 44 = .ok (.iload_n 1, 1) := by decide +kernel
theorem dX7_safe_45 : decode cX7_safe 45 = .ok (.invokevirtual 91, 3) := by decide +kernel
theorem dX7_safe_48 : decode cX7_safe 48 = .ok (.iand, 1) := by decide +kernel
theorem dX7_safe_49 : decode cX7_safe 49 = .ok (.ifCond .ne 7, 3) := by decide +kernel
theorem dX7_safe_52 : decode cX7_safe 52 = .ok (.iconst 1, 1) := by decide +kernel
theorem dX7_safe_53 : decode cX7_safe 53 = .ok (.goto 4, 3) := by decide +kernel
theorem dX7_safe_56 : decode cX7_safe 56 = .ok (.iconst 0, 1) := by decide +kernel
theorem dX7_safe_57 : decode cX7_safe 57 = .ok (.ireturn, 1) := by decide +kernel
set_option maxRecDepth 20000 in
theorem ggX7_freeMatches_X7_payer : GoodIn wsX7_freeMatches wsX7_payer := goodIn_r _ [5, 6, 7, 8, 9, 4, 10, 11, 12, 13, 14, 15, 16, 17, 18, 19, 20, 21, 22, 23, 24, 25, 26, 27, 28, 29, 30, 31, 32, 33, 34, 35, 36, 37, 38, 39, 40, 41, 42, 43, 44, 45, 46, 47, 48, 49, 50, 51] (by decide +kernel) (by decide +kernel)
set_option maxRecDepth 20000 in
theorem gX7_freeMatches_X7_payer : GoodIn wsX7_freeMatches (wsV RX7 125 RX7 yX7_payer wsX7_payer) := goodIn_app (goodIn_of _ (by decide +kernel)) ggX7_freeMatches_X7_payer
theorem dX7_freeMatches_0 : decode cX7_freeMatches 0 = .ok (.iconst 0, 1) := by decide +kernel
theorem dX7_freeMatches_1 : decode cX7_freeMatches 1 = .ok (.istore_n 2, 1) := by decide +kernel
theorem dX7_freeMatches_2 : decode cX7_freeMatches 2 = .ok (.iconst 0, 1) := by decide +kernel
theorem dX7_freeMatches_3 : decode cX7_freeMatches 3 = .ok (.istore_n 3, 1) := by decide +kernel
theorem dX7_freeMatches_4 : decode cX7_freeMatches 4 = .ok (.iload_n 3, 1) := by decide +kernel
theorem dX7_freeMatches_5 : decode cX7_freeMatches 5 = .ok (.iconst 5, 1) := by decide +kernel
theorem dX7_freeMatches_6 : decode cX7_freeMatches 6 = .ok (.if_icmp .ge 50, 3) := by decide +kernel
theorem dX7_freeMatches_9 : decode cX7_freeMatches 9 = .ok (.iload_n 3, 1) := by decide +kernel
theorem dX7_freeMatches_10 : decode cX7_freeMatches 10 = .ok (.iload_n 1, 1) := by decide +kernel
theorem dX7_freeMatches_11 : decode cX7_freeMatches 11 = .ok (.if_icmp .eq 39, 3) := by decide +kernel
theorem dX7_freeMatches_14 : decode cX7_freeMatches 14 = .ok (.iload_n 2, 1) := by decide +kernel
theorem dX7_freeMatches_15 : decode cX7_freeMatches 15 = .ok (.aload_n 0, 1) := by decide +kernel
theorem dX7_freeMatches_16 : decode cX7_freeMatches 16 = .ok (.iload_n 1, 1) := by decide +kernel
theorem dX7_freeMatches_17 : decode cX7_freeMatches 17 = .ok (.iload_n 3, 1) := by decide +kernel
theorem dX7_freeMatches_18 : decode cX7_freeMatches 18 = .ok (.invokevirtual 125, 3) := by decide +kernel
theorem dX7_freeMatches_21 : decode cX7_freeMatches 21 = .ok (.iload_n 1, 1) := by decide +kernel
theorem dX7_freeMatches_22 : decode cX7_freeMatches 22 = .ok (.if_icmp .ne 7, 3) := by decide +kernel
theorem dX7_freeMatches_25 : decode cX7_freeMatches 25 = .ok (.iconst 0, 1) := by decide +kernel
theorem dX7_freeMatches_26 : decode cX7_freeMatches 26 = .ok (.goto 4, 3) := by decide +kernel
theorem dX7_freeMatches_29 : decode cX7_freeMatches 29 = .ok (.iconst 1, 1) := by decide +kernel
theorem dX7_freeMatches_30 : decode cX7_freeMatches 30 = .ok (.iadd, 1) := by decide +kernel
theorem dX7_freeMatches_31 : decode cX7_freeMatches 31 = .ok (.istore_n 2, 1) := by decide +kernel
theorem dX7_freeMatches_32 : decode cX7_freeMatches 32 = .ok (.iload_n 2, 1) := by decide +kernel
theorem dX7_freeMatches_33 : decode cX7_freeMatches 33 = .ok (.aload_n 0, 1) := by decide +kernel
theorem dX7_freeMatches_34 : decode cX7_freeMatches 34 = .ok (.iload_n 3, 1) := by decide +kernel
theorem dX7_freeMatches_35 : decode cX7_freeMatches 35 = .ok (.iload_n 1, 1) := by decide +kernel
theorem dX7_freeMatches_36 : decode cX7_freeMatches 36 = .ok (.invokevirtual 125, 3) := by decide +kernel
theorem dX7_freeMatches_39 : decode cX7_freeMatches 39 = .ok (.iload_n 1, 1) := by decide +kernel
theorem dX7_freeMatches_40 : decode cX7_freeMatches 40 = .ok (.if_icmp .ne 7, 3) := by decide +kernel
theorem dX7_freeMatches_43 : decode cX7_freeMatches 43 = .ok (.iconst 0, 1) := by decide +kernel
theorem dX7_freeMatches_44 : decode cX7_freeMatches 44 = .ok (.goto 4, 3) := by decide +kernel
theorem dX7_freeMatches_47 : decode cX7_freeMatches 47 = .ok (.iconst 1, 1) := by decide +kernel
theorem dX7_freeMatches_48 : decode cX7_freeMatches 48 = .ok (.iadd, 1) := by decide +kernel
theorem dX7_freeMatches_49 : decode cX7_freeMatches 49 = .ok (.istore_n 2, 1) := by decide +kernel
theorem dX7_freeMatches_50 : decode cX7_freeMatches 50 = .ok (.iinc 3 1, 3) := by decide +kernel
theorem dX7_freeMatches_53 : decode cX7_freeMatches 53 = .ok (.goto (-49), 3) := by decide +kernel
theorem dX7_freeMatches_56 : decode cX7_freeMatches 56 = .ok (.iload_n 2, 1) := by decide +kernel
theorem dX7_freeMatches_57 : decode cX7_freeMatches 57 = .ok (.ireturn, 1) := by decide +kernel
set_option maxRecDepth 20000 in
theorem ggX7_worth_X7_isInsult : GoodIn wsX7_worth wsX7_isInsult := goodIn_r _ [5, 6, 7, 4, 8] (by decide +kernel) (by decide +kernel)
set_option maxRecDepth 20000 in
theorem gX7_worth_X7_isInsult : GoodIn wsX7_worth (va_wsS RX7 88 yX7_isInsult wsX7_isInsult) := goodIn_app (goodIn_of _ (by decide +kernel)) ggX7_worth_X7_isInsult
set_option maxRecDepth 20000 in
theorem ggX7_worth_X7_isMan : GoodIn wsX7_worth wsX7_isMan := goodIn_r _ [11, 6, 7, 4, 8] (by decide +kernel) (by decide +kernel)
set_option maxRecDepth 20000 in
theorem gX7_worth_X7_isMan : GoodIn wsX7_worth (va_wsS RX7 63 yX7_isMan wsX7_isMan) := goodIn_app (goodIn_of _ (by decide +kernel)) ggX7_worth_X7_isMan
set_option maxRecDepth 20000 in
theorem ggX7_worth_X7_has : GoodIn wsX7_worth wsX7_has := goodIn_r _ [14] (by decide +kernel) (by decide +kernel)
set_option maxRecDepth 20000 in
theorem gX7_worth_X7_has : GoodIn wsX7_worth (va_wsS RX7 94 yX7_has wsX7_has) := goodIn_app (goodIn_of _ (by decide +kernel)) ggX7_worth_X7_has
set_option maxRecDepth 20000 in
theorem ggX7_worth_X7_freeMatches : GoodIn wsX7_worth wsX7_freeMatches := goodIn_r _ [18, 19, 20, 21, 4, 22, 23, 24, 25, 26, 27, 1, 28, 29, 30, 31, 32, 33, 34, 35, 12, 13, 14, 36, 37, 38, 39, 40, 41, 42, 43, 44, 45, 46, 47, 48, 49, 50, 51, 52, 53, 54, 55, 56, 57, 58, 59, 60, 61, 62, 63, 64] (by decide +kernel) (by decide +kernel)
set_option maxRecDepth 20000 in
theorem gX7_worth_X7_freeMatches : GoodIn wsX7_worth (wsV RX7 129 RX7 yX7_freeMatches wsX7_freeMatches) := goodIn_app (goodIn_of _ (by decide +kernel)) ggX7_worth_X7_freeMatches
theorem dX7_worth_0 : decode cX7_worth 0 = .ok (.iload_n 1, 1) := by decide +kernel
theorem dX7_worth_1 : decode cX7_worth 1 = .ok (.invokestatic 88, 3) := by decide +kernel
theorem dX7_worth_4 : decode cX7_worth 4 = .ok (.ifCond .eq 10, 3) := by decide +kernel
theorem dX7_worth_7 : decode cX7_worth 7 = .ok (.iload_n 2, 1) := by decide +kernel
theorem dX7_worth_8 : decode cX7_worth 8 = .ok (.invokestatic 63, 3) := by decide +kernel
theorem dX7_worth_11 : decode cX7_worth 11 = .ok (.ifCond .ne 5, 3) := by decide +kernel
theorem dX7_worth_14 : decode cX7_worth 14 = .ok (.iconst (-1), 1) := by decide +kernel
theorem dX7_worth_15 : decode cX7_worth 15 = .ok (.ireturn, 1) := by decide +kernel
theorem dX7_worth_16 : decode cX7_worth 16 = .ok (.aload_n 0, 1) := by decide +kernel
theorem dX7_worth_17 : decode cX7_worth 17 = .ok (.getfield 22, 3) := by decide +kernel
theorem dX7_worth_20 : decode cX7_worth 20 = .ok (.iload_n 2, 1) := by decide +kernel
theorem dX7_worth_21 : decode cX7_worth 21 = .ok (.iaload, 1) := by decide +kernel
theorem dX7_worth_22 : decode cX7_worth 22 = .ok (.iload_n 1, 1) := by decide +kernel
theorem dX7_worth_23 : decode cX7_worth 23 = .ok (.invokestatic 94, 3) := by decide +kernel
theorem dX7_worth_26 : decode cX7_worth 26 = .ok (.ifCond .eq 6, 3) := by decide +kernel
theorem dX7_worth_29 : decode cX7_worth 29 = .ok (.bipush (-3), 2) := by decide +kernel
theorem dX7_worth_31 : decode cX7_worth 31 = .ok (.ireturn, 1) := by decide +kernel
theorem dX7_worth_32 : decode cX7_worth 32 = .ok (.aload_n 0, 1) := by decide +kernel
theorem dX7_worth_33 : decode cX7_worth 33 = .ok (.iload_n 2, 1) := by decide +kernel
theorem dX7_worth_34 : decode cX7_worth 34 = .ok (.invokevirtual 129, 3) := by decide +kernel
theorem dX7_worth_37 : decode cX7_worth 37 = .ok (.istore_n 3, 1) := by decide +kernel
theorem dX7_worth_38 : decode cX7_worth 38 = .ok (.aload_n 0, 1) := by decide +kernel
theorem dX7_worth_39 : decode cX7_worth 39 = .ok (.getfield 22, 3) := by decide +kernel
theorem dX7_worth_42 : decode cX7_worth 42 = .ok (.iload_n 2, 1) := by decide +kernel
theorem dX7_worth_43 : decode cX7_worth 43 = .ok (.dup2, 1) := by decide +kernel
theorem dX7_worth_44 : decode cX7_worth 44 = .ok (.iaload, 1) := by decide +kernel
theorem dX7_worth_45 : decode cX7_worth 45 = .ok (.iconst 1, 1) := by decide +kernel
theorem dX7_worth_46 : decode cX7_worth 46 = .ok (.iload_n 1, 1) := by decide +kernel
theorem dX7_worth_47 : decode cX7_worth 47 = .ok (.ishl, 1) := by decide +kernel
theorem dX7_worth_48 : decode cX7_worth 48 = .ok (.ior, 1) := by decide +kernel
theorem dX7_worth_49 : decode cX7_worth 49 = .ok (.iastore, 1) := by decide +kernel
theorem dX7_worth_50 : decode cX7_worth 50 = .ok (.aload_n 0, 1) := by decide +kernel
theorem dX7_worth_51 : decode cX7_worth 51 = .ok (.iload_n 2, 1) := by decide +kernel
theorem dX7_worth_52 : decode cX7_worth 52 = .ok (.invokevirtual 129, 3) := by decide +kernel
theorem dX7_worth_55 : decode cX7_worth 55 = .ok (.istore 4, 2) := by decide +kernel
theorem dX7_worth_57 : decode cX7_worth 57 = .ok (.aload_n 0, 1) := by decide +kernel
theorem dX7_worth_58 : decode cX7_worth 58 = .ok (.getfield 22, 3) := by decide +kernel
theorem dX7_worth_61 : decode cX7_worth 61 = .ok (.iload_n 2, 1) := by decide +kernel
theorem dX7_worth_62 : decode cX7_worth 62 = .ok (.dup2, 1) := by decide +kernel
theorem dX7_worth_63 : decode cX7_worth 63 = .ok (.iaload, 1) := by decide +kernel
theorem dX7_worth_64 : decode cX7_worth 64 = .ok (.iconst 1, 1) := by decide +kernel
theorem dX7_worth_65 : decode cX7_worth 65 = .ok (.iload_n 1, 1) := by decide +kernel
theorem dX7_worth_66 : decode cX7_worth 66 = .ok (.ishl, 1) := by decide +kernel
theorem dX7_worth_67 : decode cX7_worth 67 = .ok (.iconst (-1), 1) := by decide +kernel
theorem dX7_worth_68 : decode cX7_worth 68 = .ok (.ixor, 1) := by decide +kernel
theorem dX7_worth_69 : decode cX7_worth 69 = .ok (.iand, 1) := by decide +kernel
theorem dX7_worth_70 : decode cX7_worth 70 = .ok (.iastore, 1) := by decide +kernel
theorem dX7_worth_71 : decode cX7_worth 71 = .ok (.iload 4, 2) := by decide +kernel
theorem dX7_worth_73 : decode cX7_worth 73 = .ok (.iload_n 3, 1) := by decide +kernel
theorem dX7_worth_74 : decode cX7_worth 74 = .ok (.isub, 1) := by decide +kernel
theorem dX7_worth_75 : decode cX7_worth 75 = .ok (.bipush 100, 2) := by decide +kernel
theorem dX7_worth_77 : decode cX7_worth 77 = .ok (.iadd, 1) := by decide +kernel
theorem dX7_worth_78 : decode cX7_worth 78 = .ok (.ireturn, 1) := by decide +kernel
set_option maxRecDepth 20000 in
theorem ggX7_fitsAt_X7_has : GoodIn wsX7_fitsAt wsX7_has := goodIn_r _ [8] (by decide +kernel) (by decide +kernel)
set_option maxRecDepth 20000 in
theorem gX7_fitsAt_X7_has : GoodIn wsX7_fitsAt (va_wsS RX7 94 yX7_has wsX7_has) := goodIn_app (goodIn_of _ (by decide +kernel)) ggX7_fitsAt_X7_has
set_option maxRecDepth 20000 in
theorem ggX7_fitsAt_X7_fitOf : GoodIn wsX7_fitsAt wsX7_fitOf := goodIn_r _ [12, 13, 14, 15, 16, 17, 18, 19, 20, 21, 22, 23, 24, 25, 26, 27, 28, 29, 30, 31, 32] (by decide +kernel) (by decide +kernel)
set_option maxRecDepth 20000 in
theorem gX7_fitsAt_X7_fitOf : GoodIn wsX7_fitsAt (wsV RX7 91 RX7 yX7_fitOf wsX7_fitOf) := goodIn_app (goodIn_of _ (by decide +kernel)) ggX7_fitsAt_X7_fitOf
theorem dX7_fitsAt_0 : decode cX7_fitsAt 0 = .ok (.aload_n 0, 1) := by decide +kernel
theorem dX7_fitsAt_1 : decode cX7_fitsAt 1 = .ok (.getfield 34, 3) := by decide +kernel
theorem dX7_fitsAt_4 : decode cX7_fitsAt 4 = .ok (.iload_n 1, 1) := by decide +kernel
theorem dX7_fitsAt_5 : decode cX7_fitsAt 5 = .ok (.iaload, 1) := by decide +kernel
theorem dX7_fitsAt_6 : decode cX7_fitsAt 6 = .ok (.istore_n 3, 1) := by decide +kernel
theorem dX7_fitsAt_7 : decode cX7_fitsAt 7 = .ok (.aload_n 0, 1) := by decide +kernel
theorem dX7_fitsAt_8 : decode cX7_fitsAt 8 = .ok (.getfield 22, 3) := by decide +kernel
theorem dX7_fitsAt_11 : decode cX7_fitsAt 11 = .ok (.aload_n 0, 1) := by decide +kernel
theorem dX7_fitsAt_12 : decode cX7_fitsAt 12 = .ok (.getfield 31, 3) := by decide +kernel
theorem dX7_fitsAt_15 : decode cX7_fitsAt 15 = .ok (.iload_n 1, 1) := by decide +kernel
theorem dX7_fitsAt_16 : decode cX7_fitsAt 16 = .ok (.iaload, 1) := by decide +kernel
theorem dX7_fitsAt_17 : decode cX7_fitsAt 17 = .ok (.iaload, 1) := by decide +kernel
theorem dX7_fitsAt_18 : decode cX7_fitsAt 18 = .ok (.iload_n 3, 1) := by decide +kernel
theorem dX7_fitsAt_19 : decode cX7_fitsAt 19 = .ok (.invokestatic 94, 3) := by decide +kernel
theorem dX7_fitsAt_22 : decode cX7_fitsAt 22 = .ok (.istore 4, 2) := by decide +kernel
theorem dX7_fitsAt_24 : decode cX7_fitsAt 24 = .ok (.iload_n 1, 1) := by decide +kernel
theorem dX7_fitsAt_25 : decode cX7_fitsAt 25 = .ok (.ifCond .le 57, 3) := by decide +kernel
theorem dX7_fitsAt_28 : decode cX7_fitsAt 28 = .ok (.iload 4, 2) := by decide +kernel
theorem dX7_fitsAt_30 : decode cX7_fitsAt 30 = .ok (.ifCond .eq 46, 3) := by decide +kernel
theorem dX7_fitsAt_33 : decode cX7_fitsAt 33 = .ok (.aload_n 0, 1) := by decide +kernel
theorem dX7_fitsAt_34 : decode cX7_fitsAt 34 = .ok (.getfield 13, 3) := by decide +kernel
theorem dX7_fitsAt_37 : decode cX7_fitsAt 37 = .ok (.aload_n 0, 1) := by decide +kernel
theorem dX7_fitsAt_38 : decode cX7_fitsAt 38 = .ok (.getfield 34, 3) := by decide +kernel
theorem dX7_fitsAt_41 : decode cX7_fitsAt 41 = .ok (.iload_n 1, 1) := by decide +kernel
theorem dX7_fitsAt_42 : decode cX7_fitsAt 42 = .ok (.iconst 1, 1) := by decide +kernel
theorem dX7_fitsAt_43 : decode cX7_fitsAt 43 = .ok (.isub, 1) := by decide +kernel
theorem dX7_fitsAt_44 : decode cX7_fitsAt 44 = .ok (.iaload, 1) := by decide +kernel
theorem dX7_fitsAt_45 : decode cX7_fitsAt 45 = .ok (.iaload, 1) := by decide +kernel
theorem dX7_fitsAt_46 : decode cX7_fitsAt 46 = .ok (.iload_n 3, 1) := by decide +kernel
theorem dX7_fitsAt_47 : decode cX7_fitsAt 47 = .ok (.invokestatic 94, 3) := by decide +kernel
theorem dX7_fitsAt_50 : decode cX7_fitsAt 50 = .ok (.ifCond .eq 26, 3) := by decide +kernel
theorem dX7_fitsAt_53 : decode cX7_fitsAt 53 = .ok (.aload_n 0, 1) := by decide +kernel
theorem dX7_fitsAt_54 : decode cX7_fitsAt 54 = .ok (.aload_n 0, 1) := by decide +kernel
theorem dX7_fitsAt_55 : decode cX7_fitsAt 55 = .ok (.getfield 31, 3) := by decide +kernel
theorem dX7_fitsAt_58 : decode cX7_fitsAt 58 = .ok (.iload_n 1, 1) := by decide +kernel
theorem dX7_fitsAt_59 : decode cX7_fitsAt 59 = .ok (.iconst 1, 1) := by decide +kernel
theorem dX7_fitsAt_60 : decode cX7_fitsAt 60 = .ok (.isub, 1) := by decide +kernel
theorem dX7_fitsAt_61 : decode cX7_fitsAt 61 = .ok (.iaload, 1) := by decide +kernel
theorem dX7_fitsAt_62 : decode cX7_fitsAt 62 = .ok (.invokevirtual 91, 3) := by decide +kernel
theorem dX7_fitsAt_65 : decode cX7_fitsAt 65 = .ok (.iload_n 3, 1) := by decide +kernel
theorem dX7_fitsAt_66 : decode cX7_fitsAt 66 = .ok (.invokestatic 94, 3) := by decide +kernel
theorem dX7_fitsAt_69 : decode cX7_fitsAt 69 = .ok (.ifCond .eq 7, 3) := by decide +kernel
theorem dX7_fitsAt_72 : decode cX7_fitsAt 72 = .ok (.iconst 1, 1) := by decide +kernel
theorem dX7_fitsAt_73 : decode cX7_fitsAt 73 = .ok (.goto 4, 3) := by decide +kernel
theorem dX7_fitsAt_76 : decode cX7_fitsAt 76 = .ok (.iconst 0, 1) := by decide +kernel
theorem dX7_fitsAt_77 : decode cX7_fitsAt 77 = .ok (.istore 4, 2) := by decide +kernel
theorem dX7_fitsAt_79 : decode cX7_fitsAt 79 = .ok (.goto 37, 3) := by decide +kernel
theorem dX7_fitsAt_82 : decode cX7_fitsAt 82 = .ok (.iload_n 2, 1) := by decide +kernel
theorem dX7_fitsAt_83 : decode cX7_fitsAt 83 = .ok (.iconst 1, 1) := by decide +kernel
theorem dX7_fitsAt_84 : decode cX7_fitsAt 84 = .ok (.if_icmp .le 32, 3) := by decide +kernel
theorem dX7_fitsAt_87 : decode cX7_fitsAt 87 = .ok (.iload 4, 2) := by decide +kernel
theorem dX7_fitsAt_89 : decode cX7_fitsAt 89 = .ok (.ifCond .eq 24, 3) := by decide +kernel
theorem dX7_fitsAt_92 : decode cX7_fitsAt 92 = .ok (.aload_n 0, 1) := by decide +kernel
theorem dX7_fitsAt_93 : decode cX7_fitsAt 93 = .ok (.aload_n 0, 1) := by decide +kernel
theorem dX7_fitsAt_94 : decode cX7_fitsAt 94 = .ok (.getfield 31, 3) := by decide +kernel
theorem dX7_fitsAt_97 : decode cX7_fitsAt 97 = .ok (.iconst 1, 1) := by decide +kernel
theorem dX7_fitsAt_98 : decode cX7_fitsAt 98 = .ok (.iaload, 1) := by decide +kernel
theorem dX7_fitsAt_99 : decode cX7_fitsAt 99 = .ok (.invokevirtual 91, 3) := by decide +kernel
theorem dX7_fitsAt_102 : decode cX7_fitsAt 102 = .ok (.iload_n 3, 1) := by decide +kernel
theorem dX7_fitsAt_103 : decode cX7_fitsAt 103 = .ok (.invokestatic 94, 3) := by decide +kernel
theorem dX7_fitsAt_106 : decode cX7_fitsAt 106 = .ok (.ifCond .eq 7, 3) := by decide +kernel
theorem dX7_fitsAt_109 : decode cX7_fitsAt 109 = .ok (.iconst 1, 1) := by decide +kernel
theorem dX7_fitsAt_110 : decode cX7_fitsAt 110 = .ok (.goto 4, 3) := by decide +kernel
theorem dX7_fitsAt_113 : decode cX7_fitsAt 113 = .ok (.iconst 0, 1) := by decide +kernel
theorem dX7_fitsAt_114 : decode cX7_fitsAt 114 = .ok (.istore 4, 2) := by decide +kernel
theorem dX7_fitsAt_116 : decode cX7_fitsAt 116 = .ok (.iconst 0, 1) := by decide +kernel
theorem dX7_fitsAt_117 : decode cX7_fitsAt 117 = .ok (.istore 5, 2) := by decide +kernel
theorem dX7_fitsAt_119 : decode cX7_fitsAt 119 = .ok (.iload 5, 2) := by decide +kernel
theorem dX7_fitsAt_121 : decode cX7_fitsAt 121 = .ok (.iload_n 1, 1) := by decide +kernel
theorem dX7_fitsAt_122 : decode cX7_fitsAt 122 = .ok (.if_icmp .ge 32, 3) := by decide +kernel
theorem dX7_fitsAt_125 : decode cX7_fitsAt 125 = .ok (.iload 4, 2) := by decide +kernel
theorem dX7_fitsAt_127 : decode cX7_fitsAt 127 = .ok (.ifCond .eq 18, 3) := by decide +kernel
theorem dX7_fitsAt_130 : decode cX7_fitsAt 130 = .ok (.aload_n 0, 1) := by decide +kernel
theorem dX7_fitsAt_131 : decode cX7_fitsAt 131 = .ok (.getfield 34, 3) := by decide +kernel
theorem dX7_fitsAt_134 : decode cX7_fitsAt 134 = .ok (.iload 5, 2) := by decide +kernel
theorem dX7_fitsAt_136 : decode cX7_fitsAt 136 = .ok (.iaload, 1) := by decide +kernel
theorem dX7_fitsAt_137 : decode cX7_fitsAt 137 = .ok (.iload_n 3, 1) := by decide +kernel
theorem dX7_fitsAt_138 : decode cX7_fitsAt 138 = .ok (.if_icmp .eq 7, 3) := by decide +kernel
theorem dX7_fitsAt_141 : decode cX7_fitsAt 141 = .ok (.iconst 1, 1) := by decide +kernel
theorem dX7_fitsAt_142 : decode cX7_fitsAt 142 = .ok (.goto 4, 3) := by decide +kernel
theorem dX7_fitsAt_145 : decode cX7_fitsAt 145 = .ok (.iconst 0, 1) := by decide +kernel
theorem dX7_fitsAt_146 : decode cX7_fitsAt 146 = .ok (.istore 4, 2) := by decide +kernel
theorem dX7_fitsAt_148 : decode cX7_fitsAt 148 = .ok (.iinc 5 1, 3) := by decide +kernel
theorem dX7_fitsAt_151 : decode cX7_fitsAt 151 = .ok (.goto (-32), 3) := by decide +kernel
theorem dX7_fitsAt_154 : decode cX7_fitsAt 154 = .ok (.iload 4, 2) := by decide +kernel
theorem dX7_fitsAt_156 : decode cX7_fitsAt 156 = .ok (.ireturn, 1) := by decide +kernel
set_option maxRecDepth 20000 in
theorem ggX7_canSay_X7_fitsAt : GoodIn wsX7_canSay wsX7_fitsAt := goodIn_r _ [6, 1, 7, 8, 9, 10, 11, 5, 12, 13, 14, 15, 16, 17, 18, 19, 20, 21, 22, 23, 24, 25, 26, 27, 28, 29, 30, 31, 32, 33, 34, 35, 36] (by decide +kernel) (by decide +kernel)
set_option maxRecDepth 20000 in
theorem gX7_canSay_X7_fitsAt : GoodIn wsX7_canSay (wsV RX7 132 RX7 yX7_fitsAt wsX7_fitsAt) := goodIn_app (goodIn_of _ (by decide +kernel)) ggX7_canSay_X7_fitsAt
theorem dX7_canSay_0 : decode cX7_canSay 0 = .ok (.iconst 0, 1) := by decide +kernel
theorem dX7_canSay_1 : decode cX7_canSay 1 = .ok (.istore_n 2, 1) := by decide +kernel
theorem dX7_canSay_2 : decode cX7_canSay 2 = .ok (.aload_n 0, 1) := by decide +kernel
theorem dX7_canSay_3 : decode cX7_canSay 3 = .ok (.getfield 34, 3) := by decide +kernel
theorem dX7_canSay_6 : decode cX7_canSay 6 = .ok (.iconst 0, 1) := by decide +kernel
theorem dX7_canSay_7 : decode cX7_canSay 7 = .ok (.iconst (-1), 1) := by decide +kernel
theorem dX7_canSay_8 : decode cX7_canSay 8 = .ok (.iastore, 1) := by decide +kernel
theorem dX7_canSay_9 : decode cX7_canSay 9 = .ok (.iload_n 2, 1) := by decide +kernel
theorem dX7_canSay_10 : decode cX7_canSay 10 = .ok (.ifCond .lt 62, 3) := by decide +kernel
theorem dX7_canSay_13 : decode cX7_canSay 13 = .ok (.iload_n 2, 1) := by decide +kernel
theorem dX7_canSay_14 : decode cX7_canSay 14 = .ok (.iload_n 1, 1) := by decide +kernel
theorem dX7_canSay_15 : decode cX7_canSay 15 = .ok (.if_icmp .ge 57, 3) := by decide +kernel
theorem dX7_canSay_18 : decode cX7_canSay 18 = .ok (.aload_n 0, 1) := by decide +kernel
theorem dX7_canSay_19 : decode cX7_canSay 19 = .ok (.getfield 34, 3) := by decide +kernel
theorem dX7_canSay_22 : decode cX7_canSay 22 = .ok (.iload_n 2, 1) := by decide +kernel
theorem dX7_canSay_23 : decode cX7_canSay 23 = .ok (.dup2, 1) := by decide +kernel
theorem dX7_canSay_24 : decode cX7_canSay 24 = .ok (.iaload, 1) := by decide +kernel
theorem dX7_canSay_25 : decode cX7_canSay 25 = .ok (.iconst 1, 1) := by decide +kernel
theorem dX7_canSay_26 : decode cX7_canSay 26 = .ok (.iadd, 1) := by decide +kernel
theorem dX7_canSay_27 : decode cX7_canSay 27 = .ok (.iastore, 1) := by decide +kernel
theorem dX7_canSay_28 : decode cX7_canSay 28 = .ok (.aload_n 0, 1) := by decide +kernel
end
section
theorem dX7_canSay_29 : decode cX7_canSay 29 = .ok (.getfield 34, 3) := by decide +kernel
theorem dX7_canSay_32 : decode cX7_canSay 32 = .ok (.iload_n 2, 1) := by decide +kernel
theorem dX7_canSay_33 : decode cX7_canSay 33 = .ok (.iaload, 1) := by decide +kernel
theorem dX7_canSay_34 : decode cX7_canSay 34 = .ok (.bipush 9, 2) := by decide +kernel
theorem dX7_canSay_36 : decode cX7_canSay 36 = .ok (.if_icmp .le 9, 3) := by decide +kernel
theorem dX7_canSay_39 : decode cX7_canSay 39 = .ok (.iinc 2 (-1), 3) := by decide +kernel
theorem dX7_canSay_42 : decode cX7_canSay 42 = .ok (.goto (-33), 3) := by decide +kernel
theorem dX7_canSay_45 : decode cX7_canSay 45 = .ok (.aload_n 0, 1) := by decide +kernel
theorem dX7_canSay_46 : decode cX7_canSay 46 = .ok (.iload_n 2, 1) := by decide +kernel
theorem dX7_canSay_47 : decode cX7_canSay 47 = .ok (.iload_n 1, 1) := by decide +kernel
theorem dX7_canSay_48 : decode cX7_canSay 48 = .ok (.invokevirtual 132, 3) := by decide +kernel
theorem dX7_canSay_51 : decode cX7_canSay 51 = .ok (.ifCond .eq (-42), 3) := by decide +kernel
theorem dX7_canSay_54 : decode cX7_canSay 54 = .ok (.iinc 2 1, 3) := by decide +kernel
theorem dX7_canSay_57 : decode cX7_canSay 57 = .ok (.iload_n 2, 1) := by decide +kernel
theorem dX7_canSay_58 : decode cX7_canSay 58 = .ok (.iload_n 1, 1) := by decide +kernel
theorem dX7_canSay_59 : decode cX7_canSay 59 = .ok (.if_icmp .ge (-50), 3) := by decide +kernel
theorem dX7_canSay_62 : decode cX7_canSay 62 = .ok (.aload_n 0, 1) := by decide +kernel
theorem dX7_canSay_63 : decode cX7_canSay 63 = .ok (.getfield 34, 3) := by decide +kernel
theorem dX7_canSay_66 : decode cX7_canSay 66 = .ok (.iload_n 2, 1) := by decide +kernel
theorem dX7_canSay_67 : decode cX7_canSay 67 = .ok (.iconst (-1), 1) := by decide +kernel
theorem dX7_canSay_68 : decode cX7_canSay 68 = .ok (.iastore, 1) := by decide +kernel
theorem dX7_canSay_69 : decode cX7_canSay 69 = .ok (.goto (-60), 3) := by decide +kernel
theorem dX7_canSay_72 : decode cX7_canSay 72 = .ok (.iload_n 2, 1) := by decide +kernel
theorem dX7_canSay_73 : decode cX7_canSay 73 = .ok (.iload_n 1, 1) := by decide +kernel
theorem dX7_canSay_74 : decode cX7_canSay 74 = .ok (.if_icmp .ne 7, 3) := by decide +kernel
theorem dX7_canSay_77 : decode cX7_canSay 77 = .ok (.iconst 1, 1) := by decide +kernel
theorem dX7_canSay_78 : decode cX7_canSay 78 = .ok (.goto 4, 3) := by decide +kernel
theorem dX7_canSay_81 : decode cX7_canSay 81 = .ok (.iconst 0, 1) := by decide +kernel
theorem dX7_canSay_82 : decode cX7_canSay 82 = .ok (.ireturn, 1) := by decide +kernel
set_option maxRecDepth 20000 in
theorem ggX7_layRow_X7_bits : GoodIn wsX7_layRow wsX7_bits := goodIn_r _ [5] (by decide +kernel) (by decide +kernel)
set_option maxRecDepth 20000 in
theorem gX7_layRow_X7_bits : GoodIn wsX7_layRow (va_wsS RX7 81 yX7_bits wsX7_bits) := goodIn_app (goodIn_of _ (by decide +kernel)) ggX7_layRow_X7_bits
theorem dX7_layRow_0 : decode cX7_layRow 0 = .ok (.iload_n 1, 1) := by decide +kernel
theorem dX7_layRow_1 : decode cX7_layRow 1 = .ok (.istore 4, 2) := by decide +kernel
theorem dX7_layRow_3 : decode cX7_layRow 3 = .ok (.iconst 0, 1) := by decide +kernel
theorem dX7_layRow_4 : decode cX7_layRow 4 = .ok (.istore 5, 2) := by decide +kernel
theorem dX7_layRow_6 : decode cX7_layRow 6 = .ok (.iconst 0, 1) := by decide +kernel
theorem dX7_layRow_7 : decode cX7_layRow 7 = .ok (.istore 6, 2) := by decide +kernel
theorem dX7_layRow_9 : decode cX7_layRow 9 = .ok (.iload 6, 2) := by decide +kernel
theorem dX7_layRow_11 : decode cX7_layRow 11 = .ok (.iload_n 3, 1) := by decide +kernel
theorem dX7_layRow_12 : decode cX7_layRow 12 = .ok (.if_icmp .ge 40, 3) := by decide +kernel
theorem dX7_layRow_15 : decode cX7_layRow 15 = .ok (.aload_n 0, 1) := by decide +kernel
theorem dX7_layRow_16 : decode cX7_layRow 16 = .ok (.getfield 31, 3) := by decide +kernel
theorem dX7_layRow_19 : decode cX7_layRow 19 = .ok (.iload 6, 2) := by decide +kernel
theorem dX7_layRow_21 : decode cX7_layRow 21 = .ok (.iload 4, 2) := by decide +kernel
theorem dX7_layRow_23 : decode cX7_layRow 23 = .ok (.iconst 5, 1) := by decide +kernel
theorem dX7_layRow_24 : decode cX7_layRow 24 = .ok (.irem, 1) := by decide +kernel
theorem dX7_layRow_25 : decode cX7_layRow 25 = .ok (.iastore, 1) := by decide +kernel
theorem dX7_layRow_26 : decode cX7_layRow 26 = .ok (.iload 4, 2) := by decide +kernel
theorem dX7_layRow_28 : decode cX7_layRow 28 = .ok (.iconst 5, 1) := by decide +kernel
theorem dX7_layRow_29 : decode cX7_layRow 29 = .ok (.idiv, 1) := by decide +kernel
theorem dX7_layRow_30 : decode cX7_layRow 30 = .ok (.istore 4, 2) := by decide +kernel
theorem dX7_layRow_32 : decode cX7_layRow 32 = .ok (.iload 5, 2) := by decide +kernel
theorem dX7_layRow_34 : decode cX7_layRow 34 = .ok (.iconst 1, 1) := by decide +kernel
theorem dX7_layRow_35 : decode cX7_layRow 35 = .ok (.aload_n 0, 1) := by decide +kernel
theorem dX7_layRow_36 : decode cX7_layRow 36 = .ok (.getfield 31, 3) := by decide +kernel
theorem dX7_layRow_39 : decode cX7_layRow 39 = .ok (.iload 6, 2) := by decide +kernel
theorem dX7_layRow_41 : decode cX7_layRow 41 = .ok (.iaload, 1) := by decide +kernel
theorem dX7_layRow_42 : decode cX7_layRow 42 = .ok (.ishl, 1) := by decide +kernel
theorem dX7_layRow_43 : decode cX7_layRow 43 = .ok (.ior, 1) := by decide +kernel
theorem dX7_layRow_44 : decode cX7_layRow 44 = .ok (.istore 5, 2) := by decide +kernel
theorem dX7_layRow_46 : decode cX7_layRow 46 = .ok (.iinc 6 1, 3) := by decide +kernel
theorem dX7_layRow_49 : decode cX7_layRow 49 = .ok (.goto (-40), 3) := by decide +kernel
theorem dX7_layRow_52 : decode cX7_layRow 52 = .ok (.iload 5, 2) := by decide +kernel
theorem dX7_layRow_54 : decode cX7_layRow 54 = .ok (.iload_n 2, 1) := by decide +kernel
theorem dX7_layRow_55 : decode cX7_layRow 55 = .ok (.if_icmp .ne 16, 3) := by decide +kernel
theorem dX7_layRow_58 : decode cX7_layRow 58 = .ok (.iload 5, 2) := by decide +kernel
theorem dX7_layRow_60 : decode cX7_layRow 60 = .ok (.invokestatic 81, 3) := by decide +kernel
theorem dX7_layRow_63 : decode cX7_layRow 63 = .ok (.iload_n 3, 1) := by decide +kernel
theorem dX7_layRow_64 : decode cX7_layRow 64 = .ok (.if_icmp .ne 7, 3) := by decide +kernel
theorem dX7_layRow_67 : decode cX7_layRow 67 = .ok (.iconst 1, 1) := by decide +kernel
theorem dX7_layRow_68 : decode cX7_layRow 68 = .ok (.goto 4, 3) := by decide +kernel
theorem dX7_layRow_71 : decode cX7_layRow 71 = .ok (.iconst 0, 1) := by decide +kernel
theorem dX7_layRow_72 : decode cX7_layRow 72 = .ok (.ireturn, 1) := by decide +kernel
set_option maxRecDepth 20000 in
theorem ggX7_layDay_X7_bits : GoodIn wsX7_layDay wsX7_bits := goodIn_r _ [5] (by decide +kernel) (by decide +kernel)
set_option maxRecDepth 20000 in
theorem gX7_layDay_X7_bits : GoodIn wsX7_layDay (va_wsS RX7 81 yX7_bits wsX7_bits) := goodIn_app (goodIn_of _ (by decide +kernel)) ggX7_layDay_X7_bits
set_option maxRecDepth 20000 in
theorem ggX7_layDay_X7_layRow : GoodIn wsX7_layDay wsX7_layRow := goodIn_r _ [9, 10, 2, 3, 4, 5, 31, 32, 33, 34, 35, 36, 37, 38, 39, 40, 41, 42, 43, 44, 45, 46, 47, 48] (by decide +kernel) (by decide +kernel)
set_option maxRecDepth 20000 in
theorem gX7_layDay_X7_layRow : GoodIn wsX7_layDay (wsV RX7 135 RX7 yX7_layRow wsX7_layRow) := goodIn_app (goodIn_of _ (by decide +kernel)) ggX7_layDay_X7_layRow
set_option maxRecDepth 20000 in
theorem ggX7_layDay_X7_canSay : GoodIn wsX7_layDay wsX7_canSay := goodIn_r _ [14, 15, 16, 17, 18, 4, 19, 20, 10, 21, 22, 23, 24, 25, 26, 27, 28, 29, 30, 31, 32, 33, 34, 35, 36, 37, 38, 39, 40, 41, 42, 43, 44, 45, 46, 47, 48] (by decide +kernel) (by decide +kernel)
set_option maxRecDepth 20000 in
theorem gX7_layDay_X7_canSay : GoodIn wsX7_layDay (wsV RX7 138 RX7 yX7_canSay wsX7_canSay) := goodIn_app (goodIn_of _ (by decide +kernel)) ggX7_layDay_X7_canSay
theorem dX7_layDay_0 : decode cX7_layDay 0 = .ok (.iload_n 1, 1) := by decide +kernel
theorem dX7_layDay_1 : decode cX7_layDay 1 = .ok (.invokestatic 81, 3) := by decide +kernel
theorem dX7_layDay_4 : decode cX7_layDay 4 = .ok (.istore_n 2, 1) := by decide +kernel
theorem dX7_layDay_5 : decode cX7_layDay 5 = .ok (.iconst 1, 1) := by decide +kernel
theorem dX7_layDay_6 : decode cX7_layDay 6 = .ok (.istore_n 3, 1) := by decide +kernel
theorem dX7_layDay_7 : decode cX7_layDay 7 = .ok (.iconst 0, 1) := by decide +kernel
theorem dX7_layDay_8 : decode cX7_layDay 8 = .ok (.istore 4, 2) := by decide +kernel
theorem dX7_layDay_10 : decode cX7_layDay 10 = .ok (.iload 4, 2) := by decide +kernel
theorem dX7_layDay_12 : decode cX7_layDay 12 = .ok (.iload_n 2, 1) := by decide +kernel
theorem dX7_layDay_13 : decode cX7_layDay 13 = .ok (.if_icmp .ge 13, 3) := by decide +kernel
theorem dX7_layDay_16 : decode cX7_layDay 16 = .ok (.iload_n 3, 1) := by decide +kernel
theorem dX7_layDay_17 : decode cX7_layDay 17 = .ok (.iconst 5, 1) := by decide +kernel
theorem dX7_layDay_18 : decode cX7_layDay 18 = .ok (.imul, 1) := by decide +kernel
theorem dX7_layDay_19 : decode cX7_layDay 19 = .ok (.istore_n 3, 1) := by decide +kernel
theorem dX7_layDay_20 : decode cX7_layDay 20 = .ok (.iinc 4 1, 3) := by decide +kernel
theorem dX7_layDay_23 : decode cX7_layDay 23 = .ok (.goto (-13), 3) := by decide +kernel
theorem dX7_layDay_26 : decode cX7_layDay 26 = .ok (.aload_n 0, 1) := by decide +kernel
theorem dX7_layDay_27 : decode cX7_layDay 27 = .ok (.getfield 37, 3) := by decide +kernel
theorem dX7_layDay_30 : decode cX7_layDay 30 = .ok (.iload_n 1, 1) := by decide +kernel
theorem dX7_layDay_31 : decode cX7_layDay 31 = .ok (.iload_n 2, 1) := by decide +kernel
theorem dX7_layDay_32 : decode cX7_layDay 32 = .ok (.ifCond .ne 7, 3) := by decide +kernel
theorem dX7_layDay_35 : decode cX7_layDay 35 = .ok (.iconst 1, 1) := by decide +kernel
theorem dX7_layDay_36 : decode cX7_layDay 36 = .ok (.goto 4, 3) := by decide +kernel
theorem dX7_layDay_39 : decode cX7_layDay 39 = .ok (.iconst 0, 1) := by decide +kernel
theorem dX7_layDay_40 : decode cX7_layDay 40 = .ok (.bastore, 1) := by decide +kernel
theorem dX7_layDay_41 : decode cX7_layDay 41 = .ok (.iconst 0, 1) := by decide +kernel
theorem dX7_layDay_42 : decode cX7_layDay 42 = .ok (.istore 4, 2) := by decide +kernel
theorem dX7_layDay_44 : decode cX7_layDay 44 = .ok (.iload 4, 2) := by decide +kernel
theorem dX7_layDay_46 : decode cX7_layDay 46 = .ok (.iload_n 3, 1) := by decide +kernel
theorem dX7_layDay_47 : decode cX7_layDay 47 = .ok (.if_icmp .ge 48, 3) := by decide +kernel
theorem dX7_layDay_50 : decode cX7_layDay 50 = .ok (.aload_n 0, 1) := by decide +kernel
theorem dX7_layDay_51 : decode cX7_layDay 51 = .ok (.getfield 37, 3) := by decide +kernel
theorem dX7_layDay_54 : decode cX7_layDay 54 = .ok (.iload_n 1, 1) := by decide +kernel
theorem dX7_layDay_55 : decode cX7_layDay 55 = .ok (.baload, 1) := by decide +kernel
theorem dX7_layDay_56 : decode cX7_layDay 56 = .ok (.ifCond .ne 39, 3) := by decide +kernel
theorem dX7_layDay_59 : decode cX7_layDay 59 = .ok (.aload_n 0, 1) := by decide +kernel
theorem dX7_layDay_60 : decode cX7_layDay 60 = .ok (.getfield 37, 3) := by decide +kernel
theorem dX7_layDay_63 : decode cX7_layDay 63 = .ok (.iload_n 1, 1) := by decide +kernel
theorem dX7_layDay_64 : decode cX7_layDay 64 = .ok (.aload_n 0, 1) := by decide +kernel
theorem dX7_layDay_65 : decode cX7_layDay 65 = .ok (.iload 4, 2) := by decide +kernel
theorem dX7_layDay_67 : decode cX7_layDay 67 = .ok (.iload_n 1, 1) := by decide +kernel
theorem dX7_layDay_68 : decode cX7_layDay 68 = .ok (.iload_n 2, 1) := by decide +kernel
theorem dX7_layDay_69 : decode cX7_layDay 69 = .ok (.invokevirtual 135, 3) := by decide +kernel
theorem dX7_layDay_72 : decode cX7_layDay 72 = .ok (.ifCond .eq 15, 3) := by decide +kernel
theorem dX7_layDay_75 : decode cX7_layDay 75 = .ok (.aload_n 0, 1) := by decide +kernel
theorem dX7_layDay_76 : decode cX7_layDay 76 = .ok (.iload_n 2, 1) := by decide +kernel
theorem dX7_layDay_77 : decode cX7_layDay 77 = .ok (.invokevirtual 138, 3) := by decide +kernel
theorem dX7_layDay_80 : decode cX7_layDay 80 = .ok (.ifCond .eq 7, 3) := by decide +kernel
theorem dX7_layDay_83 : decode cX7_layDay 83 = .ok (.iconst 1, 1) := by decide +kernel
theorem dX7_layDay_84 : decode cX7_layDay 84 = .ok (.goto 4, 3) := by decide +kernel
theorem dX7_layDay_87 : decode cX7_layDay 87 = .ok (.iconst 0, 1) := by decide +kernel
theorem dX7_layDay_88 : decode cX7_layDay 88 = .ok (.bastore, 1) := by decide +kernel
theorem dX7_layDay_89 : decode cX7_layDay 89 = .ok (.iinc 4 1, 3) := by decide +kernel
theorem dX7_layDay_92 : decode cX7_layDay 92 = .ok (.goto (-48), 3) := by decide +kernel
theorem dX7_layDay_95 : decode cX7_layDay 95 = .ok (.return_, 1) := by decide +kernel
set_option maxRecDepth 20000 in
theorem ggX7_crowd_X7_in : GoodIn wsX7_crowd wsX7_in := goodIn_r _ [6] (by decide +kernel) (by decide +kernel)
set_option maxRecDepth 20000 in
theorem gX7_crowd_X7_in : GoodIn wsX7_crowd (va_wsS RX7 59 yX7_in wsX7_in) := goodIn_app (goodIn_of _ (by decide +kernel)) ggX7_crowd_X7_in
set_option maxRecDepth 20000 in
theorem ggX7_crowd_X7_layDay : GoodIn wsX7_crowd wsX7_layDay := goodIn_r _ [10, 2, 11, 12, 5, 13, 14, 15, 16, 17, 18, 19, 20, 21, 22, 23, 24, 25, 26, 27, 28, 29, 30, 31, 32, 33, 34, 35, 36, 37, 38, 39, 40, 41, 42, 43, 44, 45, 46, 47, 48, 49, 50, 51, 52, 53, 54, 55, 56] (by decide +kernel) (by decide +kernel)
set_option maxRecDepth 20000 in
theorem gX7_crowd_X7_layDay : GoodIn wsX7_crowd (wsV RX7 141 RX7 yX7_layDay wsX7_layDay) := goodIn_app (goodIn_of _ (by decide +kernel)) ggX7_crowd_X7_layDay
theorem dX7_crowd_0 : decode cX7_crowd 0 = .ok (.iload_n 1, 1) := by decide +kernel
theorem dX7_crowd_1 : decode cX7_crowd 1 = .ok (.iconst 0, 1) := by decide +kernel
theorem dX7_crowd_2 : decode cX7_crowd 2 = .ok (.bipush 31, 2) := by decide +kernel
theorem dX7_crowd_4 : decode cX7_crowd 4 = .ok (.invokestatic 59, 3) := by decide +kernel
theorem dX7_crowd_7 : decode cX7_crowd 7 = .ok (.ifCond .eq 12, 3) := by decide +kernel
theorem dX7_crowd_10 : decode cX7_crowd 10 = .ok (.iload_n 2, 1) := by decide +kernel
theorem dX7_crowd_11 : decode cX7_crowd 11 = .ok (.iconst 0, 1) := by decide +kernel
theorem dX7_crowd_12 : decode cX7_crowd 12 = .ok (.iconst 1, 1) := by decide +kernel
theorem dX7_crowd_13 : decode cX7_crowd 13 = .ok (.invokestatic 59, 3) := by decide +kernel
theorem dX7_crowd_16 : decode cX7_crowd 16 = .ok (.ifCond .ne 6, 3) := by decide +kernel
theorem dX7_crowd_19 : decode cX7_crowd 19 = .ok (.bipush (-2), 2) := by decide +kernel
theorem dX7_crowd_21 : decode cX7_crowd 21 = .ok (.ireturn, 1) := by decide +kernel
theorem dX7_crowd_22 : decode cX7_crowd 22 = .ok (.iconst 0, 1) := by decide +kernel
theorem dX7_crowd_23 : decode cX7_crowd 23 = .ok (.istore_n 3, 1) := by decide +kernel
theorem dX7_crowd_24 : decode cX7_crowd 24 = .ok (.iload_n 3, 1) := by decide +kernel
theorem dX7_crowd_25 : decode cX7_crowd 25 = .ok (.bipush 32, 2) := by decide +kernel
theorem dX7_crowd_27 : decode cX7_crowd 27 = .ok (.if_icmp .ge 148, 3) := by decide +kernel
theorem dX7_crowd_30 : decode cX7_crowd 30 = .ok (.iload_n 3, 1) := by decide +kernel
theorem dX7_crowd_31 : decode cX7_crowd 31 = .ok (.iload_n 1, 1) := by decide +kernel
theorem dX7_crowd_32 : decode cX7_crowd 32 = .ok (.iconst (-1), 1) := by decide +kernel
theorem dX7_crowd_33 : decode cX7_crowd 33 = .ok (.ixor, 1) := by decide +kernel
theorem dX7_crowd_34 : decode cX7_crowd 34 = .ok (.iand, 1) := by decide +kernel
theorem dX7_crowd_35 : decode cX7_crowd 35 = .ok (.ifCond .ne 134, 3) := by decide +kernel
theorem dX7_crowd_38 : decode cX7_crowd 38 = .ok (.aload_n 0, 1) := by decide +kernel
theorem dX7_crowd_39 : decode cX7_crowd 39 = .ok (.iload_n 3, 1) := by decide +kernel
theorem dX7_crowd_40 : decode cX7_crowd 40 = .ok (.invokevirtual 141, 3) := by decide +kernel
theorem dX7_crowd_43 : decode cX7_crowd 43 = .ok (.aload_n 0, 1) := by decide +kernel
theorem dX7_crowd_44 : decode cX7_crowd 44 = .ok (.getfield 41, 3) := by decide +kernel
theorem dX7_crowd_47 : decode cX7_crowd 47 = .ok (.iload_n 3, 1) := by decide +kernel
theorem dX7_crowd_48 : decode cX7_crowd 48 = .ok (.iload_n 3, 1) := by decide +kernel
theorem dX7_crowd_49 : decode cX7_crowd 49 = .ok (.ifCond .ne 7, 3) := by decide +kernel
theorem dX7_crowd_52 : decode cX7_crowd 52 = .ok (.iconst 0, 1) := by decide +kernel
theorem dX7_crowd_53 : decode cX7_crowd 53 = .ok (.goto 5, 3) := by decide +kernel
theorem dX7_crowd_56 : decode cX7_crowd 56 = .ok (.bipush (-6), 2) := by decide +kernel
theorem dX7_crowd_58 : decode cX7_crowd 58 = .ok (.iastore, 1) := by decide +kernel
theorem dX7_crowd_59 : decode cX7_crowd 59 = .ok (.iconst 1, 1) := by decide +kernel
theorem dX7_crowd_60 : decode cX7_crowd 60 = .ok (.istore 4, 2) := by decide +kernel
theorem dX7_crowd_62 : decode cX7_crowd 62 = .ok (.iload 4, 2) := by decide +kernel
theorem dX7_crowd_64 : decode cX7_crowd 64 = .ok (.iload_n 3, 1) := by decide +kernel
theorem dX7_crowd_65 : decode cX7_crowd 65 = .ok (.if_icmp .gt 104, 3) := by decide +kernel
theorem dX7_crowd_68 : decode cX7_crowd 68 = .ok (.iload 4, 2) := by decide +kernel
theorem dX7_crowd_70 : decode cX7_crowd 70 = .ok (.iload_n 3, 1) := by decide +kernel
theorem dX7_crowd_71 : decode cX7_crowd 71 = .ok (.iconst (-1), 1) := by decide +kernel
theorem dX7_crowd_72 : decode cX7_crowd 72 = .ok (.ixor, 1) := by decide +kernel
theorem dX7_crowd_73 : decode cX7_crowd 73 = .ok (.iand, 1) := by decide +kernel
theorem dX7_crowd_74 : decode cX7_crowd 74 = .ok (.ifCond .ne 31, 3) := by decide +kernel
theorem dX7_crowd_77 : decode cX7_crowd 77 = .ok (.aload_n 0, 1) := by decide +kernel
theorem dX7_crowd_78 : decode cX7_crowd 78 = .ok (.getfield 37, 3) := by decide +kernel
theorem dX7_crowd_81 : decode cX7_crowd 81 = .ok (.iload 4, 2) := by decide +kernel
theorem dX7_crowd_83 : decode cX7_crowd 83 = .ok (.baload, 1) := by decide +kernel
theorem dX7_crowd_84 : decode cX7_crowd 84 = .ok (.ifCond .eq 21, 3) := by decide +kernel
theorem dX7_crowd_87 : decode cX7_crowd 87 = .ok (.aload_n 0, 1) := by decide +kernel
theorem dX7_crowd_88 : decode cX7_crowd 88 = .ok (.getfield 41, 3) := by decide +kernel
theorem dX7_crowd_91 : decode cX7_crowd 91 = .ok (.iload_n 3, 1) := by decide +kernel
theorem dX7_crowd_92 : decode cX7_crowd 92 = .ok (.iload 4, 2) := by decide +kernel
theorem dX7_crowd_94 : decode cX7_crowd 94 = .ok (.iconst (-1), 1) := by decide +kernel
theorem dX7_crowd_95 : decode cX7_crowd 95 = .ok (.ixor, 1) := by decide +kernel
theorem dX7_crowd_96 : decode cX7_crowd 96 = .ok (.iand, 1) := by decide +kernel
theorem dX7_crowd_97 : decode cX7_crowd 97 = .ok (.iaload, 1) := by decide +kernel
theorem dX7_crowd_98 : decode cX7_crowd 98 = .ok (.ifCond .lt 7, 3) := by decide +kernel
theorem dX7_crowd_101 : decode cX7_crowd 101 = .ok (.iconst 1, 1) := by decide +kernel
theorem dX7_crowd_102 : decode cX7_crowd 102 = .ok (.goto 4, 3) := by decide +kernel
theorem dX7_crowd_105 : decode cX7_crowd 105 = .ok (.iconst 0, 1) := by decide +kernel
theorem dX7_crowd_106 : decode cX7_crowd 106 = .ok (.istore 5, 2) := by decide +kernel
theorem dX7_crowd_108 : decode cX7_crowd 108 = .ok (.iload 5, 2) := by decide +kernel
theorem dX7_crowd_110 : decode cX7_crowd 110 = .ok (.ifCond .eq 53, 3) := by decide +kernel
theorem dX7_crowd_113 : decode cX7_crowd 113 = .ok (.aload_n 0, 1) := by decide +kernel
theorem dX7_crowd_114 : decode cX7_crowd 114 = .ok (.getfield 41, 3) := by decide +kernel
theorem dX7_crowd_117 : decode cX7_crowd 117 = .ok (.iload_n 3, 1) := by decide +kernel
theorem dX7_crowd_118 : decode cX7_crowd 118 = .ok (.iaload, 1) := by decide +kernel
theorem dX7_crowd_119 : decode cX7_crowd 119 = .ok (.ifCond .lt 25, 3) := by decide +kernel
theorem dX7_crowd_122 : decode cX7_crowd 122 = .ok (.aload_n 0, 1) := by decide +kernel
theorem dX7_crowd_123 : decode cX7_crowd 123 = .ok (.getfield 41, 3) := by decide +kernel
theorem dX7_crowd_126 : decode cX7_crowd 126 = .ok (.iload_n 3, 1) := by decide +kernel
theorem dX7_crowd_127 : decode cX7_crowd 127 = .ok (.iload 4, 2) := by decide +kernel
theorem dX7_crowd_129 : decode cX7_crowd 129 = .ok (.iconst (-1), 1) := by decide +kernel
theorem dX7_crowd_130 : decode cX7_crowd 130 = .ok (.ixor, 1) := by decide +kernel
theorem dX7_crowd_131 : decode cX7_crowd 131 = .ok (.iand, 1) := by decide +kernel
theorem dX7_crowd_132 : decode cX7_crowd 132 = .ok (.iaload, 1) := by decide +kernel
theorem dX7_crowd_133 : decode cX7_crowd 133 = .ok (.iconst 1, 1) := by decide +kernel
theorem dX7_crowd_134 : decode cX7_crowd 134 = .ok (.iadd, 1) := by decide +kernel
theorem dX7_crowd_135 : decode cX7_crowd 135 = .ok (.aload_n 0, 1) := by decide +kernel
theorem dX7_crowd_136 : decode cX7_crowd 136 = .ok (.getfield 41, 3) := by decide +kernel
theorem dX7_crowd_139 : decode cX7_crowd 139 = .ok (.iload_n 3, 1) := by decide +kernel
theorem dX7_crowd_140 : decode cX7_crowd 140 = .ok (.iaload, 1) := by decide +kernel
theorem dX7_crowd_141 : decode cX7_crowd 141 = .ok (.if_icmp .ge 22, 3) := by decide +kernel
theorem dX7_crowd_144 : decode cX7_crowd 144 = .ok (.aload_n 0, 1) := by decide +kernel
theorem dX7_crowd_145 : decode cX7_crowd 145 = .ok (.getfield 41, 3) := by decide +kernel
theorem dX7_crowd_148 : decode cX7_crowd 148 = .ok (.iload_n 3, 1) := by decide +kernel
theorem dX7_crowd_149 : decode cX7_crowd 149 = .ok (.aload_n 0, 1) := by decide +kernel
theorem dX7_crowd_150 : decode cX7_crowd 150 = .ok (.getfield 41, 3) := by decide +kernel
theorem dX7_crowd_153 : decode cX7_crowd 153 = .ok (.iload_n 3, 1) := by decide +kernel
theorem dX7_crowd_154 : decode cX7_crowd 154 = .ok (.iload 4, 2) := by decide +kernel
theorem dX7_crowd_156 : decode cX7_crowd 156 = .ok (.iconst (-1), 1) := by decide +kernel
theorem dX7_crowd_157 : decode cX7_crowd 157 = .ok (.ixor, 1) := by decide +kernel
theorem dX7_crowd_158 : decode cX7_crowd 158 = .ok (.iand, 1) := by decide +kernel
theorem dX7_crowd_159 : decode cX7_crowd 159 = .ok (.iaload, 1) := by decide +kernel
theorem dX7_crowd_160 : decode cX7_crowd 160 = .ok (.iconst 1, 1) := by decide +kernel
theorem dX7_crowd_161 : decode cX7_crowd 161 = .ok (.iadd, 1) := by decide +kernel
theorem dX7_crowd_162 : decode cX7_crowd 162 = .ok (.iastore, 1) := by decide +kernel
theorem dX7_crowd_163 : decode cX7_crowd 163 = .ok (.iinc 4 1, 3) := by decide +kernel
theorem dX7_crowd_166 : decode cX7_crowd 166 = .ok (.goto (-104), 3) := by decide +kernel
theorem dX7_crowd_169 : decode cX7_crowd 169 = .ok (.iinc 3 1, 3) := by decide +kernel
theorem dX7_crowd_172 : decode cX7_crowd 172 = .ok (.goto (-148), 3) := by decide +kernel
theorem dX7_crowd_175 : decode cX7_crowd 175 = .ok (.iload_n 2, 1) := by decide +kernel
theorem dX7_crowd_176 : decode cX7_crowd 176 = .ok (.iconst 1, 1) := by decide +kernel
theorem dX7_crowd_177 : decode cX7_crowd 177 = .ok (.if_icmp .ne 12, 3) := by decide +kernel
theorem dX7_crowd_180 : decode cX7_crowd 180 = .ok (.aload_n 0, 1) := by decide +kernel
theorem dX7_crowd_181 : decode cX7_crowd 181 = .ok (.getfield 41, 3) := by decide +kernel
theorem dX7_crowd_184 : decode cX7_crowd 184 = .ok (.iload_n 1, 1) := by decide +kernel
theorem dX7_crowd_185 : decode cX7_crowd 185 = .ok (.iaload, 1) := by decide +kernel
theorem dX7_crowd_186 : decode cX7_crowd 186 = .ok (.goto 17, 3) := by decide +kernel
theorem dX7_crowd_189 : decode cX7_crowd 189 = .ok (.aload_n 0, 1) := by decide +kernel
theorem dX7_crowd_190 : decode cX7_crowd 190 = .ok (.getfield 37, 3) := by decide +kernel
theorem dX7_crowd_193 : decode cX7_crowd 193 = .ok (.iload_n 1, 1) := by decide +kernel
theorem dX7_crowd_194 : decode cX7_crowd 194 = .ok (.baload, 1) := by decide +kernel
theorem dX7_crowd_195 : decode cX7_crowd 195 = .ok (.ifCond .eq 7, 3) := by decide +kernel
theorem dX7_crowd_198 : decode cX7_crowd 198 = .ok (.iconst 1, 1) := by decide +kernel
theorem dX7_crowd_199 : decode cX7_crowd 199 = .ok (.goto 4, 3) := by decide +kernel
theorem dX7_crowd_202 : decode cX7_crowd 202 = .ok (.iconst 0, 1) := by decide +kernel
theorem dX7_crowd_203 : decode cX7_crowd 203 = .ok (.ireturn, 1) := by decide +kernel
set_option maxRecDepth 20000 in
theorem ggX7_reachOf_X7_has : GoodIn wsX7_reachOf wsX7_has := goodIn_r _ [5] (by decide +kernel) (by decide +kernel)
set_option maxRecDepth 20000 in
theorem gX7_reachOf_X7_has : GoodIn wsX7_reachOf (va_wsS RX7 94 yX7_has wsX7_has) := goodIn_app (goodIn_of _ (by decide +kernel)) ggX7_reachOf_X7_has
theorem dX7_reachOf_0 : decode cX7_reachOf 0 = .ok (.aload_n 0, 1) := by decide +kernel
theorem dX7_reachOf_1 : decode cX7_reachOf 1 = .ok (.getfield 13, 3) := by decide +kernel
theorem dX7_reachOf_4 : decode cX7_reachOf 4 = .ok (.iload_n 1, 1) := by decide +kernel
theorem dX7_reachOf_5 : decode cX7_reachOf 5 = .ok (.iaload, 1) := by decide +kernel
theorem dX7_reachOf_6 : decode cX7_reachOf 6 = .ok (.istore_n 2, 1) := by decide +kernel
theorem dX7_reachOf_7 : decode cX7_reachOf 7 = .ok (.iconst 0, 1) := by decide +kernel
theorem dX7_reachOf_8 : decode cX7_reachOf 8 = .ok (.istore_n 3, 1) := by decide +kernel
theorem dX7_reachOf_9 : decode cX7_reachOf 9 = .ok (.iload_n 3, 1) := by decide +kernel
theorem dX7_reachOf_10 : decode cX7_reachOf 10 = .ok (.bipush 10, 2) := by decide +kernel
theorem dX7_reachOf_12 : decode cX7_reachOf 12 = .ok (.if_icmp .ge 48, 3) := by decide +kernel
theorem dX7_reachOf_15 : decode cX7_reachOf 15 = .ok (.iconst 0, 1) := by decide +kernel
theorem dX7_reachOf_16 : decode cX7_reachOf 16 = .ok (.istore 4, 2) := by decide +kernel
theorem dX7_reachOf_18 : decode cX7_reachOf 18 = .ok (.iload 4, 2) := by decide +kernel
theorem dX7_reachOf_20 : decode cX7_reachOf 20 = .ok (.bipush 10, 2) := by decide +kernel
theorem dX7_reachOf_22 : decode cX7_reachOf 22 = .ok (.if_icmp .ge 32, 3) := by decide +kernel
theorem dX7_reachOf_25 : decode cX7_reachOf 25 = .ok (.iload_n 2, 1) := by decide +kernel
theorem dX7_reachOf_26 : decode cX7_reachOf 26 = .ok (.iload_n 2, 1) := by decide +kernel
theorem dX7_reachOf_27 : decode cX7_reachOf 27 = .ok (.iload 4, 2) := by decide +kernel
theorem dX7_reachOf_29 : decode cX7_reachOf 29 = .ok (.invokestatic 94, 3) := by decide +kernel
theorem dX7_reachOf_32 : decode cX7_reachOf 32 = .ok (.ifCond .eq 13, 3) := by decide +kernel
theorem dX7_reachOf_35 : decode cX7_reachOf 35 = .ok (.aload_n 0, 1) := by decide +kernel
theorem dX7_reachOf_36 : decode cX7_reachOf 36 = .ok (.getfield 13, 3) := by decide +kernel
theorem dX7_reachOf_39 : decode cX7_reachOf 39 = .ok (.iload 4, 2) := by decide +kernel
theorem dX7_reachOf_41 : decode cX7_reachOf 41 = .ok (.iaload, 1) := by decide +kernel
theorem dX7_reachOf_42 : decode cX7_reachOf 42 = .ok (.goto 4, 3) := by decide +kernel
theorem dX7_reachOf_45 : decode cX7_reachOf 45 = .ok (.iconst 0, 1) := by decide +kernel
theorem dX7_reachOf_46 : decode cX7_reachOf 46 = .ok (.ior, 1) := by decide +kernel
theorem dX7_reachOf_47 : decode cX7_reachOf 47 = .ok (.istore_n 2, 1) := by decide +kernel
theorem dX7_reachOf_48 : decode cX7_reachOf 48 = .ok (.iinc 4 1, 3) := by decide +kernel
theorem dX7_reachOf_51 : decode cX7_reachOf 51 = .ok (.goto (-33), 3) := by decide +kernel
theorem dX7_reachOf_54 : decode cX7_reachOf 54 = .ok (.iinc 3 1, 3) := by decide +kernel
theorem dX7_reachOf_57 : decode cX7_reachOf 57 = .ok (.goto (-48), 3) := by decide +kernel
theorem dX7_reachOf_60 : decode cX7_reachOf 60 = .ok (.iload_n 2, 1) := by decide +kernel
theorem dX7_reachOf_61 : decode cX7_reachOf 61 = .ok (.ireturn, 1) := by decide +kernel
set_option maxRecDepth 20000 in
theorem ggX7_rings_X7_in : GoodIn wsX7_rings wsX7_in := goodIn_r _ [5] (by decide +kernel) (by decide +kernel)
set_option maxRecDepth 20000 in
theorem gX7_rings_X7_in : GoodIn wsX7_rings (va_wsS RX7 59 yX7_in wsX7_in) := goodIn_app (goodIn_of _ (by decide +kernel)) ggX7_rings_X7_in
set_option maxRecDepth 20000 in
theorem ggX7_rings_X7_reachOf : GoodIn wsX7_rings wsX7_reachOf := goodIn_r _ [9, 1, 10, 11, 4, 12, 13, 14, 15, 16, 17, 18, 19, 20, 21, 22, 23, 24, 25, 26, 27, 28, 29, 30] (by decide +kernel) (by decide +kernel)
set_option maxRecDepth 20000 in
theorem gX7_rings_X7_reachOf : GoodIn wsX7_rings (wsV RX7 145 RX7 yX7_reachOf wsX7_reachOf) := goodIn_app (goodIn_of _ (by decide +kernel)) ggX7_rings_X7_reachOf
set_option maxRecDepth 20000 in
theorem ggX7_rings_X7_has : GoodIn wsX7_rings wsX7_has := goodIn_r _ [12] (by decide +kernel) (by decide +kernel)
set_option maxRecDepth 20000 in
theorem gX7_rings_X7_has : GoodIn wsX7_rings (va_wsS RX7 94 yX7_has wsX7_has) := goodIn_app (goodIn_of _ (by decide +kernel)) ggX7_rings_X7_has
theorem dX7_rings_0 : decode cX7_rings 0 = .ok (.iload_n 1, 1) := by decide +kernel
theorem dX7_rings_1 : decode cX7_rings 1 = .ok (.iconst 0, 1) := by decide +kernel
theorem dX7_rings_2 : decode cX7_rings 2 = .ok (.iconst 1, 1) := by decide +kernel
theorem dX7_rings_3 : decode cX7_rings 3 = .ok (.invokestatic 59, 3) := by decide +kernel
theorem dX7_rings_6 : decode cX7_rings 6 = .ok (.ifCond .ne 6, 3) := by decide +kernel
theorem dX7_rings_9 : decode cX7_rings 9 = .ok (.bipush (-2), 2) := by decide +kernel
theorem dX7_rings_11 : decode cX7_rings 11 = .ok (.ireturn, 1) := by decide +kernel
theorem dX7_rings_12 : decode cX7_rings 12 = .ok (.iconst 0, 1) := by decide +kernel
theorem dX7_rings_13 : decode cX7_rings 13 = .ok (.istore_n 2, 1) := by decide +kernel
theorem dX7_rings_14 : decode cX7_rings 14 = .ok (.iconst 0, 1) := by decide +kernel
theorem dX7_rings_15 : decode cX7_rings 15 = .ok (.istore_n 3, 1) := by decide +kernel
theorem dX7_rings_16 : decode cX7_rings 16 = .ok (.iload_n 3, 1) := by decide +kernel
theorem dX7_rings_17 : decode cX7_rings 17 = .ok (.bipush 10, 2) := by decide +kernel
theorem dX7_rings_19 : decode cX7_rings 19 = .ok (.if_icmp .ge 56, 3) := by decide +kernel
theorem dX7_rings_22 : decode cX7_rings 22 = .ok (.iload_n 1, 1) := by decide +kernel
theorem dX7_rings_23 : decode cX7_rings 23 = .ok (.ifCond .ne 15, 3) := by decide +kernel
theorem dX7_rings_26 : decode cX7_rings 26 = .ok (.aload_n 0, 1) := by decide +kernel
theorem dX7_rings_27 : decode cX7_rings 27 = .ok (.iload_n 3, 1) := by decide +kernel
theorem dX7_rings_28 : decode cX7_rings 28 = .ok (.invokevirtual 145, 3) := by decide +kernel
theorem dX7_rings_31 : decode cX7_rings 31 = .ok (.iload_n 3, 1) := by decide +kernel
theorem dX7_rings_32 : decode cX7_rings 32 = .ok (.invokestatic 94, 3) := by decide +kernel
theorem dX7_rings_35 : decode cX7_rings 35 = .ok (.goto 17, 3) := by decide +kernel
theorem dX7_rings_38 : decode cX7_rings 38 = .ok (.aload_n 0, 1) := by decide +kernel
theorem dX7_rings_39 : decode cX7_rings 39 = .ok (.getfield 13, 3) := by decide +kernel
theorem dX7_rings_42 : decode cX7_rings 42 = .ok (.iload_n 3, 1) := by decide +kernel
theorem dX7_rings_43 : decode cX7_rings 43 = .ok (.iaload, 1) := by decide +kernel
theorem dX7_rings_44 : decode cX7_rings 44 = .ok (.ifCond .ne 7, 3) := by decide +kernel
theorem dX7_rings_47 : decode cX7_rings 47 = .ok (.iconst 1, 1) := by decide +kernel
theorem dX7_rings_48 : decode cX7_rings 48 = .ok (.goto 4, 3) := by decide +kernel
theorem dX7_rings_51 : decode cX7_rings 51 = .ok (.iconst 0, 1) := by decide +kernel
theorem dX7_rings_52 : decode cX7_rings 52 = .ok (.istore 4, 2) := by decide +kernel
theorem dX7_rings_54 : decode cX7_rings 54 = .ok (.iload_n 2, 1) := by decide +kernel
theorem dX7_rings_55 : decode cX7_rings 55 = .ok (.iload 4, 2) := by decide +kernel
theorem dX7_rings_57 : decode cX7_rings 57 = .ok (.ifCond .eq 9, 3) := by decide +kernel
theorem dX7_rings_60 : decode cX7_rings 60 = .ok (.iconst 1, 1) := by decide +kernel
theorem dX7_rings_61 : decode cX7_rings 61 = .ok (.iload_n 3, 1) := by decide +kernel
theorem dX7_rings_62 : decode cX7_rings 62 = .ok (.ishl, 1) := by decide +kernel
theorem dX7_rings_63 : decode cX7_rings 63 = .ok (.goto 4, 3) := by decide +kernel
theorem dX7_rings_66 : decode cX7_rings 66 = .ok (.iconst 0, 1) := by decide +kernel
theorem dX7_rings_67 : decode cX7_rings 67 = .ok (.ior, 1) := by decide +kernel
theorem dX7_rings_68 : decode cX7_rings 68 = .ok (.istore_n 2, 1) := by decide +kernel
theorem dX7_rings_69 : decode cX7_rings 69 = .ok (.iinc 3 1, 3) := by decide +kernel
theorem dX7_rings_72 : decode cX7_rings 72 = .ok (.goto (-56), 3) := by decide +kernel
theorem dX7_rings_75 : decode cX7_rings 75 = .ok (.iload_n 2, 1) := by decide +kernel
theorem dX7_rings_76 : decode cX7_rings 76 = .ok (.ireturn, 1) := by decide +kernel
set_option maxRecDepth 20000 in
theorem ggX7_ladder_X7_has : GoodIn wsX7_ladder wsX7_has := goodIn_r _ [7] (by decide +kernel) (by decide +kernel)
set_option maxRecDepth 20000 in
theorem gX7_ladder_X7_has : GoodIn wsX7_ladder (va_wsS RX7 94 yX7_has wsX7_has) := goodIn_app (goodIn_of _ (by decide +kernel)) ggX7_ladder_X7_has
set_option maxRecDepth 20000 in
theorem ggX7_ladder_X7_bits : GoodIn wsX7_ladder wsX7_bits := goodIn_r _ [10] (by decide +kernel) (by decide +kernel)
set_option maxRecDepth 20000 in
theorem gX7_ladder_X7_bits : GoodIn wsX7_ladder (va_wsS RX7 81 yX7_bits wsX7_bits) := goodIn_app (goodIn_of _ (by decide +kernel)) ggX7_ladder_X7_bits
theorem dX7_ladder_0 : decode cX7_ladder 0 = .ok (.aload_n 0, 1) := by decide +kernel
theorem dX7_ladder_1 : decode cX7_ladder 1 = .ok (.getfield 44, 3) := by decide +kernel
theorem dX7_ladder_4 : decode cX7_ladder 4 = .ok (.sipush 1023, 3) := by decide +kernel
theorem dX7_ladder_7 : decode cX7_ladder 7 = .ok (.iconst 0, 1) := by decide +kernel
theorem dX7_ladder_8 : decode cX7_ladder 8 = .ok (.iastore, 1) := by decide +kernel
theorem dX7_ladder_9 : decode cX7_ladder 9 = .ok (.sipush 1022, 3) := by decide +kernel
theorem dX7_ladder_12 : decode cX7_ladder 12 = .ok (.istore_n 2, 1) := by decide +kernel
theorem dX7_ladder_13 : decode cX7_ladder 13 = .ok (.iload_n 2, 1) := by decide +kernel
theorem dX7_ladder_14 : decode cX7_ladder 14 = .ok (.ifCond .lt 92, 3) := by decide +kernel
theorem dX7_ladder_17 : decode cX7_ladder 17 = .ok (.aload_n 0, 1) := by decide +kernel
theorem dX7_ladder_18 : decode cX7_ladder 18 = .ok (.getfield 44, 3) := by decide +kernel
theorem dX7_ladder_21 : decode cX7_ladder 21 = .ok (.iload_n 2, 1) := by decide +kernel
theorem dX7_ladder_22 : decode cX7_ladder 22 = .ok (.sipush 1000, 3) := by decide +kernel
theorem dX7_ladder_25 : decode cX7_ladder 25 = .ok (.iastore, 1) := by decide +kernel
theorem dX7_ladder_26 : decode cX7_ladder 26 = .ok (.iconst 0, 1) := by decide +kernel
theorem dX7_ladder_27 : decode cX7_ladder 27 = .ok (.istore_n 3, 1) := by decide +kernel
theorem dX7_ladder_28 : decode cX7_ladder 28 = .ok (.iload_n 3, 1) := by decide +kernel
theorem dX7_ladder_29 : decode cX7_ladder 29 = .ok (.bipush 10, 2) := by decide +kernel
theorem dX7_ladder_31 : decode cX7_ladder 31 = .ok (.if_icmp .ge 69, 3) := by decide +kernel
theorem dX7_ladder_34 : decode cX7_ladder 34 = .ok (.iload_n 2, 1) := by decide +kernel
theorem dX7_ladder_35 : decode cX7_ladder 35 = .ok (.iload_n 3, 1) := by decide +kernel
theorem dX7_ladder_36 : decode cX7_ladder 36 = .ok (.invokestatic 94, 3) := by decide +kernel
theorem dX7_ladder_39 : decode cX7_ladder 39 = .ok (.ifCond .ne 55, 3) := by decide +kernel
theorem dX7_ladder_42 : decode cX7_ladder 42 = .ok (.aload_n 0, 1) := by decide +kernel
theorem dX7_ladder_43 : decode cX7_ladder 43 = .ok (.getfield 13, 3) := by decide +kernel
theorem dX7_ladder_46 : decode cX7_ladder 46 = .ok (.iload_n 3, 1) := by decide +kernel
theorem dX7_ladder_47 : decode cX7_ladder 47 = .ok (.iaload, 1) := by decide +kernel
theorem dX7_ladder_48 : decode cX7_ladder 48 = .ok (.iload_n 2, 1) := by decide +kernel
theorem dX7_ladder_49 : decode cX7_ladder 49 = .ok (.iand, 1) := by decide +kernel
theorem dX7_ladder_50 : decode cX7_ladder 50 = .ok (.invokestatic 81, 3) := by decide +kernel
theorem dX7_ladder_53 : decode cX7_ladder 53 = .ok (.aload_n 0, 1) := by decide +kernel
theorem dX7_ladder_54 : decode cX7_ladder 54 = .ok (.getfield 44, 3) := by decide +kernel
theorem dX7_ladder_57 : decode cX7_ladder 57 = .ok (.iload_n 2, 1) := by decide +kernel
theorem dX7_ladder_58 : decode cX7_ladder 58 = .ok (.iconst 1, 1) := by decide +kernel
theorem dX7_ladder_59 : decode cX7_ladder 59 = .ok (.iload_n 3, 1) := by decide +kernel
theorem dX7_ladder_60 : decode cX7_ladder 60 = .ok (.ishl, 1) := by decide +kernel
theorem dX7_ladder_61 : decode cX7_ladder 61 = .ok (.ior, 1) := by decide +kernel
theorem dX7_ladder_62 : decode cX7_ladder 62 = .ok (.iaload, 1) := by decide +kernel
theorem dX7_ladder_63 : decode cX7_ladder 63 = .ok (.iadd, 1) := by decide +kernel
theorem dX7_ladder_64 : decode cX7_ladder 64 = .ok (.istore 4, 2) := by decide +kernel
theorem dX7_ladder_66 : decode cX7_ladder 66 = .ok (.aload_n 0, 1) := by decide +kernel
theorem dX7_ladder_67 : decode cX7_ladder 67 = .ok (.getfield 44, 3) := by decide +kernel
theorem dX7_ladder_70 : decode cX7_ladder 70 = .ok (.iload_n 2, 1) := by decide +kernel
theorem dX7_ladder_71 : decode cX7_ladder 71 = .ok (.iload 4, 2) := by decide +kernel
theorem dX7_ladder_73 : decode cX7_ladder 73 = .ok (.aload_n 0, 1) := by decide +kernel
theorem dX7_ladder_74 : decode cX7_ladder 74 = .ok (.getfield 44, 3) := by decide +kernel
theorem dX7_ladder_77 : decode cX7_ladder 77 = .ok (.iload_n 2, 1) := by decide +kernel
theorem dX7_ladder_78 : decode cX7_ladder 78 = .ok (.iaload, 1) := by decide +kernel
theorem dX7_ladder_79 : decode cX7_ladder 79 = .ok (.if_icmp .ge 8, 3) := by decide +kernel
theorem dX7_ladder_82 : decode cX7_ladder 82 = .ok (.iload 4, 2) := by decide +kernel
theorem dX7_ladder_84 : decode cX7_ladder 84 = .ok (.goto 9, 3) := by decide +kernel
theorem dX7_ladder_87 : decode cX7_ladder 87 = .ok (.aload_n 0, 1) := by decide +kernel
theorem dX7_ladder_88 : decode cX7_ladder 88 = .ok (.getfield 44, 3) := by decide +kernel
theorem dX7_ladder_91 : decode cX7_ladder 91 = .ok (.iload_n 2, 1) := by decide +kernel
theorem dX7_ladder_92 : decode cX7_ladder 92 = .ok (.iaload, 1) := by decide +kernel
theorem dX7_ladder_93 : decode cX7_ladder 93 = .ok (.iastore, 1) := by decide +kernel
theorem dX7_ladder_94 : decode cX7_ladder 94 = .ok (.iinc 3 1, 3) := by decide +kernel
theorem dX7_ladder_97 : decode cX7_ladder 97 = .ok (.goto (-69), 3) := by decide +kernel
theorem dX7_ladder_100 : decode cX7_ladder 100 = .ok (.iinc 2 (-1), 3) := by decide +kernel
theorem dX7_ladder_103 : decode cX7_ladder 103 = .ok (.goto (-90), 3) := by decide +kernel
theorem dX7_ladder_106 : decode cX7_ladder 106 = .ok (.iload_n 1, 1) := by decide +kernel
theorem dX7_ladder_107 : decode cX7_ladder 107 = .ok (.iconst (-1), 1) := by decide +kernel
theorem dX7_ladder_108 : decode cX7_ladder 108 = .ok (.if_icmp .ne 10, 3) := by decide +kernel
theorem dX7_ladder_111 : decode cX7_ladder 111 = .ok (.aload_n 0, 1) := by decide +kernel
theorem dX7_ladder_112 : decode cX7_ladder 112 = .ok (.getfield 44, 3) := by decide +kernel
theorem dX7_ladder_115 : decode cX7_ladder 115 = .ok (.iconst 0, 1) := by decide +kernel
theorem dX7_ladder_116 : decode cX7_ladder 116 = .ok (.iaload, 1) := by decide +kernel
theorem dX7_ladder_117 : decode cX7_ladder 117 = .ok (.ireturn, 1) := by decide +kernel
theorem dX7_ladder_118 : decode cX7_ladder 118 = .ok (.iconst 0, 1) := by decide +kernel
theorem dX7_ladder_119 : decode cX7_ladder 119 = .ok (.istore_n 2, 1) := by decide +kernel
theorem dX7_ladder_120 : decode cX7_ladder 120 = .ok (.iconst 0, 1) := by decide +kernel
theorem dX7_ladder_121 : decode cX7_ladder 121 = .ok (.istore_n 3, 1) := by decide +kernel
theorem dX7_ladder_122 : decode cX7_ladder 122 = .ok (.iload_n 3, 1) := by decide +kernel
theorem dX7_ladder_123 : decode cX7_ladder 123 = .ok (.bipush 10, 2) := by decide +kernel
theorem dX7_ladder_125 : decode cX7_ladder 125 = .ok (.if_icmp .ge 112, 3) := by decide +kernel
theorem dX7_ladder_128 : decode cX7_ladder 128 = .ok (.bipush (-6), 2) := by decide +kernel
theorem dX7_ladder_130 : decode cX7_ladder 130 = .ok (.istore 4, 2) := by decide +kernel
theorem dX7_ladder_132 : decode cX7_ladder 132 = .ok (.iconst 0, 1) := by decide +kernel
theorem dX7_ladder_133 : decode cX7_ladder 133 = .ok (.istore 5, 2) := by decide +kernel
theorem dX7_ladder_135 : decode cX7_ladder 135 = .ok (.iload 5, 2) := by decide +kernel
theorem dX7_ladder_137 : decode cX7_ladder 137 = .ok (.bipush 10, 2) := by decide +kernel
theorem dX7_ladder_139 : decode cX7_ladder 139 = .ok (.if_icmp .ge 77, 3) := by decide +kernel
theorem dX7_ladder_142 : decode cX7_ladder 142 = .ok (.iload 4, 2) := by decide +kernel
theorem dX7_ladder_144 : decode cX7_ladder 144 = .ok (.ifCond .ge 72, 3) := by decide +kernel
theorem dX7_ladder_147 : decode cX7_ladder 147 = .ok (.iload_n 2, 1) := by decide +kernel
theorem dX7_ladder_148 : decode cX7_ladder 148 = .ok (.iload 5, 2) := by decide +kernel
theorem dX7_ladder_150 : decode cX7_ladder 150 = .ok (.invokestatic 94, 3) := by decide +kernel
theorem dX7_ladder_153 : decode cX7_ladder 153 = .ok (.ifCond .ne 40, 3) := by decide +kernel
theorem dX7_ladder_156 : decode cX7_ladder 156 = .ok (.aload_n 0, 1) := by decide +kernel
theorem dX7_ladder_157 : decode cX7_ladder 157 = .ok (.getfield 13, 3) := by decide +kernel
theorem dX7_ladder_160 : decode cX7_ladder 160 = .ok (.iload 5, 2) := by decide +kernel
theorem dX7_ladder_162 : decode cX7_ladder 162 = .ok (.iaload, 1) := by decide +kernel
theorem dX7_ladder_163 : decode cX7_ladder 163 = .ok (.iload_n 2, 1) := by decide +kernel
theorem dX7_ladder_164 : decode cX7_ladder 164 = .ok (.iand, 1) := by decide +kernel
theorem dX7_ladder_165 : decode cX7_ladder 165 = .ok (.invokestatic 81, 3) := by decide +kernel
theorem dX7_ladder_168 : decode cX7_ladder 168 = .ok (.aload_n 0, 1) := by decide +kernel
theorem dX7_ladder_169 : decode cX7_ladder 169 = .ok (.getfield 44, 3) := by decide +kernel
theorem dX7_ladder_172 : decode cX7_ladder 172 = .ok (.iload_n 2, 1) := by decide +kernel
theorem dX7_ladder_173 : decode cX7_ladder 173 = .ok (.iconst 1, 1) := by decide +kernel
theorem dX7_ladder_174 : decode cX7_ladder 174 = .ok (.iload 5, 2) := by decide +kernel
theorem dX7_ladder_176 : decode cX7_ladder 176 = .ok (.ishl, 1) := by decide +kernel
theorem dX7_ladder_177 : decode cX7_ladder 177 = .ok (.ior, 1) := by decide +kernel
theorem dX7_ladder_178 : decode cX7_ladder 178 = .ok (.iaload, 1) := by decide +kernel
theorem dX7_ladder_179 : decode cX7_ladder 179 = .ok (.iadd, 1) := by decide +kernel
theorem dX7_ladder_180 : decode cX7_ladder 180 = .ok (.aload_n 0, 1) := by decide +kernel
theorem dX7_ladder_181 : decode cX7_ladder 181 = .ok (.getfield 44, 3) := by decide +kernel
theorem dX7_ladder_184 : decode cX7_ladder 184 = .ok (.iload_n 2, 1) := by decide +kernel
theorem dX7_ladder_185 : decode cX7_ladder 185 = .ok (.iaload, 1) := by decide +kernel
theorem dX7_ladder_186 : decode cX7_ladder 186 = .ok (.if_icmp .ne 7, 3) := by decide +kernel
theorem dX7_ladder_189 : decode cX7_ladder 189 = .ok (.iconst 1, 1) := by decide +kernel
theorem dX7_ladder_190 : decode cX7_ladder 190 = .ok (.goto 4, 3) := by decide +kernel
theorem dX7_ladder_193 : decode cX7_ladder 193 = .ok (.iconst 0, 1) := by decide +kernel
theorem dX7_ladder_194 : decode cX7_ladder 194 = .ok (.istore 6, 2) := by decide +kernel
theorem dX7_ladder_196 : decode cX7_ladder 196 = .ok (.iload 6, 2) := by decide +kernel
theorem dX7_ladder_198 : decode cX7_ladder 198 = .ok (.ifCond .eq 8, 3) := by decide +kernel
theorem dX7_ladder_201 : decode cX7_ladder 201 = .ok (.iload 5, 2) := by decide +kernel
theorem dX7_ladder_203 : decode cX7_ladder 203 = .ok (.goto 5, 3) := by decide +kernel
theorem dX7_ladder_206 : decode cX7_ladder 206 = .ok (.bipush (-6), 2) := by decide +kernel
theorem dX7_ladder_208 : decode cX7_ladder 208 = .ok (.istore 4, 2) := by decide +kernel
theorem dX7_ladder_210 : decode cX7_ladder 210 = .ok (.iinc 5 1, 3) := by decide +kernel
theorem dX7_ladder_213 : decode cX7_ladder 213 = .ok (.goto (-78), 3) := by decide +kernel
theorem dX7_ladder_216 : decode cX7_ladder 216 = .ok (.aload_n 0, 1) := by decide +kernel
theorem dX7_ladder_217 : decode cX7_ladder 217 = .ok (.getfield 47, 3) := by decide +kernel
theorem dX7_ladder_220 : decode cX7_ladder 220 = .ok (.iload 4, 2) := by decide +kernel
theorem dX7_ladder_222 : decode cX7_ladder 222 = .ok (.iload_n 3, 1) := by decide +kernel
theorem dX7_ladder_223 : decode cX7_ladder 223 = .ok (.iastore, 1) := by decide +kernel
theorem dX7_ladder_224 : decode cX7_ladder 224 = .ok (.iload_n 2, 1) := by decide +kernel
theorem dX7_ladder_225 : decode cX7_ladder 225 = .ok (.iconst 1, 1) := by decide +kernel
theorem dX7_ladder_226 : decode cX7_ladder 226 = .ok (.iload 4, 2) := by decide +kernel
theorem dX7_ladder_228 : decode cX7_ladder 228 = .ok (.ishl, 1) := by decide +kernel
theorem dX7_ladder_229 : decode cX7_ladder 229 = .ok (.ior, 1) := by decide +kernel
theorem dX7_ladder_230 : decode cX7_ladder 230 = .ok (.istore_n 2, 1) := by decide +kernel
theorem dX7_ladder_231 : decode cX7_ladder 231 = .ok (.iinc 3 1, 3) := by decide +kernel
theorem dX7_ladder_234 : decode cX7_ladder 234 = .ok (.goto (-112), 3) := by decide +kernel
theorem dX7_ladder_237 : decode cX7_ladder 237 = .ok (.iconst 0, 1) := by decide +kernel
theorem dX7_ladder_238 : decode cX7_ladder 238 = .ok (.istore_n 3, 1) := by decide +kernel
theorem dX7_ladder_239 : decode cX7_ladder 239 = .ok (.iconst 0, 1) := by decide +kernel
theorem dX7_ladder_240 : decode cX7_ladder 240 = .ok (.istore 4, 2) := by decide +kernel
theorem dX7_ladder_242 : decode cX7_ladder 242 = .ok (.iload 4, 2) := by decide +kernel
theorem dX7_ladder_244 : decode cX7_ladder 244 = .ok (.bipush 100, 2) := by decide +kernel
theorem dX7_ladder_246 : decode cX7_ladder 246 = .ok (.if_icmp .ge 64, 3) := by decide +kernel
theorem dX7_ladder_249 : decode cX7_ladder 249 = .ok (.aload_n 0, 1) := by decide +kernel
theorem dX7_ladder_250 : decode cX7_ladder 250 = .ok (.getfield 13, 3) := by decide +kernel
theorem dX7_ladder_253 : decode cX7_ladder 253 = .ok (.iload 4, 2) := by decide +kernel
theorem dX7_ladder_255 : decode cX7_ladder 255 = .ok (.bipush 10, 2) := by decide +kernel
theorem dX7_ladder_257 : decode cX7_ladder 257 = .ok (.idiv, 1) := by decide +kernel
theorem dX7_ladder_258 : decode cX7_ladder 258 = .ok (.iaload, 1) := by decide +kernel
theorem dX7_ladder_259 : decode cX7_ladder 259 = .ok (.iload 4, 2) := by decide +kernel
theorem dX7_ladder_261 : decode cX7_ladder 261 = .ok (.bipush 10, 2) := by decide +kernel
theorem dX7_ladder_263 : decode cX7_ladder 263 = .ok (.irem, 1) := by decide +kernel
theorem dX7_ladder_264 : decode cX7_ladder 264 = .ok (.invokestatic 94, 3) := by decide +kernel
theorem dX7_ladder_267 : decode cX7_ladder 267 = .ok (.ifCond .eq 37, 3) := by decide +kernel
theorem dX7_ladder_270 : decode cX7_ladder 270 = .ok (.aload_n 0, 1) := by decide +kernel
theorem dX7_ladder_271 : decode cX7_ladder 271 = .ok (.getfield 47, 3) := by decide +kernel
theorem dX7_ladder_274 : decode cX7_ladder 274 = .ok (.iload 4, 2) := by decide +kernel
theorem dX7_ladder_276 : decode cX7_ladder 276 = .ok (.bipush 10, 2) := by decide +kernel
theorem dX7_ladder_278 : decode cX7_ladder 278 = .ok (.irem, 1) := by decide +kernel
theorem dX7_ladder_279 : decode cX7_ladder 279 = .ok (.iaload, 1) := by decide +kernel
theorem dX7_ladder_280 : decode cX7_ladder 280 = .ok (.aload_n 0, 1) := by decide +kernel
theorem dX7_ladder_281 : decode cX7_ladder 281 = .ok (.getfield 47, 3) := by decide +kernel
theorem dX7_ladder_284 : decode cX7_ladder 284 = .ok (.iload 4, 2) := by decide +kernel
theorem dX7_ladder_286 : decode cX7_ladder 286 = .ok (.bipush 10, 2) := by decide +kernel
theorem dX7_ladder_288 : decode cX7_ladder 288 = .ok (.idiv, 1) := by decide +kernel
theorem dX7_ladder_289 : decode cX7_ladder 289 = .ok (.iaload, 1) := by decide +kernel
theorem dX7_ladder_290 : decode cX7_ladder 290 = .ok (.if_icmp .ge 14, 3) := by decide +kernel
theorem dX7_ladder_293 : decode cX7_ladder 293 = .ok (.iload_n 3, 1) := by decide +kernel
theorem dX7_ladder_294 : decode cX7_ladder 294 = .ok (.iload_n 1, 1) := by decide +kernel
theorem dX7_ladder_295 : decode cX7_ladder 295 = .ok (.if_icmp .ne 6, 3) := by decide +kernel
theorem dX7_ladder_298 : decode cX7_ladder 298 = .ok (.iload 4, 2) := by decide +kernel
theorem dX7_ladder_300 : decode cX7_ladder 300 = .ok (.ireturn, 1) := by decide +kernel
theorem dX7_ladder_301 : decode cX7_ladder 301 = .ok (.iinc 3 1, 3) := by decide +kernel
theorem dX7_ladder_304 : decode cX7_ladder 304 = .ok (.iinc 4 1, 3) := by decide +kernel
theorem dX7_ladder_307 : decode cX7_ladder 307 = .ok (.goto (-65), 3) := by decide +kernel
theorem dX7_ladder_310 : decode cX7_ladder 310 = .ok (.bipush (-6), 2) := by decide +kernel
theorem dX7_ladder_312 : decode cX7_ladder 312 = .ok (.ireturn, 1) := by decide +kernel
set_option maxRecDepth 20000 in
theorem ggX7_between_X7_isInsult : GoodIn wsX7_between wsX7_isInsult := goodIn_r _ [5, 6, 7, 4, 8] (by decide +kernel) (by decide +kernel)
set_option maxRecDepth 20000 in
theorem gX7_between_X7_isInsult : GoodIn wsX7_between (va_wsS RX7 88 yX7_isInsult wsX7_isInsult) := goodIn_app (goodIn_of _ (by decide +kernel)) ggX7_between_X7_isInsult
set_option maxRecDepth 20000 in
theorem ggX7_between_X7_in : GoodIn wsX7_between wsX7_in := goodIn_r _ [8] (by decide +kernel) (by decide +kernel)
set_option maxRecDepth 20000 in
theorem gX7_between_X7_in : GoodIn wsX7_between (va_wsS RX7 59 yX7_in wsX7_in) := goodIn_app (goodIn_of _ (by decide +kernel)) ggX7_between_X7_in
set_option maxRecDepth 20000 in
theorem ggX7_between_X7_has : GoodIn wsX7_between wsX7_has := goodIn_r _ [11] (by decide +kernel) (by decide +kernel)
set_option maxRecDepth 20000 in
theorem gX7_between_X7_has : GoodIn wsX7_between (va_wsS RX7 94 yX7_has wsX7_has) := goodIn_app (goodIn_of _ (by decide +kernel)) ggX7_between_X7_has
theorem dX7_between_0 : decode cX7_between 0 = .ok (.iload_n 1, 1) := by decide +kernel
theorem dX7_between_1 : decode cX7_between 1 = .ok (.invokestatic 88, 3) := by decide +kernel
theorem dX7_between_4 : decode cX7_between 4 = .ok (.ifCond .eq 15, 3) := by decide +kernel
theorem dX7_between_7 : decode cX7_between 7 = .ok (.iload_n 2, 1) := by decide +kernel
theorem dX7_between_8 : decode cX7_between 8 = .ok (.invokestatic 88, 3) := by decide +kernel
theorem dX7_between_11 : decode cX7_between 11 = .ok (.ifCond .eq 8, 3) := by decide +kernel
theorem dX7_between_14 : decode cX7_between 14 = .ok (.iload_n 1, 1) := by decide +kernel
theorem dX7_between_15 : decode cX7_between 15 = .ok (.iload_n 2, 1) := by decide +kernel
theorem dX7_between_16 : decode cX7_between 16 = .ok (.if_icmp .ne 5, 3) := by decide +kernel
theorem dX7_between_19 : decode cX7_between 19 = .ok (.iconst (-1), 1) := by decide +kernel
theorem dX7_between_20 : decode cX7_between 20 = .ok (.ireturn, 1) := by decide +kernel
theorem dX7_between_21 : decode cX7_between 21 = .ok (.iload_n 3, 1) := by decide +kernel
theorem dX7_between_22 : decode cX7_between 22 = .ok (.iconst 0, 1) := by decide +kernel
theorem dX7_between_23 : decode cX7_between 23 = .ok (.iconst 4, 1) := by decide +kernel
theorem dX7_between_24 : decode cX7_between 24 = .ok (.invokestatic 59, 3) := by decide +kernel
theorem dX7_between_27 : decode cX7_between 27 = .ok (.ifCond .ne 6, 3) := by decide +kernel
theorem dX7_between_30 : decode cX7_between 30 = .ok (.bipush (-2), 2) := by decide +kernel
theorem dX7_between_32 : decode cX7_between 32 = .ok (.ireturn, 1) := by decide +kernel
theorem dX7_between_33 : decode cX7_between 33 = .ok (.iconst 1, 1) := by decide +kernel
theorem dX7_between_34 : decode cX7_between 34 = .ok (.istore 5, 2) := by decide +kernel
theorem dX7_between_36 : decode cX7_between 36 = .ok (.iconst 0, 1) := by decide +kernel
theorem dX7_between_37 : decode cX7_between 37 = .ok (.istore 6, 2) := by decide +kernel
theorem dX7_between_39 : decode cX7_between 39 = .ok (.iload 6, 2) := by decide +kernel
theorem dX7_between_41 : decode cX7_between 41 = .ok (.iload_n 3, 1) := by decide +kernel
theorem dX7_between_42 : decode cX7_between 42 = .ok (.if_icmp .ge 16, 3) := by decide +kernel
theorem dX7_between_45 : decode cX7_between 45 = .ok (.iload 5, 2) := by decide +kernel
theorem dX7_between_47 : decode cX7_between 47 = .ok (.bipush 10, 2) := by decide +kernel
theorem dX7_between_49 : decode cX7_between 49 = .ok (.imul, 1) := by decide +kernel
theorem dX7_between_50 : decode cX7_between 50 = .ok (.istore 5, 2) := by decide +kernel
theorem dX7_between_52 : decode cX7_between 52 = .ok (.iinc 6 1, 3) := by decide +kernel
theorem dX7_between_55 : decode cX7_between 55 = .ok (.goto (-16), 3) := by decide +kernel
theorem dX7_between_58 : decode cX7_between 58 = .ok (.iconst 0, 1) := by decide +kernel
theorem dX7_between_59 : decode cX7_between 59 = .ok (.istore 6, 2) := by decide +kernel
theorem dX7_between_61 : decode cX7_between 61 = .ok (.iconst 0, 1) := by decide +kernel
theorem dX7_between_62 : decode cX7_between 62 = .ok (.istore 7, 2) := by decide +kernel
theorem dX7_between_64 : decode cX7_between 64 = .ok (.iload 7, 2) := by decide +kernel
theorem dX7_between_66 : decode cX7_between 66 = .ok (.iload 5, 2) := by decide +kernel
theorem dX7_between_68 : decode cX7_between 68 = .ok (.if_icmp .ge 145, 3) := by decide +kernel
theorem dX7_between_71 : decode cX7_between 71 = .ok (.iload 5, 2) := by decide +kernel
theorem dX7_between_73 : decode cX7_between 73 = .ok (.istore 8, 2) := by decide +kernel
theorem dX7_between_75 : decode cX7_between 75 = .ok (.iload_n 1, 1) := by decide +kernel
theorem dX7_between_76 : decode cX7_between 76 = .ok (.istore 9, 2) := by decide +kernel
theorem dX7_between_78 : decode cX7_between 78 = .ok (.iconst 1, 1) := by decide +kernel
theorem dX7_between_79 : decode cX7_between 79 = .ok (.iload_n 1, 1) := by decide +kernel
theorem dX7_between_80 : decode cX7_between 80 = .ok (.ishl, 1) := by decide +kernel
theorem dX7_between_81 : decode cX7_between 81 = .ok (.iconst 1, 1) := by decide +kernel
theorem dX7_between_82 : decode cX7_between 82 = .ok (.iload_n 2, 1) := by decide +kernel
theorem dX7_between_83 : decode cX7_between 83 = .ok (.ishl, 1) := by decide +kernel
theorem dX7_between_84 : decode cX7_between 84 = .ok (.ior, 1) := by decide +kernel
theorem dX7_between_85 : decode cX7_between 85 = .ok (.istore 10, 2) := by decide +kernel
theorem dX7_between_87 : decode cX7_between 87 = .ok (.iconst 1, 1) := by decide +kernel
theorem dX7_between_88 : decode cX7_between 88 = .ok (.istore 11, 2) := by decide +kernel
theorem dX7_between_90 : decode cX7_between 90 = .ok (.iconst 0, 1) := by decide +kernel
theorem dX7_between_91 : decode cX7_between 91 = .ok (.istore 12, 2) := by decide +kernel
theorem dX7_between_93 : decode cX7_between 93 = .ok (.iload 12, 2) := by decide +kernel
theorem dX7_between_95 : decode cX7_between 95 = .ok (.iload_n 3, 1) := by decide +kernel
theorem dX7_between_96 : decode cX7_between 96 = .ok (.if_icmp .ge 76, 3) := by decide +kernel
theorem dX7_between_99 : decode cX7_between 99 = .ok (.iload 11, 2) := by decide +kernel
theorem dX7_between_101 : decode cX7_between 101 = .ok (.ifCond .eq 71, 3) := by decide +kernel
theorem dX7_between_104 : decode cX7_between 104 = .ok (.iload 8, 2) := by decide +kernel
theorem dX7_between_106 : decode cX7_between 106 = .ok (.bipush 10, 2) := by decide +kernel
theorem dX7_between_108 : decode cX7_between 108 = .ok (.idiv, 1) := by decide +kernel
theorem dX7_between_109 : decode cX7_between 109 = .ok (.istore 8, 2) := by decide +kernel
theorem dX7_between_111 : decode cX7_between 111 = .ok (.iload 7, 2) := by decide +kernel
theorem dX7_between_113 : decode cX7_between 113 = .ok (.iload 8, 2) := by decide +kernel
theorem dX7_between_115 : decode cX7_between 115 = .ok (.idiv, 1) := by decide +kernel
theorem dX7_between_116 : decode cX7_between 116 = .ok (.bipush 10, 2) := by decide +kernel
theorem dX7_between_118 : decode cX7_between 118 = .ok (.irem, 1) := by decide +kernel
theorem dX7_between_119 : decode cX7_between 119 = .ok (.istore 13, 2) := by decide +kernel
theorem dX7_between_121 : decode cX7_between 121 = .ok (.aload_n 0, 1) := by decide +kernel
theorem dX7_between_122 : decode cX7_between 122 = .ok (.getfield 13, 3) := by decide +kernel
theorem dX7_between_125 : decode cX7_between 125 = .ok (.iload 9, 2) := by decide +kernel
theorem dX7_between_127 : decode cX7_between 127 = .ok (.iaload, 1) := by decide +kernel
theorem dX7_between_128 : decode cX7_between 128 = .ok (.iload 13, 2) := by decide +kernel
theorem dX7_between_130 : decode cX7_between 130 = .ok (.invokestatic 94, 3) := by decide +kernel
theorem dX7_between_133 : decode cX7_between 133 = .ok (.ifCond .eq 17, 3) := by decide +kernel
theorem dX7_between_136 : decode cX7_between 136 = .ok (.iload 10, 2) := by decide +kernel
theorem dX7_between_138 : decode cX7_between 138 = .ok (.iload 13, 2) := by decide +kernel
theorem dX7_between_140 : decode cX7_between 140 = .ok (.invokestatic 94, 3) := by decide +kernel
theorem dX7_between_143 : decode cX7_between 143 = .ok (.ifCond .ne 7, 3) := by decide +kernel
theorem dX7_between_146 : decode cX7_between 146 = .ok (.iconst 1, 1) := by decide +kernel
theorem dX7_between_147 : decode cX7_between 147 = .ok (.goto 4, 3) := by decide +kernel
theorem dX7_between_150 : decode cX7_between 150 = .ok (.iconst 0, 1) := by decide +kernel
theorem dX7_between_151 : decode cX7_between 151 = .ok (.istore 11, 2) := by decide +kernel
theorem dX7_between_153 : decode cX7_between 153 = .ok (.iload 10, 2) := by decide +kernel
theorem dX7_between_155 : decode cX7_between 155 = .ok (.iconst 1, 1) := by decide +kernel
theorem dX7_between_156 : decode cX7_between 156 = .ok (.iload 13, 2) := by decide +kernel
theorem dX7_between_158 : decode cX7_between 158 = .ok (.ishl, 1) := by decide +kernel
theorem dX7_between_159 : decode cX7_between 159 = .ok (.ior, 1) := by decide +kernel
theorem dX7_between_160 : decode cX7_between 160 = .ok (.istore 10, 2) := by decide +kernel
theorem dX7_between_162 : decode cX7_between 162 = .ok (.iload 13, 2) := by decide +kernel
theorem dX7_between_164 : decode cX7_between 164 = .ok (.istore 9, 2) := by decide +kernel
theorem dX7_between_166 : decode cX7_between 166 = .ok (.iinc 12 1, 3) := by decide +kernel
theorem dX7_between_169 : decode cX7_between 169 = .ok (.goto (-76), 3) := by decide +kernel
theorem dX7_between_172 : decode cX7_between 172 = .ok (.iload 11, 2) := by decide +kernel
theorem dX7_between_174 : decode cX7_between 174 = .ok (.ifCond .eq 33, 3) := by decide +kernel
theorem dX7_between_177 : decode cX7_between 177 = .ok (.aload_n 0, 1) := by decide +kernel
theorem dX7_between_178 : decode cX7_between 178 = .ok (.getfield 13, 3) := by decide +kernel
theorem dX7_between_181 : decode cX7_between 181 = .ok (.iload 9, 2) := by decide +kernel
theorem dX7_between_183 : decode cX7_between 183 = .ok (.iaload, 1) := by decide +kernel
theorem dX7_between_184 : decode cX7_between 184 = .ok (.iload_n 2, 1) := by decide +kernel
theorem dX7_between_185 : decode cX7_between 185 = .ok (.invokestatic 94, 3) := by decide +kernel
theorem dX7_between_188 : decode cX7_between 188 = .ok (.ifCond .eq 19, 3) := by decide +kernel
theorem dX7_between_191 : decode cX7_between 191 = .ok (.iload 6, 2) := by decide +kernel
theorem dX7_between_193 : decode cX7_between 193 = .ok (.iload 4, 2) := by decide +kernel
theorem dX7_between_195 : decode cX7_between 195 = .ok (.if_icmp .ne 9, 3) := by decide +kernel
theorem dX7_between_198 : decode cX7_between 198 = .ok (.iload 5, 2) := by decide +kernel
theorem dX7_between_200 : decode cX7_between 200 = .ok (.iload 7, 2) := by decide +kernel
theorem dX7_between_202 : decode cX7_between 202 = .ok (.iadd, 1) := by decide +kernel
theorem dX7_between_203 : decode cX7_between 203 = .ok (.ireturn, 1) := by decide +kernel
theorem dX7_between_204 : decode cX7_between 204 = .ok (.iinc 6 1, 3) := by decide +kernel
theorem dX7_between_207 : decode cX7_between 207 = .ok (.iinc 7 1, 3) := by decide +kernel
theorem dX7_between_210 : decode cX7_between 210 = .ok (.goto (-146), 3) := by decide +kernel
theorem dX7_between_213 : decode cX7_between 213 = .ok (.iload 4, 2) := by decide +kernel
theorem dX7_between_215 : decode cX7_between 215 = .ok (.iconst (-1), 1) := by decide +kernel
theorem dX7_between_216 : decode cX7_between 216 = .ok (.if_icmp .ne 8, 3) := by decide +kernel
theorem dX7_between_219 : decode cX7_between 219 = .ok (.iload 6, 2) := by decide +kernel
theorem dX7_between_221 : decode cX7_between 221 = .ok (.goto 5, 3) := by decide +kernel
theorem dX7_between_224 : decode cX7_between 224 = .ok (.bipush (-6), 2) := by decide +kernel
theorem dX7_between_226 : decode cX7_between 226 = .ok (.ireturn, 1) := by decide +kernel
set_option maxRecDepth 20000 in
theorem ggX7_high_X7_isInsult : GoodIn wsX7_high wsX7_isInsult := goodIn_r _ [6, 7, 8, 5, 9] (by decide +kernel) (by decide +kernel)
set_option maxRecDepth 20000 in
theorem gX7_high_X7_isInsult : GoodIn wsX7_high (va_wsS RX7 88 yX7_isInsult wsX7_isInsult) := goodIn_app (goodIn_of _ (by decide +kernel)) ggX7_high_X7_isInsult
set_option maxRecDepth 20000 in
theorem ggX7_high_X7_has : GoodIn wsX7_high wsX7_has := goodIn_r _ [12] (by decide +kernel) (by decide +kernel)
set_option maxRecDepth 20000 in
theorem gX7_high_X7_has : GoodIn wsX7_high (va_wsS RX7 94 yX7_has wsX7_has) := goodIn_app (goodIn_of _ (by decide +kernel)) ggX7_high_X7_has
theorem dX7_high_0 : decode cX7_high 0 = .ok (.iload_n 1, 1) := by decide +kernel
theorem dX7_high_1 : decode cX7_high 1 = .ok (.invokestatic 88, 3) := by decide +kernel
theorem dX7_high_4 : decode cX7_high 4 = .ok (.ifCond .ne 5, 3) := by decide +kernel
theorem dX7_high_7 : decode cX7_high 7 = .ok (.iconst (-1), 1) := by decide +kernel
theorem dX7_high_8 : decode cX7_high 8 = .ok (.ireturn, 1) := by decide +kernel
theorem dX7_high_9 : decode cX7_high 9 = .ok (.sipush 1023, 3) := by decide +kernel
theorem dX7_high_12 : decode cX7_high 12 = .ok (.istore_n 2, 1) := by decide +kernel
theorem dX7_high_13 : decode cX7_high 13 = .ok (.iload_n 2, 1) := by decide +kernel
theorem dX7_high_14 : decode cX7_high 14 = .ok (.ifCond .le 124, 3) := by decide +kernel
theorem dX7_high_17 : decode cX7_high 17 = .ok (.iconst 0, 1) := by decide +kernel
theorem dX7_high_18 : decode cX7_high 18 = .ok (.istore_n 3, 1) := by decide +kernel
theorem dX7_high_19 : decode cX7_high 19 = .ok (.iload_n 3, 1) := by decide +kernel
theorem dX7_high_20 : decode cX7_high 20 = .ok (.bipush 10, 2) := by decide +kernel
theorem dX7_high_22 : decode cX7_high 22 = .ok (.if_icmp .ge 110, 3) := by decide +kernel
theorem dX7_high_25 : decode cX7_high 25 = .ok (.iconst 0, 1) := by decide +kernel
theorem dX7_high_26 : decode cX7_high 26 = .ok (.istore 4, 2) := by decide +kernel
theorem dX7_high_28 : decode cX7_high 28 = .ok (.iconst 0, 1) := by decide +kernel
theorem dX7_high_29 : decode cX7_high 29 = .ok (.istore 5, 2) := by decide +kernel
theorem dX7_high_31 : decode cX7_high 31 = .ok (.iload 5, 2) := by decide +kernel
theorem dX7_high_33 : decode cX7_high 33 = .ok (.bipush 10, 2) := by decide +kernel
theorem dX7_high_35 : decode cX7_high 35 = .ok (.if_icmp .ge 77, 3) := by decide +kernel
theorem dX7_high_38 : decode cX7_high 38 = .ok (.iload_n 2, 1) := by decide +kernel
theorem dX7_high_39 : decode cX7_high 39 = .ok (.iload_n 3, 1) := by decide +kernel
theorem dX7_high_40 : decode cX7_high 40 = .ok (.invokestatic 94, 3) := by decide +kernel
theorem dX7_high_43 : decode cX7_high 43 = .ok (.ifCond .eq 69, 3) := by decide +kernel
theorem dX7_high_46 : decode cX7_high 46 = .ok (.aload_n 0, 1) := by decide +kernel
theorem dX7_high_47 : decode cX7_high 47 = .ok (.getfield 13, 3) := by decide +kernel
theorem dX7_high_50 : decode cX7_high 50 = .ok (.iload_n 3, 1) := by decide +kernel
theorem dX7_high_51 : decode cX7_high 51 = .ok (.iaload, 1) := by decide +kernel
theorem dX7_high_52 : decode cX7_high 52 = .ok (.iload_n 2, 1) := by decide +kernel
theorem dX7_high_53 : decode cX7_high 53 = .ok (.iconst (-1), 1) := by decide +kernel
theorem dX7_high_54 : decode cX7_high 54 = .ok (.ixor, 1) := by decide +kernel
theorem dX7_high_55 : decode cX7_high 55 = .ok (.iand, 1) := by decide +kernel
theorem dX7_high_56 : decode cX7_high 56 = .ok (.iload 5, 2) := by decide +kernel
theorem dX7_high_58 : decode cX7_high 58 = .ok (.invokestatic 94, 3) := by decide +kernel
theorem dX7_high_61 : decode cX7_high 61 = .ok (.ifCond .eq 26, 3) := by decide +kernel
theorem dX7_high_64 : decode cX7_high 64 = .ok (.aload_n 0, 1) := by decide +kernel
theorem dX7_high_65 : decode cX7_high 65 = .ok (.getfield 50, 3) := by decide +kernel
theorem dX7_high_68 : decode cX7_high 68 = .ok (.sipush 1024, 3) := by decide +kernel
theorem dX7_high_71 : decode cX7_high 71 = .ok (.iload 5, 2) := by decide +kernel
theorem dX7_high_73 : decode cX7_high 73 = .ok (.imul, 1) := by decide +kernel
theorem dX7_high_74 : decode cX7_high 74 = .ok (.iload_n 2, 1) := by decide +kernel
theorem dX7_high_75 : decode cX7_high 75 = .ok (.iconst 1, 1) := by decide +kernel
theorem dX7_high_76 : decode cX7_high 76 = .ok (.iload 5, 2) := by decide +kernel
theorem dX7_high_78 : decode cX7_high 78 = .ok (.ishl, 1) := by decide +kernel
theorem dX7_high_79 : decode cX7_high 79 = .ok (.ior, 1) := by decide +kernel
theorem dX7_high_80 : decode cX7_high 80 = .ok (.iadd, 1) := by decide +kernel
theorem dX7_high_81 : decode cX7_high 81 = .ok (.iaload, 1) := by decide +kernel
theorem dX7_high_82 : decode cX7_high 82 = .ok (.iconst 1, 1) := by decide +kernel
theorem dX7_high_83 : decode cX7_high 83 = .ok (.iadd, 1) := by decide +kernel
theorem dX7_high_84 : decode cX7_high 84 = .ok (.goto 4, 3) := by decide +kernel
theorem dX7_high_87 : decode cX7_high 87 = .ok (.iconst 0, 1) := by decide +kernel
theorem dX7_high_88 : decode cX7_high 88 = .ok (.istore 6, 2) := by decide +kernel
theorem dX7_high_90 : decode cX7_high 90 = .ok (.iload 6, 2) := by decide +kernel
theorem dX7_high_92 : decode cX7_high 92 = .ok (.iload 4, 2) := by decide +kernel
theorem dX7_high_94 : decode cX7_high 94 = .ok (.if_icmp .le 8, 3) := by decide +kernel
theorem dX7_high_97 : decode cX7_high 97 = .ok (.iload 6, 2) := by decide +kernel
theorem dX7_high_99 : decode cX7_high 99 = .ok (.goto 5, 3) := by decide +kernel
theorem dX7_high_102 : decode cX7_high 102 = .ok (.iload 4, 2) := by decide +kernel
theorem dX7_high_104 : decode cX7_high 104 = .ok (.istore 4, 2) := by decide +kernel
theorem dX7_high_106 : decode cX7_high 106 = .ok (.iinc 5 1, 3) := by decide +kernel
theorem dX7_high_109 : decode cX7_high 109 = .ok (.goto (-78), 3) := by decide +kernel
theorem dX7_high_112 : decode cX7_high 112 = .ok (.aload_n 0, 1) := by decide +kernel
theorem dX7_high_113 : decode cX7_high 113 = .ok (.getfield 50, 3) := by decide +kernel
theorem dX7_high_116 : decode cX7_high 116 = .ok (.sipush 1024, 3) := by decide +kernel
theorem dX7_high_119 : decode cX7_high 119 = .ok (.iload_n 3, 1) := by decide +kernel
theorem dX7_high_120 : decode cX7_high 120 = .ok (.imul, 1) := by decide +kernel
theorem dX7_high_121 : decode cX7_high 121 = .ok (.iload_n 2, 1) := by decide +kernel
theorem dX7_high_122 : decode cX7_high 122 = .ok (.iadd, 1) := by decide +kernel
theorem dX7_high_123 : decode cX7_high 123 = .ok (.iload 4, 2) := by decide +kernel
theorem dX7_high_125 : decode cX7_high 125 = .ok (.iastore, 1) := by decide +kernel
theorem dX7_high_126 : decode cX7_high 126 = .ok (.iinc 3 1, 3) := by decide +kernel
theorem dX7_high_129 : decode cX7_high 129 = .ok (.goto (-110), 3) := by decide +kernel
theorem dX7_high_132 : decode cX7_high 132 = .ok (.iinc 2 (-1), 3) := by decide +kernel
theorem dX7_high_135 : decode cX7_high 135 = .ok (.goto (-122), 3) := by decide +kernel
theorem dX7_high_138 : decode cX7_high 138 = .ok (.aload_n 0, 1) := by decide +kernel
theorem dX7_high_139 : decode cX7_high 139 = .ok (.getfield 50, 3) := by decide +kernel
theorem dX7_high_142 : decode cX7_high 142 = .ok (.sipush 1024, 3) := by decide +kernel
theorem dX7_high_145 : decode cX7_high 145 = .ok (.iload_n 1, 1) := by decide +kernel
theorem dX7_high_146 : decode cX7_high 146 = .ok (.imul, 1) := by decide +kernel
theorem dX7_high_147 : decode cX7_high 147 = .ok (.iconst 1, 1) := by decide +kernel
theorem dX7_high_148 : decode cX7_high 148 = .ok (.iload_n 1, 1) := by decide +kernel
theorem dX7_high_149 : decode cX7_high 149 = .ok (.ishl, 1) := by decide +kernel
theorem dX7_high_150 : decode cX7_high 150 = .ok (.iadd, 1) := by decide +kernel
theorem dX7_high_151 : decode cX7_high 151 = .ok (.iaload, 1) := by decide +kernel
theorem dX7_high_152 : decode cX7_high 152 = .ok (.ireturn, 1) := by decide +kernel
set_option maxRecDepth 20000 in
theorem ggX7_image_X7_in : GoodIn wsX7_image wsX7_in := goodIn_r _ [10] (by decide +kernel) (by decide +kernel)
set_option maxRecDepth 20000 in
theorem gX7_image_X7_in : GoodIn wsX7_image (va_wsS RX7 59 yX7_in wsX7_in) := goodIn_app (goodIn_of _ (by decide +kernel)) ggX7_image_X7_in
theorem dX7_image_0 : decode cX7_image 0 = .ok (.iload_n 1, 1) := by decide +kernel
theorem dX7_image_1 : decode cX7_image 1 = .ok (.iconst 0, 1) := by decide +kernel
theorem dX7_image_2 : decode cX7_image 2 = .ok (.iconst 1, 1) := by decide +kernel
theorem dX7_image_3 : decode cX7_image 3 = .ok (.invokestatic 59, 3) := by decide +kernel
theorem dX7_image_6 : decode cX7_image 6 = .ok (.ifCond .ne 6, 3) := by decide +kernel
theorem dX7_image_9 : decode cX7_image 9 = .ok (.bipush (-2), 2) := by decide +kernel
theorem dX7_image_11 : decode cX7_image 11 = .ok (.ireturn, 1) := by decide +kernel
theorem dX7_image_12 : decode cX7_image 12 = .ok (.iconst 0, 1) := by decide +kernel
theorem dX7_image_13 : decode cX7_image 13 = .ok (.istore_n 2, 1) := by decide +kernel
theorem dX7_image_14 : decode cX7_image 14 = .ok (.iload_n 2, 1) := by decide +kernel
theorem dX7_image_15 : decode cX7_image 15 = .ok (.bipush 10, 2) := by decide +kernel
theorem dX7_image_17 : decode cX7_image 17 = .ok (.if_icmp .ge 46, 3) := by decide +kernel
theorem dX7_image_20 : decode cX7_image 20 = .ok (.aload_n 0, 1) := by decide +kernel
theorem dX7_image_21 : decode cX7_image 21 = .ok (.getfield 53, 3) := by decide +kernel
theorem dX7_image_24 : decode cX7_image 24 = .ok (.bipush 30, 2) := by decide +kernel
theorem dX7_image_26 : decode cX7_image 26 = .ok (.iload_n 1, 1) := by decide +kernel
theorem dX7_image_27 : decode cX7_image 27 = .ok (.imul, 1) := by decide +kernel
theorem dX7_image_28 : decode cX7_image 28 = .ok (.iload_n 2, 1) := by decide +kernel
theorem dX7_image_29 : decode cX7_image 29 = .ok (.iadd, 1) := by decide +kernel
theorem dX7_image_30 : decode cX7_image 30 = .ok (.aload_n 0, 1) := by decide +kernel
theorem dX7_image_31 : decode cX7_image 31 = .ok (.getfield 13, 3) := by decide +kernel
theorem dX7_image_34 : decode cX7_image 34 = .ok (.iload_n 2, 1) := by decide +kernel
theorem dX7_image_35 : decode cX7_image 35 = .ok (.iaload, 1) := by decide +kernel
theorem dX7_image_36 : decode cX7_image 36 = .ok (.iastore, 1) := by decide +kernel
theorem dX7_image_37 : decode cX7_image 37 = .ok (.aload_n 0, 1) := by decide +kernel
theorem dX7_image_38 : decode cX7_image 38 = .ok (.getfield 53, 3) := by decide +kernel
theorem dX7_image_41 : decode cX7_image 41 = .ok (.bipush 30, 2) := by decide +kernel
theorem dX7_image_43 : decode cX7_image 43 = .ok (.iload_n 1, 1) := by decide +kernel
theorem dX7_image_44 : decode cX7_image 44 = .ok (.imul, 1) := by decide +kernel
theorem dX7_image_45 : decode cX7_image 45 = .ok (.bipush 10, 2) := by decide +kernel
theorem dX7_image_47 : decode cX7_image 47 = .ok (.iadd, 1) := by decide +kernel
theorem dX7_image_48 : decode cX7_image 48 = .ok (.iload_n 2, 1) := by decide +kernel
theorem dX7_image_49 : decode cX7_image 49 = .ok (.iadd, 1) := by decide +kernel
theorem dX7_image_50 : decode cX7_image 50 = .ok (.aload_n 0, 1) := by decide +kernel
theorem dX7_image_51 : decode cX7_image 51 = .ok (.getfield 16, 3) := by decide +kernel
theorem dX7_image_54 : decode cX7_image 54 = .ok (.iload_n 2, 1) := by decide +kernel
theorem dX7_image_55 : decode cX7_image 55 = .ok (.iaload, 1) := by decide +kernel
theorem dX7_image_56 : decode cX7_image 56 = .ok (.iastore, 1) := by decide +kernel
theorem dX7_image_57 : decode cX7_image 57 = .ok (.iinc 2 1, 3) := by decide +kernel
theorem dX7_image_60 : decode cX7_image 60 = .ok (.goto (-46), 3) := by decide +kernel
theorem dX7_image_63 : decode cX7_image 63 = .ok (.iconst 0, 1) := by decide +kernel
theorem dX7_image_64 : decode cX7_image 64 = .ok (.istore_n 2, 1) := by decide +kernel
theorem dX7_image_65 : decode cX7_image 65 = .ok (.iload_n 2, 1) := by decide +kernel
theorem dX7_image_66 : decode cX7_image 66 = .ok (.iconst 5, 1) := by decide +kernel
theorem dX7_image_67 : decode cX7_image 67 = .ok (.if_icmp .ge 49, 3) := by decide +kernel
theorem dX7_image_70 : decode cX7_image 70 = .ok (.aload_n 0, 1) := by decide +kernel
theorem dX7_image_71 : decode cX7_image 71 = .ok (.getfield 53, 3) := by decide +kernel
theorem dX7_image_74 : decode cX7_image 74 = .ok (.bipush 30, 2) := by decide +kernel
theorem dX7_image_76 : decode cX7_image 76 = .ok (.iload_n 1, 1) := by decide +kernel
theorem dX7_image_77 : decode cX7_image 77 = .ok (.imul, 1) := by decide +kernel
theorem dX7_image_78 : decode cX7_image 78 = .ok (.bipush 20, 2) := by decide +kernel
theorem dX7_image_80 : decode cX7_image 80 = .ok (.iadd, 1) := by decide +kernel
theorem dX7_image_81 : decode cX7_image 81 = .ok (.iload_n 2, 1) := by decide +kernel
theorem dX7_image_82 : decode cX7_image 82 = .ok (.iadd, 1) := by decide +kernel
theorem dX7_image_83 : decode cX7_image 83 = .ok (.aload_n 0, 1) := by decide +kernel
theorem dX7_image_84 : decode cX7_image 84 = .ok (.getfield 19, 3) := by decide +kernel
theorem dX7_image_87 : decode cX7_image 87 = .ok (.iload_n 2, 1) := by decide +kernel
theorem dX7_image_88 : decode cX7_image 88 = .ok (.iaload, 1) := by decide +kernel
theorem dX7_image_89 : decode cX7_image 89 = .ok (.iastore, 1) := by decide +kernel
theorem dX7_image_90 : decode cX7_image 90 = .ok (.aload_n 0, 1) := by decide +kernel
theorem dX7_image_91 : decode cX7_image 91 = .ok (.getfield 53, 3) := by decide +kernel
theorem dX7_image_94 : decode cX7_image 94 = .ok (.bipush 30, 2) := by decide +kernel
theorem dX7_image_96 : decode cX7_image 96 = .ok (.iload_n 1, 1) := by decide +kernel
theorem dX7_image_97 : decode cX7_image 97 = .ok (.imul, 1) := by decide +kernel
theorem dX7_image_98 : decode cX7_image 98 = .ok (.bipush 25, 2) := by decide +kernel
theorem dX7_image_100 : decode cX7_image 100 = .ok (.iadd, 1) := by decide +kernel
theorem dX7_image_101 : decode cX7_image 101 = .ok (.iload_n 2, 1) := by decide +kernel
theorem dX7_image_102 : decode cX7_image 102 = .ok (.iadd, 1) := by decide +kernel
theorem dX7_image_103 : decode cX7_image 103 = .ok (.aload_n 0, 1) := by decide +kernel
theorem dX7_image_104 : decode cX7_image 104 = .ok (.getfield 22, 3) := by decide +kernel
theorem dX7_image_107 : decode cX7_image 107 = .ok (.iload_n 2, 1) := by decide +kernel
theorem dX7_image_108 : decode cX7_image 108 = .ok (.iaload, 1) := by decide +kernel
theorem dX7_image_109 : decode cX7_image 109 = .ok (.iastore, 1) := by decide +kernel
theorem dX7_image_110 : decode cX7_image 110 = .ok (.iinc 2 1, 3) := by decide +kernel
theorem dX7_image_113 : decode cX7_image 113 = .ok (.goto (-48), 3) := by decide +kernel
theorem dX7_image_116 : decode cX7_image 116 = .ok (.aload_n 0, 1) := by decide +kernel
theorem dX7_image_117 : decode cX7_image 117 = .ok (.getfield 56, 3) := by decide +kernel
theorem dX7_image_120 : decode cX7_image 120 = .ok (.iload_n 1, 1) := by decide +kernel
theorem dX7_image_121 : decode cX7_image 121 = .ok (.iconst 1, 1) := by decide +kernel
theorem dX7_image_122 : decode cX7_image 122 = .ok (.bastore, 1) := by decide +kernel
theorem dX7_image_123 : decode cX7_image 123 = .ok (.iconst 1, 1) := by decide +kernel
theorem dX7_image_124 : decode cX7_image 124 = .ok (.ireturn, 1) := by decide +kernel
set_option maxRecDepth 20000 in
theorem ggX7_restore_X7_in : GoodIn wsX7_restore wsX7_in := goodIn_r _ [10] (by decide +kernel) (by decide +kernel)
set_option maxRecDepth 20000 in
theorem gX7_restore_X7_in : GoodIn wsX7_restore (va_wsS RX7 59 yX7_in wsX7_in) := goodIn_app (goodIn_of _ (by decide +kernel)) ggX7_restore_X7_in
theorem dX7_restore_0 : decode cX7_restore 0 = .ok (.iload_n 1, 1) := by decide +kernel
theorem dX7_restore_1 : decode cX7_restore 1 = .ok (.iconst 0, 1) := by decide +kernel
theorem dX7_restore_2 : decode cX7_restore 2 = .ok (.iconst 1, 1) := by decide +kernel
theorem dX7_restore_3 : decode cX7_restore 3 = .ok (.invokestatic 59, 3) := by decide +kernel
theorem dX7_restore_6 : decode cX7_restore 6 = .ok (.ifCond .ne 6, 3) := by decide +kernel
theorem dX7_restore_9 : decode cX7_restore 9 = .ok (.bipush (-2), 2) := by decide +kernel
theorem dX7_restore_11 : decode cX7_restore 11 = .ok (.ireturn, 1) := by decide +kernel
theorem dX7_restore_12 : decode cX7_restore 12 = .ok (.aload_n 0, 1) := by decide +kernel
theorem dX7_restore_13 : decode cX7_restore 13 = .ok (.getfield 56, 3) := by decide +kernel
theorem dX7_restore_16 : decode cX7_restore 16 = .ok (.iload_n 1, 1) := by decide +kernel
theorem dX7_restore_17 : decode cX7_restore 17 = .ok (.baload, 1) := by decide +kernel
theorem dX7_restore_18 : decode cX7_restore 18 = .ok (.ifCond .ne 6, 3) := by decide +kernel
theorem dX7_restore_21 : decode cX7_restore 21 = .ok (.bipush (-3), 2) := by decide +kernel
theorem dX7_restore_23 : decode cX7_restore 23 = .ok (.ireturn, 1) := by decide +kernel
theorem dX7_restore_24 : decode cX7_restore 24 = .ok (.iconst 0, 1) := by decide +kernel
theorem dX7_restore_25 : decode cX7_restore 25 = .ok (.istore_n 2, 1) := by decide +kernel
theorem dX7_restore_26 : decode cX7_restore 26 = .ok (.iload_n 2, 1) := by decide +kernel
theorem dX7_restore_27 : decode cX7_restore 27 = .ok (.bipush 10, 2) := by decide +kernel
theorem dX7_restore_29 : decode cX7_restore 29 = .ok (.if_icmp .ge 46, 3) := by decide +kernel
theorem dX7_restore_32 : decode cX7_restore 32 = .ok (.aload_n 0, 1) := by decide +kernel
theorem dX7_restore_33 : decode cX7_restore 33 = .ok (.getfield 13, 3) := by decide +kernel
theorem dX7_restore_36 : decode cX7_restore 36 = .ok (.iload_n 2, 1) := by decide +kernel
theorem dX7_restore_37 : decode cX7_restore 37 = .ok (.aload_n 0, 1) := by decide +kernel
theorem dX7_restore_38 : decode cX7_restore 38 = .ok (.getfield 53, 3) := by decide +kernel
theorem dX7_restore_41 : decode cX7_restore 41 = .ok (.bipush 30, 2) := by decide +kernel
theorem dX7_restore_43 : decode cX7_restore 43 = .ok (.iload_n 1, 1) := by decide +kernel
theorem dX7_restore_44 : decode cX7_restore 44 = .ok (.imul, 1) := by decide +kernel
theorem dX7_restore_45 : decode cX7_restore 45 = .ok (.iload_n 2, 1) := by decide +kernel
theorem dX7_restore_46 : decode cX7_restore 46 = .ok (.iadd, 1) := by decide +kernel
theorem dX7_restore_47 : decode cX7_restore 47 = .ok (.iaload, 1) := by decide +kernel
theorem dX7_restore_48 : decode cX7_restore 48 = .ok (.iastore, 1) := by decide +kernel
theorem dX7_restore_49 : decode cX7_restore 49 = .ok (.aload_n 0, 1) := by decide +kernel
theorem dX7_restore_50 : decode cX7_restore 50 = .ok (.getfield 16, 3) := by decide +kernel
theorem dX7_restore_53 : decode cX7_restore 53 = .ok (.iload_n 2, 1) := by decide +kernel
theorem dX7_restore_54 : decode cX7_restore 54 = .ok (.aload_n 0, 1) := by decide +kernel
theorem dX7_restore_55 : decode cX7_restore 55 = .ok (.getfield 53, 3) := by decide +kernel
theorem dX7_restore_58 : decode cX7_restore 58 = .ok (.bipush 30, 2) := by decide +kernel
theorem dX7_restore_60 : decode cX7_restore 60 = .ok (.iload_n 1, 1) := by decide +kernel
theorem dX7_restore_61 : decode cX7_restore 61 = .ok (.imul, 1) := by decide +kernel
theorem dX7_restore_62 : decode cX7_restore 62 = .ok (.bipush 10, 2) := by decide +kernel
theorem dX7_restore_64 : decode cX7_restore 64 = .ok (.iadd, 1) := by decide +kernel
theorem dX7_restore_65 : decode cX7_restore 65 = .ok (.iload_n 2, 1) := by decide +kernel
theorem dX7_restore_66 : decode cX7_restore 66 = .ok (.iadd, 1) := by decide +kernel
theorem dX7_restore_67 : decode cX7_restore 67 = .ok (.iaload, 1) := by decide +kernel
theorem dX7_restore_68 : decode cX7_restore 68 = .ok (.iastore, 1) := by decide +kernel
theorem dX7_restore_69 : decode cX7_restore 69 = .ok (.iinc 2 1, 3) := by decide +kernel
theorem dX7_restore_72 : decode cX7_restore 72 = .ok (.goto (-46), 3) := by decide +kernel
theorem dX7_restore_75 : decode cX7_restore 75 = .ok (.iconst 0, 1) := by decide +kernel
theorem dX7_restore_76 : decode cX7_restore 76 = .ok (.istore_n 2, 1) := by decide +kernel
theorem dX7_restore_77 : decode cX7_restore 77 = .ok (.iload_n 2, 1) := by decide +kernel
theorem dX7_restore_78 : decode cX7_restore 78 = .ok (.iconst 5, 1) := by decide +kernel
theorem dX7_restore_79 : decode cX7_restore 79 = .ok (.if_icmp .ge 49, 3) := by decide +kernel
theorem dX7_restore_82 : decode cX7_restore 82 = .ok (.aload_n 0, 1) := by decide +kernel
theorem dX7_restore_83 : decode cX7_restore 83 = .ok (.getfield 19, 3) := by decide +kernel
theorem dX7_restore_86 : decode cX7_restore 86 = .ok (.iload_n 2, 1) := by decide +kernel
theorem dX7_restore_87 : decode cX7_restore 87 = .ok (.aload_n 0, 1) := by decide +kernel
theorem dX7_restore_88 : decode cX7_restore 88 = .ok (.getfield 53, 3) := by decide +kernel
theorem dX7_restore_91 : decode cX7_restore 91 = .ok (.bipush 30, 2) := by decide +kernel
theorem dX7_restore_93 : decode cX7_restore 93 = .ok (.iload_n 1, 1) := by decide +kernel
theorem dX7_restore_94 : decode cX7_restore 94 = .ok (.imul, 1) := by decide +kernel
theorem dX7_restore_95 : decode cX7_restore 95 = .ok (.bipush 20, 2) := by decide +kernel
theorem dX7_restore_97 : decode cX7_restore 97 = .ok (.iadd, 1) := by decide +kernel
theorem dX7_restore_98 : decode cX7_restore 98 = .ok (.iload_n 2, 1) := by decide +kernel
theorem dX7_restore_99 : decode cX7_restore 99 = .ok (.iadd, 1) := by decide +kernel
theorem dX7_restore_100 : decode cX7_restore 100 = .ok (.iaload, 1) := by decide +kernel
theorem dX7_restore_101 : decode cX7_restore 101 = .ok (.iastore, 1) := by decide +kernel
theorem dX7_restore_102 : decode cX7_restore 102 = .ok (.aload_n 0, 1) := by decide +kernel
theorem dX7_restore_103 : decode cX7_restore 103 = .ok (.getfield 22, 3) := by decide +kernel
theorem dX7_restore_106 : decode cX7_restore 106 = .ok (.iload_n 2, 1) := by decide +kernel
theorem dX7_restore_107 : decode cX7_restore 107 = .ok (.aload_n 0, 1) := by decide +kernel
theorem dX7_restore_108 : decode cX7_restore 108 = .ok (.getfield 53, 3) := by decide +kernel
theorem dX7_restore_111 : decode cX7_restore 111 = .ok (.bipush 30, 2) := by decide +kernel
theorem dX7_restore_113 : decode cX7_restore 113 = .ok (.iload_n 1, 1) := by decide +kernel
theorem dX7_restore_114 : decode cX7_restore 114 = .ok (.imul, 1) := by decide +kernel
theorem dX7_restore_115 : decode cX7_restore 115 = .ok (.bipush 25, 2) := by decide +kernel
theorem dX7_restore_117 : decode cX7_restore 117 = .ok (.iadd, 1) := by decide +kernel
theorem dX7_restore_118 : decode cX7_restore 118 = .ok (.iload_n 2, 1) := by decide +kernel
theorem dX7_restore_119 : decode cX7_restore 119 = .ok (.iadd, 1) := by decide +kernel
theorem dX7_restore_120 : decode cX7_restore 120 = .ok (.iaload, 1) := by decide +kernel
theorem dX7_restore_121 : decode cX7_restore 121 = .ok (.iastore, 1) := by decide +kernel
theorem dX7_restore_122 : decode cX7_restore 122 = .ok (.iinc 2 1, 3) := by decide +kernel
theorem dX7_restore_125 : decode cX7_restore 125 = .ok (.goto (-48), 3) := by decide +kernel
theorem dX7_restore_128 : decode cX7_restore 128 = .ok (.iconst 1, 1) := by decide +kernel
theorem dX7_restore_129 : decode cX7_restore 129 = .ok (.ireturn, 1) := by decide +kernel
set_option maxRecDepth 20000 in
theorem ggX7_join_X7_in : GoodIn wsX7_join wsX7_in := goodIn_r _ [7] (by decide +kernel) (by decide +kernel)
set_option maxRecDepth 20000 in
theorem gX7_join_X7_in : GoodIn wsX7_join (va_wsS RX7 59 yX7_in wsX7_in) := goodIn_app (goodIn_of _ (by decide +kernel)) ggX7_join_X7_in
set_option maxRecDepth 20000 in
theorem ggX7_join_X7_allSteps : GoodIn wsX7_join wsX7_allSteps := goodIn_r _ [11, 2, 12, 13, 6, 14, 15, 16, 17, 18, 19, 20, 21, 22, 23, 24, 25, 26, 27, 28, 29, 30, 31, 32] (by decide +kernel) (by decide +kernel)
set_option maxRecDepth 20000 in
theorem gX7_join_X7_allSteps : GoodIn wsX7_join (wsV RX7 85 RX7 yX7_allSteps wsX7_allSteps) := goodIn_app (goodIn_of _ (by decide +kernel)) ggX7_join_X7_allSteps
theorem dX7_join_0 : decode cX7_join 0 = .ok (.iload_n 1, 1) := by decide +kernel
theorem dX7_join_1 : decode cX7_join 1 = .ok (.iconst 0, 1) := by decide +kernel
theorem dX7_join_2 : decode cX7_join 2 = .ok (.iconst 1, 1) := by decide +kernel
theorem dX7_join_3 : decode cX7_join 3 = .ok (.invokestatic 59, 3) := by decide +kernel
theorem dX7_join_6 : decode cX7_join 6 = .ok (.ifCond .ne 6, 3) := by decide +kernel
theorem dX7_join_9 : decode cX7_join 9 = .ok (.bipush (-2), 2) := by decide +kernel
theorem dX7_join_11 : decode cX7_join 11 = .ok (.ireturn, 1) := by decide +kernel
theorem dX7_join_12 : decode cX7_join 12 = .ok (.aload_n 0, 1) := by decide +kernel
theorem dX7_join_13 : decode cX7_join 13 = .ok (.getfield 56, 3) := by decide +kernel
theorem dX7_join_16 : decode cX7_join 16 = .ok (.iload_n 1, 1) := by decide +kernel
theorem dX7_join_17 : decode cX7_join 17 = .ok (.baload, 1) := by decide +kernel
theorem dX7_join_18 : decode cX7_join 18 = .ok (.ifCond .ne 6, 3) := by decide +kernel
theorem dX7_join_21 : decode cX7_join 21 = .ok (.bipush (-3), 2) := by decide +kernel
theorem dX7_join_23 : decode cX7_join 23 = .ok (.ireturn, 1) := by decide +kernel
theorem dX7_join_24 : decode cX7_join 24 = .ok (.iconst 0, 1) := by decide +kernel
theorem dX7_join_25 : decode cX7_join 25 = .ok (.istore_n 2, 1) := by decide +kernel
theorem dX7_join_26 : decode cX7_join 26 = .ok (.iload_n 2, 1) := by decide +kernel
theorem dX7_join_27 : decode cX7_join 27 = .ok (.bipush 10, 2) := by decide +kernel
theorem dX7_join_29 : decode cX7_join 29 = .ok (.if_icmp .ge 29, 3) := by decide +kernel
theorem dX7_join_32 : decode cX7_join 32 = .ok (.aload_n 0, 1) := by decide +kernel
theorem dX7_join_33 : decode cX7_join 33 = .ok (.getfield 13, 3) := by decide +kernel
theorem dX7_join_36 : decode cX7_join 36 = .ok (.iload_n 2, 1) := by decide +kernel
theorem dX7_join_37 : decode cX7_join 37 = .ok (.dup2, 1) := by decide +kernel
theorem dX7_join_38 : decode cX7_join 38 = .ok (.iaload, 1) := by decide +kernel
theorem dX7_join_39 : decode cX7_join 39 = .ok (.aload_n 0, 1) := by decide +kernel
theorem dX7_join_40 : decode cX7_join 40 = .ok (.getfield 53, 3) := by decide +kernel
theorem dX7_join_43 : decode cX7_join 43 = .ok (.bipush 30, 2) := by decide +kernel
theorem dX7_join_45 : decode cX7_join 45 = .ok (.iload_n 1, 1) := by decide +kernel
theorem dX7_join_46 : decode cX7_join 46 = .ok (.imul, 1) := by decide +kernel
theorem dX7_join_47 : decode cX7_join 47 = .ok (.iload_n 2, 1) := by decide +kernel
theorem dX7_join_48 : decode cX7_join 48 = .ok (.iadd, 1) := by decide +kernel
theorem dX7_join_49 : decode cX7_join 49 = .ok (.iaload, 1) := by decide +kernel
theorem dX7_join_50 : decode cX7_join 50 = .ok (.ior, 1) := by decide +kernel
theorem dX7_join_51 : decode cX7_join 51 = .ok (.iastore, 1) := by decide +kernel
theorem dX7_join_52 : decode cX7_join 52 = .ok (.iinc 2 1, 3) := by decide +kernel
theorem dX7_join_55 : decode cX7_join 55 = .ok (.goto (-29), 3) := by decide +kernel
theorem dX7_join_58 : decode cX7_join 58 = .ok (.aload_n 0, 1) := by decide +kernel
theorem dX7_join_59 : decode cX7_join 59 = .ok (.invokevirtual 85, 3) := by decide +kernel
theorem dX7_join_62 : decode cX7_join 62 = .ok (.ireturn, 1) := by decide +kernel
set_option maxRecDepth 20000 in
theorem ggX7_told_X7_in : GoodIn wsX7_told wsX7_in := goodIn_r _ [9] (by decide +kernel) (by decide +kernel)
set_option maxRecDepth 20000 in
theorem gX7_told_X7_in : GoodIn wsX7_told (va_wsS RX7 59 yX7_in wsX7_in) := goodIn_app (goodIn_of _ (by decide +kernel)) ggX7_told_X7_in
set_option maxRecDepth 20000 in
theorem ggX7_told_X7_allSteps : GoodIn wsX7_told wsX7_allSteps := goodIn_r _ [13, 4, 14, 15, 8, 16, 17, 18, 19, 20, 21, 22, 23, 24, 25, 26, 27, 28, 29, 30, 31, 32, 33, 34] (by decide +kernel) (by decide +kernel)
set_option maxRecDepth 20000 in
theorem gX7_told_X7_allSteps : GoodIn wsX7_told (wsV RX7 85 RX7 yX7_allSteps wsX7_allSteps) := goodIn_app (goodIn_of _ (by decide +kernel)) ggX7_told_X7_allSteps
theorem dX7_told_0 : decode cX7_told 0 = .ok (.iload_n 1, 1) := by decide +kernel
theorem dX7_told_1 : decode cX7_told 1 = .ok (.bipush 10, 2) := by decide +kernel
theorem dX7_told_3 : decode cX7_told 3 = .ok (.irem, 1) := by decide +kernel
theorem dX7_told_4 : decode cX7_told 4 = .ok (.istore_n 2, 1) := by decide +kernel
theorem dX7_told_5 : decode cX7_told 5 = .ok (.iload_n 1, 1) := by decide +kernel
theorem dX7_told_6 : decode cX7_told 6 = .ok (.bipush 10, 2) := by decide +kernel
theorem dX7_told_8 : decode cX7_told 8 = .ok (.bipush 19, 2) := by decide +kernel
theorem dX7_told_10 : decode cX7_told 10 = .ok (.invokestatic 59, 3) := by decide +kernel
theorem dX7_told_13 : decode cX7_told 13 = .ok (.ifCond .eq 10, 3) := by decide +kernel
theorem dX7_told_16 : decode cX7_told 16 = .ok (.aload_n 0, 1) := by decide +kernel
theorem dX7_told_17 : decode cX7_told 17 = .ok (.getfield 16, 3) := by decide +kernel
theorem dX7_told_20 : decode cX7_told 20 = .ok (.iload_n 2, 1) := by decide +kernel
theorem dX7_told_21 : decode cX7_told 21 = .ok (.iaload, 1) := by decide +kernel
theorem dX7_told_22 : decode cX7_told 22 = .ok (.ireturn, 1) := by decide +kernel
theorem dX7_told_23 : decode cX7_told 23 = .ok (.iload_n 1, 1) := by decide +kernel
theorem dX7_told_24 : decode cX7_told 24 = .ok (.bipush 20, 2) := by decide +kernel
theorem dX7_told_26 : decode cX7_told 26 = .ok (.bipush 24, 2) := by decide +kernel
theorem dX7_told_28 : decode cX7_told 28 = .ok (.invokestatic 59, 3) := by decide +kernel
theorem dX7_told_31 : decode cX7_told 31 = .ok (.ifCond .eq 10, 3) := by decide +kernel
theorem dX7_told_34 : decode cX7_told 34 = .ok (.aload_n 0, 1) := by decide +kernel
theorem dX7_told_35 : decode cX7_told 35 = .ok (.getfield 19, 3) := by decide +kernel
theorem dX7_told_38 : decode cX7_told 38 = .ok (.iload_n 2, 1) := by decide +kernel
theorem dX7_told_39 : decode cX7_told 39 = .ok (.iaload, 1) := by decide +kernel
theorem dX7_told_40 : decode cX7_told 40 = .ok (.ireturn, 1) := by decide +kernel
theorem dX7_told_41 : decode cX7_told 41 = .ok (.iload_n 1, 1) := by decide +kernel
theorem dX7_told_42 : decode cX7_told 42 = .ok (.bipush 30, 2) := by decide +kernel
theorem dX7_told_44 : decode cX7_told 44 = .ok (.bipush 34, 2) := by decide +kernel
theorem dX7_told_46 : decode cX7_told 46 = .ok (.invokestatic 59, 3) := by decide +kernel
theorem dX7_told_49 : decode cX7_told 49 = .ok (.ifCond .eq 10, 3) := by decide +kernel
theorem dX7_told_52 : decode cX7_told 52 = .ok (.aload_n 0, 1) := by decide +kernel
theorem dX7_told_53 : decode cX7_told 53 = .ok (.getfield 22, 3) := by decide +kernel
theorem dX7_told_56 : decode cX7_told 56 = .ok (.iload_n 2, 1) := by decide +kernel
theorem dX7_told_57 : decode cX7_told 57 = .ok (.iaload, 1) := by decide +kernel
theorem dX7_told_58 : decode cX7_told 58 = .ok (.ireturn, 1) := by decide +kernel
theorem dX7_told_59 : decode cX7_told 59 = .ok (.iload_n 1, 1) := by decide +kernel
theorem dX7_told_60 : decode cX7_told 60 = .ok (.bipush 40, 2) := by decide +kernel
theorem dX7_told_62 : decode cX7_told 62 = .ok (.bipush 49, 2) := by decide +kernel
theorem dX7_told_64 : decode cX7_told 64 = .ok (.invokestatic 59, 3) := by decide +kernel
theorem dX7_told_67 : decode cX7_told 67 = .ok (.ifCond .eq 10, 3) := by decide +kernel
theorem dX7_told_70 : decode cX7_told 70 = .ok (.aload_n 0, 1) := by decide +kernel
theorem dX7_told_71 : decode cX7_told 71 = .ok (.getfield 13, 3) := by decide +kernel
theorem dX7_told_74 : decode cX7_told 74 = .ok (.iload_n 2, 1) := by decide +kernel
theorem dX7_told_75 : decode cX7_told 75 = .ok (.iaload, 1) := by decide +kernel
theorem dX7_told_76 : decode cX7_told 76 = .ok (.ireturn, 1) := by decide +kernel
theorem dX7_told_77 : decode cX7_told 77 = .ok (.iload_n 1, 1) := by decide +kernel
theorem dX7_told_78 : decode cX7_told 78 = .ok (.ifCond .ne 10, 3) := by decide +kernel
theorem dX7_told_81 : decode cX7_told 81 = .ok (.aload_n 0, 1) := by decide +kernel
theorem dX7_told_82 : decode cX7_told 82 = .ok (.getfield 67, 3) := by decide +kernel
theorem dX7_told_85 : decode cX7_told 85 = .ok (.goto 17, 3) := by decide +kernel
theorem dX7_told_88 : decode cX7_told 88 = .ok (.iload_n 1, 1) := by decide +kernel
theorem dX7_told_89 : decode cX7_told 89 = .ok (.iconst 1, 1) := by decide +kernel
theorem dX7_told_90 : decode cX7_told 90 = .ok (.if_icmp .ne 10, 3) := by decide +kernel
theorem dX7_told_93 : decode cX7_told 93 = .ok (.aload_n 0, 1) := by decide +kernel
theorem dX7_told_94 : decode cX7_told 94 = .ok (.invokevirtual 85, 3) := by decide +kernel
theorem dX7_told_97 : decode cX7_told 97 = .ok (.goto 5, 3) := by decide +kernel
theorem dX7_told_100 : decode cX7_told 100 = .ok (.bipush (-2), 2) := by decide +kernel
theorem dX7_told_102 : decode cX7_told 102 = .ok (.ireturn, 1) := by decide +kernel
theorem dJ6_bitCount_0f7a4_0 : decode cJ6_bitCount_0f7a4 0 = .ok (.iload_n 0, 1) := by decide +kernel
theorem dJ6_bitCount_0f7a4_1 : decode cJ6_bitCount_0f7a4 1 = .ok (.iload_n 0, 1) := by decide +kernel
theorem dJ6_bitCount_0f7a4_2 : decode cJ6_bitCount_0f7a4 2 = .ok (.iconst 1, 1) := by decide +kernel
theorem dJ6_bitCount_0f7a4_3 : decode cJ6_bitCount_0f7a4 3 = .ok (.iushr, 1) := by decide +kernel
theorem dJ6_bitCount_0f7a4_4 : decode cJ6_bitCount_0f7a4 4 = .ok (.ldc_w 265, 3) := by decide +kernel
theorem dJ6_bitCount_0f7a4_7 : decode cJ6_bitCount_0f7a4 7 = .ok (.iand, 1) := by decide +kernel
theorem dJ6_bitCount_0f7a4_8 : decode cJ6_bitCount_0f7a4 8 = .ok (.isub, 1) := by decide +kernel
theorem dJ6_bitCount_0f7a4_9 : decode cJ6_bitCount_0f7a4 9 = .ok (.istore_n 0, 1) := by decide +kernel
theorem dJ6_bitCount_0f7a4_10 : decode cJ6_bitCount_0f7a4 10 = .ok (.iload_n 0, 1) := by decide +kernel
theorem dJ6_bitCount_0f7a4_11 : decode cJ6_bitCount_0f7a4 11 = .ok (.ldc_w 266, 3) := by decide +kernel
theorem dJ6_bitCount_0f7a4_14 : decode cJ6_bitCount_0f7a4 14 = .ok (.iand, 1) := by decide +kernel
theorem dJ6_bitCount_0f7a4_15 : decode cJ6_bitCount_0f7a4 15 = .ok (.iload_n 0, 1) := by decide +kernel
theorem dJ6_bitCount_0f7a4_16 : decode cJ6_bitCount_0f7a4 16 = .ok (.iconst 2, 1) := by decide +kernel
theorem dJ6_bitCount_0f7a4_17 : decode cJ6_bitCount_0f7a4 17 = .ok (.iushr, 1) := by decide +kernel
theorem dJ6_bitCount_0f7a4_18 : decode cJ6_bitCount_0f7a4 18 = .ok (.ldc_w 266, 3) := by decide +kernel
theorem dJ6_bitCount_0f7a4_21 : decode cJ6_bitCount_0f7a4 21 = .ok (.iand, 1) := by decide +kernel
theorem dJ6_bitCount_0f7a4_22 : decode cJ6_bitCount_0f7a4 22 = .ok (.iadd, 1) := by decide +kernel
theorem dJ6_bitCount_0f7a4_23 : decode cJ6_bitCount_0f7a4 23 = .ok (.istore_n 0, 1) := by decide +kernel
theorem dJ6_bitCount_0f7a4_24 : decode cJ6_bitCount_0f7a4 24 = .ok (.iload_n 0, 1) := by decide +kernel
theorem dJ6_bitCount_0f7a4_25 : decode cJ6_bitCount_0f7a4 25 = .ok (.iload_n 0, 1) := by decide +kernel
theorem dJ6_bitCount_0f7a4_26 : decode cJ6_bitCount_0f7a4 26 = .ok (.iconst 4, 1) := by decide +kernel
theorem dJ6_bitCount_0f7a4_27 : decode cJ6_bitCount_0f7a4 27 = .ok (.iushr, 1) := by decide +kernel
theorem dJ6_bitCount_0f7a4_28 : decode cJ6_bitCount_0f7a4 28 = .ok (.iadd, 1) := by decide +kernel
theorem dJ6_bitCount_0f7a4_29 : decode cJ6_bitCount_0f7a4 29 = .ok (.ldc_w 267, 3) := by decide +kernel
theorem dJ6_bitCount_0f7a4_32 : decode cJ6_bitCount_0f7a4 32 = .ok (.iand, 1) := by decide +kernel
theorem dJ6_bitCount_0f7a4_33 : decode cJ6_bitCount_0f7a4 33 = .ok (.istore_n 0, 1) := by decide +kernel
theorem dJ6_bitCount_0f7a4_34 : decode cJ6_bitCount_0f7a4 34 = .ok (.iload_n 0, 1) := by decide +kernel
theorem dJ6_bitCount_0f7a4_35 : decode cJ6_bitCount_0f7a4 35 = .ok (.iload_n 0, 1) := by decide +kernel
theorem dJ6_bitCount_0f7a4_36 : decode cJ6_bitCount_0f7a4 36 = .ok (.bipush 8, 2) := by decide +kernel
theorem dJ6_bitCount_0f7a4_38 : decode cJ6_bitCount_0f7a4 38 = .ok (.iushr, 1) := by decide +kernel
theorem dJ6_bitCount_0f7a4_39 : decode cJ6_bitCount_0f7a4 39 = .ok (.iadd, 1) := by decide +kernel
theorem dJ6_bitCount_0f7a4_40 : decode cJ6_bitCount_0f7a4 40 = .ok (.istore_n 0, 1) := by decide +kernel
theorem dJ6_bitCount_0f7a4_41 : decode cJ6_bitCount_0f7a4 41 = .ok (.iload_n 0, 1) := by decide +kernel
theorem dJ6_bitCount_0f7a4_42 : decode cJ6_bitCount_0f7a4 42 = .ok (.iload_n 0, 1) := by decide +kernel
theorem dJ6_bitCount_0f7a4_43 : decode cJ6_bitCount_0f7a4 43 = .ok (.bipush 16, 2) := by decide +kernel
theorem dJ6_bitCount_0f7a4_45 : decode cJ6_bitCount_0f7a4 45 = .ok (.iushr, 1) := by decide +kernel
theorem dJ6_bitCount_0f7a4_46 : decode cJ6_bitCount_0f7a4 46 = .ok (.iadd, 1) := by decide +kernel
theorem dJ6_bitCount_0f7a4_47 : decode cJ6_bitCount_0f7a4 47 = .ok (.istore_n 0, 1) := by decide +kernel
theorem dJ6_bitCount_0f7a4_48 : decode cJ6_bitCount_0f7a4 48 = .ok (.iload_n 0, 1) := by decide +kernel
theorem dJ6_bitCount_0f7a4_49 : decode cJ6_bitCount_0f7a4 49 = .ok (.bipush 63, 2) := by decide +kernel
theorem dJ6_bitCount_0f7a4_51 : decode cJ6_bitCount_0f7a4 51 = .ok (.iand, 1) := by decide +kernel
theorem dJ6_bitCount_0f7a4_52 : decode cJ6_bitCount_0f7a4 52 = .ok (.ireturn, 1) := by decide +kernel
set_option maxRecDepth 20000 in
theorem ggL_law_X6_init : GoodIn wsL_law wsX6_init := goodIn_r _ [8, 9, 10, 11, 12, 13, 14, 15, 16, 17, 18, 19, 20, 21, 22, 23, 24, 25, 26, 27, 28, 29, 30, 31, 32, 33, 34, 35, 36, 37, 38, 39, 40, 41, 42, 43, 44, 45, 46, 47, 48, 49, 50, 51, 52, 53, 54, 55, 56, 57, 58, 59, 60, 61, 62, 63, 64, 65, 66, 67, 68, 69, 70, 71, 72, 73, 74, 75, 76, 77, 78, 79, 80, 81, 82, 83, 84, 85, 86, 87, 662, 663, 636, 637, 638, 639, 640, 641, 642, 643, 664, 665, 666, 667, 668, 669, 670, 671, 672, 673, 674, 675, 676, 677, 678, 679, 680, 681, 682, 683, 684, 685, 686, 687, 688, 689, 690, 691] (by decide +kernel) (by decide +kernel)
set_option maxRecDepth 20000 in
theorem gL_law_X6_init : GoodIn wsL_law (wsX6_init) := ggL_law_X6_init
set_option maxRecDepth 20000 in
theorem ggL_law_X7_init : GoodIn wsL_law wsX7_init := goodIn_r _ [90, 91, 10, 11, 41, 92, 93, 94, 95, 96, 97, 98, 99, 100, 67, 101, 102, 103, 104, 105, 106, 107, 644, 645, 646, 647, 648, 649, 650, 651, 652, 653, 654, 655, 656, 657, 658, 659, 660, 661] (by decide +kernel) (by decide +kernel)
set_option maxRecDepth 20000 in
theorem gL_law_X7_init : GoodIn wsL_law (wsX7_init) := ggL_law_X7_init
set_option maxRecDepth 20000 in
theorem ggL_law_X6_say : GoodIn wsL_law wsX6_say := goodIn_r _ [111, 15, 112, 113, 2, 114, 115, 14, 116, 117, 43, 118, 119, 120, 42, 121, 122, 123, 636, 637, 638, 639, 640, 641, 642, 643, 662, 663] (by decide +kernel) (by decide +kernel)
set_option maxRecDepth 20000 in
theorem gL_law_X6_say : GoodIn wsL_law (wsV RL 13 RX6 yX6_say wsX6_say) := goodIn_app (goodIn_of _ (by decide +kernel)) ggL_law_X6_say
set_option maxRecDepth 20000 in
theorem ggL_law_X7_say : GoodIn wsL_law wsX7_say := goodIn_r _ [127, 128, 92, 129, 130, 5, 131, 644, 645, 646, 647, 648, 649, 650, 651, 652, 653, 654, 655, 656, 657, 658, 659, 660, 661] (by decide +kernel) (by decide +kernel)
set_option maxRecDepth 20000 in
theorem gL_law_X7_say : GoodIn wsL_law (wsV RL 17 RX7 yX7_say wsX7_say) := goodIn_app (goodIn_of _ (by decide +kernel)) ggL_law_X7_say
set_option maxRecDepth 20000 in
theorem ggL_law_X6_wipe : GoodIn wsL_law wsX6_wipe := goodIn_r _ [135, 15, 121, 14, 122, 123, 43, 136, 137, 138, 636, 637, 638, 639, 640, 641, 642, 643, 662, 663] (by decide +kernel) (by decide +kernel)
set_option maxRecDepth 20000 in
theorem gL_law_X6_wipe : GoodIn wsL_law (wsV RL 18 RX6 yX6_wipe wsX6_wipe) := goodIn_app (goodIn_of _ (by decide +kernel)) ggL_law_X6_wipe
set_option maxRecDepth 20000 in
theorem ggL_law_X7_wipe : GoodIn wsL_law wsX7_wipe := goodIn_r _ [142, 128, 644, 645, 646, 647, 648, 649, 650, 651, 652, 653, 654, 655, 656, 657, 658, 659, 660, 661] (by decide +kernel) (by decide +kernel)
set_option maxRecDepth 20000 in
theorem gL_law_X7_wipe : GoodIn wsL_law (wsV RL 22 RX7 yX7_wipe wsX7_wipe) := goodIn_app (goodIn_of _ (by decide +kernel)) ggL_law_X7_wipe
set_option maxRecDepth 20000 in
theorem ggL_law_X6_fault : GoodIn wsL_law wsX6_fault := goodIn_r _ [146, 15, 112, 113, 2, 114, 147, 14, 148, 149, 43, 150, 151, 152, 153, 154, 155, 156, 157, 158, 159, 160, 161, 42, 162, 163, 164, 165, 166, 167, 168, 169, 170, 171, 172, 173, 174, 175, 176, 177, 178, 636, 637, 638, 639, 640, 641, 642, 643, 662, 663] (by decide +kernel) (by decide +kernel)
set_option maxRecDepth 20000 in
theorem gL_law_X6_fault : GoodIn wsL_law (wsV RL 23 RX6 yX6_fault wsX6_fault) := goodIn_app (goodIn_of _ (by decide +kernel)) ggL_law_X6_fault
set_option maxRecDepth 20000 in
theorem ggL_law_X7_fault : GoodIn wsL_law wsX7_fault := goodIn_r _ [182, 183, 184, 185, 5, 186, 128, 92, 187, 188, 189, 129, 130, 131, 190, 191, 192, 193, 644, 645, 646, 647, 648, 649, 650, 651, 652, 653, 654, 655, 656, 657, 658, 659, 660, 661] (by decide +kernel) (by decide +kernel)
set_option maxRecDepth 20000 in
theorem gL_law_X7_fault : GoodIn wsL_law (wsV RL 26 RX7 yX7_fault wsX7_fault) := goodIn_app (goodIn_of _ (by decide +kernel)) ggL_law_X7_fault
set_option maxRecDepth 20000 in
theorem ggL_law_X6_steps : GoodIn wsL_law wsX6_steps := goodIn_r _ [197, 15, 19, 147, 14, 148, 149, 43, 150, 151, 152, 153, 154, 155, 156, 157, 158, 159, 160, 161, 42, 162, 2, 163, 164, 165, 112, 113, 114, 121, 122, 123, 198, 18, 199, 200, 47, 201, 202, 203, 204, 205, 206, 136, 137, 138, 207, 208, 209, 210, 211, 212, 213, 214, 215, 216, 636, 637, 638, 639, 640, 641, 642, 643, 662, 663, 664, 665, 666, 667, 668] (by decide +kernel) (by decide +kernel)
set_option maxRecDepth 20000 in
theorem gL_law_X6_steps : GoodIn wsL_law (wsV RL 27 RX6 yX6_steps wsX6_steps) := goodIn_app (goodIn_of _ (by decide +kernel)) ggL_law_X6_steps
set_option maxRecDepth 20000 in
theorem ggL_law_X7_steps : GoodIn wsL_law wsX7_steps := goodIn_r _ [220, 128, 92, 93, 183, 184, 185, 5, 186, 187, 188, 189, 129, 130, 131, 221, 222, 223, 224, 225, 226, 227, 644, 645, 646, 647, 648, 649, 650, 651, 652, 653, 654, 655, 656, 657, 658, 659, 660, 661] (by decide +kernel) (by decide +kernel)
set_option maxRecDepth 20000 in
theorem gL_law_X7_steps : GoodIn wsL_law (wsV RL 30 RX7 yX7_steps wsX7_steps) := goodIn_app (goodIn_of _ (by decide +kernel)) ggL_law_X7_steps
set_option maxRecDepth 20000 in
theorem ggL_law_X6_step : GoodIn wsL_law wsX6_step := goodIn_r _ [231, 19, 232, 164, 2, 165, 112, 113, 114, 202, 18, 203, 204, 47, 162, 163, 233, 234, 235, 198, 199, 200, 201, 205, 206, 636, 637, 638, 639, 640, 641, 642, 643, 664, 665, 666, 667, 668] (by decide +kernel) (by decide +kernel)
set_option maxRecDepth 20000 in
theorem gL_law_X6_step : GoodIn wsL_law (wsV RL 31 RX6 yX6_step wsX6_step) := goodIn_app (goodIn_of _ (by decide +kernel)) ggL_law_X6_step
set_option maxRecDepth 20000 in
theorem ggL_law_X7_step : GoodIn wsL_law wsX7_step := goodIn_r _ [239, 93, 240, 241, 5, 242, 129, 130, 131, 644, 645, 646, 647, 648, 649, 650, 651, 652, 653, 654, 655, 656, 657, 658, 659, 660, 661] (by decide +kernel) (by decide +kernel)
set_option maxRecDepth 20000 in
theorem gL_law_X7_step : GoodIn wsL_law (wsV RL 35 RX7 yX7_step wsX7_step) := goodIn_app (goodIn_of _ (by decide +kernel)) ggL_law_X7_step
set_option maxRecDepth 20000 in
theorem ggL_law_X6_needs : GoodIn wsL_law wsX6_needs := goodIn_r _ [246, 19, 232, 164, 2, 165, 112, 113, 114, 247, 18, 248, 249, 48, 162, 163, 250, 251, 252, 205, 206, 636, 637, 638, 639, 640, 641, 642, 643, 664, 665, 666, 667, 668] (by decide +kernel) (by decide +kernel)
set_option maxRecDepth 20000 in
theorem gL_law_X6_needs : GoodIn wsL_law (wsV RL 36 RX6 yX6_needs wsX6_needs) := goodIn_app (goodIn_of _ (by decide +kernel)) ggL_law_X6_needs
set_option maxRecDepth 20000 in
theorem ggL_law_X7_needs : GoodIn wsL_law wsX7_needs := goodIn_r _ [256, 94, 240, 241, 5, 242, 129, 130, 131, 644, 645, 646, 647, 648, 649, 650, 651, 652, 653, 654, 655, 656, 657, 658, 659, 660, 661] (by decide +kernel) (by decide +kernel)
set_option maxRecDepth 20000 in
theorem gL_law_X7_needs : GoodIn wsL_law (wsV RL 40 RX7 yX7_needs wsX7_needs) := goodIn_app (goodIn_of _ (by decide +kernel)) ggL_law_X7_needs
set_option maxRecDepth 20000 in
theorem ggL_law_X6_man : GoodIn wsL_law wsX6_man := goodIn_r _ [260, 19, 261, 177, 2, 178, 112, 113, 114, 262, 18, 263, 264, 49, 162, 163, 265, 266, 267, 205, 206, 268, 269, 270, 50, 271, 272, 273, 636, 637, 638, 639, 640, 641, 642, 643, 664, 665, 666, 667, 668] (by decide +kernel) (by decide +kernel)
set_option maxRecDepth 20000 in
theorem gL_law_X6_man : GoodIn wsL_law (wsV RL 41 RX6 yX6_man wsX6_man) := goodIn_app (goodIn_of _ (by decide +kernel)) ggL_law_X6_man
set_option maxRecDepth 20000 in
theorem ggL_law_X7_man : GoodIn wsL_law wsX7_man := goodIn_r _ [277, 95, 96, 278, 279, 5, 280, 129, 130, 131, 644, 645, 646, 647, 648, 649, 650, 651, 652, 653, 654, 655, 656, 657, 658, 659, 660, 661] (by decide +kernel) (by decide +kernel)
set_option maxRecDepth 20000 in
theorem gL_law_X7_man : GoodIn wsL_law (wsV RL 45 RX7 yX7_man wsX7_man) := goodIn_app (goodIn_of _ (by decide +kernel)) ggL_law_X7_man
set_option maxRecDepth 20000 in
theorem ggL_law_X6_fit : GoodIn wsL_law wsX6_fit := goodIn_r _ [284, 19, 261, 177, 2, 178, 112, 113, 114, 285, 18, 286, 287, 288, 262, 263, 264, 49, 162, 163, 289, 247, 248, 249, 48, 636, 637, 638, 639, 640, 641, 642, 643, 664, 665, 666, 667, 668] (by decide +kernel) (by decide +kernel)
set_option maxRecDepth 20000 in
theorem gL_law_X6_fit : GoodIn wsL_law (wsV RL 46 RX6 yX6_fit wsX6_fit) := goodIn_app (goodIn_of _ (by decide +kernel)) ggL_law_X6_fit
set_option maxRecDepth 20000 in
theorem ggL_law_X7_fit : GoodIn wsL_law wsX7_fit := goodIn_r _ [293, 278, 279, 5, 280, 129, 130, 131, 294, 295, 296, 297, 94, 95, 644, 645, 646, 647, 648, 649, 650, 651, 652, 653, 654, 655, 656, 657, 658, 659, 660, 661] (by decide +kernel) (by decide +kernel)
set_option maxRecDepth 20000 in
theorem gL_law_X7_fit : GoodIn wsL_law (wsV RL 49 RX7 yX7_fit wsX7_fit) := goodIn_app (goodIn_of _ (by decide +kernel)) ggL_law_X7_fit
set_option maxRecDepth 20000 in
theorem ggL_law_X6_judge : GoodIn wsL_law wsX6_judge := goodIn_r _ [301, 15, 112, 113, 2, 114, 166, 14, 167, 168, 43, 169, 170, 171, 172, 154, 155, 156, 157, 158, 159, 160, 161, 42, 162, 163, 164, 165, 173, 174, 175, 176, 177, 178, 121, 122, 123, 302, 303, 304, 305, 19, 202, 18, 203, 204, 47, 233, 234, 235, 261, 285, 286, 287, 288, 262, 263, 264, 49, 289, 247, 248, 249, 48, 268, 269, 270, 50, 636, 637, 638, 639, 640, 641, 642, 643, 662, 663, 664, 665, 666, 667, 668] (by decide +kernel) (by decide +kernel)
set_option maxRecDepth 20000 in
theorem gL_law_X6_judge : GoodIn wsL_law (wsV RL 50 RX6 yX6_judge wsX6_judge) := goodIn_app (goodIn_of _ (by decide +kernel)) ggL_law_X6_judge
set_option maxRecDepth 20000 in
theorem ggL_law_X7_judge : GoodIn wsL_law wsX7_judge := goodIn_r _ [309, 128, 129, 130, 5, 131, 190, 191, 192, 193, 92, 187, 188, 189, 310, 311, 312, 313, 93, 96, 314, 315, 316, 294, 295, 296, 297, 94, 95, 644, 645, 646, 647, 648, 649, 650, 651, 652, 653, 654, 655, 656, 657, 658, 659, 660, 661] (by decide +kernel) (by decide +kernel)
set_option maxRecDepth 20000 in
theorem gL_law_X7_judge : GoodIn wsL_law (wsV RL 53 RX7 yX7_judge wsX7_judge) := goodIn_app (goodIn_of _ (by decide +kernel)) ggL_law_X7_judge
set_option maxRecDepth 20000 in
theorem ggL_law_X6_match : GoodIn wsL_law wsX6_match := goodIn_r _ [320, 19, 25, 321, 322, 2, 323, 261, 177, 178, 112, 113, 114, 324, 18, 325, 326, 327, 268, 269, 270, 50, 162, 163, 328, 285, 286, 287, 288, 262, 263, 264, 49, 289, 247, 248, 249, 48, 329, 24, 330, 331, 57, 58, 332, 333, 334, 335, 56, 60, 59, 336, 337, 338, 339, 340, 211, 212, 213, 214, 215, 216, 234, 235, 341, 342, 343, 344, 345, 346, 347, 348, 55, 61, 202, 203, 204, 47, 205, 206, 349, 350, 351, 352, 353, 354, 355, 356, 357, 358, 359, 360, 361, 636, 637, 638, 639, 640, 641, 642, 643, 664, 665, 666, 667, 668, 669, 670, 671, 672, 673, 674, 675] (by decide +kernel) (by decide +kernel)
set_option maxRecDepth 20000 in
theorem gL_law_X6_match : GoodIn wsL_law (wsV RL 54 RX6 yX6_match wsX6_match) := goodIn_app (goodIn_of _ (by decide +kernel)) ggL_law_X6_match
set_option maxRecDepth 20000 in
theorem ggL_law_X7_match : GoodIn wsL_law wsX7_match := goodIn_r _ [365, 98, 366, 367, 368, 5, 369, 278, 279, 280, 129, 130, 131, 370, 371, 372, 373, 96, 97, 93, 294, 295, 296, 297, 94, 95, 314, 315, 316, 374, 375, 376, 377, 378, 379, 380, 381, 382, 383, 384, 385, 386, 644, 645, 646, 647, 648, 649, 650, 651, 652, 653, 654, 655, 656, 657, 658, 659, 660, 661] (by decide +kernel) (by decide +kernel)
set_option maxRecDepth 20000 in
theorem gL_law_X7_match : GoodIn wsL_law (wsV RL 57 RX7 yX7_match wsX7_match) := goodIn_app (goodIn_of _ (by decide +kernel)) ggL_law_X7_match
set_option maxRecDepth 20000 in
theorem ggL_law_X6_middle : GoodIn wsL_law wsX6_middle := goodIn_r _ [390, 19, 25, 321, 322, 2, 323, 261, 177, 178, 112, 113, 114, 232, 164, 165, 233, 234, 235, 324, 18, 325, 326, 327, 268, 269, 270, 50, 162, 163, 328, 285, 286, 287, 288, 262, 263, 264, 49, 289, 247, 248, 249, 48, 202, 203, 204, 47, 329, 24, 330, 331, 57, 58, 332, 333, 334, 335, 56, 60, 59, 336, 337, 338, 339, 340, 211, 212, 213, 214, 215, 216, 341, 342, 343, 344, 345, 346, 347, 348, 55, 61, 205, 206, 349, 350, 351, 352, 353, 354, 355, 356, 357, 358, 359, 360, 361, 636, 637, 638, 639, 640, 641, 642, 643, 664, 665, 666, 667, 668, 669, 670, 671, 672, 673, 674, 675] (by decide +kernel) (by decide +kernel)
set_option maxRecDepth 20000 in
theorem gL_law_X6_middle : GoodIn wsL_law (wsV RL 58 RX6 yX6_middle wsX6_middle) := goodIn_app (goodIn_of _ (by decide +kernel)) ggL_law_X6_middle
set_option maxRecDepth 20000 in
theorem ggL_law_X7_middle : GoodIn wsL_law wsX7_middle := goodIn_r _ [394, 93, 98, 366, 367, 368, 5, 369, 278, 279, 280, 129, 130, 131, 240, 241, 242, 314, 315, 316, 370, 371, 372, 373, 96, 97, 294, 295, 296, 297, 94, 95, 374, 375, 376, 377, 378, 379, 380, 381, 382, 383, 384, 385, 386, 644, 645, 646, 647, 648, 649, 650, 651, 652, 653, 654, 655, 656, 657, 658, 659, 660, 661] (by decide +kernel) (by decide +kernel)
set_option maxRecDepth 20000 in
theorem gL_law_X7_middle : GoodIn wsL_law (wsV RL 62 RX7 yX7_middle wsX7_middle) := goodIn_app (goodIn_of _ (by decide +kernel)) ggL_law_X7_middle
set_option maxRecDepth 20000 in
theorem ggL_law_X6_last : GoodIn wsL_law wsX6_last := goodIn_r _ [398, 19, 25, 321, 322, 2, 323, 261, 177, 178, 112, 113, 114, 324, 18, 325, 326, 327, 268, 269, 270, 50, 162, 163, 328, 285, 286, 287, 288, 262, 263, 264, 49, 289, 247, 248, 249, 48, 399, 24, 400, 401, 57, 332, 333, 334, 335, 56, 60, 59, 336, 337, 338, 339, 58, 340, 211, 212, 213, 214, 215, 216, 234, 235, 341, 342, 343, 344, 345, 346, 347, 348, 55, 61, 202, 203, 204, 47, 205, 206, 402, 403, 404, 359, 360, 361, 636, 637, 638, 639, 640, 641, 642, 643, 664, 665, 666, 667, 668, 669, 670, 671, 672, 673, 674, 675] (by decide +kernel) (by decide +kernel)
set_option maxRecDepth 20000 in
theorem gL_law_X6_last : GoodIn wsL_law (wsV RL 63 RX6 yX6_last wsX6_last) := goodIn_app (goodIn_of _ (by decide +kernel)) ggL_law_X6_last
set_option maxRecDepth 20000 in
theorem ggL_law_X7_last : GoodIn wsL_law wsX7_last := goodIn_r _ [408, 98, 96, 93, 97, 367, 368, 5, 369, 278, 279, 280, 129, 130, 131, 294, 295, 296, 297, 94, 95, 314, 315, 316, 374, 375, 376, 644, 645, 646, 647, 648, 649, 650, 651, 652, 653, 654, 655, 656, 657, 658, 659, 660, 661] (by decide +kernel) (by decide +kernel)
set_option maxRecDepth 20000 in
theorem gL_law_X7_last : GoodIn wsL_law (wsV RL 66 RX7 yX7_last wsX7_last) := goodIn_app (goodIn_of _ (by decide +kernel)) ggL_law_X7_last
set_option maxRecDepth 20000 in
theorem ggL_law_X6_sent : GoodIn wsL_law wsX6_sent := goodIn_r _ [412, 19, 261, 177, 2, 178, 112, 113, 114, 268, 18, 269, 270, 50, 162, 163, 413, 414, 415, 416, 25, 285, 286, 287, 288, 262, 263, 264, 49, 289, 247, 248, 249, 48, 324, 325, 326, 327, 328, 329, 24, 330, 331, 57, 58, 332, 333, 334, 335, 56, 60, 59, 336, 337, 338, 339, 340, 211, 212, 213, 214, 215, 216, 234, 235, 341, 342, 343, 344, 345, 346, 347, 348, 55, 61, 202, 203, 204, 47, 205, 206, 353, 354, 355, 636, 637, 638, 639, 640, 641, 642, 643, 664, 665, 666, 667, 668, 669, 670, 671, 672, 673, 674, 675] (by decide +kernel) (by decide +kernel)
set_option maxRecDepth 20000 in
theorem gL_law_X6_sent : GoodIn wsL_law (wsV RL 67 RX6 yX6_sent wsX6_sent) := goodIn_app (goodIn_of _ (by decide +kernel)) ggL_law_X6_sent
set_option maxRecDepth 20000 in
theorem ggL_law_X7_sent : GoodIn wsL_law wsX7_sent := goodIn_r _ [420, 278, 279, 5, 280, 129, 130, 131, 421, 422, 423, 424, 98, 370, 371, 372, 373, 96, 97, 93, 294, 295, 296, 297, 94, 95, 314, 315, 316, 374, 375, 376, 377, 378, 379, 380, 366, 381, 382, 383, 644, 645, 646, 647, 648, 649, 650, 651, 652, 653, 654, 655, 656, 657, 658, 659, 660, 661] (by decide +kernel) (by decide +kernel)
set_option maxRecDepth 20000 in
theorem gL_law_X7_sent : GoodIn wsL_law (wsV RL 71 RX7 yX7_sent wsX7_sent) := goodIn_app (goodIn_of _ (by decide +kernel)) ggL_law_X7_sent
set_option maxRecDepth 20000 in
theorem ggL_law_X6_safe : GoodIn wsL_law wsX6_safe := goodIn_r _ [428, 19, 261, 177, 2, 178, 112, 113, 114, 324, 18, 325, 326, 327, 268, 269, 270, 50, 162, 163, 328, 285, 286, 287, 288, 262, 263, 264, 49, 289, 247, 248, 249, 48, 636, 637, 638, 639, 640, 641, 642, 643, 664, 665, 666, 667, 668] (by decide +kernel) (by decide +kernel)
set_option maxRecDepth 20000 in
theorem gL_law_X6_safe : GoodIn wsL_law (wsV RL 72 RX6 yX6_safe wsX6_safe) := goodIn_app (goodIn_of _ (by decide +kernel)) ggL_law_X6_safe
set_option maxRecDepth 20000 in
theorem ggL_law_X7_safe : GoodIn wsL_law wsX7_safe := goodIn_r _ [432, 96, 278, 279, 5, 280, 129, 130, 131, 294, 295, 296, 297, 94, 95, 644, 645, 646, 647, 648, 649, 650, 651, 652, 653, 654, 655, 656, 657, 658, 659, 660, 661] (by decide +kernel) (by decide +kernel)
set_option maxRecDepth 20000 in
theorem gL_law_X7_safe : GoodIn wsL_law (wsV RL 75 RX7 yX7_safe wsX7_safe) := goodIn_app (goodIn_of _ (by decide +kernel)) ggL_law_X7_safe
set_option maxRecDepth 20000 in
theorem ggL_law_X6_worth : GoodIn wsL_law wsX6_worth := goodIn_r _ [436, 19, 232, 164, 2, 165, 112, 113, 114, 261, 177, 178, 268, 18, 269, 270, 50, 162, 163, 233, 234, 235, 437, 438, 439, 440, 413, 414, 415, 416, 25, 285, 286, 287, 288, 262, 263, 264, 49, 289, 247, 248, 249, 48, 324, 325, 326, 327, 328, 329, 24, 330, 331, 57, 58, 332, 333, 334, 335, 56, 60, 59, 336, 337, 338, 339, 340, 211, 212, 213, 214, 215, 216, 341, 342, 343, 344, 345, 346, 347, 348, 55, 61, 202, 203, 204, 47, 205, 206, 353, 354, 355, 636, 637, 638, 639, 640, 641, 642, 643, 664, 665, 666, 667, 668, 669, 670, 671, 672, 673, 674, 675] (by decide +kernel) (by decide +kernel)
set_option maxRecDepth 20000 in
theorem gL_law_X6_worth : GoodIn wsL_law (wsV RL 76 RX6 yX6_worth wsX6_worth) := goodIn_app (goodIn_of _ (by decide +kernel)) ggL_law_X6_worth
set_option maxRecDepth 20000 in
theorem ggL_law_X7_worth : GoodIn wsL_law wsX7_worth := goodIn_r _ [444, 96, 240, 241, 5, 242, 129, 130, 131, 278, 279, 280, 314, 315, 316, 445, 446, 447, 448, 421, 422, 423, 424, 98, 370, 371, 372, 373, 97, 93, 294, 295, 296, 297, 94, 95, 374, 375, 376, 377, 378, 379, 380, 366, 381, 382, 383, 644, 645, 646, 647, 648, 649, 650, 651, 652, 653, 654, 655, 656, 657, 658, 659, 660, 661] (by decide +kernel) (by decide +kernel)
set_option maxRecDepth 20000 in
theorem gL_law_X7_worth : GoodIn wsL_law (wsV RL 79 RX7 yX7_worth wsX7_worth) := goodIn_app (goodIn_of _ (by decide +kernel)) ggL_law_X7_worth
set_option maxRecDepth 20000 in
theorem ggL_law_X6_crowd : GoodIn wsL_law wsX6_crowd := goodIn_r _ [452, 29, 112, 113, 2, 114, 453, 28, 454, 455, 68, 69, 456, 457, 458, 459, 65, 70, 285, 18, 286, 287, 288, 262, 263, 264, 49, 162, 163, 289, 247, 248, 249, 48, 205, 206, 460, 461, 462, 463, 66, 234, 235, 464, 465, 466, 467, 468, 469, 470, 471, 202, 203, 204, 47, 268, 269, 270, 50, 472, 473, 474, 475, 476, 477, 478, 479, 480, 481, 482, 483, 484, 485, 486, 487, 488, 489, 490, 636, 637, 638, 639, 640, 641, 642, 643, 676, 677, 678, 679, 680, 664, 665, 666, 667, 668] (by decide +kernel) (by decide +kernel)
set_option maxRecDepth 20000 in
theorem gL_law_X6_crowd : GoodIn wsL_law (wsV RL 80 RX6 yX6_crowd wsX6_crowd) := goodIn_app (goodIn_of _ (by decide +kernel)) ggL_law_X6_crowd
set_option maxRecDepth 20000 in
theorem ggL_law_X7_crowd : GoodIn wsL_law wsX7_crowd := goodIn_r _ [494, 102, 101, 129, 130, 5, 131, 495, 496, 497, 498, 225, 226, 227, 499, 500, 501, 502, 99, 503, 504, 505, 506, 100, 507, 508, 509, 510, 96, 93, 314, 315, 316, 294, 295, 296, 297, 94, 95, 644, 645, 646, 647, 648, 649, 650, 651, 652, 653, 654, 655, 656, 657, 658, 659, 660, 661] (by decide +kernel) (by decide +kernel)
set_option maxRecDepth 20000 in
theorem gL_law_X7_crowd : GoodIn wsL_law (wsV RL 83 RX7 yX7_crowd wsX7_crowd) := goodIn_app (goodIn_of _ (by decide +kernel)) ggL_law_X7_crowd
set_option maxRecDepth 20000 in
theorem ggL_law_X6_rings : GoodIn wsL_law wsX6_rings := goodIn_r _ [514, 33, 112, 113, 2, 114, 515, 32, 516, 517, 74, 79, 202, 18, 203, 204, 47, 162, 163, 205, 206, 234, 235, 518, 519, 520, 636, 637, 638, 639, 640, 641, 642, 643, 681, 682, 683, 684, 685, 686, 664, 665, 666, 667, 668] (by decide +kernel) (by decide +kernel)
set_option maxRecDepth 20000 in
theorem gL_law_X6_rings : GoodIn wsL_law (wsV RL 84 RX6 yX6_rings wsX6_rings) := goodIn_app (goodIn_of _ (by decide +kernel)) ggL_law_X6_rings
set_option maxRecDepth 20000 in
theorem ggL_law_X7_rings : GoodIn wsL_law wsX7_rings := goodIn_r _ [524, 93, 129, 130, 5, 131, 525, 526, 527, 528, 314, 315, 316, 644, 645, 646, 647, 648, 649, 650, 651, 652, 653, 654, 655, 656, 657, 658, 659, 660, 661] (by decide +kernel) (by decide +kernel)
set_option maxRecDepth 20000 in
theorem gL_law_X7_rings : GoodIn wsL_law (wsV RL 87 RX7 yX7_rings wsX7_rings) := goodIn_app (goodIn_of _ (by decide +kernel)) ggL_law_X7_rings
set_option maxRecDepth 20000 in
theorem ggL_law_X6_ladder : GoodIn wsL_law wsX6_ladder := goodIn_r _ [532, 33, 533, 32, 534, 535, 78, 75, 76, 77, 79, 536, 537, 538, 539, 162, 2, 163, 202, 18, 203, 204, 47, 205, 206, 540, 541, 542, 543, 234, 235, 544, 545, 546, 547, 548, 211, 212, 213, 214, 215, 216, 549, 550, 551, 552, 553, 554, 636, 637, 638, 639, 640, 641, 642, 643, 681, 682, 683, 684, 685, 686, 664, 665, 666, 667, 668] (by decide +kernel) (by decide +kernel)
set_option maxRecDepth 20000 in
theorem gL_law_X6_ladder : GoodIn wsL_law (wsV RL 88 RX6 yX6_ladder wsX6_ladder) := goodIn_app (goodIn_of _ (by decide +kernel)) ggL_law_X6_ladder
set_option maxRecDepth 20000 in
theorem ggL_law_X7_ladder : GoodIn wsL_law wsX7_ladder := goodIn_r _ [558, 103, 93, 104, 314, 315, 5, 316, 225, 226, 227, 644, 645, 646, 647, 648, 649, 650, 651, 652, 653, 654, 655, 656, 657, 658, 659, 660, 661] (by decide +kernel) (by decide +kernel)
set_option maxRecDepth 20000 in
theorem gL_law_X7_ladder : GoodIn wsL_law (wsV RL 91 RX7 yX7_ladder wsX7_ladder) := goodIn_app (goodIn_of _ (by decide +kernel)) ggL_law_X7_ladder
set_option maxRecDepth 20000 in
theorem ggL_law_X6_between : GoodIn wsL_law wsX6_between := goodIn_r _ [562, 37, 232, 164, 2, 165, 112, 113, 114, 563, 36, 564, 565, 83, 84, 85, 86, 566, 567, 568, 569, 87, 202, 18, 203, 204, 47, 162, 163, 234, 235, 570, 571, 572, 573, 574, 575, 636, 637, 638, 639, 640, 641, 642, 643, 687, 688, 689, 690, 691, 664, 665, 666, 667, 668] (by decide +kernel) (by decide +kernel)
set_option maxRecDepth 20000 in
theorem gL_law_X6_between : GoodIn wsL_law (wsV RL 92 RX6 yX6_between wsX6_between) := goodIn_app (goodIn_of _ (by decide +kernel)) ggL_law_X6_between
set_option maxRecDepth 20000 in
theorem ggL_law_X7_between : GoodIn wsL_law wsX7_between := goodIn_r _ [579, 93, 240, 241, 5, 242, 129, 130, 131, 314, 315, 316, 644, 645, 646, 647, 648, 649, 650, 651, 652, 653, 654, 655, 656, 657, 658, 659, 660, 661] (by decide +kernel) (by decide +kernel)
set_option maxRecDepth 20000 in
theorem gL_law_X7_between : GoodIn wsL_law (wsV RL 96 RX7 yX7_between wsX7_between) := goodIn_app (goodIn_of _ (by decide +kernel)) ggL_law_X7_between
set_option maxRecDepth 20000 in
theorem ggL_law_X6_high : GoodIn wsL_law wsX6_high := goodIn_r _ [583, 25, 19, 232, 164, 2, 165, 112, 113, 114, 202, 18, 203, 204, 47, 162, 163, 399, 24, 400, 401, 57, 332, 333, 334, 335, 56, 60, 59, 336, 337, 338, 339, 58, 340, 211, 212, 213, 214, 215, 216, 234, 235, 341, 342, 343, 344, 345, 346, 347, 348, 55, 61, 205, 206, 402, 403, 404, 636, 637, 638, 639, 640, 641, 642, 643, 664, 665, 666, 667, 668, 669, 670, 671, 672, 673, 674, 675] (by decide +kernel) (by decide +kernel)
set_option maxRecDepth 20000 in
theorem gL_law_X6_high : GoodIn wsL_law (wsV RL 97 RX6 yX6_high wsX6_high) := goodIn_app (goodIn_of _ (by decide +kernel)) ggL_law_X6_high
set_option maxRecDepth 20000 in
theorem ggL_law_X7_high : GoodIn wsL_law wsX7_high := goodIn_r _ [587, 93, 105, 240, 241, 5, 242, 129, 130, 131, 314, 315, 316, 644, 645, 646, 647, 648, 649, 650, 651, 652, 653, 654, 655, 656, 657, 658, 659, 660, 661] (by decide +kernel) (by decide +kernel)
set_option maxRecDepth 20000 in
theorem gL_law_X7_high : GoodIn wsL_law (wsV RL 100 RX7 yX7_high wsX7_high) := goodIn_app (goodIn_of _ (by decide +kernel)) ggL_law_X7_high
set_option maxRecDepth 20000 in
theorem ggL_law_X6_image : GoodIn wsL_law wsX6_image := goodIn_r _ [591, 19, 592, 593, 2, 594, 112, 113, 114, 595, 596, 597, 598, 20, 21, 599, 18, 600, 601, 47, 48, 49, 50, 51, 201, 202, 203, 204, 162, 163, 205, 206, 289, 247, 248, 249, 288, 262, 263, 264, 327, 268, 269, 270, 636, 637, 638, 639, 640, 641, 642, 643, 664, 665, 666, 667, 668] (by decide +kernel) (by decide +kernel)
set_option maxRecDepth 20000 in
theorem gL_law_X6_image : GoodIn wsL_law (wsV RL 101 RX6 yX6_image wsX6_image) := goodIn_app (goodIn_of _ (by decide +kernel)) ggL_law_X6_image
set_option maxRecDepth 20000 in
theorem ggL_law_X7_image : GoodIn wsL_law wsX7_image := goodIn_r _ [605, 106, 93, 94, 95, 96, 107, 129, 130, 5, 131, 644, 645, 646, 647, 648, 649, 650, 651, 652, 653, 654, 655, 656, 657, 658, 659, 660, 661] (by decide +kernel) (by decide +kernel)
set_option maxRecDepth 20000 in
theorem gL_law_X7_image : GoodIn wsL_law (wsV RL 104 RX7 yX7_image wsX7_image) := goodIn_app (goodIn_of _ (by decide +kernel)) ggL_law_X7_image
set_option maxRecDepth 20000 in
theorem ggL_law_X6_restore : GoodIn wsL_law wsX6_restore := goodIn_r _ [609, 19, 592, 593, 2, 594, 112, 113, 114, 595, 596, 597, 598, 20, 21, 610, 18, 611, 612, 51, 599, 600, 601, 47, 48, 49, 50, 201, 202, 203, 204, 162, 163, 205, 206, 289, 247, 248, 249, 288, 262, 263, 264, 327, 268, 269, 270, 636, 637, 638, 639, 640, 641, 642, 643, 664, 665, 666, 667, 668] (by decide +kernel) (by decide +kernel)
set_option maxRecDepth 20000 in
theorem gL_law_X6_restore : GoodIn wsL_law (wsV RL 105 RX6 yX6_restore wsX6_restore) := goodIn_app (goodIn_of _ (by decide +kernel)) ggL_law_X6_restore
set_option maxRecDepth 20000 in
theorem ggL_law_X7_restore : GoodIn wsL_law wsX7_restore := goodIn_r _ [616, 107, 93, 106, 94, 95, 96, 129, 130, 5, 131, 644, 645, 646, 647, 648, 649, 650, 651, 652, 653, 654, 655, 656, 657, 658, 659, 660, 661] (by decide +kernel) (by decide +kernel)
set_option maxRecDepth 20000 in
theorem gL_law_X7_restore : GoodIn wsL_law (wsV RL 108 RX7 yX7_restore wsX7_restore) := goodIn_app (goodIn_of _ (by decide +kernel)) ggL_law_X7_restore
set_option maxRecDepth 20000 in
theorem ggL_law_X6_join : GoodIn wsL_law wsX6_join := goodIn_r _ [620, 19, 592, 593, 2, 594, 112, 113, 114, 595, 596, 597, 598, 20, 21, 610, 18, 611, 612, 51, 621, 622, 623, 47, 201, 202, 203, 204, 162, 163, 205, 206, 207, 208, 209, 210, 211, 212, 213, 214, 215, 216, 636, 637, 638, 639, 640, 641, 642, 643, 664, 665, 666, 667, 668] (by decide +kernel) (by decide +kernel)
set_option maxRecDepth 20000 in
theorem gL_law_X6_join : GoodIn wsL_law (wsV RL 109 RX6 yX6_join wsX6_join) := goodIn_app (goodIn_of _ (by decide +kernel)) ggL_law_X6_join
set_option maxRecDepth 20000 in
theorem ggL_law_X7_join : GoodIn wsL_law wsX7_join := goodIn_r _ [627, 107, 93, 106, 129, 130, 5, 131, 221, 222, 223, 224, 225, 226, 227, 644, 645, 646, 647, 648, 649, 650, 651, 652, 653, 654, 655, 656, 657, 658, 659, 660, 661] (by decide +kernel) (by decide +kernel)
set_option maxRecDepth 20000 in
theorem gL_law_X7_join : GoodIn wsL_law (wsV RL 112 RX7 yX7_join wsX7_join) := goodIn_app (goodIn_of _ (by decide +kernel)) ggL_law_X7_join
set_option maxRecDepth 20000 in
theorem ggL_law_X6_told : GoodIn wsL_law wsX6_told := goodIn_r _ [631, 15, 19, 121, 14, 122, 123, 43, 207, 18, 208, 209, 201, 202, 203, 204, 47, 162, 2, 163, 210, 211, 212, 213, 214, 215, 216, 112, 113, 114, 247, 248, 249, 48, 262, 263, 264, 49, 268, 269, 270, 50, 636, 637, 638, 639, 640, 641, 642, 643, 662, 663, 664, 665, 666, 667, 668] (by decide +kernel) (by decide +kernel)
set_option maxRecDepth 20000 in
theorem gL_law_X6_told : GoodIn wsL_law (wsV RL 113 RX6 yX6_told wsX6_told) := goodIn_app (goodIn_of _ (by decide +kernel)) ggL_law_X6_told
set_option maxRecDepth 20000 in
theorem ggL_law_X7_told : GoodIn wsL_law wsX7_told := goodIn_r _ [635, 94, 95, 96, 93, 128, 129, 130, 5, 131, 221, 222, 223, 224, 225, 226, 227, 644, 645, 646, 647, 648, 649, 650, 651, 652, 653, 654, 655, 656, 657, 658, 659, 660, 661] (by decide +kernel) (by decide +kernel)
set_option maxRecDepth 20000 in
theorem gL_law_X7_told : GoodIn wsL_law (wsV RL 116 RX7 yX7_told wsX7_told) := goodIn_app (goodIn_of _ (by decide +kernel)) ggL_law_X7_told
theorem dL_law_0 : decode cL_law 0 = .ok (.new 7, 3) := by decide +kernel
theorem dL_law_3 : decode cL_law 3 = .ok (.dup, 1) := by decide +kernel
theorem dL_law_4 : decode cL_law 4 = .ok (.invokespecial 9, 3) := by decide +kernel
theorem dL_law_7 : decode cL_law 7 = .ok (.astore_n 1, 1) := by decide +kernel
theorem dL_law_8 : decode cL_law 8 = .ok (.new 10, 3) := by decide +kernel
theorem dL_law_11 : decode cL_law 11 = .ok (.dup, 1) := by decide +kernel
theorem dL_law_12 : decode cL_law 12 = .ok (.invokespecial 12, 3) := by decide +kernel
theorem dL_law_15 : decode cL_law 15 = .ok (.astore_n 2, 1) := by decide +kernel
theorem dL_law_16 : decode cL_law 16 = .ok (.iconst 0, 1) := by decide +kernel
theorem dL_law_17 : decode cL_law 17 = .ok (.istore_n 3, 1) := by decide +kernel
theorem dL_law_18 : decode cL_law 18 = .ok (.iload_n 3, 1) := by decide +kernel
theorem dL_law_19 : decode cL_law 19 = .ok (.aload_n 0, 1) := by decide +kernel
theorem dL_law_20 : decode cL_law 20 = .ok (.arraylength, 1) := by decide +kernel
theorem dL_law_21 : decode cL_law 21 = .ok (.bipush 6, 2) := by decide +kernel
theorem dL_law_23 : decode cL_law 23 = .ok (.isub, 1) := by decide +kernel
theorem dL_law_24 : decode cL_law 24 = .ok (.if_icmp .gt 880, 3) := by decide +kernel
theorem dL_law_27 : decode cL_law 27 = .ok (.aload_n 0, 1) := by decide +kernel
theorem dL_law_28 : decode cL_law 28 = .ok (.iload_n 3, 1) := by decide +kernel
theorem dL_law_29 : decode cL_law 29 = .ok (.iaload, 1) := by decide +kernel
theorem dL_law_30 : decode cL_law 30 = .ok (.bipush 31, 2) := by decide +kernel
theorem dL_law_32 : decode cL_law 32 = .ok (.iand, 1) := by decide +kernel
theorem dL_law_33 : decode cL_law 33 = .ok (.tableswitch 865 0 23 #[111, 134, 147, 170, 183, 242, 275, 318, 341, 364, 407, 470, 513, 562, 585, 618, 651, 674, 697, 750, 773, 796, 819, 842], 111) := by decide +kernel
theorem dL_law_144 : decode cL_law 144 = .ok (.aload_n 1, 1) := by decide +kernel
theorem dL_law_145 : decode cL_law 145 = .ok (.aload_n 0, 1) := by decide +kernel
theorem dL_law_146 : decode cL_law 146 = .ok (.iload_n 3, 1) := by decide +kernel
theorem dL_law_147 : decode cL_law 147 = .ok (.iconst 1, 1) := by decide +kernel
theorem dL_law_148 : decode cL_law 148 = .ok (.iadd, 1) := by decide +kernel
theorem dL_law_149 : decode cL_law 149 = .ok (.iaload, 1) := by decide +kernel
theorem dL_law_150 : decode cL_law 150 = .ok (.invokevirtual 13, 3) := by decide +kernel
theorem dL_law_153 : decode cL_law 153 = .ok (.aload_n 2, 1) := by decide +kernel
theorem dL_law_154 : decode cL_law 154 = .ok (.aload_n 0, 1) := by decide +kernel
theorem dL_law_155 : decode cL_law 155 = .ok (.iload_n 3, 1) := by decide +kernel
theorem dL_law_156 : decode cL_law 156 = .ok (.iconst 1, 1) := by decide +kernel
theorem dL_law_157 : decode cL_law 157 = .ok (.iadd, 1) := by decide +kernel
theorem dL_law_158 : decode cL_law 158 = .ok (.iaload, 1) := by decide +kernel
theorem dL_law_159 : decode cL_law 159 = .ok (.invokevirtual 17, 3) := by decide +kernel
theorem dL_law_162 : decode cL_law 162 = .ok (.if_icmp .eq 736, 3) := by decide +kernel
theorem dL_law_165 : decode cL_law 165 = .ok (.iconst 0, 1) := by decide +kernel
theorem dL_law_166 : decode cL_law 166 = .ok (.ireturn, 1) := by decide +kernel
theorem dL_law_167 : decode cL_law 167 = .ok (.aload_n 1, 1) := by decide +kernel
theorem dL_law_168 : decode cL_law 168 = .ok (.invokevirtual 18, 3) := by decide +kernel
theorem dL_law_171 : decode cL_law 171 = .ok (.aload_n 2, 1) := by decide +kernel
theorem dL_law_172 : decode cL_law 172 = .ok (.invokevirtual 22, 3) := by decide +kernel
theorem dL_law_175 : decode cL_law 175 = .ok (.if_icmp .eq 723, 3) := by decide +kernel
theorem dL_law_178 : decode cL_law 178 = .ok (.iconst 0, 1) := by decide +kernel
theorem dL_law_179 : decode cL_law 179 = .ok (.ireturn, 1) := by decide +kernel
theorem dL_law_180 : decode cL_law 180 = .ok (.aload_n 1, 1) := by decide +kernel
theorem dL_law_181 : decode cL_law 181 = .ok (.aload_n 0, 1) := by decide +kernel
theorem dL_law_182 : decode cL_law 182 = .ok (.iload_n 3, 1) := by decide +kernel
theorem dL_law_183 : decode cL_law 183 = .ok (.iconst 1, 1) := by decide +kernel
theorem dL_law_184 : decode cL_law 184 = .ok (.iadd, 1) := by decide +kernel
theorem dL_law_185 : decode cL_law 185 = .ok (.iaload, 1) := by decide +kernel
theorem dL_law_186 : decode cL_law 186 = .ok (.invokevirtual 23, 3) := by decide +kernel
theorem dL_law_189 : decode cL_law 189 = .ok (.aload_n 2, 1) := by decide +kernel
theorem dL_law_190 : decode cL_law 190 = .ok (.aload_n 0, 1) := by decide +kernel
theorem dL_law_191 : decode cL_law 191 = .ok (.iload_n 3, 1) := by decide +kernel
theorem dL_law_192 : decode cL_law 192 = .ok (.iconst 1, 1) := by decide +kernel
theorem dL_law_193 : decode cL_law 193 = .ok (.iadd, 1) := by decide +kernel
theorem dL_law_194 : decode cL_law 194 = .ok (.iaload, 1) := by decide +kernel
theorem dL_law_195 : decode cL_law 195 = .ok (.invokevirtual 26, 3) := by decide +kernel
theorem dL_law_198 : decode cL_law 198 = .ok (.if_icmp .eq 700, 3) := by decide +kernel
theorem dL_law_201 : decode cL_law 201 = .ok (.iconst 0, 1) := by decide +kernel
theorem dL_law_202 : decode cL_law 202 = .ok (.ireturn, 1) := by decide +kernel
theorem dL_law_203 : decode cL_law 203 = .ok (.aload_n 1, 1) := by decide +kernel
theorem dL_law_204 : decode cL_law 204 = .ok (.invokevirtual 27, 3) := by decide +kernel
theorem dL_law_207 : decode cL_law 207 = .ok (.aload_n 2, 1) := by decide +kernel
theorem dL_law_208 : decode cL_law 208 = .ok (.invokevirtual 30, 3) := by decide +kernel
theorem dL_law_211 : decode cL_law 211 = .ok (.if_icmp .eq 687, 3) := by decide +kernel
theorem dL_law_214 : decode cL_law 214 = .ok (.iconst 0, 1) := by decide +kernel
theorem dL_law_215 : decode cL_law 215 = .ok (.ireturn, 1) := by decide +kernel
theorem dL_law_216 : decode cL_law 216 = .ok (.aload_n 1, 1) := by decide +kernel
theorem dL_law_217 : decode cL_law 217 = .ok (.aload_n 0, 1) := by decide +kernel
theorem dL_law_218 : decode cL_law 218 = .ok (.iload_n 3, 1) := by decide +kernel
theorem dL_law_219 : decode cL_law 219 = .ok (.iconst 1, 1) := by decide +kernel
theorem dL_law_220 : decode cL_law 220 = .ok (.iadd, 1) := by decide +kernel
theorem dL_law_221 : decode cL_law 221 = .ok (.iaload, 1) := by decide +kernel
theorem dL_law_222 : decode cL_law 222 = .ok (.aload_n 0, 1) := by decide +kernel
theorem dL_law_223 : decode cL_law 223 = .ok (.iload_n 3, 1) := by decide +kernel
theorem dL_law_224 : decode cL_law 224 = .ok (.iconst 2, 1) := by decide +kernel
theorem dL_law_225 : decode cL_law 225 = .ok (.iadd, 1) := by decide +kernel
theorem dL_law_226 : decode cL_law 226 = .ok (.iaload, 1) := by decide +kernel
theorem dL_law_227 : decode cL_law 227 = .ok (.aload_n 0, 1) := by decide +kernel
theorem dL_law_228 : decode cL_law 228 = .ok (.iload_n 3, 1) := by decide +kernel
theorem dL_law_229 : decode cL_law 229 = .ok (.iconst 3, 1) := by decide +kernel
theorem dL_law_230 : decode cL_law 230 = .ok (.iadd, 1) := by decide +kernel
theorem dL_law_231 : decode cL_law 231 = .ok (.iaload, 1) := by decide +kernel
theorem dL_law_232 : decode cL_law 232 = .ok (.ifCond .eq 7, 3) := by decide +kernel
theorem dL_law_235 : decode cL_law 235 = .ok (.iconst 1, 1) := by decide +kernel
theorem dL_law_236 : decode cL_law 236 = .ok (.goto 4, 3) := by decide +kernel
theorem dL_law_239 : decode cL_law 239 = .ok (.iconst 0, 1) := by decide +kernel
theorem dL_law_240 : decode cL_law 240 = .ok (.invokevirtual 31, 3) := by decide +kernel
theorem dL_law_243 : decode cL_law 243 = .ok (.aload_n 2, 1) := by decide +kernel
theorem dL_law_244 : decode cL_law 244 = .ok (.aload_n 0, 1) := by decide +kernel
theorem dL_law_245 : decode cL_law 245 = .ok (.iload_n 3, 1) := by decide +kernel
theorem dL_law_246 : decode cL_law 246 = .ok (.iconst 1, 1) := by decide +kernel
theorem dL_law_247 : decode cL_law 247 = .ok (.iadd, 1) := by decide +kernel
theorem dL_law_248 : decode cL_law 248 = .ok (.iaload, 1) := by decide +kernel
theorem dL_law_249 : decode cL_law 249 = .ok (.aload_n 0, 1) := by decide +kernel
theorem dL_law_250 : decode cL_law 250 = .ok (.iload_n 3, 1) := by decide +kernel
theorem dL_law_251 : decode cL_law 251 = .ok (.iconst 2, 1) := by decide +kernel
theorem dL_law_252 : decode cL_law 252 = .ok (.iadd, 1) := by decide +kernel
theorem dL_law_253 : decode cL_law 253 = .ok (.iaload, 1) := by decide +kernel
theorem dL_law_254 : decode cL_law 254 = .ok (.aload_n 0, 1) := by decide +kernel
theorem dL_law_255 : decode cL_law 255 = .ok (.iload_n 3, 1) := by decide +kernel
theorem dL_law_256 : decode cL_law 256 = .ok (.iconst 3, 1) := by decide +kernel
theorem dL_law_257 : decode cL_law 257 = .ok (.iadd, 1) := by decide +kernel
theorem dL_law_258 : decode cL_law 258 = .ok (.iaload, 1) := by decide +kernel
theorem dL_law_259 : decode cL_law 259 = .ok (.ifCond .eq 7, 3) := by decide +kernel
theorem dL_law_262 : decode cL_law 262 = .ok (.iconst 1, 1) := by decide +kernel
theorem dL_law_263 : decode cL_law 263 = .ok (.goto 4, 3) := by decide +kernel
theorem dL_law_266 : decode cL_law 266 = .ok (.iconst 0, 1) := by decide +kernel
theorem dL_law_267 : decode cL_law 267 = .ok (.invokevirtual 35, 3) := by decide +kernel
theorem dL_law_270 : decode cL_law 270 = .ok (.if_icmp .eq 628, 3) := by decide +kernel
theorem dL_law_273 : decode cL_law 273 = .ok (.iconst 0, 1) := by decide +kernel
theorem dL_law_274 : decode cL_law 274 = .ok (.ireturn, 1) := by decide +kernel
theorem dL_law_275 : decode cL_law 275 = .ok (.aload_n 1, 1) := by decide +kernel
theorem dL_law_276 : decode cL_law 276 = .ok (.aload_n 0, 1) := by decide +kernel
theorem dL_law_277 : decode cL_law 277 = .ok (.iload_n 3, 1) := by decide +kernel
theorem dL_law_278 : decode cL_law 278 = .ok (.iconst 1, 1) := by decide +kernel
theorem dL_law_279 : decode cL_law 279 = .ok (.iadd, 1) := by decide +kernel
theorem dL_law_280 : decode cL_law 280 = .ok (.iaload, 1) := by decide +kernel
theorem dL_law_281 : decode cL_law 281 = .ok (.aload_n 0, 1) := by decide +kernel
theorem dL_law_282 : decode cL_law 282 = .ok (.iload_n 3, 1) := by decide +kernel
theorem dL_law_283 : decode cL_law 283 = .ok (.iconst 2, 1) := by decide +kernel
theorem dL_law_284 : decode cL_law 284 = .ok (.iadd, 1) := by decide +kernel
theorem dL_law_285 : decode cL_law 285 = .ok (.iaload, 1) := by decide +kernel
theorem dL_law_286 : decode cL_law 286 = .ok (.invokevirtual 36, 3) := by decide +kernel
theorem dL_law_289 : decode cL_law 289 = .ok (.aload_n 2, 1) := by decide +kernel
theorem dL_law_290 : decode cL_law 290 = .ok (.aload_n 0, 1) := by decide +kernel
theorem dL_law_291 : decode cL_law 291 = .ok (.iload_n 3, 1) := by decide +kernel
theorem dL_law_292 : decode cL_law 292 = .ok (.iconst 1, 1) := by decide +kernel
theorem dL_law_293 : decode cL_law 293 = .ok (.iadd, 1) := by decide +kernel
theorem dL_law_294 : decode cL_law 294 = .ok (.iaload, 1) := by decide +kernel
theorem dL_law_295 : decode cL_law 295 = .ok (.aload_n 0, 1) := by decide +kernel
theorem dL_law_296 : decode cL_law 296 = .ok (.iload_n 3, 1) := by decide +kernel
theorem dL_law_297 : decode cL_law 297 = .ok (.iconst 2, 1) := by decide +kernel
theorem dL_law_298 : decode cL_law 298 = .ok (.iadd, 1) := by decide +kernel
theorem dL_law_299 : decode cL_law 299 = .ok (.iaload, 1) := by decide +kernel
theorem dL_law_300 : decode cL_law 300 = .ok (.invokevirtual 40, 3) := by decide +kernel
theorem dL_law_303 : decode cL_law 303 = .ok (.if_icmp .eq 595, 3) := by decide +kernel
theorem dL_law_306 : decode cL_law 306 = .ok (.iconst 0, 1) := by decide +kernel
theorem dL_law_307 : decode cL_law 307 = .ok (.ireturn, 1) := by decide +kernel
theorem dL_law_308 : decode cL_law 308 = .ok (.aload_n 1, 1) := by decide +kernel
theorem dL_law_309 : decode cL_law 309 = .ok (.aload_n 0, 1) := by decide +kernel
theorem dL_law_310 : decode cL_law 310 = .ok (.iload_n 3, 1) := by decide +kernel
theorem dL_law_311 : decode cL_law 311 = .ok (.iconst 1, 1) := by decide +kernel
theorem dL_law_312 : decode cL_law 312 = .ok (.iadd, 1) := by decide +kernel
theorem dL_law_313 : decode cL_law 313 = .ok (.iaload, 1) := by decide +kernel
theorem dL_law_314 : decode cL_law 314 = .ok (.aload_n 0, 1) := by decide +kernel
theorem dL_law_315 : decode cL_law 315 = .ok (.iload_n 3, 1) := by decide +kernel
theorem dL_law_316 : decode cL_law 316 = .ok (.iconst 2, 1) := by decide +kernel
theorem dL_law_317 : decode cL_law 317 = .ok (.iadd, 1) := by decide +kernel
theorem dL_law_318 : decode cL_law 318 = .ok (.iaload, 1) := by decide +kernel
theorem dL_law_319 : decode cL_law 319 = .ok (.aload_n 0, 1) := by decide +kernel
theorem dL_law_320 : decode cL_law 320 = .ok (.iload_n 3, 1) := by decide +kernel
theorem dL_law_321 : decode cL_law 321 = .ok (.iconst 3, 1) := by decide +kernel
theorem dL_law_322 : decode cL_law 322 = .ok (.iadd, 1) := by decide +kernel
theorem dL_law_323 : decode cL_law 323 = .ok (.iaload, 1) := by decide +kernel
theorem dL_law_324 : decode cL_law 324 = .ok (.invokevirtual 41, 3) := by decide +kernel
theorem dL_law_327 : decode cL_law 327 = .ok (.aload_n 2, 1) := by decide +kernel
theorem dL_law_328 : decode cL_law 328 = .ok (.aload_n 0, 1) := by decide +kernel
theorem dL_law_329 : decode cL_law 329 = .ok (.iload_n 3, 1) := by decide +kernel
theorem dL_law_330 : decode cL_law 330 = .ok (.iconst 1, 1) := by decide +kernel
theorem dL_law_331 : decode cL_law 331 = .ok (.iadd, 1) := by decide +kernel
theorem dL_law_332 : decode cL_law 332 = .ok (.iaload, 1) := by decide +kernel
theorem dL_law_333 : decode cL_law 333 = .ok (.aload_n 0, 1) := by decide +kernel
theorem dL_law_334 : decode cL_law 334 = .ok (.iload_n 3, 1) := by decide +kernel
theorem dL_law_335 : decode cL_law 335 = .ok (.iconst 2, 1) := by decide +kernel
theorem dL_law_336 : decode cL_law 336 = .ok (.iadd, 1) := by decide +kernel
theorem dL_law_337 : decode cL_law 337 = .ok (.iaload, 1) := by decide +kernel
theorem dL_law_338 : decode cL_law 338 = .ok (.aload_n 0, 1) := by decide +kernel
theorem dL_law_339 : decode cL_law 339 = .ok (.iload_n 3, 1) := by decide +kernel
theorem dL_law_340 : decode cL_law 340 = .ok (.iconst 3, 1) := by decide +kernel
theorem dL_law_341 : decode cL_law 341 = .ok (.iadd, 1) := by decide +kernel
theorem dL_law_342 : decode cL_law 342 = .ok (.iaload, 1) := by decide +kernel
theorem dL_law_343 : decode cL_law 343 = .ok (.invokevirtual 45, 3) := by decide +kernel
theorem dL_law_346 : decode cL_law 346 = .ok (.if_icmp .eq 552, 3) := by decide +kernel
theorem dL_law_349 : decode cL_law 349 = .ok (.iconst 0, 1) := by decide +kernel
theorem dL_law_350 : decode cL_law 350 = .ok (.ireturn, 1) := by decide +kernel
theorem dL_law_351 : decode cL_law 351 = .ok (.aload_n 1, 1) := by decide +kernel
theorem dL_law_352 : decode cL_law 352 = .ok (.aload_n 0, 1) := by decide +kernel
theorem dL_law_353 : decode cL_law 353 = .ok (.iload_n 3, 1) := by decide +kernel
theorem dL_law_354 : decode cL_law 354 = .ok (.iconst 1, 1) := by decide +kernel
theorem dL_law_355 : decode cL_law 355 = .ok (.iadd, 1) := by decide +kernel
theorem dL_law_356 : decode cL_law 356 = .ok (.iaload, 1) := by decide +kernel
theorem dL_law_357 : decode cL_law 357 = .ok (.invokevirtual 46, 3) := by decide +kernel
theorem dL_law_360 : decode cL_law 360 = .ok (.aload_n 2, 1) := by decide +kernel
theorem dL_law_361 : decode cL_law 361 = .ok (.aload_n 0, 1) := by decide +kernel
theorem dL_law_362 : decode cL_law 362 = .ok (.iload_n 3, 1) := by decide +kernel
theorem dL_law_363 : decode cL_law 363 = .ok (.iconst 1, 1) := by decide +kernel
theorem dL_law_364 : decode cL_law 364 = .ok (.iadd, 1) := by decide +kernel
theorem dL_law_365 : decode cL_law 365 = .ok (.iaload, 1) := by decide +kernel
theorem dL_law_366 : decode cL_law 366 = .ok (.invokevirtual 49, 3) := by decide +kernel
theorem dL_law_369 : decode cL_law 369 = .ok (.if_icmp .eq 529, 3) := by decide +kernel
theorem dL_law_372 : decode cL_law 372 = .ok (.iconst 0, 1) := by decide +kernel
theorem dL_law_373 : decode cL_law 373 = .ok (.ireturn, 1) := by decide +kernel
theorem dL_law_374 : decode cL_law 374 = .ok (.aload_n 1, 1) := by decide +kernel
theorem dL_law_375 : decode cL_law 375 = .ok (.aload_n 0, 1) := by decide +kernel
theorem dL_law_376 : decode cL_law 376 = .ok (.iload_n 3, 1) := by decide +kernel
theorem dL_law_377 : decode cL_law 377 = .ok (.iconst 1, 1) := by decide +kernel
theorem dL_law_378 : decode cL_law 378 = .ok (.iadd, 1) := by decide +kernel
theorem dL_law_379 : decode cL_law 379 = .ok (.iaload, 1) := by decide +kernel
theorem dL_law_380 : decode cL_law 380 = .ok (.invokevirtual 50, 3) := by decide +kernel
theorem dL_law_383 : decode cL_law 383 = .ok (.aload_n 2, 1) := by decide +kernel
theorem dL_law_384 : decode cL_law 384 = .ok (.aload_n 0, 1) := by decide +kernel
theorem dL_law_385 : decode cL_law 385 = .ok (.iload_n 3, 1) := by decide +kernel
theorem dL_law_386 : decode cL_law 386 = .ok (.iconst 1, 1) := by decide +kernel
theorem dL_law_387 : decode cL_law 387 = .ok (.iadd, 1) := by decide +kernel
theorem dL_law_388 : decode cL_law 388 = .ok (.iaload, 1) := by decide +kernel
theorem dL_law_389 : decode cL_law 389 = .ok (.invokevirtual 53, 3) := by decide +kernel
theorem dL_law_392 : decode cL_law 392 = .ok (.if_icmp .eq 506, 3) := by decide +kernel
theorem dL_law_395 : decode cL_law 395 = .ok (.iconst 0, 1) := by decide +kernel
theorem dL_law_396 : decode cL_law 396 = .ok (.ireturn, 1) := by decide +kernel
theorem dL_law_397 : decode cL_law 397 = .ok (.aload_n 1, 1) := by decide +kernel
theorem dL_law_398 : decode cL_law 398 = .ok (.aload_n 0, 1) := by decide +kernel
theorem dL_law_399 : decode cL_law 399 = .ok (.iload_n 3, 1) := by decide +kernel
theorem dL_law_400 : decode cL_law 400 = .ok (.iconst 1, 1) := by decide +kernel
theorem dL_law_401 : decode cL_law 401 = .ok (.iadd, 1) := by decide +kernel
theorem dL_law_402 : decode cL_law 402 = .ok (.iaload, 1) := by decide +kernel
theorem dL_law_403 : decode cL_law 403 = .ok (.aload_n 0, 1) := by decide +kernel
theorem dL_law_404 : decode cL_law 404 = .ok (.iload_n 3, 1) := by decide +kernel
theorem dL_law_405 : decode cL_law 405 = .ok (.iconst 2, 1) := by decide +kernel
theorem dL_law_406 : decode cL_law 406 = .ok (.iadd, 1) := by decide +kernel
theorem dL_law_407 : decode cL_law 407 = .ok (.iaload, 1) := by decide +kernel
theorem dL_law_408 : decode cL_law 408 = .ok (.aload_n 0, 1) := by decide +kernel
theorem dL_law_409 : decode cL_law 409 = .ok (.iload_n 3, 1) := by decide +kernel
theorem dL_law_410 : decode cL_law 410 = .ok (.iconst 3, 1) := by decide +kernel
theorem dL_law_411 : decode cL_law 411 = .ok (.iadd, 1) := by decide +kernel
theorem dL_law_412 : decode cL_law 412 = .ok (.iaload, 1) := by decide +kernel
theorem dL_law_413 : decode cL_law 413 = .ok (.invokevirtual 54, 3) := by decide +kernel
theorem dL_law_416 : decode cL_law 416 = .ok (.aload_n 2, 1) := by decide +kernel
theorem dL_law_417 : decode cL_law 417 = .ok (.aload_n 0, 1) := by decide +kernel
theorem dL_law_418 : decode cL_law 418 = .ok (.iload_n 3, 1) := by decide +kernel
theorem dL_law_419 : decode cL_law 419 = .ok (.iconst 1, 1) := by decide +kernel
theorem dL_law_420 : decode cL_law 420 = .ok (.iadd, 1) := by decide +kernel
theorem dL_law_421 : decode cL_law 421 = .ok (.iaload, 1) := by decide +kernel
theorem dL_law_422 : decode cL_law 422 = .ok (.aload_n 0, 1) := by decide +kernel
theorem dL_law_423 : decode cL_law 423 = .ok (.iload_n 3, 1) := by decide +kernel
theorem dL_law_424 : decode cL_law 424 = .ok (.iconst 2, 1) := by decide +kernel
theorem dL_law_425 : decode cL_law 425 = .ok (.iadd, 1) := by decide +kernel
theorem dL_law_426 : decode cL_law 426 = .ok (.iaload, 1) := by decide +kernel
theorem dL_law_427 : decode cL_law 427 = .ok (.aload_n 0, 1) := by decide +kernel
theorem dL_law_428 : decode cL_law 428 = .ok (.iload_n 3, 1) := by decide +kernel
theorem dL_law_429 : decode cL_law 429 = .ok (.iconst 3, 1) := by decide +kernel
theorem dL_law_430 : decode cL_law 430 = .ok (.iadd, 1) := by decide +kernel
theorem dL_law_431 : decode cL_law 431 = .ok (.iaload, 1) := by decide +kernel
theorem dL_law_432 : decode cL_law 432 = .ok (.invokevirtual 57, 3) := by decide +kernel
theorem dL_law_435 : decode cL_law 435 = .ok (.if_icmp .eq 463, 3) := by decide +kernel
theorem dL_law_438 : decode cL_law 438 = .ok (.iconst 0, 1) := by decide +kernel
theorem dL_law_439 : decode cL_law 439 = .ok (.ireturn, 1) := by decide +kernel
theorem dL_law_440 : decode cL_law 440 = .ok (.aload_n 1, 1) := by decide +kernel
theorem dL_law_441 : decode cL_law 441 = .ok (.aload_n 0, 1) := by decide +kernel
theorem dL_law_442 : decode cL_law 442 = .ok (.iload_n 3, 1) := by decide +kernel
theorem dL_law_443 : decode cL_law 443 = .ok (.iconst 1, 1) := by decide +kernel
theorem dL_law_444 : decode cL_law 444 = .ok (.iadd, 1) := by decide +kernel
theorem dL_law_445 : decode cL_law 445 = .ok (.iaload, 1) := by decide +kernel
theorem dL_law_446 : decode cL_law 446 = .ok (.aload_n 0, 1) := by decide +kernel
theorem dL_law_447 : decode cL_law 447 = .ok (.iload_n 3, 1) := by decide +kernel
theorem dL_law_448 : decode cL_law 448 = .ok (.iconst 2, 1) := by decide +kernel
theorem dL_law_449 : decode cL_law 449 = .ok (.iadd, 1) := by decide +kernel
theorem dL_law_450 : decode cL_law 450 = .ok (.iaload, 1) := by decide +kernel
theorem dL_law_451 : decode cL_law 451 = .ok (.aload_n 0, 1) := by decide +kernel
theorem dL_law_452 : decode cL_law 452 = .ok (.iload_n 3, 1) := by decide +kernel
theorem dL_law_453 : decode cL_law 453 = .ok (.iconst 3, 1) := by decide +kernel
theorem dL_law_454 : decode cL_law 454 = .ok (.iadd, 1) := by decide +kernel
theorem dL_law_455 : decode cL_law 455 = .ok (.iaload, 1) := by decide +kernel
theorem dL_law_456 : decode cL_law 456 = .ok (.aload_n 0, 1) := by decide +kernel
theorem dL_law_457 : decode cL_law 457 = .ok (.iload_n 3, 1) := by decide +kernel
theorem dL_law_458 : decode cL_law 458 = .ok (.iconst 4, 1) := by decide +kernel
theorem dL_law_459 : decode cL_law 459 = .ok (.iadd, 1) := by decide +kernel
theorem dL_law_460 : decode cL_law 460 = .ok (.iaload, 1) := by decide +kernel
theorem dL_law_461 : decode cL_law 461 = .ok (.aload_n 0, 1) := by decide +kernel
theorem dL_law_462 : decode cL_law 462 = .ok (.iload_n 3, 1) := by decide +kernel
theorem dL_law_463 : decode cL_law 463 = .ok (.iconst 5, 1) := by decide +kernel
theorem dL_law_464 : decode cL_law 464 = .ok (.iadd, 1) := by decide +kernel
theorem dL_law_465 : decode cL_law 465 = .ok (.iaload, 1) := by decide +kernel
theorem dL_law_466 : decode cL_law 466 = .ok (.invokevirtual 58, 3) := by decide +kernel
theorem dL_law_469 : decode cL_law 469 = .ok (.aload_n 2, 1) := by decide +kernel
theorem dL_law_470 : decode cL_law 470 = .ok (.aload_n 0, 1) := by decide +kernel
theorem dL_law_471 : decode cL_law 471 = .ok (.iload_n 3, 1) := by decide +kernel
theorem dL_law_472 : decode cL_law 472 = .ok (.iconst 1, 1) := by decide +kernel
theorem dL_law_473 : decode cL_law 473 = .ok (.iadd, 1) := by decide +kernel
theorem dL_law_474 : decode cL_law 474 = .ok (.iaload, 1) := by decide +kernel
theorem dL_law_475 : decode cL_law 475 = .ok (.aload_n 0, 1) := by decide +kernel
theorem dL_law_476 : decode cL_law 476 = .ok (.iload_n 3, 1) := by decide +kernel
theorem dL_law_477 : decode cL_law 477 = .ok (.iconst 2, 1) := by decide +kernel
theorem dL_law_478 : decode cL_law 478 = .ok (.iadd, 1) := by decide +kernel
theorem dL_law_479 : decode cL_law 479 = .ok (.iaload, 1) := by decide +kernel
theorem dL_law_480 : decode cL_law 480 = .ok (.aload_n 0, 1) := by decide +kernel
theorem dL_law_481 : decode cL_law 481 = .ok (.iload_n 3, 1) := by decide +kernel
theorem dL_law_482 : decode cL_law 482 = .ok (.iconst 3, 1) := by decide +kernel
theorem dL_law_483 : decode cL_law 483 = .ok (.iadd, 1) := by decide +kernel
theorem dL_law_484 : decode cL_law 484 = .ok (.iaload, 1) := by decide +kernel
theorem dL_law_485 : decode cL_law 485 = .ok (.aload_n 0, 1) := by decide +kernel
theorem dL_law_486 : decode cL_law 486 = .ok (.iload_n 3, 1) := by decide +kernel
theorem dL_law_487 : decode cL_law 487 = .ok (.iconst 4, 1) := by decide +kernel
theorem dL_law_488 : decode cL_law 488 = .ok (.iadd, 1) := by decide +kernel
theorem dL_law_489 : decode cL_law 489 = .ok (.iaload, 1) := by decide +kernel
theorem dL_law_490 : decode cL_law 490 = .ok (.aload_n 0, 1) := by decide +kernel
theorem dL_law_491 : decode cL_law 491 = .ok (.iload_n 3, 1) := by decide +kernel
theorem dL_law_492 : decode cL_law 492 = .ok (.iconst 5, 1) := by decide +kernel
theorem dL_law_493 : decode cL_law 493 = .ok (.iadd, 1) := by decide +kernel
theorem dL_law_494 : decode cL_law 494 = .ok (.iaload, 1) := by decide +kernel
theorem dL_law_495 : decode cL_law 495 = .ok (.invokevirtual 62, 3) := by decide +kernel
theorem dL_law_498 : decode cL_law 498 = .ok (.if_icmp .eq 400, 3) := by decide +kernel
theorem dL_law_501 : decode cL_law 501 = .ok (.iconst 0, 1) := by decide +kernel
theorem dL_law_502 : decode cL_law 502 = .ok (.ireturn, 1) := by decide +kernel
theorem dL_law_503 : decode cL_law 503 = .ok (.aload_n 1, 1) := by decide +kernel
theorem dL_law_504 : decode cL_law 504 = .ok (.aload_n 0, 1) := by decide +kernel
theorem dL_law_505 : decode cL_law 505 = .ok (.iload_n 3, 1) := by decide +kernel
theorem dL_law_506 : decode cL_law 506 = .ok (.iconst 1, 1) := by decide +kernel
theorem dL_law_507 : decode cL_law 507 = .ok (.iadd, 1) := by decide +kernel
theorem dL_law_508 : decode cL_law 508 = .ok (.iaload, 1) := by decide +kernel
theorem dL_law_509 : decode cL_law 509 = .ok (.aload_n 0, 1) := by decide +kernel
theorem dL_law_510 : decode cL_law 510 = .ok (.iload_n 3, 1) := by decide +kernel
theorem dL_law_511 : decode cL_law 511 = .ok (.iconst 2, 1) := by decide +kernel
theorem dL_law_512 : decode cL_law 512 = .ok (.iadd, 1) := by decide +kernel
theorem dL_law_513 : decode cL_law 513 = .ok (.iaload, 1) := by decide +kernel
theorem dL_law_514 : decode cL_law 514 = .ok (.aload_n 0, 1) := by decide +kernel
theorem dL_law_515 : decode cL_law 515 = .ok (.iload_n 3, 1) := by decide +kernel
theorem dL_law_516 : decode cL_law 516 = .ok (.iconst 3, 1) := by decide +kernel
theorem dL_law_517 : decode cL_law 517 = .ok (.iadd, 1) := by decide +kernel
theorem dL_law_518 : decode cL_law 518 = .ok (.iaload, 1) := by decide +kernel
theorem dL_law_519 : decode cL_law 519 = .ok (.invokevirtual 63, 3) := by decide +kernel
theorem dL_law_522 : decode cL_law 522 = .ok (.aload_n 2, 1) := by decide +kernel
theorem dL_law_523 : decode cL_law 523 = .ok (.aload_n 0, 1) := by decide +kernel
theorem dL_law_524 : decode cL_law 524 = .ok (.iload_n 3, 1) := by decide +kernel
theorem dL_law_525 : decode cL_law 525 = .ok (.iconst 1, 1) := by decide +kernel
theorem dL_law_526 : decode cL_law 526 = .ok (.iadd, 1) := by decide +kernel
theorem dL_law_527 : decode cL_law 527 = .ok (.iaload, 1) := by decide +kernel
theorem dL_law_528 : decode cL_law 528 = .ok (.aload_n 0, 1) := by decide +kernel
theorem dL_law_529 : decode cL_law 529 = .ok (.iload_n 3, 1) := by decide +kernel
theorem dL_law_530 : decode cL_law 530 = .ok (.iconst 2, 1) := by decide +kernel
theorem dL_law_531 : decode cL_law 531 = .ok (.iadd, 1) := by decide +kernel
theorem dL_law_532 : decode cL_law 532 = .ok (.iaload, 1) := by decide +kernel
theorem dL_law_533 : decode cL_law 533 = .ok (.aload_n 0, 1) := by decide +kernel
theorem dL_law_534 : decode cL_law 534 = .ok (.iload_n 3, 1) := by decide +kernel
theorem dL_law_535 : decode cL_law 535 = .ok (.iconst 3, 1) := by decide +kernel
theorem dL_law_536 : decode cL_law 536 = .ok (.iadd, 1) := by decide +kernel
theorem dL_law_537 : decode cL_law 537 = .ok (.iaload, 1) := by decide +kernel
theorem dL_law_538 : decode cL_law 538 = .ok (.invokevirtual 66, 3) := by decide +kernel
theorem dL_law_541 : decode cL_law 541 = .ok (.if_icmp .eq 357, 3) := by decide +kernel
theorem dL_law_544 : decode cL_law 544 = .ok (.iconst 0, 1) := by decide +kernel
theorem dL_law_545 : decode cL_law 545 = .ok (.ireturn, 1) := by decide +kernel
theorem dL_law_546 : decode cL_law 546 = .ok (.aload_n 1, 1) := by decide +kernel
theorem dL_law_547 : decode cL_law 547 = .ok (.aload_n 0, 1) := by decide +kernel
theorem dL_law_548 : decode cL_law 548 = .ok (.iload_n 3, 1) := by decide +kernel
theorem dL_law_549 : decode cL_law 549 = .ok (.iconst 1, 1) := by decide +kernel
theorem dL_law_550 : decode cL_law 550 = .ok (.iadd, 1) := by decide +kernel
theorem dL_law_551 : decode cL_law 551 = .ok (.iaload, 1) := by decide +kernel
theorem dL_law_552 : decode cL_law 552 = .ok (.aload_n 0, 1) := by decide +kernel
theorem dL_law_553 : decode cL_law 553 = .ok (.iload_n 3, 1) := by decide +kernel
theorem dL_law_554 : decode cL_law 554 = .ok (.iconst 2, 1) := by decide +kernel
theorem dL_law_555 : decode cL_law 555 = .ok (.iadd, 1) := by decide +kernel
theorem dL_law_556 : decode cL_law 556 = .ok (.iaload, 1) := by decide +kernel
theorem dL_law_557 : decode cL_law 557 = .ok (.ifCond .eq 7, 3) := by decide +kernel
theorem dL_law_560 : decode cL_law 560 = .ok (.iconst 1, 1) := by decide +kernel
theorem dL_law_561 : decode cL_law 561 = .ok (.goto 4, 3) := by decide +kernel
theorem dL_law_564 : decode cL_law 564 = .ok (.iconst 0, 1) := by decide +kernel
theorem dL_law_565 : decode cL_law 565 = .ok (.invokevirtual 67, 3) := by decide +kernel
theorem dL_law_568 : decode cL_law 568 = .ok (.aload_n 2, 1) := by decide +kernel
theorem dL_law_569 : decode cL_law 569 = .ok (.aload_n 0, 1) := by decide +kernel
theorem dL_law_570 : decode cL_law 570 = .ok (.iload_n 3, 1) := by decide +kernel
theorem dL_law_571 : decode cL_law 571 = .ok (.iconst 1, 1) := by decide +kernel
theorem dL_law_572 : decode cL_law 572 = .ok (.iadd, 1) := by decide +kernel
theorem dL_law_573 : decode cL_law 573 = .ok (.iaload, 1) := by decide +kernel
theorem dL_law_574 : decode cL_law 574 = .ok (.aload_n 0, 1) := by decide +kernel
theorem dL_law_575 : decode cL_law 575 = .ok (.iload_n 3, 1) := by decide +kernel
theorem dL_law_576 : decode cL_law 576 = .ok (.iconst 2, 1) := by decide +kernel
theorem dL_law_577 : decode cL_law 577 = .ok (.iadd, 1) := by decide +kernel
theorem dL_law_578 : decode cL_law 578 = .ok (.iaload, 1) := by decide +kernel
theorem dL_law_579 : decode cL_law 579 = .ok (.ifCond .eq 7, 3) := by decide +kernel
theorem dL_law_582 : decode cL_law 582 = .ok (.iconst 1, 1) := by decide +kernel
theorem dL_law_583 : decode cL_law 583 = .ok (.goto 4, 3) := by decide +kernel
theorem dL_law_586 : decode cL_law 586 = .ok (.iconst 0, 1) := by decide +kernel
theorem dL_law_587 : decode cL_law 587 = .ok (.invokevirtual 71, 3) := by decide +kernel
theorem dL_law_590 : decode cL_law 590 = .ok (.if_icmp .eq 308, 3) := by decide +kernel
theorem dL_law_593 : decode cL_law 593 = .ok (.iconst 0, 1) := by decide +kernel
theorem dL_law_594 : decode cL_law 594 = .ok (.ireturn, 1) := by decide +kernel
theorem dL_law_595 : decode cL_law 595 = .ok (.aload_n 1, 1) := by decide +kernel
theorem dL_law_596 : decode cL_law 596 = .ok (.aload_n 0, 1) := by decide +kernel
theorem dL_law_597 : decode cL_law 597 = .ok (.iload_n 3, 1) := by decide +kernel
theorem dL_law_598 : decode cL_law 598 = .ok (.iconst 1, 1) := by decide +kernel
theorem dL_law_599 : decode cL_law 599 = .ok (.iadd, 1) := by decide +kernel
theorem dL_law_600 : decode cL_law 600 = .ok (.iaload, 1) := by decide +kernel
theorem dL_law_601 : decode cL_law 601 = .ok (.invokevirtual 72, 3) := by decide +kernel
theorem dL_law_604 : decode cL_law 604 = .ok (.aload_n 2, 1) := by decide +kernel
theorem dL_law_605 : decode cL_law 605 = .ok (.aload_n 0, 1) := by decide +kernel
theorem dL_law_606 : decode cL_law 606 = .ok (.iload_n 3, 1) := by decide +kernel
theorem dL_law_607 : decode cL_law 607 = .ok (.iconst 1, 1) := by decide +kernel
theorem dL_law_608 : decode cL_law 608 = .ok (.iadd, 1) := by decide +kernel
theorem dL_law_609 : decode cL_law 609 = .ok (.iaload, 1) := by decide +kernel
theorem dL_law_610 : decode cL_law 610 = .ok (.invokevirtual 75, 3) := by decide +kernel
theorem dL_law_613 : decode cL_law 613 = .ok (.if_icmp .eq 285, 3) := by decide +kernel
theorem dL_law_616 : decode cL_law 616 = .ok (.iconst 0, 1) := by decide +kernel
theorem dL_law_617 : decode cL_law 617 = .ok (.ireturn, 1) := by decide +kernel
theorem dL_law_618 : decode cL_law 618 = .ok (.aload_n 1, 1) := by decide +kernel
theorem dL_law_619 : decode cL_law 619 = .ok (.aload_n 0, 1) := by decide +kernel
theorem dL_law_620 : decode cL_law 620 = .ok (.iload_n 3, 1) := by decide +kernel
theorem dL_law_621 : decode cL_law 621 = .ok (.iconst 1, 1) := by decide +kernel
theorem dL_law_622 : decode cL_law 622 = .ok (.iadd, 1) := by decide +kernel
theorem dL_law_623 : decode cL_law 623 = .ok (.iaload, 1) := by decide +kernel
theorem dL_law_624 : decode cL_law 624 = .ok (.aload_n 0, 1) := by decide +kernel
theorem dL_law_625 : decode cL_law 625 = .ok (.iload_n 3, 1) := by decide +kernel
theorem dL_law_626 : decode cL_law 626 = .ok (.iconst 2, 1) := by decide +kernel
theorem dL_law_627 : decode cL_law 627 = .ok (.iadd, 1) := by decide +kernel
theorem dL_law_628 : decode cL_law 628 = .ok (.iaload, 1) := by decide +kernel
theorem dL_law_629 : decode cL_law 629 = .ok (.invokevirtual 76, 3) := by decide +kernel
theorem dL_law_632 : decode cL_law 632 = .ok (.aload_n 2, 1) := by decide +kernel
theorem dL_law_633 : decode cL_law 633 = .ok (.aload_n 0, 1) := by decide +kernel
theorem dL_law_634 : decode cL_law 634 = .ok (.iload_n 3, 1) := by decide +kernel
theorem dL_law_635 : decode cL_law 635 = .ok (.iconst 1, 1) := by decide +kernel
theorem dL_law_636 : decode cL_law 636 = .ok (.iadd, 1) := by decide +kernel
theorem dL_law_637 : decode cL_law 637 = .ok (.iaload, 1) := by decide +kernel
theorem dL_law_638 : decode cL_law 638 = .ok (.aload_n 0, 1) := by decide +kernel
theorem dL_law_639 : decode cL_law 639 = .ok (.iload_n 3, 1) := by decide +kernel
theorem dL_law_640 : decode cL_law 640 = .ok (.iconst 2, 1) := by decide +kernel
theorem dL_law_641 : decode cL_law 641 = .ok (.iadd, 1) := by decide +kernel
theorem dL_law_642 : decode cL_law 642 = .ok (.iaload, 1) := by decide +kernel
theorem dL_law_643 : decode cL_law 643 = .ok (.invokevirtual 79, 3) := by decide +kernel
theorem dL_law_646 : decode cL_law 646 = .ok (.if_icmp .eq 252, 3) := by decide +kernel
theorem dL_law_649 : decode cL_law 649 = .ok (.iconst 0, 1) := by decide +kernel
theorem dL_law_650 : decode cL_law 650 = .ok (.ireturn, 1) := by decide +kernel
theorem dL_law_651 : decode cL_law 651 = .ok (.aload_n 1, 1) := by decide +kernel
theorem dL_law_652 : decode cL_law 652 = .ok (.aload_n 0, 1) := by decide +kernel
theorem dL_law_653 : decode cL_law 653 = .ok (.iload_n 3, 1) := by decide +kernel
theorem dL_law_654 : decode cL_law 654 = .ok (.iconst 1, 1) := by decide +kernel
theorem dL_law_655 : decode cL_law 655 = .ok (.iadd, 1) := by decide +kernel
theorem dL_law_656 : decode cL_law 656 = .ok (.iaload, 1) := by decide +kernel
theorem dL_law_657 : decode cL_law 657 = .ok (.aload_n 0, 1) := by decide +kernel
theorem dL_law_658 : decode cL_law 658 = .ok (.iload_n 3, 1) := by decide +kernel
theorem dL_law_659 : decode cL_law 659 = .ok (.iconst 2, 1) := by decide +kernel
theorem dL_law_660 : decode cL_law 660 = .ok (.iadd, 1) := by decide +kernel
theorem dL_law_661 : decode cL_law 661 = .ok (.iaload, 1) := by decide +kernel
theorem dL_law_662 : decode cL_law 662 = .ok (.invokevirtual 80, 3) := by decide +kernel
theorem dL_law_665 : decode cL_law 665 = .ok (.aload_n 2, 1) := by decide +kernel
theorem dL_law_666 : decode cL_law 666 = .ok (.aload_n 0, 1) := by decide +kernel
theorem dL_law_667 : decode cL_law 667 = .ok (.iload_n 3, 1) := by decide +kernel
theorem dL_law_668 : decode cL_law 668 = .ok (.iconst 1, 1) := by decide +kernel
theorem dL_law_669 : decode cL_law 669 = .ok (.iadd, 1) := by decide +kernel
theorem dL_law_670 : decode cL_law 670 = .ok (.iaload, 1) := by decide +kernel
theorem dL_law_671 : decode cL_law 671 = .ok (.aload_n 0, 1) := by decide +kernel
theorem dL_law_672 : decode cL_law 672 = .ok (.iload_n 3, 1) := by decide +kernel
theorem dL_law_673 : decode cL_law 673 = .ok (.iconst 2, 1) := by decide +kernel
theorem dL_law_674 : decode cL_law 674 = .ok (.iadd, 1) := by decide +kernel
theorem dL_law_675 : decode cL_law 675 = .ok (.iaload, 1) := by decide +kernel
theorem dL_law_676 : decode cL_law 676 = .ok (.invokevirtual 83, 3) := by decide +kernel
theorem dL_law_679 : decode cL_law 679 = .ok (.if_icmp .eq 219, 3) := by decide +kernel
theorem dL_law_682 : decode cL_law 682 = .ok (.iconst 0, 1) := by decide +kernel
theorem dL_law_683 : decode cL_law 683 = .ok (.ireturn, 1) := by decide +kernel
theorem dL_law_684 : decode cL_law 684 = .ok (.aload_n 1, 1) := by decide +kernel
theorem dL_law_685 : decode cL_law 685 = .ok (.aload_n 0, 1) := by decide +kernel
theorem dL_law_686 : decode cL_law 686 = .ok (.iload_n 3, 1) := by decide +kernel
theorem dL_law_687 : decode cL_law 687 = .ok (.iconst 1, 1) := by decide +kernel
theorem dL_law_688 : decode cL_law 688 = .ok (.iadd, 1) := by decide +kernel
theorem dL_law_689 : decode cL_law 689 = .ok (.iaload, 1) := by decide +kernel
theorem dL_law_690 : decode cL_law 690 = .ok (.invokevirtual 84, 3) := by decide +kernel
theorem dL_law_693 : decode cL_law 693 = .ok (.aload_n 2, 1) := by decide +kernel
theorem dL_law_694 : decode cL_law 694 = .ok (.aload_n 0, 1) := by decide +kernel
theorem dL_law_695 : decode cL_law 695 = .ok (.iload_n 3, 1) := by decide +kernel
theorem dL_law_696 : decode cL_law 696 = .ok (.iconst 1, 1) := by decide +kernel
theorem dL_law_697 : decode cL_law 697 = .ok (.iadd, 1) := by decide +kernel
theorem dL_law_698 : decode cL_law 698 = .ok (.iaload, 1) := by decide +kernel
theorem dL_law_699 : decode cL_law 699 = .ok (.invokevirtual 87, 3) := by decide +kernel
theorem dL_law_702 : decode cL_law 702 = .ok (.if_icmp .eq 196, 3) := by decide +kernel
theorem dL_law_705 : decode cL_law 705 = .ok (.iconst 0, 1) := by decide +kernel
theorem dL_law_706 : decode cL_law 706 = .ok (.ireturn, 1) := by decide +kernel
theorem dL_law_707 : decode cL_law 707 = .ok (.aload_n 1, 1) := by decide +kernel
theorem dL_law_708 : decode cL_law 708 = .ok (.aload_n 0, 1) := by decide +kernel
theorem dL_law_709 : decode cL_law 709 = .ok (.iload_n 3, 1) := by decide +kernel
theorem dL_law_710 : decode cL_law 710 = .ok (.iconst 1, 1) := by decide +kernel
theorem dL_law_711 : decode cL_law 711 = .ok (.iadd, 1) := by decide +kernel
theorem dL_law_712 : decode cL_law 712 = .ok (.iaload, 1) := by decide +kernel
theorem dL_law_713 : decode cL_law 713 = .ok (.invokevirtual 88, 3) := by decide +kernel
theorem dL_law_716 : decode cL_law 716 = .ok (.aload_n 2, 1) := by decide +kernel
theorem dL_law_717 : decode cL_law 717 = .ok (.aload_n 0, 1) := by decide +kernel
theorem dL_law_718 : decode cL_law 718 = .ok (.iload_n 3, 1) := by decide +kernel
theorem dL_law_719 : decode cL_law 719 = .ok (.iconst 1, 1) := by decide +kernel
theorem dL_law_720 : decode cL_law 720 = .ok (.iadd, 1) := by decide +kernel
theorem dL_law_721 : decode cL_law 721 = .ok (.iaload, 1) := by decide +kernel
theorem dL_law_722 : decode cL_law 722 = .ok (.invokevirtual 91, 3) := by decide +kernel
theorem dL_law_725 : decode cL_law 725 = .ok (.if_icmp .eq 173, 3) := by decide +kernel
theorem dL_law_728 : decode cL_law 728 = .ok (.iconst 0, 1) := by decide +kernel
theorem dL_law_729 : decode cL_law 729 = .ok (.ireturn, 1) := by decide +kernel
theorem dL_law_730 : decode cL_law 730 = .ok (.aload_n 1, 1) := by decide +kernel
theorem dL_law_731 : decode cL_law 731 = .ok (.aload_n 0, 1) := by decide +kernel
theorem dL_law_732 : decode cL_law 732 = .ok (.iload_n 3, 1) := by decide +kernel
theorem dL_law_733 : decode cL_law 733 = .ok (.iconst 1, 1) := by decide +kernel
theorem dL_law_734 : decode cL_law 734 = .ok (.iadd, 1) := by decide +kernel
theorem dL_law_735 : decode cL_law 735 = .ok (.iaload, 1) := by decide +kernel
theorem dL_law_736 : decode cL_law 736 = .ok (.aload_n 0, 1) := by decide +kernel
theorem dL_law_737 : decode cL_law 737 = .ok (.iload_n 3, 1) := by decide +kernel
theorem dL_law_738 : decode cL_law 738 = .ok (.iconst 2, 1) := by decide +kernel
theorem dL_law_739 : decode cL_law 739 = .ok (.iadd, 1) := by decide +kernel
theorem dL_law_740 : decode cL_law 740 = .ok (.iaload, 1) := by decide +kernel
theorem dL_law_741 : decode cL_law 741 = .ok (.aload_n 0, 1) := by decide +kernel
theorem dL_law_742 : decode cL_law 742 = .ok (.iload_n 3, 1) := by decide +kernel
theorem dL_law_743 : decode cL_law 743 = .ok (.iconst 3, 1) := by decide +kernel
theorem dL_law_744 : decode cL_law 744 = .ok (.iadd, 1) := by decide +kernel
theorem dL_law_745 : decode cL_law 745 = .ok (.iaload, 1) := by decide +kernel
theorem dL_law_746 : decode cL_law 746 = .ok (.aload_n 0, 1) := by decide +kernel
theorem dL_law_747 : decode cL_law 747 = .ok (.iload_n 3, 1) := by decide +kernel
theorem dL_law_748 : decode cL_law 748 = .ok (.iconst 4, 1) := by decide +kernel
theorem dL_law_749 : decode cL_law 749 = .ok (.iadd, 1) := by decide +kernel
theorem dL_law_750 : decode cL_law 750 = .ok (.iaload, 1) := by decide +kernel
theorem dL_law_751 : decode cL_law 751 = .ok (.invokevirtual 92, 3) := by decide +kernel
theorem dL_law_754 : decode cL_law 754 = .ok (.aload_n 2, 1) := by decide +kernel
theorem dL_law_755 : decode cL_law 755 = .ok (.aload_n 0, 1) := by decide +kernel
theorem dL_law_756 : decode cL_law 756 = .ok (.iload_n 3, 1) := by decide +kernel
theorem dL_law_757 : decode cL_law 757 = .ok (.iconst 1, 1) := by decide +kernel
theorem dL_law_758 : decode cL_law 758 = .ok (.iadd, 1) := by decide +kernel
theorem dL_law_759 : decode cL_law 759 = .ok (.iaload, 1) := by decide +kernel
theorem dL_law_760 : decode cL_law 760 = .ok (.aload_n 0, 1) := by decide +kernel
theorem dL_law_761 : decode cL_law 761 = .ok (.iload_n 3, 1) := by decide +kernel
theorem dL_law_762 : decode cL_law 762 = .ok (.iconst 2, 1) := by decide +kernel
theorem dL_law_763 : decode cL_law 763 = .ok (.iadd, 1) := by decide +kernel
theorem dL_law_764 : decode cL_law 764 = .ok (.iaload, 1) := by decide +kernel
theorem dL_law_765 : decode cL_law 765 = .ok (.aload_n 0, 1) := by decide +kernel
theorem dL_law_766 : decode cL_law 766 = .ok (.iload_n 3, 1) := by decide +kernel
theorem dL_law_767 : decode cL_law 767 = .ok (.iconst 3, 1) := by decide +kernel
theorem dL_law_768 : decode cL_law 768 = .ok (.iadd, 1) := by decide +kernel
theorem dL_law_769 : decode cL_law 769 = .ok (.iaload, 1) := by decide +kernel
theorem dL_law_770 : decode cL_law 770 = .ok (.aload_n 0, 1) := by decide +kernel
theorem dL_law_771 : decode cL_law 771 = .ok (.iload_n 3, 1) := by decide +kernel
theorem dL_law_772 : decode cL_law 772 = .ok (.iconst 4, 1) := by decide +kernel
theorem dL_law_773 : decode cL_law 773 = .ok (.iadd, 1) := by decide +kernel
theorem dL_law_774 : decode cL_law 774 = .ok (.iaload, 1) := by decide +kernel
theorem dL_law_775 : decode cL_law 775 = .ok (.invokevirtual 96, 3) := by decide +kernel
theorem dL_law_778 : decode cL_law 778 = .ok (.if_icmp .eq 120, 3) := by decide +kernel
theorem dL_law_781 : decode cL_law 781 = .ok (.iconst 0, 1) := by decide +kernel
theorem dL_law_782 : decode cL_law 782 = .ok (.ireturn, 1) := by decide +kernel
theorem dL_law_783 : decode cL_law 783 = .ok (.aload_n 1, 1) := by decide +kernel
theorem dL_law_784 : decode cL_law 784 = .ok (.aload_n 0, 1) := by decide +kernel
theorem dL_law_785 : decode cL_law 785 = .ok (.iload_n 3, 1) := by decide +kernel
theorem dL_law_786 : decode cL_law 786 = .ok (.iconst 1, 1) := by decide +kernel
theorem dL_law_787 : decode cL_law 787 = .ok (.iadd, 1) := by decide +kernel
theorem dL_law_788 : decode cL_law 788 = .ok (.iaload, 1) := by decide +kernel
theorem dL_law_789 : decode cL_law 789 = .ok (.invokevirtual 97, 3) := by decide +kernel
theorem dL_law_792 : decode cL_law 792 = .ok (.aload_n 2, 1) := by decide +kernel
theorem dL_law_793 : decode cL_law 793 = .ok (.aload_n 0, 1) := by decide +kernel
theorem dL_law_794 : decode cL_law 794 = .ok (.iload_n 3, 1) := by decide +kernel
theorem dL_law_795 : decode cL_law 795 = .ok (.iconst 1, 1) := by decide +kernel
theorem dL_law_796 : decode cL_law 796 = .ok (.iadd, 1) := by decide +kernel
theorem dL_law_797 : decode cL_law 797 = .ok (.iaload, 1) := by decide +kernel
theorem dL_law_798 : decode cL_law 798 = .ok (.invokevirtual 100, 3) := by decide +kernel
theorem dL_law_801 : decode cL_law 801 = .ok (.if_icmp .eq 97, 3) := by decide +kernel
theorem dL_law_804 : decode cL_law 804 = .ok (.iconst 0, 1) := by decide +kernel
theorem dL_law_805 : decode cL_law 805 = .ok (.ireturn, 1) := by decide +kernel
theorem dL_law_806 : decode cL_law 806 = .ok (.aload_n 1, 1) := by decide +kernel
theorem dL_law_807 : decode cL_law 807 = .ok (.aload_n 0, 1) := by decide +kernel
theorem dL_law_808 : decode cL_law 808 = .ok (.iload_n 3, 1) := by decide +kernel
theorem dL_law_809 : decode cL_law 809 = .ok (.iconst 1, 1) := by decide +kernel
theorem dL_law_810 : decode cL_law 810 = .ok (.iadd, 1) := by decide +kernel
theorem dL_law_811 : decode cL_law 811 = .ok (.iaload, 1) := by decide +kernel
theorem dL_law_812 : decode cL_law 812 = .ok (.invokevirtual 101, 3) := by decide +kernel
theorem dL_law_815 : decode cL_law 815 = .ok (.aload_n 2, 1) := by decide +kernel
theorem dL_law_816 : decode cL_law 816 = .ok (.aload_n 0, 1) := by decide +kernel
theorem dL_law_817 : decode cL_law 817 = .ok (.iload_n 3, 1) := by decide +kernel
theorem dL_law_818 : decode cL_law 818 = .ok (.iconst 1, 1) := by decide +kernel
theorem dL_law_819 : decode cL_law 819 = .ok (.iadd, 1) := by decide +kernel
theorem dL_law_820 : decode cL_law 820 = .ok (.iaload, 1) := by decide +kernel
theorem dL_law_821 : decode cL_law 821 = .ok (.invokevirtual 104, 3) := by decide +kernel
theorem dL_law_824 : decode cL_law 824 = .ok (.if_icmp .eq 74, 3) := by decide +kernel
theorem dL_law_827 : decode cL_law 827 = .ok (.iconst 0, 1) := by decide +kernel
theorem dL_law_828 : decode cL_law 828 = .ok (.ireturn, 1) := by decide +kernel
theorem dL_law_829 : decode cL_law 829 = .ok (.aload_n 1, 1) := by decide +kernel
theorem dL_law_830 : decode cL_law 830 = .ok (.aload_n 0, 1) := by decide +kernel
theorem dL_law_831 : decode cL_law 831 = .ok (.iload_n 3, 1) := by decide +kernel
theorem dL_law_832 : decode cL_law 832 = .ok (.iconst 1, 1) := by decide +kernel
theorem dL_law_833 : decode cL_law 833 = .ok (.iadd, 1) := by decide +kernel
theorem dL_law_834 : decode cL_law 834 = .ok (.iaload, 1) := by decide +kernel
theorem dL_law_835 : decode cL_law 835 = .ok (.invokevirtual 105, 3) := by decide +kernel
theorem dL_law_838 : decode cL_law 838 = .ok (.aload_n 2, 1) := by decide +kernel
theorem dL_law_839 : decode cL_law 839 = .ok (.aload_n 0, 1) := by decide +kernel
theorem dL_law_840 : decode cL_law 840 = .ok (.iload_n 3, 1) := by decide +kernel
theorem dL_law_841 : decode cL_law 841 = .ok (.iconst 1, 1) := by decide +kernel
theorem dL_law_842 : decode cL_law 842 = .ok (.iadd, 1) := by decide +kernel
theorem dL_law_843 : decode cL_law 843 = .ok (.iaload, 1) := by decide +kernel
theorem dL_law_844 : decode cL_law 844 = .ok (.invokevirtual 108, 3) := by decide +kernel
theorem dL_law_847 : decode cL_law 847 = .ok (.if_icmp .eq 51, 3) := by decide +kernel
theorem dL_law_850 : decode cL_law 850 = .ok (.iconst 0, 1) := by decide +kernel
theorem dL_law_851 : decode cL_law 851 = .ok (.ireturn, 1) := by decide +kernel
theorem dL_law_852 : decode cL_law 852 = .ok (.aload_n 1, 1) := by decide +kernel
theorem dL_law_853 : decode cL_law 853 = .ok (.aload_n 0, 1) := by decide +kernel
theorem dL_law_854 : decode cL_law 854 = .ok (.iload_n 3, 1) := by decide +kernel
theorem dL_law_855 : decode cL_law 855 = .ok (.iconst 1, 1) := by decide +kernel
theorem dL_law_856 : decode cL_law 856 = .ok (.iadd, 1) := by decide +kernel
theorem dL_law_857 : decode cL_law 857 = .ok (.iaload, 1) := by decide +kernel
theorem dL_law_858 : decode cL_law 858 = .ok (.invokevirtual 109, 3) := by decide +kernel
theorem dL_law_861 : decode cL_law 861 = .ok (.aload_n 2, 1) := by decide +kernel
theorem dL_law_862 : decode cL_law 862 = .ok (.aload_n 0, 1) := by decide +kernel
theorem dL_law_863 : decode cL_law 863 = .ok (.iload_n 3, 1) := by decide +kernel
theorem dL_law_864 : decode cL_law 864 = .ok (.iconst 1, 1) := by decide +kernel
theorem dL_law_865 : decode cL_law 865 = .ok (.iadd, 1) := by decide +kernel
theorem dL_law_866 : decode cL_law 866 = .ok (.iaload, 1) := by decide +kernel
theorem dL_law_867 : decode cL_law 867 = .ok (.invokevirtual 112, 3) := by decide +kernel
theorem dL_law_870 : decode cL_law 870 = .ok (.if_icmp .eq 28, 3) := by decide +kernel
theorem dL_law_873 : decode cL_law 873 = .ok (.iconst 0, 1) := by decide +kernel
theorem dL_law_874 : decode cL_law 874 = .ok (.ireturn, 1) := by decide +kernel
theorem dL_law_875 : decode cL_law 875 = .ok (.aload_n 1, 1) := by decide +kernel
theorem dL_law_876 : decode cL_law 876 = .ok (.aload_n 0, 1) := by decide +kernel
theorem dL_law_877 : decode cL_law 877 = .ok (.iload_n 3, 1) := by decide +kernel
theorem dL_law_878 : decode cL_law 878 = .ok (.iconst 1, 1) := by decide +kernel
theorem dL_law_879 : decode cL_law 879 = .ok (.iadd, 1) := by decide +kernel
theorem dL_law_880 : decode cL_law 880 = .ok (.iaload, 1) := by decide +kernel
theorem dL_law_881 : decode cL_law 881 = .ok (.invokevirtual 113, 3) := by decide +kernel
theorem dL_law_884 : decode cL_law 884 = .ok (.aload_n 2, 1) := by decide +kernel
theorem dL_law_885 : decode cL_law 885 = .ok (.aload_n 0, 1) := by decide +kernel
theorem dL_law_886 : decode cL_law 886 = .ok (.iload_n 3, 1) := by decide +kernel
theorem dL_law_887 : decode cL_law 887 = .ok (.iconst 1, 1) := by decide +kernel
theorem dL_law_888 : decode cL_law 888 = .ok (.iadd, 1) := by decide +kernel
theorem dL_law_889 : decode cL_law 889 = .ok (.iaload, 1) := by decide +kernel
theorem dL_law_890 : decode cL_law 890 = .ok (.invokevirtual 116, 3) := by decide +kernel
theorem dL_law_893 : decode cL_law 893 = .ok (.if_icmp .eq 5, 3) := by decide +kernel
theorem dL_law_896 : decode cL_law 896 = .ok (.iconst 0, 1) := by decide +kernel
theorem dL_law_897 : decode cL_law 897 = .ok (.ireturn, 1) := by decide +kernel
theorem dL_law_898 : decode cL_law 898 = .ok (.iinc 3 6, 3) := by decide +kernel
theorem dL_law_901 : decode cL_law 901 = .ok (.goto (-883), 3) := by decide +kernel
theorem dL_law_904 : decode cL_law 904 = .ok (.iconst 1, 1) := by decide +kernel
theorem dL_law_905 : decode cL_law 905 = .ok (.ireturn, 1) := by decide +kernel
end
