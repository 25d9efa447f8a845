/-! A memory of ints by cell and place; a world laid out by a shape; one row a step over it. -/
abbrev Mm : Type := Nat → Nat → Int32
def ob_up (g : Mm) (q k : Nat) (v : Int32) : Mm := fun a b => if a = q ∧ b = k then v else g a b
abbrev ob_F : Type := Option (Option Nat)
abbrev ob_S : Type := (Bool × Nat) ⊕ (Nat × List ob_F)
def ob_val (ad : Nat → Nat) (x : Int32) (f : ob_F) : Value := match f with
  | none => .int x
  | some none => .null
  | some (some j) => .ref (ad j)
def ob_cell (ad : Nat → Nat) (cI cZ : ClassId) (g : Nat → Int32) (h : ob_S) : va_E := match h with
  | .inl (false, n) => .inl (cI, n, .inl g)
  | .inl (true, n) => .inl (cZ, n, .inl g)
  | .inr (ci, fs) => .inr (ci, fs.mapIdx (fun k f => ob_val ad (g k) f))
def ob_ws (sh : List ob_S) (ad : Nat → Nat) (cI cZ : ClassId) (g : Mm) : va_W := sh.mapIdx (fun q h => (ad q, ob_cell ad cI cZ (g q) h))
def ob_A (sh : List ob_S) (ad : Nat → Nat) : Nat → Prop := fun a => ∃ q, q < sh.length ∧ a = ad q
def ob_inj (sh : List ob_S) (ad : Nat → Nat) : Prop := ∀ i j, i < sh.length → j < sh.length → ad i = ad j → i = j
abbrev ob_N : Type := String × Nat × MethodName × String
def ob_K (D : va_G) (cl : List vw_C) (cI cZ : ClassId) (nw : List ob_N) (U : State) : Prop := va_K D cl [(cI, .int), (cZ, .boolean)] U ∧ ∀ q ∈ nw, va_Nw (.methodLinkNest q.1 q.2.1 q.2.2.1 q.2.2.2) U
def ob_B (D : va_G) (cl : List vw_C) (sh : List ob_S) (ad : Nat → Nat) (cI cZ : ClassId) (nw : List ob_N) (g : Mm) (U : State) : Prop := va_P D cl (ob_ws sh ad cI cZ g) U.heap ∧ ob_K D cl cI cZ nw U
def rmN (d : Nat) : Room := { frames := d, cells := 0, slots := 0, locals := 50 * d }
theorem ob_R {a b maxL : Nat} (h : a + 1 ≤ b) (hm : maxL ≤ 31) : (rmN a).frames + 1 ≤ (rmN b).frames ∧ 8 + (maxL + 11) + (rmN a).locals ≤ (rmN b).locals := by
  constructor
  · exact h
  · show 8 + (maxL + 11) + 50 * a ≤ 50 * b
    omega
def ob_b2 {α β γ : Type} (o : Option (α × β)) (k : α → β → Option γ) : Option γ := match o with
  | none => none
  | some u => k u.1 u.2
def ob_b1 {α γ : Type} (o : Option α) (k : α → Option γ) : Option γ := match o with
  | none => none
  | some u => k u
theorem ob_e2 {α β γ : Type} {o : Option (α × β)} {k : α → β → Option γ} {r : γ} (h : ob_b2 o k = some r) : ∃ a b, o = some (a, b) ∧ k a b = some r := by
  cases o with
  | none => cases h
  | some u => exact ⟨u.1, u.2, rfl, h⟩
theorem ob_e1 {α γ : Type} {o : Option α} {k : α → Option γ} {r : γ} (h : ob_b1 o k = some r) : ∃ a, o = some a ∧ k a = some r := by
  cases o with
  | none => cases h
  | some u => exact ⟨u, rfl, h⟩
def ob_ld (g : Mm) (q n : Nat) (i : Int32) : Option Int32 := if 0 ≤ i.toInt ∧ i.toInt < (n : Int) then some (g q i.toNatClampNeg) else none
def ob_st (g : Mm) (q n : Nat) (i x : Int32) : Option Mm := if 0 ≤ i.toInt ∧ i.toInt < (n : Int) then some (ob_up g q i.toNatClampNeg x) else none
def ob_sz (g : Mm) (q n : Nat) (i x : Int32) : Option Mm := if 0 ≤ i.toInt ∧ i.toInt < (n : Int) then some (ob_up g q i.toNatClampNeg (vp_nar .boolean x)) else none
def ob_nz (y : Int32) : Option Unit := if y = 0 then none else some ()
theorem ob_ld_in {g : Mm} {q n : Nat} {i v : Int32} (h : ob_ld g q n i = some v) : vp_in i n ∧ v = g q i.toNatClampNeg := by
  unfold ob_ld at h
  by_cases hc : 0 ≤ i.toInt ∧ i.toInt < (n : Int)
  · rw [if_pos hc] at h
    exact ⟨vp_in_iff.mpr hc, (Option.some.inj h).symm⟩
  · rw [if_neg hc] at h
    cases h
theorem ob_st_in {g t : Mm} {q n : Nat} {i x : Int32} (h : ob_st g q n i x = some t) : vp_in i n ∧ t = ob_up g q i.toNatClampNeg x := by
  unfold ob_st at h
  by_cases hc : 0 ≤ i.toInt ∧ i.toInt < (n : Int)
  · rw [if_pos hc] at h
    exact ⟨vp_in_iff.mpr hc, (Option.some.inj h).symm⟩
  · rw [if_neg hc] at h
    cases h
theorem ob_sz_in {g t : Mm} {q n : Nat} {i x : Int32} (h : ob_sz g q n i x = some t) : vp_in i n ∧ t = ob_up g q i.toNatClampNeg (vp_nar .boolean x) := by
  unfold ob_sz at h
  by_cases hc : 0 ≤ i.toInt ∧ i.toInt < (n : Int)
  · rw [if_pos hc] at h
    exact ⟨vp_in_iff.mpr hc, (Option.some.inj h).symm⟩
  · rw [if_neg hc] at h
    cases h
def ob_zb (v : Int32) : Option Unit := if v &&& 1 = v then some () else none
theorem ob_zb_in {v : Int32} {u : Unit} (h : ob_zb v = some u) : narrow .boolean (.int v) = .int v := by
  unfold ob_zb at h
  by_cases hc : v &&& 1 = v
  · show Value.int (v &&& 1) = .int v
    rw [hc]
  · rw [if_neg hc] at h
    cases h
theorem ob_nz_in {y : Int32} {u : Unit} (h : ob_nz y = some u) : ¬ y = 0 := by
  unfold ob_nz at h
  intro hy
  rw [if_pos hy] at h
  cases h
theorem ob_look {sh : List ob_S} {ad : Nat → Nat} {cI cZ : ClassId} {g : Mm} {q : Nat} {h : ob_S} (hq : sh[q]? = some h) : (ob_ws sh ad cI cZ g)[q]? = some (ad q, ob_cell ad cI cZ (g q) h) := by
  simp [ob_ws, List.getElem?_mapIdx, hq]
theorem ob_back {sh : List ob_S} {ad : Nat → Nat} {cI cZ : ClassId} {g : Mm} {q : Nat} {p : Nat × va_E} (h : (ob_ws sh ad cI cZ g)[q]? = some p) : ∃ x, sh[q]? = some x ∧ p = (ad q, ob_cell ad cI cZ (g q) x) := by
  cases hs : sh[q]? with
  | none => simp [ob_ws, List.getElem?_mapIdx, hs] at h
  | some x => exact ⟨x, rfl, (Option.some.inj ((ob_look hs).symm.trans h)).symm⟩
theorem ob_upq (g : Mm) (q k : Nat) (v : Int32) : ob_up g q k v q = upd (g q) k v := by funext b; simp [ob_up, upd]
theorem ob_upn {g : Mm} {q k i : Nat} {v : Int32} (h : ¬ i = q) : ob_up g q k v i = g i := by funext b; simp [ob_up, h]
theorem ob_set {sh : List ob_S} {ad : Nat → Nat} {cI cZ : ClassId} {g : Mm} {q k : Nat} {v : Int32} {h : ob_S} {e : va_E} (hq : sh[q]? = some h) (he : e = ob_cell ad cI cZ (upd (g q) k v) h) : (ob_ws sh ad cI cZ g).set q (ad q, e) = ob_ws sh ad cI cZ (ob_up g q k v) := by
  apply List.ext_getElem?
  intro i
  rw [List.getElem?_set]
  by_cases hi : q = i
  · subst hi
    have hl : q < (ob_ws sh ad cI cZ g).length := (List.getElem?_eq_some_iff.mp (ob_look (ad := ad) (cI := cI) (cZ := cZ) (g := g) hq)).1
    rw [if_pos rfl, if_pos hl, ob_look hq, ob_upq, he]
  · rw [if_neg hi]
    cases hs : sh[i]? with
    | none => simp [ob_ws, List.getElem?_mapIdx, hs]
    | some x => rw [ob_look hs, ob_look hs, ob_upn (fun z => hi z.symm)]
theorem ob_setF {ad : Nat → Nat} {g : Nat → Int32} {fs : List ob_F} {k : Nat} {v : Int32} (hf : fs[k]? = some none) : (fs.mapIdx (fun j f => ob_val ad (g j) f)).set k (.int v) = fs.mapIdx (fun j f => ob_val ad (upd g k v j) f) := by
  apply List.ext_getElem?
  intro i
  rw [List.getElem?_set]
  by_cases hi : k = i
  · subst hi
    have hl : k < fs.length := (List.getElem?_eq_some_iff.mp hf).1
    have he : fs[k] = none := (List.getElem?_eq_some_iff.mp hf).2
    simp [List.getElem?_mapIdx, hl, he, ob_val, upd]
  · rw [if_neg hi]
    have hi2 : ¬ i = k := fun z => hi z.symm
    simp [List.getElem?_mapIdx, upd, hi2]
theorem ob_D {sh : List ob_S} {ad : Nat → Nat} {cI cZ : ClassId} {g : Mm} (hi : ob_inj sh ad) : va_D (ob_A sh ad) (ob_ws sh ad cI cZ g) := by
  refine ⟨fun i j p q hp hq e => ?_, fun k q hq => ?_⟩
  · obtain ⟨x, hx, rfl⟩ := ob_back hp
    obtain ⟨y, hy, rfl⟩ := ob_back hq
    exact hi i j (List.getElem?_eq_some_iff.mp hx).1 (List.getElem?_eq_some_iff.mp hy).1 e
  · obtain ⟨x, hx, rfl⟩ := ob_back hq
    exact ⟨k, (List.getElem?_eq_some_iff.mp hx).1, rfl⟩
theorem ob_K.moved {D : va_G} {cl : List vw_C} {cI cZ : ClassId} {nw : List ob_N} {s U : State} (hW : s.WarmedH U.vm) (h : ob_K D cl cI cZ nw s) : ob_K D cl cI cZ nw U :=
  ⟨va_K.moved hW.alike h.1, fun q hq => va_Nw.warmM hW (h.2 q hq)⟩
theorem ob_blind {D : va_G} {cl : List vw_C} {sh : List ob_S} {ad : Nat → Nat} {cI cZ : ClassId} {nw : List ob_N} {g : Mm} {av : List Value} : FrameBlind (va_Pc av (ob_B D cl sh ad cI cZ nw g)) := by
  intro a U f mk q
  obtain ⟨q0, qP, qK, qN⟩ := q
  exact ⟨q0, qP, va_K.moved (u := U) (U := U.calling f mk a) (Vm.Alike.refl U.vm) qK, fun q hq => va_Nw.same rfl (rfl : U.vm = (U.calling f mk a).vm) (qN q hq)⟩
abbrev ob_Qi (D : va_G) (cl : List vw_C) (sh : List ob_S) (ad : Nat → Nat) (cI cZ : ClassId) (r : Int32) (g : Mm) : Array Value → State → Outcome → State → Prop := va_Qi (fun (r' : Int32) (_ : Unit) => r' = r) (fun _ t => va_P D cl (ob_ws sh ad cI cZ g) t.heap) (ob_A sh ad)
abbrev ob_Qv (D : va_G) (cl : List vw_C) (sh : List ob_S) (ad : Nat → Nat) (cI cZ : ClassId) (g : Mm) : Array Value → State → Outcome → State → Prop := va_Qv (fun (_ : Unit) => True) (fun _ t => va_P D cl (ob_ws sh ad cI cZ g) t.heap) (ob_A sh ad)
abbrev ob_Qr (D : va_G) (cl : List vw_C) (sh : List ob_S) (ad : Nat → Nat) (cI cZ : ClassId) (r : Nat) (g : Mm) : Array Value → State → Outcome → State → Prop := va_Qr (fun (_ : Unit) => True) (fun _ a t => a = ad r ∧ va_P D cl (ob_ws sh ad cI cZ g) t.heap) (ob_A sh ad)
abbrev ob_Mi (l : Launch) (y : MethodName) (ws : List Cond) (d : Nat) (D : va_G) (cl : List vw_C) (sh : List ob_S) (ad : Nat → Nat) (cI cZ : ClassId) (nw : List ob_N) (av : List Value) (g : Mm) (r : Int32) (t : Mm) : Prop := Met l y ws (rmN d) (va_Pc av (ob_B D cl sh ad cI cZ nw g)) (ob_Qi D cl sh ad cI cZ r t) 0 0 (ob_A sh ad)
abbrev ob_Mv (l : Launch) (y : MethodName) (ws : List Cond) (d : Nat) (D : va_G) (cl : List vw_C) (sh : List ob_S) (ad : Nat → Nat) (cI cZ : ClassId) (nw : List ob_N) (av : List Value) (g t : Mm) : Prop := Met l y ws (rmN d) (va_Pc av (ob_B D cl sh ad cI cZ nw g)) (ob_Qv D cl sh ad cI cZ t) 0 0 (ob_A sh ad)
abbrev ob_Mr (l : Launch) (y : MethodName) (ws : List Cond) (d : Nat) (D : va_G) (cl : List vw_C) (sh : List ob_S) (ad : Nat → Nat) (cI cZ : ClassId) (nw : List ob_N) (av : List Value) (g : Mm) (r : Nat) (t : Mm) : Prop := Met l y ws (rmN d) (va_Pc av (ob_B D cl sh ad cI cZ nw g)) (ob_Qr D cl sh ad cI cZ r t) 0 0 (ob_A sh ad)
section OB
variable {p : Program} {l : Launch} {e : Env} {R : Room} {s : State} {m : MethodId} {args : Array Value} {below : List Frame} {meth : Method} {c : Code} {H : Heap} {locs : List Loc} {Q : State → Prop} {cc : ByteArray} {pc : Nat} {ls : Array Slot} {rest : List Value} {D : va_G} {cl : List vw_C} {A : Nat → Prop} {H0 : Heap} {sh : List ob_S} {ad : Nat → Nat} {cI cZ : ClassId} {nw : List ob_N} {g t : Mm} {cells slots : Nat}
theorem ob_gi (hx : p.tables.exec = Jvm.exec) (hb : c.code = cc) {own C : String} {T : u_T} {N ci index : Nat} {Ts : List Cond} (hts : ∀ w ∈ Ts, w.before args s = true) (hin : ∀ w ∈ u_ws C T N, w ∈ Ts) (hown : s.vm.findClass own = some m.cls) (hK : ob_K D cl cI cZ nw s) (hM : va_P D cl (ob_ws sh ad cI cZ g) H) {q : Nat} {fs : List ob_F} (hq : sh[q]? = some (.inr (ci, fs))) (hc : cl[ci]? = some (C, T, N)) (k : Nat) (hk : k < N) (hlink : (Cond.fieldLink own index (T k).1 (T k).2.1 (T k).2.2.1).before args s = true) (hf : fs[k]? = some none) (hdg : decode cc pc = .ok (.getfield index, 3))
    (kk : W p l e R s m args below meth c H locs cells slots Q (F0 m (pc + 3) ls (.int (g q k) :: rest))) : W p l e R s m args below meth c H locs cells slots Q (F0 m pc ls (.ref (ad q) :: rest)) :=
  va_get hx hb hts hin hown hK.1 hM q (ob_look hq) hc k hk hlink (fun _ h => h) (v := .int (g q k)) (by simp [List.getElem?_mapIdx, hf, ob_val]) hdg kk
theorem ob_gr (hx : p.tables.exec = Jvm.exec) (hb : c.code = cc) {own C : String} {T : u_T} {N ci index : Nat} {Ts : List Cond} (hts : ∀ w ∈ Ts, w.before args s = true) (hin : ∀ w ∈ u_ws C T N, w ∈ Ts) (hown : s.vm.findClass own = some m.cls) (hK : ob_K D cl cI cZ nw s) (hM : va_P D cl (ob_ws sh ad cI cZ g) H) {q j : Nat} {fs : List ob_F} (hq : sh[q]? = some (.inr (ci, fs))) (hc : cl[ci]? = some (C, T, N)) (k : Nat) (hk : k < N) (hlink : (Cond.fieldLink own index (T k).1 (T k).2.1 (T k).2.2.1).before args s = true) (hf : fs[k]? = some (some (some j))) (hdg : decode cc pc = .ok (.getfield index, 3))
    (kk : W p l e R s m args below meth c H locs cells slots Q (F0 m (pc + 3) ls (.ref (ad j) :: rest))) : W p l e R s m args below meth c H locs cells slots Q (F0 m pc ls (.ref (ad q) :: rest)) :=
  va_get hx hb hts hin hown hK.1 hM q (ob_look hq) hc k hk hlink (fun _ h => h) (v := .ref (ad j)) (by simp [List.getElem?_mapIdx, hf, ob_val]) hdg kk
theorem ob_pi (hx : p.tables.exec = Jvm.exec) (hb : c.code = cc) {own C : String} {T : u_T} {N ci index : Nat} {Ts : List Cond} (hts : ∀ w ∈ Ts, w.before args s = true) (hin : ∀ w ∈ u_ws C T N, w ∈ Ts) (ty0 : Nat → FieldType) (hty : ∀ k, k < N → parseFieldDescriptor (T k).2.2.1 = some (ty0 k)) (hnm : ∀ a, a < N → ∀ b, b < N → a ≠ b → (T a).2.1 ≠ (T b).2.1) (hown : s.vm.findClass own = some m.cls) (hK : ob_K D cl cI cZ nw s) (hM : va_P D cl (ob_ws sh ad cI cZ g) H) (hI : ob_inj sh ad) (hS : va_S (ob_A sh ad) H0 H locs) {q : Nat} {fs : List ob_F} (hq : sh[q]? = some (.inr (ci, fs))) (hc : cl[ci]? = some (C, T, N)) (k : Nat) (hk : k < N) (hlink : (Cond.fieldLink own index (T k).1 (T k).2.1 (T k).2.2.1).before args s = true) (hf : fs[k]? = some none) (hfin : (T k).2.2.2 = false) {ty : FieldType} {v : Int32} (hd : parseFieldDescriptor (T k).2.2.1 = some ty) (hn : narrow ty (.int v) = .int v) (hfit : fits ty (.int v) = true) (hdg : decode cc pc = .ok (.putfield index, 3))
    (kk : ∀ (H : Heap) (locs : List Loc), va_P D cl (ob_ws sh ad cI cZ (ob_up g q k v)) H → va_S (ob_A sh ad) H0 H locs → W p l e R s m args below meth c H locs cells slots Q (F0 m (pc + 3) ls rest)) : W p l e R s m args below meth c H locs cells slots Q (F0 m pc ls (.int v :: .ref (ad q) :: rest)) := by
  refine va_put hx hb hts hin ty0 hty hnm hown hK.1 hM (ob_D hI) hS q (ob_look hq) hc k hk hlink (fun _ h => h) hfin (v := .int v) hd hn hfit ?_ hdg (fun H1 locs1 h1 _ h3 => ?_)
  · have hl : k < fs.length := (List.getElem?_eq_some_iff.mp hf).1
    simpa using hl
  · refine kk H1 locs1 ?_ h3
    rw [← ob_set (k := k) (v := v) hq (congrArg (fun z => (Sum.inr (ci, z) : va_E)) (ob_setF hf))]
    exact h1
theorem ob_iald (hx : p.tables.exec = Jvm.exec) (hb : c.code = cc) (hK : ob_K D cl cI cZ nw s) (hM : va_P D cl (ob_ws sh ad cI cZ g) H) {q n : Nat} (hq : sh[q]? = some (.inl (false, n))) {i v : Int32} (hv : ob_ld g q n i = some v) (hdg : decode cc pc = .ok (.iaload, 1))
    (kk : W p l e R s m args below meth c H locs cells slots Q (F0 m (pc + 1) ls (.int v :: rest))) : W p l e R s m args below meth c H locs cells slots Q (F0 m pc ls (.int i :: .ref (ad q) :: rest)) := by
  obtain ⟨h1, rfl⟩ := ob_ld_in hv
  exact va_iald hx hb hK.1 hM q 0 (f := g q) (ob_look hq) rfl h1 hdg kk
theorem ob_zald (hx : p.tables.exec = Jvm.exec) (hb : c.code = cc) (hK : ob_K D cl cI cZ nw s) (hM : va_P D cl (ob_ws sh ad cI cZ g) H) {q n : Nat} (hq : sh[q]? = some (.inl (true, n))) {i v : Int32} (hv : ob_ld g q n i = some v) (hdg : decode cc pc = .ok (.baload, 1))
    (kk : W p l e R s m args below meth c H locs cells slots Q (F0 m (pc + 1) ls (.int v :: rest))) : W p l e R s m args below meth c H locs cells slots Q (F0 m pc ls (.int i :: .ref (ad q) :: rest)) := by
  obtain ⟨h1, rfl⟩ := ob_ld_in hv
  exact va_zald hx hb hK.1 hM q 1 (f := g q) (ob_look hq) rfl h1 hdg kk
theorem ob_iast (hx : p.tables.exec = Jvm.exec) (hb : c.code = cc) (hK : ob_K D cl cI cZ nw s) (hM : va_P D cl (ob_ws sh ad cI cZ g) H) (hI : ob_inj sh ad) (hS : va_S (ob_A sh ad) H0 H locs) {q n : Nat} (hq : sh[q]? = some (.inl (false, n))) {i x : Int32} (hv : ob_st g q n i x = some t) (hdg : decode cc pc = .ok (.iastore, 1))
    (kk : ∀ (H : Heap) (locs : List Loc), va_P D cl (ob_ws sh ad cI cZ t) H → va_S (ob_A sh ad) H0 H locs → W p l e R s m args below meth c H locs cells slots Q (F0 m (pc + 1) ls rest)) : W p l e R s m args below meth c H locs cells slots Q (F0 m pc ls (.int x :: .int i :: .ref (ad q) :: rest)) := by
  obtain ⟨h1, rfl⟩ := ob_st_in hv
  refine va_iast hx hb hK.1 hM (ob_D hI) hS q 0 (f := g q) (ob_look hq) rfl h1 hdg (fun H1 locs1 h2 _ h3 => kk H1 locs1 ?_ h3)
  rw [← ob_set (k := i.toNatClampNeg) (v := x) hq rfl]
  exact h2
theorem ob_zast (hx : p.tables.exec = Jvm.exec) (hb : c.code = cc) (hK : ob_K D cl cI cZ nw s) (hM : va_P D cl (ob_ws sh ad cI cZ g) H) (hI : ob_inj sh ad) (hS : va_S (ob_A sh ad) H0 H locs) {q n : Nat} (hq : sh[q]? = some (.inl (true, n))) {i x : Int32} (hv : ob_sz g q n i x = some t) (hdg : decode cc pc = .ok (.bastore, 1))
    (kk : ∀ (H : Heap) (locs : List Loc), va_P D cl (ob_ws sh ad cI cZ t) H → va_S (ob_A sh ad) H0 H locs → W p l e R s m args below meth c H locs cells slots Q (F0 m (pc + 1) ls rest)) : W p l e R s m args below meth c H locs cells slots Q (F0 m pc ls (.int x :: .int i :: .ref (ad q) :: rest)) := by
  obtain ⟨h1, rfl⟩ := ob_sz_in hv
  refine va_zast hx hb hK.1 hM (ob_D hI) hS q 1 (f := g q) (ob_look hq) rfl h1 hdg (fun H1 locs1 h2 _ h3 => kk H1 locs1 ?_ h3)
  rw [← ob_set (k := i.toNatClampNeg) (v := vp_nar .boolean x) hq rfl]
  exact h2
theorem ob_alen (hx : p.tables.exec = Jvm.exec) (hb : c.code = cc) (hK : ob_K D cl cI cZ nw s) (hM : va_P D cl (ob_ws sh ad cI cZ g) H) {q n : Nat} (hq : sh[q]? = some (.inl (false, n))) {v : Int32} (hv : Int32.ofNat n = v) (hdg : decode cc pc = .ok (.arraylength, 1))
    (kk : W p l e R s m args below meth c H locs cells slots Q (F0 m (pc + 1) ls (.int v :: rest))) : W p l e R s m args below meth c H locs cells slots Q (F0 m pc ls (.ref (ad q) :: rest)) :=
  va_alen (x := (n, .inl (g q))) hx hb hK.1 hM q 0 (ob_look hq) rfl hv hdg kk
theorem ob_zlen (hx : p.tables.exec = Jvm.exec) (hb : c.code = cc) (hK : ob_K D cl cI cZ nw s) (hM : va_P D cl (ob_ws sh ad cI cZ g) H) {q n : Nat} (hq : sh[q]? = some (.inl (true, n))) {v : Int32} (hv : Int32.ofNat n = v) (hdg : decode cc pc = .ok (.arraylength, 1))
    (kk : W p l e R s m args below meth c H locs cells slots Q (F0 m (pc + 1) ls (.int v :: rest))) : W p l e R s m args below meth c H locs cells slots Q (F0 m pc ls (.ref (ad q) :: rest)) :=
  va_alen (x := (n, .inl (g q))) hx hb hK.1 hM q 1 (ob_look hq) rfl hv hdg kk
theorem ob_iret (hx : p.tables.exec = Jvm.exec) (hb : c.code = cc) {rt : FieldType} (hr : meth.sig.returnType = some rt) (hlocks : meth.locks = false) (hM : va_P D cl (ob_ws sh ad cI cZ g) H) (hS : va_S (ob_A sh ad) s.heap H locs) {v r : Int32} (hn : narrow rt (.int v) = .int v) (hf : some (v, g) = some (r, t)) (hdg : decode cc pc = .ok (.ireturn, 1)) : W p l e R s m args below meth c H locs cells slots (MQ below (ob_Qi D cl sh ad cI cZ r t) args s cells slots (ob_A sh ad)) (F0 m pc ls [.int v]) := by
  cases hf
  exact W.zret hx hb hr hn (fun u hu hW => ⟨⟨v, (), rfl, rfl, by subst hu; exact hM⟩, hS.F hu⟩) hS.2.2 hdg hlocks
theorem ob_iretR (hx : p.tables.exec = Jvm.exec) (hb : c.code = cc) {rt : FieldType} (hr : meth.sig.returnType = some rt) (hlocks : meth.locks = false) (hM : va_P D cl (ob_ws sh ad cI cZ g) H) (hS : va_S (ob_A sh ad) s.heap H locs) {v r : Int32} (hn : narrow rt (.int v) = .int v) (hf : some v = some r) (hdg : decode cc pc = .ok (.ireturn, 1)) : W p l e R s m args below meth c H locs cells slots (MQ below (ob_Qi D cl sh ad cI cZ r g) args s cells slots (ob_A sh ad)) (F0 m pc ls [.int v]) := by
  cases hf
  exact W.zret hx hb hr hn (fun u hu hW => ⟨⟨v, (), rfl, rfl, by subst hu; exact hM⟩, hS.F hu⟩) hS.2.2 hdg hlocks
theorem ob_vret (hx : p.tables.exec = Jvm.exec) (hb : c.code = cc) (hr : meth.sig.returnType = none) (hlocks : meth.locks = false) (hM : va_P D cl (ob_ws sh ad cI cZ g) H) (hS : va_S (ob_A sh ad) s.heap H locs) (hf : some g = some t) (hdg : decode cc pc = .ok (.return_, 1)) : W p l e R s m args below meth c H locs cells slots (MQ below (ob_Qv D cl sh ad cI cZ t) args s cells slots (ob_A sh ad)) (F0 m pc ls []) := by
  cases hf
  exact W.vret hx hb hr (fun u hu hW => ⟨⟨(), rfl, trivial, by subst hu; exact hM⟩, hS.F hu⟩) hS.2.2 hdg hlocks
theorem ob_aretR (hx : p.tables.exec = Jvm.exec) (hb : c.code = cc) {cn : String} (hr : meth.sig.returnType = some (.object cn)) (hlocks : meth.locks = false) (hM : va_P D cl (ob_ws sh ad cI cZ g) H) (hS : va_S (ob_A sh ad) s.heap H locs) {v r : Nat} (hf : some v = some r) (hdg : decode cc pc = .ok (.areturn, 1)) : W p l e R s m args below meth c H locs cells slots (MQ below (ob_Qr D cl sh ad cI cZ r g) args s cells slots (ob_A sh ad)) (F0 m pc ls [.ref (ad v)]) := by
  cases hf
  exact W.aret hx hb hr (Or.inl ⟨cn, rfl⟩) (Or.inr ⟨ad v, rfl⟩) (fun u hu hW => ⟨⟨(), ad v, rfl, trivial, rfl, by subst hu; exact hM⟩, hS.F hu⟩) hS.2.2 hdg hlocks
theorem ob_calli {st0 : List Value} {a : Array Value} {r : Int32} (hr : va_Run p l e R s m args below meth c H locs cells slots 0 0 (F0 m pc ls st0) rest (ob_Qi D cl sh ad cI cZ r t a) (ob_A sh ad)) (hS : va_S (ob_A sh ad) H0 H locs)
    (kk : ∀ (H : Heap) (locs : List Loc), va_P D cl (ob_ws sh ad cI cZ t) H → va_S (ob_A sh ad) H0 H locs → W p l e R s m args below meth c H locs cells slots Q (F0 m (pc + 3) ls (.int r :: rest))) : W p l e R s m args below meth c H locs cells slots Q (F0 m pc ls st0) :=
  va_calli hr hS (fun _ _ h => h) (fun _ h => h) (fun r' u t' H1 locs1 ht _ hw hB _ _ hS1 => by subst hw; subst ht; exact kk _ _ hB hS1)
theorem ob_callv {st0 : List Value} {a : Array Value} (hr : va_Run p l e R s m args below meth c H locs cells slots 0 0 (F0 m pc ls st0) rest (ob_Qv D cl sh ad cI cZ t a) (ob_A sh ad)) (hS : va_S (ob_A sh ad) H0 H locs)
    (kk : ∀ (H : Heap) (locs : List Loc), va_P D cl (ob_ws sh ad cI cZ t) H → va_S (ob_A sh ad) H0 H locs → W p l e R s m args below meth c H locs cells slots Q (F0 m (pc + 3) ls rest)) : W p l e R s m args below meth c H locs cells slots Q (F0 m pc ls st0) :=
  va_callv hr hS (fun _ _ h => h) (fun _ h => h) (fun u t' H1 locs1 ht _ hw hB _ _ hS1 => by subst ht; exact kk _ _ hB hS1)
theorem ob_callr {st0 : List Value} {a : Array Value} {r : Nat} (hr : va_Run p l e R s m args below meth c H locs cells slots 0 0 (F0 m pc ls st0) rest (ob_Qr D cl sh ad cI cZ r t a) (ob_A sh ad)) (hS : va_S (ob_A sh ad) H0 H locs)
    (kk : ∀ (H : Heap) (locs : List Loc), va_P D cl (ob_ws sh ad cI cZ t) H → va_S (ob_A sh ad) H0 H locs → W p l e R s m args below meth c H locs cells slots Q (F0 m (pc + 3) ls (.ref (ad r) :: rest))) : W p l e R s m args below meth c H locs cells slots Q (F0 m pc ls st0) :=
  va_callr hr hS (fun _ _ h => h) (fun _ h => h) (fun u ra t' H1 locs1 ht _ hw hB _ _ hS1 => by obtain ⟨rfl, hB⟩ := hB; subst ht; exact kk _ _ hB hS1)
theorem ob_recv (hK : ob_K D cl cI cZ nw s) (hM : va_P D cl (ob_ws sh ad cI cZ g) H) {q ci N : Nat} {fs : List ob_F} {C : String} {T : u_T} (hq : sh[q]? = some (.inr (ci, fs))) (hc : cl[ci]? = some (C, T, N)) : ∃ cell : Cell, H[ad q]? = some cell ∧ cell.vm.isStatics = false ∧ s.vm.findClass C = some cell.cls :=
  va_recv (q := (C, T, N)) (q0 := q) hK.1 hM hc (ob_look hq)
theorem ob_preV (hK : ob_K D cl cI cZ nw s) (hM : va_P D cl (ob_ws sh ad cI cZ g) H) {q ci N : Nat} {fs : List ob_F} {C : String} {T : u_T} {As : List Value} (hq : sh[q]? = some (.inr (ci, fs))) (hc : cl[ci]? = some (C, T, N)) : PreV s H C (ad q) (va_Pc (.ref (ad q) :: As) (ob_B D cl sh ad cI cZ nw g)) As :=
  ⟨ob_blind, ob_recv hK hM hq hc, fun U hU hW => ⟨rfl, by show va_P D cl _ U.heap; rw [hU]; exact hM, hK.moved hW⟩⟩
theorem ob_preS (hK : ob_K D cl cI cZ nw s) (hM : va_P D cl (ob_ws sh ad cI cZ g) H) {As : List Value} : PreS s H (va_Pc As (ob_B D cl sh ad cI cZ nw g)) As :=
  ⟨ob_blind, fun U hU hW => ⟨rfl, by show va_P D cl _ U.heap; rw [hU]; exact hM, hK.moved hW⟩⟩
end OB
theorem ob_ofW {l : Launch} {y : MethodName} {ws ws' : List Cond} {d : Nat} {D : va_G} {cl : List vw_C} {sh : List ob_S} {ad : Nat → Nat} {cI cZ : ClassId} {nw : List ob_N} {av : List Value} {g : Mm} {Qc : Array Value → State → Outcome → State → Prop} {cc : ByteArray} {maxL : Nat} {ret : Option FieldType} (hy : plainName y.cls = true) (hw : ws = Cond.code y cc maxL ret :: ws')
    (body : ∀ (p : Program) (e : Env) (s : State) (m : MethodId) (args : Array Value) (below : List Frame) (meth : Method) (c : Code), args = av.toArray → p.tables.exec = Jvm.exec → c.code = cc → meth.sig.returnType = ret → c.maxLocals = maxL → (∀ w ∈ ws, w.before args s = true) → s.vm.findClass y.cls = some m.cls → meth.locks = false → va_P D cl (ob_ws sh ad cI cZ g) s.heap → ob_K D cl cI cZ nw s → va_S (ob_A sh ad) s.heap s.heap [] →
      W p l e (rmN d) s m args below meth c s.heap [] 0 0 (MQ below Qc args s 0 0 (ob_A sh ad)) (entryFrame m args maxL)) : Met l y ws (rmN d) (va_Pc av (ob_B D cl sh ad cI cZ nw g)) Qc 0 0 (ob_A sh ad) := by
  refine Met.ofW (cc := cc) (maxL := maxL) (ret := ret) hy hw ?_
  intro p e s m args below meth c s₁ B hml hv
  obtain ⟨ha, hM, hK⟩ := hv
  exact body p e s m args below meth c ha B.exec B.bytes B.returns hml (atoms_spec (ws := ws) B.pre) (findClass_of_methodNamed B.named) B.notSynchronized hM hK va_S.rf
