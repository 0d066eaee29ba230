/-- the cells of class (0 .. 36) and reference (37 ..): arrays (boolean?, length), objects (number of their class, fields: another cell, or a number of the memory) -/
def xlay : List ((Bool × Nat) ⊕ (Nat × List (Option Nat))) := [.inr (8, [some 1, some 4, some 9, some 25, some 32, some 34, some 35]), .inr (6, [some 2, some 3, none]), .inl (false, 400), .inl (false, 8), .inr (7, [some 5, some 6, some 7, some 8, none]), .inl (false, 408), .inl (false, 408), .inl (false, 8), .inl (false, 8), .inr (3, [some 10, some 11, some 12, some 4, some 13]), .inl (false, 408), .inl (false, 408), .inl (false, 408), .inr (4, [some 14, some 15, some 16, some 17, some 18, some 19, some 20, some 21, some 22, some 23, some 24]), .inl (false, 408), .inl (false, 816), .inl (true, 816), .inl (false, 816), .inl (false, 11), .inl (false, 11), .inl (false, 11), .inl (false, 408), .inl (false, 408), .inl (false, 1009), .inl (false, 1008), .inr (0, [some 26, some 27, some 28, some 4, some 9, some 29, some 30, some 31]), .inl (false, 408), .inl (false, 408), .inl (false, 408), .inl (false, 408), .inl (false, 408), .inl (false, 408), .inr (2, [some 33, some 4, some 9, none]), .inl (false, 40), .inr (5, [some 4, some 9]), .inr (1, [some 36, some 4, some 9]), .inl (false, 408), .inr (9, [some 38, some 39, none, some 40, some 41, some 42, none, some 43, some 44, some 45, some 46, some 47, none, some 48, some 49]), .inl (false, 3200), .inl (false, 8), .inl (false, 408), .inl (false, 408), .inl (false, 8), .inl (false, 166464), .inl (false, 408), .inl (false, 408), .inl (false, 408), .inl (false, 40), .inl (false, 8), .inl (true, 408)]
/-! THE WORLD AS A MEMORY: the cells of class and reference never change their number or their kind once they are made; what they hold is a memory (cell, slot) -> int. -/
abbrev xM : Type := Nat → Nat → Int32
abbrev xLE : Type := (Bool × Nat) ⊕ (Nat × List (Option Nat))
abbrev xT : Type := va_G × ClassId × ClassId × (Nat → Nat) × Nat
abbrev xa (w : xT) (k : Nat) : Nat := w.2.2.2.1 k
/-- a row of the memory is written anew -/
def xst (M : xM) (k : Nat) (f : Nat → Int32) : xM := fun a => if a = k then f else M a
/-- an element is written anew -/
abbrev xs1 (M : xM) (k j : Nat) (v : Int32) : xM := xst M k (upd (M k) j v)
abbrev xcp (M : xM) (k0 k1 : Nat) (sp dp n : Int32) : xM := xst M k1 (va_cpy (M k0) (M k1) sp.toNatClampNeg dp.toNatClampNeg n.toNatClampNeg)
abbrev xin (i : Int32) (n : Nat) : Prop := ¬ (i < 0 ∨ n ≤ i.toNatClampNeg)
/-- a copy of n from sp in a row of n0 to dp in a row of n1 is within -/
abbrev xcin (sp dp n : Int32) (n0 n1 : Nat) : Prop := ¬ sp < 0 ∧ ¬ dp < 0 ∧ ¬ n < 0 ∧ sp.toNatClampNeg + n.toNatClampNeg ≤ n0 ∧ dp.toNatClampNeg + n.toNatClampNeg ≤ n1
def xF (al : Nat → Nat) (f : Nat → Int32) : Nat → List (Option Nat) → List Value
  | _, [] => []
  | j, none :: r => .int (f j) :: xF al f (j + 1) r
  | j, some q :: r => .ref (al q) :: xF al f (j + 1) r
def xE (w : xT) (M : xM) (k : Nat) (e : xLE) : va_E := match e with
  | .inl (b, n) => .inl ((if b then w.2.2.1 else w.2.1), n, .inl (M k))
  | .inr (ci, fs) => .inr (ci, xF w.2.2.2.1 (M k) 0 fs)
def xL (w : xT) (M : xM) : Nat → List xLE → va_W
  | _, [] => []
  | k, e :: r => (xa w k, xE w M k e) :: xL w M (k + 1) r
theorem xF_get (al : Nat → Nat) (f : Nat → Int32) : ∀ (fs : List (Option Nat)) (j0 i : Nat), (xF al f j0 fs)[i]? = (fs[i]?).map (fun o => match o with | none => Value.int (f (j0 + i)) | some q => Value.ref (al q))
  | [], j0, i => by simp [xF]
  | none :: r, j0, 0 => by simp [xF]
  | some q :: r, j0, 0 => by simp [xF]
  | none :: r, j0, i + 1 => by
    have h := xF_get al f r (j0 + 1) i
    simp only [xF, List.getElem?_cons_succ, h, Nat.add_assoc, Nat.add_comm 1 i]
  | some q :: r, j0, i + 1 => by
    have h := xF_get al f r (j0 + 1) i
    simp only [xF, List.getElem?_cons_succ, h, Nat.add_assoc, Nat.add_comm 1 i]
theorem xL_get (w : xT) (M : xM) : ∀ (l : List xLE) (k0 i : Nat), (xL w M k0 l)[i]? = (l[i]?).map (fun e => (xa w (k0 + i), xE w M (k0 + i) e))
  | [], k0, i => by simp [xL]
  | e :: r, k0, 0 => by simp [xL]
  | e :: r, k0, i + 1 => by
    have h := xL_get w M r (k0 + 1) i
    simp only [xL, List.getElem?_cons_succ, h, Nat.add_assoc, Nat.add_comm 1 i]
def xws (w : xT) (M : xM) : va_W := xL w M 0 xlay
theorem xws_get (w : xT) (M : xM) (k : Nat) : (xws w M)[k]? = (xlay[k]?).map (fun e => (xa w k, xE w M k e)) := by
  unfold xws
  rw [xL_get, Nat.zero_add]
theorem xws_A {w : xT} {M : xM} {k n : Nat} {b : Bool} (h : xlay[k]? = some (.inl (b, n))) : (xws w M)[k]? = some (xa w k, .inl ((if b then w.2.2.1 else w.2.1), n, .inl (M k))) := by
  rw [xws_get, h]; rfl
theorem xws_O {w : xT} {M : xM} {k ci : Nat} {fs : List (Option Nat)} (h : xlay[k]? = some (.inr (ci, fs))) : (xws w M)[k]? = some (xa w k, .inr (ci, xF w.2.2.2.1 (M k) 0 fs)) := by
  rw [xws_get, h]; rfl
theorem xst_self (M : xM) (k : Nat) (f : Nat → Int32) : xst M k f k = f := by simp [xst]
theorem xst_ne (M : xM) {k a : Nat} (f : Nat → Int32) (h : a ≠ k) : xst M k f a = M a := by simp [xst, h]
theorem xE_ne (w : xT) (M : xM) {k i : Nat} (f : Nat → Int32) (h : i ≠ k) (e : xLE) : xE w (xst M k f) i e = xE w M i e := by
  rcases e with ⟨b, n⟩ | ⟨ci, fs⟩
  · simp only [xE, xst_ne M f h]
  · simp only [xE, xst_ne M f h]
theorem xws_lt {w : xT} {M : xM} {k : Nat} {e : xLE} (h : xlay[k]? = some e) : k < (xws w M).length := by
  have h1 : (xws w M)[k]? = some (xa w k, xE w M k e) := by rw [xws_get, h]; rfl
  exact (List.getElem?_eq_some_iff.mp h1).1
theorem xws_setA {w : xT} {M : xM} {k n : Nat} {b : Bool} (h : xlay[k]? = some (.inl (b, n))) (f : Nat → Int32) : (xws w M).set k (xa w k, .inl ((if b then w.2.2.1 else w.2.1), n, .inl f)) = xws w (xst M k f) := by
  apply List.ext_getElem?
  intro i
  rw [List.getElem?_set]
  by_cases hk : k = i
  · subst hk
    rw [if_pos rfl, if_pos (xws_lt h), xws_A h, xst_self]
  · rw [if_neg hk, xws_get, xws_get]
    cases xlay[i]? with
    | none => rfl
    | some e => simp only [Option.map_some, xE_ne w M f (fun q => hk q.symm)]
theorem xF_set (al : Nat → Nat) (f : Nat → Int32) {fs : List (Option Nat)} {j : Nat} (hj : fs[j]? = some none) (v : Int32) : (xF al f 0 fs).set j (.int v) = xF al (upd f j v) 0 fs := by
  apply List.ext_getElem?
  intro i
  rw [List.getElem?_set]
  by_cases hk : j = i
  · subst hk
    have h1 : (xF al f 0 fs)[j]? = some (.int (f (0 + j))) := by rw [xF_get, hj]; rfl
    rw [if_pos rfl, if_pos (List.getElem?_eq_some_iff.mp h1).1, xF_get, hj]
    simp [upd]
  · rw [if_neg hk, xF_get, xF_get]
    cases fs[i]? with
    | none => rfl
    | some o =>
      cases o with
      | none =>
        have hk2 : ¬ i = j := fun q => hk q.symm
        simp [upd, hk2]
      | some q => rfl
theorem xws_setF {w : xT} {M : xM} {k ci j : Nat} {fs : List (Option Nat)} (h : xlay[k]? = some (.inr (ci, fs))) (hj : fs[j]? = some none) (v : Int32) : (xws w M).set k (xa w k, .inr (ci, (xF w.2.2.2.1 (M k) 0 fs).set j (.int v))) = xws w (xs1 M k j v) := by
  rw [xF_set _ _ hj]
  apply List.ext_getElem?
  intro i
  rw [List.getElem?_set]
  by_cases hk : k = i
  · subst hk
    rw [if_pos rfl, if_pos (xws_lt h), xws_O h]
    unfold xs1
    rw [xst_self]
  · rw [if_neg hk, xws_get, xws_get]
    cases xlay[i]? with
    | none => rfl
    | some e => simp only [Option.map_some, xE_ne w M _ (fun q => hk q.symm)]
/-! the tables' words: those that stay -/
def xG : List Cond := lw_tbl.filter goodWord
theorem xmG {q : Cond} (i : Nat) (h : tables_1[i]? = some q) (hg : goodWord q = true) : q ∈ xG := List.mem_filter.mpr ⟨List.mem_append_right _ (List.mem_of_getElem? h), hg⟩
theorem xmS {q : Cond} (i : Nat) (h : (k2_sels lw_privs)[i]? = some q) (hg : goodWord q = true) : q ∈ xG := List.mem_filter.mpr ⟨List.mem_append_left _ (List.mem_of_getElem? h), hg⟩
theorem xG_good {q : Cond} (h : q ∈ xG) : GoodIn xG (q :: xG) := by
  intro v hv
  have hv : v ∈ xG := by
    rcases List.mem_cons.mp hv with rfl | hv
    · exact h
    · exact hv
  exact ⟨hv, good_of_word (List.mem_filter.mp hv).2⟩
theorem xG_of {args : Array Value} {s : State} (h : ∀ v ∈ lw_tbl, v.before args s = true) : ∀ v ∈ xG, v.before args s = true := fun v hv => h v (List.mem_filter.mp hv).1
abbrev xA (w : xT) : Nat → Prop := fun q => w.2.2.2.2 ≤ q
def xK (w : xT) (U : State) : Prop := va_K w.1 vwCl [(w.2.1, FieldType.int), (w.2.2.1, FieldType.boolean)] U
def xD (w : xT) : Prop := ∀ M : xM, va_D (xA w) (xws w M)
def xP (w : xT) (M : xM) (H : Heap) : Prop := va_P w.1 vwCl (xws w M) H
abbrev xS (w : xT) (s : State) (H : Heap) (locs : List Loc) : Prop := va_S (xA w) s.heap H locs
theorem xD.of {w : xT} {M : xM} (h : va_D (xA w) (xws w M)) : xD w := by
  intro M2
  have key : ∀ (i : Nat) (p : Nat × va_E), (xws w M2)[i]? = some p → ∃ e, (xws w M)[i]? = some (p.1, e) := by
    intro i p hp
    rw [xws_get] at hp
    rw [xws_get]
    cases hx : xlay[i]? with
    | none => rw [hx] at hp; cases hp
    | some e =>
      rw [hx] at hp
      cases hp
      exact ⟨_, rfl⟩
  refine ⟨fun i j p q hi hj hpq => ?_, fun k q hk => ?_⟩
  · obtain ⟨e1, h1⟩ := key i p hi
    obtain ⟨e2, h2⟩ := key j q hj
    exact h.1 i j _ _ h1 h2 hpq
  · obtain ⟨e1, h1⟩ := key k q hk
    exact h.2 k (q.1, e1) h1
/-- what holds in a method's body -/
def xX (p : Program) (s : State) (m : MethodId) (args : Array Value) (meth : Method) (c : Code) (cc : ByteArray) (nL : Nat) (ret : Option FieldType) (own : String) (w : xT) : Prop :=
  p.tables.exec = Jvm.exec ∧ c.code = cc ∧ c.maxLocals = nL ∧ meth.sig.returnType = ret ∧ meth.locks = false ∧ s.vm.findClass own = some m.cls ∧ (∀ v ∈ xG, v.before args s = true) ∧ xK w s ∧ xD w
def xQc (w : xT) (res : Option Value) (M2 : xM) : Array Value → State → Outcome → State → Prop := fun _ st oc t => oc = .returned res ∧ xP w M2 t.heap ∧ va_F (xA w) st t
def xQ (w : xT) (res : Option Value) (M2 : xM) (below : List Frame) (args : Array Value) (s : State) : State → Prop := MQ below (xQc w res M2) args s 0 0 (xA w)
/-- a method's contract: at the memory M it answers res, the memory is then M2 -/
def xC (l : Launch) (y : MethodName) (cy : Cond) (rm : Room) (w : xT) (As : List Value) (M : xM) (res : Option Value) (M2 : xM) : Prop :=
  Met l y (cy :: xG) rm (va_Pc As (fun U => xP w M U.heap ∧ xK w U ∧ xD w)) (xQc w res M2) 0 0 (xA w)
theorem xC.of {l : Launch} {y : MethodName} {cc : ByteArray} {nL : Nat} {ret : Option FieldType} {rm : Room} {w : xT} {As : List Value} {M M2 : xM} {res : Option Value} (hy : plainName y.cls = true) (hn : (lg_sl As).length ≤ nL)
    (body : ∀ (p : Program) (e : Env) (s : State) (m : MethodId) (args : Array Value) (below : List Frame) (meth : Method) (c : Code) (ls : Array Slot), xX p s m args meth c cc nL ret y.cls w → xP w M s.heap → xS w s s.heap [] → lv_has ls nL (lv_args 0 As) →
      W p l e rm s m args below meth c s.heap [] 0 0 (xQ w res M2 below args s) (F0 m 0 ls [])) : xC l y (Cond.code y cc nL ret) rm w As M res M2 := by
  refine Met.ofW (cc := cc) (maxL := nL) (ret := ret) hy rfl ?_
  intro p e s m args below meth c s₁ B hml hv
  obtain ⟨rfl, hP, hK, hD⟩ := hv
  have hts := atoms_spec (ws := Cond.code y cc nL ret :: xG) B.pre
  have hl := lv_entry As (n := nL) hn
  rw [lg_entry_eq]
  exact body p e s m _ below meth c _ ⟨B.exec, B.bytes, hml, B.returns, B.notSynchronized, findClass_of_methodNamed B.named, fun v hv => hts v (List.mem_cons_of_mem _ hv), hK, hD⟩ hP va_S.rf hl
section XW
variable {p : Program} {l : Launch} {e : Env} {R : Room} {s : State} {m : MethodId} {args : Array Value} {below : List Frame} {meth : Method} {c : Code} {H : Heap} {locs : List Loc} {cells slots : Nat} {Q : State → Prop}
variable {cc : ByteArray} {pc nL : Nat} {ls : Array Slot} {rest : List Value} {w : xT} {M : xM} {ret : Option FieldType} {own : String}
theorem xiald (X : xX p s m args meth c cc nL ret own w) (hP : xP w M H) (k : Nat) {n : Nat} (hk : xlay[k]? = some (.inl (false, n))) {i : Int32} (hin : xin i n) (hdg : decode cc pc = .ok (.iaload, 1))
    (kk : W p l e R s m args below meth c H locs cells slots Q (F0 m (pc + 1) ls (.int (M k i.toNatClampNeg) :: rest))) : W p l e R s m args below meth c H locs cells slots Q (F0 m pc ls (.int i :: .ref (xa w k) :: rest)) :=
  va_iald X.1 X.2.1 X.2.2.2.2.2.2.2.1 hP k 0 (f := M k) (xws_A hk) rfl hin hdg kk
theorem xzald (X : xX p s m args meth c cc nL ret own w) (hP : xP w M H) (k : Nat) {n : Nat} (hk : xlay[k]? = some (.inl (true, n))) {i : Int32} (hin : xin i n) (hdg : decode cc pc = .ok (.baload, 1))
    (kk : W p l e R s m args below meth c H locs cells slots Q (F0 m (pc + 1) ls (.int (M k i.toNatClampNeg) :: rest))) : W p l e R s m args below meth c H locs cells slots Q (F0 m pc ls (.int i :: .ref (xa w k) :: rest)) :=
  va_zald X.1 X.2.1 X.2.2.2.2.2.2.2.1 hP k 1 (f := M k) (xws_A hk) rfl hin hdg kk
theorem xiast (X : xX p s m args meth c cc nL ret own w) (hP : xP w M H) (hS : xS w s H locs) (k : Nat) {n : Nat} (hk : xlay[k]? = some (.inl (false, n))) {i x : Int32} (hin : xin i n) (hdg : decode cc pc = .ok (.iastore, 1))
    (kk : ∀ (M2 : xM) (H1 : Heap) (locs1 : List Loc), M2 = xs1 M k i.toNatClampNeg x → xP w M2 H1 → xS w s H1 locs1 → W p l e R s m args below meth c H1 locs1 cells slots Q (F0 m (pc + 1) ls rest)) : W p l e R s m args below meth c H locs cells slots Q (F0 m pc ls (.int x :: .int i :: .ref (xa w k) :: rest)) :=
  va_iast X.1 X.2.1 X.2.2.2.2.2.2.2.1 hP (X.2.2.2.2.2.2.2.2 M) hS k 0 (f := M k) (xws_A hk) rfl hin hdg (fun H1 locs1 h1 _ h3 => kk _ H1 locs1 rfl (by unfold xP; rw [← xws_setA hk]; exact h1) h3)
theorem xzast (X : xX p s m args meth c cc nL ret own w) (hP : xP w M H) (hS : xS w s H locs) (k : Nat) {n : Nat} (hk : xlay[k]? = some (.inl (true, n))) {i x : Int32} (hin : xin i n) (hdg : decode cc pc = .ok (.bastore, 1))
    (kk : ∀ (M2 : xM) (H1 : Heap) (locs1 : List Loc), M2 = xs1 M k i.toNatClampNeg (vp_nar .boolean x) → xP w M2 H1 → xS w s H1 locs1 → W p l e R s m args below meth c H1 locs1 cells slots Q (F0 m (pc + 1) ls rest)) : W p l e R s m args below meth c H locs cells slots Q (F0 m pc ls (.int x :: .int i :: .ref (xa w k) :: rest)) :=
  va_zast X.1 X.2.1 X.2.2.2.2.2.2.2.1 hP (X.2.2.2.2.2.2.2.2 M) hS k 1 (f := M k) (xws_A hk) rfl hin hdg (fun H1 locs1 h1 _ h3 => kk _ H1 locs1 rfl (by unfold xP; rw [← xws_setA hk]; exact h1) h3)
theorem xalen (X : xX p s m args meth c cc nL ret own w) (hP : xP w M H) (k : Nat) {n : Nat} (hk : xlay[k]? = some (.inl (false, n))) {v : Int32} (hv : Int32.ofNat n = v) (hdg : decode cc pc = .ok (.arraylength, 1))
    (kk : W p l e R s m args below meth c H locs cells slots Q (F0 m (pc + 1) ls (.int v :: rest))) : W p l e R s m args below meth c H locs cells slots Q (F0 m pc ls (.ref (xa w k) :: rest)) :=
  va_alen X.1 X.2.1 X.2.2.2.2.2.2.2.1 hP k 0 (x := (n, .inl (M k))) (xws_A hk) (ty := .int) rfl hv hdg kk
/-- the facts of a class -/
def xCl (C : String) (T : u_T) (N ci : Nat) (ty : Nat → FieldType) : Prop := (∀ v ∈ u_ws C T N, v ∈ xG) ∧ vwCl[ci]? = some (C, T, N) ∧ (∀ k, k < N → parseFieldDescriptor (T k).2.2.1 = some (ty k)) ∧ (∀ a, a < N → ∀ b, b < N → a ≠ b → (T a).2.1 ≠ (T b).2.1)
theorem xget {C : String} {T : u_T} {N ci index : Nat} {ty : Nat → FieldType} (K : xCl C T N ci ty) (X : xX p s m args meth c cc nL ret own w) (hP : xP w M H) (q0 k : Nat) {fs : List (Option Nat)} (he : xlay[q0]? = some (.inr (ci, fs))) (hk : k < N) (hlink : Cond.fieldLink own index (T k).1 (T k).2.1 (T k).2.2.1 ∈ xG) {r : Nat} (hv : fs[k]? = some (some r)) (hdg : decode cc pc = .ok (.getfield index, 3))
    (kk : W p l e R s m args below meth c H locs cells slots Q (F0 m (pc + 3) ls (.ref (xa w r) :: rest))) : W p l e R s m args below meth c H locs cells slots Q (F0 m pc ls (.ref (xa w q0) :: rest)) :=
  va_get X.1 X.2.1 X.2.2.2.2.2.2.1 K.1 X.2.2.2.2.2.1 X.2.2.2.2.2.2.2.1 hP q0 (xws_O he) K.2.1 k hk (X.2.2.2.2.2.2.1 _ hlink) (fun _ h => h) (by rw [xF_get, hv]; rfl) hdg kk
theorem xgeti {C : String} {T : u_T} {N ci index : Nat} {ty : Nat → FieldType} (K : xCl C T N ci ty) (X : xX p s m args meth c cc nL ret own w) (hP : xP w M H) (q0 k : Nat) {fs : List (Option Nat)} (he : xlay[q0]? = some (.inr (ci, fs))) (hk : k < N) (hlink : Cond.fieldLink own index (T k).1 (T k).2.1 (T k).2.2.1 ∈ xG) (hv : fs[k]? = some none) (hdg : decode cc pc = .ok (.getfield index, 3))
    (kk : W p l e R s m args below meth c H locs cells slots Q (F0 m (pc + 3) ls (.int (M q0 k) :: rest))) : W p l e R s m args below meth c H locs cells slots Q (F0 m pc ls (.ref (xa w q0) :: rest)) :=
  va_get X.1 X.2.1 X.2.2.2.2.2.2.1 K.1 X.2.2.2.2.2.1 X.2.2.2.2.2.2.2.1 hP q0 (xws_O he) K.2.1 k hk (X.2.2.2.2.2.2.1 _ hlink) (fun _ h => h) (by rw [xF_get, hv, Nat.zero_add]; rfl) hdg kk
theorem xputi {C : String} {T : u_T} {N ci index : Nat} {ty : Nat → FieldType} (K : xCl C T N ci ty) (X : xX p s m args meth c cc nL ret own w) (hP : xP w M H) (hS : xS w s H locs) (q0 k : Nat) {fs : List (Option Nat)} (he : xlay[q0]? = some (.inr (ci, fs))) (hk : k < N) (hlink : Cond.fieldLink own index (T k).1 (T k).2.1 (T k).2.2.1 ∈ xG) (hfin : (T k).2.2.2 = false) (hd : parseFieldDescriptor (T k).2.2.1 = some .int) (hv : fs[k]? = some none) {x : Int32} (hdg : decode cc pc = .ok (.putfield index, 3))
    (kk : ∀ (M2 : xM) (H1 : Heap) (locs1 : List Loc), M2 = xs1 M q0 k x → xP w M2 H1 → xS w s H1 locs1 → W p l e R s m args below meth c H1 locs1 cells slots Q (F0 m (pc + 3) ls rest)) : W p l e R s m args below meth c H locs cells slots Q (F0 m pc ls (.int x :: .ref (xa w q0) :: rest)) :=
  va_put X.1 X.2.1 X.2.2.2.2.2.2.1 K.1 ty K.2.2.1 K.2.2.2 X.2.2.2.2.2.1 X.2.2.2.2.2.2.2.1 hP (X.2.2.2.2.2.2.2.2 M) hS q0 (xws_O he) K.2.1 k hk (X.2.2.2.2.2.2.1 _ hlink) (fun _ h => h) hfin hd rfl rfl (by
    have h1 : (xF w.2.2.2.1 (M q0) 0 fs)[k]? = some (.int (M q0 (0 + k))) := by rw [xF_get, hv]; rfl
    exact (List.getElem?_eq_some_iff.mp h1).1) hdg (fun H1 locs1 h1 _ h3 => kk _ H1 locs1 rfl (by unfold xP; rw [← xws_setF he hv]; exact h1) h3)
/-- the words of a call -/
def xCW (own : String) (index : Nat) (y : MethodName) (cc : ByteArray) (nL : Nat) (ret : Option FieldType) (n : Nat) : Prop := Cond.code y cc nL ret ∈ xG ∧ Cond.initialized y.cls ∈ xG ∧ Cond.methodLink own index y ∈ xG ∧ y.cls ≠ "java/lang/invoke/MethodHandle" ∧ y.cls ≠ "java/lang/invoke/VarHandle" ∧ (parseMethodDescriptor y.desc).map (fun d => d.parameters.length) = some n
theorem xCW.B {index n : Nat} {y : MethodName} {cy : ByteArray} {nY : Nat} {rY : Option FieldType} {rm : Room} (K : xCW own index y cy nY rY n) (X : xX p s m args meth c cc nL ret own w) (hR : rm.frames + 1 ≤ R.frames ∧ 8 + (nY + 11) + rm.locals ≤ R.locals) (hc : rm.cells = 0) (hs : rm.slots = 0) : CallB R s args own index y cy nY rY (Cond.code y cy nY rY :: xG) rm 0 0 n :=
  callB_of n X.2.2.2.2.2.2.1 (xG_good K.1) rfl hc hs (X.2.2.2.2.2.2.1 _ K.2.1) (X.2.2.2.2.2.2.1 _ K.2.2.1) K.2.2.2 hR
theorem xgo {res : Option Value} {M2 : xM} {st0 : List Value} {a : Array Value} (hr : va_Run p l e R s m args below meth c H locs cells slots 0 0 (F0 m pc ls st0) rest (xQc w res M2 a) (xA w)) (hS : xS w s H locs)
    (kk : ∀ (H1 : Heap) (locs1 : List Loc), xP w M2 H1 → xS w s H1 locs1 → W p l e R s m args below meth c H1 locs1 cells slots Q (F0 m (pc + 3) ls (res.toList ++ rest))) : W p l e R s m args below meth c H locs cells slots Q (F0 m pc ls st0) := by
  intro T hT X
  obtain ⟨v, st₀, t, T', L, h0, X', hL, e1, e2, ⟨hv, hP2, hz, hk⟩, st⟩ := hr T hT X
  cases hv
  rw [h0] at hz hk
  obtain ⟨t2, a1, b1⟩ := kk T'.heap (locs ++ L) (by rw [e1]; exact hP2)
    ⟨Nat.le_trans hS.1 (by rw [e1]; exact hz), fun q h1 h2 => by rw [e1, hk q (Nat.lt_of_lt_of_le h1 hS.1) h2]; exact hS.2.1 q h1 h2, fun q hq => by
      rcases List.mem_append.mp hq with h | h
      · exact hS.2.2 q h
      · exact hL q h⟩ T' rfl X'
  exact ⟨t2, st t2 a1, b1⟩
theorem xblind {As : List Value} : FrameBlind (va_Pc As (fun U => xP w M U.heap ∧ xK w U ∧ xD w)) := fun a U g mk q => by
  obtain ⟨q0, qP, qK, qD⟩ := q
  exact ⟨q0, qP, va_K.moved (u := U) (U := U.calling g mk a) (Vm.Alike.refl U.vm) qK, qD⟩
theorem xcallV {index n : Nat} {y : MethodName} {cy : ByteArray} {nY ci q0 N : Nat} {T : u_T} {rY : Option FieldType} {rm : Room} {As : List Value} {res : Option Value} {M2 : xM} {fs : List (Option Nat)} (K : xCW own index y cy nY rY n) (KI : Cond.instanceMethod y ∈ xG ∧ Cond.selects y.cls y y ∈ xG) (X : xX p s m args meth c cc nL ret own w) (hP : xP w M H) (hS : xS w s H locs) (hC : xC l y (Cond.code y cy nY rY) rm w (.ref (xa w q0) :: As) M res M2)
    (he : xlay[q0]? = some (.inr (ci, fs))) (hcl : vwCl[ci]? = some (y.cls, T, N)) (hR : rm.frames + 1 ≤ R.frames ∧ 8 + (nY + 11) + rm.locals ≤ R.locals) (hc : rm.cells = 0 ∧ rm.slots = 0) (hls : ls.size = nL) {st0 : List Value} (hn : As.length = n) (hst : st0 = As.reverse ++ .ref (xa w q0) :: rest) (hW : (rest.map fun v => v.category).sum ≤ 8) (hdg : decode cc pc = .ok (.invokevirtual index, 3)) (hf : cells ≤ R.cells ∧ slots ≤ R.slots)
    (kk : ∀ (H1 : Heap) (locs1 : List Loc), xP w M2 H1 → xS w s H1 locs1 → W p l e R s m args below meth c H1 locs1 cells slots Q (F0 m (pc + 3) ls (res.toList ++ rest))) : W p l e R s m args below meth c H locs cells slots Q (F0 m pc ls st0) :=
  xgo (a := (Value.ref (xa w q0) :: As).toArray) (va_runV (g := F0 m pc ls st0) (Ts := xG) (nL := nL) (own := own) (b := xa w q0) (As := As) ⟨X.1, X.2.1, X.2.2.1, X.2.2.2.2.2.1, X.2.2.2.2.2.2.1⟩ hC ⟨K.B X hR hc.1 hc.2, X.2.2.2.2.2.2.1 _ KI.1, X.2.2.2.2.2.2.1 _ KI.2⟩
    ⟨xblind, va_recv X.2.2.2.2.2.2.2.1 hP hcl (xws_O he), fun U hU hW => ⟨rfl, by rw [hU]; exact hP, va_K.moved hW.alike X.2.2.2.2.2.2.2.1, X.2.2.2.2.2.2.2.2⟩⟩ rfl hn hls hst (lv_room hW) hdg hf) hS kk
theorem xcallS {index n : Nat} {y : MethodName} {cy : ByteArray} {nY : Nat} {rY : Option FieldType} {rm : Room} {As : List Value} {res : Option Value} {M2 : xM} (K : xCW own index y cy nY rY n) (KI : Cond.static y ∈ xG) (X : xX p s m args meth c cc nL ret own w) (hP : xP w M H) (hS : xS w s H locs) (hC : xC l y (Cond.code y cy nY rY) rm w As M res M2)
    (hR : rm.frames + 1 ≤ R.frames ∧ 8 + (nY + 11) + rm.locals ≤ R.locals) (hc : rm.cells = 0 ∧ rm.slots = 0) (hls : ls.size = nL) {st0 : List Value} (hn : As.length = n) (hst : st0 = As.reverse ++ rest) (hW : (rest.map fun v => v.category).sum ≤ 8) (hdg : decode cc pc = .ok (.invokestatic index, 3)) (hf : cells ≤ R.cells ∧ slots ≤ R.slots)
    (kk : ∀ (H1 : Heap) (locs1 : List Loc), xP w M2 H1 → xS w s H1 locs1 → W p l e R s m args below meth c H1 locs1 cells slots Q (F0 m (pc + 3) ls (res.toList ++ rest))) : W p l e R s m args below meth c H locs cells slots Q (F0 m pc ls st0) :=
  xgo (a := As.toArray) (va_runS (g := F0 m pc ls st0) (Ts := xG) (nL := nL) (own := own) (As := As) ⟨X.1, X.2.1, X.2.2.1, X.2.2.2.2.2.1, X.2.2.2.2.2.2.1⟩ hC ⟨K.B X hR hc.1 hc.2, X.2.2.2.2.2.2.1 _ KI⟩
    ⟨xblind, fun U hU hW => ⟨rfl, by rw [hU]; exact hP, va_K.moved hW.alike X.2.2.2.2.2.2.2.1, X.2.2.2.2.2.2.2.2⟩⟩ rfl hn hls hst (lv_room hW) hdg hf) hS kk
theorem xcopy {index : Nat} (hlk : Cond.methodLink own index arraycopyName ∈ xG) (hnat : Cond.native arraycopyName ∈ xG) (hstat : Cond.static arraycopyName ∈ xG) (hini : Cond.initialized "java/lang/System" ∈ xG) (X : xX p s m args meth c cc nL ret own w) (hP : xP w M H) (hS : xS w s H locs) (k0 k1 : Nat) {n0 n1 : Nat} (h0 : xlay[k0]? = some (.inl (false, n0))) (h1 : xlay[k1]? = some (.inl (false, n1))) {sp dp n : Int32} (hin : xcin sp dp n n0 n1) (hls : ls.size = nL)
    (hframes : 1 ≤ R.frames) (hlocals : (rest.map fun v => v.category).sum + (nativeFrameWords "java/lang/System" "arraycopy" 5 + 11) ≤ R.locals) (hdg : decode cc pc = .ok (.invokestatic index, 3))
    (kk : ∀ (M2 : xM) (H1 : Heap) (locs1 : List Loc), M2 = xcp M k0 k1 sp dp n → xP w M2 H1 → xS w s H1 locs1 → W p l e R s m args below meth c H1 locs1 cells slots Q (F0 m (pc + 3) ls rest)) : W p l e R s m args below meth c H locs cells slots Q (F0 m pc ls (.int n :: .int dp :: .ref (xa w k1) :: .int sp :: .ref (xa w k0) :: rest)) :=
  va_copyi X.1 X.2.1 (X.2.2.1.trans hls.symm) X.2.2.2.2.2.1 (X.2.2.2.2.2.2.1 _ hlk) (X.2.2.2.2.2.2.1 _ hnat) (X.2.2.2.2.2.2.1 _ hstat) (X.2.2.2.2.2.2.1 _ hini) X.2.2.2.2.2.2.2.1 hP (X.2.2.2.2.2.2.2.2 M) hS k0 k1 0 0 (f := M k0) (g := M k1) (xws_A h0) (xws_A h1) rfl rfl rfl hin.1 hin.2.1 hin.2.2.1 hin.2.2.2.1 hin.2.2.2.2 (fun _ _ => rfl) hframes hlocals hdg
    (fun H1 locs1 g1 _ g3 => kk _ H1 locs1 rfl (by unfold xP; rw [← xws_setA h1]; exact g1) g3)
theorem xiret {M2 : xM} (X : xX p s m args meth c cc nL (some .int) own w) (hP : xP w M2 H) (hS : xS w s H locs) {v : Int32} (hdg : decode cc pc = .ok (.ireturn, 1)) : W p l e R s m args below meth c H locs 0 0 (xQ w (some (.int v)) M2 below args s) (F0 m pc ls [.int v]) :=
  W.iret X.1 X.2.1 X.2.2.2.1 (fun t ht _ => ⟨rfl, by rw [ht]; exact hP, hS.F ht⟩) hS.2.2 hdg X.2.2.2.2.1
theorem xzret {M2 : xM} (X : xX p s m args meth c cc nL (some .boolean) own w) (hP : xP w M2 H) (hS : xS w s H locs) {v : Int32} (hn : narrow .boolean (.int v) = .int v) (hdg : decode cc pc = .ok (.ireturn, 1)) : W p l e R s m args below meth c H locs 0 0 (xQ w (some (.int v)) M2 below args s) (F0 m pc ls [.int v]) :=
  W.zret X.1 X.2.1 X.2.2.2.1 hn (fun t ht _ => ⟨rfl, by rw [ht]; exact hP, hS.F ht⟩) hS.2.2 hdg X.2.2.2.2.1
theorem xlret {M2 : xM} (X : xX p s m args meth c cc nL (some .long) own w) (hP : xP w M2 H) (hS : xS w s H locs) {v : Int64} (hdg : decode cc pc = .ok (.lreturn, 1)) : W p l e R s m args below meth c H locs 0 0 (xQ w (some (.long v)) M2 below args s) (F0 m pc ls [.long v]) :=
  W.lret X.1 X.2.1 X.2.2.2.1 (fun t ht _ => ⟨rfl, by rw [ht]; exact hP, hS.F ht⟩) hS.2.2 hdg X.2.2.2.2.1
theorem xvret {M2 : xM} (X : xX p s m args meth c cc nL none own w) (hP : xP w M2 H) (hS : xS w s H locs) (hdg : decode cc pc = .ok (.return_, 1)) : W p l e R s m args below meth c H locs 0 0 (xQ w none M2 below args s) (F0 m pc ls []) :=
  W.vret X.1 X.2.1 X.2.2.2.1 (fun t ht _ => ⟨rfl, by rw [ht]; exact hP, hS.F ht⟩) hS.2.2 hdg X.2.2.2.2.1
end XW
/-- a value that is named -/
def xlt {α β : Type} (v : α) (k : α → Option β) : Option β := k v
theorem xltE {α β : Type} {v y : α} {k : α → Option β} {r : β} (h : xlt v k = some r) (hy : y = v) : k y = some r := by rw [hy]; exact h
theorem xift {c : Prop} {α : Type} {a b : Option α} {r : α} {d : Decidable c} (hc : c) (h : @ite _ c d a b = some r) : a = some r := by rw [if_pos hc] at h; exact h
theorem xiff {c : Prop} {α : Type} {a b : Option α} {r : α} {d : Decidable c} (hc : ¬ c) (h : @ite _ c d a b = some r) : b = some r := by rw [if_neg hc] at h; exact h
theorem xifn {c : Prop} {α : Type} {a : Option α} {r : α} {d : Decidable c} (h : @ite _ c d a none = some r) : c ∧ a = some r := by
  by_cases hc : c
  · rw [if_pos hc] at h; exact ⟨hc, h⟩
  · rw [if_neg hc] at h; cases h
theorem xbnd {α β : Type} {o : Option α} {k : α → Option β} {r : β} (h : o.bind k = some r) : ∃ v, o = some v ∧ k v = some r := by
  cases o with
  | none => cases h
  | some v => exact ⟨v, rfl, h⟩
theorem xnon {α : Type} {r : α} {P : Prop} (h : (none : Option α) = some r) : P := by cases h
