def jfrT : List (List Bool) := [[true, true, true, true, true, true], [false, false, true, true, true, true, true, true, true], [true, true, true, true, true], [true, false, true], [false, true, true, true], [false, false, false, true, true, true, true, true, true, true], [false, false, false, false, false, true, true, true], [false, false, false, true, true, true, true, true, true, true], [false, false, false, false, true, true, true, true, true, true], [false, true, true, true], [false, true, true, true], [true, true, true, true, true, true, true, true, true, true], [true, false, true, true, true, true, true, false, true, true, false, true, false, true, true, true, true, true, false, false, false, true, false, false, true, false, false, true, true, true, true, true, true, true]]
def jfr (k j : Nat) : Bool := (jfrT.getD k []).getD j false
def jnM : List (String × Nat × MethodName × String) := [("LongestRuns", 9, ⟨"LongestRuns$Board", "<init>", "()V"⟩, "LongestRuns"), ("LongestRuns", 24, ⟨"LongestRuns$Pad", "<init>", "()V"⟩, "LongestRuns"), ("LongestRuns", 31, ⟨"LongestRuns$Shelves", "<init>", "()V"⟩, "LongestRuns"), ("LongestRuns$Spread", 11, ⟨"LongestRuns$Reached", "<init>", "()V"⟩, "LongestRuns"), ("LongestRuns$Pad", 22, ⟨"LongestRuns", "partsOf", "(I)I"⟩, "LongestRuns"), ("LongestRuns$Text", 31, ⟨"LongestRuns", "isLineSign", "(I)Z"⟩, "LongestRuns"), ("LongestRuns$Text", 39, ⟨"LongestRuns", "partsOf", "(I)I"⟩, "LongestRuns"), ("LongestRuns$Shelves", 48, ⟨"LongestRuns", "setOf", "(II)I"⟩, "LongestRuns"), ("LongestRuns$Shelves", 62, ⟨"LongestRuns", "isIn", "(II)Z"⟩, "LongestRuns"), ("LongestRuns$Runner", 77, ⟨"LongestRuns", "partsOf", "(I)I"⟩, "LongestRuns"), ("LongestRuns$Board", 41, ⟨"LongestRuns", "isIn", "(II)Z"⟩, "LongestRuns"), ("LongestRuns$Board", 44, ⟨"LongestRuns", "setOf", "(II)I"⟩, "LongestRuns"), ("LongestRuns$Board", 48, ⟨"LongestRuns", "linesOfSet", "(II)I"⟩, "LongestRuns"), ("LongestRuns$Ages", 92, ⟨"LongestRuns", "isIn", "(II)Z"⟩, "LongestRuns"), ("LongestRuns$Spread", 103, ⟨"LongestRuns", "mayBeHeld", "(III)Z"⟩, "LongestRuns"), ("LongestRuns$Tasks", 39, ⟨"LongestRuns", "linesOfSet", "(II)I"⟩, "LongestRuns")]
def jnF : List (String × Nat × String × String × String × String) := [("LongestRuns$Board", 71, "LongestRuns$Text", "signs", "[I", "LongestRuns")]
/-- the tables' words that every method carries -/
def jB : List Cond := lw_tbl.filter goodWord
theorem jB_good {w : Cond} (h : w ∈ jB) : (w.onTables && w.keeps) = true ∨ ∃ ty, w = .arrayClass ty := good_of_word (List.mem_filter.mp h).2
theorem jB_in {y y' : MethodName} {a b : ByteArray} {n k : Nat} {r q : Option FieldType} (h : Cond.code y' b k q ∈ jB) : GoodIn (Cond.code y a n r :: jB) (Cond.code y' b k q :: jB) := by
  intro w hw
  rcases List.mem_cons.mp hw with e | hw
  · subst e
    exact ⟨List.mem_cons_of_mem _ h, jB_good h⟩
  · exact ⟨List.mem_cons_of_mem _ hw, jB_good hw⟩
theorem jB_in2 {y' : MethodName} {b : ByteArray} {k : Nat} {q : Option FieldType} (h : Cond.code y' b k q ∈ jB) : GoodIn jB (Cond.code y' b k q :: jB) := by
  intro w hw
  rcases List.mem_cons.mp hw with e | hw
  · subst e
    exact ⟨h, jB_good h⟩
  · exact ⟨hw, jB_good hw⟩
def jtys (cy : Nat → ClassId) : List (ClassId × FieldType) := [(cy 13, .int), (cy 14, .boolean), (cy 15, .object "LongestRuns$Reached"), (cy 16, .array .int)]
def jK (D : va_G) (cy : Nat → ClassId) (U : State) : Prop := va_K D vwCl (jtys cy) U ∧ (∀ q ∈ jnM, va_Nw (.methodLinkNest q.1 q.2.1 q.2.2.1 q.2.2.2) U) ∧ ∀ q ∈ jnF, va_Nw (.fieldLinkNest q.1 q.2.1 q.2.2.1 q.2.2.2.1 q.2.2.2.2.1 q.2.2.2.2.2) U
theorem jK.warm {D : va_G} {cy : Nat → ClassId} {s U : State} (h : jK D cy s) (hW : s.WarmedH U.vm) : jK D cy U := ⟨va_K.moved hW.alike h.1, fun q hq => va_Nw.warmM hW (h.2.1 q hq), fun q hq => va_Nw.warmF hW (h.2.2 q hq)⟩
theorem jK.same {D : va_G} {cy : Nat → ClassId} {s U : State} (h : jK D cy s) (e : s.vm = U.vm) : jK D cy U := ⟨va_K.moved (by rw [e]; exact Vm.Alike.refl _) h.1, fun q hq => va_Nw.same rfl e (h.2.1 q hq), fun q hq => va_Nw.same rfl e (h.2.2 q hq)⟩
/-! the world as cells -/
def jcv (B kd : Nat) (f : Nat → Int) (j : Nat) : Value := if jfr kd j then jR B (f j).toNat else jI (f j)
def jce (cy : Nat → ClassId) (B : Nat) (q : Nat × Nat) (f : Nat → Int) : va_E :=
  if q.1 < 13 then .inr (q.1, (List.range q.2).map (jcv B q.1 f))
  else if q.1 < 15 then .inl (cy q.1, q.2, .inl fun j => Int32.ofInt (f j))
  else .inl (cy q.1, q.2, .inr (.inr (.inr (.inr fun j => jO B (f j).toNat))))
def jwd (cy : Nat → ClassId) (B : Nat) (sh : jm_S) (m : jm_M) (sz : Nat) : va_W := (List.range sz).map fun i => (B + (i + 1), jce cy B (sh (i + 1)) (m (i + 1)))
theorem jwd_at {cy : Nat → ClassId} {B : Nat} {sh : jm_S} {m : jm_M} {sz a : Nat} (h1 : 1 ≤ a) (h2 : a ≤ sz) : (jwd cy B sh m sz)[a - 1]? = some (B + a, jce cy B (sh a) (m a)) := by
  unfold jwd
  rw [List.getElem?_map, List.getElem?_range (by omega)]
  have e : a - 1 + 1 = a := by omega
  simp [e]
theorem jwd_get {cy : Nat → ClassId} {B : Nat} {sh : jm_S} {m : jm_M} {sz k : Nat} {q : Nat × va_E} (h : (jwd cy B sh m sz)[k]? = some q) : k < sz ∧ q = (B + (k + 1), jce cy B (sh (k + 1)) (m (k + 1))) := by
  unfold jwd at h
  rw [List.getElem?_map] at h
  by_cases hk : k < sz
  · rw [List.getElem?_range hk] at h
    exact ⟨hk, (Option.some.inj h).symm⟩
  · rw [List.getElem?_eq_none (by simpa using Nat.le_of_not_lt hk)] at h
    cases h
theorem jwd_set {cy : Nat → ClassId} {B : Nat} {sh : jm_S} {m : jm_M} {sz a k : Nat} {x : Int} {E : va_E} (h1 : 1 ≤ a) (h2 : a ≤ sz) (hE : E = jce cy B (sh a) (jm_up m a k x a)) : (jwd cy B sh m sz).set (a - 1) (B + a, E) = jwd cy B sh (jm_up m a k x) sz := by
  apply List.ext_getElem?
  intro i
  rw [List.getElem?_set]
  by_cases e : a - 1 = i
  · subst e
    have hl : a - 1 < (jwd cy B sh m sz).length := by unfold jwd; simp; omega
    rw [if_pos rfl, if_pos hl, jwd_at h1 h2, hE]
  · rw [if_neg e]
    by_cases hi : i < sz
    · have e2 : i + 1 - 1 = i := by omega
      have a1 := jwd_at (cy := cy) (B := B) (sh := sh) (m := m) (sz := sz) (a := i + 1) (by omega) (by omega)
      have a2 := jwd_at (cy := cy) (B := B) (sh := sh) (m := jm_up m a k x) (sz := sz) (a := i + 1) (by omega) (by omega)
      rw [e2] at a1 a2
      rw [a1, a2]
      have e3 : jm_up m a k x (i + 1) = m (i + 1) := by
        funext j
        unfold jm_up
        rw [if_neg (fun q => e (by omega))]
      rw [e3]
    · rw [List.getElem?_eq_none (by unfold jwd; simp; omega), List.getElem?_eq_none (by unfold jwd; simp; omega)]
theorem jm_up_row (m : jm_M) (a k : Nat) (x : Int) : jm_up m a k x a = fun j => if j = k then x else m a j := by
  funext j
  unfold jm_up
  by_cases e : j = k
  · rw [if_pos ⟨rfl, e⟩, if_pos e]
  · rw [if_neg (fun q => e q.2), if_neg e]
theorem jce_o {cy : Nat → ClassId} {B kd n : Nat} {q : Nat × Nat} (f : Nat → Int) (h : q = (kd, n)) (hk : kd < 13) : jce cy B q f = .inr (kd, (List.range n).map (jcv B kd f)) := by subst h; exact if_pos hk
theorem jce_i {cy : Nat → ClassId} {B kd : Nat} {q : Nat × Nat} (f : Nat → Int) (h : q.1 = kd) (hk : 13 ≤ kd) (hk2 : kd < 15) : jce cy B q f = .inl (cy kd, q.2, .inl fun j => Int32.ofInt (f j)) := by subst h; exact (if_neg (by omega)).trans (if_pos hk2)
theorem jce_r {cy : Nat → ClassId} {B kd : Nat} {q : Nat × Nat} (f : Nat → Int) (h : q.1 = kd) (hk : 15 ≤ kd) : jce cy B q f = .inl (cy kd, q.2, .inr (.inr (.inr (.inr fun j => jO B (f j).toNat)))) := by subst h; exact (if_neg (by omega)).trans (if_neg (by omega))
theorem jcv_set {B kd n k : Nat} {f : Nat → Int} {x : Int} (hk : k < n) : ((List.range n).map (jcv B kd f)).set k (jcv B kd (fun _ => x) k) = (List.range n).map (jcv B kd (fun j => if j = k then x else f j)) := by
  apply List.ext_getElem?
  intro i
  rw [List.getElem?_set]
  by_cases e : k = i
  · subst e
    rw [if_pos rfl, if_pos (by simpa using hk), List.getElem?_map, List.getElem?_range hk]
    simp [jcv]
  · rw [if_neg e, List.getElem?_map, List.getElem?_map]
    by_cases hi : i < n
    · rw [List.getElem?_range hi]
      have e2 : ¬ i = k := fun q => e q.symm
      simp [jcv, e2]
    · rw [List.getElem?_eq_none (by simpa using Nat.le_of_not_lt hi)]
      rfl
def jCx (p : Program) (s : State) (mi : MethodId) (args : Array Value) (meth : Method) (c : Code) (cc : ByteArray) (nL : Nat) (own : String) (rt : Option FieldType) (D : va_G) (cy : Nat → ClassId) : Prop :=
  p.tables.exec = Jvm.exec ∧ c.code = cc ∧ c.maxLocals = nL ∧ s.vm.findClass own = some mi.cls ∧ (∀ w ∈ jB, w.before args s = true) ∧ meth.locks = false ∧ meth.sig.returnType = rt ∧ jK D cy s
def jok (sh : jm_S) (sz : Nat) : Prop := ∀ a, (sh a).1 ≤ 16 → 1 ≤ a ∧ a ≤ sz
def jHs (D : va_G) (cy : Nat → ClassId) (B sz : Nat) (sh : jm_S) (A : Nat → Prop) (H0 H : Heap) (locs : List Loc) (m : jm_M) : Prop :=
  va_P D vwCl (jwd cy B sh m sz) H ∧ va_S A H0 H locs ∧ (∀ a i, jIn (m a i)) ∧ jok sh sz ∧ ∀ a, 1 ≤ a → a ≤ sz → A (B + a)
theorem jwd_D {cy : Nat → ClassId} {B : Nat} {sh : jm_S} {m : jm_M} {sz : Nat} {A : Nat → Prop} (h : ∀ a, 1 ≤ a → a ≤ sz → A (B + a)) : va_D A (jwd cy B sh m sz) := by
  refine ⟨fun i j p q hi hj e => ?_, fun k q hk => ?_⟩
  · obtain ⟨-, rfl⟩ := jwd_get hi
    obtain ⟨-, rfl⟩ := jwd_get hj
    simp only at e
    omega
  · obtain ⟨h1, rfl⟩ := jwd_get hk
    exact h (k + 1) (by omega) (by omega)
theorem jIn_up {m : jm_M} (h : ∀ a i, jIn (m a i)) {a k : Nat} {x : Int} (hx : jIn x) : ∀ b j, jIn (jm_up m a k x b j) := by
  intro b j
  unfold jm_up
  split
  · exact hx
  · exact h b j
def jrm (k rc rs : Nat) : Room := { frames := k, cells := rc, slots := rs, locals := 80 * k }
def jA (B sz : Nat) : Nat → Prop := fun q => B < q ∧ q ≤ B + sz
def jWd (D : va_G) (cy : Nat → ClassId) (B sz : Nat) (sh : jm_S) (m : jm_M) (U : State) : Prop := va_P D vwCl (jwd cy B sh m sz) U.heap ∧ jK D cy U ∧ (∀ a i, jIn (m a i)) ∧ jok sh sz
def jPc (D : va_G) (cy : Nat → ClassId) (B sz : Nat) (sh : jm_S) (m : jm_M) (as : List Value) : Array Value → State → Prop := fun v U => v = as.toArray ∧ jWd D cy B sz sh m U
def jQc (D : va_G) (cy : Nat → ClassId) (B sz : Nat) (sh : jm_S) (m' : jm_M) (v : Option Value) (Pp : Prop) : Array Value → State → Outcome → State → Prop := fun _ st oc t => Pp ∧ oc = .returned v ∧ jWd D cy B sz sh m' t ∧ va_F (jA B sz) st t
/-- the contract of a method that makes no cells: by its arguments and the memory, its answer and the memory behind it -/
def jCt (l : Launch) (D : va_G) (cy : Nat → ClassId) (B sz : Nat) (sh : jm_S) (k : Nat) (y : MethodName) (yc : ByteArray) (yn : Nat) (yr : Option FieldType) (as : List Value) (m : jm_M) (v : Option Value) (m' : jm_M) (Pp : Prop) : Prop :=
  Met l y (Cond.code y yc yn yr :: jB) (jrm k 0 0) (jPc D cy B sz sh m as) (jQc D cy B sz sh m' v Pp) 0 0 (jA B sz)
theorem jPc_blind (D : va_G) (cy : Nat → ClassId) (B sz : Nat) (sh : jm_S) (m : jm_M) (as : List Value) : FrameBlind (jPc D cy B sz sh m as) := fun a U g mk q => by
  obtain ⟨q0, q1, q2, q3⟩ := q
  exact ⟨q0, q1, q2.same (U := U.calling g mk a) rfl, q3⟩
/-- a method's contract out of its walk -/
theorem jc_of {l : Launch} {D : va_G} {cy : Nat → ClassId} {B sz : Nat} {sh : jm_S} {k : Nat} {y : MethodName} {yc : ByteArray} {yn : Nat} {yr : Option FieldType} {as : List Value} {m m' : jm_M} {v : Option Value} {Pp : Prop} (hy : plainName y.cls = true) (hc : ∀ v ∈ as, v.category = 1) (hn : as.length ≤ yn)
    (body : ∀ {p : Program} {e : Env} {s : State} {mi : MethodId} {below : List Frame} {meth : Method} {c : Code} {ls : Array Slot}, jCx p s mi as.toArray meth c yc yn y.cls yr D cy → jHs D cy B sz sh (jA B sz) s.heap s.heap [] m → jL ls (as.map some ++ List.replicate (yn - as.length) none) →
      W p l e (jrm k 0 0) s mi as.toArray below meth c s.heap [] 0 0 (MQ below (jQc D cy B sz sh m' v Pp) as.toArray s 0 0 (jA B sz)) (F0 mi 0 ls [])) : jCt l D cy B sz sh k y yc yn yr as m v m' Pp := by
  refine Met.ofW (cc := yc) (maxL := yn) (ret := yr) hy rfl ?_
  intro p e s mi args below meth c s₁ Bd hml hv
  obtain ⟨rfl, hP, hK, hR, hok⟩ := hv
  have hts := atoms_spec (ws := Cond.code y yc yn yr :: jB) Bd.pre
  rw [lg_entry_eq]
  exact body ⟨Bd.exec, Bd.bytes, hml, findClass_of_methodNamed Bd.named, fun w h => hts w (List.mem_cons_of_mem _ h), Bd.notSynchronized, Bd.returns, hK⟩ ⟨hP, va_S.rf, hR, hok, fun a h1 h2 => ⟨by omega, by omega⟩⟩ (jL.entry as hc hn)
