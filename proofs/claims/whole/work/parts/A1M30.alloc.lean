/-! constructors: the picture grows. g: how many cells, their shapes, the memory -/
def jq (n : Nat) : Nat := 4000 * n
theorem jq_mono {a b : Nat} (h : a ≤ b) : jq a ≤ jq b := by unfold jq; omega
theorem jq_add {a b n : Nat} (h : a + 1 ≤ b) (hn : n ≤ 4000) : jq a + n ≤ jq b := by unfold jq; omega
/-- new int[x][y]: the outer row, then the inner ones -/
def jAO (U : State) : Prop := va_AO "LongestRuns$Reached" U ∧ (Cond.arrayOver (.array .int)).before #[] U = true
def jz (g : jm_G) : Prop := ∀ a, g.1 < a → ∀ i, g.2.2 a i = 0
def jRo (R : Room) (c0 n0 Lm : Nat) : Prop := c0 + (Lm - n0) ≤ R.cells ∧ jq (c0 + (Lm - n0)) ≤ R.slots
def jHA (D : va_G) (cy : Nat → ClassId) (B c0 n0 Lm : Nat) (g : jm_G) (s : State) (H0 H : Heap) (locs : List Loc) : Prop :=
  jHs D cy B g.1 g.2.1 (fun q => B < q) H0 H locs g.2.2 ∧ jz g ∧ s.heap.size + c0 = B + n0 + 1 ∧ n0 ≤ g.1 ∧ g.1 ≤ Lm ∧ Lm ≤ 1000000 ∧ (g.1 = 0 → B + 1 ≤ H.size)
theorem jwd_new (cy : Nat → ClassId) (B : Nat) {sh sh' : jm_S} {m m' : jm_M} {sz : Nat} {q : Nat × Nat} (h : ∀ a, a ≤ sz → sh' a = sh a ∧ m' a = m a) (hq : sh' (sz + 1) = q) : jwd cy B sh' m' (sz + 1) = jwd cy B sh m sz ++ [(B + (sz + 1), jce cy B q (m' (sz + 1)))] := by
  unfold jwd
  rw [List.range_succ, List.map_append]
  congr 1
  · apply List.map_congr_left
    intro i hi
    obtain ⟨h1, h2⟩ := h (i + 1) (by have := List.mem_range.mp hi; omega)
    rw [h1, h2]
  · simp [hq]
theorem jHA.low {D : va_G} {cy : Nat → ClassId} {B c0 n0 Lm : Nat} {g : jm_G} {s : State} {H0 H : Heap} {locs : List Loc} (S : jHA D cy B c0 n0 Lm g s H0 H locs) : B + g.1 + 1 ≤ H.size := by
  obtain ⟨h1, h2, h3, h4, h5, h6, h0⟩ := S
  by_cases hg : g.1 = 0
  · have := h0 hg
    omega
  · have he := jwd_at (cy := cy) (B := B) (sh := g.2.1) (m := g.2.2) (sz := g.1) (a := g.1) (by omega) (Nat.le_refl _)
    have hl := (h1.1 _ _ he).lt
    simp only at hl
    omega
section JALLOC
variable {p : Program} {l : Launch} {e : Env} {s : State} {mi : MethodId} {args : Array Value} {below : List Frame} {meth : Method} {c : Code} {H H0 : Heap} {locs : List Loc} {Q : State → Prop} {cc : ByteArray} {nL : Nat} {own : String} {rt : Option FieldType} {D : va_G} {cy : Nat → ClassId} {B c0 n0 Lm : Nat} {R : Room} {g : jm_G} {pc : Nat} {ls : Array Slot} {lv : List (Option Value)} {st : List Value}
theorem jsz (S : jHA D cy B c0 n0 Lm g s H0 H locs) {T : State} (hT : T.heap = H) (X : Stand p l e R s mi args below meth c T locs (c0 + (g.1 - n0)) (jq (c0 + (g.1 - n0)))) : H.size = B + g.1 + 1 := by
  have h1 := X.heapSize
  have h2 := S.low
  obtain ⟨-, -, h3, h4, -⟩ := S
  rw [hT] at h1
  omega
/-- a world grown by one cell -/
theorem jgrow (S : jHA D cy B c0 n0 Lm g s H0 H locs) {kd n : Nat} {g' : jm_G} (hg : jgn Lm g kd n = some g') (hkd : kd ≤ 16) {H1 : Heap} (hsz : H.size = B + g.1 + 1) (z1 : H1.size = B + g.1 + 1 + 1) (o1 : ∀ q, q < B + g.1 + 1 → H1[q]? = H[q]?) (e1 : va_at D vwCl (B + (g.1 + 1), jce cy B (kd, n) (fun _ => 0)) H1) : jHA D cy B c0 n0 Lm g' s H0 H1 locs ∧ g'.1 = g.1 + 1 ∧ n ≤ 4000 := by
  obtain ⟨⟨hP, hS, hR, hok, hA⟩, hz, h3, h4, h5, h6, -⟩ := S
  unfold jgn at hg
  split at hg
  · rename_i hc
    cases hg
    refine ⟨⟨⟨?_, ?_, hR, ?_, ?_⟩, ?_, h3, ?_, hc.1, h6, fun h => by cases h⟩, rfl, hc.2⟩
    · show va_P D vwCl (jwd cy B (fun a => if a = g.1 + 1 then (kd, n) else g.2.1 a) g.2.2 (g.1 + 1)) H1
      rw [jwd_new cy B (sh := g.2.1) (sh' := fun a => if a = g.1 + 1 then (kd, n) else g.2.1 a) (m := g.2.2) (sz := g.1) (q := (kd, n)) (fun a ha => ⟨if_neg (by omega), rfl⟩) (if_pos rfl)]
      have hk : ∀ (k : Nat) (x : Nat × va_E), (jwd cy B g.2.1 g.2.2 g.1)[k]? = some x → H1[x.1]? = H[x.1]? := fun k x hx => o1 x.1 (by have := (hP k x hx).lt; omega)
      refine (hP.kept hk).app (fun k x hx => ?_)
      have hk0 : k < 1 := (List.getElem?_eq_some_iff.mp hx).1
      rw [show k = 0 by omega] at hx
      cases hx
      rw [show g.2.2 (g.1 + 1) = fun _ => 0 from funext fun i => hz _ (by omega) i]
      exact e1
    · exact ⟨by have := hS.1; omega, fun x h1 h2 => (o1 x (by have := hS.1; omega)).trans (hS.2.1 x h1 h2), hS.2.2⟩
    · intro a ha
      simp only at ha ⊢
      by_cases e : a = g.1 + 1
      · subst e; exact ⟨by omega, Nat.le_refl _⟩
      · rw [if_neg e] at ha
        have := hok a ha
        exact ⟨this.1, by omega⟩
    · intro a h1 h2
      show B < B + a
      omega
    · intro a ha i
      simp only at ha ⊢
      exact hz a (by omega) i
    · show n0 ≤ g.1 + 1
      omega
  · cases hg
def jNc (own : String) (idx kd n : Nat) : Prop := ∃ (Cn : String) (T : u_T) (ty : Nat → FieldType), vwCl[kd]? = some (Cn, T, n) ∧ Cond.classLink own idx Cn ∈ jB ∧ Cond.instantiable Cn n ∈ jB ∧ Cond.initialized Cn ∈ jB ∧ (∀ w ∈ u_ws Cn T n, w ∈ jB) ∧ (∀ k, k < n → parseFieldDescriptor (T k).2.2.1 = some (ty k)) ∧ ∀ j, j < n → defaultValue (ty j) = if jfr kd j then .null else .int 0
theorem jr_new (HR : jRo R c0 n0 Lm) (C : jCx p s mi args meth c cc nL own rt D cy) (S : jHA D cy B c0 n0 Lm g s H0 H locs) {idx kd n : Nat} (hn : jNc own idx kd n) {g' : jm_G} (hg : jgn Lm g kd n = some g') (hdg : decode cc pc = .ok (.new idx, 3)) (kk : ∀ H1 : Heap, jHA D cy B c0 n0 Lm g' s H0 H1 locs → W p l e R s mi args below meth c H1 locs (c0 + (g'.1 - n0)) (jq (c0 + (g'.1 - n0))) Q (F0 mi (pc + 3) ls (jR B (g.1 + 1) :: st))) : W p l e R s mi args below meth c H locs (c0 + (g.1 - n0)) (jq (c0 + (g.1 - n0))) Q (F0 mi pc ls st) := by
  intro T hT X
  have hsz := jsz S hT X
  obtain ⟨Cn, Tb, ty, f1, f2, f3, f4, f5, f6, f7⟩ := hn
  have hts := C.2.2.2.2.1
  have hK := C.2.2.2.2.2.2.2.1
  have hKn := hK.1 kd _ f1
  have hkd := jkd f1
  have hc : g.1 + 1 ≤ Lm ∧ n ≤ 4000 := by
    unfold jgn at hg
    split at hg
    · assumption
    · cases hg
  have h4 := S.2.2.2.1
  have hcl : c0 + (g.1 - n0) + 1 ≤ R.cells := by have := HR.1; omega
  have hsl : jq (c0 + (g.1 - n0)) + n ≤ R.slots := Nat.le_trans (jq_add (b := c0 + (Lm - n0)) (by omega) hc.2) HR.2
  refine (?_ : W p l e R s mi args below meth c H locs (c0 + (g.1 - n0)) (jq (c0 + (g.1 - n0))) Q (F0 mi pc ls st)) T hT X
  refine W.newcK C.1 C.2.1 C.2.2.2.1 (hts _ f2) (hts _ f3) (hts _ f4) rfl hdg hcl hsl hKn.2.1 hsz (fun H1 kC hkC e1 z1 o1 => ?_)
  have hb := u_born ty (fun w hw => hts w hw) f5 hKn hkC e1 f6
  obtain ⟨S', e2, -⟩ := jgrow S hg (by omega) hsz z1 o1 (by
    rw [show B + (g.1 + 1) = B + g.1 + 1 by omega, jce_o (kd := kd) (n := n) _ rfl hkd]
    refine ⟨_, f1, hb.to (fun j hj => ?_)⟩
    have hj : j < n := hj
    rw [f7 j hj]
    unfold vp_V
    rw [List.getD_eq_getElem?_getD, List.getElem?_map, List.getElem?_range hj]
    simp only [Option.map_some, Option.getD_some, jcv]
    split <;> rfl)
  have h := kk H1 S'
  rw [jR_pos (by omega), show B + (g.1 + 1) = B + g.1 + 1 by omega] at h
  refine W.widen (k := c0 + (g'.1 - n0)) (n := jq (c0 + (g'.1 - n0))) (by omega) (jq_add (by omega) hc.2) ?_
  exact h
theorem jr_newa (HR : jRo R c0 n0 Lm) (C : jCx p s mi args meth c cc nL own rt D cy) (S : jHA D cy B c0 n0 Lm g s H0 H locs) {atype : ArrayType} {kd : Nat} {x : Int} (hx : jIn x) (ha : (kd = 13 ∧ atype = .int) ∨ (kd = 14 ∧ atype = .boolean)) (hw : Cond.arrayClass (newarray.typeOf atype) ∈ jB) {g' : jm_G} (hg : jgna Lm g kd x = some g') (hdg : decode cc pc = .ok (.newarray atype, 2)) (kk : ∀ H1 : Heap, jHA D cy B c0 n0 Lm g' s H0 H1 locs → W p l e R s mi args below meth c H1 locs (c0 + (g'.1 - n0)) (jq (c0 + (g'.1 - n0))) Q (F0 mi (pc + 2) ls (jR B (g.1 + 1) :: st))) : W p l e R s mi args below meth c H locs (c0 + (g.1 - n0)) (jq (c0 + (g.1 - n0))) Q (F0 mi pc ls (jI x :: st)) := by
  intro T hT X
  have hsz := jsz S hT X
  have hts := C.2.2.2.2.1
  have hK := C.2.2.2.2.2.2.2.1
  unfold jgna at hg
  split at hg
  · rename_i hc
    have hc2 : g.1 + 1 ≤ Lm ∧ x.toNat ≤ 4000 := by
      unfold jgn at hg
      split at hg
      · assumption
      · cases hg
    have h4 := S.2.2.2.1
    have e0 : (Int32.ofInt x).toNatClampNeg = x.toNat := by
      unfold jIn at hx
      exact Int32.toNatClampNeg_ofInt_of_le (by omega) (by omega)
    have hneg : ¬ Int32.ofInt x < 0 := fun q => by
      have := (jlt_iff (y := 0) hx ⟨by decide, by decide⟩).mp q
      omega
    have hcl : c0 + (g.1 - n0) + 1 ≤ R.cells := by have := HR.1; omega
    have hsl : jq (c0 + (g.1 - n0)) + x.toNat ≤ R.slots := Nat.le_trans (jq_add (b := c0 + (Lm - n0)) (by omega) hc2.2) HR.2
    have hby : x.toNat * componentBytes (newarray.typeOf atype) ≤ 536870912 := by
      have h8 : componentBytes (newarray.typeOf atype) ≤ 8 := by rcases ha with ⟨-, rfl⟩ | ⟨-, rfl⟩ <;> decide
      exact Nat.le_trans (Nat.mul_le_mul hc2.2 h8) (Nat.le_of_ble_eq_true rfl)
    refine (?_ : W p l e R s mi args below meth c H locs (c0 + (g.1 - n0)) (jq (c0 + (g.1 - n0))) Q (F0 mi pc ls (jI x :: st))) T hT X
    refine va_newaK (g := F0 mi pc ls (jI x :: st)) (rest := st) C.1 C.2.1 (hts _ hw) rfl hdg rfl hneg e0 hby hcl hsl hsz (fun H1 cA e1 z1 o1 hAr hNm => ?_)
    obtain ⟨S', e2, -⟩ := jgrow S hg (by rcases ha with ⟨rfl, -⟩ | ⟨rfl, -⟩ <;> decide) hsz z1 o1 (by
      rw [show B + (g.1 + 1) = B + g.1 + 1 by omega, jce_i (kd := kd) _ rfl (by rcases ha with ⟨rfl, -⟩ | ⟨rfl, -⟩ <;> decide) (by rcases ha with ⟨rfl, -⟩ | ⟨rfl, -⟩ <;> decide)]
      show H1[_]? = some (vp_cell _ _)
      rw [vp_cell_i, e1]
      rcases ha with ⟨rfl, rfl⟩ | ⟨rfl, rfl⟩
      · have h2 : s.vm.findClass ("[" ++ FieldType.int.toString) = some (cy 13) := (hK.2 0 _ rfl).2
        have h3 : some cA = some (cy 13) := hNm.symm.trans h2
        cases h3
        rfl
      · have h2 : s.vm.findClass ("[" ++ FieldType.boolean.toString) = some (cy 14) := (hK.2 1 _ rfl).2
        have h3 : some cA = some (cy 14) := hNm.symm.trans h2
        cases h3
        rfl)
    have h := kk H1 S'
    rw [jR_pos (by omega), show B + (g.1 + 1) = B + g.1 + 1 by omega] at h
    refine W.widen (k := c0 + (g'.1 - n0)) (n := jq (c0 + (g'.1 - n0))) (by omega) (jq_add (by omega) hc2.2) ?_
    exact h
  · cases hg
theorem jr_newq (HR : jRo R c0 n0 Lm) (C : jCx p s mi args meth c cc nL own rt D cy) (hO : jAO s) (S : jHA D cy B c0 n0 Lm g s H0 H locs) {idx : Nat} {x : Int} (hx : jIn x) (hw : Cond.classLink own idx "LongestRuns$Reached" ∈ jB) {g' : jm_G} (hg : jgna Lm g 15 x = some g') (hdg : decode cc pc = .ok (.anewarray idx, 3)) (kk : ∀ H1 : Heap, jHA D cy B c0 n0 Lm g' s H0 H1 locs → W p l e R s mi args below meth c H1 locs (c0 + (g'.1 - n0)) (jq (c0 + (g'.1 - n0))) Q (F0 mi (pc + 3) ls (jR B (g.1 + 1) :: st))) : W p l e R s mi args below meth c H locs (c0 + (g.1 - n0)) (jq (c0 + (g.1 - n0))) Q (F0 mi pc ls (jI x :: st)) := by
  intro T hT X
  have hsz := jsz S hT X
  have hts := C.2.2.2.2.1
  have hK := C.2.2.2.2.2.2.2.1
  unfold jgna at hg
  split at hg
  · rename_i hc
    have hc2 : g.1 + 1 ≤ Lm ∧ x.toNat ≤ 4000 := by
      unfold jgn at hg
      split at hg
      · assumption
      · cases hg
    have h4 := S.2.2.2.1
    have e0 : (Int32.ofInt x).toNatClampNeg = x.toNat := by
      unfold jIn at hx
      exact Int32.toNatClampNeg_ofInt_of_le (by omega) (by omega)
    have hneg : ¬ Int32.ofInt x < 0 := fun q => by
      have := (jlt_iff (y := 0) hx ⟨by decide, by decide⟩).mp q
      omega
    have hcl : c0 + (g.1 - n0) + 1 ≤ R.cells := by have := HR.1; omega
    have hsl : jq (c0 + (g.1 - n0)) + (Int32.ofInt x).toNatClampNeg ≤ R.slots := by rw [e0]; exact Nat.le_trans (jq_add (b := c0 + (Lm - n0)) (by omega) hc2.2) HR.2
    have hby : (Int32.ofInt x).toNatClampNeg * 4 ≤ 536870912 := by rw [e0]; exact Nat.le_trans (Nat.mul_le_mul_right 4 hc2.2) (Nat.le_of_ble_eq_true rfl)
    refine (?_ : W p l e R s mi args below meth c H locs (c0 + (g.1 - n0)) (jq (c0 + (g.1 - n0))) Q (F0 mi pc ls (jI x :: st))) T hT X
    refine W.anew (g := F0 mi pc ls (jI x :: st)) (rest := st) C.1 C.2.1 C.2.2.2.1 (hts _ hw) (va_AO.use hO.1) rfl hdg rfl hneg hby hcl hsl (fun cA kA comp f1 f2 f3 f4 => ?_)
    generalize hH1 : H.push ({ cls := cA, slots := Array.replicate (Int32.ofInt x).toNatClampNeg .null, vm := .none } : Cell) = H1
    have z1 : H1.size = B + g.1 + 1 + 1 := by rw [← hH1, Array.size_push, hsz]
    have e1 : H1[B + g.1 + 1]? = some (arrV cA x.toNat (fun _ => .null)) := by rw [← hH1, ← hsz, Array.getElem?_push_size, ← arrV_new, e0]
    have o1 : ∀ q : Nat, q < B + g.1 + 1 → H1[q]? = H[q]? := fun q hq => by rw [← hH1, Array.getElem?_push, if_neg (by omega)]
    obtain ⟨S', e2, -⟩ := jgrow S hg (by decide) hsz z1 o1 (by
      rw [show B + (g.1 + 1) = B + g.1 + 1 by omega, jce_r (kd := 15) _ rfl (by decide)]
      show H1[_]? = some (vp_cell _ _)
      rw [vp_cell_q, e1]
      obtain ⟨kA2, comp2, -, -, -, h2⟩ := (hK.2 2 _ rfl).2
      have h3 : some cA = some (cy 15) := f1.symm.trans h2
      cases h3
      rfl)
    have h := kk H1 S'
    rw [jR_pos (by omega), show B + (g.1 + 1) = B + g.1 + 1 by omega] at h
    rw [hsz]
    rw [e0]
    refine W.widen (k := c0 + (g'.1 - n0)) (n := jq (c0 + (g'.1 - n0))) (by omega) (jq_add (by omega) hc2.2) ?_
    exact h
  · cases hg
end JALLOC
