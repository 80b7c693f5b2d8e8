section JHEAP
variable {p : Program} {l : Launch} {e : Env} {R : Room} {s : State} {mi : MethodId} {args : Array Value} {below : List Frame} {meth : Method} {c : Code} {H H0 : Heap} {locs : List Loc} {cells slots : Nat} {Q : State → Prop} {cc : ByteArray} {nL : Nat} {own : String} {rt : Option FieldType} {D : va_G} {cy : Nat → ClassId} {B sz : Nat} {sh : jm_S} {A : Nat → Prop} {m : jm_M} {pc : Nat} {ls : Array Slot} {lv : List (Option Value)} {st : List Value}
/-- a field by its link: its class, its place -/
def jFl (own : String) (idx kd n k : Nat) : Prop := ∃ (Cn : String) (T : u_T), vwCl[kd]? = some (Cn, T, n) ∧ k < n ∧ Cond.fieldLink own idx (T k).1 (T k).2.1 (T k).2.2.1 ∈ jB ∧ ∀ w ∈ u_ws Cn T n, w ∈ jB
def jFn (own : String) (idx kd n k : Nat) : Prop := ∃ (Cn host : String) (T : u_T), vwCl[kd]? = some (Cn, T, n) ∧ k < n ∧ (own, idx, (T k).1, (T k).2.1, (T k).2.2.1, host) ∈ jnF ∧ ∀ w ∈ u_ws Cn T n, w ∈ jB
/-- a field that may be written, its type -/
def jFp (kd n k : Nat) (ty : FieldType) (fin : Bool) : Prop := ∀ (Cn : String) (T : u_T), vwCl[kd]? = some (Cn, T, n) → (T k).2.2.2 = fin ∧ parseFieldDescriptor (T k).2.2.1 = some ty ∧ (∃ ty0 : Nat → FieldType, ∀ j, j < n → parseFieldDescriptor (T j).2.2.1 = some (ty0 j)) ∧ ∀ a, a < n → ∀ b, b < n → a ≠ b → (T a).2.1 ≠ (T b).2.1
theorem jkd {kd n : Nat} {Cn : String} {T : u_T} (h : vwCl[kd]? = some (Cn, T, n)) : kd < 13 := (List.getElem?_eq_some_iff.mp h).1
theorem jHs.at (S : jHs D cy B sz sh A H0 H locs m) {a : Nat} (h : (sh a).1 ≤ 16) : a ≠ 0 ∧ (jwd cy B sh m sz)[a - 1]? = some (B + a, jce cy B (sh a) (m a)) := by
  obtain ⟨h1, h2⟩ := S.2.2.2.1 a h
  exact ⟨by omega, jwd_at h1 h2⟩
theorem jr_getI (C : jCx p s mi args meth c cc nL own rt D cy) (S : jHs D cy B sz sh A H0 H locs m) {a kd n k idx : Nat} {v : Int} (hl : jFl own idx kd n k) (hf : jfr kd k = false) (hv : jrf sh m a kd n k = some v) (hdg : decode cc pc = .ok (.getfield idx, 3)) (kk : W p l e R s mi args below meth c H locs cells slots Q (F0 mi (pc + 3) ls (jI v :: st))) : W p l e R s mi args below meth c H locs cells slots Q (F0 mi pc ls (jR B a :: st)) := by
  obtain ⟨Cn, T, h1, h2, h3, h4⟩ := hl
  unfold jrf at hv
  split at hv
  · rename_i hs
    cases hv
    have hkd := jkd h1
    obtain ⟨ha, he⟩ := S.at (a := a) (by rw [hs]; show kd ≤ 16; omega)
    rw [jR_pos ha]
    rw [jce_o _ hs hkd] at he
    refine va_get C.1 C.2.1 (fun w hw => C.2.2.2.2.1 w hw) h4 C.2.2.2.1 C.2.2.2.2.2.2.2.1 S.1 (a - 1) he h1 k h2 (C.2.2.2.2.1 _ h3) (fun _ h9 => h9) ?_ hdg kk
    rw [List.getElem?_map, List.getElem?_range h2]
    simp [jcv, hf]
  · cases hv
theorem jr_getR (C : jCx p s mi args meth c cc nL own rt D cy) (S : jHs D cy B sz sh A H0 H locs m) {a kd n k idx : Nat} {v : Int} (hl : jFl own idx kd n k) (hf : jfr kd k = true) (hv : jrf sh m a kd n k = some v) (hdg : decode cc pc = .ok (.getfield idx, 3)) (kk : W p l e R s mi args below meth c H locs cells slots Q (F0 mi (pc + 3) ls (jR B v.toNat :: st))) : W p l e R s mi args below meth c H locs cells slots Q (F0 mi pc ls (jR B a :: st)) := by
  obtain ⟨Cn, T, h1, h2, h3, h4⟩ := hl
  unfold jrf at hv
  split at hv
  · rename_i hs
    cases hv
    have hkd := jkd h1
    obtain ⟨ha, he⟩ := S.at (a := a) (by rw [hs]; show kd ≤ 16; omega)
    rw [jR_pos ha]
    rw [jce_o _ hs hkd] at he
    refine va_get C.1 C.2.1 (fun w hw => C.2.2.2.2.1 w hw) h4 C.2.2.2.1 C.2.2.2.2.2.2.2.1 S.1 (a - 1) he h1 k h2 (C.2.2.2.2.1 _ h3) (fun _ h9 => h9) ?_ hdg kk
    rw [List.getElem?_map, List.getElem?_range h2]
    simp [jcv, hf]
  · cases hv
theorem jr_getRN (C : jCx p s mi args meth c cc nL own rt D cy) (S : jHs D cy B sz sh A H0 H locs m) {a kd n k idx : Nat} {v : Int} (hl : jFn own idx kd n k) (hf : jfr kd k = true) (hv : jrf sh m a kd n k = some v) (hdg : decode cc pc = .ok (.getfield idx, 3)) (kk : W p l e R s mi args below meth c H locs cells slots Q (F0 mi (pc + 3) ls (jR B v.toNat :: st))) : W p l e R s mi args below meth c H locs cells slots Q (F0 mi pc ls (jR B a :: st)) := by
  obtain ⟨Cn, host, T, h1, h2, h3, h4⟩ := hl
  unfold jrf at hv
  split at hv
  · rename_i hs
    cases hv
    have hkd := jkd h1
    obtain ⟨ha, he⟩ := S.at (a := a) (by rw [hs]; show kd ≤ 16; omega)
    rw [jR_pos ha]
    rw [jce_o _ hs hkd] at he
    have hK := C.2.2.2.2.2.2.2
    refine va_getN C.1 C.2.1 (fun w hw => C.2.2.2.2.1 w hw) h4 C.2.2.2.1 hK.1 S.1 (a - 1) he h1 k h2 (va_Nw.use rfl (hK.2.2 _ h3)) (fun _ h9 => h9) ?_ hdg kk
    rw [List.getElem?_map, List.getElem?_range h2]
    simp [jcv, hf]
  · cases hv
theorem jr_put (C : jCx p s mi args meth c cc nL own rt D cy) (S : jHs D cy B sz sh A H0 H locs m) {a kd n k idx : Nat} {x : Int} {ty : FieldType} {V : Value} (hl : jFl own idx kd n k) (hp : jFp kd n k ty false) (hV : jcv B kd (fun _ => x) k = V) (hnr : narrow ty V = V) (hft : fits ty V = true) (hx : jIn x) {m' : jm_M} (hw : jwf sh m a kd n k x = some m') (hdg : decode cc pc = .ok (.putfield idx, 3)) (kk : ∀ (H1 : Heap) (locs1 : List Loc), jHs D cy B sz sh A H0 H1 locs1 m' → W p l e R s mi args below meth c H1 locs1 cells slots Q (F0 mi (pc + 3) ls st)) : W p l e R s mi args below meth c H locs cells slots Q (F0 mi pc ls (V :: jR B a :: st)) := by
  obtain ⟨Cn, T, h1, h2, h3, h4⟩ := hl
  obtain ⟨f1, f2, ⟨ty0, f3⟩, f4⟩ := hp Cn T h1
  unfold jwf at hw
  split at hw
  · rename_i hs
    cases hw
    have hkd := jkd h1
    have hle : (sh a).1 ≤ 16 := by rw [hs]; show kd ≤ 16; omega
    obtain ⟨ha, he⟩ := S.at (a := a) hle
    obtain ⟨b1, b2⟩ := S.2.2.2.1 a hle
    rw [jR_pos ha]
    rw [jce_o _ hs hkd] at he
    have hD := jwd_D (cy := cy) (B := B) (sh := sh) (m := m) (sz := sz) S.2.2.2.2
    refine va_put C.1 C.2.1 (fun w hw => C.2.2.2.2.1 w hw) h4 ty0 f3 f4 C.2.2.2.1 C.2.2.2.2.2.2.2.1 S.1 hD S.2.1 (a - 1) he h1 k h2 (C.2.2.2.2.1 _ h3) (fun _ h9 => h9) f1 f2 hnr hft (by simpa using h2) hdg (fun H1 locs1 hP1 _ hS1 => ?_)
    refine kk H1 locs1 ⟨?_, hS1, jIn_up S.2.2.1 hx, S.2.2.2⟩
    rw [← hV, jcv_set h2, jwd_set b1 b2 (by rw [jce_o _ hs hkd, jm_up_row])] at hP1
    exact hP1
  · cases hw
theorem jr_putI (C : jCx p s mi args meth c cc nL own rt D cy) (S : jHs D cy B sz sh A H0 H locs m) {a kd n k idx : Nat} {x : Int} (hl : jFl own idx kd n k) (hp : jFp kd n k .int false) (hf : jfr kd k = false) (hx : jIn x) {m' : jm_M} (hw : jwf sh m a kd n k x = some m') (hdg : decode cc pc = .ok (.putfield idx, 3)) (kk : ∀ (H1 : Heap) (locs1 : List Loc), jHs D cy B sz sh A H0 H1 locs1 m' → W p l e R s mi args below meth c H1 locs1 cells slots Q (F0 mi (pc + 3) ls st)) : W p l e R s mi args below meth c H locs cells slots Q (F0 mi pc ls (jI x :: jR B a :: st)) :=
  jr_put C S hl hp (by simp [jcv, hf]) rfl rfl hx hw hdg kk
theorem jr_putZ (C : jCx p s mi args meth c cc nL own rt D cy) (S : jHs D cy B sz sh A H0 H locs m) {a kd n k idx : Nat} {x : Int} (hl : jFl own idx kd n k) (hp : jFp kd n k .boolean false) (hf : jfr kd k = false) {x' : Int} (hz : jzb x = some x') {m' : jm_M} (hw : jwf sh m a kd n k x' = some m') (hdg : decode cc pc = .ok (.putfield idx, 3)) (kk : ∀ (H1 : Heap) (locs1 : List Loc), jHs D cy B sz sh A H0 H1 locs1 m' → W p l e R s mi args below meth c H1 locs1 cells slots Q (F0 mi (pc + 3) ls st)) : W p l e R s mi args below meth c H locs cells slots Q (F0 mi pc ls (jI x :: jR B a :: st)) := by
  unfold jzb at hz
  split at hz
  · rename_i hc
    cases hz
    rcases hc with rfl | rfl
    · exact jr_put C S hl hp (by simp [jcv, hf]) (by decide) (by decide) ⟨by decide, by decide⟩ hw hdg kk
    · exact jr_put C S hl hp (by simp [jcv, hf]) (by decide) (by decide) ⟨by decide, by decide⟩ hw hdg kk
  · cases hz
theorem jr_putR (C : jCx p s mi args meth c cc nL own rt D cy) (S : jHs D cy B sz sh A H0 H locs m) {a kd n k idx r : Nat} {Cr : String} (hl : jFl own idx kd n k) (hp : jFp kd n k (.object Cr) false) (hf : jfr kd k = true) (hr : r ≤ 2147483647) {m' : jm_M} (hw : jwf sh m a kd n k (r : Int) = some m') (hdg : decode cc pc = .ok (.putfield idx, 3)) (kk : ∀ (H1 : Heap) (locs1 : List Loc), jHs D cy B sz sh A H0 H1 locs1 m' → W p l e R s mi args below meth c H1 locs1 cells slots Q (F0 mi (pc + 3) ls st)) : W p l e R s mi args below meth c H locs cells slots Q (F0 mi pc ls (jR B r :: jR B a :: st)) := by
  refine jr_put C S hl hp (x := (r : Int)) (by simp [jcv, hf]) ?_ ?_ ⟨by omega, by omega⟩ hw hdg kk
  · rcases jR_or B r with ⟨x, h⟩ | h <;> rw [h] <;> rfl
  · rcases jR_or B r with ⟨x, h⟩ | h <;> rw [h] <;> rfl
theorem jin_of {x : Int} {n : Nat} (hx : jIn x) (h1 : 0 ≤ x) (h2 : x < n) : vp_in (Int32.ofInt x) n ∧ (Int32.ofInt x).toNatClampNeg = x.toNat := by
  have e : (Int32.ofInt x).toNatClampNeg = x.toNat := by
    unfold jIn at hx
    exact Int32.toNatClampNeg_ofInt_of_le (by omega) (by omega)
  refine ⟨?_, e⟩
  unfold vp_in
  rw [e]
  intro h
  rcases h with h | h
  · have h0 := (jlt_iff (y := 0) hx ⟨by decide, by decide⟩).mp h
    omega
  · omega
theorem jra_spec {a kd : Nat} {i v : Int} (h : jra sh m a kd i = some v) : (sh a).1 = kd ∧ 0 ≤ i ∧ i < (sh a).2 ∧ v = m a i.toNat := by
  unfold jra at h
  split at h
  · rename_i hc
    cases h
    exact ⟨hc.1, hc.2.1, hc.2.2, rfl⟩
  · cases h
theorem jwa_spec {a kd : Nat} {i v : Int} {m' : jm_M} (h : jwa sh m a kd i v = some m') : (sh a).1 = kd ∧ 0 ≤ i ∧ i < (sh a).2 ∧ m' = jm_up m a i.toNat v := by
  unfold jwa at h
  split at h
  · rename_i hc
    cases h
    exact ⟨hc.1, hc.2.1, hc.2.2, rfl⟩
  · cases h
theorem jr_ial (C : jCx p s mi args meth c cc nL own rt D cy) (S : jHs D cy B sz sh A H0 H locs m) {a : Nat} {i v : Int} (hi : jIn i) (hv : jra sh m a 13 i = some v) (hdg : decode cc pc = .ok (.iaload, 1)) (kk : W p l e R s mi args below meth c H locs cells slots Q (F0 mi (pc + 1) ls (jI v :: st))) : W p l e R s mi args below meth c H locs cells slots Q (F0 mi pc ls (jI i :: jR B a :: st)) := by
  obtain ⟨h1, h2, h3, rfl⟩ := jra_spec hv
  obtain ⟨ha, he⟩ := S.at (a := a) (by rw [h1]; decide)
  rw [jR_pos ha]
  rw [jce_i _ h1 (by decide) (by decide)] at he
  obtain ⟨e1, e2⟩ := jin_of hi h2 h3
  refine va_iald C.1 C.2.1 C.2.2.2.2.2.2.2.1 S.1 (a - 1) 0 he rfl e1 hdg ?_
  rw [e2]
  exact kk
theorem jr_zal (C : jCx p s mi args meth c cc nL own rt D cy) (S : jHs D cy B sz sh A H0 H locs m) {a : Nat} {i v : Int} (hi : jIn i) (hv : jra sh m a 14 i = some v) (hdg : decode cc pc = .ok (.baload, 1)) (kk : W p l e R s mi args below meth c H locs cells slots Q (F0 mi (pc + 1) ls (jI v :: st))) : W p l e R s mi args below meth c H locs cells slots Q (F0 mi pc ls (jI i :: jR B a :: st)) := by
  obtain ⟨h1, h2, h3, rfl⟩ := jra_spec hv
  obtain ⟨ha, he⟩ := S.at (a := a) (by rw [h1]; decide)
  rw [jR_pos ha]
  rw [jce_i _ h1 (by decide) (by decide)] at he
  obtain ⟨e1, e2⟩ := jin_of hi h2 h3
  refine va_zald C.1 C.2.1 C.2.2.2.2.2.2.2.1 S.1 (a - 1) 1 he rfl e1 hdg ?_
  rw [e2]
  exact kk
theorem jr_aal (C : jCx p s mi args meth c cc nL own rt D cy) (S : jHs D cy B sz sh A H0 H locs m) {a kd : Nat} {i v : Int} (hkd : kd = 15 ∨ kd = 16) (hi : jIn i) (hv : jra sh m a kd i = some v) (hdg : decode cc pc = .ok (.aaload, 1)) (kk : W p l e R s mi args below meth c H locs cells slots Q (F0 mi (pc + 1) ls (jR B v.toNat :: st))) : W p l e R s mi args below meth c H locs cells slots Q (F0 mi pc ls (jI i :: jR B a :: st)) := by
  obtain ⟨h1, h2, h3, rfl⟩ := jra_spec hv
  obtain ⟨ha, he⟩ := S.at (a := a) (by rw [h1]; omega)
  rw [jR_pos ha]
  rw [jce_r _ h1 (by omega)] at he
  obtain ⟨e1, e2⟩ := jin_of hi h2 h3
  have hlt : (Int32.ofInt i).toNatClampNeg < (sh a).2 := Nat.not_le.mp fun q => e1 (Or.inr q)
  have hP := S.1 (a - 1) _ he
  have hK := C.2.2.2.2.2.2.2.1
  have key : ∀ ty : FieldType, ty.isReference = true → ArrOfT s (cy kd) ty → W p l e R s mi args below meth c H locs cells slots Q (F0 mi pc ls (jI i :: .ref (B + a) :: st)) := by
    intro ty hty hA
    refine W.aald (v := va_rf (jO B (m a (Int32.ofInt i).toNatClampNeg).toNat)) (ty := ty) C.1 C.2.1 hP (hA (sh a).2 (fun j => va_rf (jO B (m a j).toNat))) hty (fun q => by cases q) (by show ¬ (_ < 0 ∨ (arrV _ _ _).slots.size ≤ _); rw [arrV_size]; exact e1) (by show (arrV _ _ _).slots[_]? = _; rw [arrV_read _ _ hlt]) rfl rfl hdg ?_
    rw [e2]
    exact kk
  rcases hkd with rfl | rfl
  · exact key (.object "LongestRuns$Reached") rfl (hK.2 2 _ rfl).1
  · exact key (.array .int) rfl (hK.2 3 _ rfl).1
theorem jr_ias (C : jCx p s mi args meth c cc nL own rt D cy) (S : jHs D cy B sz sh A H0 H locs m) {a : Nat} {i x : Int} (hi : jIn i) (hx : jIn x) {m' : jm_M} (hw : jwa sh m a 13 i x = some m') (hdg : decode cc pc = .ok (.iastore, 1)) (kk : ∀ (H1 : Heap) (locs1 : List Loc), jHs D cy B sz sh A H0 H1 locs1 m' → W p l e R s mi args below meth c H1 locs1 cells slots Q (F0 mi (pc + 1) ls st)) : W p l e R s mi args below meth c H locs cells slots Q (F0 mi pc ls (jI x :: jI i :: jR B a :: st)) := by
  obtain ⟨h1, h2, h3, rfl⟩ := jwa_spec hw
  have hle : (sh a).1 ≤ 16 := by rw [h1]; decide
  obtain ⟨ha, he⟩ := S.at (a := a) hle
  obtain ⟨b1, b2⟩ := S.2.2.2.1 a hle
  rw [jR_pos ha]
  rw [jce_i _ h1 (by decide) (by decide)] at he
  obtain ⟨e1, e2⟩ := jin_of hi h2 h3
  have hD := jwd_D (cy := cy) (B := B) (sh := sh) (m := m) (sz := sz) S.2.2.2.2
  refine va_iast C.1 C.2.1 C.2.2.2.2.2.2.2.1 S.1 hD S.2.1 (a - 1) 0 he rfl e1 hdg (fun H1 locs1 hP1 _ hS1 => ?_)
  refine kk H1 locs1 ⟨?_, hS1, jIn_up S.2.2.1 hx, S.2.2.2⟩
  rw [jwd_set (k := i.toNat) (x := x) b1 b2 (by
    rw [jce_i _ h1 (by decide) (by decide), jm_up_row, e2]
    congr 3
    congr 1
    funext j
    unfold upd
    by_cases hj : j = i.toNat <;> simp [hj])] at hP1
  exact hP1
theorem jr_zas (C : jCx p s mi args meth c cc nL own rt D cy) (S : jHs D cy B sz sh A H0 H locs m) {a : Nat} {i x : Int} (hi : jIn i) {x' : Int} (hz : jzb x = some x') {m' : jm_M} (hw : jwa sh m a 14 i x' = some m') (hdg : decode cc pc = .ok (.bastore, 1)) (kk : ∀ (H1 : Heap) (locs1 : List Loc), jHs D cy B sz sh A H0 H1 locs1 m' → W p l e R s mi args below meth c H1 locs1 cells slots Q (F0 mi (pc + 1) ls st)) : W p l e R s mi args below meth c H locs cells slots Q (F0 mi pc ls (jI x :: jI i :: jR B a :: st)) := by
  obtain ⟨h1, h2, h3, rfl⟩ := jwa_spec hw
  have hle : (sh a).1 ≤ 16 := by rw [h1]; decide
  obtain ⟨ha, he⟩ := S.at (a := a) hle
  obtain ⟨b1, b2⟩ := S.2.2.2.1 a hle
  rw [jR_pos ha]
  rw [jce_i _ h1 (by decide) (by decide)] at he
  obtain ⟨e1, e2⟩ := jin_of hi h2 h3
  have hD := jwd_D (cy := cy) (B := B) (sh := sh) (m := m) (sz := sz) S.2.2.2.2
  have hb : jIn x ∧ x = x' ∧ vp_nar .boolean (Int32.ofInt x) = Int32.ofInt x := by
    unfold jzb at hz
    split at hz
    · rename_i hc
      cases hz
      rcases hc with rfl | rfl
      · exact ⟨⟨by decide, by decide⟩, rfl, by decide⟩
      · exact ⟨⟨by decide, by decide⟩, rfl, by decide⟩
    · cases hz
  obtain ⟨hx, rfl, hn⟩ := hb
  refine va_zast C.1 C.2.1 C.2.2.2.2.2.2.2.1 S.1 hD S.2.1 (a - 1) 1 he rfl e1 hdg (fun H1 locs1 hP1 _ hS1 => ?_)
  refine kk H1 locs1 ⟨?_, hS1, jIn_up S.2.2.1 hx, S.2.2.2⟩
  rw [jwd_set (k := i.toNat) (x := x) b1 b2 (by
    rw [jce_i _ h1 (by decide) (by decide), jm_up_row, e2, hn]
    congr 3
    congr 1
    funext j
    unfold upd
    by_cases hj : j = i.toNat <;> simp [hj])] at hP1
  exact hP1
theorem jr_alen (C : jCx p s mi args meth c cc nL own rt D cy) (S : jHs D cy B sz sh A H0 H locs m) {a : Nat} {v : Int} (hv : jlen sh a = some v) (hdg : decode cc pc = .ok (.arraylength, 1)) (kk : W p l e R s mi args below meth c H locs cells slots Q (F0 mi (pc + 1) ls (jI v :: st))) : W p l e R s mi args below meth c H locs cells slots Q (F0 mi pc ls (jR B a :: st)) := by
  unfold jlen at hv
  split at hv
  · rename_i hc
    cases hv
    obtain ⟨ha, he⟩ := S.at (a := a) hc.2.1
    rw [jR_pos ha]
    have hK := C.2.2.2.2.2.2.2.1
    rcases (show (sh a).1 = 13 ∨ (sh a).1 = 14 ∨ (sh a).1 = 15 ∨ (sh a).1 = 16 by omega) with h | h | h | h
    · rw [jce_i _ h (by decide) (by decide)] at he
      exact va_alen C.1 C.2.1 hK S.1 (a - 1) 0 he rfl (Int32.ofInt_eq_ofNat).symm hdg kk
    · rw [jce_i _ h (by decide) (by decide)] at he
      exact va_alen C.1 C.2.1 hK S.1 (a - 1) 1 he rfl (Int32.ofInt_eq_ofNat).symm hdg kk
    · rw [jce_r _ h (by decide)] at he
      exact va_alen C.1 C.2.1 hK S.1 (a - 1) 2 he rfl (Int32.ofInt_eq_ofNat).symm hdg kk
    · rw [jce_r _ h (by decide)] at he
      exact va_alen C.1 C.2.1 hK S.1 (a - 1) 3 he rfl (Int32.ofInt_eq_ofNat).symm hdg kk
  · cases hv
end JHEAP
