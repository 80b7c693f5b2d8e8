section JALLOC3
variable {p : Program} {l : Launch} {e : Env} {s : State} {mi : MethodId} {args : Array Value} {below : List Frame} {meth : Method} {c : Code} {H H0 : Heap} {locs : List Loc} {Q : State → Prop} {cc : ByteArray} {nL : Nat} {own : String} {rt : Option FieldType} {D : va_G} {cy : Nat → ClassId} {B c0 n0 Lm : Nat} {R : Room} {cells slots : Nat} {g : jm_G} {pc : Nat} {ls : Array Slot} {lv : List (Option Value)} {st : List Value}
theorem jHA.mem (S : jHA D cy B c0 n0 Lm g s H0 H locs) {H1 : Heap} {locs1 : List Loc} {m' : jm_M} (S1 : jHs D cy B g.1 g.2.1 (fun q => B < q) H0 H1 locs1 m') (hz : ∀ a, g.1 < a → ∀ i, m' a i = 0) (hg : 1 ≤ g.1) : jHA D cy B c0 n0 Lm (g.1, g.2.1, m') s H0 H1 locs1 := by
  obtain ⟨h1, h2, h3, h4, h5, h6, h0⟩ := S
  exact ⟨S1, hz, h3, h4, h5, h6, fun h => by have h : g.1 = 0 := h; omega⟩
theorem jup_z {m : jm_M} {sz a k : Nat} {v : Int} (hz : ∀ a, sz < a → ∀ i, m a i = 0) (ha : a ≤ sz) : ∀ b, sz < b → ∀ i, jm_up m a k v b i = 0 := by
  intro b hb i
  unfold jm_up
  rw [if_neg (by omega)]
  exact hz b hb i
theorem jHA.fits (S : jHA D cy B c0 n0 Lm g s H0 H locs) {a : Nat} (h : (g.2.1 a).1 ≤ 16) : 1 ≤ a ∧ a ≤ g.1 := S.1.2.2.2.1 a h
theorem jgf_spec {a kd n k : Nat} {v : Int} {g' : jm_G} (h : jgf g a kd n k v = some g') : ∃ m', jwf g.2.1 g.2.2 a kd n k v = some m' ∧ g' = (g.1, g.2.1, m') ∧ g.2.1 a = (kd, n) ∧ m' = jm_up g.2.2 a k v := by
  obtain ⟨m', h1, h2⟩ := jbind h
  have h3 := h1
  unfold jwf at h3
  split at h3
  · exact ⟨m', h1, (Option.some.inj h2).symm, by assumption, (Option.some.inj h3).symm⟩
  · cases h3
theorem jgr_spec {a kd n k r : Nat} {g' : jm_G} (h : jgr g a kd n k r = some g') : ∃ m', jwr g.2.1 g.2.2 a kd n k r = some m' ∧ g' = (g.1, g.2.1, m') ∧ g.2.1 a = (kd, n) ∧ r ≤ 2147483647 ∧ m' = jm_up g.2.2 a k (r : Int) := by
  obtain ⟨m', h1, h2⟩ := jbind h
  have h3 := h1
  unfold jwr at h3
  split at h3
  · rename_i hc
    exact ⟨m', h1, (Option.some.inj h2).symm, hc.1, hc.2, (Option.some.inj h3).symm⟩
  · cases h3
theorem jga_spec {a kd : Nat} {i v : Int} {g' : jm_G} (h : jga g a kd i v = some g') : ∃ m', jwa g.2.1 g.2.2 a kd i v = some m' ∧ g' = (g.1, g.2.1, m') ∧ (g.2.1 a).1 = kd ∧ m' = jm_up g.2.2 a i.toNat v := by
  obtain ⟨m', h1, h2⟩ := jbind h
  obtain ⟨a1, -, -, a2⟩ := jwa_spec h1
  exact ⟨m', h1, (Option.some.inj h2).symm, a1, a2⟩
theorem jr_gI (C : jCx p s mi args meth c cc nL own rt D cy) (S : jHA D cy B c0 n0 Lm g s H0 H locs) {a kd n k idx : Nat} {x : Int} (hl : jFl own idx kd n k) (hp : jFp kd n k .int false) (hf : jfr kd k = false) (hx : jIn x) {g' : jm_G} (hw : jgf g a kd n k x = some g') (hdg : decode cc pc = .ok (.putfield idx, 3)) (kk : ∀ (H1 : Heap) (locs1 : List Loc), jHA D cy B c0 n0 Lm g' s H0 H1 locs1 → W p l e R s mi args below meth c H1 locs1 (c0 + (g'.1 - n0)) (jq (c0 + (g'.1 - n0))) Q (F0 mi (pc + 3) ls st)) : W p l e R s mi args below meth c H locs (c0 + (g.1 - n0)) (jq (c0 + (g.1 - n0))) Q (F0 mi pc ls (jI x :: jR B a :: st)) := by
  obtain ⟨m', h1, rfl, h2, rfl⟩ := jgf_spec hw
  have hkd : kd < 13 := by obtain ⟨_, _, h, -⟩ := hl; exact jkd h
  have hle := S.fits (a := a) (by rw [h2]; show kd ≤ 16; omega)
  exact jr_putI C S.1 hl hp hf hx h1 hdg (fun H1 locs1 S1 => kk H1 locs1 (S.mem S1 (jup_z S.2.1 hle.2) (by omega)))
theorem jr_gR (C : jCx p s mi args meth c cc nL own rt D cy) (S : jHA D cy B c0 n0 Lm g s H0 H locs) {a kd n k idx r : Nat} {Cr : String} (hl : jFl own idx kd n k) (hp : jFp kd n k (.object Cr) false) (hf : jfr kd k = true) {g' : jm_G} (hw : jgr g a kd n k r = some g') (hdg : decode cc pc = .ok (.putfield idx, 3)) (kk : ∀ (H1 : Heap) (locs1 : List Loc), jHA D cy B c0 n0 Lm g' s H0 H1 locs1 → W p l e R s mi args below meth c H1 locs1 (c0 + (g'.1 - n0)) (jq (c0 + (g'.1 - n0))) Q (F0 mi (pc + 3) ls st)) : W p l e R s mi args below meth c H locs (c0 + (g.1 - n0)) (jq (c0 + (g.1 - n0))) Q (F0 mi pc ls (jR B r :: jR B a :: st)) := by
  obtain ⟨m', h1, rfl, h2, h3, rfl⟩ := jgr_spec hw
  have hkd : kd < 13 := by obtain ⟨_, _, h, -⟩ := hl; exact jkd h
  have hle := S.fits (a := a) (by rw [h2]; show kd ≤ 16; omega)
  exact jr_putW C S.1 hl hp hf h1 hdg (fun H1 locs1 S1 => kk H1 locs1 (S.mem S1 (jup_z S.2.1 hle.2) (by omega)))
def jFo (own : String) (kd n k : Nat) : Prop := ∀ (Cn : String) (T : u_T), vwCl[kd]? = some (Cn, T, n) → (T k).1 = own
theorem jr_putFin {sz : Nat} {sh : jm_S} {A : Nat → Prop} {m : jm_M} (C : jCx p s mi args meth c cc nL own rt D cy) (hin : meth.name = "<init>") (S : jHs D cy B sz sh A H0 H locs m) {a kd n k idx r : Nat} {ty : FieldType} (hl : jFl own idx kd n k) (ho : jFo own kd n k) (hp : jFp kd n k ty true) (hf : jfr kd k = true) (hty : ∀ V : Value, (∃ x, V = .ref x) ∨ V = .null → narrow ty V = V ∧ fits ty V = true) {m' : jm_M} (hw : jwr sh m a kd n k r = some m') (hdg : decode cc pc = .ok (.putfield idx, 3)) (kk : ∀ (H1 : Heap) (locs1 : List Loc), jHs D cy B sz sh A H0 H1 locs1 m' → W p l e R s mi args below meth c H1 locs1 cells slots Q (F0 mi (pc + 3) ls st)) : W p l e R s mi args below meth c H locs cells slots Q (F0 mi pc ls (jR B r :: jR B a :: st)) := by
  obtain ⟨Cn, T, h1, h2, h3, h4⟩ := hl
  obtain ⟨f1, f2, ⟨ty0, f3⟩, f4⟩ := hp Cn T h1
  unfold jwr at hw
  split at hw
  · rename_i hs0
    obtain ⟨hs, hr⟩ := hs0
    cases hw
    have hkd := jkd h1
    have hle : (sh a).1 ≤ 16 := by rw [hs]; show kd ≤ 16; omega
    obtain ⟨ha, he⟩ := S.at (a := a) hle
    obtain ⟨b1, b2⟩ := S.2.2.2.1 a hle
    rw [jR_pos ha]
    rw [jce_o _ hs hkd] at he
    have hD := jwd_D (cy := cy) (B := B) (sh := sh) (m := m) (sz := sz) S.2.2.2.2
    have hV : jcv B kd (fun _ => (r : Int)) k = jR B r := by simp [jcv, hf]
    refine va_putF C.1 C.2.1 (fun w hw => C.2.2.2.2.1 w hw) h4 ty0 f3 f4 C.2.2.2.1 C.2.2.2.2.2.2.2.1 S.1 hD S.2.1 (a - 1) he h1 k h2 (C.2.2.2.2.1 _ h3) (fun _ h9 => h9) f1 hin (ho Cn T h1) f2 (hty _ (jR_or B r)).1 (hty _ (jR_or B r)).2 (by simpa using h2) hdg (fun H1 locs1 hP1 _ hS1 => ?_)
    refine kk H1 locs1 ⟨?_, hS1, jIn_up S.2.2.1 ⟨by omega, by omega⟩, S.2.2.2⟩
    rw [← hV, jcv_set h2, jwd_set b1 b2 (by rw [jce_o _ hs hkd, jm_up_row])] at hP1
    exact hP1
  · cases hw
theorem jr_gF (C : jCx p s mi args meth c cc nL own rt D cy) (hin : meth.name = "<init>") (S : jHA D cy B c0 n0 Lm g s H0 H locs) {a kd n k idx r : Nat} {ty : FieldType} (hl : jFl own idx kd n k) (ho : jFo own kd n k) (hp : jFp kd n k ty true) (hf : jfr kd k = true) (hty : ∀ V : Value, (∃ x, V = .ref x) ∨ V = .null → narrow ty V = V ∧ fits ty V = true) {g' : jm_G} (hw : jgr g a kd n k r = some g') (hdg : decode cc pc = .ok (.putfield idx, 3)) (kk : ∀ (H1 : Heap) (locs1 : List Loc), jHA D cy B c0 n0 Lm g' s H0 H1 locs1 → W p l e R s mi args below meth c H1 locs1 (c0 + (g'.1 - n0)) (jq (c0 + (g'.1 - n0))) Q (F0 mi (pc + 3) ls st)) : W p l e R s mi args below meth c H locs (c0 + (g.1 - n0)) (jq (c0 + (g.1 - n0))) Q (F0 mi pc ls (jR B r :: jR B a :: st)) := by
  obtain ⟨m', h1, rfl, h2, h3, rfl⟩ := jgr_spec hw
  have hkd : kd < 13 := by obtain ⟨_, _, h, -⟩ := hl; exact jkd h
  have hle := S.fits (a := a) (by rw [h2]; show kd ≤ 16; omega)
  exact jr_putFin C hin S.1 hl ho hp hf hty h1 hdg (fun H1 locs1 S1 => kk H1 locs1 (S.mem S1 (jup_z S.2.1 hle.2) (by omega)))
theorem jty_o {C : String} : ∀ V : Value, (∃ x, V = .ref x) ∨ V = .null → narrow (.object C) V = V ∧ fits (.object C) V = true := by
  intro V h
  rcases h with ⟨x, rfl⟩ | rfl <;> exact ⟨rfl, rfl⟩
theorem jty_a {t : FieldType} : ∀ V : Value, (∃ x, V = .ref x) ∨ V = .null → narrow (.array t) V = V ∧ fits (.array t) V = true := by
  intro V h
  rcases h with ⟨x, rfl⟩ | rfl <;> exact ⟨rfl, rfl⟩
theorem jr_gA (C : jCx p s mi args meth c cc nL own rt D cy) (S : jHA D cy B c0 n0 Lm g s H0 H locs) {a : Nat} {i x : Int} (hi : jIn i) (hx : jIn x) {g' : jm_G} (hw : jga g a 13 i x = some g') (hdg : decode cc pc = .ok (.iastore, 1)) (kk : ∀ (H1 : Heap) (locs1 : List Loc), jHA D cy B c0 n0 Lm g' s H0 H1 locs1 → W p l e R s mi args below meth c H1 locs1 (c0 + (g'.1 - n0)) (jq (c0 + (g'.1 - n0))) Q (F0 mi (pc + 1) ls st)) : W p l e R s mi args below meth c H locs (c0 + (g.1 - n0)) (jq (c0 + (g.1 - n0))) Q (F0 mi pc ls (jI x :: jI i :: jR B a :: st)) := by
  obtain ⟨m', h1, rfl, h2, rfl⟩ := jga_spec hw
  have hle := S.fits (a := a) (by rw [h2]; decide)
  exact jr_ias C S.1 hi hx h1 hdg (fun H1 locs1 S1 => kk H1 locs1 (S.mem S1 (jup_z S.2.1 hle.2) (by omega)))
theorem jr_gQ (C : jCx p s mi args meth c cc nL own rt D cy) (S : jHA D cy B c0 n0 Lm g s H0 H locs) {a r : Nat} {i : Int} (hi : jIn i) {u : Unit} (hr : jck g.2.1 r 4 4 = some u) {g' : jm_G} (hw : jga g a 15 i (r : Int) = some g') (hdg : decode cc pc = .ok (.aastore, 1)) (kk : ∀ (H1 : Heap) (locs1 : List Loc), jHA D cy B c0 n0 Lm g' s H0 H1 locs1 → W p l e R s mi args below meth c H1 locs1 (c0 + (g'.1 - n0)) (jq (c0 + (g'.1 - n0))) Q (F0 mi (pc + 1) ls st)) : W p l e R s mi args below meth c H locs (c0 + (g.1 - n0)) (jq (c0 + (g.1 - n0))) Q (F0 mi pc ls (jR B r :: jI i :: jR B a :: st)) := by
  obtain ⟨m', h1, rfl, h2, rfl⟩ := jga_spec hw
  obtain ⟨-, b2, b3, -⟩ := jwa_spec h1
  have hr := jck_spec hr
  have hle := S.fits (a := a) (by rw [h2]; decide)
  have hlr := S.fits (a := r) (by rw [hr]; decide)
  have h6 := S.2.2.2.2.2.1
  have h5 := S.2.2.2.2.1
  obtain ⟨ha, he⟩ := S.1.at (a := a) (by rw [h2]; decide)
  obtain ⟨hr0, her⟩ := S.1.at (a := r) (by rw [hr]; decide)
  rw [jR_pos ha, jR_pos hr0]
  rw [jce_r _ h2 (by decide)] at he
  rw [jce_o _ hr (by decide)] at her
  obtain ⟨e1, e2⟩ := jin_of hi b2 b3
  have hK := C.2.2.2.2.2.2.2.1
  have hD := jwd_D (cy := cy) (B := B) (sh := g.2.1) (m := g.2.2) (sz := g.1) S.1.2.2.2.2
  refine va_astq C.1 C.2.1 hK S.1.1 hD S.1.2.1 (a - 1) 2 (r - 1) 4 (r := (RX4, TX4, 4)) he rfl her rfl e1 hdg (fun H1 locs1 hP1 _ hS1 => ?_)
  refine kk H1 locs1 (S.mem ⟨?_, hS1, jIn_up S.1.2.2.1 ⟨by omega, by omega⟩, S.1.2.2.2⟩ (jup_z S.2.1 hle.2) (by omega))
  rw [jwd_set (k := i.toNat) (x := (r : Int)) hle.1 hle.2 (by
    rw [jce_r _ h2 (by decide), jm_up_row, e2]
    refine congrArg (fun f => Sum.inl (cy 15, (g.2.1 a).2, Sum.inr (Sum.inr (Sum.inr (Sum.inr f))))) (funext fun j => ?_)
    unfold va_up
    by_cases hj : j = i.toNat
    · rw [if_pos hj]
      simp [hj, jO, hr0]
    · rw [if_neg hj]
      simp [hj])] at hP1
  exact hP1
/-- Object's own constructor -/
theorem jr_gobj (C : jCx p s mi args meth c cc nL own rt D cy) (L : jL ls lv) {idx a : Nat} (hw : Cond.methodLink own idx Lib.objectInit ∈ jB) (hw2 : Cond.instanceMethod Lib.objectInit ∈ jB) (hw3 : Cond.code Lib.objectInit ⟨#[0xb1]⟩ 1 none ∈ jB) (hnl : lv.length = nL) (ha : a ≠ 0) (hdg : decode cc pc = .ok (.invokespecial idx, 3)) (hf : 1 ≤ R.frames) (hlo : (st.map fun v => v.category).sum + 12 ≤ R.locals) (kk : W p l e R s mi args below meth c H locs cells slots Q (F0 mi (pc + 3) ls st)) : W p l e R s mi args below meth c H locs cells slots Q (F0 mi pc ls (jR B a :: st)) := by
  have hts := C.2.2.2.2.1
  rw [jR_pos ha]
  refine W.objInit C.1 C.2.1 C.2.2.2.1 (hts _ hw) (hts _ hw2) (hts _ hw3) rfl (by rw [C.2.2.1]; show ls.size = nL; rw [L.1, hnl]) rfl hdg hf (by show 2 * 0 + _ + 12 ≤ _; omega) kk
/-! contracts of constructors -/
def jWA (D : va_G) (cy : Nat → ClassId) (B : Nat) (g : jm_G) (U : State) : Prop := va_P D vwCl (jwd cy B g.2.1 g.2.2 g.1) U.heap ∧ jK D cy U ∧ jAO U ∧ (∀ a i, jIn (g.2.2 a i)) ∧ jok g.2.1 g.1 ∧ jz g
def jPcA (D : va_G) (cy : Nat → ClassId) (B : Nat) (g : jm_G) (as : List Value) : Array Value → State → Prop := fun v U => v = as.toArray ∧ jWA D cy B g U ∧ U.heap.size = B + g.1 + 1
def jQcA (D : va_G) (cy : Nat → ClassId) (B : Nat) (g' : jm_G) : Array Value → State → Outcome → State → Prop := fun _ st oc t => oc = .returned none ∧ jWA D cy B g' t ∧ va_F (fun q => B < q) st t
def jCtA (l : Launch) (D : va_G) (cy : Nat → ClassId) (B k Lm : Nat) (y : MethodName) (yc : ByteArray) (yn : Nat) (as : List Value) (g g' : jm_G) : Prop :=
  Met l y (Cond.code y yc yn none :: jB) (jrm k (Lm - g.1) (jq (Lm - g.1))) (jPcA D cy B g as) (jQcA D cy B g') (Lm - g.1) (jq (Lm - g.1)) (fun q => B < q)
theorem jAO.same {s U : State} (h : jAO s) (e : s.vm = U.vm) : jAO U := by
  refine ⟨va_AO.moved (by rw [e]; exact Vm.Alike.refl _) h.1, ?_⟩
  have h2 := h.2
  have h3 : (Cond.arrayOver (.array .int)).before #[] (s.setVm U.vm) = true := by rw [← e, State.setVm_self]; exact h2
  exact h3
theorem jPcA_blind (D : va_G) (cy : Nat → ClassId) (B : Nat) (g : jm_G) (as : List Value) : FrameBlind (jPcA D cy B g as) := fun a U g2 mk q => by
  obtain ⟨q0, ⟨q1, q2, q3, q4⟩, q5⟩ := q
  exact ⟨q0, ⟨q1, q2.same (U := U.calling g2 mk a) rfl, q3.same (U := U.calling g2 mk a) rfl, q4⟩, q5⟩
end JALLOC3
