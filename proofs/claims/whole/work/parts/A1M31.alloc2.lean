theorem jr_outer (c : ClassId) (N h0 : Nat) : ∀ i : Nat, Jvm.Free.Multi.outerC c N h0 i = arrV c N (fun j => va_rf (if j < i then some (h0 + 1 + j) else none))
  | 0 => by
    show ({ cls := c, slots := Array.replicate N .null, vm := .none } : Cell) = _
    rw [arrV_new]
    refine congrArg (arrV c N) (funext fun j => ?_)
    simp [va_rf]
  | i + 1 => by
    show (Jvm.Free.Multi.outerC c N h0 i).setSlot i (.ref (h0 + 1 + i)) = _
    rw [jr_outer c N h0 i, arrV_store]
    refine congrArg (arrV c N) (funext fun j => ?_)
    by_cases e : j = i
    · subst e
      simp [updV, va_rf]
    · by_cases h : j < i
      · simp [updV, e, h, Nat.lt_succ_of_lt h]
      · simp [updV, e, h, show ¬ j < i + 1 by omega]
section JALLOC2
variable {p : Program} {l : Launch} {e : Env} {s : State} {mi : MethodId} {args : Array Value} {below : List Frame} {meth : Method} {c : Code} {H H0 : Heap} {locs : List Loc} {Q : State → Prop} {cc : ByteArray} {nL : Nat} {own : String} {rt : Option FieldType} {D : va_G} {cy : Nat → ClassId} {B c0 n0 Lm : Nat} {R : Room} {g : jm_G} {pc : Nat} {ls : Array Slot} {lv : List (Option Value)} {st : List Value}
theorem jg2_spec {x y : Int} {g' : jm_G} (hg : jg2 Lm g x y = some g') : (0 ≤ x ∧ 0 ≤ y ∧ x ≤ 60 ∧ y ≤ 4000 ∧ g.1 + 1 + x.toNat ≤ Lm) ∧ g' = (g.1 + 1 + x.toNat, (fun a => if a = g.1 + 1 then (16, x.toNat) else if g.1 + 1 < a ∧ a ≤ g.1 + 1 + x.toNat then (13, y.toNat) else g.2.1 a), (fun a i => if a = g.1 + 1 ∧ i < x.toNat then ((g.1 + 2 + i : Nat) : Int) else g.2.2 a i)) := by
  unfold jg2 at hg
  split at hg
  · rename_i hc
    exact ⟨hc, (Option.some.inj hg).symm⟩
  · cases hg
theorem jgrow2 (S : jHA D cy B c0 n0 Lm g s H0 H locs) {x y : Int} {g' : jm_G} (hg : jg2 Lm g x y = some g') {H1 : Heap} (hsz : H.size = B + g.1 + 1) (z1 : H1.size = B + g.1 + 1 + 1 + x.toNat) (o1 : ∀ q, q < B + g.1 + 1 → H1[q]? = H[q]?)
    (e1 : H1[B + g.1 + 1]? = some (vp_cell (cy 16) (x.toNat, .inr (.inr (.inr (.inr (fun i => if i < x.toNat then some (B + g.1 + 1 + 1 + i) else none))))))) (e2 : ∀ j, j < x.toNat → H1[B + g.1 + 1 + 1 + j]? = some (vp_cell (cy 13) (y.toNat, .inl (fun _ => Int32.ofInt 0)))) : jHA D cy B c0 n0 Lm g' s H0 H1 locs ∧ g'.1 = g.1 + 1 + x.toNat := by
  obtain ⟨hc, rfl⟩ := jg2_spec hg
  obtain ⟨⟨hP, hS, hR, hok, hA⟩, hz, h3, h4, h5, h6, -⟩ := S
  refine ⟨⟨⟨?_, ?_, ?_, ?_, ?_⟩, ?_, h3, ?_, hc.2.2.2.2, h6, fun h => by simp at h⟩, rfl⟩
  · intro i q hq
    obtain ⟨hi, rfl⟩ := jwd_get hq
    simp only at hi ⊢
    by_cases c1 : i < g.1
    · have e0 := jwd_at (cy := cy) (B := B) (sh := g.2.1) (m := g.2.2) (sz := g.1) (a := i + 1) (by omega) (by omega)
      have h := hP _ _ e0
      rw [if_neg (by omega), if_neg (by omega)]
      have e9 : (fun j => if i + 1 = g.1 + 1 ∧ j < x.toNat then ((g.1 + 2 + j : Nat) : Int) else g.2.2 (i + 1) j) = g.2.2 (i + 1) := by
        funext j
        rw [if_neg (by omega)]
      rw [e9]
      exact h.kept (o1 _ (by have := h.lt; simp only at this ⊢; omega))
    · by_cases c2 : i = g.1
      · subst c2
        rw [if_pos rfl, jce_r (kd := 16) _ rfl (by decide)]
        show H1[_]? = some _
        rw [show B + (g.1 + 1) = B + g.1 + 1 by omega, e1]
        refine congrArg (fun f => some (vp_cell (cy 16) (x.toNat, .inr (.inr (.inr (.inr f)))))) (funext fun j => ?_)
        simp only [true_and]
        by_cases hj : j < x.toNat
        · rw [if_pos hj, if_pos hj]
          unfold jO
          rw [if_neg (by omega)]
          congr 1
          omega
        · rw [if_neg hj, if_neg hj, hz _ (by omega)]
          rfl
      · rw [if_neg (by omega), if_pos ⟨by omega, by omega⟩, jce_i (kd := 13) _ rfl (by decide) (by decide)]
        show H1[_]? = some _
        have h := e2 (i - g.1 - 1) (by omega)
        rw [show B + (i + 1) = B + g.1 + 1 + 1 + (i - g.1 - 1) by omega, h]
        refine congrArg (fun f => some (vp_cell (cy 13) (y.toNat, .inl f))) (funext fun j => ?_)
        rw [if_neg (by omega), hz _ (by omega)]
  · exact ⟨by have := hS.1; omega, fun q h1 h2 => (o1 q (by have := hS.1; omega)).trans (hS.2.1 q h1 h2), hS.2.2⟩
  · intro a i
    simp only
    split
    · exact ⟨by omega, by omega⟩
    · exact hR a i
  · intro a ha
    simp only at ha ⊢
    by_cases e : a = g.1 + 1
    · exact ⟨by omega, by omega⟩
    · rw [if_neg e] at ha
      by_cases e3 : g.1 + 1 < a ∧ a ≤ g.1 + 1 + x.toNat
      · exact ⟨by omega, e3.2⟩
      · rw [if_neg e3] at ha
        have := hok a ha
        exact ⟨this.1, by omega⟩
  · intro a h1 h2
    show B < B + a
    omega
  · intro a ha i
    simp only at ha ⊢
    rw [if_neg (by omega)]
    exact hz a (by omega) i
  · show n0 ≤ g.1 + 1 + x.toNat
    omega
theorem jr_new2 (HR : jRo R c0 n0 Lm) (C : jCx p s mi args meth c cc nL own rt D cy) (hO : jAO s) (S : jHA D cy B c0 n0 Lm g s H0 H locs) {idx : Nat} {x y : Int} (hx : jIn x) (hy : jIn y) (hw : Cond.classLink own idx "[[I" ∈ jB) (hw2 : Cond.arrayClass .int ∈ jB) {g' : jm_G} (hg : jg2 Lm g x y = some g') (hdg : decode cc pc = .ok (.multianewarray idx 2, 4)) (kk : ∀ H1 : Heap, jHA D cy B c0 n0 Lm g' s H0 H1 locs → W p l e R s mi args below meth c H1 locs (c0 + (g'.1 - n0)) (jq (c0 + (g'.1 - n0))) Q (F0 mi (pc + 4) ls (jR B (g.1 + 1) :: st))) : W p l e R s mi args below meth c H locs (c0 + (g.1 - n0)) (jq (c0 + (g.1 - n0))) Q (F0 mi pc ls (jI y :: jI x :: st)) := by
  intro T hT X
  have hsz := jsz S hT X
  have hts := C.2.2.2.2.1
  have hK := C.2.2.2.2.2.2.2.1
  obtain ⟨hc, -⟩ := jg2_spec hg
  have h4 := S.2.2.2.1
  have e0 : (Int32.ofInt x).toNatClampNeg = x.toNat := by
    unfold jIn at hx
    exact Int32.toNatClampNeg_ofInt_of_le (by omega) (by omega)
  have e9 : (Int32.ofInt y).toNatClampNeg = y.toNat := by
    unfold jIn at hy
    exact Int32.toNatClampNeg_ofInt_of_le (by omega) (by omega)
  have hneg : ∀ z : Int, jIn z → 0 ≤ z → ¬ Int32.ofInt z < 0 := fun z hz h0 q => by
    have := (jlt_iff (y := 0) hz ⟨by decide, by decide⟩).mp q
    omega
  have es : ("[" ++ (FieldType.array FieldType.int).toString) = "[[I" := by decide +kernel
  have es2 : (FieldType.array FieldType.int).toString = "[" ++ FieldType.int.toString := by decide +kernel
  have hX1 : x.toNat ≤ 60 := by omega
  have hY1 : y.toNat ≤ 4000 := by omega
  have hXY : x.toNat * y.toNat ≤ x.toNat * 4000 := Nat.mul_le_mul_left _ hY1
  have hcl : c0 + (g.1 - n0) + (1 + (Int32.ofInt x).toNatClampNeg) ≤ R.cells := by have := HR.1; rw [e0]; omega
  have hsl0 : jq (c0 + (g.1 - n0)) + (x.toNat + x.toNat * y.toNat) ≤ jq (c0 + (g.1 + 1 + x.toNat - n0)) := by unfold jq; omega
  have hsl : jq (c0 + (g.1 - n0)) + ((Int32.ofInt x).toNatClampNeg + (Int32.ofInt x).toNatClampNeg * (Int32.ofInt y).toNatClampNeg) ≤ R.slots := by
    rw [e0, e9]
    exact Nat.le_trans hsl0 (Nat.le_trans (jq_mono (b := c0 + (Lm - n0)) (by omega)) HR.2)
  have hb1 : (Int32.ofInt x).toNatClampNeg * 4 ≤ 536870912 := by rw [e0]; exact Nat.le_trans (Nat.mul_le_mul_right 4 hX1) (Nat.le_of_ble_eq_true rfl)
  have hb2 : (Int32.ofInt y).toNatClampNeg * componentBytes .int ≤ 536870912 := by rw [e9]; exact Nat.le_trans (Nat.mul_le_mul_right _ hY1) (Nat.le_of_ble_eq_true rfl)
  have hb3 : (Int32.ofInt y).toNatClampNeg ≤ 536870912 := by rw [e9]; exact Nat.le_trans hY1 (Nat.le_of_ble_eq_true rfl)
  have hcy : s.vm.findClass (FieldType.array FieldType.int).toString = some (cy 13) := by rw [es2]; exact (hK.2 0 _ rfl).2
  obtain ⟨vm₁, cA, comp, -, fA, fC, hOr, -, X', step⟩ := X.multianewarray2F C.1 C.2.2.2.1 (ty := .int) (by rw [es]; exact hts _ hw) hO.2 (hts _ hw2) (g := F0 mi pc ls (jI y :: jI x :: st)) rfl (by rw [C.2.1]; exact hdg) rfl (hneg x hx hc.1) (hneg y hy hc.2.1) hb1 hb2 hb3 rfl rfl hcl hsl
  have ec : some (cy 13) = some comp := hcy.symm.trans fC
  cases ec
  have hcA : cA = cy 16 := by
    have h2 : s.vm.findClass ("[" ++ (FieldType.array FieldType.int).toString) = some (cy 16) := (hK.2 3 _ rfl).2
    exact Option.some.inj (fA.symm.trans h2)
  subst hcA
  rw [e0, e9] at X' step
  generalize hF : Jvm.Free.Multi.fill (T.setVm vm₁) (cy 16) (cy 13) x.toNat y.toNat (defaultValue .int) x.toNat = F at X' step
  have hTh : (T.setVm vm₁).heap = H := hT
  obtain ⟨f1, f2, -, -⟩ := Jvm.Free.Multi.fill_facts (T.setVm vm₁) (cy 16) (cy 13) x.toNat y.toNat (defaultValue .int) x.toNat
  rw [hF, hTh] at f1 f2
  have hold : ∀ q : Nat, q < H.size → F.heap[q]? = H[q]? := fun q hq => by
    have := Jvm.Free.Multi.fill_old (T.setVm vm₁) (cy 16) (cy 13) x.toNat y.toNat (defaultValue .int) (a := q) (by rw [hTh]; exact hq) x.toNat
    rw [hF, hTh] at this
    exact this
  have hrow : ∀ j : Nat, j < x.toNat → F.heap[H.size + 1 + j]? = some (vp_cell (cy 13) (y.toNat, .inl (fun _ => Int32.ofInt 0))) := fun j hj => by
    have := Jvm.Free.Multi.fill_inner (T.setVm vm₁) (cy 16) (cy 13) x.toNat y.toNat (defaultValue .int) x.toNat j hj
    rw [hF, hTh] at this
    rw [this, vp_cell_i]
    exact congrArg some (arrV_new (cy 13) y.toNat (.int 0))
  have hout : Jvm.Free.Multi.outerC (cy 16) x.toNat H.size x.toNat = vp_cell (cy 16) (x.toNat, .inr (.inr (.inr (.inr (fun i => if i < x.toNat then some (H.size + 1 + i) else none))))) := by
    rw [vp_cell_q]
    exact jr_outer (cy 16) x.toNat H.size x.toNat
  rw [hout] at f2
  rw [hsz] at f1 f2 hrow hold
  obtain ⟨S', e2⟩ := jgrow2 S hg hsz (by rw [f1]) hold f2 hrow
  have h := kk F.heap S'
  rw [jR_pos (by omega), show B + (g.1 + 1) = B + g.1 + 1 by omega] at h
  obtain ⟨t, a1, b1⟩ := (W.widen (k := c0 + (g'.1 - n0)) (n := jq (c0 + (g'.1 - n0))) (cells := c0 + (g.1 - n0) + 1 + x.toNat) (slots := jq (c0 + (g.1 - n0)) + x.toNat + x.toNat * y.toNat) (by omega) (by rw [e2, Nat.add_assoc]; exact hsl0) h) F rfl X'
  refine ⟨t, step t ?_, b1⟩
  have e : T.heap.size = B + g.1 + 1 := by rw [hT, hsz]
  rw [e]
  exact a1
end JALLOC2
