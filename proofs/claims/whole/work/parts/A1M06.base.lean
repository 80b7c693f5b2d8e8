/-! memory of the pure picture: address, place, number; shapes: address, (kind, length) -/
abbrev jI (x : Int) : Value := .int (Int32.ofInt x)
def jO (B r : Nat) : Option Nat := if r = 0 then none else some (B + r)
def jR (B r : Nat) : Value := va_rf (jO B r)
theorem jR_pos {B r : Nat} (h : r ≠ 0) : jR B r = .ref (B + r) := by unfold jR jO; rw [if_neg h]; rfl
theorem jR_zero (B : Nat) : jR B 0 = .null := rfl
theorem jR_cat (B r : Nat) : (jR B r).category = 1 := by
  by_cases h : r = 0
  · subst h; rfl
  · rw [jR_pos h]; rfl
theorem jI_cat (x : Int) : (jI x).category = 1 := rfl
/-! locals: what is known of each place -/
def jL (ls : Array Slot) (lv : List (Option Value)) : Prop := ls.size = lv.length ∧ lv_wf ls ∧ ∀ (i : Nat) (v : Value), lv[i]? = some (some v) → ls[i]? = some (.val v) ∧ v.category = 1
theorem jL.at {ls : Array Slot} {lv : List (Option Value)} (h : jL ls lv) {i : Nat} {v : Value} (hi : lv[i]? = some (some v)) : ls[i]? = some (.val v) := (h.2.2 i v hi).1
theorem jL.has {ls : Array Slot} {lv : List (Option Value)} (h : jL ls lv) (l : List (Nat × Value)) (hl : ∀ q ∈ l, lv[q.1]? = some (some q.2)) : lv_has ls lv.length l := ⟨h.1, h.2.1, fun q hq => (h.2.2 q.1 q.2 (hl q hq)).1⟩
theorem jL.store {ls : Array Slot} {lv : List (Option Value)} (h : jL ls lv) {i : Nat} {v : Value} (hi : i < lv.length) (hc : v.category = 1) : ∃ ls', storeLocals ls i v = some ls' ∧ jL ls' (lv.set i (some v)) := by
  obtain ⟨ls', e', h'⟩ := lv_store1 (v := v) (h.has [] (fun _ h => by cases h)) hi hc
  refine ⟨ls', e', by rw [List.length_set]; exact h'.1, h'.2.1, fun j u hj => ?_⟩
  rw [List.getElem?_set] at hj
  by_cases e : i = j
  · subst e
    rw [if_pos rfl, if_pos hi] at hj
    cases hj
    exact ⟨h'.2.2 (i, v) List.mem_cons_self, hc⟩
  · rw [if_neg e] at hj
    have hu := h.2.2 j u hj
    obtain ⟨ls2, e2, h2⟩ := lv_store1 (v := v) (h.has [(j, u)] (fun q hq => by rw [List.mem_singleton.mp hq]; exact hj)) hi hc
    cases e'.symm.trans e2
    refine ⟨h2.2.2 (j, u) (List.mem_cons_of_mem _ (List.mem_filter.mpr ⟨List.mem_singleton.mpr rfl, ?_⟩)), hu.2⟩
    have e3 : (j == i) = false := by simpa using fun q : j = i => e q.symm
    simp [e3, hu.2]
def jsub : List (Option Value) → List (Option Value) → Prop
  | [], [] => True
  | none :: a, _ :: b => jsub a b
  | some v :: a, some w :: b => v = w ∧ jsub a b
  | _, _ => False
theorem jsub.spec : ∀ {a b : List (Option Value)}, jsub a b → a.length = b.length ∧ ∀ (i : Nat) (v : Value), a[i]? = some (some v) → b[i]? = some (some v)
  | [], [], _ => ⟨rfl, fun i v h => by simp at h⟩
  | none :: a, y :: b, h => by
    obtain ⟨h1, h2⟩ := jsub.spec (a := a) (b := b) h
    refine ⟨by simp [h1], fun i v hi => ?_⟩
    cases i with
    | zero => simp at hi
    | succ i => simpa using h2 i v (by simpa using hi)
  | some v :: a, some w :: b, h => by
    obtain ⟨e, h⟩ := h
    obtain ⟨h1, h2⟩ := jsub.spec (a := a) (b := b) h
    refine ⟨by simp [h1], fun i u hi => ?_⟩
    cases i with
    | zero => rw [← e]; simpa using hi
    | succ i => simpa using h2 i u (by simpa using hi)
  | [], _ :: _, h => h.elim
  | none :: _, [], h => h.elim
  | some _ :: _, [], h => h.elim
  | some _ :: _, none :: _, h => h.elim
theorem jL.sub {ls : Array Slot} {lv lv' : List (Option Value)} (h : jL ls lv) (hs : jsub lv' lv) : jL ls lv' := by
  obtain ⟨h1, h2⟩ := hs.spec
  exact ⟨by rw [h1]; exact h.1, h.2.1, fun i v hi => h.2.2 i v (h2 i v hi)⟩
theorem jl_args : ∀ (vs : List Value) (i : Nat), (∀ v ∈ vs, v.category = 1) → ∀ (j : Nat) (v : Value), vs[j]? = some v → (i + j, v) ∈ lv_args i vs
  | [], _, _, j, v, h => by simp at h
  | u :: vs, i, hc, j, v, h => by
    have hu : ¬ u.category = 2 := by rw [hc u List.mem_cons_self]; decide
    have he : lv_args i (u :: vs) = (i, u) :: lv_args (i + 1) vs := by
      show (i, u) :: lv_args (if u.category = 2 then i + 2 else i + 1) vs = _
      rw [if_neg hu]
    rw [he]
    cases j with
    | zero => simp at h; subst h; exact List.mem_cons_self
    | succ j =>
      have h1 := jl_args vs (i + 1) (fun v h => hc v (List.mem_cons_of_mem _ h)) j v (by simpa using h)
      rw [show i + (j + 1) = i + 1 + j by omega]
      exact List.mem_cons_of_mem _ h1
theorem jl_len : ∀ (vs : List Value), (∀ v ∈ vs, v.category = 1) → (lg_sl vs).length = vs.length
  | [], _ => rfl
  | u :: vs, hc => by
    have hu : ¬ u.category = 2 := by rw [hc u List.mem_cons_self]; decide
    have h1 := jl_len vs (fun v h => hc v (List.mem_cons_of_mem _ h))
    unfold lg_sl at h1 ⊢
    rw [List.flatMap_cons, if_neg hu, List.length_append, h1]
    simp; omega
theorem jL.entry (vs : List Value) {n : Nat} (hc : ∀ v ∈ vs, v.category = 1) (h : vs.length ≤ n) : jL ((lg_sl vs ++ List.replicate (n - (lg_sl vs).length) Slot.unset).toArray) (vs.map some ++ List.replicate (n - vs.length) none) := by
  have h0 := lv_entry vs (n := n) (by rw [jl_len vs hc]; exact h)
  refine ⟨by rw [h0.1]; simp; omega, h0.2.1, fun i v hi => ?_⟩
  by_cases hlt : i < vs.length
  · rw [List.getElem?_append_left (by simpa using hlt), List.getElem?_map] at hi
    cases hv : vs[i]? with
    | none => rw [hv] at hi; cases hi
    | some u =>
      rw [hv] at hi
      cases hi
      refine ⟨?_, hc v (List.mem_of_getElem? hv)⟩
      have h2 := jl_args vs 0 hc i v hv
      have h3 := h0.2.2 _ h2
      simpa using h3
  · rw [List.getElem?_append_right (by simpa using Nat.le_of_not_lt hlt)] at hi
    simp [List.getElem?_replicate] at hi
