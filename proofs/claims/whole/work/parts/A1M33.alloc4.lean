section JALLOC4
variable {p : Program} {l : Launch} {e : Env} {s : State} {mi : MethodId} {args : Array Value} {below : List Frame} {meth : Method} {c : Code} {H H0 : Heap} {locs : List Loc} {Q : State → Prop} {cc : ByteArray} {nL : Nat} {own : String} {rt : Option FieldType} {D : va_G} {cy : Nat → ClassId} {B c0 n0 Lm : Nat} {R : Room} {g : jm_G} {pc : Nat} {ls : Array Slot} {lv : List (Option Value)} {st : List Value}
theorem jAO.warm {s U : State} (h : jAO s) (hW : s.WarmedH U.vm) : jAO U := ⟨va_AO.moved hW.alike h.1, arrayOver_alikeB hW.alike h.2⟩
theorem jcA_of {k : Nat} {y : MethodName} {yc : ByteArray} {yn : Nat} {as : List Value} {g g' : jm_G} (hy : plainName y.cls = true) (hc : ∀ v ∈ as, v.category = 1) (hn : as.length ≤ yn) (h1 : g.1 ≤ Lm) (h2 : Lm ≤ 1000000)
    (body : ∀ {p : Program} {e : Env} {s : State} {mi : MethodId} {below : List Frame} {meth : Method} {c : Code} {ls : Array Slot}, jCx p s mi as.toArray meth c yc yn y.cls none D cy → meth.name = y.name → jAO s → jHA D cy B 0 g.1 Lm g s s.heap s.heap [] → jL ls (as.map some ++ List.replicate (yn - as.length) none) →
      W p l e (jrm k (Lm - g.1) (jq (Lm - g.1))) s mi as.toArray below meth c s.heap [] (0 + (g.1 - g.1)) (jq (0 + (g.1 - g.1))) (MQ below (jQcA D cy B g') as.toArray s (Lm - g.1) (jq (Lm - g.1)) (fun q => B < q)) (F0 mi 0 ls [])) : jCtA l D cy B k Lm y yc yn as g g' := by
  refine Met.ofW (cc := yc) (maxL := yn) (ret := none) hy rfl ?_
  intro p e s mi args below meth c s₁ Bd hml hv
  obtain ⟨rfl, ⟨hP, hK, hO, hR, hok, hz⟩, hsz⟩ := hv
  have hts := atoms_spec (ws := Cond.code y yc yn none :: jB) Bd.pre
  rw [lg_entry_eq]
  refine W.widen (k := 0 + (g.1 - g.1)) (n := jq (0 + (g.1 - g.1))) (Nat.zero_le _) (Nat.zero_le _) ?_
  exact body ⟨Bd.exec, Bd.bytes, hml, findClass_of_methodNamed Bd.named, fun w h => hts w (List.mem_cons_of_mem _ h), Bd.notSynchronized, Bd.returns, hK⟩ (name_of_methodNamed Bd.named Bd.method).1 hO ⟨⟨hP, va_S.rf, hR, hok, fun a h1 h2 => by show B < B + a; omega⟩, hz, by omega, Nat.le_refl _, h1, h2, fun h => by omega⟩ (jL.entry as hc hn)
theorem jr_gret (C : jCx p s mi args meth c cc nL own none D cy) (hO : jAO s) (S : jHA D cy B 0 n0 Lm g s s.heap H locs) (hdg : decode cc pc = .ok (.return_, 1)) : W p l e R s mi args below meth c H locs (0 + (g.1 - n0)) (jq (0 + (g.1 - n0))) (MQ below (jQcA D cy B g) args s (Lm - n0) (jq (Lm - n0)) (fun q => B < q)) (F0 mi pc ls []) := by
  obtain ⟨h1, h2, h3, h4, h5, h6, h0⟩ := S
  refine W.widen (k := Lm - n0) (n := jq (Lm - n0)) (by omega) (jq_mono (by omega)) ?_
  exact W.vret C.1 C.2.1 C.2.2.2.2.2.2.1 (fun t ht hW => ⟨rfl, ⟨by rw [ht]; exact h1.1, C.2.2.2.2.2.2.2.warm hW, hO.warm hW, h1.2.2.1, h1.2.2.2.1, h2⟩, h1.2.1.F ht⟩) h1.2.1.2.2 hdg C.2.2.2.2.2.1
/-- what the tables say of a constructor that is called -/
def jmI (y : MethodName) (yc : ByteArray) (yn : Nat) (n : Nat) : Prop := jmC y yc yn none n ∧ Cond.instanceMethod y ∈ jB ∧ y.name = "<init>"
theorem jr_grun {k' cN : Nat} {g2 : jm_G} {a : Array Value} {rest st0 : List Value} (S : jHA D cy B c0 n0 Lm g s H0 H locs) (h2 : g2.1 = g.1 + cN) (h3 : g.1 + cN ≤ Lm) (hr : H.size = B + g.1 + 1 → va_Run p l e R s mi args below meth c H locs (c0 + (g.1 - n0)) (jq (c0 + (g.1 - n0))) (g.1 + cN - g.1) (jq (g.1 + cN - g.1)) (F0 mi pc ls st0) rest (jQcA D cy B g2 a) (fun q => B < q))
    (kk : ∀ (H1 : Heap) (locs1 : List Loc), jHA D cy B c0 n0 Lm g2 s H0 H1 locs1 → W p l e R s mi args below meth c H1 locs1 (c0 + (g2.1 - n0)) (jq (c0 + (g2.1 - n0))) Q (F0 mi (pc + 3) ls rest)) : W p l e R s mi args below meth c H locs (c0 + (g.1 - n0)) (jq (c0 + (g.1 - n0))) Q (F0 mi pc ls st0) := by
  intro T hT X
  have hsz := jsz S hT X
  have hlow := S.low
  obtain ⟨w, st₀, t, T', L, h0, X', hL, e1, e2, ⟨hv, hWd, hz, hk⟩, stp⟩ := hr hsz T hT X
  cases hv
  rw [h0] at hz hk
  obtain ⟨s1, s2, s3, s4, s5, s6, s7⟩ := S
  obtain ⟨t2, a1, b1⟩ := (W.widen (k := c0 + (g2.1 - n0)) (n := jq (c0 + (g2.1 - n0))) (cells := c0 + (g.1 - n0) + (g.1 + cN - g.1)) (slots := jq (c0 + (g.1 - n0)) + jq (g.1 + cN - g.1)) (by omega) (by unfold jq; omega) (kk T'.heap (locs ++ L) ⟨⟨by rw [e1]; exact hWd.1, ⟨Nat.le_trans s1.2.1.1 (by rw [e1]; exact hz), fun q h1 h2 => by
      rw [e1, hk q (Nat.lt_of_lt_of_le h1 s1.2.1.1) h2]
      exact s1.2.1.2.1 q h1 h2, fun q hq => by
      rcases List.mem_append.mp hq with h | h
      · exact s1.2.1.2.2 q h
      · exact hL q h⟩, hWd.2.2.2.1, hWd.2.2.2.2.1, fun a h1 h2 => by show B < B + a; omega⟩, hWd.2.2.2.2.2, s3, by omega, by omega, s6, fun h => by rw [e1]; omega⟩)) T' rfl X'
  exact ⟨t2, stp t2 a1, b1⟩
theorem jr_gcall (HR : jRo R c0 n0 Lm) (C : jCx p s mi args meth c cc nL own rt D cy) (hO : jAO s) (S : jHA D cy B c0 n0 Lm g s H0 H locs) (L : jL ls lv) {k' cN idx n b : Nat} {y : MethodName} {yc : ByteArray} {yn : Nat} {As rest : List Value} {g2 : jm_G} (hb : b ≠ 0) (hM : jCtA l D cy B k' (g.1 + cN) y yc yn (jR B b :: As) g g2) (hm : jmI y yc yn n) (hl : Cond.methodLink own idx y ∈ jB) (hk : k' + 1 ≤ R.frames ∧ 8 + (yn + 11) + 80 * k' ≤ R.locals) (h2 : g2.1 = g.1 + cN) (h3 : g.1 + cN ≤ Lm) (hnl : lv.length = nL) (hn : As.length = n) (hst : st = As.reverse ++ jR B b :: rest) (hrs : (rest.map fun v => v.category).sum ≤ 8) (hdg : decode cc pc = .ok (.invokespecial idx, 3))
    (kk : ∀ (H1 : Heap) (locs1 : List Loc), jHA D cy B c0 n0 Lm g2 s H0 H1 locs1 → W p l e R s mi args below meth c H1 locs1 (c0 + (g2.1 - n0)) (jq (c0 + (g2.1 - n0))) Q (F0 mi (pc + 3) ls rest)) : W p l e R s mi args below meth c H locs (c0 + (g.1 - n0)) (jq (c0 + (g.1 - n0))) Q (F0 mi pc ls st) := by
  have hts := C.2.2.2.2.1
  have hK := C.2.2.2.2.2.2.2
  obtain ⟨⟨m1, m2, m3, m4⟩, m5, m6⟩ := hm
  subst hst
  unfold jCtA at hM
  rw [jR_pos hb] at hM ⊢
  obtain ⟨s1, s2, s3, s4, s5, s6, s7⟩ := id S
  refine jr_grun (k' := k') S h2 h3 (fun hsz => va_runI (As := As) (rest := rest) (b := B + b) ⟨C.1, C.2.1, C.2.2.1, C.2.2.2.1, hts⟩ hM ⟨callB_of (Ts := jB) n hts (jB_in2 m1) rfl rfl rfl (hts _ m2) (hts _ hl) m3 hk, m6, hts _ m5⟩ ⟨jPcA_blind D cy B g _, fun U hU hW => ⟨rfl, ⟨by rw [hU]; exact s1.1, hK.warm hW, hO.warm hW, s1.2.2.1, s1.2.2.2.1, s2⟩, by rw [hU]; exact hsz⟩⟩ rfl hn (by show ls.size = nL; rw [L.1, hnl]) rfl (lv_room hrs) hdg ⟨by have := HR.1; omega, ?_⟩) kk
  have := HR.2
  unfold jq at this ⊢
  omega
theorem jr_gcallN (HR : jRo R c0 n0 Lm) (C : jCx p s mi args meth c cc nL own rt D cy) (hO : jAO s) (S : jHA D cy B c0 n0 Lm g s H0 H locs) (L : jL ls lv) {k' cN idx n b : Nat} {y : MethodName} {host : String} {yc : ByteArray} {yn : Nat} {As rest : List Value} {g2 : jm_G} (hb : b ≠ 0) (hM : jCtA l D cy B k' (g.1 + cN) y yc yn (jR B b :: As) g g2) (hm : jmI y yc yn n) (hl : (own, idx, y, host) ∈ jnM) (hk : k' + 1 ≤ R.frames ∧ 8 + (yn + 11) + 80 * k' ≤ R.locals) (h2 : g2.1 = g.1 + cN) (h3 : g.1 + cN ≤ Lm) (hnl : lv.length = nL) (hn : As.length = n) (hst : st = As.reverse ++ jR B b :: rest) (hrs : (rest.map fun v => v.category).sum ≤ 8) (hdg : decode cc pc = .ok (.invokespecial idx, 3))
    (kk : ∀ (H1 : Heap) (locs1 : List Loc), jHA D cy B c0 n0 Lm g2 s H0 H1 locs1 → W p l e R s mi args below meth c H1 locs1 (c0 + (g2.1 - n0)) (jq (c0 + (g2.1 - n0))) Q (F0 mi (pc + 3) ls rest)) : W p l e R s mi args below meth c H locs (c0 + (g.1 - n0)) (jq (c0 + (g.1 - n0))) Q (F0 mi pc ls st) := by
  have hts := C.2.2.2.2.1
  have hK := C.2.2.2.2.2.2.2
  obtain ⟨⟨m1, m2, m3, m4⟩, m5, m6⟩ := hm
  subst hst
  unfold jCtA at hM
  rw [jR_pos hb] at hM ⊢
  obtain ⟨s1, s2, s3, s4, s5, s6, s7⟩ := id S
  refine jr_grun (k' := k') S h2 h3 (fun hsz => va_runIN (host := host) (As := As) (rest := rest) (b := B + b) ⟨C.1, C.2.1, C.2.2.1, C.2.2.2.1, hts⟩ hM ⟨va_cnB (Ts := jB) n hts (jB_in2 m1) rfl rfl rfl (hK.2.1 _ hl) (hts _ m2) m3 hk, m6, hts _ m5⟩ ⟨jPcA_blind D cy B g _, fun U hU hW => ⟨rfl, ⟨by rw [hU]; exact s1.1, hK.warm hW, hO.warm hW, s1.2.2.1, s1.2.2.2.1, s2⟩, by rw [hU]; exact hsz⟩⟩ rfl hn (by show ls.size = nL; rw [L.1, hnl]) rfl (lv_room hrs) hdg ⟨by have := HR.1; omega, ?_⟩) kk
  have := HR.2
  unfold jq at this ⊢
  omega
end JALLOC4
