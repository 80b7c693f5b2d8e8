section JLAW
variable {p : Program} {l : Launch} {e : Env} {R : Room} {s : State} {mi : MethodId} {args : Array Value} {below : List Frame} {meth : Method} {c : Code} {H : Heap} {locs : List Loc} {cells slots : Nat} {Q : State → Prop} {cc : ByteArray} {nL : Nat} {own : String} {rt : Option FieldType} {D : va_G} {cy : Nat → ClassId} {B szC szM : Nat} {shC shM : jm_S} {mC mM : jm_M} {pc : Nat} {ls : Array Slot} {lv : List (Option Value)} {st : List Value}
/-- both worlds: the class's and the reference's -/
def jH2 (D : va_G) (cy : Nat → ClassId) (B szC szM : Nat) (shC shM : jm_S) (s : State) (H : Heap) (locs : List Loc) (mC mM : jm_M) : Prop :=
  va_P D vwCl (jwd cy B shC mC szC) H ∧ va_P D vwCl (jwd cy (B + szC) shM mM szM) H ∧ va_S (fun q => s.heap.size ≤ q) s.heap H locs ∧ (∀ a i, jIn (mC a i)) ∧ (∀ a i, jIn (mM a i)) ∧ jok shC szC ∧ jok shM szM ∧ s.heap.size = B + 1
theorem jCBR (C : jCx p s mi args meth c cc nL own rt D cy) {k' idx n : Nat} {y : MethodName} {yc : ByteArray} {yn : Nat} {yr : Option FieldType} (hm : jmC y yc yn yr n) (hl : Cond.methodLink own idx y ∈ jB) (hk : k' + 1 ≤ R.frames ∧ 8 + (yn + 11) + 80 * k' ≤ R.locals) : CallB R s args own idx y yc yn yr (Cond.code y yc yn yr :: jB) (jrm k' 0 0) 0 0 n := by
  obtain ⟨h1, h2, h3, h4⟩ := hm
  have hts := C.2.2.2.2.1
  exact callB_of (Ts := jB) n hts (jB_in2 h1) rfl rfl rfl (hts _ h2) (hts _ hl) h3 hk
theorem jl_run {B' sz' : Nat} {sh' : jm_S} {m' : jm_M} {Pp : Prop} {v : Option Value} {a : Array Value} {rest st0 : List Value} (hr : va_Run p l e R s mi args below meth c H locs cells slots 0 0 (F0 mi pc ls st0) rest (jQc D cy B' sz' sh' m' v Pp a) (jA B' sz')) (hS : va_S (fun q => s.heap.size ≤ q) s.heap H locs) (hA : ∀ q, jA B' sz' q → s.heap.size ≤ q)
    (kk : Pp → ∀ (H1 : Heap) (locs1 : List Loc), va_P D vwCl (jwd cy B' sh' m' sz') H1 → (∀ a i, jIn (m' a i)) → (∀ q, q < H.size → ¬ jA B' sz' q → H1[q]? = H[q]?) → va_S (fun q => s.heap.size ≤ q) s.heap H1 locs1 → W p l e R s mi args below meth c H1 locs1 cells slots Q (F0 mi (pc + 3) ls (v.toList ++ rest))) : W p l e R s mi args below meth c H locs cells slots Q (F0 mi pc ls st0) := by
  intro T hT X
  obtain ⟨w, st₀, t, T', L, h0, X', hL, e1, e2, ⟨hPp, hv, hWd, hz, hk⟩, stp⟩ := hr T hT X
  cases hv
  rw [h0] at hz hk
  obtain ⟨t2, a1, b1⟩ := kk hPp T'.heap (locs ++ L) (by rw [e1]; exact hWd.1) hWd.2.2.1 (fun q h1 h2 => by rw [e1]; exact hk q h1 h2) ⟨Nat.le_trans hS.1 (by rw [e1]; exact hz), fun q h1 h2 => by
      rw [e1, hk q (Nat.lt_of_lt_of_le h1 hS.1) (fun z => h2 (hA q z))]
      exact hS.2.1 q h1 h2, fun q hq => by
      rcases List.mem_append.mp hq with h | h
      · exact hS.2.2 q h
      · exact hA _ (hL q h)⟩ T' rfl X'
  exact ⟨t2, stp t2 a1, b1⟩
theorem jwd_kept {B' sz' : Nat} {sh' : jm_S} {m' : jm_M} {H1 : Heap} (hP : va_P D vwCl (jwd cy B' sh' m' sz') H) (hk : ∀ q, B' < q → q ≤ B' + sz' → q < H.size → H1[q]? = H[q]?) : va_P D vwCl (jwd cy B' sh' m' sz') H1 := by
  intro k q hq
  have h := hP k q hq
  have hl := h.lt
  obtain ⟨h1, rfl⟩ := jwd_get hq
  exact h.kept (hk _ (by simp only; omega) (by simp only; omega) hl)
theorem jl_callC (C : jCx p s mi args meth c cc nL own rt D cy) (S : jH2 D cy B szC szM shC shM s H locs mC mM) (L : jL ls lv) {k' idx n b kd nf : Nat} {T : u_T} {y : MethodName} {yc : ByteArray} {yn : Nat} {yr : Option FieldType} {As rest : List Value} {r : Int} {m' : jm_M} {Pp : Prop} (hM : jCt l D cy B szC shC k' y yc yn yr (jR B b :: As) mC (some (jI r)) m' Pp) (hm : jmV y yc yn yr n) (hl : Cond.methodLink own idx y ∈ jB) (hcl : vwCl[kd]? = some (y.cls, T, nf)) (hsh : shC b = (kd, nf)) (hk : k' + 1 ≤ R.frames ∧ 8 + (yn + 11) + 80 * k' ≤ R.locals) (hnl : lv.length = nL) (hn : As.length = n) (hst : st = As.reverse ++ jR B b :: rest) (hrs : (rest.map fun v => v.category).sum ≤ 8) (hcs : cells ≤ R.cells ∧ slots ≤ R.slots) (hdg : decode cc pc = .ok (.invokevirtual idx, 3))
    (kk : Pp → ∀ (H1 : Heap) (locs1 : List Loc), jH2 D cy B szC szM shC shM s H1 locs1 m' mM → W p l e R s mi args below meth c H1 locs1 cells slots Q (F0 mi (pc + 3) ls (jI r :: rest))) : W p l e R s mi args below meth c H locs cells slots Q (F0 mi pc ls st) := by
  obtain ⟨hP1, hP2, hS, hR1, hR2, ho1, ho2, hsz⟩ := S
  have hkd := jkd hcl
  have hb := ho1 b (by rw [hsh]; show kd ≤ 16; omega)
  have he := jwd_at (cy := cy) (B := B) (sh := shC) (m := mC) hb.1 hb.2
  rw [jce_o _ hsh hkd] at he
  have hts := C.2.2.2.2.1
  have hK := C.2.2.2.2.2.2.2
  have hr := jR_pos (B := B) (r := b) (by omega)
  subst hst
  unfold jCt at hM
  rw [hr] at hM ⊢
  refine jl_run (va_runV (As := As) (rest := rest) (b := B + b) ⟨C.1, C.2.1, C.2.2.1, C.2.2.2.1, hts⟩ hM ⟨jCBR C hm.1 hl hk, hts _ hm.2.1, hts _ hm.2.2⟩ ⟨jPc_blind D cy B szC shC mC _, va_recv hK.1 hP1 hcl he, fun U hU hW => ⟨rfl, by rw [hU]; exact hP1, hK.warm hW, hR1, ho1⟩⟩ rfl hn (by show ls.size = nL; rw [L.1, hnl]) rfl (lv_room hrs) hdg hcs) hS (fun q hq => by have := hq.1; omega) (fun hp H1 locs1 q1 q2 q3 q4 => ?_)
  exact kk hp H1 locs1 ⟨q1, jwd_kept hP2 (fun q h1 h2 h3 => q3 q h3 (fun h => by have := h.2; omega)), q4, q2, hR2, ho1, ho2, hsz⟩
theorem jl_callM (C : jCx p s mi args meth c cc nL own rt D cy) (S : jH2 D cy B szC szM shC shM s H locs mC mM) (L : jL ls lv) {k' idx n b kd nf : Nat} {T : u_T} {y : MethodName} {yc : ByteArray} {yn : Nat} {yr : Option FieldType} {As rest : List Value} {r : Int} {m' : jm_M} {Pp : Prop} (hM : jCt l D cy (B + szC) szM shM k' y yc yn yr (jR (B + szC) b :: As) mM (some (jI r)) m' Pp) (hm : jmV y yc yn yr n) (hl : Cond.methodLink own idx y ∈ jB) (hcl : vwCl[kd]? = some (y.cls, T, nf)) (hsh : shM b = (kd, nf)) (hk : k' + 1 ≤ R.frames ∧ 8 + (yn + 11) + 80 * k' ≤ R.locals) (hnl : lv.length = nL) (hn : As.length = n) (hst : st = As.reverse ++ jR (B + szC) b :: rest) (hrs : (rest.map fun v => v.category).sum ≤ 8) (hcs : cells ≤ R.cells ∧ slots ≤ R.slots) (hdg : decode cc pc = .ok (.invokevirtual idx, 3))
    (kk : Pp → ∀ (H1 : Heap) (locs1 : List Loc), jH2 D cy B szC szM shC shM s H1 locs1 mC m' → W p l e R s mi args below meth c H1 locs1 cells slots Q (F0 mi (pc + 3) ls (jI r :: rest))) : W p l e R s mi args below meth c H locs cells slots Q (F0 mi pc ls st) := by
  obtain ⟨hP1, hP2, hS, hR1, hR2, ho1, ho2, hsz⟩ := S
  have hkd := jkd hcl
  have hb := ho2 b (by rw [hsh]; show kd ≤ 16; omega)
  have he := jwd_at (cy := cy) (B := B + szC) (sh := shM) (m := mM) hb.1 hb.2
  rw [jce_o _ hsh hkd] at he
  have hts := C.2.2.2.2.1
  have hK := C.2.2.2.2.2.2.2
  have hr := jR_pos (B := B + szC) (r := b) (by omega)
  subst hst
  unfold jCt at hM
  rw [hr] at hM ⊢
  refine jl_run (va_runV (As := As) (rest := rest) (b := B + szC + b) ⟨C.1, C.2.1, C.2.2.1, C.2.2.2.1, hts⟩ hM ⟨jCBR C hm.1 hl hk, hts _ hm.2.1, hts _ hm.2.2⟩ ⟨jPc_blind D cy (B + szC) szM shM mM _, va_recv hK.1 hP2 hcl he, fun U hU hW => ⟨rfl, by rw [hU]; exact hP2, hK.warm hW, hR2, ho2⟩⟩ rfl hn (by show ls.size = nL; rw [L.1, hnl]) rfl (lv_room hrs) hdg hcs) hS (fun q hq => by have := hq.1; omega) (fun hp H1 locs1 q1 q2 q3 q4 => ?_)
  exact kk hp H1 locs1 ⟨jwd_kept hP1 (fun q h1 h2 h3 => q3 q h3 (fun h => by have := h.1; omega)), q1, q4, hR1, q2, ho1, ho2, hsz⟩
theorem jl_aload0 (C : jCx p s mi args meth c cc nL own rt D cy) (L : jL ls lv) {b : Nat} (hl : lv[0]? = some (some (.ref b))) (hdg : decode cc pc = .ok (.aload_n 0, 1)) (kk : W p l e R s mi args below meth c H locs cells slots Q (F0 mi (pc + 1) ls (.ref b :: st))) : W p l e R s mi args below meth c H locs cells slots Q (F0 mi pc ls st) := lv_aload_n C.1 C.2.1 hdg rfl (L.at hl) kk
/-- the script's ints as numbers -/
def jsx (xs : Nat → Int32) (i : Int) : Int := (xs i.toNat).toInt
theorem jl_slen (C : jCx p s mi args meth c cc nL own rt D cy) (S : jH2 D cy B szC szM shC shM s H locs mC mM) {b L : Nat} {xs : Nat → Int32} (hX : va_X b L xs s s.heap) (hbl : b < s.heap.size) (hdg : decode cc pc = .ok (.arraylength, 1)) (kk : W p l e R s mi args below meth c H locs cells slots Q (F0 mi (pc + 1) ls (jI (L : Int) :: st))) : W p l e R s mi args below meth c H locs cells slots Q (F0 mi pc ls (.ref b :: st)) :=
  va_slen C.1 C.2.1 hX hbl (Nat.not_le.mpr hbl) S.2.2.1 hdg (by rw [← Int32.ofInt_eq_ofNat]; exact kk)
theorem jl_sld (C : jCx p s mi args meth c cc nL own rt D cy) (S : jH2 D cy B szC szM shC shM s H locs mC mM) {b L : Nat} {xs : Nat → Int32} (hX : va_X b L xs s s.heap) (hbl : b < s.heap.size) {i : Int} (hi : jIn i) (h0 : 0 ≤ i) (h1 : i < L) (hdg : decode cc pc = .ok (.iaload, 1)) (kk : W p l e R s mi args below meth c H locs cells slots Q (F0 mi (pc + 1) ls (jI (jsx xs i) :: st))) : W p l e R s mi args below meth c H locs cells slots Q (F0 mi pc ls (jI i :: .ref b :: st)) := by
  obtain ⟨e1, e2⟩ := jin_of hi h0 h1
  refine va_sld C.1 C.2.1 hX hbl (Nat.not_le.mpr hbl) S.2.2.1 e1 hdg ?_
  rw [e2]
  unfold jsx at kk
  rw [show (xs i.toNat) = Int32.ofInt (xs i.toNat).toInt from (Int32.ofInt_toInt _).symm]
  exact kk
theorem jIn_sx (xs : Nat → Int32) (i : Int) : jIn (jsx xs i) := jIn_toInt _
end JLAW
