section JCALLS
variable {p : Program} {l : Launch} {e : Env} {R : Room} {s : State} {mi : MethodId} {args : Array Value} {below : List Frame} {meth : Method} {c : Code} {H H0 : Heap} {locs : List Loc} {cells slots : Nat} {Q : State → Prop} {cc : ByteArray} {nL : Nat} {own : String} {rt : Option FieldType} {D : va_G} {cy : Nat → ClassId} {B sz : Nat} {sh : jm_S} {A : Nat → Prop} {m : jm_M} {pc : Nat} {ls : Array Slot} {lv : List (Option Value)} {st : List Value}
theorem jck_spec {a kd n : Nat} {u : Unit} (h : jck sh a kd n = some u) : sh a = (kd, n) := by
  unfold jck at h
  split at h
  · assumption
  · cases h
/-- what the tables say of a method that is called -/
def jmC (y : MethodName) (yc : ByteArray) (yn : Nat) (yr : Option FieldType) (n : Nat) : Prop := Cond.code y yc yn yr ∈ jB ∧ Cond.initialized y.cls ∈ jB ∧ (y.cls ≠ "java/lang/invoke/MethodHandle" ∧ y.cls ≠ "java/lang/invoke/VarHandle" ∧ (parseMethodDescriptor y.desc).map (fun d => d.parameters.length) = some n) ∧ yn ≤ 60
def jmV (y : MethodName) (yc : ByteArray) (yn : Nat) (yr : Option FieldType) (n : Nat) : Prop := jmC y yc yn yr n ∧ Cond.instanceMethod y ∈ jB ∧ Cond.selects y.cls y y ∈ jB
def jmS (y : MethodName) (yc : ByteArray) (yn : Nat) (yr : Option FieldType) (n : Nat) : Prop := jmC y yc yn yr n ∧ Cond.static y ∈ jB
theorem jr_run {k : Nat} {v : Option Value} {m' : jm_M} {Pp : Prop} {a : Array Value} {rest st0 : List Value} (hr : va_Run p l e R s mi args below meth c H locs cells slots 0 0 (F0 mi pc ls st0) rest (jQc D cy B sz sh m' v Pp a) (jA B sz)) (S : jHs D cy B sz sh A H0 H locs m)
    (kk : Pp → ∀ (H1 : Heap) (locs1 : List Loc), jHs D cy B sz sh A H0 H1 locs1 m' → W p l e R s mi args below meth c H1 locs1 cells slots Q (F0 mi (pc + 3) ls (v.toList ++ rest))) : W p l e R s mi args below meth c H locs cells slots Q (F0 mi pc ls st0) := by
  intro T hT X
  obtain ⟨w, st₀, t, T', L, h0, X', hL, e1, e2, ⟨hPp, hv, hWd, hz, hk⟩, stp⟩ := hr T hT X
  cases hv
  rw [h0] at hz hk
  have hAA : ∀ q, jA B sz q → A q := fun q hq => by
    obtain ⟨q1, q2⟩ := hq
    have h := S.2.2.2.2 (q - B) (by omega) (by omega)
    rwa [show B + (q - B) = q by omega] at h
  obtain ⟨t2, a1, b1⟩ := kk hPp T'.heap (locs ++ L) ⟨by rw [e1]; exact hWd.1, ⟨Nat.le_trans S.2.1.1 (by rw [e1]; exact hz), fun q h1 h2 => by
      rw [e1, hk q (Nat.lt_of_lt_of_le h1 S.2.1.1) (fun z => h2 (hAA q z))]
      exact S.2.1.2.1 q h1 h2, fun q hq => by
      rcases List.mem_append.mp hq with h | h
      · exact S.2.1.2.2 q h
      · exact hAA _ (hL q h)⟩, hWd.2.2.1, S.2.2.2⟩ T' rfl X'
  exact ⟨t2, stp t2 a1, b1⟩
theorem jCB (C : jCx p s mi args meth c cc nL own rt D cy) {k k' rc rs idx n : Nat} {y : MethodName} {yc : ByteArray} {yn : Nat} {yr : Option FieldType} (hm : jmC y yc yn yr n) (hl : Cond.methodLink own idx y ∈ jB) (hk : k' < k) : CallB (jrm k rc rs) s args own idx y yc yn yr (Cond.code y yc yn yr :: jB) (jrm k' 0 0) 0 0 n := by
  obtain ⟨h1, h2, h3, h4⟩ := hm
  have hts := C.2.2.2.2.1
  exact callB_of (Ts := jB) n hts (jB_in2 h1) rfl rfl rfl (hts _ h2) (hts _ hl) h3 ⟨hk, by show 8 + (yn + 11) + 80 * k' ≤ 80 * k; omega⟩
theorem jr_callV (C : jCx p s mi args meth c cc nL own rt D cy) (S : jHs D cy B sz sh A H0 H locs m) (L : jL ls lv) {k k' rc rs idx n b kd nf : Nat} {T : u_T} {y : MethodName} {yc : ByteArray} {yn : Nat} {yr : Option FieldType} {As rest : List Value} {v : Option Value} {m' : jm_M} {Pp : Prop} (hM : jCt l D cy B sz sh k' y yc yn yr (jR B b :: As) m v m' Pp) (hm : jmV y yc yn yr n) (hl : Cond.methodLink own idx y ∈ jB) (hcl : vwCl[kd]? = some (y.cls, T, nf)) (hsh : sh b = (kd, nf)) (hk : k' < k) (hnl : lv.length = nL) (hn : As.length = n) (hst : st = As.reverse ++ jR B b :: rest) (hrs : (rest.map fun v => v.category).sum ≤ 8) (hcs : cells ≤ rc ∧ slots ≤ rs) (hdg : decode cc pc = .ok (.invokevirtual idx, 3))
    (kk : Pp → ∀ (H1 : Heap) (locs1 : List Loc), jHs D cy B sz sh A H0 H1 locs1 m' → W p l e (jrm k rc rs) s mi args below meth c H1 locs1 cells slots Q (F0 mi (pc + 3) ls (v.toList ++ rest))) : W p l e (jrm k rc rs) s mi args below meth c H locs cells slots Q (F0 mi pc ls st) := by
  have hkd := jkd hcl
  obtain ⟨hb, he⟩ := S.at (a := b) (by rw [hsh]; show kd ≤ 16; omega)
  rw [jce_o _ hsh hkd] at he
  have hts := C.2.2.2.2.1
  have hK := C.2.2.2.2.2.2.2
  have hr := jR_pos (B := B) hb
  subst hst
  unfold jCt at hM
  rw [hr] at hM ⊢
  exact jr_run (k := k) (va_runV (As := As) (rest := rest) (b := B + b) ⟨C.1, C.2.1, C.2.2.1, C.2.2.2.1, hts⟩ hM ⟨jCB C hm.1 hl hk, hts _ hm.2.1, hts _ hm.2.2⟩ ⟨jPc_blind D cy B sz sh m _, va_recv hK.1 S.1 hcl he, fun U hU hW => ⟨rfl, by rw [hU]; exact S.1, hK.warm hW, S.2.2.1, S.2.2.2.1⟩⟩ rfl hn (by show ls.size = nL; rw [L.1, hnl]) rfl (lv_room hrs) hdg hcs) S kk
theorem jr_callS (C : jCx p s mi args meth c cc nL own rt D cy) (S : jHs D cy B sz sh A H0 H locs m) (L : jL ls lv) {k k' rc rs idx n : Nat} {y : MethodName} {yc : ByteArray} {yn : Nat} {yr : Option FieldType} {As rest : List Value} {v : Option Value} {m' : jm_M} {Pp : Prop} (hM : jCt l D cy B sz sh k' y yc yn yr As m v m' Pp) (hm : jmS y yc yn yr n) (hl : Cond.methodLink own idx y ∈ jB) (hk : k' < k) (hnl : lv.length = nL) (hn : As.length = n) (hst : st = As.reverse ++ rest) (hrs : (rest.map fun v => v.category).sum ≤ 8) (hcs : cells ≤ rc ∧ slots ≤ rs) (hdg : decode cc pc = .ok (.invokestatic idx, 3))
    (kk : Pp → ∀ (H1 : Heap) (locs1 : List Loc), jHs D cy B sz sh A H0 H1 locs1 m' → W p l e (jrm k rc rs) s mi args below meth c H1 locs1 cells slots Q (F0 mi (pc + 3) ls (v.toList ++ rest))) : W p l e (jrm k rc rs) s mi args below meth c H locs cells slots Q (F0 mi pc ls st) := by
  have hts := C.2.2.2.2.1
  have hK := C.2.2.2.2.2.2.2
  subst hst
  unfold jCt at hM
  exact jr_run (k := k) (va_runS (As := As) (rest := rest) ⟨C.1, C.2.1, C.2.2.1, C.2.2.2.1, hts⟩ hM ⟨jCB C hm.1 hl hk, hts _ hm.2⟩ ⟨jPc_blind D cy B sz sh m _, fun U hU hW => ⟨rfl, by rw [hU]; exact S.1, hK.warm hW, S.2.2.1, S.2.2.2.1⟩⟩ rfl hn (by show ls.size = nL; rw [L.1, hnl]) rfl (lv_room hrs) hdg hcs) S kk
theorem jr_callSN (C : jCx p s mi args meth c cc nL own rt D cy) (S : jHs D cy B sz sh A H0 H locs m) (L : jL ls lv) {k k' rc rs idx n : Nat} {y : MethodName} {host : String} {yc : ByteArray} {yn : Nat} {yr : Option FieldType} {As rest : List Value} {v : Option Value} {m' : jm_M} {Pp : Prop} (hM : jCt l D cy B sz sh k' y yc yn yr As m v m' Pp) (hm : jmS y yc yn yr n) (hl : (own, idx, y, host) ∈ jnM) (hk : k' < k) (hnl : lv.length = nL) (hn : As.length = n) (hst : st = As.reverse ++ rest) (hrs : (rest.map fun v => v.category).sum ≤ 8) (hcs : cells ≤ rc ∧ slots ≤ rs) (hdg : decode cc pc = .ok (.invokestatic idx, 3))
    (kk : Pp → ∀ (H1 : Heap) (locs1 : List Loc), jHs D cy B sz sh A H0 H1 locs1 m' → W p l e (jrm k rc rs) s mi args below meth c H1 locs1 cells slots Q (F0 mi (pc + 3) ls (v.toList ++ rest))) : W p l e (jrm k rc rs) s mi args below meth c H locs cells slots Q (F0 mi pc ls st) := by
  have hts := C.2.2.2.2.1
  have hK := C.2.2.2.2.2.2.2
  obtain ⟨⟨h1, h2, h3, h4⟩, h5⟩ := hm
  subst hst
  unfold jCt at hM
  exact jr_run (k := k) (va_runSN (host := host) (As := As) (rest := rest) ⟨C.1, C.2.1, C.2.2.1, C.2.2.2.1, hts⟩ hM ⟨va_cnB (Ts := jB) n hts (jB_in2 h1) rfl rfl rfl (hK.2.1 _ hl) (hts _ h2) h3 ⟨hk, by show 8 + (yn + 11) + 80 * k' ≤ 80 * k; omega⟩, hts _ h5, trivial⟩ ⟨jPc_blind D cy B sz sh m _, fun U hU hW => ⟨rfl, by rw [hU]; exact S.1, hK.warm hW, S.2.2.1, S.2.2.2.1⟩⟩ rfl hn (by show ls.size = nL; rw [L.1, hnl]) rfl (lv_room hrs) hdg hcs) S kk
/-! ends -/
theorem jr_iret (C : jCx p s mi args meth c cc nL own (some .int) D cy) (S : jHs D cy B sz sh (jA B sz) s.heap H locs m) {x : Int} {Pp : Prop} (hp : Pp) (hdg : decode cc pc = .ok (.ireturn, 1)) : W p l e R s mi args below meth c H locs cells slots (MQ below (jQc D cy B sz sh m (some (jI x)) Pp) args s cells slots (jA B sz)) (F0 mi pc ls [jI x]) :=
  W.iret (v := Int32.ofInt x) C.1 C.2.1 C.2.2.2.2.2.2.1 (fun t ht hW => ⟨hp, rfl, ⟨by rw [ht]; exact S.1, C.2.2.2.2.2.2.2.warm hW, S.2.2.1, S.2.2.2.1⟩, S.2.1.F ht⟩) S.2.1.2.2 hdg C.2.2.2.2.2.1
theorem jr_zret (C : jCx p s mi args meth c cc nL own (some .boolean) D cy) (S : jHs D cy B sz sh (jA B sz) s.heap H locs m) {x x' : Int} {Pp : Prop} (hp : Pp) (hz : jzb x = some x') (hdg : decode cc pc = .ok (.ireturn, 1)) : W p l e R s mi args below meth c H locs cells slots (MQ below (jQc D cy B sz sh m (some (jI x')) Pp) args s cells slots (jA B sz)) (F0 mi pc ls [jI x]) := by
  unfold jzb at hz
  split at hz
  · rename_i hc
    cases hz
    exact W.zret (v := Int32.ofInt x) (ty := .boolean) C.1 C.2.1 C.2.2.2.2.2.2.1 (by rcases hc with rfl | rfl <;> decide) (fun t ht hW => ⟨hp, rfl, ⟨by rw [ht]; exact S.1, C.2.2.2.2.2.2.2.warm hW, S.2.2.1, S.2.2.2.1⟩, S.2.1.F ht⟩) S.2.1.2.2 hdg C.2.2.2.2.2.1
  · cases hz
theorem jr_aret {rty : FieldType} (C : jCx p s mi args meth c cc nL own (some rty) D cy) (hrt : (∃ n, rty = .object n) ∨ ∃ t, rty = .array t) (S : jHs D cy B sz sh (jA B sz) s.heap H locs m) {r : Nat} {Pp : Prop} (hp : Pp) (hdg : decode cc pc = .ok (.areturn, 1)) : W p l e R s mi args below meth c H locs cells slots (MQ below (jQc D cy B sz sh m (some (jR B r)) Pp) args s cells slots (jA B sz)) (F0 mi pc ls [jR B r]) :=
  W.aret C.1 C.2.1 C.2.2.2.2.2.2.1 hrt (by rcases jR_or B r with ⟨x, h⟩ | h; exact Or.inr ⟨x, h⟩; exact Or.inl h) (fun t ht hW => ⟨hp, rfl, ⟨by rw [ht]; exact S.1, C.2.2.2.2.2.2.2.warm hW, S.2.2.1, S.2.2.2.1⟩, S.2.1.F ht⟩) S.2.1.2.2 hdg C.2.2.2.2.2.1
theorem jr_vret (C : jCx p s mi args meth c cc nL own none D cy) (S : jHs D cy B sz sh (jA B sz) s.heap H locs m) {Pp : Prop} (hp : Pp) (hdg : decode cc pc = .ok (.return_, 1)) : W p l e R s mi args below meth c H locs cells slots (MQ below (jQc D cy B sz sh m none Pp) args s cells slots (jA B sz)) (F0 mi pc ls []) :=
  W.vret C.1 C.2.1 C.2.2.2.2.2.2.1 (fun t ht hW => ⟨hp, rfl, ⟨by rw [ht]; exact S.1, C.2.2.2.2.2.2.2.warm hW, S.2.2.1, S.2.2.2.1⟩, S.2.1.F ht⟩) S.2.1.2.2 hdg C.2.2.2.2.2.1
theorem jr_callV_I {x : Int} (C : jCx p s mi args meth c cc nL own rt D cy) (S : jHs D cy B sz sh A H0 H locs m) (L : jL ls lv) {k k' rc rs idx n b kd nf : Nat} {T : u_T} {y : MethodName} {yc : ByteArray} {yn : Nat} {yr : Option FieldType} {As rest : List Value} {m' : jm_M} {Pp : Prop} (hM : jCt l D cy B sz sh k' y yc yn yr (jR B b :: As) m (some (jI x)) m' Pp) (hm : jmV y yc yn yr n) (hl : Cond.methodLink own idx y ∈ jB) (hcl : vwCl[kd]? = some (y.cls, T, nf)) (hsh : sh b = (kd, nf)) (hk : k' < k) (hnl : lv.length = nL) (hn : As.length = n) (hst : st = As.reverse ++ jR B b :: rest) (hrs : (rest.map fun v => v.category).sum ≤ 8) (hcs : cells ≤ rc ∧ slots ≤ rs) (hdg : decode cc pc = .ok (.invokevirtual idx, 3))
    (kk : Pp → ∀ (H1 : Heap) (locs1 : List Loc), jHs D cy B sz sh A H0 H1 locs1 m' → W p l e (jrm k rc rs) s mi args below meth c H1 locs1 cells slots Q (F0 mi (pc + 3) ls (jI x :: rest))) : W p l e (jrm k rc rs) s mi args below meth c H locs cells slots Q (F0 mi pc ls st) :=
  jr_callV C S L hM hm hl hcl hsh hk hnl hn hst hrs hcs hdg kk
theorem jr_callV_R {r : Nat} (C : jCx p s mi args meth c cc nL own rt D cy) (S : jHs D cy B sz sh A H0 H locs m) (L : jL ls lv) {k k' rc rs idx n b kd nf : Nat} {T : u_T} {y : MethodName} {yc : ByteArray} {yn : Nat} {yr : Option FieldType} {As rest : List Value} {m' : jm_M} {Pp : Prop} (hM : jCt l D cy B sz sh k' y yc yn yr (jR B b :: As) m (some (jR B r)) m' Pp) (hm : jmV y yc yn yr n) (hl : Cond.methodLink own idx y ∈ jB) (hcl : vwCl[kd]? = some (y.cls, T, nf)) (hsh : sh b = (kd, nf)) (hk : k' < k) (hnl : lv.length = nL) (hn : As.length = n) (hst : st = As.reverse ++ jR B b :: rest) (hrs : (rest.map fun v => v.category).sum ≤ 8) (hcs : cells ≤ rc ∧ slots ≤ rs) (hdg : decode cc pc = .ok (.invokevirtual idx, 3))
    (kk : Pp → ∀ (H1 : Heap) (locs1 : List Loc), jHs D cy B sz sh A H0 H1 locs1 m' → W p l e (jrm k rc rs) s mi args below meth c H1 locs1 cells slots Q (F0 mi (pc + 3) ls (jR B r :: rest))) : W p l e (jrm k rc rs) s mi args below meth c H locs cells slots Q (F0 mi pc ls st) :=
  jr_callV C S L hM hm hl hcl hsh hk hnl hn hst hrs hcs hdg kk
theorem jr_callV_N  (C : jCx p s mi args meth c cc nL own rt D cy) (S : jHs D cy B sz sh A H0 H locs m) (L : jL ls lv) {k k' rc rs idx n b kd nf : Nat} {T : u_T} {y : MethodName} {yc : ByteArray} {yn : Nat} {yr : Option FieldType} {As rest : List Value} {m' : jm_M} {Pp : Prop} (hM : jCt l D cy B sz sh k' y yc yn yr (jR B b :: As) m (none) m' Pp) (hm : jmV y yc yn yr n) (hl : Cond.methodLink own idx y ∈ jB) (hcl : vwCl[kd]? = some (y.cls, T, nf)) (hsh : sh b = (kd, nf)) (hk : k' < k) (hnl : lv.length = nL) (hn : As.length = n) (hst : st = As.reverse ++ jR B b :: rest) (hrs : (rest.map fun v => v.category).sum ≤ 8) (hcs : cells ≤ rc ∧ slots ≤ rs) (hdg : decode cc pc = .ok (.invokevirtual idx, 3))
    (kk : Pp → ∀ (H1 : Heap) (locs1 : List Loc), jHs D cy B sz sh A H0 H1 locs1 m' → W p l e (jrm k rc rs) s mi args below meth c H1 locs1 cells slots Q (F0 mi (pc + 3) ls rest)) : W p l e (jrm k rc rs) s mi args below meth c H locs cells slots Q (F0 mi pc ls st) :=
  jr_callV C S L hM hm hl hcl hsh hk hnl hn hst hrs hcs hdg kk
theorem jr_callS_I {x : Int} (C : jCx p s mi args meth c cc nL own rt D cy) (S : jHs D cy B sz sh A H0 H locs m) (L : jL ls lv) {k k' rc rs idx n : Nat} {y : MethodName} {yc : ByteArray} {yn : Nat} {yr : Option FieldType} {As rest : List Value} {m' : jm_M} {Pp : Prop} (hM : jCt l D cy B sz sh k' y yc yn yr As m (some (jI x)) m' Pp) (hm : jmS y yc yn yr n) (hl : Cond.methodLink own idx y ∈ jB) (hk : k' < k) (hnl : lv.length = nL) (hn : As.length = n) (hst : st = As.reverse ++ rest) (hrs : (rest.map fun v => v.category).sum ≤ 8) (hcs : cells ≤ rc ∧ slots ≤ rs) (hdg : decode cc pc = .ok (.invokestatic idx, 3))
    (kk : Pp → ∀ (H1 : Heap) (locs1 : List Loc), jHs D cy B sz sh A H0 H1 locs1 m' → W p l e (jrm k rc rs) s mi args below meth c H1 locs1 cells slots Q (F0 mi (pc + 3) ls (jI x :: rest))) : W p l e (jrm k rc rs) s mi args below meth c H locs cells slots Q (F0 mi pc ls st) :=
  jr_callS C S L hM hm hl hk hnl hn hst hrs hcs hdg kk
theorem jr_callS_R {r : Nat} (C : jCx p s mi args meth c cc nL own rt D cy) (S : jHs D cy B sz sh A H0 H locs m) (L : jL ls lv) {k k' rc rs idx n : Nat} {y : MethodName} {yc : ByteArray} {yn : Nat} {yr : Option FieldType} {As rest : List Value} {m' : jm_M} {Pp : Prop} (hM : jCt l D cy B sz sh k' y yc yn yr As m (some (jR B r)) m' Pp) (hm : jmS y yc yn yr n) (hl : Cond.methodLink own idx y ∈ jB) (hk : k' < k) (hnl : lv.length = nL) (hn : As.length = n) (hst : st = As.reverse ++ rest) (hrs : (rest.map fun v => v.category).sum ≤ 8) (hcs : cells ≤ rc ∧ slots ≤ rs) (hdg : decode cc pc = .ok (.invokestatic idx, 3))
    (kk : Pp → ∀ (H1 : Heap) (locs1 : List Loc), jHs D cy B sz sh A H0 H1 locs1 m' → W p l e (jrm k rc rs) s mi args below meth c H1 locs1 cells slots Q (F0 mi (pc + 3) ls (jR B r :: rest))) : W p l e (jrm k rc rs) s mi args below meth c H locs cells slots Q (F0 mi pc ls st) :=
  jr_callS C S L hM hm hl hk hnl hn hst hrs hcs hdg kk
theorem jr_callS_N  (C : jCx p s mi args meth c cc nL own rt D cy) (S : jHs D cy B sz sh A H0 H locs m) (L : jL ls lv) {k k' rc rs idx n : Nat} {y : MethodName} {yc : ByteArray} {yn : Nat} {yr : Option FieldType} {As rest : List Value} {m' : jm_M} {Pp : Prop} (hM : jCt l D cy B sz sh k' y yc yn yr As m (none) m' Pp) (hm : jmS y yc yn yr n) (hl : Cond.methodLink own idx y ∈ jB) (hk : k' < k) (hnl : lv.length = nL) (hn : As.length = n) (hst : st = As.reverse ++ rest) (hrs : (rest.map fun v => v.category).sum ≤ 8) (hcs : cells ≤ rc ∧ slots ≤ rs) (hdg : decode cc pc = .ok (.invokestatic idx, 3))
    (kk : Pp → ∀ (H1 : Heap) (locs1 : List Loc), jHs D cy B sz sh A H0 H1 locs1 m' → W p l e (jrm k rc rs) s mi args below meth c H1 locs1 cells slots Q (F0 mi (pc + 3) ls rest)) : W p l e (jrm k rc rs) s mi args below meth c H locs cells slots Q (F0 mi pc ls st) :=
  jr_callS C S L hM hm hl hk hnl hn hst hrs hcs hdg kk
theorem jr_callSN_I {x : Int} (C : jCx p s mi args meth c cc nL own rt D cy) (S : jHs D cy B sz sh A H0 H locs m) (L : jL ls lv) {k k' rc rs idx n : Nat} {y : MethodName} {host : String} {yc : ByteArray} {yn : Nat} {yr : Option FieldType} {As rest : List Value} {m' : jm_M} {Pp : Prop} (hM : jCt l D cy B sz sh k' y yc yn yr As m (some (jI x)) m' Pp) (hm : jmS y yc yn yr n) (hl : (own, idx, y, host) ∈ jnM) (hk : k' < k) (hnl : lv.length = nL) (hn : As.length = n) (hst : st = As.reverse ++ rest) (hrs : (rest.map fun v => v.category).sum ≤ 8) (hcs : cells ≤ rc ∧ slots ≤ rs) (hdg : decode cc pc = .ok (.invokestatic idx, 3))
    (kk : Pp → ∀ (H1 : Heap) (locs1 : List Loc), jHs D cy B sz sh A H0 H1 locs1 m' → W p l e (jrm k rc rs) s mi args below meth c H1 locs1 cells slots Q (F0 mi (pc + 3) ls (jI x :: rest))) : W p l e (jrm k rc rs) s mi args below meth c H locs cells slots Q (F0 mi pc ls st) :=
  jr_callSN C S L hM hm hl hk hnl hn hst hrs hcs hdg kk
theorem jr_callSN_R {r : Nat} (C : jCx p s mi args meth c cc nL own rt D cy) (S : jHs D cy B sz sh A H0 H locs m) (L : jL ls lv) {k k' rc rs idx n : Nat} {y : MethodName} {host : String} {yc : ByteArray} {yn : Nat} {yr : Option FieldType} {As rest : List Value} {m' : jm_M} {Pp : Prop} (hM : jCt l D cy B sz sh k' y yc yn yr As m (some (jR B r)) m' Pp) (hm : jmS y yc yn yr n) (hl : (own, idx, y, host) ∈ jnM) (hk : k' < k) (hnl : lv.length = nL) (hn : As.length = n) (hst : st = As.reverse ++ rest) (hrs : (rest.map fun v => v.category).sum ≤ 8) (hcs : cells ≤ rc ∧ slots ≤ rs) (hdg : decode cc pc = .ok (.invokestatic idx, 3))
    (kk : Pp → ∀ (H1 : Heap) (locs1 : List Loc), jHs D cy B sz sh A H0 H1 locs1 m' → W p l e (jrm k rc rs) s mi args below meth c H1 locs1 cells slots Q (F0 mi (pc + 3) ls (jR B r :: rest))) : W p l e (jrm k rc rs) s mi args below meth c H locs cells slots Q (F0 mi pc ls st) :=
  jr_callSN C S L hM hm hl hk hnl hn hst hrs hcs hdg kk
theorem jr_callSN_N  (C : jCx p s mi args meth c cc nL own rt D cy) (S : jHs D cy B sz sh A H0 H locs m) (L : jL ls lv) {k k' rc rs idx n : Nat} {y : MethodName} {host : String} {yc : ByteArray} {yn : Nat} {yr : Option FieldType} {As rest : List Value} {m' : jm_M} {Pp : Prop} (hM : jCt l D cy B sz sh k' y yc yn yr As m (none) m' Pp) (hm : jmS y yc yn yr n) (hl : (own, idx, y, host) ∈ jnM) (hk : k' < k) (hnl : lv.length = nL) (hn : As.length = n) (hst : st = As.reverse ++ rest) (hrs : (rest.map fun v => v.category).sum ≤ 8) (hcs : cells ≤ rc ∧ slots ≤ rs) (hdg : decode cc pc = .ok (.invokestatic idx, 3))
    (kk : Pp → ∀ (H1 : Heap) (locs1 : List Loc), jHs D cy B sz sh A H0 H1 locs1 m' → W p l e (jrm k rc rs) s mi args below meth c H1 locs1 cells slots Q (F0 mi (pc + 3) ls rest)) : W p l e (jrm k rc rs) s mi args below meth c H locs cells slots Q (F0 mi pc ls st) :=
  jr_callSN C S L hM hm hl hk hnl hn hst hrs hcs hdg kk
theorem jrf_in (S : jHs D cy B sz sh A H0 H locs m) {a kd n k : Nat} {v : Int} (h : jrf sh m a kd n k = some v) : jIn v := by
  unfold jrf at h
  split at h
  · cases h; exact S.2.2.1 _ _
  · cases h
theorem jra_in (S : jHs D cy B sz sh A H0 H locs m) {a kd : Nat} {i v : Int} (h : jra sh m a kd i = some v) : jIn v := by
  obtain ⟨-, -, -, rfl⟩ := jra_spec h
  exact S.2.2.1 _ _
theorem jzb_in {x v : Int} (h : jzb x = some v) : jIn v := by
  unfold jzb at h
  split at h
  · rename_i hc
    cases h
    rcases hc with rfl | rfl <;> exact ⟨by decide, by decide⟩
  · cases h
theorem jlen_in {a : Nat} {v : Int} (h : jlen sh a = some v) : jIn v := by
  unfold jlen at h
  split at h
  · rename_i hc
    cases h
    exact ⟨by omega, by omega⟩
  · cases h
theorem jsub_0 : jsub [] [] := trivial
theorem jsub_n {a b : List (Option Value)} {y : Option Value} (h : jsub a b) : jsub (none :: a) (y :: b) := h
theorem jsub_s {a b : List (Option Value)} {v : Value} (h : jsub a b) : jsub (some v :: a) (some v :: b) := ⟨rfl, h⟩
end JCALLS
