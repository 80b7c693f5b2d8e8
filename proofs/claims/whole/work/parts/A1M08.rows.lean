section JROWS
variable {p : Program} {l : Launch} {e : Env} {R : Room} {s : State} {mi : MethodId} {args : Array Value} {below : List Frame} {meth : Method} {c : Code} {H H0 : Heap} {locs : List Loc} {cells slots : Nat} {Q : State → Prop} {cc : ByteArray} {nL : Nat} {own : String} {rt : Option FieldType} {D : va_G} {cy : Nat → ClassId} {B sz : Nat} {sh : jm_S} {A : Nat → Prop} {m : jm_M} {pc : Nat} {ls : Array Slot} {lv : List (Option Value)} {st : List Value}
theorem jr_iconst (C : jCx p s mi args meth c cc nL own rt D cy) {n : Int} (hdg : decode cc pc = .ok (.iconst n, 1)) (kk : W p l e R s mi args below meth c H locs cells slots Q (F0 mi (pc + 1) ls (jI n :: st))) : W p l e R s mi args below meth c H locs cells slots Q (F0 mi pc ls st) := lv_iconst C.1 C.2.1 hdg rfl kk
theorem jr_bipush (C : jCx p s mi args meth c cc nL own rt D cy) {n : Int} (hdg : decode cc pc = .ok (.bipush n, 2)) (hv : (Int8.ofInt n).toInt32 = Int32.ofInt n) (kk : W p l e R s mi args below meth c H locs cells slots Q (F0 mi (pc + 2) ls (jI n :: st))) : W p l e R s mi args below meth c H locs cells slots Q (F0 mi pc ls st) := lv_bipush C.1 C.2.1 hdg hv kk
theorem jr_sipush (C : jCx p s mi args meth c cc nL own rt D cy) {n : Int} (hdg : decode cc pc = .ok (.sipush n, 3)) (hv : (Int16.ofInt n).toInt32 = Int32.ofInt n) (kk : W p l e R s mi args below meth c H locs cells slots Q (F0 mi (pc + 3) ls (jI n :: st))) : W p l e R s mi args below meth c H locs cells slots Q (F0 mi pc ls st) := lv_sipush C.1 C.2.1 hdg hv kk
theorem jr_ldcw (C : jCx p s mi args meth c cc nL own rt D cy) {n : Int} {idx : Nat} (hw : Cond.constant own idx (Int32.ofInt n) ∈ jB) (hdg : decode cc pc = .ok (.ldc_w idx, 3)) (kk : W p l e R s mi args below meth c H locs cells slots Q (F0 mi (pc + 3) ls (jI n :: st))) : W p l e R s mi args below meth c H locs cells slots Q (F0 mi pc ls st) := lv_ldcw C.1 C.2.1 C.2.2.2.1 (C.2.2.2.2.1 _ hw) hdg kk
theorem jr_null (C : jCx p s mi args meth c cc nL own rt D cy) (hdg : decode cc pc = .ok (.aconst_null, 1)) (kk : W p l e R s mi args below meth c H locs cells slots Q (F0 mi (pc + 1) ls (jR B 0 :: st))) : W p l e R s mi args below meth c H locs cells slots Q (F0 mi pc ls st) := lv_null C.1 C.2.1 hdg kk
theorem jr_iload_n (C : jCx p s mi args meth c cc nL own rt D cy) {k : Fin 4} {i : Nat} {x : Int} (L : jL ls lv) (hdg : decode cc pc = .ok (.iload_n k, 1)) (hi : (k : Nat) = i) (hl : lv[i]? = some (some (jI x))) (kk : W p l e R s mi args below meth c H locs cells slots Q (F0 mi (pc + 1) ls (jI x :: st))) : W p l e R s mi args below meth c H locs cells slots Q (F0 mi pc ls st) := lv_iload_n C.1 C.2.1 hdg hi (L.at hl) kk
theorem jr_iload (C : jCx p s mi args meth c cc nL own rt D cy) {i : Nat} {x : Int} (L : jL ls lv) (hdg : decode cc pc = .ok (.iload i, 2)) (hl : lv[i]? = some (some (jI x))) (kk : W p l e R s mi args below meth c H locs cells slots Q (F0 mi (pc + 2) ls (jI x :: st))) : W p l e R s mi args below meth c H locs cells slots Q (F0 mi pc ls st) := lv_iload C.1 C.2.1 hdg (L.at hl) kk
theorem jr_aload_n (C : jCx p s mi args meth c cc nL own rt D cy) {k : Fin 4} {i : Nat} {r : Nat} (L : jL ls lv) (hdg : decode cc pc = .ok (.aload_n k, 1)) (hi : (k : Nat) = i) (hl : lv[i]? = some (some (jR B r))) (kk : W p l e R s mi args below meth c H locs cells slots Q (F0 mi (pc + 1) ls (jR B r :: st))) : W p l e R s mi args below meth c H locs cells slots Q (F0 mi pc ls st) := by
  by_cases h : r = 0
  · subst h
    exact lv_aload_nN C.1 C.2.1 hdg hi (L.at hl) kk
  · rw [jR_pos h] at hl kk
    exact lv_aload_n C.1 C.2.1 hdg hi (L.at hl) kk
theorem jr_aload (C : jCx p s mi args meth c cc nL own rt D cy) {i : Nat} {r : Nat} (L : jL ls lv) (hdg : decode cc pc = .ok (.aload i, 2)) (hl : lv[i]? = some (some (jR B r))) (kk : W p l e R s mi args below meth c H locs cells slots Q (F0 mi (pc + 2) ls (jR B r :: st))) : W p l e R s mi args below meth c H locs cells slots Q (F0 mi pc ls st) := by
  by_cases h : r = 0
  · subst h
    exact lv_aloadN C.1 C.2.1 hdg (L.at hl) kk
  · rw [jR_pos h] at hl kk
    exact lv_aload C.1 C.2.1 hdg (L.at hl) kk
theorem jr_step_st {i : Nat} {v : Value} {len : Nat} {ls2 : Array Slot} (hx : p.tables.exec = Jvm.exec) (hb : c.code = cc) (e2 : storeLocals ls i v = some ls2) (hdg : (∃ k : Fin 4, (k : Nat) = i ∧ len = 1 ∧ ((∃ x, v = .int x) ∧ decode cc pc = .ok (.istore_n k, 1) ∨ ((∃ x, v = .ref x) ∨ v = .null) ∧ decode cc pc = .ok (.astore_n k, 1))) ∨ (len = 2 ∧ ((∃ x, v = .int x) ∧ decode cc pc = .ok (.istore i, 2) ∨ ((∃ x, v = .ref x) ∨ v = .null) ∧ decode cc pc = .ok (.astore i, 2))))
    (kk : W p l e R s mi args below meth c H locs cells slots Q (F0 mi (pc + len) ls2 st)) : W p l e R s mi args below meth c H locs cells slots Q (F0 mi pc ls (v :: st)) := by
  intro T hT X
  obtain ⟨t, a, b⟩ := kk T hT X
  refine ⟨t, ?_, b⟩
  rcases hdg with ⟨k, rfl, rfl, h | h⟩ | ⟨rfl, h | h⟩
  · obtain ⟨⟨x, rfl⟩, hdg⟩ := h
    jvm_step X.here [X.here.top, ↓top_set X.here.top, hx, hb, hdg, e2]
    exact a
  · obtain ⟨h, hdg⟩ := h
    rcases h with ⟨x, rfl⟩ | rfl
    · jvm_step X.here [X.here.top, ↓top_set X.here.top, hx, hb, hdg, e2]
      exact ⟨rfl, a⟩
    · jvm_step X.here [X.here.top, ↓top_set X.here.top, hx, hb, hdg, e2]
      exact ⟨rfl, a⟩
  · obtain ⟨⟨x, rfl⟩, hdg⟩ := h
    jvm_step X.here [X.here.top, ↓top_set X.here.top, hx, hb, hdg, e2]
    exact a
  · obtain ⟨h, hdg⟩ := h
    rcases h with ⟨x, rfl⟩ | rfl
    · jvm_step X.here [X.here.top, ↓top_set X.here.top, hx, hb, hdg, e2]
      exact ⟨rfl, a⟩
    · jvm_step X.here [X.here.top, ↓top_set X.here.top, hx, hb, hdg, e2]
      exact ⟨rfl, a⟩
theorem jR_or (B r : Nat) : (∃ x, jR B r = .ref x) ∨ jR B r = .null := by
  by_cases h : r = 0
  · subst h; exact Or.inr rfl
  · exact Or.inl ⟨_, jR_pos h⟩
theorem jr_istore_n (C : jCx p s mi args meth c cc nL own rt D cy) {k : Fin 4} {i : Nat} {x : Int} (L : jL ls lv) (hdg : decode cc pc = .ok (.istore_n k, 1)) (hi : (k : Nat) = i) (hn : i < lv.length) (kk : ∀ ls' : Array Slot, jL ls' (lv.set i (some (jI x))) → W p l e R s mi args below meth c H locs cells slots Q (F0 mi (pc + 1) ls' st)) : W p l e R s mi args below meth c H locs cells slots Q (F0 mi pc ls (jI x :: st)) := by
  obtain ⟨ls2, e2, h2⟩ := L.store (v := jI x) hn rfl
  exact jr_step_st C.1 C.2.1 e2 (Or.inl ⟨k, hi, rfl, Or.inl ⟨⟨_, rfl⟩, hdg⟩⟩) (kk _ h2)
theorem jr_istore (C : jCx p s mi args meth c cc nL own rt D cy) {i : Nat} {x : Int} (L : jL ls lv) (hdg : decode cc pc = .ok (.istore i, 2)) (hn : i < lv.length) (kk : ∀ ls' : Array Slot, jL ls' (lv.set i (some (jI x))) → W p l e R s mi args below meth c H locs cells slots Q (F0 mi (pc + 2) ls' st)) : W p l e R s mi args below meth c H locs cells slots Q (F0 mi pc ls (jI x :: st)) := by
  obtain ⟨ls2, e2, h2⟩ := L.store (v := jI x) hn rfl
  exact jr_step_st C.1 C.2.1 e2 (Or.inr ⟨rfl, Or.inl ⟨⟨_, rfl⟩, hdg⟩⟩) (kk _ h2)
theorem jr_astore_n (C : jCx p s mi args meth c cc nL own rt D cy) {k : Fin 4} {i : Nat} {r : Nat} (L : jL ls lv) (hdg : decode cc pc = .ok (.astore_n k, 1)) (hi : (k : Nat) = i) (hn : i < lv.length) (kk : ∀ ls' : Array Slot, jL ls' (lv.set i (some (jR B r))) → W p l e R s mi args below meth c H locs cells slots Q (F0 mi (pc + 1) ls' st)) : W p l e R s mi args below meth c H locs cells slots Q (F0 mi pc ls (jR B r :: st)) := by
  obtain ⟨ls2, e2, h2⟩ := L.store (v := jR B r) hn (jR_cat B r)
  exact jr_step_st C.1 C.2.1 e2 (Or.inl ⟨k, hi, rfl, Or.inr ⟨jR_or B r, hdg⟩⟩) (kk _ h2)
theorem jr_astore (C : jCx p s mi args meth c cc nL own rt D cy) {i : Nat} {r : Nat} (L : jL ls lv) (hdg : decode cc pc = .ok (.astore i, 2)) (hn : i < lv.length) (kk : ∀ ls' : Array Slot, jL ls' (lv.set i (some (jR B r))) → W p l e R s mi args below meth c H locs cells slots Q (F0 mi (pc + 2) ls' st)) : W p l e R s mi args below meth c H locs cells slots Q (F0 mi pc ls (jR B r :: st)) := by
  obtain ⟨ls2, e2, h2⟩ := L.store (v := jR B r) hn (jR_cat B r)
  exact jr_step_st C.1 C.2.1 e2 (Or.inr ⟨rfl, Or.inr ⟨jR_or B r, hdg⟩⟩) (kk _ h2)
theorem jr_iinc (C : jCx p s mi args meth c cc nL own rt D cy) {i : Nat} {n x : Int} (L : jL ls lv) (hdg : decode cc pc = .ok (.iinc i n, 3)) (hl : lv[i]? = some (some (jI x))) (hn : i < lv.length) (kk : ∀ ls' : Array Slot, jL ls' (lv.set i (some (jI (jw (x + n))))) → W p l e R s mi args below meth c H locs cells slots Q (F0 mi (pc + 3) ls' st)) : W p l e R s mi args below meth c H locs cells slots Q (F0 mi pc ls st) := by
  obtain ⟨ls2, e2, h2⟩ := L.store (v := jI (jw (x + n))) hn rfl
  have hg := L.at hl
  have hv : Int32.ofInt x + Int32.ofInt n = Int32.ofInt (jw (x + n)) := jof_add x n
  have k2 := kk _ h2
  intro T hT X
  obtain ⟨t, a, b⟩ := k2 T hT X
  refine ⟨t, ?_, b⟩
  have e2 : storeLocals ls i (.int (Int32.ofInt x + Int32.ofInt n)) = some ls2 := by rw [hv]; exact e2
  have hx := C.1
  have hb := C.2.1
  jvm_step X.here [X.here.top, ↓top_set X.here.top, hx, hb, hdg, hg, e2]
  exact a
theorem jr_iadd (C : jCx p s mi args meth c cc nL own rt D cy) {x y : Int} (hdg : decode cc pc = .ok (.iadd, 1)) (kk : W p l e R s mi args below meth c H locs cells slots Q (F0 mi (pc + 1) ls (jI (jw (x + y)) :: st))) : W p l e R s mi args below meth c H locs cells slots Q (F0 mi pc ls (jI y :: jI x :: st)) := lv_iadd C.1 C.2.1 hdg (by rw [jof_add]; exact kk)
theorem jr_isub (C : jCx p s mi args meth c cc nL own rt D cy) {x y : Int} (hdg : decode cc pc = .ok (.isub, 1)) (kk : W p l e R s mi args below meth c H locs cells slots Q (F0 mi (pc + 1) ls (jI (jw (x - y)) :: st))) : W p l e R s mi args below meth c H locs cells slots Q (F0 mi pc ls (jI y :: jI x :: st)) := lv_isub C.1 C.2.1 hdg (by rw [jof_sub]; exact kk)
theorem jr_imul (C : jCx p s mi args meth c cc nL own rt D cy) {x y : Int} (hdg : decode cc pc = .ok (.imul, 1)) (kk : W p l e R s mi args below meth c H locs cells slots Q (F0 mi (pc + 1) ls (jI (jw (x * y)) :: st))) : W p l e R s mi args below meth c H locs cells slots Q (F0 mi pc ls (jI y :: jI x :: st)) := lv_imul C.1 C.2.1 hdg (by rw [jof_mul]; exact kk)
theorem jr_idiv (C : jCx p s mi args meth c cc nL own rt D cy) {x y : Int} (hx : jIn x) (hy : jIn y) (hne : ¬ y = 0) (hdg : decode cc pc = .ok (.idiv, 1)) (kk : W p l e R s mi args below meth c H locs cells slots Q (F0 mi (pc + 1) ls (jI (jdiv x y) :: st))) : W p l e R s mi args below meth c H locs cells slots Q (F0 mi pc ls (jI y :: jI x :: st)) := lv_idiv C.1 C.2.1 hdg (fun q => hne ((jeq_iff hy ⟨by decide, by decide⟩).mp q)) (by rw [jof_div hx hy]; exact kk)
theorem jr_irem (C : jCx p s mi args meth c cc nL own rt D cy) {x y : Int} (hx : jIn x) (hy : jIn y) (hne : ¬ y = 0) (hdg : decode cc pc = .ok (.irem, 1)) (kk : W p l e R s mi args below meth c H locs cells slots Q (F0 mi (pc + 1) ls (jI (jrem x y) :: st))) : W p l e R s mi args below meth c H locs cells slots Q (F0 mi pc ls (jI y :: jI x :: st)) := lv_irem C.1 C.2.1 hdg (fun q => hne ((jeq_iff hy ⟨by decide, by decide⟩).mp q)) (by rw [jof_rem2 hx hy]; exact kk)
theorem jr_iand (C : jCx p s mi args meth c cc nL own rt D cy) {x y : Int} (hdg : decode cc pc = .ok (.iand, 1)) (kk : W p l e R s mi args below meth c H locs cells slots Q (F0 mi (pc + 1) ls (jI (jand x y) :: st))) : W p l e R s mi args below meth c H locs cells slots Q (F0 mi pc ls (jI y :: jI x :: st)) := lv_iand C.1 C.2.1 hdg (by rw [show Int32.ofInt x &&& Int32.ofInt y = Int32.ofInt (jand x y) from (Int32.ofInt_toInt _).symm]; exact kk)
theorem jr_ior (C : jCx p s mi args meth c cc nL own rt D cy) {x y : Int} (hdg : decode cc pc = .ok (.ior, 1)) (kk : W p l e R s mi args below meth c H locs cells slots Q (F0 mi (pc + 1) ls (jI (jor x y) :: st))) : W p l e R s mi args below meth c H locs cells slots Q (F0 mi pc ls (jI y :: jI x :: st)) := lv_ior C.1 C.2.1 hdg (by rw [show Int32.ofInt x ||| Int32.ofInt y = Int32.ofInt (jor x y) from (Int32.ofInt_toInt _).symm]; exact kk)
theorem jr_ixor (C : jCx p s mi args meth c cc nL own rt D cy) {x y : Int} (hdg : decode cc pc = .ok (.ixor, 1)) (kk : W p l e R s mi args below meth c H locs cells slots Q (F0 mi (pc + 1) ls (jI (jxor x y) :: st))) : W p l e R s mi args below meth c H locs cells slots Q (F0 mi pc ls (jI y :: jI x :: st)) := lv_ixor C.1 C.2.1 hdg (by rw [show Int32.ofInt x ^^^ Int32.ofInt y = Int32.ofInt (jxor x y) from (Int32.ofInt_toInt _).symm]; exact kk)
theorem jr_ishl (C : jCx p s mi args meth c cc nL own rt D cy) {x y : Int} (hdg : decode cc pc = .ok (.ishl, 1)) (kk : W p l e R s mi args below meth c H locs cells slots Q (F0 mi (pc + 1) ls (jI (jshl x y) :: st))) : W p l e R s mi args below meth c H locs cells slots Q (F0 mi pc ls (jI y :: jI x :: st)) := lv_ishl C.1 C.2.1 hdg (by rw [show Int32.ofInt x <<< (Int32.ofInt y &&& 31) = Int32.ofInt (jshl x y) from (Int32.ofInt_toInt _).symm]; exact kk)
theorem jr_ishr (C : jCx p s mi args meth c cc nL own rt D cy) {x y : Int} (hdg : decode cc pc = .ok (.ishr, 1)) (kk : W p l e R s mi args below meth c H locs cells slots Q (F0 mi (pc + 1) ls (jI (jshr x y) :: st))) : W p l e R s mi args below meth c H locs cells slots Q (F0 mi pc ls (jI y :: jI x :: st)) := lv_ishr C.1 C.2.1 hdg (by rw [show Int32.ofInt x >>> (Int32.ofInt y &&& 31) = Int32.ofInt (jshr x y) from (Int32.ofInt_toInt _).symm]; exact kk)
theorem jr_iushr (C : jCx p s mi args meth c cc nL own rt D cy) {x y : Int} (hdg : decode cc pc = .ok (.iushr, 1)) (kk : W p l e R s mi args below meth c H locs cells slots Q (F0 mi (pc + 1) ls (jI (jushr x y) :: st))) : W p l e R s mi args below meth c H locs cells slots Q (F0 mi pc ls (jI y :: jI x :: st)) := lv_iushr C.1 C.2.1 hdg (Int32.ofInt_toInt _).symm kk
theorem jr_goto (C : jCx p s mi args meth c cc nL own rt D cy) {off : Int} {tgt : Nat} (hdg : decode cc pc = .ok (.goto off, 3)) (ht : (pc : Int) + off = (tgt : Int)) (kk : W p l e R s mi args below meth c H locs cells slots Q (F0 mi tgt ls st)) : W p l e R s mi args below meth c H locs cells slots Q (F0 mi pc ls st) := lv_goto C.1 C.2.1 hdg ht kk
theorem jr_dupI (C : jCx p s mi args meth c cc nL own rt D cy) {x : Int} (hdg : decode cc pc = .ok (.dup, 1)) (kk : W p l e R s mi args below meth c H locs cells slots Q (F0 mi (pc + 1) ls (jI x :: jI x :: st))) : W p l e R s mi args below meth c H locs cells slots Q (F0 mi pc ls (jI x :: st)) := lv_dup C.1 C.2.1 hdg rfl kk
theorem jr_dupR (C : jCx p s mi args meth c cc nL own rt D cy) {r : Nat} (hdg : decode cc pc = .ok (.dup, 1)) (kk : W p l e R s mi args below meth c H locs cells slots Q (F0 mi (pc + 1) ls (jR B r :: jR B r :: st))) : W p l e R s mi args below meth c H locs cells slots Q (F0 mi pc ls (jR B r :: st)) := lv_dup C.1 C.2.1 hdg (jR_cat B r) kk
theorem jr_dup2 (C : jCx p s mi args meth c cc nL own rt D cy) {x : Int} {r : Nat} (hdg : decode cc pc = .ok (.dup2, 1)) (kk : W p l e R s mi args below meth c H locs cells slots Q (F0 mi (pc + 1) ls (jI x :: jR B r :: jI x :: jR B r :: st))) : W p l e R s mi args below meth c H locs cells slots Q (F0 mi pc ls (jI x :: jR B r :: st)) := lv_dup2_11 C.1 C.2.1 hdg rfl (jR_cat B r) kk
theorem jr_ifnonnull (C : jCx p s mi args meth c cc nL own rt D cy) {r : Nat} {off : Int} {tgt : Nat} (hdg : decode cc pc = .ok (.ifnonnull off, 3)) (ht : (pc : Int) + off = (tgt : Int)) (k1 : r = 0 → W p l e R s mi args below meth c H locs cells slots Q (F0 mi (pc + 3) ls st)) (k2 : ¬ r = 0 → W p l e R s mi args below meth c H locs cells slots Q (F0 mi tgt ls st)) : W p l e R s mi args below meth c H locs cells slots Q (F0 mi pc ls (jR B r :: st)) := by
  by_cases h : r = 0
  · have h1 := k1 h
    subst h
    exact lv_ifnonnullN C.1 C.2.1 hdg h1
  · rw [jR_pos h]
    exact lv_ifnonnull C.1 C.2.1 hdg ht (k2 h)
theorem jr_icmp_eq (C : jCx p s mi args meth c cc nL own rt D cy) {x y : Int} (hx : jIn x) (hy : jIn y) {off : Int} {tgt : Nat} (hdg : decode cc pc = .ok (.if_icmp .eq off, 3)) (ht : (pc : Int) + off = (tgt : Int)) (k1 : x = y → W p l e R s mi args below meth c H locs cells slots Q (F0 mi tgt ls st)) (k2 : ¬ x = y → W p l e R s mi args below meth c H locs cells slots Q (F0 mi (pc + 3) ls st)) : W p l e R s mi args below meth c H locs cells slots Q (F0 mi pc ls (jI y :: jI x :: st)) := by
  exact lv_icmp_eq C.1 C.2.1 hdg ht (fun q => k1 ((jeq_iff hx hy).mp q)) (fun q => k2 (fun z => q ((jeq_iff hx hy).mpr z)))
theorem jr_icmp_ne (C : jCx p s mi args meth c cc nL own rt D cy) {x y : Int} (hx : jIn x) (hy : jIn y) {off : Int} {tgt : Nat} (hdg : decode cc pc = .ok (.if_icmp .ne off, 3)) (ht : (pc : Int) + off = (tgt : Int)) (k1 : x = y → W p l e R s mi args below meth c H locs cells slots Q (F0 mi (pc + 3) ls st)) (k2 : ¬ x = y → W p l e R s mi args below meth c H locs cells slots Q (F0 mi tgt ls st)) : W p l e R s mi args below meth c H locs cells slots Q (F0 mi pc ls (jI y :: jI x :: st)) := by
  exact lv_icmp_ne C.1 C.2.1 hdg ht (fun q => k2 (fun z => q ((jeq_iff hx hy).mpr z))) (fun q => k1 ((jeq_iff hx hy).mp q))
theorem jr_icmp_lt (C : jCx p s mi args meth c cc nL own rt D cy) {x y : Int} (hx : jIn x) (hy : jIn y) {off : Int} {tgt : Nat} (hdg : decode cc pc = .ok (.if_icmp .lt off, 3)) (ht : (pc : Int) + off = (tgt : Int)) (k1 : x < y → W p l e R s mi args below meth c H locs cells slots Q (F0 mi tgt ls st)) (k2 : ¬ x < y → W p l e R s mi args below meth c H locs cells slots Q (F0 mi (pc + 3) ls st)) : W p l e R s mi args below meth c H locs cells slots Q (F0 mi pc ls (jI y :: jI x :: st)) := by
  exact lv_icmp_lt C.1 C.2.1 hdg ht (fun q => k1 ((jlt_iff hx hy).mp q)) (fun q => k2 (fun z => q ((jlt_iff hx hy).mpr z)))
theorem jr_icmp_ge (C : jCx p s mi args meth c cc nL own rt D cy) {x y : Int} (hx : jIn x) (hy : jIn y) {off : Int} {tgt : Nat} (hdg : decode cc pc = .ok (.if_icmp .ge off, 3)) (ht : (pc : Int) + off = (tgt : Int)) (k1 : x < y → W p l e R s mi args below meth c H locs cells slots Q (F0 mi (pc + 3) ls st)) (k2 : ¬ x < y → W p l e R s mi args below meth c H locs cells slots Q (F0 mi tgt ls st)) : W p l e R s mi args below meth c H locs cells slots Q (F0 mi pc ls (jI y :: jI x :: st)) := by
  exact lv_icmp_ge C.1 C.2.1 hdg ht (fun q => k2 (fun z => by have h1 := (jle_iff hy hx).mp q; omega)) (fun q => k1 (by have h1 := mt (jle_iff hy hx).mpr q; omega))
theorem jr_icmp_gt (C : jCx p s mi args meth c cc nL own rt D cy) {x y : Int} (hx : jIn x) (hy : jIn y) {off : Int} {tgt : Nat} (hdg : decode cc pc = .ok (.if_icmp .gt off, 3)) (ht : (pc : Int) + off = (tgt : Int)) (k1 : y < x → W p l e R s mi args below meth c H locs cells slots Q (F0 mi tgt ls st)) (k2 : ¬ y < x → W p l e R s mi args below meth c H locs cells slots Q (F0 mi (pc + 3) ls st)) : W p l e R s mi args below meth c H locs cells slots Q (F0 mi pc ls (jI y :: jI x :: st)) := by
  exact lv_icmp_gt C.1 C.2.1 hdg ht (fun q => k1 ((jlt_iff hy hx).mp q)) (fun q => k2 (fun z => q ((jlt_iff hy hx).mpr z)))
theorem jr_icmp_le (C : jCx p s mi args meth c cc nL own rt D cy) {x y : Int} (hx : jIn x) (hy : jIn y) {off : Int} {tgt : Nat} (hdg : decode cc pc = .ok (.if_icmp .le off, 3)) (ht : (pc : Int) + off = (tgt : Int)) (k1 : y < x → W p l e R s mi args below meth c H locs cells slots Q (F0 mi (pc + 3) ls st)) (k2 : ¬ y < x → W p l e R s mi args below meth c H locs cells slots Q (F0 mi tgt ls st)) : W p l e R s mi args below meth c H locs cells slots Q (F0 mi pc ls (jI y :: jI x :: st)) := by
  exact lv_icmp_le C.1 C.2.1 hdg ht (fun q => k2 (fun z => by have h1 := (jle_iff hx hy).mp q; omega)) (fun q => k1 (by have h1 := mt (jle_iff hx hy).mpr q; omega))
theorem jr_if_eq (C : jCx p s mi args meth c cc nL own rt D cy) {x : Int} (hx : jIn x) {off : Int} {tgt : Nat} (hdg : decode cc pc = .ok (.ifCond .eq off, 3)) (ht : (pc : Int) + off = (tgt : Int)) (k1 : x = 0 → W p l e R s mi args below meth c H locs cells slots Q (F0 mi tgt ls st)) (k2 : ¬ x = 0 → W p l e R s mi args below meth c H locs cells slots Q (F0 mi (pc + 3) ls st)) : W p l e R s mi args below meth c H locs cells slots Q (F0 mi pc ls (jI x :: st)) := by
  have h0 : jIn 0 := ⟨by decide, by decide⟩
  exact lv_if_eq C.1 C.2.1 hdg ht (fun q => k1 ((jeq_iff hx h0).mp q)) (fun q => k2 (fun z => q ((jeq_iff hx h0).mpr z)))
theorem jr_if_ne (C : jCx p s mi args meth c cc nL own rt D cy) {x : Int} (hx : jIn x) {off : Int} {tgt : Nat} (hdg : decode cc pc = .ok (.ifCond .ne off, 3)) (ht : (pc : Int) + off = (tgt : Int)) (k1 : x = 0 → W p l e R s mi args below meth c H locs cells slots Q (F0 mi (pc + 3) ls st)) (k2 : ¬ x = 0 → W p l e R s mi args below meth c H locs cells slots Q (F0 mi tgt ls st)) : W p l e R s mi args below meth c H locs cells slots Q (F0 mi pc ls (jI x :: st)) := by
  have h0 : jIn 0 := ⟨by decide, by decide⟩
  exact lv_if_ne C.1 C.2.1 hdg ht (fun q => k2 (fun z => q ((jeq_iff hx h0).mpr z))) (fun q => k1 ((jeq_iff hx h0).mp q))
theorem jr_if_lt (C : jCx p s mi args meth c cc nL own rt D cy) {x : Int} (hx : jIn x) {off : Int} {tgt : Nat} (hdg : decode cc pc = .ok (.ifCond .lt off, 3)) (ht : (pc : Int) + off = (tgt : Int)) (k1 : x < 0 → W p l e R s mi args below meth c H locs cells slots Q (F0 mi tgt ls st)) (k2 : ¬ x < 0 → W p l e R s mi args below meth c H locs cells slots Q (F0 mi (pc + 3) ls st)) : W p l e R s mi args below meth c H locs cells slots Q (F0 mi pc ls (jI x :: st)) := by
  have h0 : jIn 0 := ⟨by decide, by decide⟩
  exact lv_if_lt C.1 C.2.1 hdg ht (fun q => k1 ((jlt_iff hx h0).mp q)) (fun q => k2 (fun z => q ((jlt_iff hx h0).mpr z)))
theorem jr_if_ge (C : jCx p s mi args meth c cc nL own rt D cy) {x : Int} (hx : jIn x) {off : Int} {tgt : Nat} (hdg : decode cc pc = .ok (.ifCond .ge off, 3)) (ht : (pc : Int) + off = (tgt : Int)) (k1 : x < 0 → W p l e R s mi args below meth c H locs cells slots Q (F0 mi (pc + 3) ls st)) (k2 : ¬ x < 0 → W p l e R s mi args below meth c H locs cells slots Q (F0 mi tgt ls st)) : W p l e R s mi args below meth c H locs cells slots Q (F0 mi pc ls (jI x :: st)) := by
  have h0 : jIn 0 := ⟨by decide, by decide⟩
  exact lv_if_ge C.1 C.2.1 hdg ht (fun q => k2 (fun z => by have h1 := (jle_iff h0 hx).mp q; omega)) (fun q => k1 (by have h1 := mt (jle_iff h0 hx).mpr q; omega))
theorem jr_if_gt (C : jCx p s mi args meth c cc nL own rt D cy) {x : Int} (hx : jIn x) {off : Int} {tgt : Nat} (hdg : decode cc pc = .ok (.ifCond .gt off, 3)) (ht : (pc : Int) + off = (tgt : Int)) (k1 : 0 < x → W p l e R s mi args below meth c H locs cells slots Q (F0 mi tgt ls st)) (k2 : ¬ 0 < x → W p l e R s mi args below meth c H locs cells slots Q (F0 mi (pc + 3) ls st)) : W p l e R s mi args below meth c H locs cells slots Q (F0 mi pc ls (jI x :: st)) := by
  have h0 : jIn 0 := ⟨by decide, by decide⟩
  exact lv_if_gt C.1 C.2.1 hdg ht (fun q => k1 ((jlt_iff h0 hx).mp q)) (fun q => k2 (fun z => q ((jlt_iff h0 hx).mpr z)))
theorem jr_if_le (C : jCx p s mi args meth c cc nL own rt D cy) {x : Int} (hx : jIn x) {off : Int} {tgt : Nat} (hdg : decode cc pc = .ok (.ifCond .le off, 3)) (ht : (pc : Int) + off = (tgt : Int)) (k1 : 0 < x → W p l e R s mi args below meth c H locs cells slots Q (F0 mi (pc + 3) ls st)) (k2 : ¬ 0 < x → W p l e R s mi args below meth c H locs cells slots Q (F0 mi tgt ls st)) : W p l e R s mi args below meth c H locs cells slots Q (F0 mi pc ls (jI x :: st)) := by
  have h0 : jIn 0 := ⟨by decide, by decide⟩
  exact lv_if_le C.1 C.2.1 hdg ht (fun q => k2 (fun z => by have h1 := (jle_iff hx h0).mp q; omega)) (fun q => k1 (by have h1 := mt (jle_iff hx h0).mpr q; omega))
theorem jr_lookup (C : jCx p s mi args meth c cc nL own rt D cy) {x : Int} (hx : jIn x) {dflt : Int} {ps : Array (Int × Int)} {len : Nat} {off : Int} {tgt : Nat} (hdg : decode cc pc = .ok (.lookupswitch dflt ps, len)) (hp : (ps.toList.zip (ps.toList.drop 1)).all (fun (a, next) => a.1 < next.1) = true) (ho : Op.lookupswitch.offset ps.toList dflt x = off) (ht : (pc : Int) + off = (tgt : Int)) (kk : W p l e R s mi args below meth c H locs cells slots Q (F0 mi tgt ls st)) : W p l e R s mi args below meth c H locs cells slots Q (F0 mi pc ls (jI x :: st)) := lv_lookup C.1 C.2.1 hdg hp (by rw [jt_of hx]; exact ho) ht kk
theorem jr_tableIn (C : jCx p s mi args meth c cc nL own rt D cy) {x k : Int} (hx : jIn x) (hk : k = x) {dflt lo hi : Int} {offs : Array Int} {len : Nat} {off : Int} {tgt : Nat} (hdg : decode cc pc = .ok (.tableswitch dflt lo hi offs, len)) (h1 : ¬ k < lo) (h2 : ¬ hi < k) (ho : offs[(k - lo).toNat]? = some off) (ht : (pc : Int) + off = (tgt : Int)) (kk : W p l e R s mi args below meth c H locs cells slots Q (F0 mi tgt ls st)) : W p l e R s mi args below meth c H locs cells slots Q (F0 mi pc ls (jI x :: st)) := by
  subst hk
  exact lv_tableIn C.1 C.2.1 hdg (by rw [jt_of hx]; exact h1) (by rw [jt_of hx]; exact h2) (by rw [jt_of hx]; exact ho) ht kk
theorem jr_tableOut (C : jCx p s mi args meth c cc nL own rt D cy) {x : Int} (hx : jIn x) {dflt lo hi : Int} {offs : Array Int} {len : Nat} {tgt : Nat} (hdg : decode cc pc = .ok (.tableswitch dflt lo hi offs, len)) (h : x < lo ∨ hi < x) (ht : (pc : Int) + dflt = (tgt : Int)) (kk : W p l e R s mi args below meth c H locs cells slots Q (F0 mi tgt ls st)) : W p l e R s mi args below meth c H locs cells slots Q (F0 mi pc ls (jI x :: st)) := lv_tableOut C.1 C.2.1 hdg (by rw [jt_of hx]; exact h) ht kk
end JROWS
