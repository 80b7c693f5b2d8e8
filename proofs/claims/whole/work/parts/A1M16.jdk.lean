theorem jMet_ofW {l : Launch} {y : MethodName} {ws ws' : List Cond} {rm : Room} {Pc : Array Value → State → Prop} {Qc : Array Value → State → Outcome → State → Prop} {mc ms : Nat} {free : Addr → Prop} {cc : ByteArray} {maxL : Nat} {ret : Option FieldType}
    (hy : plainFor y = true) (hw : ws = Cond.code y cc maxL ret :: ws')
    (body : ∀ p e s m args below meth c s₁, BodyLoose p l y (headSpec ws rm) cc maxL ret e s m args below meth c s₁ → c.maxLocals = maxL → Pc args s →
      W p l e (headSpec ws rm).room s m args below meth c s.heap [] 0 0 (MQ below Qc args s mc ms free) (entryFrame m args maxL)) : Met l y ws rm Pc Qc mc ms free := by
  refine MetFree.of_bodySF (code := cc) (maxLocals := maxL) (ret := ret) hy ?_ ?_
  · intro args s m h hn
    obtain ⟨meth, c, h1, h2, h3, h4, h5, h6, -, -⟩ := Cond.code_spec hn (atoms_spec (ws := ws) h _ (by rw [hw]; exact List.mem_cons_self))
    exact ⟨meth, c, h1, h2, h3, h4, h5, h6⟩
  · intro p e s m args below meth c s₁ B hml hP _
    have hh0 : s₁.heap = s.heap := by rw [B.state]; rfl
    obtain ⟨t, a1, o, b1, b2, b3⟩ := body p e s m args below meth c s₁ B hml hP s₁ hh0 (Stand.of_body B)
    exact ⟨t, o, a1, b1, b2, ⟨b3.1, b3.2⟩⟩
theorem jc_ofF {l : Launch} {D : va_G} {cy : Nat → ClassId} {B sz : Nat} {sh : jm_S} {k : Nat} {y : MethodName} {yc : ByteArray} {yn : Nat} {yr : Option FieldType} {as : List Value} {m m' : jm_M} {v : Option Value} {Pp : Prop} (hy : plainFor y = true) (hc : ∀ v ∈ as, v.category = 1) (hn : as.length ≤ yn)
    (body : ∀ {p : Program} {e : Env} {s : State} {mi : MethodId} {below : List Frame} {meth : Method} {c : Code} {ls : Array Slot}, jCx p s mi as.toArray meth c yc yn y.cls yr D cy → jHs D cy B sz sh (jA B sz) s.heap s.heap [] m → jL ls (as.map some ++ List.replicate (yn - as.length) none) →
      W p l e (jrm k 0 0) s mi as.toArray below meth c s.heap [] 0 0 (MQ below (jQc D cy B sz sh m' v Pp) as.toArray s 0 0 (jA B sz)) (F0 mi 0 ls [])) : jCt l D cy B sz sh k y yc yn yr as m v m' Pp := by
  refine jMet_ofW (cc := yc) (maxL := yn) (ret := yr) hy rfl ?_
  intro p e s mi args below meth c s₁ Bd hml hv
  obtain ⟨rfl, hP, hK, hR, hok⟩ := hv
  have hts := atoms_spec (ws := Cond.code y yc yn yr :: jB) Bd.pre
  rw [lg_entry_eq]
  exact body ⟨Bd.exec, Bd.bytes, hml, findClass_of_methodNamed Bd.named, fun w h => hts w (List.mem_cons_of_mem _ h), Bd.notSynchronized, Bd.returns, hK⟩ ⟨hP, va_S.rf, hR, hok, fun a h1 h2 => ⟨by omega, by omega⟩⟩ (jL.entry as hc hn)
