set_option maxHeartbeats 4000000 in
set_option maxRecDepth 100000 in
theorem t_X12_breaksOf_b123 {p : Program} {l : Launch} {e : Env} {s : State} {mi : MethodId} {args : Array Value} {below : List Frame} {meth : Method} {c : Code} {D : va_G} {cy : Nat → ClassId} {B sz : Nat} {sh : jm_S} {res : Int} {N : Nat} {m0 : jm_M} {k37 : Nat → Int → Int → Int → Int → Option Int} (C : jCx p s mi args meth c cX12_breaksOf 9 RX12 (some .int) D cy) (K37 : ∀ (a0 : Nat) (x3 : Int) (x4 : Int) (x5 : Int) (x6 : Int) , jIn x3 → jIn x4 → jIn x5 → jIn x6 → ∀ (H : Heap) (locs : List Loc) (ls : Array Slot), jHs D cy B sz sh (jA B sz) s.heap H locs m0 → jL ls [some (jR B a0), none, none, some (jI x3), some (jI x4), some (jI x5), some (jI x6), none, none] → k37 a0 x3 x4 x5 x6 = some res → W p l e (jrm 2 0 0) s mi args below meth c H locs 0 0 (MQ below (jQc D cy B sz sh m0 (some (jI res)) (jIn res)) args s 0 0 (jA B sz)) (F0 mi 37 ls [])) {a0 : Nat} {x3 : Int} (h_x3 : jIn x3) {x4 : Int} (h_x4 : jIn x4) {x6 : Int} (h_x6 : jIn x6) {s0 : Int} (h_s0 : jIn s0) {s1 : Int} (h_s1 : jIn s1) {H : Heap} {locs : List Loc} {ls : Array Slot} (S : jHs D cy B sz sh (jA B sz) s.heap H locs m0) (L : jL ls [some (jR B a0), none, none, some (jI x3), some (jI x4), none, some (jI x6), none, none]) (hyp : f_X12_breaksOf_b123 N sh k37 a0 x3 x4 x6 s0 s1 m0 = some res) : W p l e (jrm 2 0 0) s mi args below meth c H locs 0 0 (MQ below (jQc D cy B sz sh m0 (some (jI res)) (jIn res)) args s 0 0 (jA B sz)) (F0 mi 123 ls [jI s1, jI s0]) := by
  unfold f_X12_breaksOf_b123 at hyp
  refine jr_iadd (pc := 123) C dX12_breaksOf_123 ?_
  refine jr_istore (pc := 124) C L dX12_breaksOf_124 (Nat.le_of_ble_eq_true rfl) (fun ls L => ?_)
  have L : jL ls [some (jR B a0), none, none, some (jI x3), some (jI x4), some (jI (jw (s0 + s1))), some (jI x6), none, none] := L
  refine jr_iinc (pc := 126) C L dX12_breaksOf_126 rfl (Nat.le_of_ble_eq_true rfl) (fun ls L => ?_)
  have L : jL ls [some (jR B a0), none, none, some (jI x3), some (jI x4), some (jI (jw (s0 + s1))), some (jI (jw (x6 + 1))), none, none] := L
  refine jr_goto (pc := 129) C (tgt := 37) dX12_breaksOf_129 (by decide) ?_
  exact K37 a0 x3 x4 (jw (s0 + s1)) (jw (x6 + 1)) h_x3 h_x4 (jIn_w _) (jIn_w _)  _ _ _ S (L.sub (jsub_s (jsub_n (jsub_n (jsub_s (jsub_s (jsub_s (jsub_s (jsub_n (jsub_n jsub_0)))))))))) hyp
set_option maxHeartbeats 4000000 in
set_option maxRecDepth 100000 in
theorem t_X12_breaksOf_b122 {p : Program} {l : Launch} {e : Env} {s : State} {mi : MethodId} {args : Array Value} {below : List Frame} {meth : Method} {c : Code} {D : va_G} {cy : Nat → ClassId} {B sz : Nat} {sh : jm_S} {res : Int} {N : Nat} {m0 : jm_M} {k37 : Nat → Int → Int → Int → Int → Option Int} (C : jCx p s mi args meth c cX12_breaksOf 9 RX12 (some .int) D cy) (K37 : ∀ (a0 : Nat) (x3 : Int) (x4 : Int) (x5 : Int) (x6 : Int) , jIn x3 → jIn x4 → jIn x5 → jIn x6 → ∀ (H : Heap) (locs : List Loc) (ls : Array Slot), jHs D cy B sz sh (jA B sz) s.heap H locs m0 → jL ls [some (jR B a0), none, none, some (jI x3), some (jI x4), some (jI x5), some (jI x6), none, none] → k37 a0 x3 x4 x5 x6 = some res → W p l e (jrm 2 0 0) s mi args below meth c H locs 0 0 (MQ below (jQc D cy B sz sh m0 (some (jI res)) (jIn res)) args s 0 0 (jA B sz)) (F0 mi 37 ls [])) {a0 : Nat} {x3 : Int} (h_x3 : jIn x3) {x4 : Int} (h_x4 : jIn x4) {x6 : Int} (h_x6 : jIn x6) {s0 : Int} (h_s0 : jIn s0) {H : Heap} {locs : List Loc} {ls : Array Slot} (S : jHs D cy B sz sh (jA B sz) s.heap H locs m0) (L : jL ls [some (jR B a0), none, none, some (jI x3), some (jI x4), none, some (jI x6), none, none]) (hyp : f_X12_breaksOf_b122 N sh k37 a0 x3 x4 x6 s0 m0 = some res) : W p l e (jrm 2 0 0) s mi args below meth c H locs 0 0 (MQ below (jQc D cy B sz sh m0 (some (jI res)) (jIn res)) args s 0 0 (jA B sz)) (F0 mi 122 ls [jI s0]) := by
  unfold f_X12_breaksOf_b122 at hyp
  refine jr_iconst (pc := 122) C dX12_breaksOf_122 ?_
  exact t_X12_breaksOf_b123 C  K37 h_x3 h_x4 h_x6 h_s0 (show jIn 0 from ⟨by decide, by decide⟩) S (L.sub (jsub_s (jsub_n (jsub_n (jsub_s (jsub_s (jsub_n (jsub_s (jsub_n (jsub_n jsub_0)))))))))) hyp
set_option maxHeartbeats 4000000 in
set_option maxRecDepth 100000 in
theorem t_X12_breaksOf_b92 {p : Program} {l : Launch} {e : Env} {s : State} {mi : MethodId} {args : Array Value} {below : List Frame} {meth : Method} {c : Code} {D : va_G} {cy : Nat → ClassId} {B sz : Nat} {sh : jm_S} {res : Int} {N : Nat} {m0 : jm_M} {k37 : Nat → Int → Int → Int → Int → Option Int} {k50 : Nat → Int → Int → Int → Int → Int → Int → Option Int} (C : jCx p s mi args meth c cX12_breaksOf 9 RX12 (some .int) D cy) (K37 : ∀ (a0 : Nat) (x3 : Int) (x4 : Int) (x5 : Int) (x6 : Int) , jIn x3 → jIn x4 → jIn x5 → jIn x6 → ∀ (H : Heap) (locs : List Loc) (ls : Array Slot), jHs D cy B sz sh (jA B sz) s.heap H locs m0 → jL ls [some (jR B a0), none, none, some (jI x3), some (jI x4), some (jI x5), some (jI x6), none, none] → k37 a0 x3 x4 x5 x6 = some res → W p l e (jrm 2 0 0) s mi args below meth c H locs 0 0 (MQ below (jQc D cy B sz sh m0 (some (jI res)) (jIn res)) args s 0 0 (jA B sz)) (F0 mi 37 ls [])) (K50 : ∀ (a0 : Nat) (x3 : Int) (x4 : Int) (x5 : Int) (x6 : Int) (x7 : Int) (x8 : Int) , jIn x3 → jIn x4 → jIn x5 → jIn x6 → jIn x7 → jIn x8 → ∀ (H : Heap) (locs : List Loc) (ls : Array Slot), jHs D cy B sz sh (jA B sz) s.heap H locs m0 → jL ls [some (jR B a0), none, none, some (jI x3), some (jI x4), some (jI x5), some (jI x6), some (jI x7), some (jI x8)] → k50 a0 x3 x4 x5 x6 x7 x8 = some res → W p l e (jrm 2 0 0) s mi args below meth c H locs 0 0 (MQ below (jQc D cy B sz sh m0 (some (jI res)) (jIn res)) args s 0 0 (jA B sz)) (F0 mi 50 ls [])) {a0 : Nat} {x3 : Int} (h_x3 : jIn x3) {x4 : Int} (h_x4 : jIn x4) {x5 : Int} (h_x5 : jIn x5) {x6 : Int} (h_x6 : jIn x6) {x8 : Int} (h_x8 : jIn x8) {s0 : Int} (h_s0 : jIn s0) {H : Heap} {locs : List Loc} {ls : Array Slot} (S : jHs D cy B sz sh (jA B sz) s.heap H locs m0) (L : jL ls [some (jR B a0), none, none, some (jI x3), some (jI x4), some (jI x5), some (jI x6), none, some (jI x8)]) (hyp : f_X12_breaksOf_b92 N sh k37 k50 a0 x3 x4 x5 x6 x8 s0 m0 = some res) : W p l e (jrm 2 0 0) s mi args below meth c H locs 0 0 (MQ below (jQc D cy B sz sh m0 (some (jI res)) (jIn res)) args s 0 0 (jA B sz)) (F0 mi 92 ls [jI s0]) := by
  unfold f_X12_breaksOf_b92 at hyp
  refine jr_istore (pc := 92) C L dX12_breaksOf_92 (Nat.le_of_ble_eq_true rfl) (fun ls L => ?_)
  have L : jL ls [some (jR B a0), none, none, some (jI x3), some (jI x4), some (jI x5), some (jI x6), some (jI s0), some (jI x8)] := L
  refine jr_iinc (pc := 94) C L dX12_breaksOf_94 rfl (Nat.le_of_ble_eq_true rfl) (fun ls L => ?_)
  have L : jL ls [some (jR B a0), none, none, some (jI x3), some (jI x4), some (jI x5), some (jI x6), some (jI s0), some (jI (jw (x8 + 1)))] := L
  refine jr_goto (pc := 97) C (tgt := 50) dX12_breaksOf_97 (by decide) ?_
  exact K50 a0 x3 x4 x5 x6 s0 (jw (x8 + 1)) h_x3 h_x4 h_x5 h_x6 h_s0 (jIn_w _)  _ _ _ S (L.sub (jsub_s (jsub_n (jsub_n (jsub_s (jsub_s (jsub_s (jsub_s (jsub_s (jsub_s jsub_0)))))))))) hyp
set_option maxHeartbeats 4000000 in
set_option maxRecDepth 100000 in
theorem t_X12_breaksOf_b87 {p : Program} {l : Launch} {e : Env} {s : State} {mi : MethodId} {args : Array Value} {below : List Frame} {meth : Method} {c : Code} {D : va_G} {cy : Nat → ClassId} {B sz : Nat} {sh : jm_S} {res : Int} {N : Nat} {m0 : jm_M} {k37 : Nat → Int → Int → Int → Int → Option Int} {k50 : Nat → Int → Int → Int → Int → Int → Int → Option Int} (C : jCx p s mi args meth c cX12_breaksOf 9 RX12 (some .int) D cy) (K37 : ∀ (a0 : Nat) (x3 : Int) (x4 : Int) (x5 : Int) (x6 : Int) , jIn x3 → jIn x4 → jIn x5 → jIn x6 → ∀ (H : Heap) (locs : List Loc) (ls : Array Slot), jHs D cy B sz sh (jA B sz) s.heap H locs m0 → jL ls [some (jR B a0), none, none, some (jI x3), some (jI x4), some (jI x5), some (jI x6), none, none] → k37 a0 x3 x4 x5 x6 = some res → W p l e (jrm 2 0 0) s mi args below meth c H locs 0 0 (MQ below (jQc D cy B sz sh m0 (some (jI res)) (jIn res)) args s 0 0 (jA B sz)) (F0 mi 37 ls [])) (K50 : ∀ (a0 : Nat) (x3 : Int) (x4 : Int) (x5 : Int) (x6 : Int) (x7 : Int) (x8 : Int) , jIn x3 → jIn x4 → jIn x5 → jIn x6 → jIn x7 → jIn x8 → ∀ (H : Heap) (locs : List Loc) (ls : Array Slot), jHs D cy B sz sh (jA B sz) s.heap H locs m0 → jL ls [some (jR B a0), none, none, some (jI x3), some (jI x4), some (jI x5), some (jI x6), some (jI x7), some (jI x8)] → k50 a0 x3 x4 x5 x6 x7 x8 = some res → W p l e (jrm 2 0 0) s mi args below meth c H locs 0 0 (MQ below (jQc D cy B sz sh m0 (some (jI res)) (jIn res)) args s 0 0 (jA B sz)) (F0 mi 50 ls [])) {a0 : Nat} {x3 : Int} (h_x3 : jIn x3) {x4 : Int} (h_x4 : jIn x4) {x5 : Int} (h_x5 : jIn x5) {x6 : Int} (h_x6 : jIn x6) {x8 : Int} (h_x8 : jIn x8) {H : Heap} {locs : List Loc} {ls : Array Slot} (S : jHs D cy B sz sh (jA B sz) s.heap H locs m0) (L : jL ls [some (jR B a0), none, none, some (jI x3), some (jI x4), some (jI x5), some (jI x6), none, some (jI x8)]) (hyp : f_X12_breaksOf_b87 N sh k37 k50 a0 x3 x4 x5 x6 x8 m0 = some res) : W p l e (jrm 2 0 0) s mi args below meth c H locs 0 0 (MQ below (jQc D cy B sz sh m0 (some (jI res)) (jIn res)) args s 0 0 (jA B sz)) (F0 mi 87 ls []) := by
  unfold f_X12_breaksOf_b87 at hyp
  refine jr_iconst (pc := 87) C dX12_breaksOf_87 ?_
  refine jr_goto (pc := 88) C (tgt := 92) dX12_breaksOf_88 (by decide) ?_
  exact t_X12_breaksOf_b92 C  K37 K50 h_x3 h_x4 h_x5 h_x6 h_x8 (show jIn 1 from ⟨by decide, by decide⟩) S (L.sub (jsub_s (jsub_n (jsub_n (jsub_s (jsub_s (jsub_s (jsub_s (jsub_n (jsub_s jsub_0)))))))))) hyp
set_option maxHeartbeats 4000000 in
set_option maxRecDepth 100000 in
theorem t_X12_breaksOf_b91 {p : Program} {l : Launch} {e : Env} {s : State} {mi : MethodId} {args : Array Value} {below : List Frame} {meth : Method} {c : Code} {D : va_G} {cy : Nat → ClassId} {B sz : Nat} {sh : jm_S} {res : Int} {N : Nat} {m0 : jm_M} {k37 : Nat → Int → Int → Int → Int → Option Int} {k50 : Nat → Int → Int → Int → Int → Int → Int → Option Int} (C : jCx p s mi args meth c cX12_breaksOf 9 RX12 (some .int) D cy) (K37 : ∀ (a0 : Nat) (x3 : Int) (x4 : Int) (x5 : Int) (x6 : Int) , jIn x3 → jIn x4 → jIn x5 → jIn x6 → ∀ (H : Heap) (locs : List Loc) (ls : Array Slot), jHs D cy B sz sh (jA B sz) s.heap H locs m0 → jL ls [some (jR B a0), none, none, some (jI x3), some (jI x4), some (jI x5), some (jI x6), none, none] → k37 a0 x3 x4 x5 x6 = some res → W p l e (jrm 2 0 0) s mi args below meth c H locs 0 0 (MQ below (jQc D cy B sz sh m0 (some (jI res)) (jIn res)) args s 0 0 (jA B sz)) (F0 mi 37 ls [])) (K50 : ∀ (a0 : Nat) (x3 : Int) (x4 : Int) (x5 : Int) (x6 : Int) (x7 : Int) (x8 : Int) , jIn x3 → jIn x4 → jIn x5 → jIn x6 → jIn x7 → jIn x8 → ∀ (H : Heap) (locs : List Loc) (ls : Array Slot), jHs D cy B sz sh (jA B sz) s.heap H locs m0 → jL ls [some (jR B a0), none, none, some (jI x3), some (jI x4), some (jI x5), some (jI x6), some (jI x7), some (jI x8)] → k50 a0 x3 x4 x5 x6 x7 x8 = some res → W p l e (jrm 2 0 0) s mi args below meth c H locs 0 0 (MQ below (jQc D cy B sz sh m0 (some (jI res)) (jIn res)) args s 0 0 (jA B sz)) (F0 mi 50 ls [])) {a0 : Nat} {x3 : Int} (h_x3 : jIn x3) {x4 : Int} (h_x4 : jIn x4) {x5 : Int} (h_x5 : jIn x5) {x6 : Int} (h_x6 : jIn x6) {x8 : Int} (h_x8 : jIn x8) {H : Heap} {locs : List Loc} {ls : Array Slot} (S : jHs D cy B sz sh (jA B sz) s.heap H locs m0) (L : jL ls [some (jR B a0), none, none, some (jI x3), some (jI x4), some (jI x5), some (jI x6), none, some (jI x8)]) (hyp : f_X12_breaksOf_b91 N sh k37 k50 a0 x3 x4 x5 x6 x8 m0 = some res) : W p l e (jrm 2 0 0) s mi args below meth c H locs 0 0 (MQ below (jQc D cy B sz sh m0 (some (jI res)) (jIn res)) args s 0 0 (jA B sz)) (F0 mi 91 ls []) := by
  unfold f_X12_breaksOf_b91 at hyp
  refine jr_iconst (pc := 91) C dX12_breaksOf_91 ?_
  exact t_X12_breaksOf_b92 C  K37 K50 h_x3 h_x4 h_x5 h_x6 h_x8 (show jIn 0 from ⟨by decide, by decide⟩) S (L.sub (jsub_s (jsub_n (jsub_n (jsub_s (jsub_s (jsub_s (jsub_s (jsub_n (jsub_s jsub_0)))))))))) hyp
set_option maxHeartbeats 4000000 in
set_option maxRecDepth 100000 in
theorem t_X12_breaksOf_b50 {p : Program} {l : Launch} {e : Env} {s : State} {mi : MethodId} {args : Array Value} {below : List Frame} {meth : Method} {c : Code} {D : va_G} {cy : Nat → ClassId} {B sz : Nat} {sh : jm_S} {res : Int} {N : Nat} {m0 : jm_M} {k37 : Nat → Int → Int → Int → Int → Option Int} {k50 : Nat → Int → Int → Int → Int → Int → Int → Option Int} (C : jCx p s mi args meth c cX12_breaksOf 9 RX12 (some .int) D cy) (K37 : ∀ (a0 : Nat) (x3 : Int) (x4 : Int) (x5 : Int) (x6 : Int) , jIn x3 → jIn x4 → jIn x5 → jIn x6 → ∀ (H : Heap) (locs : List Loc) (ls : Array Slot), jHs D cy B sz sh (jA B sz) s.heap H locs m0 → jL ls [some (jR B a0), none, none, some (jI x3), some (jI x4), some (jI x5), some (jI x6), none, none] → k37 a0 x3 x4 x5 x6 = some res → W p l e (jrm 2 0 0) s mi args below meth c H locs 0 0 (MQ below (jQc D cy B sz sh m0 (some (jI res)) (jIn res)) args s 0 0 (jA B sz)) (F0 mi 37 ls [])) (K50 : ∀ (a0 : Nat) (x3 : Int) (x4 : Int) (x5 : Int) (x6 : Int) (x7 : Int) (x8 : Int) , jIn x3 → jIn x4 → jIn x5 → jIn x6 → jIn x7 → jIn x8 → ∀ (H : Heap) (locs : List Loc) (ls : Array Slot), jHs D cy B sz sh (jA B sz) s.heap H locs m0 → jL ls [some (jR B a0), none, none, some (jI x3), some (jI x4), some (jI x5), some (jI x6), some (jI x7), some (jI x8)] → k50 a0 x3 x4 x5 x6 x7 x8 = some res → W p l e (jrm 2 0 0) s mi args below meth c H locs 0 0 (MQ below (jQc D cy B sz sh m0 (some (jI res)) (jIn res)) args s 0 0 (jA B sz)) (F0 mi 50 ls [])) {a0 : Nat} {x3 : Int} (h_x3 : jIn x3) {x4 : Int} (h_x4 : jIn x4) {x5 : Int} (h_x5 : jIn x5) {x6 : Int} (h_x6 : jIn x6) {x7 : Int} (h_x7 : jIn x7) {x8 : Int} (h_x8 : jIn x8) {H : Heap} {locs : List Loc} {ls : Array Slot} (S : jHs D cy B sz sh (jA B sz) s.heap H locs m0) (L : jL ls [some (jR B a0), none, none, some (jI x3), some (jI x4), some (jI x5), some (jI x6), some (jI x7), some (jI x8)]) (hyp : f_X12_breaksOf_b50 N sh k37 k50 a0 x3 x4 x5 x6 x7 x8 m0 = some res) : W p l e (jrm 2 0 0) s mi args below meth c H locs 0 0 (MQ below (jQc D cy B sz sh m0 (some (jI res)) (jIn res)) args s 0 0 (jA B sz)) (F0 mi 50 ls []) := by
  unfold f_X12_breaksOf_b50 at hyp
  refine jr_iload (pc := 50) C L dX12_breaksOf_50 rfl ?_
  refine jr_bipush (pc := 52) C dX12_breaksOf_52 (by decide) ?_
  refine jr_icmp_ge (pc := 54) C h_x8 (show jIn 8 from ⟨by decide, by decide⟩) (tgt := 100) dX12_breaksOf_54 (by decide) (fun c1 => ?_) (fun c1 => ?_)
  · have hyp := (if_pos c1).symm.trans hyp
    refine jr_iload (pc := 57) C L dX12_breaksOf_57 rfl ?_
    refine jr_if_ne (pc := 59) C h_x7 (tgt := 87) dX12_breaksOf_59 (by decide) (fun c2 => ?_) (fun c2 => ?_)
    · have hyp := (if_pos c2).symm.trans hyp
      refine jr_iload_n (pc := 62) C L dX12_breaksOf_62 rfl rfl ?_
      refine jr_iload (pc := 63) C L dX12_breaksOf_63 rfl ?_
      refine jr_ishr (pc := 65) C dX12_breaksOf_65 ?_
      refine jr_iconst (pc := 66) C dX12_breaksOf_66 ?_
      refine jr_iand (pc := 67) C dX12_breaksOf_67 ?_
      refine jr_iconst (pc := 68) C dX12_breaksOf_68 ?_
      refine jr_icmp_ne (pc := 69) C (jIn_and _ _) (show jIn 1 from ⟨by decide, by decide⟩) (tgt := 91) dX12_breaksOf_69 (by decide) (fun c3 => ?_) (fun c3 => ?_)
      · have hyp := (if_pos c3).symm.trans hyp
        refine jr_aload_n (pc := 72) C L dX12_breaksOf_72 rfl rfl ?_
        refine jr_iload (pc := 73) C L dX12_breaksOf_73 rfl ?_
        obtain ⟨u4, hu4, hyp⟩ := jbind hyp
        obtain ⟨q5, hq5, hyp⟩ := jbind hyp
        refine jr_callV_I (pc := 75) C S L (As := [jI x8]) (rest := []) (c_X12_setOf (m0 := m0) h_x8 hq5) mv_X12_setOf ml_X12_131 rfl (jck_spec hu4) (by decide) rfl rfl rfl (Nat.le_of_ble_eq_true rfl) ⟨Nat.le_refl 0, Nat.le_refl 0⟩ dX12_breaksOf_75 (fun p6 H locs S => ?_)
        refine jr_aload_n (pc := 78) C L dX12_breaksOf_78 rfl rfl ?_
        refine jr_iload (pc := 79) C L dX12_breaksOf_79 rfl ?_
        obtain ⟨u7, hu7, hyp⟩ := jbind hyp
        obtain ⟨q8, hq8, hyp⟩ := jbind hyp
        refine jr_callV_I (pc := 81) C S L (As := [jI x6]) (rest := [jI q5]) (c_X12_setOf (m0 := m0) h_x6 hq8) mv_X12_setOf ml_X12_131 rfl (jck_spec hu7) (by decide) rfl rfl rfl (Nat.le_of_ble_eq_true rfl) ⟨Nat.le_refl 0, Nat.le_refl 0⟩ dX12_breaksOf_81 (fun p9 H locs S => ?_)
        refine jr_icmp_ne (pc := 84) C p6 p9 (tgt := 91) dX12_breaksOf_84 (by decide) (fun c10 => ?_) (fun c10 => ?_)
        · have hyp := (if_pos c10).symm.trans hyp
          exact t_X12_breaksOf_b87 C  K37 K50 h_x3 h_x4 h_x5 h_x6 h_x8 S (L.sub (jsub_s (jsub_n (jsub_n (jsub_s (jsub_s (jsub_s (jsub_s (jsub_n (jsub_s jsub_0)))))))))) hyp
        · have hyp := (if_neg c10).symm.trans hyp
          exact t_X12_breaksOf_b91 C  K37 K50 h_x3 h_x4 h_x5 h_x6 h_x8 S (L.sub (jsub_s (jsub_n (jsub_n (jsub_s (jsub_s (jsub_s (jsub_s (jsub_n (jsub_s jsub_0)))))))))) hyp
      · have hyp := (if_neg c3).symm.trans hyp
        exact t_X12_breaksOf_b91 C  K37 K50 h_x3 h_x4 h_x5 h_x6 h_x8 S (L.sub (jsub_s (jsub_n (jsub_n (jsub_s (jsub_s (jsub_s (jsub_s (jsub_n (jsub_s jsub_0)))))))))) hyp
    · have hyp := (if_neg c2).symm.trans hyp
      exact t_X12_breaksOf_b87 C  K37 K50 h_x3 h_x4 h_x5 h_x6 h_x8 S (L.sub (jsub_s (jsub_n (jsub_n (jsub_s (jsub_s (jsub_s (jsub_s (jsub_n (jsub_s jsub_0)))))))))) hyp
  · have hyp := (if_neg c1).symm.trans hyp
    refine jr_iload (pc := 100) C L dX12_breaksOf_100 rfl ?_
    refine jr_iload (pc := 102) C L dX12_breaksOf_102 rfl ?_
    refine jr_iload (pc := 104) C L dX12_breaksOf_104 rfl ?_
    refine jr_ishr (pc := 106) C dX12_breaksOf_106 ?_
    refine jr_iconst (pc := 107) C dX12_breaksOf_107 ?_
    refine jr_iand (pc := 108) C dX12_breaksOf_108 ?_
    refine jr_iconst (pc := 109) C dX12_breaksOf_109 ?_
    refine jr_icmp_ne (pc := 110) C (jIn_and _ _) (show jIn 1 from ⟨by decide, by decide⟩) (tgt := 122) dX12_breaksOf_110 (by decide) (fun c11 => ?_) (fun c11 => ?_)
    · have hyp := (if_pos c11).symm.trans hyp
      refine jr_iload (pc := 113) C L dX12_breaksOf_113 rfl ?_
      refine jr_if_eq (pc := 115) C h_x7 (tgt := 122) dX12_breaksOf_115 (by decide) (fun c12 => ?_) (fun c12 => ?_)
      · have hyp := (if_pos c12).symm.trans hyp
        exact t_X12_breaksOf_b122 C  K37 h_x3 h_x4 h_x6 h_x5 S (L.sub (jsub_s (jsub_n (jsub_n (jsub_s (jsub_s (jsub_n (jsub_s (jsub_n (jsub_n jsub_0)))))))))) hyp
      · have hyp := (if_neg c12).symm.trans hyp
        refine jr_iconst (pc := 118) C dX12_breaksOf_118 ?_
        refine jr_goto (pc := 119) C (tgt := 123) dX12_breaksOf_119 (by decide) ?_
        exact t_X12_breaksOf_b123 C  K37 h_x3 h_x4 h_x6 h_x5 (show jIn 1 from ⟨by decide, by decide⟩) S (L.sub (jsub_s (jsub_n (jsub_n (jsub_s (jsub_s (jsub_n (jsub_s (jsub_n (jsub_n jsub_0)))))))))) hyp
    · have hyp := (if_neg c11).symm.trans hyp
      exact t_X12_breaksOf_b122 C  K37 h_x3 h_x4 h_x6 h_x5 S (L.sub (jsub_s (jsub_n (jsub_n (jsub_s (jsub_s (jsub_n (jsub_s (jsub_n (jsub_n jsub_0)))))))))) hyp
theorem t_X12_breaksOf_l50 {p : Program} {l : Launch} {e : Env} {s : State} {mi : MethodId} {args : Array Value} {below : List Frame} {meth : Method} {c : Code} {D : va_G} {cy : Nat → ClassId} {B sz : Nat} {sh : jm_S} {res : Int} {N : Nat} {m0 : jm_M} {k37 : Nat → Int → Int → Int → Int → Option Int} (C : jCx p s mi args meth c cX12_breaksOf 9 RX12 (some .int) D cy) (K37 : ∀ (a0 : Nat) (x3 : Int) (x4 : Int) (x5 : Int) (x6 : Int) , jIn x3 → jIn x4 → jIn x5 → jIn x6 → ∀ (H : Heap) (locs : List Loc) (ls : Array Slot), jHs D cy B sz sh (jA B sz) s.heap H locs m0 → jL ls [some (jR B a0), none, none, some (jI x3), some (jI x4), some (jI x5), some (jI x6), none, none] → k37 a0 x3 x4 x5 x6 = some res → W p l e (jrm 2 0 0) s mi args below meth c H locs 0 0 (MQ below (jQc D cy B sz sh m0 (some (jI res)) (jIn res)) args s 0 0 (jA B sz)) (F0 mi 37 ls [])) : ∀ (n : Nat) (a0 : Nat) (x3 : Int) (x4 : Int) (x5 : Int) (x6 : Int) (x7 : Int) (x8 : Int), jIn x3 → jIn x4 → jIn x5 → jIn x6 → jIn x7 → jIn x8 → ∀ (H : Heap) (locs : List Loc) (ls : Array Slot), jHs D cy B sz sh (jA B sz) s.heap H locs m0 → jL ls [some (jR B a0), none, none, some (jI x3), some (jI x4), some (jI x5), some (jI x6), some (jI x7), some (jI x8)] → f_X12_breaksOf_l50 N sh k37 n a0 x3 x4 x5 x6 x7 x8 m0 = some res → W p l e (jrm 2 0 0) s mi args below meth c H locs 0 0 (MQ below (jQc D cy B sz sh m0 (some (jI res)) (jIn res)) args s 0 0 (jA B sz)) (F0 mi 50 ls []) := by
  intro n
  induction n with
  | zero => intro a0 x3 x4 x5 x6 x7 x8 h_x3 h_x4 h_x5 h_x6 h_x7 h_x8 H locs ls S L hyp; cases hyp
  | succ n ih => intro a0 x3 x4 x5 x6 x7 x8 h_x3 h_x4 h_x5 h_x6 h_x7 h_x8 H locs ls S L hyp; exact t_X12_breaksOf_b50 (N := N) C  K37 ih h_x3 h_x4 h_x5 h_x6 h_x7 h_x8 S L hyp
set_option maxHeartbeats 4000000 in
set_option maxRecDepth 100000 in
theorem t_X12_breaksOf_b37 {p : Program} {l : Launch} {e : Env} {s : State} {mi : MethodId} {args : Array Value} {below : List Frame} {meth : Method} {c : Code} {D : va_G} {cy : Nat → ClassId} {B sz : Nat} {sh : jm_S} {res : Int} {N : Nat} {m0 : jm_M} {k37 : Nat → Int → Int → Int → Int → Option Int} (C : jCx p s mi args meth c cX12_breaksOf 9 RX12 (some .int) D cy) (K37 : ∀ (a0 : Nat) (x3 : Int) (x4 : Int) (x5 : Int) (x6 : Int) , jIn x3 → jIn x4 → jIn x5 → jIn x6 → ∀ (H : Heap) (locs : List Loc) (ls : Array Slot), jHs D cy B sz sh (jA B sz) s.heap H locs m0 → jL ls [some (jR B a0), none, none, some (jI x3), some (jI x4), some (jI x5), some (jI x6), none, none] → k37 a0 x3 x4 x5 x6 = some res → W p l e (jrm 2 0 0) s mi args below meth c H locs 0 0 (MQ below (jQc D cy B sz sh m0 (some (jI res)) (jIn res)) args s 0 0 (jA B sz)) (F0 mi 37 ls [])) {a0 : Nat} {x3 : Int} (h_x3 : jIn x3) {x4 : Int} (h_x4 : jIn x4) {x5 : Int} (h_x5 : jIn x5) {x6 : Int} (h_x6 : jIn x6) {H : Heap} {locs : List Loc} {ls : Array Slot} (S : jHs D cy B sz sh (jA B sz) s.heap H locs m0) (L : jL ls [some (jR B a0), none, none, some (jI x3), some (jI x4), some (jI x5), some (jI x6), none, none]) (hyp : f_X12_breaksOf_b37 N sh k37 a0 x3 x4 x5 x6 m0 = some res) : W p l e (jrm 2 0 0) s mi args below meth c H locs 0 0 (MQ below (jQc D cy B sz sh m0 (some (jI res)) (jIn res)) args s 0 0 (jA B sz)) (F0 mi 37 ls []) := by
  unfold f_X12_breaksOf_b37 at hyp
  refine jr_iload (pc := 37) C L dX12_breaksOf_37 rfl ?_
  refine jr_bipush (pc := 39) C dX12_breaksOf_39 (by decide) ?_
  refine jr_icmp_ge (pc := 41) C h_x6 (show jIn 8 from ⟨by decide, by decide⟩) (tgt := 132) dX12_breaksOf_41 (by decide) (fun c13 => ?_) (fun c13 => ?_)
  · have hyp := (if_pos c13).symm.trans hyp
    refine jr_iconst (pc := 44) C dX12_breaksOf_44 ?_
    refine jr_istore (pc := 45) C L dX12_breaksOf_45 (Nat.le_of_ble_eq_true rfl) (fun ls L => ?_)
    have L : jL ls [some (jR B a0), none, none, some (jI x3), some (jI x4), some (jI x5), some (jI x6), some (jI 0), none] := L
    refine jr_iconst (pc := 47) C dX12_breaksOf_47 ?_
    refine jr_istore (pc := 48) C L dX12_breaksOf_48 (Nat.le_of_ble_eq_true rfl) (fun ls L => ?_)
    have L : jL ls [some (jR B a0), none, none, some (jI x3), some (jI x4), some (jI x5), some (jI x6), some (jI 0), some (jI 0)] := L
    exact t_X12_breaksOf_l50 C  K37 N a0 x3 x4 x5 x6 0 0 h_x3 h_x4 h_x5 h_x6 (show jIn 0 from ⟨by decide, by decide⟩) (show jIn 0 from ⟨by decide, by decide⟩)  _ _ _ S (L.sub (jsub_s (jsub_n (jsub_n (jsub_s (jsub_s (jsub_s (jsub_s (jsub_s (jsub_s jsub_0)))))))))) hyp
  · have hyp := (if_neg c13).symm.trans hyp
    refine jr_iload (pc := 132) C L dX12_breaksOf_132 rfl ?_
    refine jr_aload_n (pc := 134) C L dX12_breaksOf_134 rfl rfl ?_
    obtain ⟨v14, hv14, hyp⟩ := jbind hyp
    refine jr_getR (pc := 135) C S lf_X12_7 rfl hv14 dX12_breaksOf_135 ?_
    refine jr_iconst (pc := 138) C dX12_breaksOf_138 ?_
    obtain ⟨v15, hv15, hyp⟩ := jbind hyp
    have iv15 := jra_in S hv15
    refine jr_ial (pc := 139) C S (show jIn 2 from ⟨by decide, by decide⟩) hv15 dX12_breaksOf_139 ?_
    refine jr_imul (pc := 140) C dX12_breaksOf_140 ?_
    cases hyp
    exact jr_iret C S (jIn_w _) dX12_breaksOf_141
theorem t_X12_breaksOf_l37 {p : Program} {l : Launch} {e : Env} {s : State} {mi : MethodId} {args : Array Value} {below : List Frame} {meth : Method} {c : Code} {D : va_G} {cy : Nat → ClassId} {B sz : Nat} {sh : jm_S} {res : Int} {N : Nat} {m0 : jm_M} (C : jCx p s mi args meth c cX12_breaksOf 9 RX12 (some .int) D cy) : ∀ (n : Nat) (a0 : Nat) (x3 : Int) (x4 : Int) (x5 : Int) (x6 : Int), jIn x3 → jIn x4 → jIn x5 → jIn x6 → ∀ (H : Heap) (locs : List Loc) (ls : Array Slot), jHs D cy B sz sh (jA B sz) s.heap H locs m0 → jL ls [some (jR B a0), none, none, some (jI x3), some (jI x4), some (jI x5), some (jI x6), none, none] → f_X12_breaksOf_l37 N sh n a0 x3 x4 x5 x6 m0 = some res → W p l e (jrm 2 0 0) s mi args below meth c H locs 0 0 (MQ below (jQc D cy B sz sh m0 (some (jI res)) (jIn res)) args s 0 0 (jA B sz)) (F0 mi 37 ls []) := by
  intro n
  induction n with
  | zero => intro a0 x3 x4 x5 x6 h_x3 h_x4 h_x5 h_x6 H locs ls S L hyp; cases hyp
  | succ n ih => intro a0 x3 x4 x5 x6 h_x3 h_x4 h_x5 h_x6 H locs ls S L hyp; exact t_X12_breaksOf_b37 (N := N) C  ih h_x3 h_x4 h_x5 h_x6 S L hyp
set_option maxHeartbeats 4000000 in
set_option maxRecDepth 100000 in
theorem t_X12_breaksOf_e {p : Program} {l : Launch} {e : Env} {s : State} {mi : MethodId} {args : Array Value} {below : List Frame} {meth : Method} {c : Code} {D : va_G} {cy : Nat → ClassId} {B sz : Nat} {sh : jm_S} {res : Int} {N : Nat} {m0 : jm_M} (C : jCx p s mi args meth c cX12_breaksOf 9 RX12 (some .int) D cy) {a0 : Nat} {x1 : Int} (h_x1 : jIn x1) {x2 : Int} (h_x2 : jIn x2) {H : Heap} {locs : List Loc} {ls : Array Slot} (S : jHs D cy B sz sh (jA B sz) s.heap H locs m0) (L : jL ls [some (jR B a0), some (jI x1), some (jI x2), none, none, none, none, none, none]) (hyp : f_X12_breaksOf N sh a0 x1 x2 m0 = some res) : W p l e (jrm 2 0 0) s mi args below meth c H locs 0 0 (MQ below (jQc D cy B sz sh m0 (some (jI res)) (jIn res)) args s 0 0 (jA B sz)) (F0 mi 0 ls []) := by
  unfold f_X12_breaksOf at hyp
  refine jr_aload_n (pc := 0) C L dX12_breaksOf_0 rfl rfl ?_
  refine jr_iload_n (pc := 1) C L dX12_breaksOf_1 rfl rfl ?_
  obtain ⟨u16, hu16, hyp⟩ := jbind hyp
  obtain ⟨q17, hq17, hyp⟩ := jbind hyp
  refine jr_callV_I (pc := 2) C S L (As := [jI x1]) (rest := []) (c_X12_crowd0 (m0 := m0) h_x1 hq17) mv_X12_crowd0 ml_X12_264 rfl (jck_spec hu16) (by decide) rfl rfl rfl (Nat.le_of_ble_eq_true rfl) ⟨Nat.le_refl 0, Nat.le_refl 0⟩ dX12_breaksOf_2 (fun p18 H locs S => ?_)
  refine jr_aload_n (pc := 5) C L dX12_breaksOf_5 rfl rfl ?_
  obtain ⟨v19, hv19, hyp⟩ := jbind hyp
  refine jr_getR (pc := 6) C S lf_X12_7 rfl hv19 dX12_breaksOf_6 ?_
  refine jr_iconst (pc := 9) C dX12_breaksOf_9 ?_
  obtain ⟨v20, hv20, hyp⟩ := jbind hyp
  have iv20 := jra_in S hv20
  refine jr_ial (pc := 10) C S (show jIn 3 from ⟨by decide, by decide⟩) hv20 dX12_breaksOf_10 ?_
  refine jr_iconst (pc := 11) C dX12_breaksOf_11 ?_
  refine jr_ixor (pc := 12) C dX12_breaksOf_12 ?_
  refine jr_iand (pc := 13) C dX12_breaksOf_13 ?_
  refine jr_istore_n (pc := 14) C L dX12_breaksOf_14 rfl (Nat.le_of_ble_eq_true rfl) (fun ls L => ?_)
  have L : jL ls [some (jR B a0), some (jI x1), some (jI x2), some (jI (jand q17 (jxor v20 (-1)))), none, none, none, none, none] := L
  refine jr_aload_n (pc := 15) C L dX12_breaksOf_15 rfl rfl ?_
  refine jr_iload_n (pc := 16) C L dX12_breaksOf_16 rfl rfl ?_
  obtain ⟨u21, hu21, hyp⟩ := jbind hyp
  obtain ⟨q22, hq22, hyp⟩ := jbind hyp
  refine jr_callV_I (pc := 17) C S L (As := [jI x2]) (rest := []) (c_X12_crowd0 (m0 := m0) h_x2 hq22) mv_X12_crowd0 ml_X12_264 rfl (jck_spec hu21) (by decide) rfl rfl rfl (Nat.le_of_ble_eq_true rfl) ⟨Nat.le_refl 0, Nat.le_refl 0⟩ dX12_breaksOf_17 (fun p23 H locs S => ?_)
  refine jr_aload_n (pc := 20) C L dX12_breaksOf_20 rfl rfl ?_
  obtain ⟨v24, hv24, hyp⟩ := jbind hyp
  refine jr_getR (pc := 21) C S lf_X12_7 rfl hv24 dX12_breaksOf_21 ?_
  refine jr_iconst (pc := 24) C dX12_breaksOf_24 ?_
  obtain ⟨v25, hv25, hyp⟩ := jbind hyp
  have iv25 := jra_in S hv25
  refine jr_ial (pc := 25) C S (show jIn 3 from ⟨by decide, by decide⟩) hv25 dX12_breaksOf_25 ?_
  refine jr_iconst (pc := 26) C dX12_breaksOf_26 ?_
  refine jr_ixor (pc := 27) C dX12_breaksOf_27 ?_
  refine jr_iand (pc := 28) C dX12_breaksOf_28 ?_
  refine jr_istore (pc := 29) C L dX12_breaksOf_29 (Nat.le_of_ble_eq_true rfl) (fun ls L => ?_)
  have L : jL ls [some (jR B a0), some (jI x1), some (jI x2), some (jI (jand q17 (jxor v20 (-1)))), some (jI (jand q22 (jxor v25 (-1)))), none, none, none, none] := L
  refine jr_iconst (pc := 31) C dX12_breaksOf_31 ?_
  refine jr_istore (pc := 32) C L dX12_breaksOf_32 (Nat.le_of_ble_eq_true rfl) (fun ls L => ?_)
  have L : jL ls [some (jR B a0), some (jI x1), some (jI x2), some (jI (jand q17 (jxor v20 (-1)))), some (jI (jand q22 (jxor v25 (-1)))), some (jI 0), none, none, none] := L
  refine jr_iconst (pc := 34) C dX12_breaksOf_34 ?_
  refine jr_istore (pc := 35) C L dX12_breaksOf_35 (Nat.le_of_ble_eq_true rfl) (fun ls L => ?_)
  have L : jL ls [some (jR B a0), some (jI x1), some (jI x2), some (jI (jand q17 (jxor v20 (-1)))), some (jI (jand q22 (jxor v25 (-1)))), some (jI 0), some (jI 0), none, none] := L
  exact t_X12_breaksOf_l37 C   N a0 (jand q17 (jxor v20 (-1))) (jand q22 (jxor v25 (-1))) 0 0 (jIn_and _ _) (jIn_and _ _) (show jIn 0 from ⟨by decide, by decide⟩) (show jIn 0 from ⟨by decide, by decide⟩)  _ _ _ S (L.sub (jsub_s (jsub_n (jsub_n (jsub_s (jsub_s (jsub_s (jsub_s (jsub_n (jsub_n jsub_0)))))))))) hyp
theorem c_X12_breaksOf {l : Launch} {D : va_G} {cy : Nat → ClassId} {B sz : Nat} {sh : jm_S} {res : Int} {N : Nat} {m0 : jm_M} {a0 : Nat} {x1 : Int} (h_x1 : jIn x1) {x2 : Int} (h_x2 : jIn x2) (hyp : f_X12_breaksOf N sh a0 x1 x2 m0 = some res) : jCt l D cy B sz sh 2 yX12_breaksOf cX12_breaksOf 9 (some .int) [jR B a0, jI x1, jI x2] m0 (some (jI res)) m0 (jIn res) :=
  jc_of (by decide) (fun v h => by simp only [List.mem_cons, List.not_mem_nil, or_false] at h; rcases h with rfl | rfl | rfl <;> first | rfl | exact jR_cat _ _) (Nat.le_of_ble_eq_true rfl) (fun C S L => t_X12_breaksOf_e C  h_x1 h_x2 S L hyp)
set_option maxHeartbeats 4000000 in
set_option maxRecDepth 100000 in
theorem t_X12_breaks_e {p : Program} {l : Launch} {e : Env} {s : State} {mi : MethodId} {args : Array Value} {below : List Frame} {meth : Method} {c : Code} {D : va_G} {cy : Nat → ClassId} {B sz : Nat} {sh : jm_S} {res : Int} {N : Nat} {m0 : jm_M} (C : jCx p s mi args meth c cX12_breaks 3 RX12 (some .int) D cy) {a0 : Nat} {x1 : Int} (h_x1 : jIn x1) {x2 : Int} (h_x2 : jIn x2) {H : Heap} {locs : List Loc} {ls : Array Slot} (S : jHs D cy B sz sh (jA B sz) s.heap H locs m0) (L : jL ls [some (jR B a0), some (jI x1), some (jI x2)]) (hyp : f_X12_breaks N sh a0 x1 x2 m0 = some res) : W p l e (jrm 3 0 0) s mi args below meth c H locs 0 0 (MQ below (jQc D cy B sz sh m0 (some (jI res)) (jIn res)) args s 0 0 (jA B sz)) (F0 mi 0 ls []) := by
  unfold f_X12_breaks at hyp
  refine jr_iload_n (pc := 0) C L dX12_breaks_0 rfl rfl ?_
  obtain ⟨q1, hq1, hyp⟩ := jbind hyp
  refine jr_callS_I (pc := 1) C S L (As := [jI x1]) (rest := []) (c_X12_isProgram (m0 := m0) h_x1 hq1) ms_X12_isProgram ml_X12_103 (by decide) rfl rfl rfl (Nat.le_of_ble_eq_true rfl) ⟨Nat.le_refl 0, Nat.le_refl 0⟩ dX12_breaks_1 (fun p2 H locs S => ?_)
  refine jr_if_eq (pc := 4) C p2 (tgt := 19) dX12_breaks_4 (by decide) (fun c3 => ?_) (fun c3 => ?_)
  · have hyp := (if_pos c3).symm.trans hyp
    refine jr_iconst (pc := 19) C dX12_breaks_19 ?_
    cases hyp
    exact jr_iret C S (show jIn (-1) from ⟨by decide, by decide⟩) dX12_breaks_20
  · have hyp := (if_neg c3).symm.trans hyp
    refine jr_iload_n (pc := 7) C L dX12_breaks_7 rfl rfl ?_
    obtain ⟨q4, hq4, hyp⟩ := jbind hyp
    refine jr_callS_I (pc := 8) C S L (As := [jI x2]) (rest := []) (c_X12_isProgram (m0 := m0) h_x2 hq4) ms_X12_isProgram ml_X12_103 (by decide) rfl rfl rfl (Nat.le_of_ble_eq_true rfl) ⟨Nat.le_refl 0, Nat.le_refl 0⟩ dX12_breaks_8 (fun p5 H locs S => ?_)
    refine jr_if_eq (pc := 11) C p5 (tgt := 19) dX12_breaks_11 (by decide) (fun c6 => ?_) (fun c6 => ?_)
    · have hyp := (if_pos c6).symm.trans hyp
      refine jr_iconst (pc := 19) C dX12_breaks_19 ?_
      cases hyp
      exact jr_iret C S (show jIn (-1) from ⟨by decide, by decide⟩) dX12_breaks_20
    · have hyp := (if_neg c6).symm.trans hyp
      refine jr_iload_n (pc := 14) C L dX12_breaks_14 rfl rfl ?_
      refine jr_iload_n (pc := 15) C L dX12_breaks_15 rfl rfl ?_
      refine jr_icmp_lt (pc := 16) C h_x1 h_x2 (tgt := 21) dX12_breaks_16 (by decide) (fun c7 => ?_) (fun c7 => ?_)
      · have hyp := (if_pos c7).symm.trans hyp
        refine jr_aload_n (pc := 21) C L dX12_breaks_21 rfl rfl ?_
        obtain ⟨v8, hv8, hyp⟩ := jbind hyp
        refine jr_getR (pc := 22) C S lf_X12_25 rfl hv8 dX12_breaks_22 ?_
        refine jr_iload_n (pc := 25) C L dX12_breaks_25 rfl rfl ?_
        obtain ⟨v9, hv9, hyp⟩ := jbind hyp
        have iv9 := jra_in S hv9
        refine jr_ial (pc := 26) C S h_x1 hv9 dX12_breaks_26 ?_
        refine jr_if_eq (pc := 27) C iv9 (tgt := 39) dX12_breaks_27 (by decide) (fun c10 => ?_) (fun c10 => ?_)
        · have hyp := (if_pos c10).symm.trans hyp
          refine jr_bipush (pc := 39) C dX12_breaks_39 (by decide) ?_
          refine jr_goto (pc := 41) C (tgt := 50) dX12_breaks_41 (by decide) ?_
          cases hyp
          exact jr_iret C S (show jIn (-3) from ⟨by decide, by decide⟩) dX12_breaks_50
        · have hyp := (if_neg c10).symm.trans hyp
          refine jr_aload_n (pc := 30) C L dX12_breaks_30 rfl rfl ?_
          obtain ⟨v11, hv11, hyp⟩ := jbind hyp
          refine jr_getR (pc := 31) C S lf_X12_25 rfl hv11 dX12_breaks_31 ?_
          refine jr_iload_n (pc := 34) C L dX12_breaks_34 rfl rfl ?_
          obtain ⟨v12, hv12, hyp⟩ := jbind hyp
          have iv12 := jra_in S hv12
          refine jr_ial (pc := 35) C S h_x2 hv12 dX12_breaks_35 ?_
          refine jr_if_ne (pc := 36) C iv12 (tgt := 44) dX12_breaks_36 (by decide) (fun c13 => ?_) (fun c13 => ?_)
          · have hyp := (if_pos c13).symm.trans hyp
            refine jr_bipush (pc := 39) C dX12_breaks_39 (by decide) ?_
            refine jr_goto (pc := 41) C (tgt := 50) dX12_breaks_41 (by decide) ?_
            cases hyp
            exact jr_iret C S (show jIn (-3) from ⟨by decide, by decide⟩) dX12_breaks_50
          · have hyp := (if_neg c13).symm.trans hyp
            refine jr_aload_n (pc := 44) C L dX12_breaks_44 rfl rfl ?_
            refine jr_iload_n (pc := 45) C L dX12_breaks_45 rfl rfl ?_
            refine jr_iload_n (pc := 46) C L dX12_breaks_46 rfl rfl ?_
            obtain ⟨u14, hu14, hyp⟩ := jbind hyp
            obtain ⟨q15, hq15, hyp⟩ := jbind hyp
            refine jr_callV_I (pc := 47) C S L (As := [jI x1, jI x2]) (rest := []) (c_X12_breaksOf (m0 := m0) h_x1 h_x2 hq15) mv_X12_breaksOf ml_X12_267 rfl (jck_spec hu14) (by decide) rfl rfl rfl (Nat.le_of_ble_eq_true rfl) ⟨Nat.le_refl 0, Nat.le_refl 0⟩ dX12_breaks_47 (fun p16 H locs S => ?_)
            cases hyp
            exact jr_iret C S p16 dX12_breaks_50
      · have hyp := (if_neg c7).symm.trans hyp
        refine jr_iconst (pc := 19) C dX12_breaks_19 ?_
        cases hyp
        exact jr_iret C S (show jIn (-1) from ⟨by decide, by decide⟩) dX12_breaks_20
theorem c_X12_breaks {l : Launch} {D : va_G} {cy : Nat → ClassId} {B sz : Nat} {sh : jm_S} {res : Int} {N : Nat} {m0 : jm_M} {a0 : Nat} {x1 : Int} (h_x1 : jIn x1) {x2 : Int} (h_x2 : jIn x2) (hyp : f_X12_breaks N sh a0 x1 x2 m0 = some res) : jCt l D cy B sz sh 3 yX12_breaks cX12_breaks 3 (some .int) [jR B a0, jI x1, jI x2] m0 (some (jI res)) m0 (jIn res) :=
  jc_of (by decide) (fun v h => by simp only [List.mem_cons, List.not_mem_nil, or_false] at h; rcases h with rfl | rfl | rfl <;> first | rfl | exact jR_cat _ _) (Nat.le_of_ble_eq_true rfl) (fun C S L => t_X12_breaks_e C  h_x1 h_x2 S L hyp)
set_option maxHeartbeats 4000000 in
set_option maxRecDepth 100000 in
theorem t_X12_layWorsts_b30 {p : Program} {l : Launch} {e : Env} {s : State} {mi : MethodId} {args : Array Value} {below : List Frame} {meth : Method} {c : Code} {D : va_G} {cy : Nat → ClassId} {B sz : Nat} {sh : jm_S} {res : jm_M} {N : Nat} {k2 : Nat → Int → jm_M → Option jm_M} (C : jCx p s mi args meth c cX12_layWorsts 2 RX12 none D cy) (K2 : ∀ (a0 : Nat) (x1 : Int) , jIn x1 → ∀ (m : jm_M) (H : Heap) (locs : List Loc) (ls : Array Slot), jHs D cy B sz sh (jA B sz) s.heap H locs m → jL ls [some (jR B a0), some (jI x1)] → k2 a0 x1 m = some res → W p l e (jrm 7 0 0) s mi args below meth c H locs 0 0 (MQ below (jQc D cy B sz sh res none True) args s 0 0 (jA B sz)) (F0 mi 2 ls [])) {a0 : Nat} {x1 : Int} (h_x1 : jIn x1) {r0 : Nat} {s1 : Int} (h_s1 : jIn s1) {s2 : Int} (h_s2 : jIn s2) {m : jm_M} {H : Heap} {locs : List Loc} {ls : Array Slot} (S : jHs D cy B sz sh (jA B sz) s.heap H locs m) (L : jL ls [some (jR B a0), some (jI x1)]) (hyp : f_X12_layWorsts_b30 N sh k2 a0 x1 r0 s1 s2 m = some res) : W p l e (jrm 7 0 0) s mi args below meth c H locs 0 0 (MQ below (jQc D cy B sz sh res none True) args s 0 0 (jA B sz)) (F0 mi 30 ls [jI s2, jI s1, jR B r0]) := by
  unfold f_X12_layWorsts_b30 at hyp
  obtain ⟨m1, hm1, hyp⟩ := jbind hyp
  refine jr_ias (pc := 30) C S h_s1 h_s2 hm1 dX12_layWorsts_30 (fun H locs S => ?_)
  refine jr_iinc (pc := 31) C L dX12_layWorsts_31 rfl (Nat.le_of_ble_eq_true rfl) (fun ls L => ?_)
  have L : jL ls [some (jR B a0), some (jI (jw (x1 + 1)))] := L
  refine jr_goto (pc := 34) C (tgt := 2) dX12_layWorsts_34 (by decide) ?_
  exact K2 a0 (jw (x1 + 1)) (jIn_w _) m1 _ _ _ S (L.sub (jsub_s (jsub_s jsub_0))) hyp
set_option maxHeartbeats 4000000 in
set_option maxRecDepth 100000 in
theorem t_X12_layWorsts_b2 {p : Program} {l : Launch} {e : Env} {s : State} {mi : MethodId} {args : Array Value} {below : List Frame} {meth : Method} {c : Code} {D : va_G} {cy : Nat → ClassId} {B sz : Nat} {sh : jm_S} {res : jm_M} {N : Nat} {k2 : Nat → Int → jm_M → Option jm_M} (C : jCx p s mi args meth c cX12_layWorsts 2 RX12 none D cy) (K2 : ∀ (a0 : Nat) (x1 : Int) , jIn x1 → ∀ (m : jm_M) (H : Heap) (locs : List Loc) (ls : Array Slot), jHs D cy B sz sh (jA B sz) s.heap H locs m → jL ls [some (jR B a0), some (jI x1)] → k2 a0 x1 m = some res → W p l e (jrm 7 0 0) s mi args below meth c H locs 0 0 (MQ below (jQc D cy B sz sh res none True) args s 0 0 (jA B sz)) (F0 mi 2 ls [])) {a0 : Nat} {x1 : Int} (h_x1 : jIn x1) {m : jm_M} {H : Heap} {locs : List Loc} {ls : Array Slot} (S : jHs D cy B sz sh (jA B sz) s.heap H locs m) (L : jL ls [some (jR B a0), some (jI x1)]) (hyp : f_X12_layWorsts_b2 N sh k2 a0 x1 m = some res) : W p l e (jrm 7 0 0) s mi args below meth c H locs 0 0 (MQ below (jQc D cy B sz sh res none True) args s 0 0 (jA B sz)) (F0 mi 2 ls []) := by
  unfold f_X12_layWorsts_b2 at hyp
  refine jr_iload_n (pc := 2) C L dX12_layWorsts_2 rfl rfl ?_
  refine jr_iconst (pc := 3) C dX12_layWorsts_3 ?_
  refine jr_icmp_ge (pc := 4) C h_x1 (show jIn 4 from ⟨by decide, by decide⟩) (tgt := 37) dX12_layWorsts_4 (by decide) (fun c2 => ?_) (fun c2 => ?_)
  · have hyp := (if_pos c2).symm.trans hyp
    refine jr_aload_n (pc := 7) C L dX12_layWorsts_7 rfl rfl ?_
    obtain ⟨v3, hv3, hyp⟩ := jbind hyp
    refine jr_getR (pc := 8) C S lf_X12_70 rfl hv3 dX12_layWorsts_8 ?_
    refine jr_iload_n (pc := 11) C L dX12_layWorsts_11 rfl rfl ?_
    refine jr_aload_n (pc := 12) C L dX12_layWorsts_12 rfl rfl ?_
    obtain ⟨v4, hv4, hyp⟩ := jbind hyp
    refine jr_getR (pc := 13) C S lf_X12_25 rfl hv4 dX12_layWorsts_13 ?_
    refine jr_iload_n (pc := 16) C L dX12_layWorsts_16 rfl rfl ?_
    obtain ⟨v5, hv5, hyp⟩ := jbind hyp
    have iv5 := jra_in S hv5
    refine jr_ial (pc := 17) C S h_x1 hv5 dX12_layWorsts_17 ?_
    refine jr_if_le (pc := 18) C iv5 (tgt := 29) dX12_layWorsts_18 (by decide) (fun c6 => ?_) (fun c6 => ?_)
    · have hyp := (if_pos c6).symm.trans hyp
      refine jr_aload_n (pc := 21) C L dX12_layWorsts_21 rfl rfl ?_
      refine jr_iload_n (pc := 22) C L dX12_layWorsts_22 rfl rfl ?_
      obtain ⟨u7, hu7, hyp⟩ := jbind hyp
      obtain ⟨q8, hq8, hyp⟩ := jbind hyp
      refine jr_callV_I (pc := 23) C S L (As := [jI x1]) (rest := [jI x1, jR B v3.toNat]) (c_X12_worstOf h_x1 hq8) mv_X12_worstOf ml_X12_222 rfl (jck_spec hu7) (by decide) rfl rfl rfl (by simp [jR_cat, jI_cat]) ⟨Nat.le_refl 0, Nat.le_refl 0⟩ dX12_layWorsts_23 (fun p9 H locs S => ?_)
      refine jr_goto (pc := 26) C (tgt := 30) dX12_layWorsts_26 (by decide) ?_
      exact t_X12_layWorsts_b30 C  K2 h_x1 h_x1 p9 S (L.sub (jsub_s (jsub_s jsub_0))) hyp
    · have hyp := (if_neg c6).symm.trans hyp
      refine jr_iconst (pc := 29) C dX12_layWorsts_29 ?_
      exact t_X12_layWorsts_b30 C  K2 h_x1 h_x1 (show jIn 0 from ⟨by decide, by decide⟩) S (L.sub (jsub_s (jsub_s jsub_0))) hyp
  · have hyp := (if_neg c2).symm.trans hyp
    cases hyp
    exact jr_vret C S trivial dX12_layWorsts_37
theorem t_X12_layWorsts_l2 {p : Program} {l : Launch} {e : Env} {s : State} {mi : MethodId} {args : Array Value} {below : List Frame} {meth : Method} {c : Code} {D : va_G} {cy : Nat → ClassId} {B sz : Nat} {sh : jm_S} {res : jm_M} {N : Nat} (C : jCx p s mi args meth c cX12_layWorsts 2 RX12 none D cy) : ∀ (n : Nat) (a0 : Nat) (x1 : Int), jIn x1 → ∀ (m : jm_M) (H : Heap) (locs : List Loc) (ls : Array Slot), jHs D cy B sz sh (jA B sz) s.heap H locs m → jL ls [some (jR B a0), some (jI x1)] → f_X12_layWorsts_l2 N sh n a0 x1 m = some res → W p l e (jrm 7 0 0) s mi args below meth c H locs 0 0 (MQ below (jQc D cy B sz sh res none True) args s 0 0 (jA B sz)) (F0 mi 2 ls []) := by
  intro n
  induction n with
  | zero => intro a0 x1 h_x1 m H locs ls S L hyp; cases hyp
  | succ n ih => intro a0 x1 h_x1 m H locs ls S L hyp; exact t_X12_layWorsts_b2 (N := N) C  ih h_x1 S L hyp
set_option maxHeartbeats 4000000 in
set_option maxRecDepth 100000 in
theorem t_X12_layWorsts_e {p : Program} {l : Launch} {e : Env} {s : State} {mi : MethodId} {args : Array Value} {below : List Frame} {meth : Method} {c : Code} {D : va_G} {cy : Nat → ClassId} {B sz : Nat} {sh : jm_S} {res : jm_M} {N : Nat} (C : jCx p s mi args meth c cX12_layWorsts 2 RX12 none D cy) {a0 : Nat} {m : jm_M} {H : Heap} {locs : List Loc} {ls : Array Slot} (S : jHs D cy B sz sh (jA B sz) s.heap H locs m) (L : jL ls [some (jR B a0), none]) (hyp : f_X12_layWorsts N sh a0 m = some res) : W p l e (jrm 7 0 0) s mi args below meth c H locs 0 0 (MQ below (jQc D cy B sz sh res none True) args s 0 0 (jA B sz)) (F0 mi 0 ls []) := by
  unfold f_X12_layWorsts at hyp
  refine jr_iconst (pc := 0) C dX12_layWorsts_0 ?_
  refine jr_istore_n (pc := 1) C L dX12_layWorsts_1 rfl (Nat.le_of_ble_eq_true rfl) (fun ls L => ?_)
  have L : jL ls [some (jR B a0), some (jI 0)] := L
  exact t_X12_layWorsts_l2 C   N a0 0 (show jIn 0 from ⟨by decide, by decide⟩) m _ _ _ S (L.sub (jsub_s (jsub_s jsub_0))) hyp
theorem c_X12_layWorsts {l : Launch} {D : va_G} {cy : Nat → ClassId} {B sz : Nat} {sh : jm_S} {res : jm_M} {N : Nat} {m : jm_M} {a0 : Nat} (hyp : f_X12_layWorsts N sh a0 m = some res) : jCt l D cy B sz sh 7 yX12_layWorsts cX12_layWorsts 2 none [jR B a0] m none res True :=
  jc_of (by decide) (fun v h => by rw [List.mem_singleton.mp h]; first | rfl | exact jR_cat _ _) (Nat.le_of_ble_eq_true rfl) (fun C S L => t_X12_layWorsts_e C   S L hyp)
set_option maxHeartbeats 4000000 in
set_option maxRecDepth 100000 in
theorem t_X12_doneOf_b114 {p : Program} {l : Launch} {e : Env} {s : State} {mi : MethodId} {args : Array Value} {below : List Frame} {meth : Method} {c : Code} {D : va_G} {cy : Nat → ClassId} {B sz : Nat} {sh : jm_S} {res : Int} {N : Nat} {m0 : jm_M} (C : jCx p s mi args meth c cX12_doneOf 6 RX12 (some .int) D cy) {a0 : Nat} {x1 : Int} (h_x1 : jIn x1) {x2 : Int} (h_x2 : jIn x2) {H : Heap} {locs : List Loc} {ls : Array Slot} (S : jHs D cy B sz sh (jA B sz) s.heap H locs m0) (L : jL ls [some (jR B a0), some (jI x1), some (jI x2), none, none, none]) (hyp : f_X12_doneOf_b114 N sh a0 x1 x2 m0 = some res) : W p l e (jrm 3 0 0) s mi args below meth c H locs 0 0 (MQ below (jQc D cy B sz sh m0 (some (jI res)) (jIn res)) args s 0 0 (jA B sz)) (F0 mi 114 ls []) := by
  unfold f_X12_doneOf_b114 at hyp
  refine jr_iload_n (pc := 114) C L dX12_doneOf_114 rfl rfl ?_
  refine jr_aload_n (pc := 115) C L dX12_doneOf_115 rfl rfl ?_
  obtain ⟨v1, hv1, hyp⟩ := jbind hyp
  refine jr_getR (pc := 116) C S lf_X12_25 rfl hv1 dX12_doneOf_116 ?_
  refine jr_iload_n (pc := 119) C L dX12_doneOf_119 rfl rfl ?_
  obtain ⟨v2, hv2, hyp⟩ := jbind hyp
  have iv2 := jra_in S hv2
  refine jr_ial (pc := 120) C S h_x1 hv2 dX12_doneOf_120 ?_
  refine jr_icmp_le (pc := 121) C h_x2 iv2 (tgt := 129) dX12_doneOf_121 (by decide) (fun c3 => ?_) (fun c3 => ?_)
  · have hyp := (if_pos c3).symm.trans hyp
    refine jr_bipush (pc := 124) C dX12_doneOf_124 (by decide) ?_
    refine jr_goto (pc := 126) C (tgt := 130) dX12_doneOf_126 (by decide) ?_
    cases hyp
    exact jr_iret C S (show jIn (-5) from ⟨by decide, by decide⟩) dX12_doneOf_130
  · have hyp := (if_neg c3).symm.trans hyp
    refine jr_iload_n (pc := 129) C L dX12_doneOf_129 rfl rfl ?_
    cases hyp
    exact jr_iret C S h_x2 dX12_doneOf_130
set_option maxHeartbeats 4000000 in
set_option maxRecDepth 100000 in
theorem t_X12_doneOf_b107 {p : Program} {l : Launch} {e : Env} {s : State} {mi : MethodId} {args : Array Value} {below : List Frame} {meth : Method} {c : Code} {D : va_G} {cy : Nat → ClassId} {B sz : Nat} {sh : jm_S} {res : Int} {N : Nat} {m0 : jm_M} {k9 : Nat → Int → Int → Int → Option Int} (C : jCx p s mi args meth c cX12_doneOf 6 RX12 (some .int) D cy) (K9 : ∀ (a0 : Nat) (x1 : Int) (x2 : Int) (x3 : Int) , jIn x1 → jIn x2 → jIn x3 → ∀ (H : Heap) (locs : List Loc) (ls : Array Slot), jHs D cy B sz sh (jA B sz) s.heap H locs m0 → jL ls [some (jR B a0), some (jI x1), some (jI x2), some (jI x3), none, none] → k9 a0 x1 x2 x3 = some res → W p l e (jrm 3 0 0) s mi args below meth c H locs 0 0 (MQ below (jQc D cy B sz sh m0 (some (jI res)) (jIn res)) args s 0 0 (jA B sz)) (F0 mi 9 ls [])) {a0 : Nat} {x1 : Int} (h_x1 : jIn x1) {x4 : Int} (h_x4 : jIn x4) {s0 : Int} (h_s0 : jIn s0) {H : Heap} {locs : List Loc} {ls : Array Slot} (S : jHs D cy B sz sh (jA B sz) s.heap H locs m0) (L : jL ls [some (jR B a0), some (jI x1), none, none, some (jI x4), none]) (hyp : f_X12_doneOf_b107 N sh k9 a0 x1 x4 s0 m0 = some res) : W p l e (jrm 3 0 0) s mi args below meth c H locs 0 0 (MQ below (jQc D cy B sz sh m0 (some (jI res)) (jIn res)) args s 0 0 (jA B sz)) (F0 mi 107 ls [jI s0]) := by
  unfold f_X12_doneOf_b107 at hyp
  refine jr_istore_n (pc := 107) C L dX12_doneOf_107 rfl (Nat.le_of_ble_eq_true rfl) (fun ls L => ?_)
  have L : jL ls [some (jR B a0), some (jI x1), none, some (jI s0), some (jI x4), none] := L
  refine jr_iload (pc := 108) C L dX12_doneOf_108 rfl ?_
  refine jr_istore_n (pc := 110) C L dX12_doneOf_110 rfl (Nat.le_of_ble_eq_true rfl) (fun ls L => ?_)
  have L : jL ls [some (jR B a0), some (jI x1), some (jI x4), some (jI s0), some (jI x4), none] := L
  refine jr_goto (pc := 111) C (tgt := 9) dX12_doneOf_111 (by decide) ?_
  exact K9 a0 x1 x4 s0 h_x1 h_x4 h_s0  _ _ _ S (L.sub (jsub_s (jsub_s (jsub_s (jsub_s (jsub_n (jsub_n jsub_0))))))) hyp
set_option maxHeartbeats 4000000 in
set_option maxRecDepth 100000 in
theorem t_X12_doneOf_b90 {p : Program} {l : Launch} {e : Env} {s : State} {mi : MethodId} {args : Array Value} {below : List Frame} {meth : Method} {c : Code} {D : va_G} {cy : Nat → ClassId} {B sz : Nat} {sh : jm_S} {res : Int} {N : Nat} {m0 : jm_M} {k9 : Nat → Int → Int → Int → Option Int} {k34 : Nat → Int → Int → Int → Int → Option Int} (C : jCx p s mi args meth c cX12_doneOf 6 RX12 (some .int) D cy) (K9 : ∀ (a0 : Nat) (x1 : Int) (x2 : Int) (x3 : Int) , jIn x1 → jIn x2 → jIn x3 → ∀ (H : Heap) (locs : List Loc) (ls : Array Slot), jHs D cy B sz sh (jA B sz) s.heap H locs m0 → jL ls [some (jR B a0), some (jI x1), some (jI x2), some (jI x3), none, none] → k9 a0 x1 x2 x3 = some res → W p l e (jrm 3 0 0) s mi args below meth c H locs 0 0 (MQ below (jQc D cy B sz sh m0 (some (jI res)) (jIn res)) args s 0 0 (jA B sz)) (F0 mi 9 ls [])) (K34 : ∀ (a0 : Nat) (x1 : Int) (x2 : Int) (x4 : Int) (x5 : Int) , jIn x1 → jIn x2 → jIn x4 → jIn x5 → ∀ (H : Heap) (locs : List Loc) (ls : Array Slot), jHs D cy B sz sh (jA B sz) s.heap H locs m0 → jL ls [some (jR B a0), some (jI x1), some (jI x2), none, some (jI x4), some (jI x5)] → k34 a0 x1 x2 x4 x5 = some res → W p l e (jrm 3 0 0) s mi args below meth c H locs 0 0 (MQ below (jQc D cy B sz sh m0 (some (jI res)) (jIn res)) args s 0 0 (jA B sz)) (F0 mi 34 ls [])) {a0 : Nat} {x1 : Int} (h_x1 : jIn x1) {x2 : Int} (h_x2 : jIn x2) {x4 : Int} (h_x4 : jIn x4) {x5 : Int} (h_x5 : jIn x5) {H : Heap} {locs : List Loc} {ls : Array Slot} (S : jHs D cy B sz sh (jA B sz) s.heap H locs m0) (L : jL ls [some (jR B a0), some (jI x1), some (jI x2), none, some (jI x4), some (jI x5)]) (hyp : f_X12_doneOf_b90 N sh k9 k34 a0 x1 x2 x4 x5 m0 = some res) : W p l e (jrm 3 0 0) s mi args below meth c H locs 0 0 (MQ below (jQc D cy B sz sh m0 (some (jI res)) (jIn res)) args s 0 0 (jA B sz)) (F0 mi 90 ls []) := by
  unfold f_X12_doneOf_b90 at hyp
  refine jr_iinc (pc := 90) C L dX12_doneOf_90 rfl (Nat.le_of_ble_eq_true rfl) (fun ls L => ?_)
  have L : jL ls [some (jR B a0), some (jI x1), some (jI x2), none, some (jI x4), some (jI (jw (x5 + 1)))] := L
  refine jr_goto (pc := 93) C (tgt := 34) dX12_doneOf_93 (by decide) ?_
  exact K34 a0 x1 x2 x4 (jw (x5 + 1)) h_x1 h_x2 h_x4 (jIn_w _)  _ _ _ S (L.sub (jsub_s (jsub_s (jsub_s (jsub_n (jsub_s (jsub_s jsub_0))))))) hyp
set_option maxHeartbeats 4000000 in
set_option maxRecDepth 100000 in
theorem t_X12_doneOf_b34 {p : Program} {l : Launch} {e : Env} {s : State} {mi : MethodId} {args : Array Value} {below : List Frame} {meth : Method} {c : Code} {D : va_G} {cy : Nat → ClassId} {B sz : Nat} {sh : jm_S} {res : Int} {N : Nat} {m0 : jm_M} {k9 : Nat → Int → Int → Int → Option Int} {k34 : Nat → Int → Int → Int → Int → Option Int} (C : jCx p s mi args meth c cX12_doneOf 6 RX12 (some .int) D cy) (K9 : ∀ (a0 : Nat) (x1 : Int) (x2 : Int) (x3 : Int) , jIn x1 → jIn x2 → jIn x3 → ∀ (H : Heap) (locs : List Loc) (ls : Array Slot), jHs D cy B sz sh (jA B sz) s.heap H locs m0 → jL ls [some (jR B a0), some (jI x1), some (jI x2), some (jI x3), none, none] → k9 a0 x1 x2 x3 = some res → W p l e (jrm 3 0 0) s mi args below meth c H locs 0 0 (MQ below (jQc D cy B sz sh m0 (some (jI res)) (jIn res)) args s 0 0 (jA B sz)) (F0 mi 9 ls [])) (K34 : ∀ (a0 : Nat) (x1 : Int) (x2 : Int) (x4 : Int) (x5 : Int) , jIn x1 → jIn x2 → jIn x4 → jIn x5 → ∀ (H : Heap) (locs : List Loc) (ls : Array Slot), jHs D cy B sz sh (jA B sz) s.heap H locs m0 → jL ls [some (jR B a0), some (jI x1), some (jI x2), none, some (jI x4), some (jI x5)] → k34 a0 x1 x2 x4 x5 = some res → W p l e (jrm 3 0 0) s mi args below meth c H locs 0 0 (MQ below (jQc D cy B sz sh m0 (some (jI res)) (jIn res)) args s 0 0 (jA B sz)) (F0 mi 34 ls [])) {a0 : Nat} {x1 : Int} (h_x1 : jIn x1) {x2 : Int} (h_x2 : jIn x2) {x4 : Int} (h_x4 : jIn x4) {x5 : Int} (h_x5 : jIn x5) {H : Heap} {locs : List Loc} {ls : Array Slot} (S : jHs D cy B sz sh (jA B sz) s.heap H locs m0) (L : jL ls [some (jR B a0), some (jI x1), some (jI x2), none, some (jI x4), some (jI x5)]) (hyp : f_X12_doneOf_b34 N sh k9 k34 a0 x1 x2 x4 x5 m0 = some res) : W p l e (jrm 3 0 0) s mi args below meth c H locs 0 0 (MQ below (jQc D cy B sz sh m0 (some (jI res)) (jIn res)) args s 0 0 (jA B sz)) (F0 mi 34 ls []) := by
  unfold f_X12_doneOf_b34 at hyp
  refine jr_iload (pc := 34) C L dX12_doneOf_34 rfl ?_
  refine jr_iload_n (pc := 36) C L dX12_doneOf_36 rfl rfl ?_
  refine jr_icmp_ge (pc := 37) C h_x5 h_x1 (tgt := 96) dX12_doneOf_37 (by decide) (fun c4 => ?_) (fun c4 => ?_)
  · have hyp := (if_pos c4).symm.trans hyp
    refine jr_aload_n (pc := 40) C L dX12_doneOf_40 rfl rfl ?_
    obtain ⟨v5, hv5, hyp⟩ := jbind hyp
    refine jr_getR (pc := 41) C S lf_X12_25 rfl hv5 dX12_doneOf_41 ?_
    refine jr_iload (pc := 44) C L dX12_doneOf_44 rfl ?_
    obtain ⟨v6, hv6, hyp⟩ := jbind hyp
    have iv6 := jra_in S hv6
    refine jr_ial (pc := 46) C S h_x5 hv6 dX12_doneOf_46 ?_
    refine jr_if_le (pc := 47) C iv6 (tgt := 90) dX12_doneOf_47 (by decide) (fun c7 => ?_) (fun c7 => ?_)
    · have hyp := (if_pos c7).symm.trans hyp
      refine jr_iload (pc := 50) C L dX12_doneOf_50 rfl ?_
      refine jr_iload_n (pc := 52) C L dX12_doneOf_52 rfl rfl ?_
      refine jr_aload_n (pc := 53) C L dX12_doneOf_53 rfl rfl ?_
      obtain ⟨v8, hv8, hyp⟩ := jbind hyp
      refine jr_getR (pc := 54) C S lf_X12_25 rfl hv8 dX12_doneOf_54 ?_
      refine jr_iload (pc := 57) C L dX12_doneOf_57 rfl ?_
      obtain ⟨v9, hv9, hyp⟩ := jbind hyp
      have iv9 := jra_in S hv9
      refine jr_ial (pc := 59) C S h_x5 hv9 dX12_doneOf_59 ?_
      refine jr_iadd (pc := 60) C dX12_doneOf_60 ?_
      refine jr_iconst (pc := 61) C dX12_doneOf_61 ?_
      refine jr_isub (pc := 62) C dX12_doneOf_62 ?_
      refine jr_aload_n (pc := 63) C L dX12_doneOf_63 rfl rfl ?_
      obtain ⟨v10, hv10, hyp⟩ := jbind hyp
      refine jr_getR (pc := 64) C S lf_X12_25 rfl hv10 dX12_doneOf_64 ?_
      refine jr_iload (pc := 67) C L dX12_doneOf_67 rfl ?_
      obtain ⟨v11, hv11, hyp⟩ := jbind hyp
      have iv11 := jra_in S hv11
      refine jr_ial (pc := 69) C S h_x5 hv11 dX12_doneOf_69 ?_
      by_cases c12 : v11 = 0
      · exact absurd ((if_pos c12).symm.trans hyp) (by intro h; cases h)
      have hyp := (if_neg c12).symm.trans hyp
      refine jr_idiv (pc := 70) C (jIn_w _) iv11 c12 dX12_doneOf_70 ?_
      refine jr_aload_n (pc := 71) C L dX12_doneOf_71 rfl rfl ?_
      obtain ⟨v13, hv13, hyp⟩ := jbind hyp
      refine jr_getR (pc := 72) C S lf_X12_70 rfl hv13 dX12_doneOf_72 ?_
      refine jr_iload (pc := 75) C L dX12_doneOf_75 rfl ?_
      obtain ⟨v14, hv14, hyp⟩ := jbind hyp
      have iv14 := jra_in S hv14
      refine jr_ial (pc := 77) C S h_x5 hv14 dX12_doneOf_77 ?_
      refine jr_aload_n (pc := 78) C L dX12_doneOf_78 rfl rfl ?_
      refine jr_iload (pc := 79) C L dX12_doneOf_79 rfl ?_
      refine jr_iload_n (pc := 81) C L dX12_doneOf_81 rfl rfl ?_
      obtain ⟨u15, hu15, hyp⟩ := jbind hyp
      obtain ⟨q16, hq16, hyp⟩ := jbind hyp
      refine jr_callV_I (pc := 82) C S L (As := [jI x5, jI x1]) (rest := [jI v14, jI (jdiv (jw ((jw (x2 + v9)) - 1)) v11), jI x4]) (c_X12_breaksOf (m0 := m0) h_x5 h_x1 hq16) mv_X12_breaksOf ml_X12_267 rfl (jck_spec hu15) (by decide) rfl rfl rfl (Nat.le_of_ble_eq_true rfl) ⟨Nat.le_refl 0, Nat.le_refl 0⟩ dX12_doneOf_82 (fun p17 H locs S => ?_)
      refine jr_iadd (pc := 85) C dX12_doneOf_85 ?_
      refine jr_imul (pc := 86) C dX12_doneOf_86 ?_
      refine jr_iadd (pc := 87) C dX12_doneOf_87 ?_
      refine jr_istore (pc := 88) C L dX12_doneOf_88 (Nat.le_of_ble_eq_true rfl) (fun ls L => ?_)
      have L : jL ls [some (jR B a0), some (jI x1), some (jI x2), none, some (jI (jw (x4 + (jw ((jdiv (jw ((jw (x2 + v9)) - 1)) v11) * (jw (v14 + q16))))))), some (jI x5)] := L
      exact t_X12_doneOf_b90 C  K9 K34 h_x1 h_x2 (jIn_w _) h_x5 S (L.sub (jsub_s (jsub_s (jsub_s (jsub_n (jsub_s (jsub_s jsub_0))))))) hyp
    · have hyp := (if_neg c7).symm.trans hyp
      exact t_X12_doneOf_b90 C  K9 K34 h_x1 h_x2 h_x4 h_x5 S (L.sub (jsub_s (jsub_s (jsub_s (jsub_n (jsub_s (jsub_s jsub_0))))))) hyp
  · have hyp := (if_neg c4).symm.trans hyp
    refine jr_iload (pc := 96) C L dX12_doneOf_96 rfl ?_
    refine jr_iload_n (pc := 98) C L dX12_doneOf_98 rfl rfl ?_
    refine jr_icmp_eq (pc := 99) C h_x4 h_x2 (tgt := 106) dX12_doneOf_99 (by decide) (fun c18 => ?_) (fun c18 => ?_)
    · have hyp := (if_pos c18).symm.trans hyp
      refine jr_iconst (pc := 106) C dX12_doneOf_106 ?_
      exact t_X12_doneOf_b107 C  K9 h_x1 h_x4 (show jIn 0 from ⟨by decide, by decide⟩) S (L.sub (jsub_s (jsub_s (jsub_n (jsub_n (jsub_s (jsub_n jsub_0))))))) hyp
    · have hyp := (if_neg c18).symm.trans hyp
      refine jr_iconst (pc := 102) C dX12_doneOf_102 ?_
      refine jr_goto (pc := 103) C (tgt := 107) dX12_doneOf_103 (by decide) ?_
      exact t_X12_doneOf_b107 C  K9 h_x1 h_x4 (show jIn 1 from ⟨by decide, by decide⟩) S (L.sub (jsub_s (jsub_s (jsub_n (jsub_n (jsub_s (jsub_n jsub_0))))))) hyp
theorem t_X12_doneOf_l34 {p : Program} {l : Launch} {e : Env} {s : State} {mi : MethodId} {args : Array Value} {below : List Frame} {meth : Method} {c : Code} {D : va_G} {cy : Nat → ClassId} {B sz : Nat} {sh : jm_S} {res : Int} {N : Nat} {m0 : jm_M} {k9 : Nat → Int → Int → Int → Option Int} (C : jCx p s mi args meth c cX12_doneOf 6 RX12 (some .int) D cy) (K9 : ∀ (a0 : Nat) (x1 : Int) (x2 : Int) (x3 : Int) , jIn x1 → jIn x2 → jIn x3 → ∀ (H : Heap) (locs : List Loc) (ls : Array Slot), jHs D cy B sz sh (jA B sz) s.heap H locs m0 → jL ls [some (jR B a0), some (jI x1), some (jI x2), some (jI x3), none, none] → k9 a0 x1 x2 x3 = some res → W p l e (jrm 3 0 0) s mi args below meth c H locs 0 0 (MQ below (jQc D cy B sz sh m0 (some (jI res)) (jIn res)) args s 0 0 (jA B sz)) (F0 mi 9 ls [])) : ∀ (n : Nat) (a0 : Nat) (x1 : Int) (x2 : Int) (x4 : Int) (x5 : Int), jIn x1 → jIn x2 → jIn x4 → jIn x5 → ∀ (H : Heap) (locs : List Loc) (ls : Array Slot), jHs D cy B sz sh (jA B sz) s.heap H locs m0 → jL ls [some (jR B a0), some (jI x1), some (jI x2), none, some (jI x4), some (jI x5)] → f_X12_doneOf_l34 N sh k9 n a0 x1 x2 x4 x5 m0 = some res → W p l e (jrm 3 0 0) s mi args below meth c H locs 0 0 (MQ below (jQc D cy B sz sh m0 (some (jI res)) (jIn res)) args s 0 0 (jA B sz)) (F0 mi 34 ls []) := by
  intro n
  induction n with
  | zero => intro a0 x1 x2 x4 x5 h_x1 h_x2 h_x4 h_x5 H locs ls S L hyp; cases hyp
  | succ n ih => intro a0 x1 x2 x4 x5 h_x1 h_x2 h_x4 h_x5 H locs ls S L hyp; exact t_X12_doneOf_b34 (N := N) C  K9 ih h_x1 h_x2 h_x4 h_x5 S L hyp
set_option maxHeartbeats 4000000 in
set_option maxRecDepth 100000 in
theorem t_X12_doneOf_b9 {p : Program} {l : Launch} {e : Env} {s : State} {mi : MethodId} {args : Array Value} {below : List Frame} {meth : Method} {c : Code} {D : va_G} {cy : Nat → ClassId} {B sz : Nat} {sh : jm_S} {res : Int} {N : Nat} {m0 : jm_M} {k9 : Nat → Int → Int → Int → Option Int} (C : jCx p s mi args meth c cX12_doneOf 6 RX12 (some .int) D cy) (K9 : ∀ (a0 : Nat) (x1 : Int) (x2 : Int) (x3 : Int) , jIn x1 → jIn x2 → jIn x3 → ∀ (H : Heap) (locs : List Loc) (ls : Array Slot), jHs D cy B sz sh (jA B sz) s.heap H locs m0 → jL ls [some (jR B a0), some (jI x1), some (jI x2), some (jI x3), none, none] → k9 a0 x1 x2 x3 = some res → W p l e (jrm 3 0 0) s mi args below meth c H locs 0 0 (MQ below (jQc D cy B sz sh m0 (some (jI res)) (jIn res)) args s 0 0 (jA B sz)) (F0 mi 9 ls [])) {a0 : Nat} {x1 : Int} (h_x1 : jIn x1) {x2 : Int} (h_x2 : jIn x2) {x3 : Int} (h_x3 : jIn x3) {H : Heap} {locs : List Loc} {ls : Array Slot} (S : jHs D cy B sz sh (jA B sz) s.heap H locs m0) (L : jL ls [some (jR B a0), some (jI x1), some (jI x2), some (jI x3), none, none]) (hyp : f_X12_doneOf_b9 N sh k9 a0 x1 x2 x3 m0 = some res) : W p l e (jrm 3 0 0) s mi args below meth c H locs 0 0 (MQ below (jQc D cy B sz sh m0 (some (jI res)) (jIn res)) args s 0 0 (jA B sz)) (F0 mi 9 ls []) := by
  unfold f_X12_doneOf_b9 at hyp
  refine jr_iload_n (pc := 9) C L dX12_doneOf_9 rfl rfl ?_
  refine jr_if_eq (pc := 10) C h_x3 (tgt := 114) dX12_doneOf_10 (by decide) (fun c19 => ?_) (fun c19 => ?_)
  · have hyp := (if_pos c19).symm.trans hyp
    exact t_X12_doneOf_b114 C   h_x1 h_x2 S (L.sub (jsub_s (jsub_s (jsub_s (jsub_n (jsub_n (jsub_n jsub_0))))))) hyp
  · have hyp := (if_neg c19).symm.trans hyp
    refine jr_iload_n (pc := 13) C L dX12_doneOf_13 rfl rfl ?_
    refine jr_aload_n (pc := 14) C L dX12_doneOf_14 rfl rfl ?_
    obtain ⟨v20, hv20, hyp⟩ := jbind hyp
    refine jr_getR (pc := 15) C S lf_X12_25 rfl hv20 dX12_doneOf_15 ?_
    refine jr_iload_n (pc := 18) C L dX12_doneOf_18 rfl rfl ?_
    obtain ⟨v21, hv21, hyp⟩ := jbind hyp
    have iv21 := jra_in S hv21
    refine jr_ial (pc := 19) C S h_x1 hv21 dX12_doneOf_19 ?_
    refine jr_icmp_gt (pc := 20) C h_x2 iv21 (tgt := 114) dX12_doneOf_20 (by decide) (fun c22 => ?_) (fun c22 => ?_)
    · have hyp := (if_pos c22).symm.trans hyp
      exact t_X12_doneOf_b114 C   h_x1 h_x2 S (L.sub (jsub_s (jsub_s (jsub_s (jsub_n (jsub_n (jsub_n jsub_0))))))) hyp
    · have hyp := (if_neg c22).symm.trans hyp
      refine jr_aload_n (pc := 23) C L dX12_doneOf_23 rfl rfl ?_
      obtain ⟨v23, hv23, hyp⟩ := jbind hyp
      refine jr_getR (pc := 24) C S lf_X12_70 rfl hv23 dX12_doneOf_24 ?_
      refine jr_iload_n (pc := 27) C L dX12_doneOf_27 rfl rfl ?_
      obtain ⟨v24, hv24, hyp⟩ := jbind hyp
      have iv24 := jra_in S hv24
      refine jr_ial (pc := 28) C S h_x1 hv24 dX12_doneOf_28 ?_
      refine jr_istore (pc := 29) C L dX12_doneOf_29 (Nat.le_of_ble_eq_true rfl) (fun ls L => ?_)
      have L : jL ls [some (jR B a0), some (jI x1), some (jI x2), some (jI x3), some (jI v24), none] := L
      refine jr_iconst (pc := 31) C dX12_doneOf_31 ?_
      refine jr_istore (pc := 32) C L dX12_doneOf_32 (Nat.le_of_ble_eq_true rfl) (fun ls L => ?_)
      have L : jL ls [some (jR B a0), some (jI x1), some (jI x2), some (jI x3), some (jI v24), some (jI 0)] := L
      exact t_X12_doneOf_l34 C  K9 N a0 x1 x2 v24 0 h_x1 h_x2 iv24 (show jIn 0 from ⟨by decide, by decide⟩)  _ _ _ S (L.sub (jsub_s (jsub_s (jsub_s (jsub_n (jsub_s (jsub_s jsub_0))))))) hyp
theorem t_X12_doneOf_l9 {p : Program} {l : Launch} {e : Env} {s : State} {mi : MethodId} {args : Array Value} {below : List Frame} {meth : Method} {c : Code} {D : va_G} {cy : Nat → ClassId} {B sz : Nat} {sh : jm_S} {res : Int} {N : Nat} {m0 : jm_M} (C : jCx p s mi args meth c cX12_doneOf 6 RX12 (some .int) D cy) : ∀ (n : Nat) (a0 : Nat) (x1 : Int) (x2 : Int) (x3 : Int), jIn x1 → jIn x2 → jIn x3 → ∀ (H : Heap) (locs : List Loc) (ls : Array Slot), jHs D cy B sz sh (jA B sz) s.heap H locs m0 → jL ls [some (jR B a0), some (jI x1), some (jI x2), some (jI x3), none, none] → f_X12_doneOf_l9 N sh n a0 x1 x2 x3 m0 = some res → W p l e (jrm 3 0 0) s mi args below meth c H locs 0 0 (MQ below (jQc D cy B sz sh m0 (some (jI res)) (jIn res)) args s 0 0 (jA B sz)) (F0 mi 9 ls []) := by
  intro n
  induction n with
  | zero => intro a0 x1 x2 x3 h_x1 h_x2 h_x3 H locs ls S L hyp; cases hyp
  | succ n ih => intro a0 x1 x2 x3 h_x1 h_x2 h_x3 H locs ls S L hyp; exact t_X12_doneOf_b9 (N := N) C  ih h_x1 h_x2 h_x3 S L hyp
set_option maxHeartbeats 4000000 in
set_option maxRecDepth 100000 in
theorem t_X12_doneOf_e {p : Program} {l : Launch} {e : Env} {s : State} {mi : MethodId} {args : Array Value} {below : List Frame} {meth : Method} {c : Code} {D : va_G} {cy : Nat → ClassId} {B sz : Nat} {sh : jm_S} {res : Int} {N : Nat} {m0 : jm_M} (C : jCx p s mi args meth c cX12_doneOf 6 RX12 (some .int) D cy) {a0 : Nat} {x1 : Int} (h_x1 : jIn x1) {H : Heap} {locs : List Loc} {ls : Array Slot} (S : jHs D cy B sz sh (jA B sz) s.heap H locs m0) (L : jL ls [some (jR B a0), some (jI x1), none, none, none, none]) (hyp : f_X12_doneOf N sh a0 x1 m0 = some res) : W p l e (jrm 3 0 0) s mi args below meth c H locs 0 0 (MQ below (jQc D cy B sz sh m0 (some (jI res)) (jIn res)) args s 0 0 (jA B sz)) (F0 mi 0 ls []) := by
  unfold f_X12_doneOf at hyp
  refine jr_aload_n (pc := 0) C L dX12_doneOf_0 rfl rfl ?_
  obtain ⟨v25, hv25, hyp⟩ := jbind hyp
  refine jr_getR (pc := 1) C S lf_X12_70 rfl hv25 dX12_doneOf_1 ?_
  refine jr_iload_n (pc := 4) C L dX12_doneOf_4 rfl rfl ?_
  obtain ⟨v26, hv26, hyp⟩ := jbind hyp
  have iv26 := jra_in S hv26
  refine jr_ial (pc := 5) C S h_x1 hv26 dX12_doneOf_5 ?_
  refine jr_istore_n (pc := 6) C L dX12_doneOf_6 rfl (Nat.le_of_ble_eq_true rfl) (fun ls L => ?_)
  have L : jL ls [some (jR B a0), some (jI x1), some (jI v26), none, none, none] := L
  refine jr_iconst (pc := 7) C dX12_doneOf_7 ?_
  refine jr_istore_n (pc := 8) C L dX12_doneOf_8 rfl (Nat.le_of_ble_eq_true rfl) (fun ls L => ?_)
  have L : jL ls [some (jR B a0), some (jI x1), some (jI v26), some (jI 1), none, none] := L
  exact t_X12_doneOf_l9 C   N a0 x1 v26 1 h_x1 iv26 (show jIn 1 from ⟨by decide, by decide⟩)  _ _ _ S (L.sub (jsub_s (jsub_s (jsub_s (jsub_s (jsub_n (jsub_n jsub_0))))))) hyp
theorem c_X12_doneOf {l : Launch} {D : va_G} {cy : Nat → ClassId} {B sz : Nat} {sh : jm_S} {res : Int} {N : Nat} {m0 : jm_M} {a0 : Nat} {x1 : Int} (h_x1 : jIn x1) (hyp : f_X12_doneOf N sh a0 x1 m0 = some res) : jCt l D cy B sz sh 3 yX12_doneOf cX12_doneOf 6 (some .int) [jR B a0, jI x1] m0 (some (jI res)) m0 (jIn res) :=
  jc_of (by decide) (fun v h => by simp only [List.mem_cons, List.not_mem_nil, or_false] at h; rcases h with rfl | rfl <;> first | rfl | exact jR_cat _ _) (Nat.le_of_ble_eq_true rfl) (fun C S L => t_X12_doneOf_e C  h_x1 S L hyp)
set_option maxHeartbeats 4000000 in
set_option maxRecDepth 100000 in
theorem t_X12_done_e {p : Program} {l : Launch} {e : Env} {s : State} {mi : MethodId} {args : Array Value} {below : List Frame} {meth : Method} {c : Code} {D : va_G} {cy : Nat → ClassId} {B sz : Nat} {sh : jm_S} {res : (Int × jm_M)} {N : Nat} (C : jCx p s mi args meth c cX12_done 2 RX12 (some .int) D cy) {a0 : Nat} {x1 : Int} (h_x1 : jIn x1) {m : jm_M} {H : Heap} {locs : List Loc} {ls : Array Slot} (S : jHs D cy B sz sh (jA B sz) s.heap H locs m) (L : jL ls [some (jR B a0), some (jI x1)]) (hyp : f_X12_done N sh a0 x1 m = some res) : W p l e (jrm 8 0 0) s mi args below meth c H locs 0 0 (MQ below (jQc D cy B sz sh res.2 (some (jI res.1)) (jIn res.1)) args s 0 0 (jA B sz)) (F0 mi 0 ls []) := by
  unfold f_X12_done at hyp
  refine jr_iload_n (pc := 0) C L dX12_done_0 rfl rfl ?_
  obtain ⟨q1, hq1, hyp⟩ := jbind hyp
  refine jr_callS_I (pc := 1) C S L (As := [jI x1]) (rest := []) (c_X12_isProgram (m0 := m) h_x1 hq1) ms_X12_isProgram ml_X12_103 (by decide) rfl rfl rfl (Nat.le_of_ble_eq_true rfl) ⟨Nat.le_refl 0, Nat.le_refl 0⟩ dX12_done_1 (fun p2 H locs S => ?_)
  refine jr_if_ne (pc := 4) C p2 (tgt := 9) dX12_done_4 (by decide) (fun c3 => ?_) (fun c3 => ?_)
  · have hyp := (if_pos c3).symm.trans hyp
    refine jr_iconst (pc := 7) C dX12_done_7 ?_
    cases hyp
    exact jr_iret C S (show jIn (-1) from ⟨by decide, by decide⟩) dX12_done_8
  · have hyp := (if_neg c3).symm.trans hyp
    refine jr_aload_n (pc := 9) C L dX12_done_9 rfl rfl ?_
    obtain ⟨v4, hv4, hyp⟩ := jbind hyp
    refine jr_getR (pc := 10) C S lf_X12_25 rfl hv4 dX12_done_10 ?_
    refine jr_iload_n (pc := 13) C L dX12_done_13 rfl rfl ?_
    obtain ⟨v5, hv5, hyp⟩ := jbind hyp
    have iv5 := jra_in S hv5
    refine jr_ial (pc := 14) C S h_x1 hv5 dX12_done_14 ?_
    refine jr_if_ne (pc := 15) C iv5 (tgt := 21) dX12_done_15 (by decide) (fun c6 => ?_) (fun c6 => ?_)
    · have hyp := (if_pos c6).symm.trans hyp
      refine jr_bipush (pc := 18) C dX12_done_18 (by decide) ?_
      cases hyp
      exact jr_iret C S (show jIn (-3) from ⟨by decide, by decide⟩) dX12_done_20
    · have hyp := (if_neg c6).symm.trans hyp
      refine jr_aload_n (pc := 21) C L dX12_done_21 rfl rfl ?_
      obtain ⟨u7, hu7, hyp⟩ := jbind hyp
      obtain ⟨q8, hq8, hyp⟩ := jbind hyp
      refine jr_callV_N (pc := 22) C S L (As := []) (rest := []) (c_X12_layWorsts  hq8) mv_X12_layWorsts ml_X12_270 rfl (jck_spec hu7) (by decide) rfl rfl rfl (Nat.le_of_ble_eq_true rfl) ⟨Nat.le_refl 0, Nat.le_refl 0⟩ dX12_done_22 (fun p9 H locs S => ?_)
      refine jr_aload_n (pc := 25) C L dX12_done_25 rfl rfl ?_
      refine jr_iload_n (pc := 26) C L dX12_done_26 rfl rfl ?_
      obtain ⟨u10, hu10, hyp⟩ := jbind hyp
      obtain ⟨q11, hq11, hyp⟩ := jbind hyp
      refine jr_callV_I (pc := 27) C S L (As := [jI x1]) (rest := []) (c_X12_doneOf (m0 := q8) h_x1 hq11) mv_X12_doneOf ml_X12_273 rfl (jck_spec hu10) (by decide) rfl rfl rfl (Nat.le_of_ble_eq_true rfl) ⟨Nat.le_refl 0, Nat.le_refl 0⟩ dX12_done_27 (fun p12 H locs S => ?_)
      cases hyp
      exact jr_iret C S p12 dX12_done_30
theorem c_X12_done {l : Launch} {D : va_G} {cy : Nat → ClassId} {B sz : Nat} {sh : jm_S} {res : (Int × jm_M)} {N : Nat} {m : jm_M} {a0 : Nat} {x1 : Int} (h_x1 : jIn x1) (hyp : f_X12_done N sh a0 x1 m = some res) : jCt l D cy B sz sh 8 yX12_done cX12_done 2 (some .int) [jR B a0, jI x1] m (some (jI res.1)) res.2 (jIn res.1) :=
  jc_of (by decide) (fun v h => by simp only [List.mem_cons, List.not_mem_nil, or_false] at h; rcases h with rfl | rfl <;> first | rfl | exact jR_cat _ _) (Nat.le_of_ble_eq_true rfl) (fun C S L => t_X12_done_e C  h_x1 S L hyp)
set_option maxHeartbeats 4000000 in
set_option maxRecDepth 100000 in
theorem t_X12_lateOnes_b38 {p : Program} {l : Launch} {e : Env} {s : State} {mi : MethodId} {args : Array Value} {below : List Frame} {meth : Method} {c : Code} {D : va_G} {cy : Nat → ClassId} {B sz : Nat} {sh : jm_S} {res : (Int × jm_M)} {N : Nat} {k8 : Nat → Int → Int → jm_M → Option (Int × jm_M)} (C : jCx p s mi args meth c cX12_lateOnes 3 RX12 (some .int) D cy) (K8 : ∀ (a0 : Nat) (x1 : Int) (x2 : Int) , jIn x1 → jIn x2 → ∀ (m : jm_M) (H : Heap) (locs : List Loc) (ls : Array Slot), jHs D cy B sz sh (jA B sz) s.heap H locs m → jL ls [some (jR B a0), some (jI x1), some (jI x2)] → k8 a0 x1 x2 m = some res → W p l e (jrm 8 0 0) s mi args below meth c H locs 0 0 (MQ below (jQc D cy B sz sh res.2 (some (jI res.1)) (jIn res.1)) args s 0 0 (jA B sz)) (F0 mi 8 ls [])) {a0 : Nat} {x2 : Int} (h_x2 : jIn x2) {s0 : Int} (h_s0 : jIn s0) {s1 : Int} (h_s1 : jIn s1) {m : jm_M} {H : Heap} {locs : List Loc} {ls : Array Slot} (S : jHs D cy B sz sh (jA B sz) s.heap H locs m) (L : jL ls [some (jR B a0), none, some (jI x2)]) (hyp : f_X12_lateOnes_b38 N sh k8 a0 x2 s0 s1 m = some res) : W p l e (jrm 8 0 0) s mi args below meth c H locs 0 0 (MQ below (jQc D cy B sz sh res.2 (some (jI res.1)) (jIn res.1)) args s 0 0 (jA B sz)) (F0 mi 38 ls [jI s1, jI s0]) := by
  unfold f_X12_lateOnes_b38 at hyp
  refine jr_ior (pc := 38) C dX12_lateOnes_38 ?_
  refine jr_istore_n (pc := 39) C L dX12_lateOnes_39 rfl (Nat.le_of_ble_eq_true rfl) (fun ls L => ?_)
  have L : jL ls [some (jR B a0), some (jI (jor s0 s1)), some (jI x2)] := L
  refine jr_iinc (pc := 40) C L dX12_lateOnes_40 rfl (Nat.le_of_ble_eq_true rfl) (fun ls L => ?_)
  have L : jL ls [some (jR B a0), some (jI (jor s0 s1)), some (jI (jw (x2 + 1)))] := L
  refine jr_goto (pc := 43) C (tgt := 8) dX12_lateOnes_43 (by decide) ?_
  exact K8 a0 (jor s0 s1) (jw (x2 + 1)) (jIn_or _ _) (jIn_w _) m _ _ _ S (L.sub (jsub_s (jsub_s (jsub_s jsub_0)))) hyp
set_option maxHeartbeats 4000000 in
set_option maxRecDepth 100000 in
theorem t_X12_lateOnes_b37 {p : Program} {l : Launch} {e : Env} {s : State} {mi : MethodId} {args : Array Value} {below : List Frame} {meth : Method} {c : Code} {D : va_G} {cy : Nat → ClassId} {B sz : Nat} {sh : jm_S} {res : (Int × jm_M)} {N : Nat} {k8 : Nat → Int → Int → jm_M → Option (Int × jm_M)} (C : jCx p s mi args meth c cX12_lateOnes 3 RX12 (some .int) D cy) (K8 : ∀ (a0 : Nat) (x1 : Int) (x2 : Int) , jIn x1 → jIn x2 → ∀ (m : jm_M) (H : Heap) (locs : List Loc) (ls : Array Slot), jHs D cy B sz sh (jA B sz) s.heap H locs m → jL ls [some (jR B a0), some (jI x1), some (jI x2)] → k8 a0 x1 x2 m = some res → W p l e (jrm 8 0 0) s mi args below meth c H locs 0 0 (MQ below (jQc D cy B sz sh res.2 (some (jI res.1)) (jIn res.1)) args s 0 0 (jA B sz)) (F0 mi 8 ls [])) {a0 : Nat} {x2 : Int} (h_x2 : jIn x2) {s0 : Int} (h_s0 : jIn s0) {m : jm_M} {H : Heap} {locs : List Loc} {ls : Array Slot} (S : jHs D cy B sz sh (jA B sz) s.heap H locs m) (L : jL ls [some (jR B a0), none, some (jI x2)]) (hyp : f_X12_lateOnes_b37 N sh k8 a0 x2 s0 m = some res) : W p l e (jrm 8 0 0) s mi args below meth c H locs 0 0 (MQ below (jQc D cy B sz sh res.2 (some (jI res.1)) (jIn res.1)) args s 0 0 (jA B sz)) (F0 mi 37 ls [jI s0]) := by
  unfold f_X12_lateOnes_b37 at hyp
  refine jr_iconst (pc := 37) C dX12_lateOnes_37 ?_
  exact t_X12_lateOnes_b38 C  K8 h_x2 h_s0 (show jIn 0 from ⟨by decide, by decide⟩) S (L.sub (jsub_s (jsub_n (jsub_s jsub_0)))) hyp
set_option maxHeartbeats 4000000 in
set_option maxRecDepth 100000 in
theorem t_X12_lateOnes_b8 {p : Program} {l : Launch} {e : Env} {s : State} {mi : MethodId} {args : Array Value} {below : List Frame} {meth : Method} {c : Code} {D : va_G} {cy : Nat → ClassId} {B sz : Nat} {sh : jm_S} {res : (Int × jm_M)} {N : Nat} {k8 : Nat → Int → Int → jm_M → Option (Int × jm_M)} (C : jCx p s mi args meth c cX12_lateOnes 3 RX12 (some .int) D cy) (K8 : ∀ (a0 : Nat) (x1 : Int) (x2 : Int) , jIn x1 → jIn x2 → ∀ (m : jm_M) (H : Heap) (locs : List Loc) (ls : Array Slot), jHs D cy B sz sh (jA B sz) s.heap H locs m → jL ls [some (jR B a0), some (jI x1), some (jI x2)] → k8 a0 x1 x2 m = some res → W p l e (jrm 8 0 0) s mi args below meth c H locs 0 0 (MQ below (jQc D cy B sz sh res.2 (some (jI res.1)) (jIn res.1)) args s 0 0 (jA B sz)) (F0 mi 8 ls [])) {a0 : Nat} {x1 : Int} (h_x1 : jIn x1) {x2 : Int} (h_x2 : jIn x2) {m : jm_M} {H : Heap} {locs : List Loc} {ls : Array Slot} (S : jHs D cy B sz sh (jA B sz) s.heap H locs m) (L : jL ls [some (jR B a0), some (jI x1), some (jI x2)]) (hyp : f_X12_lateOnes_b8 N sh k8 a0 x1 x2 m = some res) : W p l e (jrm 8 0 0) s mi args below meth c H locs 0 0 (MQ below (jQc D cy B sz sh res.2 (some (jI res.1)) (jIn res.1)) args s 0 0 (jA B sz)) (F0 mi 8 ls []) := by
  unfold f_X12_lateOnes_b8 at hyp
  refine jr_iload_n (pc := 8) C L dX12_lateOnes_8 rfl rfl ?_
  refine jr_iconst (pc := 9) C dX12_lateOnes_9 ?_
  refine jr_icmp_ge (pc := 10) C h_x2 (show jIn 4 from ⟨by decide, by decide⟩) (tgt := 46) dX12_lateOnes_10 (by decide) (fun c1 => ?_) (fun c1 => ?_)
  · have hyp := (if_pos c1).symm.trans hyp
    refine jr_iload_n (pc := 13) C L dX12_lateOnes_13 rfl rfl ?_
    refine jr_aload_n (pc := 14) C L dX12_lateOnes_14 rfl rfl ?_
    obtain ⟨v2, hv2, hyp⟩ := jbind hyp
    refine jr_getR (pc := 15) C S lf_X12_25 rfl hv2 dX12_lateOnes_15 ?_
    refine jr_iload_n (pc := 18) C L dX12_lateOnes_18 rfl rfl ?_
    obtain ⟨v3, hv3, hyp⟩ := jbind hyp
    have iv3 := jra_in S hv3
    refine jr_ial (pc := 19) C S h_x2 hv3 dX12_lateOnes_19 ?_
    refine jr_if_le (pc := 20) C iv3 (tgt := 37) dX12_lateOnes_20 (by decide) (fun c4 => ?_) (fun c4 => ?_)
    · have hyp := (if_pos c4).symm.trans hyp
      refine jr_aload_n (pc := 23) C L dX12_lateOnes_23 rfl rfl ?_
      refine jr_iload_n (pc := 24) C L dX12_lateOnes_24 rfl rfl ?_
      obtain ⟨u5, hu5, hyp⟩ := jbind hyp
      obtain ⟨q6, hq6, hyp⟩ := jbind hyp
      refine jr_callV_I (pc := 25) C S L (As := [jI x2]) (rest := [jI x1]) (c_X12_doneOf (m0 := m) h_x2 hq6) mv_X12_doneOf ml_X12_273 rfl (jck_spec hu5) (by decide) rfl rfl rfl (Nat.le_of_ble_eq_true rfl) ⟨Nat.le_refl 0, Nat.le_refl 0⟩ dX12_lateOnes_25 (fun p7 H locs S => ?_)
      refine jr_if_ge (pc := 28) C p7 (tgt := 37) dX12_lateOnes_28 (by decide) (fun c8 => ?_) (fun c8 => ?_)
      · have hyp := (if_pos c8).symm.trans hyp
        refine jr_iconst (pc := 31) C dX12_lateOnes_31 ?_
        refine jr_iload_n (pc := 32) C L dX12_lateOnes_32 rfl rfl ?_
        refine jr_ishl (pc := 33) C dX12_lateOnes_33 ?_
        refine jr_goto (pc := 34) C (tgt := 38) dX12_lateOnes_34 (by decide) ?_
        exact t_X12_lateOnes_b38 C  K8 h_x2 h_x1 (jIn_shl _ _) S (L.sub (jsub_s (jsub_n (jsub_s jsub_0)))) hyp
      · have hyp := (if_neg c8).symm.trans hyp
        exact t_X12_lateOnes_b37 C  K8 h_x2 h_x1 S (L.sub (jsub_s (jsub_n (jsub_s jsub_0)))) hyp
    · have hyp := (if_neg c4).symm.trans hyp
      exact t_X12_lateOnes_b37 C  K8 h_x2 h_x1 S (L.sub (jsub_s (jsub_n (jsub_s jsub_0)))) hyp
  · have hyp := (if_neg c1).symm.trans hyp
    refine jr_iload_n (pc := 46) C L dX12_lateOnes_46 rfl rfl ?_
    cases hyp
    exact jr_iret C S h_x1 dX12_lateOnes_47
theorem t_X12_lateOnes_l8 {p : Program} {l : Launch} {e : Env} {s : State} {mi : MethodId} {args : Array Value} {below : List Frame} {meth : Method} {c : Code} {D : va_G} {cy : Nat → ClassId} {B sz : Nat} {sh : jm_S} {res : (Int × jm_M)} {N : Nat} (C : jCx p s mi args meth c cX12_lateOnes 3 RX12 (some .int) D cy) : ∀ (n : Nat) (a0 : Nat) (x1 : Int) (x2 : Int), jIn x1 → jIn x2 → ∀ (m : jm_M) (H : Heap) (locs : List Loc) (ls : Array Slot), jHs D cy B sz sh (jA B sz) s.heap H locs m → jL ls [some (jR B a0), some (jI x1), some (jI x2)] → f_X12_lateOnes_l8 N sh n a0 x1 x2 m = some res → W p l e (jrm 8 0 0) s mi args below meth c H locs 0 0 (MQ below (jQc D cy B sz sh res.2 (some (jI res.1)) (jIn res.1)) args s 0 0 (jA B sz)) (F0 mi 8 ls []) := by
  intro n
  induction n with
  | zero => intro a0 x1 x2 h_x1 h_x2 m H locs ls S L hyp; cases hyp
  | succ n ih => intro a0 x1 x2 h_x1 h_x2 m H locs ls S L hyp; exact t_X12_lateOnes_b8 (N := N) C  ih h_x1 h_x2 S L hyp
set_option maxHeartbeats 4000000 in
set_option maxRecDepth 100000 in
theorem t_X12_lateOnes_e {p : Program} {l : Launch} {e : Env} {s : State} {mi : MethodId} {args : Array Value} {below : List Frame} {meth : Method} {c : Code} {D : va_G} {cy : Nat → ClassId} {B sz : Nat} {sh : jm_S} {res : (Int × jm_M)} {N : Nat} (C : jCx p s mi args meth c cX12_lateOnes 3 RX12 (some .int) D cy) {a0 : Nat} {m : jm_M} {H : Heap} {locs : List Loc} {ls : Array Slot} (S : jHs D cy B sz sh (jA B sz) s.heap H locs m) (L : jL ls [some (jR B a0), none, none]) (hyp : f_X12_lateOnes N sh a0 m = some res) : W p l e (jrm 8 0 0) s mi args below meth c H locs 0 0 (MQ below (jQc D cy B sz sh res.2 (some (jI res.1)) (jIn res.1)) args s 0 0 (jA B sz)) (F0 mi 0 ls []) := by
  unfold f_X12_lateOnes at hyp
  refine jr_aload_n (pc := 0) C L dX12_lateOnes_0 rfl rfl ?_
  obtain ⟨u9, hu9, hyp⟩ := jbind hyp
  obtain ⟨q10, hq10, hyp⟩ := jbind hyp
  refine jr_callV_N (pc := 1) C S L (As := []) (rest := []) (c_X12_layWorsts  hq10) mv_X12_layWorsts ml_X12_270 rfl (jck_spec hu9) (by decide) rfl rfl rfl (Nat.le_of_ble_eq_true rfl) ⟨Nat.le_refl 0, Nat.le_refl 0⟩ dX12_lateOnes_1 (fun p11 H locs S => ?_)
  refine jr_iconst (pc := 4) C dX12_lateOnes_4 ?_
  refine jr_istore_n (pc := 5) C L dX12_lateOnes_5 rfl (Nat.le_of_ble_eq_true rfl) (fun ls L => ?_)
  have L : jL ls [some (jR B a0), some (jI 0), none] := L
  refine jr_iconst (pc := 6) C dX12_lateOnes_6 ?_
  refine jr_istore_n (pc := 7) C L dX12_lateOnes_7 rfl (Nat.le_of_ble_eq_true rfl) (fun ls L => ?_)
  have L : jL ls [some (jR B a0), some (jI 0), some (jI 0)] := L
  exact t_X12_lateOnes_l8 C   N a0 0 0 (show jIn 0 from ⟨by decide, by decide⟩) (show jIn 0 from ⟨by decide, by decide⟩) q10 _ _ _ S (L.sub (jsub_s (jsub_s (jsub_s jsub_0)))) hyp
theorem c_X12_lateOnes {l : Launch} {D : va_G} {cy : Nat → ClassId} {B sz : Nat} {sh : jm_S} {res : (Int × jm_M)} {N : Nat} {m : jm_M} {a0 : Nat} (hyp : f_X12_lateOnes N sh a0 m = some res) : jCt l D cy B sz sh 8 yX12_lateOnes cX12_lateOnes 3 (some .int) [jR B a0] m (some (jI res.1)) res.2 (jIn res.1) :=
  jc_of (by decide) (fun v h => by rw [List.mem_singleton.mp h]; first | rfl | exact jR_cat _ _) (Nat.le_of_ble_eq_true rfl) (fun C S L => t_X12_lateOnes_e C   S L hyp)
set_option maxHeartbeats 4000000 in
set_option maxRecDepth 100000 in
theorem t_X12_late_b74 {p : Program} {l : Launch} {e : Env} {s : State} {mi : MethodId} {args : Array Value} {below : List Frame} {meth : Method} {c : Code} {D : va_G} {cy : Nat → ClassId} {B sz : Nat} {sh : jm_S} {res : (Int × jm_M)} {N : Nat} (C : jCx p s mi args meth c cX12_late 5 RX12 (some .int) D cy) {a0 : Nat} {x2 : Int} (h_x2 : jIn x2) {x3 : Int} (h_x3 : jIn x3) {m : jm_M} {H : Heap} {locs : List Loc} {ls : Array Slot} (S : jHs D cy B sz sh (jA B sz) s.heap H locs m) (L : jL ls [some (jR B a0), none, some (jI x2), some (jI x3), none]) (hyp : f_X12_late_b74 N sh a0 x2 x3 m = some res) : W p l e (jrm 9 0 0) s mi args below meth c H locs 0 0 (MQ below (jQc D cy B sz sh res.2 (some (jI res.1)) (jIn res.1)) args s 0 0 (jA B sz)) (F0 mi 74 ls []) := by
  unfold f_X12_late_b74 at hyp
  refine jr_aload_n (pc := 74) C L dX12_late_74 rfl rfl ?_
  obtain ⟨v1, hv1, hyp⟩ := jbind hyp
  refine jr_getR (pc := 75) C S lf_X12_7 rfl hv1 dX12_late_75 ?_
  refine jr_iconst (pc := 78) C dX12_late_78 ?_
  refine jr_iload_n (pc := 79) C L dX12_late_79 rfl rfl ?_
  obtain ⟨m2, hm2, hyp⟩ := jbind hyp
  refine jr_ias (pc := 80) C S (show jIn 2 from ⟨by decide, by decide⟩) h_x2 hm2 dX12_late_80 (fun H locs S => ?_)
  refine jr_iload_n (pc := 81) C L dX12_late_81 rfl rfl ?_
  cases hyp
  exact jr_iret C S h_x3 dX12_late_82
set_option maxHeartbeats 4000000 in
set_option maxRecDepth 100000 in
theorem t_X12_late_b67 {p : Program} {l : Launch} {e : Env} {s : State} {mi : MethodId} {args : Array Value} {below : List Frame} {meth : Method} {c : Code} {D : va_G} {cy : Nat → ClassId} {B sz : Nat} {sh : jm_S} {res : (Int × jm_M)} {N : Nat} {k35 : Nat → Int → Int → Int → jm_M → Option (Int × jm_M)} (C : jCx p s mi args meth c cX12_late 5 RX12 (some .int) D cy) (K35 : ∀ (a0 : Nat) (x2 : Int) (x3 : Int) (x4 : Int) , jIn x2 → jIn x3 → jIn x4 → ∀ (m : jm_M) (H : Heap) (locs : List Loc) (ls : Array Slot), jHs D cy B sz sh (jA B sz) s.heap H locs m → jL ls [some (jR B a0), none, some (jI x2), some (jI x3), some (jI x4)] → k35 a0 x2 x3 x4 m = some res → W p l e (jrm 9 0 0) s mi args below meth c H locs 0 0 (MQ below (jQc D cy B sz sh res.2 (some (jI res.1)) (jIn res.1)) args s 0 0 (jA B sz)) (F0 mi 35 ls [])) {a0 : Nat} {x2 : Int} (h_x2 : jIn x2) {x4 : Int} (h_x4 : jIn x4) {s0 : Int} (h_s0 : jIn s0) {m : jm_M} {H : Heap} {locs : List Loc} {ls : Array Slot} (S : jHs D cy B sz sh (jA B sz) s.heap H locs m) (L : jL ls [some (jR B a0), none, some (jI x2), none, some (jI x4)]) (hyp : f_X12_late_b67 N sh k35 a0 x2 x4 s0 m = some res) : W p l e (jrm 9 0 0) s mi args below meth c H locs 0 0 (MQ below (jQc D cy B sz sh res.2 (some (jI res.1)) (jIn res.1)) args s 0 0 (jA B sz)) (F0 mi 67 ls [jI s0]) := by
  unfold f_X12_late_b67 at hyp
  refine jr_istore_n (pc := 67) C L dX12_late_67 rfl (Nat.le_of_ble_eq_true rfl) (fun ls L => ?_)
  have L : jL ls [some (jR B a0), none, some (jI x2), some (jI s0), some (jI x4)] := L
  refine jr_iinc (pc := 68) C L dX12_late_68 rfl (Nat.le_of_ble_eq_true rfl) (fun ls L => ?_)
  have L : jL ls [some (jR B a0), none, some (jI x2), some (jI s0), some (jI (jw (x4 + (-1))))] := L
  refine jr_goto (pc := 71) C (tgt := 35) dX12_late_71 (by decide) ?_
  exact K35 a0 x2 s0 (jw (x4 + (-1))) h_x2 h_s0 (jIn_w _) m _ _ _ S (L.sub (jsub_s (jsub_n (jsub_s (jsub_s (jsub_s jsub_0)))))) hyp
set_option maxHeartbeats 4000000 in
set_option maxRecDepth 100000 in
theorem t_X12_late_b35 {p : Program} {l : Launch} {e : Env} {s : State} {mi : MethodId} {args : Array Value} {below : List Frame} {meth : Method} {c : Code} {D : va_G} {cy : Nat → ClassId} {B sz : Nat} {sh : jm_S} {res : (Int × jm_M)} {N : Nat} {k35 : Nat → Int → Int → Int → jm_M → Option (Int × jm_M)} (C : jCx p s mi args meth c cX12_late 5 RX12 (some .int) D cy) (K35 : ∀ (a0 : Nat) (x2 : Int) (x3 : Int) (x4 : Int) , jIn x2 → jIn x3 → jIn x4 → ∀ (m : jm_M) (H : Heap) (locs : List Loc) (ls : Array Slot), jHs D cy B sz sh (jA B sz) s.heap H locs m → jL ls [some (jR B a0), none, some (jI x2), some (jI x3), some (jI x4)] → k35 a0 x2 x3 x4 m = some res → W p l e (jrm 9 0 0) s mi args below meth c H locs 0 0 (MQ below (jQc D cy B sz sh res.2 (some (jI res.1)) (jIn res.1)) args s 0 0 (jA B sz)) (F0 mi 35 ls [])) {a0 : Nat} {x2 : Int} (h_x2 : jIn x2) {x3 : Int} (h_x3 : jIn x3) {x4 : Int} (h_x4 : jIn x4) {m : jm_M} {H : Heap} {locs : List Loc} {ls : Array Slot} (S : jHs D cy B sz sh (jA B sz) s.heap H locs m) (L : jL ls [some (jR B a0), none, some (jI x2), some (jI x3), some (jI x4)]) (hyp : f_X12_late_b35 N sh k35 a0 x2 x3 x4 m = some res) : W p l e (jrm 9 0 0) s mi args below meth c H locs 0 0 (MQ below (jQc D cy B sz sh res.2 (some (jI res.1)) (jIn res.1)) args s 0 0 (jA B sz)) (F0 mi 35 ls []) := by
  unfold f_X12_late_b35 at hyp
  refine jr_iload (pc := 35) C L dX12_late_35 rfl ?_
  refine jr_iconst (pc := 37) C dX12_late_37 ?_
  refine jr_icmp_le (pc := 38) C h_x4 (show jIn 1 from ⟨by decide, by decide⟩) (tgt := 74) dX12_late_38 (by decide) (fun c3 => ?_) (fun c3 => ?_)
  · have hyp := (if_pos c3).symm.trans hyp
    refine jr_iload_n (pc := 41) C L dX12_late_41 rfl rfl ?_
    refine jr_if_ge (pc := 42) C h_x3 (tgt := 74) dX12_late_42 (by decide) (fun c4 => ?_) (fun c4 => ?_)
    · have hyp := (if_pos c4).symm.trans hyp
      refine jr_aload_n (pc := 45) C L dX12_late_45 rfl rfl ?_
      obtain ⟨v5, hv5, hyp⟩ := jbind hyp
      refine jr_getR (pc := 46) C S lf_X12_7 rfl hv5 dX12_late_46 ?_
      refine jr_iconst (pc := 49) C dX12_late_49 ?_
      refine jr_iload (pc := 50) C L dX12_late_50 rfl ?_
      obtain ⟨m6, hm6, hyp⟩ := jbind hyp
      refine jr_ias (pc := 52) C S (show jIn 2 from ⟨by decide, by decide⟩) h_x4 hm6 dX12_late_52 (fun H locs S => ?_)
      refine jr_aload_n (pc := 53) C L dX12_late_53 rfl rfl ?_
      obtain ⟨u7, hu7, hyp⟩ := jbind hyp
      obtain ⟨q8, hq8, hyp⟩ := jbind hyp
      refine jr_callV_I (pc := 54) C S L (As := []) (rest := []) (c_X12_lateOnes  hq8) mv_X12_lateOnes ml_X12_276 rfl (jck_spec hu7) (by decide) rfl rfl rfl (Nat.le_of_ble_eq_true rfl) ⟨Nat.le_refl 0, Nat.le_refl 0⟩ dX12_late_54 (fun p9 H locs S => ?_)
      refine jr_if_ne (pc := 57) C p9 (tgt := 65) dX12_late_57 (by decide) (fun c10 => ?_) (fun c10 => ?_)
      · have hyp := (if_pos c10).symm.trans hyp
        refine jr_iload (pc := 60) C L dX12_late_60 rfl ?_
        refine jr_goto (pc := 62) C (tgt := 67) dX12_late_62 (by decide) ?_
        exact t_X12_late_b67 C  K35 h_x2 h_x4 h_x4 S (L.sub (jsub_s (jsub_n (jsub_s (jsub_n (jsub_s jsub_0)))))) hyp
      · have hyp := (if_neg c10).symm.trans hyp
        refine jr_bipush (pc := 65) C dX12_late_65 (by decide) ?_
        exact t_X12_late_b67 C  K35 h_x2 h_x4 (show jIn (-6) from ⟨by decide, by decide⟩) S (L.sub (jsub_s (jsub_n (jsub_s (jsub_n (jsub_s jsub_0)))))) hyp
    · have hyp := (if_neg c4).symm.trans hyp
      exact t_X12_late_b74 C   h_x2 h_x3 S (L.sub (jsub_s (jsub_n (jsub_s (jsub_s (jsub_n jsub_0)))))) hyp
  · have hyp := (if_neg c3).symm.trans hyp
    exact t_X12_late_b74 C   h_x2 h_x3 S (L.sub (jsub_s (jsub_n (jsub_s (jsub_s (jsub_n jsub_0)))))) hyp
theorem t_X12_late_l35 {p : Program} {l : Launch} {e : Env} {s : State} {mi : MethodId} {args : Array Value} {below : List Frame} {meth : Method} {c : Code} {D : va_G} {cy : Nat → ClassId} {B sz : Nat} {sh : jm_S} {res : (Int × jm_M)} {N : Nat} (C : jCx p s mi args meth c cX12_late 5 RX12 (some .int) D cy) : ∀ (n : Nat) (a0 : Nat) (x2 : Int) (x3 : Int) (x4 : Int), jIn x2 → jIn x3 → jIn x4 → ∀ (m : jm_M) (H : Heap) (locs : List Loc) (ls : Array Slot), jHs D cy B sz sh (jA B sz) s.heap H locs m → jL ls [some (jR B a0), none, some (jI x2), some (jI x3), some (jI x4)] → f_X12_late_l35 N sh n a0 x2 x3 x4 m = some res → W p l e (jrm 9 0 0) s mi args below meth c H locs 0 0 (MQ below (jQc D cy B sz sh res.2 (some (jI res.1)) (jIn res.1)) args s 0 0 (jA B sz)) (F0 mi 35 ls []) := by
  intro n
  induction n with
  | zero => intro a0 x2 x3 x4 h_x2 h_x3 h_x4 m H locs ls S L hyp; cases hyp
  | succ n ih => intro a0 x2 x3 x4 h_x2 h_x3 h_x4 m H locs ls S L hyp; exact t_X12_late_b35 (N := N) C  ih h_x2 h_x3 h_x4 S L hyp
set_option maxHeartbeats 4000000 in
set_option maxRecDepth 100000 in
theorem t_X12_late_e {p : Program} {l : Launch} {e : Env} {s : State} {mi : MethodId} {args : Array Value} {below : List Frame} {meth : Method} {c : Code} {D : va_G} {cy : Nat → ClassId} {B sz : Nat} {sh : jm_S} {res : (Int × jm_M)} {N : Nat} (C : jCx p s mi args meth c cX12_late 5 RX12 (some .int) D cy) {a0 : Nat} {x1 : Int} (h_x1 : jIn x1) {m : jm_M} {H : Heap} {locs : List Loc} {ls : Array Slot} (S : jHs D cy B sz sh (jA B sz) s.heap H locs m) (L : jL ls [some (jR B a0), some (jI x1), none, none, none]) (hyp : f_X12_late N sh a0 x1 m = some res) : W p l e (jrm 9 0 0) s mi args below meth c H locs 0 0 (MQ below (jQc D cy B sz sh res.2 (some (jI res.1)) (jIn res.1)) args s 0 0 (jA B sz)) (F0 mi 0 ls []) := by
  unfold f_X12_late at hyp
  refine jr_iload_n (pc := 0) C L dX12_late_0 rfl rfl ?_
  refine jr_iconst (pc := 1) C dX12_late_1 ?_
  refine jr_iconst (pc := 2) C dX12_late_2 ?_
  obtain ⟨q11, hq11, hyp⟩ := jbind hyp
  refine jr_callS_I (pc := 3) C S L (As := [jI x1, jI 0, jI 1]) (rest := []) (c_X12_in (m0 := m) h_x1 (show jIn 0 from ⟨by decide, by decide⟩) (show jIn 1 from ⟨by decide, by decide⟩) hq11) ms_X12_in ml_X12_80 (by decide) rfl rfl rfl (Nat.le_of_ble_eq_true rfl) ⟨Nat.le_refl 0, Nat.le_refl 0⟩ dX12_late_3 (fun p12 H locs S => ?_)
  refine jr_if_ne (pc := 6) C p12 (tgt := 12) dX12_late_6 (by decide) (fun c13 => ?_) (fun c13 => ?_)
  · have hyp := (if_pos c13).symm.trans hyp
    refine jr_bipush (pc := 9) C dX12_late_9 (by decide) ?_
    cases hyp
    exact jr_iret C S (show jIn (-2) from ⟨by decide, by decide⟩) dX12_late_11
  · have hyp := (if_neg c13).symm.trans hyp
    refine jr_iload_n (pc := 12) C L dX12_late_12 rfl rfl ?_
    refine jr_if_ne (pc := 13) C h_x1 (tgt := 21) dX12_late_13 (by decide) (fun c14 => ?_) (fun c14 => ?_)
    · have hyp := (if_pos c14).symm.trans hyp
      refine jr_aload_n (pc := 16) C L dX12_late_16 rfl rfl ?_
      obtain ⟨u15, hu15, hyp⟩ := jbind hyp
      obtain ⟨q16, hq16, hyp⟩ := jbind hyp
      refine jr_callV_I (pc := 17) C S L (As := []) (rest := []) (c_X12_lateOnes  hq16) mv_X12_lateOnes ml_X12_276 rfl (jck_spec hu15) (by decide) rfl rfl rfl (Nat.le_of_ble_eq_true rfl) ⟨Nat.le_refl 0, Nat.le_refl 0⟩ dX12_late_17 (fun p17 H locs S => ?_)
      cases hyp
      exact jr_iret C S p17 dX12_late_20
    · have hyp := (if_neg c14).symm.trans hyp
      refine jr_aload_n (pc := 21) C L dX12_late_21 rfl rfl ?_
      obtain ⟨v18, hv18, hyp⟩ := jbind hyp
      refine jr_getR (pc := 22) C S lf_X12_7 rfl hv18 dX12_late_22 ?_
      refine jr_iconst (pc := 25) C dX12_late_25 ?_
      obtain ⟨v19, hv19, hyp⟩ := jbind hyp
      have iv19 := jra_in S hv19
      refine jr_ial (pc := 26) C S (show jIn 2 from ⟨by decide, by decide⟩) hv19 dX12_late_26 ?_
      refine jr_istore_n (pc := 27) C L dX12_late_27 rfl (Nat.le_of_ble_eq_true rfl) (fun ls L => ?_)
      have L : jL ls [some (jR B a0), some (jI x1), some (jI v19), none, none] := L
      refine jr_bipush (pc := 28) C dX12_late_28 (by decide) ?_
      refine jr_istore_n (pc := 30) C L dX12_late_30 rfl (Nat.le_of_ble_eq_true rfl) (fun ls L => ?_)
      have L : jL ls [some (jR B a0), some (jI x1), some (jI v19), some (jI (-6)), none] := L
      refine jr_bipush (pc := 31) C dX12_late_31 (by decide) ?_
      refine jr_istore (pc := 33) C L dX12_late_33 (Nat.le_of_ble_eq_true rfl) (fun ls L => ?_)
      have L : jL ls [some (jR B a0), some (jI x1), some (jI v19), some (jI (-6)), some (jI 20)] := L
      exact t_X12_late_l35 C   N a0 v19 (-6) 20 iv19 (show jIn (-6) from ⟨by decide, by decide⟩) (show jIn 20 from ⟨by decide, by decide⟩) m _ _ _ S (L.sub (jsub_s (jsub_n (jsub_s (jsub_s (jsub_s jsub_0)))))) hyp
theorem c_X12_late {l : Launch} {D : va_G} {cy : Nat → ClassId} {B sz : Nat} {sh : jm_S} {res : (Int × jm_M)} {N : Nat} {m : jm_M} {a0 : Nat} {x1 : Int} (h_x1 : jIn x1) (hyp : f_X12_late N sh a0 x1 m = some res) : jCt l D cy B sz sh 9 yX12_late cX12_late 5 (some .int) [jR B a0, jI x1] m (some (jI res.1)) res.2 (jIn res.1) :=
  jc_of (by decide) (fun v h => by simp only [List.mem_cons, List.not_mem_nil, or_false] at h; rcases h with rfl | rfl <;> first | rfl | exact jR_cat _ _) (Nat.le_of_ble_eq_true rfl) (fun C S L => t_X12_late_e C  h_x1 S L hyp)
set_option maxHeartbeats 4000000 in
set_option maxRecDepth 100000 in
theorem t_X12_image_b124 {p : Program} {l : Launch} {e : Env} {s : State} {mi : MethodId} {args : Array Value} {below : List Frame} {meth : Method} {c : Code} {D : va_G} {cy : Nat → ClassId} {B sz : Nat} {sh : jm_S} {res : (Int × jm_M)} {N : Nat} {k124 : Nat → Int → Int → Int → jm_M → Option (Int × jm_M)} (C : jCx p s mi args meth c cX12_image 4 RX12 (some .int) D cy) (K124 : ∀ (a0 : Nat) (x1 : Int) (x2 : Int) (x3 : Int) , jIn x1 → jIn x2 → jIn x3 → ∀ (m : jm_M) (H : Heap) (locs : List Loc) (ls : Array Slot), jHs D cy B sz sh (jA B sz) s.heap H locs m → jL ls [some (jR B a0), some (jI x1), some (jI x2), some (jI x3)] → k124 a0 x1 x2 x3 m = some res → W p l e (jrm 1 0 0) s mi args below meth c H locs 0 0 (MQ below (jQc D cy B sz sh res.2 (some (jI res.1)) (jIn res.1)) args s 0 0 (jA B sz)) (F0 mi 124 ls [])) {a0 : Nat} {x1 : Int} (h_x1 : jIn x1) {x2 : Int} (h_x2 : jIn x2) {x3 : Int} (h_x3 : jIn x3) {m : jm_M} {H : Heap} {locs : List Loc} {ls : Array Slot} (S : jHs D cy B sz sh (jA B sz) s.heap H locs m) (L : jL ls [some (jR B a0), some (jI x1), some (jI x2), some (jI x3)]) (hyp : f_X12_image_b124 N sh k124 a0 x1 x2 x3 m = some res) : W p l e (jrm 1 0 0) s mi args below meth c H locs 0 0 (MQ below (jQc D cy B sz sh res.2 (some (jI res.1)) (jIn res.1)) args s 0 0 (jA B sz)) (F0 mi 124 ls []) := by
  unfold f_X12_image_b124 at hyp
  refine jr_iload_n (pc := 124) C L dX12_image_124 rfl rfl ?_
  refine jr_bipush (pc := 125) C dX12_image_125 (by decide) ?_
  refine jr_icmp_ge (pc := 127) C h_x3 (show jIn 120 from ⟨by decide, by decide⟩) (tgt := 153) dX12_image_127 (by decide) (fun c1 => ?_) (fun c1 => ?_)
  · have hyp := (if_pos c1).symm.trans hyp
    refine jr_aload_n (pc := 130) C L dX12_image_130 rfl rfl ?_
    obtain ⟨v2, hv2, hyp⟩ := jbind hyp
    refine jr_getR (pc := 131) C S lf_X12_73 rfl hv2 dX12_image_131 ?_
    refine jr_iload_n (pc := 134) C L dX12_image_134 rfl rfl ?_
    refine jr_bipush (pc := 135) C dX12_image_135 (by decide) ?_
    refine jr_iadd (pc := 137) C dX12_image_137 ?_
    refine jr_iload_n (pc := 138) C L dX12_image_138 rfl rfl ?_
    refine jr_iadd (pc := 139) C dX12_image_139 ?_
    refine jr_aload_n (pc := 140) C L dX12_image_140 rfl rfl ?_
    obtain ⟨v3, hv3, hyp⟩ := jbind hyp
    refine jr_getR (pc := 141) C S lf_X12_19 rfl hv3 dX12_image_141 ?_
    refine jr_iload_n (pc := 144) C L dX12_image_144 rfl rfl ?_
    obtain ⟨v4, hv4, hyp⟩ := jbind hyp
    have iv4 := jra_in S hv4
    refine jr_ial (pc := 145) C S h_x3 hv4 dX12_image_145 ?_
    obtain ⟨m5, hm5, hyp⟩ := jbind hyp
    refine jr_ias (pc := 146) C S (jIn_w _) iv4 hm5 dX12_image_146 (fun H locs S => ?_)
    refine jr_iinc (pc := 147) C L dX12_image_147 rfl (Nat.le_of_ble_eq_true rfl) (fun ls L => ?_)
    have L : jL ls [some (jR B a0), some (jI x1), some (jI x2), some (jI (jw (x3 + 1)))] := L
    refine jr_goto (pc := 150) C (tgt := 124) dX12_image_150 (by decide) ?_
    exact K124 a0 x1 x2 (jw (x3 + 1)) h_x1 h_x2 (jIn_w _) m5 _ _ _ S (L.sub (jsub_s (jsub_s (jsub_s (jsub_s jsub_0))))) hyp
  · have hyp := (if_neg c1).symm.trans hyp
    refine jr_aload_n (pc := 153) C L dX12_image_153 rfl rfl ?_
    obtain ⟨v6, hv6, hyp⟩ := jbind hyp
    refine jr_getR (pc := 154) C S lf_X12_76 rfl hv6 dX12_image_154 ?_
    refine jr_iload_n (pc := 157) C L dX12_image_157 rfl rfl ?_
    refine jr_iconst (pc := 158) C dX12_image_158 ?_
    obtain ⟨z8, hz8, hyp⟩ := jbind hyp
    obtain ⟨m7, hm7, hyp⟩ := jbind hyp
    refine jr_zas (pc := 159) C S h_x1 hz8 hm7 dX12_image_159 (fun H locs S => ?_)
    refine jr_iconst (pc := 160) C dX12_image_160 ?_
    cases hyp
    exact jr_iret C S (show jIn 1 from ⟨by decide, by decide⟩) dX12_image_161
theorem t_X12_image_l124 {p : Program} {l : Launch} {e : Env} {s : State} {mi : MethodId} {args : Array Value} {below : List Frame} {meth : Method} {c : Code} {D : va_G} {cy : Nat → ClassId} {B sz : Nat} {sh : jm_S} {res : (Int × jm_M)} {N : Nat} (C : jCx p s mi args meth c cX12_image 4 RX12 (some .int) D cy) : ∀ (n : Nat) (a0 : Nat) (x1 : Int) (x2 : Int) (x3 : Int), jIn x1 → jIn x2 → jIn x3 → ∀ (m : jm_M) (H : Heap) (locs : List Loc) (ls : Array Slot), jHs D cy B sz sh (jA B sz) s.heap H locs m → jL ls [some (jR B a0), some (jI x1), some (jI x2), some (jI x3)] → f_X12_image_l124 N sh n a0 x1 x2 x3 m = some res → W p l e (jrm 1 0 0) s mi args below meth c H locs 0 0 (MQ below (jQc D cy B sz sh res.2 (some (jI res.1)) (jIn res.1)) args s 0 0 (jA B sz)) (F0 mi 124 ls []) := by
  intro n
  induction n with
  | zero => intro a0 x1 x2 x3 h_x1 h_x2 h_x3 m H locs ls S L hyp; cases hyp
  | succ n ih => intro a0 x1 x2 x3 h_x1 h_x2 h_x3 m H locs ls S L hyp; exact t_X12_image_b124 (N := N) C  ih h_x1 h_x2 h_x3 S L hyp
set_option maxHeartbeats 4000000 in
set_option maxRecDepth 100000 in
theorem t_X12_image_b93 {p : Program} {l : Launch} {e : Env} {s : State} {mi : MethodId} {args : Array Value} {below : List Frame} {meth : Method} {c : Code} {D : va_G} {cy : Nat → ClassId} {B sz : Nat} {sh : jm_S} {res : (Int × jm_M)} {N : Nat} {k93 : Nat → Int → Int → Int → jm_M → Option (Int × jm_M)} (C : jCx p s mi args meth c cX12_image 4 RX12 (some .int) D cy) (K93 : ∀ (a0 : Nat) (x1 : Int) (x2 : Int) (x3 : Int) , jIn x1 → jIn x2 → jIn x3 → ∀ (m : jm_M) (H : Heap) (locs : List Loc) (ls : Array Slot), jHs D cy B sz sh (jA B sz) s.heap H locs m → jL ls [some (jR B a0), some (jI x1), some (jI x2), some (jI x3)] → k93 a0 x1 x2 x3 m = some res → W p l e (jrm 1 0 0) s mi args below meth c H locs 0 0 (MQ below (jQc D cy B sz sh res.2 (some (jI res.1)) (jIn res.1)) args s 0 0 (jA B sz)) (F0 mi 93 ls [])) {a0 : Nat} {x1 : Int} (h_x1 : jIn x1) {x2 : Int} (h_x2 : jIn x2) {x3 : Int} (h_x3 : jIn x3) {m : jm_M} {H : Heap} {locs : List Loc} {ls : Array Slot} (S : jHs D cy B sz sh (jA B sz) s.heap H locs m) (L : jL ls [some (jR B a0), some (jI x1), some (jI x2), some (jI x3)]) (hyp : f_X12_image_b93 N sh k93 a0 x1 x2 x3 m = some res) : W p l e (jrm 1 0 0) s mi args below meth c H locs 0 0 (MQ below (jQc D cy B sz sh res.2 (some (jI res.1)) (jIn res.1)) args s 0 0 (jA B sz)) (F0 mi 93 ls []) := by
  unfold f_X12_image_b93 at hyp
  refine jr_iload_n (pc := 93) C L dX12_image_93 rfl rfl ?_
  refine jr_bipush (pc := 94) C dX12_image_94 (by decide) ?_
  refine jr_icmp_ge (pc := 96) C h_x3 (show jIn 20 from ⟨by decide, by decide⟩) (tgt := 122) dX12_image_96 (by decide) (fun c9 => ?_) (fun c9 => ?_)
  · have hyp := (if_pos c9).symm.trans hyp
    refine jr_aload_n (pc := 99) C L dX12_image_99 rfl rfl ?_
    obtain ⟨v10, hv10, hyp⟩ := jbind hyp
    refine jr_getR (pc := 100) C S lf_X12_73 rfl hv10 dX12_image_100 ?_
    refine jr_iload_n (pc := 103) C L dX12_image_103 rfl rfl ?_
    refine jr_bipush (pc := 104) C dX12_image_104 (by decide) ?_
    refine jr_iadd (pc := 106) C dX12_image_106 ?_
    refine jr_iload_n (pc := 107) C L dX12_image_107 rfl rfl ?_
    refine jr_iadd (pc := 108) C dX12_image_108 ?_
    refine jr_aload_n (pc := 109) C L dX12_image_109 rfl rfl ?_
    obtain ⟨v11, hv11, hyp⟩ := jbind hyp
    refine jr_getR (pc := 110) C S lf_X12_28 rfl hv11 dX12_image_110 ?_
    refine jr_iload_n (pc := 113) C L dX12_image_113 rfl rfl ?_
    obtain ⟨v12, hv12, hyp⟩ := jbind hyp
    have iv12 := jra_in S hv12
    refine jr_ial (pc := 114) C S h_x3 hv12 dX12_image_114 ?_
    obtain ⟨m13, hm13, hyp⟩ := jbind hyp
    refine jr_ias (pc := 115) C S (jIn_w _) iv12 hm13 dX12_image_115 (fun H locs S => ?_)
    refine jr_iinc (pc := 116) C L dX12_image_116 rfl (Nat.le_of_ble_eq_true rfl) (fun ls L => ?_)
    have L : jL ls [some (jR B a0), some (jI x1), some (jI x2), some (jI (jw (x3 + 1)))] := L
    refine jr_goto (pc := 119) C (tgt := 93) dX12_image_119 (by decide) ?_
    exact K93 a0 x1 x2 (jw (x3 + 1)) h_x1 h_x2 (jIn_w _) m13 _ _ _ S (L.sub (jsub_s (jsub_s (jsub_s (jsub_s jsub_0))))) hyp
  · have hyp := (if_neg c9).symm.trans hyp
    refine jr_iconst (pc := 122) C dX12_image_122 ?_
    refine jr_istore_n (pc := 123) C L dX12_image_123 rfl (Nat.le_of_ble_eq_true rfl) (fun ls L => ?_)
    have L : jL ls [some (jR B a0), some (jI x1), some (jI x2), some (jI 0)] := L
    exact t_X12_image_l124 C   N a0 x1 x2 0 h_x1 h_x2 (show jIn 0 from ⟨by decide, by decide⟩) m _ _ _ S (L.sub (jsub_s (jsub_s (jsub_s (jsub_s jsub_0))))) hyp
theorem t_X12_image_l93 {p : Program} {l : Launch} {e : Env} {s : State} {mi : MethodId} {args : Array Value} {below : List Frame} {meth : Method} {c : Code} {D : va_G} {cy : Nat → ClassId} {B sz : Nat} {sh : jm_S} {res : (Int × jm_M)} {N : Nat} (C : jCx p s mi args meth c cX12_image 4 RX12 (some .int) D cy) : ∀ (n : Nat) (a0 : Nat) (x1 : Int) (x2 : Int) (x3 : Int), jIn x1 → jIn x2 → jIn x3 → ∀ (m : jm_M) (H : Heap) (locs : List Loc) (ls : Array Slot), jHs D cy B sz sh (jA B sz) s.heap H locs m → jL ls [some (jR B a0), some (jI x1), some (jI x2), some (jI x3)] → f_X12_image_l93 N sh n a0 x1 x2 x3 m = some res → W p l e (jrm 1 0 0) s mi args below meth c H locs 0 0 (MQ below (jQc D cy B sz sh res.2 (some (jI res.1)) (jIn res.1)) args s 0 0 (jA B sz)) (F0 mi 93 ls []) := by
  intro n
  induction n with
  | zero => intro a0 x1 x2 x3 h_x1 h_x2 h_x3 m H locs ls S L hyp; cases hyp
  | succ n ih => intro a0 x1 x2 x3 h_x1 h_x2 h_x3 m H locs ls S L hyp; exact t_X12_image_b93 (N := N) C  ih h_x1 h_x2 h_x3 S L hyp
set_option maxHeartbeats 4000000 in
set_option maxRecDepth 100000 in
theorem t_X12_image_b20 {p : Program} {l : Launch} {e : Env} {s : State} {mi : MethodId} {args : Array Value} {below : List Frame} {meth : Method} {c : Code} {D : va_G} {cy : Nat → ClassId} {B sz : Nat} {sh : jm_S} {res : (Int × jm_M)} {N : Nat} {k20 : Nat → Int → Int → Int → jm_M → Option (Int × jm_M)} (C : jCx p s mi args meth c cX12_image 4 RX12 (some .int) D cy) (K20 : ∀ (a0 : Nat) (x1 : Int) (x2 : Int) (x3 : Int) , jIn x1 → jIn x2 → jIn x3 → ∀ (m : jm_M) (H : Heap) (locs : List Loc) (ls : Array Slot), jHs D cy B sz sh (jA B sz) s.heap H locs m → jL ls [some (jR B a0), some (jI x1), some (jI x2), some (jI x3)] → k20 a0 x1 x2 x3 m = some res → W p l e (jrm 1 0 0) s mi args below meth c H locs 0 0 (MQ below (jQc D cy B sz sh res.2 (some (jI res.1)) (jIn res.1)) args s 0 0 (jA B sz)) (F0 mi 20 ls [])) {a0 : Nat} {x1 : Int} (h_x1 : jIn x1) {x2 : Int} (h_x2 : jIn x2) {x3 : Int} (h_x3 : jIn x3) {m : jm_M} {H : Heap} {locs : List Loc} {ls : Array Slot} (S : jHs D cy B sz sh (jA B sz) s.heap H locs m) (L : jL ls [some (jR B a0), some (jI x1), some (jI x2), some (jI x3)]) (hyp : f_X12_image_b20 N sh k20 a0 x1 x2 x3 m = some res) : W p l e (jrm 1 0 0) s mi args below meth c H locs 0 0 (MQ below (jQc D cy B sz sh res.2 (some (jI res.1)) (jIn res.1)) args s 0 0 (jA B sz)) (F0 mi 20 ls []) := by
  unfold f_X12_image_b20 at hyp
  refine jr_iload_n (pc := 20) C L dX12_image_20 rfl rfl ?_
  refine jr_iconst (pc := 21) C dX12_image_21 ?_
  refine jr_icmp_ge (pc := 22) C h_x3 (show jIn 4 from ⟨by decide, by decide⟩) (tgt := 78) dX12_image_22 (by decide) (fun c14 => ?_) (fun c14 => ?_)
  · have hyp := (if_pos c14).symm.trans hyp
    refine jr_aload_n (pc := 25) C L dX12_image_25 rfl rfl ?_
    obtain ⟨v15, hv15, hyp⟩ := jbind hyp
    refine jr_getR (pc := 26) C S lf_X12_73 rfl hv15 dX12_image_26 ?_
    refine jr_iload_n (pc := 29) C L dX12_image_29 rfl rfl ?_
    refine jr_iload_n (pc := 30) C L dX12_image_30 rfl rfl ?_
    refine jr_iadd (pc := 31) C dX12_image_31 ?_
    refine jr_aload_n (pc := 32) C L dX12_image_32 rfl rfl ?_
    obtain ⟨v16, hv16, hyp⟩ := jbind hyp
    refine jr_getR (pc := 33) C S lf_X12_7 rfl hv16 dX12_image_33 ?_
    refine jr_iload_n (pc := 36) C L dX12_image_36 rfl rfl ?_
    obtain ⟨v17, hv17, hyp⟩ := jbind hyp
    have iv17 := jra_in S hv17
    refine jr_ial (pc := 37) C S h_x3 hv17 dX12_image_37 ?_
    obtain ⟨m18, hm18, hyp⟩ := jbind hyp
    refine jr_ias (pc := 38) C S (jIn_w _) iv17 hm18 dX12_image_38 (fun H locs S => ?_)
    refine jr_aload_n (pc := 39) C L dX12_image_39 rfl rfl ?_
    obtain ⟨v19, hv19, hyp⟩ := jbind hyp
    refine jr_getR (pc := 40) C S lf_X12_73 rfl hv19 dX12_image_40 ?_
    refine jr_iload_n (pc := 43) C L dX12_image_43 rfl rfl ?_
    refine jr_iconst (pc := 44) C dX12_image_44 ?_
    refine jr_iadd (pc := 45) C dX12_image_45 ?_
    refine jr_iload_n (pc := 46) C L dX12_image_46 rfl rfl ?_
    refine jr_iadd (pc := 47) C dX12_image_47 ?_
    refine jr_aload_n (pc := 48) C L dX12_image_48 rfl rfl ?_
    obtain ⟨v20, hv20, hyp⟩ := jbind hyp
    refine jr_getR (pc := 49) C S lf_X12_16 rfl hv20 dX12_image_49 ?_
    refine jr_iload_n (pc := 52) C L dX12_image_52 rfl rfl ?_
    obtain ⟨v21, hv21, hyp⟩ := jbind hyp
    have iv21 := jra_in S hv21
    refine jr_ial (pc := 53) C S h_x3 hv21 dX12_image_53 ?_
    obtain ⟨m22, hm22, hyp⟩ := jbind hyp
    refine jr_ias (pc := 54) C S (jIn_w _) iv21 hm22 dX12_image_54 (fun H locs S => ?_)
    refine jr_aload_n (pc := 55) C L dX12_image_55 rfl rfl ?_
    obtain ⟨v23, hv23, hyp⟩ := jbind hyp
    refine jr_getR (pc := 56) C S lf_X12_73 rfl hv23 dX12_image_56 ?_
    refine jr_iload_n (pc := 59) C L dX12_image_59 rfl rfl ?_
    refine jr_bipush (pc := 60) C dX12_image_60 (by decide) ?_
    refine jr_iadd (pc := 62) C dX12_image_62 ?_
    refine jr_iload_n (pc := 63) C L dX12_image_63 rfl rfl ?_
    refine jr_iadd (pc := 64) C dX12_image_64 ?_
    refine jr_aload_n (pc := 65) C L dX12_image_65 rfl rfl ?_
    obtain ⟨v24, hv24, hyp⟩ := jbind hyp
    refine jr_getR (pc := 66) C S lf_X12_25 rfl hv24 dX12_image_66 ?_
    refine jr_iload_n (pc := 69) C L dX12_image_69 rfl rfl ?_
    obtain ⟨v25, hv25, hyp⟩ := jbind hyp
    have iv25 := jra_in S hv25
    refine jr_ial (pc := 70) C S h_x3 hv25 dX12_image_70 ?_
    obtain ⟨m26, hm26, hyp⟩ := jbind hyp
    refine jr_ias (pc := 71) C S (jIn_w _) iv25 hm26 dX12_image_71 (fun H locs S => ?_)
    refine jr_iinc (pc := 72) C L dX12_image_72 rfl (Nat.le_of_ble_eq_true rfl) (fun ls L => ?_)
    have L : jL ls [some (jR B a0), some (jI x1), some (jI x2), some (jI (jw (x3 + 1)))] := L
    refine jr_goto (pc := 75) C (tgt := 20) dX12_image_75 (by decide) ?_
    exact K20 a0 x1 x2 (jw (x3 + 1)) h_x1 h_x2 (jIn_w _) m26 _ _ _ S (L.sub (jsub_s (jsub_s (jsub_s (jsub_s jsub_0))))) hyp
  · have hyp := (if_neg c14).symm.trans hyp
    refine jr_aload_n (pc := 78) C L dX12_image_78 rfl rfl ?_
    obtain ⟨v27, hv27, hyp⟩ := jbind hyp
    refine jr_getR (pc := 79) C S lf_X12_73 rfl hv27 dX12_image_79 ?_
    refine jr_iload_n (pc := 82) C L dX12_image_82 rfl rfl ?_
    refine jr_bipush (pc := 83) C dX12_image_83 (by decide) ?_
    refine jr_iadd (pc := 85) C dX12_image_85 ?_
    refine jr_aload_n (pc := 86) C L dX12_image_86 rfl rfl ?_
    obtain ⟨v28, hv28, hyp⟩ := jbind hyp
    have iv28 := jrf_in S hv28
    refine jr_getI (pc := 87) C S lf_X12_210 rfl hv28 dX12_image_87 ?_
    obtain ⟨m29, hm29, hyp⟩ := jbind hyp
    refine jr_ias (pc := 90) C S (jIn_w _) iv28 hm29 dX12_image_90 (fun H locs S => ?_)
    refine jr_iconst (pc := 91) C dX12_image_91 ?_
    refine jr_istore_n (pc := 92) C L dX12_image_92 rfl (Nat.le_of_ble_eq_true rfl) (fun ls L => ?_)
    have L : jL ls [some (jR B a0), some (jI x1), some (jI x2), some (jI 0)] := L
    exact t_X12_image_l93 C   N a0 x1 x2 0 h_x1 h_x2 (show jIn 0 from ⟨by decide, by decide⟩) m29 _ _ _ S (L.sub (jsub_s (jsub_s (jsub_s (jsub_s jsub_0))))) hyp
theorem t_X12_image_l20 {p : Program} {l : Launch} {e : Env} {s : State} {mi : MethodId} {args : Array Value} {below : List Frame} {meth : Method} {c : Code} {D : va_G} {cy : Nat → ClassId} {B sz : Nat} {sh : jm_S} {res : (Int × jm_M)} {N : Nat} (C : jCx p s mi args meth c cX12_image 4 RX12 (some .int) D cy) : ∀ (n : Nat) (a0 : Nat) (x1 : Int) (x2 : Int) (x3 : Int), jIn x1 → jIn x2 → jIn x3 → ∀ (m : jm_M) (H : Heap) (locs : List Loc) (ls : Array Slot), jHs D cy B sz sh (jA B sz) s.heap H locs m → jL ls [some (jR B a0), some (jI x1), some (jI x2), some (jI x3)] → f_X12_image_l20 N sh n a0 x1 x2 x3 m = some res → W p l e (jrm 1 0 0) s mi args below meth c H locs 0 0 (MQ below (jQc D cy B sz sh res.2 (some (jI res.1)) (jIn res.1)) args s 0 0 (jA B sz)) (F0 mi 20 ls []) := by
  intro n
  induction n with
  | zero => intro a0 x1 x2 x3 h_x1 h_x2 h_x3 m H locs ls S L hyp; cases hyp
  | succ n ih => intro a0 x1 x2 x3 h_x1 h_x2 h_x3 m H locs ls S L hyp; exact t_X12_image_b20 (N := N) C  ih h_x1 h_x2 h_x3 S L hyp
set_option maxHeartbeats 4000000 in
set_option maxRecDepth 100000 in
theorem t_X12_image_e {p : Program} {l : Launch} {e : Env} {s : State} {mi : MethodId} {args : Array Value} {below : List Frame} {meth : Method} {c : Code} {D : va_G} {cy : Nat → ClassId} {B sz : Nat} {sh : jm_S} {res : (Int × jm_M)} {N : Nat} (C : jCx p s mi args meth c cX12_image 4 RX12 (some .int) D cy) {a0 : Nat} {x1 : Int} (h_x1 : jIn x1) {m : jm_M} {H : Heap} {locs : List Loc} {ls : Array Slot} (S : jHs D cy B sz sh (jA B sz) s.heap H locs m) (L : jL ls [some (jR B a0), some (jI x1), none, none]) (hyp : f_X12_image N sh a0 x1 m = some res) : W p l e (jrm 1 0 0) s mi args below meth c H locs 0 0 (MQ below (jQc D cy B sz sh res.2 (some (jI res.1)) (jIn res.1)) args s 0 0 (jA B sz)) (F0 mi 0 ls []) := by
  unfold f_X12_image at hyp
  refine jr_iload_n (pc := 0) C L dX12_image_0 rfl rfl ?_
  refine jr_iconst (pc := 1) C dX12_image_1 ?_
  refine jr_iconst (pc := 2) C dX12_image_2 ?_
  obtain ⟨q30, hq30, hyp⟩ := jbind hyp
  refine jr_callS_I (pc := 3) C S L (As := [jI x1, jI 0, jI 1]) (rest := []) (c_X12_in (m0 := m) h_x1 (show jIn 0 from ⟨by decide, by decide⟩) (show jIn 1 from ⟨by decide, by decide⟩) hq30) ms_X12_in ml_X12_80 (by decide) rfl rfl rfl (Nat.le_of_ble_eq_true rfl) ⟨Nat.le_refl 0, Nat.le_refl 0⟩ dX12_image_3 (fun p31 H locs S => ?_)
  refine jr_if_ne (pc := 6) C p31 (tgt := 12) dX12_image_6 (by decide) (fun c32 => ?_) (fun c32 => ?_)
  · have hyp := (if_pos c32).symm.trans hyp
    refine jr_bipush (pc := 9) C dX12_image_9 (by decide) ?_
    cases hyp
    exact jr_iret C S (show jIn (-2) from ⟨by decide, by decide⟩) dX12_image_11
  · have hyp := (if_neg c32).symm.trans hyp
    refine jr_sipush (pc := 12) C dX12_image_12 (by decide) ?_
    refine jr_iload_n (pc := 15) C L dX12_image_15 rfl rfl ?_
    refine jr_imul (pc := 16) C dX12_image_16 ?_
    refine jr_istore_n (pc := 17) C L dX12_image_17 rfl (Nat.le_of_ble_eq_true rfl) (fun ls L => ?_)
    have L : jL ls [some (jR B a0), some (jI x1), some (jI (jw (160 * x1))), none] := L
    refine jr_iconst (pc := 18) C dX12_image_18 ?_
    refine jr_istore_n (pc := 19) C L dX12_image_19 rfl (Nat.le_of_ble_eq_true rfl) (fun ls L => ?_)
    have L : jL ls [some (jR B a0), some (jI x1), some (jI (jw (160 * x1))), some (jI 0)] := L
    exact t_X12_image_l20 C   N a0 x1 (jw (160 * x1)) 0 h_x1 (jIn_w _) (show jIn 0 from ⟨by decide, by decide⟩) m _ _ _ S (L.sub (jsub_s (jsub_s (jsub_s (jsub_s jsub_0))))) hyp
theorem c_X12_image {l : Launch} {D : va_G} {cy : Nat → ClassId} {B sz : Nat} {sh : jm_S} {res : (Int × jm_M)} {N : Nat} {m : jm_M} {a0 : Nat} {x1 : Int} (h_x1 : jIn x1) (hyp : f_X12_image N sh a0 x1 m = some res) : jCt l D cy B sz sh 1 yX12_image cX12_image 4 (some .int) [jR B a0, jI x1] m (some (jI res.1)) res.2 (jIn res.1) :=
  jc_of (by decide) (fun v h => by simp only [List.mem_cons, List.not_mem_nil, or_false] at h; rcases h with rfl | rfl <;> first | rfl | exact jR_cat _ _) (Nat.le_of_ble_eq_true rfl) (fun C S L => t_X12_image_e C  h_x1 S L hyp)
set_option maxHeartbeats 4000000 in
set_option maxRecDepth 100000 in
theorem t_X12_restore_b167 {p : Program} {l : Launch} {e : Env} {s : State} {mi : MethodId} {args : Array Value} {below : List Frame} {meth : Method} {c : Code} {D : va_G} {cy : Nat → ClassId} {B sz : Nat} {sh : jm_S} {res : (Int × jm_M)} {N : Nat} {k167 : Nat → Int → jm_M → Option (Int × jm_M)} (C : jCx p s mi args meth c cX12_restore 4 RX12 (some .int) D cy) (K167 : ∀ (a0 : Nat) (x3 : Int) , jIn x3 → ∀ (m : jm_M) (H : Heap) (locs : List Loc) (ls : Array Slot), jHs D cy B sz sh (jA B sz) s.heap H locs m → jL ls [some (jR B a0), none, none, some (jI x3)] → k167 a0 x3 m = some res → W p l e (jrm 4 0 0) s mi args below meth c H locs 0 0 (MQ below (jQc D cy B sz sh res.2 (some (jI res.1)) (jIn res.1)) args s 0 0 (jA B sz)) (F0 mi 167 ls [])) {a0 : Nat} {x3 : Int} (h_x3 : jIn x3) {m : jm_M} {H : Heap} {locs : List Loc} {ls : Array Slot} (S : jHs D cy B sz sh (jA B sz) s.heap H locs m) (L : jL ls [some (jR B a0), none, none, some (jI x3)]) (hyp : f_X12_restore_b167 N sh k167 a0 x3 m = some res) : W p l e (jrm 4 0 0) s mi args below meth c H locs 0 0 (MQ below (jQc D cy B sz sh res.2 (some (jI res.1)) (jIn res.1)) args s 0 0 (jA B sz)) (F0 mi 167 ls []) := by
  unfold f_X12_restore_b167 at hyp
  refine jr_iload_n (pc := 167) C L dX12_restore_167 rfl rfl ?_
  refine jr_iconst (pc := 168) C dX12_restore_168 ?_
  refine jr_icmp_ge (pc := 169) C h_x3 (show jIn 4 from ⟨by decide, by decide⟩) (tgt := 183) dX12_restore_169 (by decide) (fun c1 => ?_) (fun c1 => ?_)
  · have hyp := (if_pos c1).symm.trans hyp
    refine jr_aload_n (pc := 172) C L dX12_restore_172 rfl rfl ?_
    refine jr_iload_n (pc := 173) C L dX12_restore_173 rfl rfl ?_
    obtain ⟨u2, hu2, hyp⟩ := jbind hyp
    obtain ⟨q3, hq3, hyp⟩ := jbind hyp
    refine jr_callV_N (pc := 174) C S L (As := [jI x3]) (rest := []) (c_X12_laySizes h_x3 hq3) mv_X12_laySizes ml_X12_106 rfl (jck_spec hu2) (by decide) rfl rfl rfl (Nat.le_of_ble_eq_true rfl) ⟨Nat.le_refl 0, Nat.le_refl 0⟩ dX12_restore_174 (fun p4 H locs S => ?_)
    refine jr_iinc (pc := 177) C L dX12_restore_177 rfl (Nat.le_of_ble_eq_true rfl) (fun ls L => ?_)
    have L : jL ls [some (jR B a0), none, none, some (jI (jw (x3 + 1)))] := L
    refine jr_goto (pc := 180) C (tgt := 167) dX12_restore_180 (by decide) ?_
    exact K167 a0 (jw (x3 + 1)) (jIn_w _) q3 _ _ _ S (L.sub (jsub_s (jsub_n (jsub_n (jsub_s jsub_0))))) hyp
  · have hyp := (if_neg c1).symm.trans hyp
    refine jr_iconst (pc := 183) C dX12_restore_183 ?_
    cases hyp
    exact jr_iret C S (show jIn 1 from ⟨by decide, by decide⟩) dX12_restore_184
theorem t_X12_restore_l167 {p : Program} {l : Launch} {e : Env} {s : State} {mi : MethodId} {args : Array Value} {below : List Frame} {meth : Method} {c : Code} {D : va_G} {cy : Nat → ClassId} {B sz : Nat} {sh : jm_S} {res : (Int × jm_M)} {N : Nat} (C : jCx p s mi args meth c cX12_restore 4 RX12 (some .int) D cy) : ∀ (n : Nat) (a0 : Nat) (x3 : Int), jIn x3 → ∀ (m : jm_M) (H : Heap) (locs : List Loc) (ls : Array Slot), jHs D cy B sz sh (jA B sz) s.heap H locs m → jL ls [some (jR B a0), none, none, some (jI x3)] → f_X12_restore_l167 N sh n a0 x3 m = some res → W p l e (jrm 4 0 0) s mi args below meth c H locs 0 0 (MQ below (jQc D cy B sz sh res.2 (some (jI res.1)) (jIn res.1)) args s 0 0 (jA B sz)) (F0 mi 167 ls []) := by
  intro n
  induction n with
  | zero => intro a0 x3 h_x3 m H locs ls S L hyp; cases hyp
  | succ n ih => intro a0 x3 h_x3 m H locs ls S L hyp; exact t_X12_restore_b167 (N := N) C  ih h_x3 S L hyp
set_option maxHeartbeats 4000000 in
set_option maxRecDepth 100000 in
theorem t_X12_restore_b136 {p : Program} {l : Launch} {e : Env} {s : State} {mi : MethodId} {args : Array Value} {below : List Frame} {meth : Method} {c : Code} {D : va_G} {cy : Nat → ClassId} {B sz : Nat} {sh : jm_S} {res : (Int × jm_M)} {N : Nat} {k136 : Nat → Int → Int → jm_M → Option (Int × jm_M)} (C : jCx p s mi args meth c cX12_restore 4 RX12 (some .int) D cy) (K136 : ∀ (a0 : Nat) (x2 : Int) (x3 : Int) , jIn x2 → jIn x3 → ∀ (m : jm_M) (H : Heap) (locs : List Loc) (ls : Array Slot), jHs D cy B sz sh (jA B sz) s.heap H locs m → jL ls [some (jR B a0), none, some (jI x2), some (jI x3)] → k136 a0 x2 x3 m = some res → W p l e (jrm 4 0 0) s mi args below meth c H locs 0 0 (MQ below (jQc D cy B sz sh res.2 (some (jI res.1)) (jIn res.1)) args s 0 0 (jA B sz)) (F0 mi 136 ls [])) {a0 : Nat} {x2 : Int} (h_x2 : jIn x2) {x3 : Int} (h_x3 : jIn x3) {m : jm_M} {H : Heap} {locs : List Loc} {ls : Array Slot} (S : jHs D cy B sz sh (jA B sz) s.heap H locs m) (L : jL ls [some (jR B a0), none, some (jI x2), some (jI x3)]) (hyp : f_X12_restore_b136 N sh k136 a0 x2 x3 m = some res) : W p l e (jrm 4 0 0) s mi args below meth c H locs 0 0 (MQ below (jQc D cy B sz sh res.2 (some (jI res.1)) (jIn res.1)) args s 0 0 (jA B sz)) (F0 mi 136 ls []) := by
  unfold f_X12_restore_b136 at hyp
  refine jr_iload_n (pc := 136) C L dX12_restore_136 rfl rfl ?_
  refine jr_bipush (pc := 137) C dX12_restore_137 (by decide) ?_
  refine jr_icmp_ge (pc := 139) C h_x3 (show jIn 120 from ⟨by decide, by decide⟩) (tgt := 165) dX12_restore_139 (by decide) (fun c5 => ?_) (fun c5 => ?_)
  · have hyp := (if_pos c5).symm.trans hyp
    refine jr_aload_n (pc := 142) C L dX12_restore_142 rfl rfl ?_
    obtain ⟨v6, hv6, hyp⟩ := jbind hyp
    refine jr_getR (pc := 143) C S lf_X12_19 rfl hv6 dX12_restore_143 ?_
    refine jr_iload_n (pc := 146) C L dX12_restore_146 rfl rfl ?_
    refine jr_aload_n (pc := 147) C L dX12_restore_147 rfl rfl ?_
    obtain ⟨v7, hv7, hyp⟩ := jbind hyp
    refine jr_getR (pc := 148) C S lf_X12_73 rfl hv7 dX12_restore_148 ?_
    refine jr_iload_n (pc := 151) C L dX12_restore_151 rfl rfl ?_
    refine jr_bipush (pc := 152) C dX12_restore_152 (by decide) ?_
    refine jr_iadd (pc := 154) C dX12_restore_154 ?_
    refine jr_iload_n (pc := 155) C L dX12_restore_155 rfl rfl ?_
    refine jr_iadd (pc := 156) C dX12_restore_156 ?_
    obtain ⟨v8, hv8, hyp⟩ := jbind hyp
    have iv8 := jra_in S hv8
    refine jr_ial (pc := 157) C S (jIn_w _) hv8 dX12_restore_157 ?_
    obtain ⟨m9, hm9, hyp⟩ := jbind hyp
    refine jr_ias (pc := 158) C S h_x3 iv8 hm9 dX12_restore_158 (fun H locs S => ?_)
    refine jr_iinc (pc := 159) C L dX12_restore_159 rfl (Nat.le_of_ble_eq_true rfl) (fun ls L => ?_)
    have L : jL ls [some (jR B a0), none, some (jI x2), some (jI (jw (x3 + 1)))] := L
    refine jr_goto (pc := 162) C (tgt := 136) dX12_restore_162 (by decide) ?_
    exact K136 a0 x2 (jw (x3 + 1)) h_x2 (jIn_w _) m9 _ _ _ S (L.sub (jsub_s (jsub_n (jsub_s (jsub_s jsub_0))))) hyp
  · have hyp := (if_neg c5).symm.trans hyp
    refine jr_iconst (pc := 165) C dX12_restore_165 ?_
    refine jr_istore_n (pc := 166) C L dX12_restore_166 rfl (Nat.le_of_ble_eq_true rfl) (fun ls L => ?_)
    have L : jL ls [some (jR B a0), none, some (jI x2), some (jI 0)] := L
    exact t_X12_restore_l167 C   N a0 0 (show jIn 0 from ⟨by decide, by decide⟩) m _ _ _ S (L.sub (jsub_s (jsub_n (jsub_n (jsub_s jsub_0))))) hyp
theorem t_X12_restore_l136 {p : Program} {l : Launch} {e : Env} {s : State} {mi : MethodId} {args : Array Value} {below : List Frame} {meth : Method} {c : Code} {D : va_G} {cy : Nat → ClassId} {B sz : Nat} {sh : jm_S} {res : (Int × jm_M)} {N : Nat} (C : jCx p s mi args meth c cX12_restore 4 RX12 (some .int) D cy) : ∀ (n : Nat) (a0 : Nat) (x2 : Int) (x3 : Int), jIn x2 → jIn x3 → ∀ (m : jm_M) (H : Heap) (locs : List Loc) (ls : Array Slot), jHs D cy B sz sh (jA B sz) s.heap H locs m → jL ls [some (jR B a0), none, some (jI x2), some (jI x3)] → f_X12_restore_l136 N sh n a0 x2 x3 m = some res → W p l e (jrm 4 0 0) s mi args below meth c H locs 0 0 (MQ below (jQc D cy B sz sh res.2 (some (jI res.1)) (jIn res.1)) args s 0 0 (jA B sz)) (F0 mi 136 ls []) := by
  intro n
  induction n with
  | zero => intro a0 x2 x3 h_x2 h_x3 m H locs ls S L hyp; cases hyp
  | succ n ih => intro a0 x2 x3 h_x2 h_x3 m H locs ls S L hyp; exact t_X12_restore_b136 (N := N) C  ih h_x2 h_x3 S L hyp
set_option maxHeartbeats 4000000 in
set_option maxRecDepth 100000 in
theorem t_X12_restore_b105 {p : Program} {l : Launch} {e : Env} {s : State} {mi : MethodId} {args : Array Value} {below : List Frame} {meth : Method} {c : Code} {D : va_G} {cy : Nat → ClassId} {B sz : Nat} {sh : jm_S} {res : (Int × jm_M)} {N : Nat} {k105 : Nat → Int → Int → jm_M → Option (Int × jm_M)} (C : jCx p s mi args meth c cX12_restore 4 RX12 (some .int) D cy) (K105 : ∀ (a0 : Nat) (x2 : Int) (x3 : Int) , jIn x2 → jIn x3 → ∀ (m : jm_M) (H : Heap) (locs : List Loc) (ls : Array Slot), jHs D cy B sz sh (jA B sz) s.heap H locs m → jL ls [some (jR B a0), none, some (jI x2), some (jI x3)] → k105 a0 x2 x3 m = some res → W p l e (jrm 4 0 0) s mi args below meth c H locs 0 0 (MQ below (jQc D cy B sz sh res.2 (some (jI res.1)) (jIn res.1)) args s 0 0 (jA B sz)) (F0 mi 105 ls [])) {a0 : Nat} {x2 : Int} (h_x2 : jIn x2) {x3 : Int} (h_x3 : jIn x3) {m : jm_M} {H : Heap} {locs : List Loc} {ls : Array Slot} (S : jHs D cy B sz sh (jA B sz) s.heap H locs m) (L : jL ls [some (jR B a0), none, some (jI x2), some (jI x3)]) (hyp : f_X12_restore_b105 N sh k105 a0 x2 x3 m = some res) : W p l e (jrm 4 0 0) s mi args below meth c H locs 0 0 (MQ below (jQc D cy B sz sh res.2 (some (jI res.1)) (jIn res.1)) args s 0 0 (jA B sz)) (F0 mi 105 ls []) := by
  unfold f_X12_restore_b105 at hyp
  refine jr_iload_n (pc := 105) C L dX12_restore_105 rfl rfl ?_
  refine jr_bipush (pc := 106) C dX12_restore_106 (by decide) ?_
  refine jr_icmp_ge (pc := 108) C h_x3 (show jIn 20 from ⟨by decide, by decide⟩) (tgt := 134) dX12_restore_108 (by decide) (fun c10 => ?_) (fun c10 => ?_)
  · have hyp := (if_pos c10).symm.trans hyp
    refine jr_aload_n (pc := 111) C L dX12_restore_111 rfl rfl ?_
    obtain ⟨v11, hv11, hyp⟩ := jbind hyp
    refine jr_getR (pc := 112) C S lf_X12_28 rfl hv11 dX12_restore_112 ?_
    refine jr_iload_n (pc := 115) C L dX12_restore_115 rfl rfl ?_
    refine jr_aload_n (pc := 116) C L dX12_restore_116 rfl rfl ?_
    obtain ⟨v12, hv12, hyp⟩ := jbind hyp
    refine jr_getR (pc := 117) C S lf_X12_73 rfl hv12 dX12_restore_117 ?_
    refine jr_iload_n (pc := 120) C L dX12_restore_120 rfl rfl ?_
    refine jr_bipush (pc := 121) C dX12_restore_121 (by decide) ?_
    refine jr_iadd (pc := 123) C dX12_restore_123 ?_
    refine jr_iload_n (pc := 124) C L dX12_restore_124 rfl rfl ?_
    refine jr_iadd (pc := 125) C dX12_restore_125 ?_
    obtain ⟨v13, hv13, hyp⟩ := jbind hyp
    have iv13 := jra_in S hv13
    refine jr_ial (pc := 126) C S (jIn_w _) hv13 dX12_restore_126 ?_
    obtain ⟨m14, hm14, hyp⟩ := jbind hyp
    refine jr_ias (pc := 127) C S h_x3 iv13 hm14 dX12_restore_127 (fun H locs S => ?_)
    refine jr_iinc (pc := 128) C L dX12_restore_128 rfl (Nat.le_of_ble_eq_true rfl) (fun ls L => ?_)
    have L : jL ls [some (jR B a0), none, some (jI x2), some (jI (jw (x3 + 1)))] := L
    refine jr_goto (pc := 131) C (tgt := 105) dX12_restore_131 (by decide) ?_
    exact K105 a0 x2 (jw (x3 + 1)) h_x2 (jIn_w _) m14 _ _ _ S (L.sub (jsub_s (jsub_n (jsub_s (jsub_s jsub_0))))) hyp
  · have hyp := (if_neg c10).symm.trans hyp
    refine jr_iconst (pc := 134) C dX12_restore_134 ?_
    refine jr_istore_n (pc := 135) C L dX12_restore_135 rfl (Nat.le_of_ble_eq_true rfl) (fun ls L => ?_)
    have L : jL ls [some (jR B a0), none, some (jI x2), some (jI 0)] := L
    exact t_X12_restore_l136 C   N a0 x2 0 h_x2 (show jIn 0 from ⟨by decide, by decide⟩) m _ _ _ S (L.sub (jsub_s (jsub_n (jsub_s (jsub_s jsub_0))))) hyp
theorem t_X12_restore_l105 {p : Program} {l : Launch} {e : Env} {s : State} {mi : MethodId} {args : Array Value} {below : List Frame} {meth : Method} {c : Code} {D : va_G} {cy : Nat → ClassId} {B sz : Nat} {sh : jm_S} {res : (Int × jm_M)} {N : Nat} (C : jCx p s mi args meth c cX12_restore 4 RX12 (some .int) D cy) : ∀ (n : Nat) (a0 : Nat) (x2 : Int) (x3 : Int), jIn x2 → jIn x3 → ∀ (m : jm_M) (H : Heap) (locs : List Loc) (ls : Array Slot), jHs D cy B sz sh (jA B sz) s.heap H locs m → jL ls [some (jR B a0), none, some (jI x2), some (jI x3)] → f_X12_restore_l105 N sh n a0 x2 x3 m = some res → W p l e (jrm 4 0 0) s mi args below meth c H locs 0 0 (MQ below (jQc D cy B sz sh res.2 (some (jI res.1)) (jIn res.1)) args s 0 0 (jA B sz)) (F0 mi 105 ls []) := by
  intro n
  induction n with
  | zero => intro a0 x2 x3 h_x2 h_x3 m H locs ls S L hyp; cases hyp
  | succ n ih => intro a0 x2 x3 h_x2 h_x3 m H locs ls S L hyp; exact t_X12_restore_b105 (N := N) C  ih h_x2 h_x3 S L hyp
set_option maxHeartbeats 4000000 in
set_option maxRecDepth 100000 in
theorem t_X12_restore_b32 {p : Program} {l : Launch} {e : Env} {s : State} {mi : MethodId} {args : Array Value} {below : List Frame} {meth : Method} {c : Code} {D : va_G} {cy : Nat → ClassId} {B sz : Nat} {sh : jm_S} {res : (Int × jm_M)} {N : Nat} {k32 : Nat → Int → Int → jm_M → Option (Int × jm_M)} (C : jCx p s mi args meth c cX12_restore 4 RX12 (some .int) D cy) (K32 : ∀ (a0 : Nat) (x2 : Int) (x3 : Int) , jIn x2 → jIn x3 → ∀ (m : jm_M) (H : Heap) (locs : List Loc) (ls : Array Slot), jHs D cy B sz sh (jA B sz) s.heap H locs m → jL ls [some (jR B a0), none, some (jI x2), some (jI x3)] → k32 a0 x2 x3 m = some res → W p l e (jrm 4 0 0) s mi args below meth c H locs 0 0 (MQ below (jQc D cy B sz sh res.2 (some (jI res.1)) (jIn res.1)) args s 0 0 (jA B sz)) (F0 mi 32 ls [])) {a0 : Nat} {x2 : Int} (h_x2 : jIn x2) {x3 : Int} (h_x3 : jIn x3) {m : jm_M} {H : Heap} {locs : List Loc} {ls : Array Slot} (S : jHs D cy B sz sh (jA B sz) s.heap H locs m) (L : jL ls [some (jR B a0), none, some (jI x2), some (jI x3)]) (hyp : f_X12_restore_b32 N sh k32 a0 x2 x3 m = some res) : W p l e (jrm 4 0 0) s mi args below meth c H locs 0 0 (MQ below (jQc D cy B sz sh res.2 (some (jI res.1)) (jIn res.1)) args s 0 0 (jA B sz)) (F0 mi 32 ls []) := by
  unfold f_X12_restore_b32 at hyp
  refine jr_iload_n (pc := 32) C L dX12_restore_32 rfl rfl ?_
  refine jr_iconst (pc := 33) C dX12_restore_33 ?_
  refine jr_icmp_ge (pc := 34) C h_x3 (show jIn 4 from ⟨by decide, by decide⟩) (tgt := 90) dX12_restore_34 (by decide) (fun c15 => ?_) (fun c15 => ?_)
  · have hyp := (if_pos c15).symm.trans hyp
    refine jr_aload_n (pc := 37) C L dX12_restore_37 rfl rfl ?_
    obtain ⟨v16, hv16, hyp⟩ := jbind hyp
    refine jr_getR (pc := 38) C S lf_X12_7 rfl hv16 dX12_restore_38 ?_
    refine jr_iload_n (pc := 41) C L dX12_restore_41 rfl rfl ?_
    refine jr_aload_n (pc := 42) C L dX12_restore_42 rfl rfl ?_
    obtain ⟨v17, hv17, hyp⟩ := jbind hyp
    refine jr_getR (pc := 43) C S lf_X12_73 rfl hv17 dX12_restore_43 ?_
    refine jr_iload_n (pc := 46) C L dX12_restore_46 rfl rfl ?_
    refine jr_iload_n (pc := 47) C L dX12_restore_47 rfl rfl ?_
    refine jr_iadd (pc := 48) C dX12_restore_48 ?_
    obtain ⟨v18, hv18, hyp⟩ := jbind hyp
    have iv18 := jra_in S hv18
    refine jr_ial (pc := 49) C S (jIn_w _) hv18 dX12_restore_49 ?_
    obtain ⟨m19, hm19, hyp⟩ := jbind hyp
    refine jr_ias (pc := 50) C S h_x3 iv18 hm19 dX12_restore_50 (fun H locs S => ?_)
    refine jr_aload_n (pc := 51) C L dX12_restore_51 rfl rfl ?_
    obtain ⟨v20, hv20, hyp⟩ := jbind hyp
    refine jr_getR (pc := 52) C S lf_X12_16 rfl hv20 dX12_restore_52 ?_
    refine jr_iload_n (pc := 55) C L dX12_restore_55 rfl rfl ?_
    refine jr_aload_n (pc := 56) C L dX12_restore_56 rfl rfl ?_
    obtain ⟨v21, hv21, hyp⟩ := jbind hyp
    refine jr_getR (pc := 57) C S lf_X12_73 rfl hv21 dX12_restore_57 ?_
    refine jr_iload_n (pc := 60) C L dX12_restore_60 rfl rfl ?_
    refine jr_iconst (pc := 61) C dX12_restore_61 ?_
    refine jr_iadd (pc := 62) C dX12_restore_62 ?_
    refine jr_iload_n (pc := 63) C L dX12_restore_63 rfl rfl ?_
    refine jr_iadd (pc := 64) C dX12_restore_64 ?_
    obtain ⟨v22, hv22, hyp⟩ := jbind hyp
    have iv22 := jra_in S hv22
    refine jr_ial (pc := 65) C S (jIn_w _) hv22 dX12_restore_65 ?_
    obtain ⟨m23, hm23, hyp⟩ := jbind hyp
    refine jr_ias (pc := 66) C S h_x3 iv22 hm23 dX12_restore_66 (fun H locs S => ?_)
    refine jr_aload_n (pc := 67) C L dX12_restore_67 rfl rfl ?_
    obtain ⟨v24, hv24, hyp⟩ := jbind hyp
    refine jr_getR (pc := 68) C S lf_X12_25 rfl hv24 dX12_restore_68 ?_
    refine jr_iload_n (pc := 71) C L dX12_restore_71 rfl rfl ?_
    refine jr_aload_n (pc := 72) C L dX12_restore_72 rfl rfl ?_
    obtain ⟨v25, hv25, hyp⟩ := jbind hyp
    refine jr_getR (pc := 73) C S lf_X12_73 rfl hv25 dX12_restore_73 ?_
    refine jr_iload_n (pc := 76) C L dX12_restore_76 rfl rfl ?_
    refine jr_bipush (pc := 77) C dX12_restore_77 (by decide) ?_
    refine jr_iadd (pc := 79) C dX12_restore_79 ?_
    refine jr_iload_n (pc := 80) C L dX12_restore_80 rfl rfl ?_
    refine jr_iadd (pc := 81) C dX12_restore_81 ?_
    obtain ⟨v26, hv26, hyp⟩ := jbind hyp
    have iv26 := jra_in S hv26
    refine jr_ial (pc := 82) C S (jIn_w _) hv26 dX12_restore_82 ?_
    obtain ⟨m27, hm27, hyp⟩ := jbind hyp
    refine jr_ias (pc := 83) C S h_x3 iv26 hm27 dX12_restore_83 (fun H locs S => ?_)
    refine jr_iinc (pc := 84) C L dX12_restore_84 rfl (Nat.le_of_ble_eq_true rfl) (fun ls L => ?_)
    have L : jL ls [some (jR B a0), none, some (jI x2), some (jI (jw (x3 + 1)))] := L
    refine jr_goto (pc := 87) C (tgt := 32) dX12_restore_87 (by decide) ?_
    exact K32 a0 x2 (jw (x3 + 1)) h_x2 (jIn_w _) m27 _ _ _ S (L.sub (jsub_s (jsub_n (jsub_s (jsub_s jsub_0))))) hyp
  · have hyp := (if_neg c15).symm.trans hyp
    refine jr_aload_n (pc := 90) C L dX12_restore_90 rfl rfl ?_
    refine jr_aload_n (pc := 91) C L dX12_restore_91 rfl rfl ?_
    obtain ⟨v28, hv28, hyp⟩ := jbind hyp
    refine jr_getR (pc := 92) C S lf_X12_73 rfl hv28 dX12_restore_92 ?_
    refine jr_iload_n (pc := 95) C L dX12_restore_95 rfl rfl ?_
    refine jr_bipush (pc := 96) C dX12_restore_96 (by decide) ?_
    refine jr_iadd (pc := 98) C dX12_restore_98 ?_
    obtain ⟨v29, hv29, hyp⟩ := jbind hyp
    have iv29 := jra_in S hv29
    refine jr_ial (pc := 99) C S (jIn_w _) hv29 dX12_restore_99 ?_
    obtain ⟨m30, hm30, hyp⟩ := jbind hyp
    refine jr_putI (pc := 100) C S lf_X12_210 fp_X12_7 rfl iv29 hm30 dX12_restore_100 (fun H locs S => ?_)
    refine jr_iconst (pc := 103) C dX12_restore_103 ?_
    refine jr_istore_n (pc := 104) C L dX12_restore_104 rfl (Nat.le_of_ble_eq_true rfl) (fun ls L => ?_)
    have L : jL ls [some (jR B a0), none, some (jI x2), some (jI 0)] := L
    exact t_X12_restore_l105 C   N a0 x2 0 h_x2 (show jIn 0 from ⟨by decide, by decide⟩) m30 _ _ _ S (L.sub (jsub_s (jsub_n (jsub_s (jsub_s jsub_0))))) hyp
theorem t_X12_restore_l32 {p : Program} {l : Launch} {e : Env} {s : State} {mi : MethodId} {args : Array Value} {below : List Frame} {meth : Method} {c : Code} {D : va_G} {cy : Nat → ClassId} {B sz : Nat} {sh : jm_S} {res : (Int × jm_M)} {N : Nat} (C : jCx p s mi args meth c cX12_restore 4 RX12 (some .int) D cy) : ∀ (n : Nat) (a0 : Nat) (x2 : Int) (x3 : Int), jIn x2 → jIn x3 → ∀ (m : jm_M) (H : Heap) (locs : List Loc) (ls : Array Slot), jHs D cy B sz sh (jA B sz) s.heap H locs m → jL ls [some (jR B a0), none, some (jI x2), some (jI x3)] → f_X12_restore_l32 N sh n a0 x2 x3 m = some res → W p l e (jrm 4 0 0) s mi args below meth c H locs 0 0 (MQ below (jQc D cy B sz sh res.2 (some (jI res.1)) (jIn res.1)) args s 0 0 (jA B sz)) (F0 mi 32 ls []) := by
  intro n
  induction n with
  | zero => intro a0 x2 x3 h_x2 h_x3 m H locs ls S L hyp; cases hyp
  | succ n ih => intro a0 x2 x3 h_x2 h_x3 m H locs ls S L hyp; exact t_X12_restore_b32 (N := N) C  ih h_x2 h_x3 S L hyp
set_option maxHeartbeats 4000000 in
set_option maxRecDepth 100000 in
theorem t_X12_restore_e {p : Program} {l : Launch} {e : Env} {s : State} {mi : MethodId} {args : Array Value} {below : List Frame} {meth : Method} {c : Code} {D : va_G} {cy : Nat → ClassId} {B sz : Nat} {sh : jm_S} {res : (Int × jm_M)} {N : Nat} (C : jCx p s mi args meth c cX12_restore 4 RX12 (some .int) D cy) {a0 : Nat} {x1 : Int} (h_x1 : jIn x1) {m : jm_M} {H : Heap} {locs : List Loc} {ls : Array Slot} (S : jHs D cy B sz sh (jA B sz) s.heap H locs m) (L : jL ls [some (jR B a0), some (jI x1), none, none]) (hyp : f_X12_restore N sh a0 x1 m = some res) : W p l e (jrm 4 0 0) s mi args below meth c H locs 0 0 (MQ below (jQc D cy B sz sh res.2 (some (jI res.1)) (jIn res.1)) args s 0 0 (jA B sz)) (F0 mi 0 ls []) := by
  unfold f_X12_restore at hyp
  refine jr_iload_n (pc := 0) C L dX12_restore_0 rfl rfl ?_
  refine jr_iconst (pc := 1) C dX12_restore_1 ?_
  refine jr_iconst (pc := 2) C dX12_restore_2 ?_
  obtain ⟨q31, hq31, hyp⟩ := jbind hyp
  refine jr_callS_I (pc := 3) C S L (As := [jI x1, jI 0, jI 1]) (rest := []) (c_X12_in (m0 := m) h_x1 (show jIn 0 from ⟨by decide, by decide⟩) (show jIn 1 from ⟨by decide, by decide⟩) hq31) ms_X12_in ml_X12_80 (by decide) rfl rfl rfl (Nat.le_of_ble_eq_true rfl) ⟨Nat.le_refl 0, Nat.le_refl 0⟩ dX12_restore_3 (fun p32 H locs S => ?_)
  refine jr_if_ne (pc := 6) C p32 (tgt := 12) dX12_restore_6 (by decide) (fun c33 => ?_) (fun c33 => ?_)
  · have hyp := (if_pos c33).symm.trans hyp
    refine jr_bipush (pc := 9) C dX12_restore_9 (by decide) ?_
    cases hyp
    exact jr_iret C S (show jIn (-2) from ⟨by decide, by decide⟩) dX12_restore_11
  · have hyp := (if_neg c33).symm.trans hyp
    refine jr_aload_n (pc := 12) C L dX12_restore_12 rfl rfl ?_
    obtain ⟨v34, hv34, hyp⟩ := jbind hyp
    refine jr_getR (pc := 13) C S lf_X12_76 rfl hv34 dX12_restore_13 ?_
    refine jr_iload_n (pc := 16) C L dX12_restore_16 rfl rfl ?_
    obtain ⟨v35, hv35, hyp⟩ := jbind hyp
    have iv35 := jra_in S hv35
    refine jr_zal (pc := 17) C S h_x1 hv35 dX12_restore_17 ?_
    refine jr_if_ne (pc := 18) C iv35 (tgt := 24) dX12_restore_18 (by decide) (fun c36 => ?_) (fun c36 => ?_)
    · have hyp := (if_pos c36).symm.trans hyp
      refine jr_bipush (pc := 21) C dX12_restore_21 (by decide) ?_
      cases hyp
      exact jr_iret C S (show jIn (-3) from ⟨by decide, by decide⟩) dX12_restore_23
    · have hyp := (if_neg c36).symm.trans hyp
      refine jr_sipush (pc := 24) C dX12_restore_24 (by decide) ?_
      refine jr_iload_n (pc := 27) C L dX12_restore_27 rfl rfl ?_
      refine jr_imul (pc := 28) C dX12_restore_28 ?_
      refine jr_istore_n (pc := 29) C L dX12_restore_29 rfl (Nat.le_of_ble_eq_true rfl) (fun ls L => ?_)
      have L : jL ls [some (jR B a0), some (jI x1), some (jI (jw (160 * x1))), none] := L
      refine jr_iconst (pc := 30) C dX12_restore_30 ?_
      refine jr_istore_n (pc := 31) C L dX12_restore_31 rfl (Nat.le_of_ble_eq_true rfl) (fun ls L => ?_)
      have L : jL ls [some (jR B a0), some (jI x1), some (jI (jw (160 * x1))), some (jI 0)] := L
      exact t_X12_restore_l32 C   N a0 (jw (160 * x1)) 0 (jIn_w _) (show jIn 0 from ⟨by decide, by decide⟩) m _ _ _ S (L.sub (jsub_s (jsub_n (jsub_s (jsub_s jsub_0))))) hyp
theorem c_X12_restore {l : Launch} {D : va_G} {cy : Nat → ClassId} {B sz : Nat} {sh : jm_S} {res : (Int × jm_M)} {N : Nat} {m : jm_M} {a0 : Nat} {x1 : Int} (h_x1 : jIn x1) (hyp : f_X12_restore N sh a0 x1 m = some res) : jCt l D cy B sz sh 4 yX12_restore cX12_restore 4 (some .int) [jR B a0, jI x1] m (some (jI res.1)) res.2 (jIn res.1) :=
  jc_of (by decide) (fun v h => by simp only [List.mem_cons, List.not_mem_nil, or_false] at h; rcases h with rfl | rfl <;> first | rfl | exact jR_cat _ _) (Nat.le_of_ble_eq_true rfl) (fun C S L => t_X12_restore_e C  h_x1 S L hyp)
set_option maxHeartbeats 4000000 in
set_option maxRecDepth 100000 in
theorem t_X12_told_e {p : Program} {l : Launch} {e : Env} {s : State} {mi : MethodId} {args : Array Value} {below : List Frame} {meth : Method} {c : Code} {D : va_G} {cy : Nat → ClassId} {B sz : Nat} {sh : jm_S} {res : Int} {m0 : jm_M} (C : jCx p s mi args meth c cX12_told 2 RX12 (some .int) D cy) {a0 : Nat} {x1 : Int} (h_x1 : jIn x1) {H : Heap} {locs : List Loc} {ls : Array Slot} (S : jHs D cy B sz sh (jA B sz) s.heap H locs m0) (L : jL ls [some (jR B a0), some (jI x1)]) (hyp : f_X12_told sh a0 x1 m0 = some res) : W p l e (jrm 1 0 0) s mi args below meth c H locs 0 0 (MQ below (jQc D cy B sz sh m0 (some (jI res)) (jIn res)) args s 0 0 (jA B sz)) (F0 mi 0 ls []) := by
  unfold f_X12_told at hyp
  refine jr_iload_n (pc := 0) C L dX12_told_0 rfl rfl ?_
  refine jr_bipush (pc := 1) C dX12_told_1 (by decide) ?_
  refine jr_bipush (pc := 3) C dX12_told_3 (by decide) ?_
  obtain ⟨q1, hq1, hyp⟩ := jbind hyp
  refine jr_callS_I (pc := 5) C S L (As := [jI x1, jI 10, jI 13]) (rest := []) (c_X12_in (m0 := m0) h_x1 (show jIn 10 from ⟨by decide, by decide⟩) (show jIn 13 from ⟨by decide, by decide⟩) hq1) ms_X12_in ml_X12_80 (by decide) rfl rfl rfl (Nat.le_of_ble_eq_true rfl) ⟨Nat.le_refl 0, Nat.le_refl 0⟩ dX12_told_5 (fun p2 H locs S => ?_)
  refine jr_if_eq (pc := 8) C p2 (tgt := 21) dX12_told_8 (by decide) (fun c3 => ?_) (fun c3 => ?_)
  · have hyp := (if_pos c3).symm.trans hyp
    refine jr_iload_n (pc := 21) C L dX12_told_21 rfl rfl ?_
    refine jr_bipush (pc := 22) C dX12_told_22 (by decide) ?_
    refine jr_bipush (pc := 24) C dX12_told_24 (by decide) ?_
    obtain ⟨q4, hq4, hyp⟩ := jbind hyp
    refine jr_callS_I (pc := 26) C S L (As := [jI x1, jI 20, jI 23]) (rest := []) (c_X12_in (m0 := m0) h_x1 (show jIn 20 from ⟨by decide, by decide⟩) (show jIn 23 from ⟨by decide, by decide⟩) hq4) ms_X12_in ml_X12_80 (by decide) rfl rfl rfl (Nat.le_of_ble_eq_true rfl) ⟨Nat.le_refl 0, Nat.le_refl 0⟩ dX12_told_26 (fun p5 H locs S => ?_)
    refine jr_if_eq (pc := 29) C p5 (tgt := 42) dX12_told_29 (by decide) (fun c6 => ?_) (fun c6 => ?_)
    · have hyp := (if_pos c6).symm.trans hyp
      refine jr_iload_n (pc := 42) C L dX12_told_42 rfl rfl ?_
      refine jr_if_ne (pc := 43) C h_x1 (tgt := 53) dX12_told_43 (by decide) (fun c7 => ?_) (fun c7 => ?_)
      · have hyp := (if_pos c7).symm.trans hyp
        refine jr_aload_n (pc := 46) C L dX12_told_46 rfl rfl ?_
        obtain ⟨v8, hv8, hyp⟩ := jbind hyp
        have iv8 := jrf_in S hv8
        refine jr_getI (pc := 47) C S lf_X12_87 rfl hv8 dX12_told_47 ?_
        refine jr_goto (pc := 50) C (tgt := 87) dX12_told_50 (by decide) ?_
        cases hyp
        exact jr_iret C S iv8 dX12_told_87
      · have hyp := (if_neg c7).symm.trans hyp
        refine jr_iload_n (pc := 53) C L dX12_told_53 rfl rfl ?_
        refine jr_iconst (pc := 54) C dX12_told_54 ?_
        refine jr_icmp_ne (pc := 55) C h_x1 (show jIn 1 from ⟨by decide, by decide⟩) (tgt := 65) dX12_told_55 (by decide) (fun c9 => ?_) (fun c9 => ?_)
        · have hyp := (if_pos c9).symm.trans hyp
          refine jr_aload_n (pc := 58) C L dX12_told_58 rfl rfl ?_
          obtain ⟨v10, hv10, hyp⟩ := jbind hyp
          have iv10 := jrf_in S hv10
          refine jr_getI (pc := 59) C S lf_X12_210 rfl hv10 dX12_told_59 ?_
          refine jr_goto (pc := 62) C (tgt := 87) dX12_told_62 (by decide) ?_
          cases hyp
          exact jr_iret C S iv10 dX12_told_87
        · have hyp := (if_neg c9).symm.trans hyp
          refine jr_iload_n (pc := 65) C L dX12_told_65 rfl rfl ?_
          refine jr_iconst (pc := 66) C dX12_told_66 ?_
          refine jr_iconst (pc := 67) C dX12_told_67 ?_
          obtain ⟨q11, hq11, hyp⟩ := jbind hyp
          refine jr_callS_I (pc := 68) C S L (As := [jI x1, jI 2, jI 5]) (rest := []) (c_X12_in (m0 := m0) h_x1 (show jIn 2 from ⟨by decide, by decide⟩) (show jIn 5 from ⟨by decide, by decide⟩) hq11) ms_X12_in ml_X12_80 (by decide) rfl rfl rfl (Nat.le_of_ble_eq_true rfl) ⟨Nat.le_refl 0, Nat.le_refl 0⟩ dX12_told_68 (fun p12 H locs S => ?_)
          refine jr_if_eq (pc := 71) C p12 (tgt := 85) dX12_told_71 (by decide) (fun c13 => ?_) (fun c13 => ?_)
          · have hyp := (if_pos c13).symm.trans hyp
            refine jr_bipush (pc := 85) C dX12_told_85 (by decide) ?_
            cases hyp
            exact jr_iret C S (show jIn (-2) from ⟨by decide, by decide⟩) dX12_told_87
          · have hyp := (if_neg c13).symm.trans hyp
            refine jr_aload_n (pc := 74) C L dX12_told_74 rfl rfl ?_
            obtain ⟨v14, hv14, hyp⟩ := jbind hyp
            refine jr_getR (pc := 75) C S lf_X12_7 rfl hv14 dX12_told_75 ?_
            refine jr_iload_n (pc := 78) C L dX12_told_78 rfl rfl ?_
            refine jr_iconst (pc := 79) C dX12_told_79 ?_
            refine jr_isub (pc := 80) C dX12_told_80 ?_
            obtain ⟨v15, hv15, hyp⟩ := jbind hyp
            have iv15 := jra_in S hv15
            refine jr_ial (pc := 81) C S (jIn_w _) hv15 dX12_told_81 ?_
            refine jr_goto (pc := 82) C (tgt := 87) dX12_told_82 (by decide) ?_
            cases hyp
            exact jr_iret C S iv15 dX12_told_87
    · have hyp := (if_neg c6).symm.trans hyp
      refine jr_aload_n (pc := 32) C L dX12_told_32 rfl rfl ?_
      obtain ⟨v16, hv16, hyp⟩ := jbind hyp
      refine jr_getR (pc := 33) C S lf_X12_16 rfl hv16 dX12_told_33 ?_
      refine jr_iload_n (pc := 36) C L dX12_told_36 rfl rfl ?_
      refine jr_bipush (pc := 37) C dX12_told_37 (by decide) ?_
      refine jr_isub (pc := 39) C dX12_told_39 ?_
      obtain ⟨v17, hv17, hyp⟩ := jbind hyp
      have iv17 := jra_in S hv17
      refine jr_ial (pc := 40) C S (jIn_w _) hv17 dX12_told_40 ?_
      cases hyp
      exact jr_iret C S iv17 dX12_told_41
  · have hyp := (if_neg c3).symm.trans hyp
    refine jr_aload_n (pc := 11) C L dX12_told_11 rfl rfl ?_
    obtain ⟨v18, hv18, hyp⟩ := jbind hyp
    refine jr_getR (pc := 12) C S lf_X12_25 rfl hv18 dX12_told_12 ?_
    refine jr_iload_n (pc := 15) C L dX12_told_15 rfl rfl ?_
    refine jr_bipush (pc := 16) C dX12_told_16 (by decide) ?_
    refine jr_isub (pc := 18) C dX12_told_18 ?_
    obtain ⟨v19, hv19, hyp⟩ := jbind hyp
    have iv19 := jra_in S hv19
    refine jr_ial (pc := 19) C S (jIn_w _) hv19 dX12_told_19 ?_
    cases hyp
    exact jr_iret C S iv19 dX12_told_20
theorem c_X12_told {l : Launch} {D : va_G} {cy : Nat → ClassId} {B sz : Nat} {sh : jm_S} {res : Int} {m0 : jm_M} {a0 : Nat} {x1 : Int} (h_x1 : jIn x1) (hyp : f_X12_told sh a0 x1 m0 = some res) : jCt l D cy B sz sh 1 yX12_told cX12_told 2 (some .int) [jR B a0, jI x1] m0 (some (jI res)) m0 (jIn res) :=
  jc_of (by decide) (fun v h => by simp only [List.mem_cons, List.not_mem_nil, or_false] at h; rcases h with rfl | rfl <;> first | rfl | exact jR_cat _ _) (Nat.le_of_ble_eq_true rfl) (fun C S L => t_X12_told_e C  h_x1 S L hyp)
