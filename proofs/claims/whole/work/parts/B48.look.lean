def FrB (m M : jm_M) (to x : Nat) : Prop := ∀ a, a ≠ to → (a < 116 + x ∨ 120 < a) → ∀ j, M a j = m a j
theorem FrB.G {m M : jm_M} {t cn to x : Nat} {sg : Nat → Int} {S w h ms cr : Nat} (hf : FrB m M to x) (hG : GRr m t cn sg S w h ms cr) (ht : t ∈ tL) (hto : isW to) (hx : x ≤ 4) : GRr M t cn sg S w h ms cr := hG.rows ht (fun a h1 h2 h3 j => hf a (fun z => h1 (by rw [z]; exact hto)) (by unfold isW at h1; omega) j) (fun j _ _ => hf 112 (fun z => by unfold isW at hto; omega) (by omega) j)
def LkP (N t cn : Nat) (sg : Nat → Int) (S w h ms cr : Nat) (d i : Nat) : Prop := ∀ (D x fr to B : Nat) (β : Bt) (m : jm_M), d + 1 ≤ D → x + d ≤ 4 → isW fr → isW to → fr ≠ to → (fr < 116 + x ∨ 120 < fr) → (to < 116 + x ∨ 120 < to) → i + zs sg 4 i ≤ cn → GRr m t cn sg S w h ms cr → TBc m S w h cr fr β → (∀ k, β k ≤ B) → B + (ms + 1) * 4 ^ d ≤ 100000 →
    ∃ M, f_X5_look N shC D 112 (i : Int) (x : Int) fr to m = some M ∧ TBc M S w h cr to (lk S w h ms sg d i β) ∧ FrB m M to x
theorem lk_B {S w h ms B : Nat} {sg : Nat → Int} {d i : Nat} {β : Bt} (hT : ST S w h) (hd : d ≤ 4) (hw : wf sg d i = true) (hβ : ∀ k, β k ≤ B) : ∀ k, lk S w h ms sg d i β k ≤ B + (ms + 1) * 4 ^ d := fun k => by
  obtain ⟨⟨k', c, a, b⟩, -⟩ := (wk_all (ms := ms) hT d hd i hw).1.2.2.1 β k
  have := Rx_le d i k k' c a
  have := hβ k'
  omega
theorem lm_B {S w h ms B : Nat} {sg : Nat → Int} {d i : Nat} {β : Bt} (hT : ST S w h) (hd : d ≤ 4) (hw : wf sg d i = true) (hβ : ∀ k, β k ≤ B) : ∀ n k, lm (lk S w h ms sg d i) β n k ≤ B + n * ((ms + 1) * 4 ^ d) := fun n k => by
  obtain ⟨⟨k', c, ⟨j, hj, a⟩, b⟩, -⟩ := (wk_all (ms := ms) hT d hd i hw).1.2.2.1.lp n β k
  have b : c + β k' = lm (lk S w h ms sg d i) β n k := b
  have h1 := ItX_le (fun k k' c => Rx_le (S := S) (w := w) (h := h) (ms := ms) (sg := sg) d i k k' c) j k k' c a
  have h2 : j * ((ms + 1) * 4 ^ d) ≤ n * ((ms + 1) * 4 ^ d) := Nat.mul_le_mul_right _ hj
  have := hβ k'
  omega
theorem itB_B {S w h ms B : Nat} {sg : Nat → Int} {d i : Nat} {β : Bt} (hT : ST S w h) (hd : d ≤ 4) (hw : wf sg d i = true) (hβ : ∀ k, β k ≤ B) : ∀ n k, itB (lk S w h ms sg d i) β n k ≤ B + n * ((ms + 1) * 4 ^ d) := fun n k => by
  obtain ⟨⟨k', c, a, b⟩, -⟩ := (wk_all (ms := ms) hT d hd i hw).1.2.2.1.it n β k
  have b : c + β k' = itB (lk S w h ms sg d i) β n k := b
  have h1 := ItX_le (fun k k' c => Rx_le (S := S) (w := w) (h := h) (ms := ms) (sg := sg) d i k k' c) n k k' c a
  have := hβ k'
  omega
theorem look_all {N t cn : Nat} {sg : Nat → Int} {S w h ms cr : Nat} (hN : 1000 ≤ N) (ht : t ∈ tL) (hT : ST S w h) (hms : ms ≤ 20) (hX : TX cn sg) (hcr : cr = lr sg 0 cn) : ∀ d, d ≤ 4 → ∀ i, wf sg d i = true → LkP N t cn sg S w h ms cr d i := by
  have hcn := hX.1
  have hw2 := hT.2.1.2
  -- the head of a look
  have head : ∀ (D x fr to i : Nat) (m : jm_M), x ≤ 4 → i < cn → GRr m t cn sg S w h ms cr → ∃ v, (i + 1 < cn → v = nx sg i) ∧ f_X5_look N shC (D + 1) 112 (i : Int) (x : Int) fr to m = (if sg i = 45 then Option.bind (f_X5_copy N shC 112 fr to m) (fun q => some q) else if sg i = 59 then Option.bind (f_X5_look N shC D 112 (v : Int) ((x + 1 : Nat) : Int) fr (116 + x) m) (fun q => Option.bind (f_X5_look N shC D 112 ((i + 1 : Nat) : Int) ((x + 1 : Nat) : Int) (116 + x) to q) (fun q => some q)) else if sg i = 63 then Option.bind (f_X5_look N shC D 112 ((i + 1 : Nat) : Int) ((x + 1 : Nat) : Int) fr to m) (fun q35 => Option.bind (f_X5_look N shC D 112 (v : Int) ((x + 1 : Nat) : Int) fr (116 + x) q35) (fun q38 => Option.bind (f_X5_raise N shC 112 to (116 + x) q38) (fun q => some q))) else if 98 ≤ sg i ∧ sg i ≤ 100 then Option.bind (f_X5_lookLoop N shC (f_X5_look N shC D) 112 (i : Int) (x : Int) fr to m) (fun q => some q) else Option.bind (f_X10_lineAt shC t (i : Int) m) (fun q48 => Option.bind (f_X5_lookFetch N shC 112 q48 fr to m) (fun q => some q))) := by
    intro D x fr to i m hx hi hG
    obtain ⟨g1, g2, g3, g4, g5⟩ := id hG
    obtain ⟨v, e2, ev⟩ := s_second g1 ht hX g2 hi
    have ht1 := (tC g1 t ht).1
    obtain ⟨b1, b2⟩ := bw_row g1 (show x < 5 by omega)
    refine ⟨v, ev, ?_⟩
    show f_X5_look_e N shC (f_X5_look N shC D) 112 (i : Int) (x : Int) fr to m = _
    unfold f_X5_look_e
    have hx5 : (x : Int) < ((5 : Nat) : Int) := by omega
    rw [if_neg (by omega), jrf_ok sC112, Option.bind_some, g1.t112_8, jlen_ok sC115 (by decide) (by decide) (by decide), Option.bind_some, if_pos hx5, Option.bind_some, g1.t112_8, jra_ok sC115 (by omega) (by omega), Option.bind_some, Int.toNat_natCast, b1, jrf_ok sC112, Option.bind_some, g4, Int.toNat_natCast, jck_ok ht1, Option.bind_some, s_first (by omega), Option.bind_some, Option.bind_some, Int.toNat_natCast, jck_ok ht1, Option.bind_some, e2, Option.bind_some, Option.bind_some, Int.toNat_natCast, jck_ok ht1, Option.bind_some, s_sg g1 ht g2 hcn hi, Option.bind_some, jw_succ (by omega)]
    by_cases c45 : sg i = 45
    · rw [if_pos c45.symm, if_pos c45, jck_ok sC112, Option.bind_some]
    · rw [if_neg (fun q => c45 q.symm), if_neg c45]
      by_cases c59 : sg i = 59
      · rw [if_pos c59.symm, if_pos c59]
        simp only [jck_ok sC112, Option.bind_some]
      · rw [if_neg (fun q => c59 q.symm), if_neg c59]
        by_cases c63 : sg i = 63
        · rw [if_pos c63.symm, if_pos c63]
          simp only [jck_ok sC112, Option.bind_some]
        · rw [if_neg (fun q => c63 q.symm), if_neg c63]
          by_cases cl : 98 ≤ sg i ∧ sg i ≤ 100
          · rw [if_pos cl]
            unfold f_X5_look_b171
            rw [jck_ok sC112, Option.bind_some]
            by_cases q1 : (98 : Int) = sg i
            · rw [if_pos q1]
            · rw [if_neg q1]
              by_cases q2 : (99 : Int) = sg i
              · rw [if_pos q2]
              · rw [if_neg q2, if_pos (by omega)]
          · rw [if_neg (by omega), if_neg (by omega), if_neg (by omega), if_neg cl]
            simp only [jck_ok sC112, Option.bind_some, g4, Int.toNat_natCast, jck_ok ht1]
  refine wf_ind sg (LkP N t cn sg S w h ms cr) ?_ ?_ ?_
  · intro d i hd hl hz D x fr to B β m hD hx hfr hto hne hfx htx hi hG hA hAB hB
    have hic : i < cn := by omega
    obtain ⟨D, rfl⟩ : ∃ D', D = D' + 1 := ⟨D - 1, by omega⟩
    obtain ⟨v, ev, e⟩ := head D x fr to i m (by omega) hic hG
    rw [e, lk_leaf hl]
    rw [isLf_iff] at hl
    by_cases c45 : sg i = 45
    · obtain ⟨M, e1, a1, a2⟩ := s_copyW hN ht hT hG hfr hto hne
      rw [if_pos c45, e1]
      refine ⟨M, rfl, fun k c hk => ?_, fun a h1 _ j => a2 a h1 j⟩
      have el : lkL S w h ms (sg i) β k = β k := if_neg (by omega)
      rw [a1 c (hk.lt hw2).2, el]
      exact hA k c hk
    · have hs : 48 ≤ sg i ∧ sg i ≤ 55 := by omega
      have hcl : hb cr (lnO (sg i)) = true := by rw [hcr]; exact lr_bit cn i hic hs
      obtain ⟨M, e1, a1, a2⟩ := s_fetchW (l := lnO (sg i)) hN ht hT (ln_lt hs) hcl hG hfr hto hne
      rw [if_neg c45, if_neg (by omega), if_neg (by omega), if_neg (by omega), s_line hG.1 ht hG.2.1 hcn hic hs, Option.bind_some, e1]
      refine ⟨M, rfl, fun k c hk => ?_, fun a h1 _ j => a2 a h1 j⟩
      have el : lkL S w h ms (sg i) β k = β (fK S w h k (lnO (sg i))) + cs S h ms k (lnO (sg i)) := if_pos hs
      obtain ⟨r1, r2⟩ := hk.fetch hT.1 hw2 (ln_lt hs) hcl
      have hb := hAB (fK S w h k (lnO (sg i)))
      have p4 : (ms + 1) * 1 ≤ (ms + 1) * 4 ^ d := Nat.mul_le_mul_left _ (Nat.pow_pos (by decide))
      rw [a1 c (hk.lt hw2).2, hA _ _ r1, el]
      unfold cs
      rw [r2]
      by_cases c : tC' S w h cr c (lnO (sg i)) = true
      · rw [if_pos c, if_pos c, jw_eq (by omega) (by omega)]; omega
      · rw [if_neg c, if_neg c, jw_eq (by omega) (by omega)]; omega
  · intro d i hd hs hz hw ih D x fr to B β m hD hx hfr hto hne hfx htx hi hG hA hAB hB
    have hic : i < cn := by omega
    have hzp := zs_pos sg 4 (i + 1)
    rw [mul4] at hB
    have htm := tm_le hs
    obtain ⟨D, rfl⟩ : ∃ D', D = D' + 1 := ⟨D - 1, by omega⟩
    obtain ⟨v, ev, e⟩ := head D x fr to i m (by omega) hic hG
    obtain ⟨b1, b2⟩ := bw_row hG.1 (show x < 5 by omega)
    rw [e, lk_loop hs, if_neg (by omega), if_neg (by omega), if_neg (by omega), if_pos hs]
    obtain ⟨M1, e1, a1, a2⟩ := s_copyW hN ht hT hG hfr hto hne
    have hmt : to ≠ 116 + x := by omega
    obtain ⟨M2, n2, e2, i1, i2⟩ := loopN (fun g y m => f_X5_lookLoop_l28 N shC (f_X5_look N shC D) g 112 (i : Int) (x : Int) to (116 + x) (tmO (sg i) : Int) y m) (tmO (sg i)) (fun j M' => TBc M' S w h cr to (lm (lk S w h ms sg d (i + 1)) β j) ∧ FrB m M' to x) (by
      intro g j M' hj ⟨k1, k2⟩
      have hG' := k2.G hG ht hto (by omega)
      have hbj : ∀ k, lm (lk S w h ms sg d (i + 1)) β j k ≤ B + 3 * ((ms + 1) * 4 ^ d) := fun k => by
        have := lm_B (ms := ms) hT (show d ≤ 4 by omega) hw hAB j k
        have h3 : j * ((ms + 1) * 4 ^ d) ≤ 3 * ((ms + 1) * 4 ^ d) := Nat.mul_le_mul_right _ (by omega)
        omega
      obtain ⟨M3, c1, c2, c3⟩ := ih D (x + 1) to (116 + x) (B + 3 * ((ms + 1) * 4 ^ d)) (lm (lk S w h ms sg d (i + 1)) β j) M' (by omega) (by omega) hto b2 hmt (by omega) (by omega) (by omega) hG' k1 hbj (by omega)
      have hG3 := c3.G hG' ht b2 (by omega)
      have k1' : TBc M3 S w h cr to (lm (lk S w h ms sg d (i + 1)) β j) := k1.same (fun jj => c3 to hmt (by omega) jj)
      obtain ⟨M4, d1, d2, d3⟩ := s_raiseW hN ht hT hG3 b2 hto (fun z => hmt z.symm)
      refine ⟨M4, ?_, fun k c hk => ?_, fun a h1 h2 jj => ?_⟩
      · show f_X5_lookLoop_b28 N shC (f_X5_look N shC D) (f_X5_lookLoop_l28 N shC (f_X5_look N shC D) g) 112 (i : Int) (x : Int) to (116 + x) (tmO (sg i) : Int) j M' = _
        unfold f_X5_lookLoop_b28
        rw [if_pos (by omega), jrf_ok sC112, Option.bind_some, hG'.2.2.2.1, Int.toNat_natCast, jck_ok (tC hG'.1 t ht).1, Option.bind_some, s_first (by omega), Option.bind_some, jck_ok sC112, Option.bind_some, jw_succ (by omega), c1, Option.bind_some, Option.bind_some, d1, Option.bind_some, jw_succ (by omega)]
      · rw [d2 c (hk.lt hw2).2, k1' k c hk, c2 k c hk]
        have el : lm (lk S w h ms sg d (i + 1)) β (j + 1) k = if lm (lk S w h ms sg d (i + 1)) β j k < lk S w h ms sg d (i + 1) (lm (lk S w h ms sg d (i + 1)) β j) k then lk S w h ms sg d (i + 1) (lm (lk S w h ms sg d (i + 1)) β j) k else lm (lk S w h ms sg d (i + 1)) β j k := rfl
        rw [el]
        by_cases c : lm (lk S w h ms sg d (i + 1)) β j k < lk S w h ms sg d (i + 1) (lm (lk S w h ms sg d (i + 1)) β j) k
        · rw [if_pos (by omega), if_pos c]
        · rw [if_neg (by omega), if_neg c]
      · rw [d3 a h1, c3 a (by omega) (by omega)]; exact k2 a h1 h2 jj) 0 N M1 (Nat.zero_le _) (by omega) ⟨fun k c hk => by rw [a1 c (hk.lt hw2).2]; exact hA k c hk, fun a h1 _ j => a2 a h1 j⟩
    refine ⟨M2, ?_, i1, i2⟩
    unfold f_X5_lookLoop
    rw [jrf_ok sC112, Option.bind_some, hG.1.t112_8, jra_ok sC115 (by omega) (by omega), Option.bind_some, Int.toNat_natCast, b1, jrf_ok sC112, Option.bind_some, hG.2.2.2.1, Int.toNat_natCast, jck_ok (tC hG.1 t ht).1, Option.bind_some, s_times hG.1 ht hG.2.1 hcn hic hs, Option.bind_some, jck_ok sC112, Option.bind_some, e1, Option.bind_some]
    have e2 : f_X5_lookLoop_l28 N shC (f_X5_look N shC D) N 112 (i : Int) (x : Int) to (116 + x) (tmO (sg i) : Int) 0 M1 = f_X5_lookLoop_l28 N shC (f_X5_look N shC D) (n2 + 1) 112 (i : Int) (x : Int) to (116 + x) (tmO (sg i) : Int) (tmO (sg i) : Int) M2 := e2
    have e3 : f_X5_lookLoop_l28 N shC (f_X5_look N shC D) (n2 + 1) 112 (i : Int) (x : Int) to (116 + x) (tmO (sg i) : Int) (tmO (sg i) : Int) M2 = some M2 := by
      show f_X5_lookLoop_b28 N shC (f_X5_look N shC D) (f_X5_lookLoop_l28 N shC (f_X5_look N shC D) n2) 112 (i : Int) (x : Int) to (116 + x) (tmO (sg i) : Int) (tmO (sg i) : Int) M2 = _
      unfold f_X5_lookLoop_b28
      rw [if_neg (by omega)]
    rw [e2, e3, Option.bind_some]
  · intro d i hd hs hz hw hw3 ih ih2 D x fr to B β m hD hx hfr hto hne hfx htx hi hG hA hAB hB
    have hic : i < cn := by omega
    have hzp := zs_pos sg 4 (i + 1)
    have hzp2 := zs_pos sg 4 (nx sg i)
    have hnx : nx sg i = i + 1 + zs sg 4 (i + 1) := rfl
    rw [mul4] at hB
    obtain ⟨D, rfl⟩ : ∃ D', D = D' + 1 := ⟨D - 1, by omega⟩
    obtain ⟨v, ev, e⟩ := head D x fr to i m (by omega) hic hG
    obtain ⟨b1, b2⟩ := bw_row hG.1 (show x < 5 by omega)
    obtain rfl := ev (by omega)
    rw [e]
    rcases hs with hs | hs
    · rw [if_neg (by omega), if_pos hs, lk_seq hs]
      have hb2 := lk_B (ms := ms) hT (show d ≤ 4 by omega) hw3 hAB
      obtain ⟨M1, c1, c2, c3⟩ := ih2 D (x + 1) fr (116 + x) B β m (by omega) (by omega) hfr b2 (by omega) (by omega) (by omega) (by omega) hG hA hAB (by omega)
      have hG1 := c3.G hG ht b2 (by omega)
      obtain ⟨M2, d1, d2, d3⟩ := ih D (x + 1) (116 + x) to (B + (ms + 1) * 4 ^ d) (lk S w h ms sg d (nx sg i) β) M1 (by omega) (by omega) b2 hto (by omega) (by omega) (by omega) (by omega) hG1 c2 hb2 (by omega)
      refine ⟨M2, by rw [c1, Option.bind_some, d1, Option.bind_some], d2, fun a h1 h2 j => ?_⟩
      rw [d3 a h1 (by omega), c3 a (by omega) (by omega)]
    · rw [if_neg (by omega), if_neg (by omega), if_pos hs, lk_cho hs]
      obtain ⟨M1, c1, c2, c3⟩ := ih D (x + 1) fr to B β m (by omega) (by omega) hfr hto hne (by omega) (by omega) (by omega) hG hA hAB (by omega)
      have hG1 := c3.G hG ht hto (by omega)
      have hA1 : TBc M1 S w h cr fr β := hA.same (fun j => c3 fr hne (by omega) j)
      obtain ⟨M2, d1, d2, d3⟩ := ih2 D (x + 1) fr (116 + x) B β M1 (by omega) (by omega) hfr b2 (by omega) (by omega) (by omega) (by omega) hG1 hA1 hAB (by omega)
      have hG2 := d3.G hG1 ht b2 (by omega)
      obtain ⟨M3, e1, e2, e3⟩ := s_raiseW hN ht hT hG2 b2 hto (by omega)
      refine ⟨M3, by rw [c1, Option.bind_some, d1, Option.bind_some, e1, Option.bind_some], fun k c hk => ?_, fun a h1 h2 j => ?_⟩
      · rw [e2 c (hk.lt hw2).2, d3 to (by omega) (by omega), c2 k c hk, d2 k c hk]
        have el : lkC (lk S w h ms sg d (i + 1)) (lk S w h ms sg d (nx sg i)) β k = if lk S w h ms sg d (i + 1) β k < lk S w h ms sg d (nx sg i) β k then lk S w h ms sg d (nx sg i) β k else lk S w h ms sg d (i + 1) β k := rfl
        rw [el]
        by_cases c : lk S w h ms sg d (i + 1) β k < lk S w h ms sg d (nx sg i) β k
        · rw [if_pos (by omega), if_pos c]
        · rw [if_neg (by omega), if_neg c]
      · rw [e3 a h1, d3 a (by omega) (by omega), c3 a h1 (by omega)]
