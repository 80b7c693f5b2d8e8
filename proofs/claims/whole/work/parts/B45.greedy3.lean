theorem cons_app {x y : Nat} {D P Q : List Nat} (h : x :: D = P ++ y :: Q) : (P = [] ∧ y = x) ∨ ∃ P', P = x :: P' ∧ D = P' ++ y :: Q := by
  cases P with
  | nil =>
    rw [List.nil_append] at h
    injection h with h1 h2
    exact Or.inl ⟨rfl, h1.symm⟩
  | cons z P =>
    rw [List.cons_append] at h
    injection h with h1 h2
    exact Or.inr ⟨P, by rw [h1], h2⟩
theorem GdP_leaf {S w h ms : Nat} {s : Int} (hT : ST S w h) : GdP (KN S) (wkL true S w h ms s) (lkL S w h ms s) (gLf S w h s) := by
  intro β k v T hk hB
  refine ⟨fun rest fm => ?_, fun P x Q fm hD _ => absurd hD app_ne, fun P x Q e fm hD _ => absurd hD app_ne⟩
  have hf := (wkL_free (W := true) (ms := ms) (s := s) hT (sgX k v) T fm (inK_one hk) hB).1
  by_cases c : 48 ≤ s ∧ s ≤ 55
  · have e1 : (gLf S w h s β k).1 = fK S w h k (lnO s) := if_pos c
    have e2 : lkL S w h ms s β k = β (fK S w h k (lnO s)) + cs S h ms k (lnO s) := if_pos c
    have e3 : ∀ q : WS, wkL true S w h ms s q = (fAn true S w h ms (lnO s) q.1 (KN S), q.2) := fun q => if_pos c
    rw [e3] at hf
    refine ⟨v + cs S h ms k (lnO s), ?_, ?_, ?_, ?_⟩
    · rw [e3, e1]
      refine hf.ext fun k' v' _ => ⟨?_, ?_⟩
      · rintro ⟨k1, v1, c1, ⟨a1, a2⟩, b, e⟩
        unfold LfX at b
        rw [if_pos c] at b
        rw [a1] at b
        exact ⟨b.1, by rw [e, a2, b.2]⟩
      · rintro ⟨a1, a2⟩
        refine ⟨k, v, cs S h ms k (lnO s), ⟨rfl, rfl⟩, ?_, a2⟩
        unfold LfX
        rw [if_pos c]
        exact ⟨a1, rfl⟩
    · rw [e3]; rfl
    · rw [e1, e2]; omega
    · rw [e1]; exact fK_lt hT (ln_lt c) hk
  · have e1 : (gLf S w h s β k).1 = k := if_neg c
    have e2 : lkL S w h ms s β k = β k := if_neg c
    have e3 : ∀ q : WS, wkL true S w h ms s q = q := fun q => if_neg c
    refine ⟨v, ?_, ?_, ?_, ?_⟩
    · rw [e3, e1]; exact hB
    · rw [e3]; rfl
    · rw [e1, e2]
    · rw [e1]; exact hk
theorem GdP_cho {K : Nat} {f1 f2 : WS → WS} {F1 F2 : Bt → Bt} {g1 g2 : GwX} {R1 R2 : RX} (h1 : GdP K f1 F1 g1) (h2 : GdP K f2 F2 g2) (w1 : FreeW K R1 F1 f1) (w2 : FreeW K R2 F2 f2) : GdP K (wkC true f1 f2) (lkC F1 F2) (gCh F1 F2 g1 g2) := by
  intro β k v T hk hT
  have one : ∀ r fm, wkC true f1 f2 (T, 1 :: r, fm) = f2 (T, r, fm) := fun r fm => rfl
  have nul : ∀ r fm, wkC true f1 f2 (T, 0 :: r, fm) = f1 (T, r, fm) := fun r fm => rfl
  have free : ∀ fm : Int, fm < 0 → ∃ A : SX, inK K A ∧ BO true K A (wkC true f1 f2 (T, [], fm)).1 ∧ (wkC true f1 f2 (T, [], fm)).2 = ([], 2) ∧ MV A β (v + lkC F1 F2 β k) := fun fm hfm => by
    have ed : dgF 2 fm = 2 := if_pos hfm
    have e : wkC true f1 f2 (T, [], fm) = (jn true (f2 (T, (f1 (T, [], 2)).2)).1 (f1 (T, [], 2)).1, (f2 (T, (f1 (T, [], 2)).2)).2) := by rw [← ed]; rfl
    have e1 := w1.2.2.2 T 2 (by decide)
    rw [e1] at e
    rw [e, w2.2.2.2 T 2 (by decide)]
    have b1 := (w1.1 (sgX k v) T 2 (inK_one hk) hT).1
    have b2 := (w2.1 (sgX k v) T 2 (inK_one hk) hT).1
    have m1 := (MV.one (k := k) (v := v) (β := F1 β)).cmp w1.2.2.1
    have m2 := (MV.one (k := k) (v := v) (β := F2 β)).cmp w2.2.2.1
    refine ⟨uni (cmp (sgX k v) R2) (cmp (sgX k v) R1), inK_uni (inK_cmp (inK_one hk) w2.2.1) (inK_cmp (inK_one hk) w1.2.1), b2.jo b1, rfl, ?_⟩
    have el : lkC F1 F2 β k = if F1 β k < F2 β k then F2 β k else F1 β k := rfl
    by_cases c : F1 β k < F2 β k
    · rw [el, if_pos c]
      obtain ⟨⟨k', v', a, b⟩, q⟩ := m2
      refine ⟨⟨k', v', Or.inl a, b⟩, ?_⟩
      rintro k' v' (z | z)
      · exact q k' v' z
      · have := m1.2 k' v' z; omega
    · rw [el, if_neg c]
      obtain ⟨⟨k', v', a, b⟩, q⟩ := m1
      refine ⟨⟨k', v', Or.inr a, b⟩, ?_⟩
      rintro k' v' (z | z)
      · have := m2.2 k' v' z; omega
      · exact q k' v' z
  by_cases c : F1 β k < F2 β k
  · have eg : gCh F1 F2 g1 g2 β k = ((g2 β k).1, 1 :: (g2 β k).2) := if_pos c
    have el : lkC F1 F2 β k = F2 β k := if_pos c
    obtain ⟨p1, p2, p3⟩ := h2 β k v T hk hT
    rw [eg, el]
    refine ⟨fun rest fm => ?_, fun P x Q fm hD hfm => ?_, fun P x Q e fm hD he => ?_⟩
    · exact p1 rest fm
    · rcases cons_app hD with ⟨rfl, rfl⟩ | ⟨P', rfl, hD'⟩
      · obtain ⟨A, a1, a2, a3, a4⟩ := free fm hfm
        rw [el] at a4
        exact ⟨A, 2, a1, a2, a3, by decide, a4⟩
      · exact p2 P' x Q fm hD' hfm
    · rcases cons_app hD with ⟨rfl, rfl⟩ | ⟨P', rfl, hD'⟩
      · obtain rfl : e = 0 := by omega
        obtain ⟨a, b⟩ := w1.1 (sgX k v) T fm (inK_one hk) hT
        exact ⟨cmp (sgX k v) R1, v + F1 β k, inK_cmp (inK_one hk) w1.2.1, a, b, MV.one.cmp w1.2.2.1, by omega⟩
      · exact p3 P' x Q e fm hD' he
  · have eg : gCh F1 F2 g1 g2 β k = ((g1 β k).1, 0 :: (g1 β k).2) := if_neg c
    have el : lkC F1 F2 β k = F1 β k := if_neg c
    obtain ⟨p1, p2, p3⟩ := h1 β k v T hk hT
    rw [eg, el]
    refine ⟨fun rest fm => ?_, fun P x Q fm hD hfm => ?_, fun P x Q e fm hD he => ?_⟩
    · exact p1 rest fm
    · rcases cons_app hD with ⟨rfl, rfl⟩ | ⟨P', rfl, hD'⟩
      · obtain ⟨A, a1, a2, a3, a4⟩ := free fm hfm
        rw [el] at a4
        exact ⟨A, 2, a1, a2, a3, by decide, a4⟩
      · exact p2 P' x Q fm hD' hfm
    · rcases cons_app hD with ⟨rfl, rfl⟩ | ⟨P', rfl, hD'⟩
      · omega
      · exact p3 P' x Q e fm hD' he
theorem lpw_fm {W : Bool} {f : WS → WS} (hf : ∀ T fm, 0 ≤ fm → (f (T, [], fm)).2 = ([], fm)) : ∀ (n : Nat) (T U : Tb) (fm : Int), 0 ≤ fm → (lpw W f n (T, [], fm) U).2 = ([], fm) := by
  intro n
  induction n with
  | zero => intro T U fm _; rfl
  | succ n ih =>
    intro T U fm hfm
    have e : f (T, [], fm) = ((f (T, [], fm)).1, [], fm) := Prod.ext rfl (hf T fm hfm)
    show (lpw W f n (f (T, [], fm)) (jn W (f (T, [], fm)).1 U)).2 = _
    generalize jn W (f (T, [], fm)).1 U = U2
    rw [e]
    exact ih _ U2 fm hfm
theorem GdP_loop {K tm : Nat} {f : WS → WS} {F : Bt → Bt} {g : GwX} {R : RX} (h : GdP K f F g) (w : FreeW K R F f) : GdP K (wkO true f tm) (fun β => lm F β tm) (gLp F g tm) := by
  intro β k v T hk hT
  have eg : gLp F g tm β k = ((gI F g (amX F β k tm) β k).1, amX F β k tm :: (gI F g (amX F β k tm) β k).2) := rfl
  have hl : lm F β tm k = itB F β (amX F β k tm) k := lm_am w.2.2.1 β k tm
  have hle := amX_le (B := F) (β := β) (k := k) tm
  have hmx := amX_max (B := F) (β := β) (k := k) tm
  obtain ⟨p1, p2, p3⟩ := h.it w (amX F β k tm) β k v T hk hT
  rw [eg]
  dsimp only
  rw [hl]
  refine ⟨fun rest fm => ?_, fun P x Q fm hD hfm => ?_, fun P x Q e fm hD he => ?_⟩
  · exact p1 rest fm
  · rcases cons_app hD with ⟨rfl, rfl⟩ | ⟨P', rfl, hD'⟩
    · have ed : dgF ((tm + 1 : Nat) : Int) fm = ((tm + 1 : Nat) : Int) := if_pos hfm
      have e : wkO true f tm (T, [], fm) = lpw true f tm (T, [], ((tm + 1 : Nat) : Int)) T := by
        show lpw true f tm (T, [], dgF ((tm + 1 : Nat) : Int) fm) T = _
        rw [ed]
      have h0 : BO true K (cmp (sgX k v) (ItX R 0)) T := hT.ext fun k v _ => cmp_it0.symm
      have h1 : BO true K (upTo (sgX k v) R 0) T := hT.ext fun k v _ => ⟨fun a => ⟨0, Nat.le_refl _, cmp_it0.mpr a⟩, fun ⟨j, hj, a⟩ => by
        obtain rfl : j = 0 := by omega
        exact cmp_it0.mp a⟩
      have := lpw_free w.2.1 w.1 tm 0 (sgX k v) (T, [], ((tm + 1 : Nat) : Int)) T (inK_one hk) rfl h0 h1
      rw [Nat.zero_add] at this
      have m := (MV.one (k := k) (v := v) (β := lm F β tm)).cmp (w.2.2.1.lp tm) (β := β)
      rw [hl] at m
      refine ⟨cmp (sgX k v) (fun k k' c => ∃ j, j ≤ tm ∧ ItX R j k k' c), ((tm + 1 : Nat) : Int), inK_cmp (inK_one hk) (fun k k' c hk ⟨j, _, a⟩ => ItX_in w.2.1 j k k' c hk a), ?_, ?_, by omega, m⟩
      · rw [e]; exact this.1.ext fun k v _ => cmp_loop.symm
      · rw [e]; exact lpw_fm w.2.2.2 tm T T _ (by omega)
    · exact p2 P' x Q fm hD' hfm
  · rcases cons_app hD with ⟨rfl, rfl⟩ | ⟨P', rfl, hD'⟩
    · have we := w.it e
      obtain ⟨a, b⟩ := we.1 (sgX k v) T fm (inK_one hk) hT
      have := (hmx e (by omega)).2 he
      exact ⟨cmp (sgX k v) (ItX R e), v + itB F β e k, inK_cmp (inK_one hk) we.2.1, a, b, (MV.one (k := k) (v := v) (β := itB F β e)).cmp we.2.2.1 (β := β), by omega⟩
    · exact p3 P' x Q e fm hD' he
theorem lk_seq {S w h ms : Nat} {sg : Nat → Int} {d i : Nat} (hs : sg i = 59) : lk S w h ms sg (d + 1) i = fun β => lk S w h ms sg d (i + 1) (lk S w h ms sg d (nx sg i) β) := by
  funext β
  show (if sg i = 59 then _ else _) = _
  rw [if_pos hs]
theorem lk_cho {S w h ms : Nat} {sg : Nat → Int} {d i : Nat} (hs : sg i = 63) : lk S w h ms sg (d + 1) i = lkC (lk S w h ms sg d (i + 1)) (lk S w h ms sg d (nx sg i)) := by
  funext β
  show (if sg i = 59 then _ else if sg i = 63 then _ else _) = _
  rw [if_neg (by omega), if_pos hs]
theorem lk_loop {S w h ms : Nat} {sg : Nat → Int} {d i : Nat} (hs : 98 ≤ sg i ∧ sg i ≤ 100) : lk S w h ms sg (d + 1) i = fun β => lm (lk S w h ms sg d (i + 1)) β (tmO (sg i)) := by
  funext β
  show (if sg i = 59 then _ else if sg i = 63 then _ else if 98 ≤ sg i ∧ sg i ≤ 100 then _ else _) = _
  rw [if_neg (by omega), if_neg (by omega), if_pos hs]
theorem lk_leaf {S w h ms : Nat} {sg : Nat → Int} {d i : Nat} (hl : isLf (sg i) = true) : lk S w h ms sg d i = lkL S w h ms (sg i) := by
  cases d with
  | zero => rfl
  | succ d =>
    rw [isLf_iff] at hl
    funext β
    show (if sg i = 59 then _ else _) = _
    rw [if_neg (by omega), if_neg (by omega), if_neg (by omega)]
theorem gr_seq {S w h ms : Nat} {sg : Nat → Int} {d i : Nat} (hs : sg i = 59) : gr S w h ms sg (d + 1) i = gSq (lk S w h ms sg d (nx sg i)) (gr S w h ms sg d (i + 1)) (gr S w h ms sg d (nx sg i)) := by
  show (if sg i = 59 then _ else _) = _
  rw [if_pos hs]
theorem gr_cho {S w h ms : Nat} {sg : Nat → Int} {d i : Nat} (hs : sg i = 63) : gr S w h ms sg (d + 1) i = gCh (lk S w h ms sg d (i + 1)) (lk S w h ms sg d (nx sg i)) (gr S w h ms sg d (i + 1)) (gr S w h ms sg d (nx sg i)) := by
  show (if sg i = 59 then _ else if sg i = 63 then _ else _) = _
  rw [if_neg (by omega), if_pos hs]
theorem gr_loop {S w h ms : Nat} {sg : Nat → Int} {d i : Nat} (hs : 98 ≤ sg i ∧ sg i ≤ 100) : gr S w h ms sg (d + 1) i = gLp (lk S w h ms sg d (i + 1)) (gr S w h ms sg d (i + 1)) (tmO (sg i)) := by
  show (if sg i = 59 then _ else if sg i = 63 then _ else if 98 ≤ sg i ∧ sg i ≤ 100 then _ else _) = _
  rw [if_neg (by omega), if_neg (by omega), if_pos hs]
theorem gr_leaf {S w h ms : Nat} {sg : Nat → Int} {d i : Nat} (hl : isLf (sg i) = true) : gr S w h ms sg d i = gLf S w h (sg i) := by
  cases d with
  | zero => rfl
  | succ d =>
    rw [isLf_iff] at hl
    show (if sg i = 59 then _ else _) = _
    rw [if_neg (by omega), if_neg (by omega), if_neg (by omega)]
theorem LKS_leaf {S w h ms : Nat} {s : Int} : LKS (LfX S w h ms s) (lkL S w h ms s) := by
  intro β k
  unfold LfX lkL
  by_cases c : 48 ≤ s ∧ s ≤ 55
  · rw [if_pos c]
    refine ⟨⟨fK S w h k (lnO s), cs S h ms k (lnO s), by rw [if_pos c]; exact ⟨rfl, rfl⟩, by omega⟩, fun k' c' z => ?_⟩
    rw [if_pos c] at z
    rw [z.1, z.2]; omega
  · rw [if_neg c]
    refine ⟨⟨k, 0, by rw [if_neg c]; exact ⟨rfl, rfl⟩, by omega⟩, fun k' c' z => ?_⟩
    rw [if_neg c] at z
    rw [z.1, z.2]; omega
theorem LKS.ch {R1 R2 : RX} {F1 F2 : Bt → Bt} (h1 : LKS R1 F1) (h2 : LKS R2 F2) : LKS (fun k k' c => R1 k k' c ∨ R2 k k' c) (lkC F1 F2) := by
  intro β k
  have el : lkC F1 F2 β k = if F1 β k < F2 β k then F2 β k else F1 β k := rfl
  by_cases c : F1 β k < F2 β k
  · rw [el, if_pos c]
    obtain ⟨⟨k', c', a, b⟩, q⟩ := h2 β k
    refine ⟨⟨k', c', Or.inr a, b⟩, ?_⟩
    rintro k' c' (z | z)
    · have := (h1 β k).2 k' c' z; omega
    · exact q k' c' z
  · rw [el, if_neg c]
    obtain ⟨⟨k', c', a, b⟩, q⟩ := h1 β k
    refine ⟨⟨k', c', Or.inl a, b⟩, ?_⟩
    rintro k' c' (z | z)
    · exact q k' c' z
    · have := (h2 β k).2 k' c' z; omega
theorem wk_all {S w h ms : Nat} {sg : Nat → Int} (hT : ST S w h) : ∀ d, d ≤ 4 → ∀ i, wf sg d i = true → FreeW (KN S) (Rx S w h ms sg d i) (lk S w h ms sg d i) (wk true S w h ms sg d i) ∧ GdP (KN S) (wk true S w h ms sg d i) (lk S w h ms sg d i) (gr S w h ms sg d i) := by
  have key : ∀ d, d ≤ 4 → ∀ i, wf sg d i = true → (FrW true (KN S) (Rx S w h ms sg d i) (wk true S w h ms sg d i) → FreeW (KN S) (Rx S w h ms sg d i) (lk S w h ms sg d i) (wk true S w h ms sg d i) ∧ GdP (KN S) (wk true S w h ms sg d i) (lk S w h ms sg d i) (gr S w h ms sg d i)) := by
    refine wf_ind sg (fun d i => FrW true (KN S) (Rx S w h ms sg d i) (wk true S w h ms sg d i) → FreeW (KN S) (Rx S w h ms sg d i) (lk S w h ms sg d i) (wk true S w h ms sg d i) ∧ GdP (KN S) (wk true S w h ms sg d i) (lk S w h ms sg d i) (gr S w h ms sg d i)) ?_ ?_ ?_
    · intro d i hd hl hz hf
      have ew : wk true S w h ms sg d i = wkL true S w h ms (sg i) := funext fun q => wk_leaf hl
      rw [ew] at hf ⊢
      rw [Rx_leaf hl] at hf ⊢
      rw [lk_leaf hl, gr_leaf hl]
      refine ⟨⟨hf, LfX_in hT, LKS_leaf, fun T fm _ => ?_⟩, GdP_leaf hT⟩
      unfold wkL
      split <;> rfl
    · intro d i hd hs hz hw ih hf
      obtain ⟨w1, g1⟩ := ih (wk_free hT d (by omega) (i + 1) hw)
      have ew : wk true S w h ms sg (d + 1) i = wkO true (wk true S w h ms sg d (i + 1)) (tmO (sg i)) := funext fun q => wk_loop hs
      rw [gr_loop hs, lk_loop hs]
      refine ⟨⟨hf, Rx_in hT (d + 1) i, by rw [Rx_loop hs]; exact w1.2.2.1.lp (tmO (sg i)), fun T fm hfm => ?_⟩, by rw [ew]; exact GdP_loop g1 w1⟩
      rw [ew]
      show (lpw true (wk true S w h ms sg d (i + 1)) (tmO (sg i)) (T, [], dgF _ fm) T).2 = _
      rw [show dgF ((tmO (sg i) + 1 : Nat) : Int) fm = fm from if_neg (by omega)]
      exact lpw_fm w1.2.2.2 _ T T fm hfm
    · intro d i hd hs hz hw hw2 ih ih2 hf
      obtain ⟨w1, g1⟩ := ih (wk_free hT d (by omega) (i + 1) hw)
      obtain ⟨w2, g2⟩ := ih2 (wk_free hT d (by omega) (nx sg i) hw2)
      rcases hs with hs | hs
      · have ew : wk true S w h ms sg (d + 1) i = fun q => wk true S w h ms sg d (nx sg i) (wk true S w h ms sg d (i + 1) q) := funext fun q => wk_seq hs
        rw [ew, gr_seq hs, lk_seq hs, Rx_seq hs]
        exact ⟨w1.sq w2, g1.sq g2 w2⟩
      · have ew : wk true S w h ms sg (d + 1) i = wkC true (wk true S w h ms sg d (i + 1)) (wk true S w h ms sg d (nx sg i)) := funext fun q => wk_cho hs
        rw [gr_cho hs, lk_cho hs]
        refine ⟨⟨hf, Rx_in hT (d + 1) i, by rw [Rx_cho hs]; exact w1.2.2.1.ch w2.2.2.1, fun T fm hfm => ?_⟩, by rw [ew]; exact GdP_cho g1 g2 w1 w2⟩
        rw [ew]
        show (wk true S w h ms sg d (nx sg i) (T, (wk true S w h ms sg d (i + 1) (T, [], dgF 2 fm)).2)).2 = _
        rw [show dgF 2 fm = fm from if_neg (by omega), w1.2.2.2 T fm hfm]
        exact w2.2.2.2 T fm hfm
  intro d hd i hw
  exact key d hd i hw (wk_free hT d hd i hw)
