/-! tasks: worst, periods, what breaking off costs -/
def twA (wr per : Nat → Nat) (bk : Nat → Nat → Nat) (p t : Nat) : Nat → Nat
  | 0 => wr p
  | q + 1 => twA wr per bk p t q + (if 0 < per q then (t + per q - 1) / per q * (wr q + bk q p) else 0)
def tw (wr per : Nat → Nat) (bk : Nat → Nat → Nat) (p t : Nat) : Nat := twA wr per bk p t p
def dnF (wr per : Nat → Nat) (bk : Nat → Nat → Nat) (p : Nat) : Nat → Nat → Int
  | 0 => fun _ => -5
  | r + 1 => fun t => if per p < t then -5 else if tw wr per bk p t = t then (t : Int) else dnF wr per bk p r (tw wr per bk p t)
theorem twA_mono {wr wr' per : Nat → Nat} {bk bk' : Nat → Nat → Nat} {p t t' : Nat} (hw : ∀ q, wr q ≤ wr' q) (hb : ∀ q l, bk q l ≤ bk' q l) (ht : t ≤ t') : ∀ q, twA wr per bk p t q ≤ twA wr' per bk' p t' q := by
  intro q
  induction q with
  | zero => exact hw p
  | succ q ih =>
    show twA wr per bk p t q + _ ≤ twA wr' per bk' p t' q + _
    by_cases c : 0 < per q
    · rw [if_pos c, if_pos c]
      have h1 : (t + per q - 1) / per q ≤ (t' + per q - 1) / per q := Nat.div_le_div_right (by omega)
      have h2 := Nat.mul_le_mul h1 (show wr q + bk q p ≤ wr' q + bk' q p by have := hw q; have := hb q p; omega)
      omega
    · rw [if_neg c, if_neg c]; omega
theorem tw_ge {wr per : Nat → Nat} {bk : Nat → Nat → Nat} {p t : Nat} : wr p ≤ tw wr per bk p t := by
  have : ∀ q, wr p ≤ twA wr per bk p t q := fun q => by
    induction q with
    | zero => exact Nat.le_refl _
    | succ q ih => show wr p ≤ twA wr per bk p t q + _; omega
  exact this p
/-- not late: there is a time that stays -/
theorem dn_fix {wr per : Nat → Nat} {bk : Nat → Nat → Nat} {p : Nat} : ∀ r t, t ≤ tw wr per bk p t → dnF wr per bk p r t ≠ -5 → ∃ f, t ≤ f ∧ f ≤ per p ∧ tw wr per bk p f = f := by
  intro r
  induction r with
  | zero => intro t _ h; exact absurd rfl h
  | succ r ih =>
    intro t ht h
    have e : dnF wr per bk p (r + 1) t = if per p < t then -5 else if tw wr per bk p t = t then (t : Int) else dnF wr per bk p r (tw wr per bk p t) := rfl
    rw [e] at h
    by_cases c : per p < t
    · rw [if_pos c] at h; exact absurd rfl h
    · rw [if_neg c] at h
      by_cases c2 : tw wr per bk p t = t
      · exact ⟨t, Nat.le_refl _, by omega, c2⟩
      · rw [if_neg c2] at h
        obtain ⟨f, a, b, d⟩ := ih (tw wr per bk p t) (twA_mono (fun _ => Nat.le_refl _) (fun _ _ => Nat.le_refl _) ht p) h
        exact ⟨f, by omega, b, d⟩
theorem dn_of {wr per : Nat → Nat} {bk : Nat → Nat → Nat} {p f : Nat} (hf : f ≤ per p) (hs : ∀ t, t ≤ f → tw wr per bk p t ≤ f) : ∀ r t, t ≤ tw wr per bk p t → t ≤ f → per p < r + t → dnF wr per bk p r t ≠ -5 := by
  intro r
  induction r with
  | zero => intro t _ h1 h2; omega
  | succ r ih =>
    intro t ht h1 h2
    have e : dnF wr per bk p (r + 1) t = if per p < t then -5 else if tw wr per bk p t = t then (t : Int) else dnF wr per bk p r (tw wr per bk p t) := rfl
    rw [e, if_neg (by omega)]
    by_cases c2 : tw wr per bk p t = t
    · rw [if_pos c2]; omega
    · rw [if_neg c2]
      exact ih _ (twA_mono (fun _ => Nat.le_refl _) (fun _ _ => Nat.le_refl _) ht p) (hs t h1) (by omega)
/-- with less of all, nothing is late that was not -/
theorem dn_less {wr wr' per : Nat → Nat} {bk bk' : Nat → Nat → Nat} {p : Nat} (hw : ∀ q, wr q ≤ wr' q) (hb : ∀ q l, bk q l ≤ bk' q l) (hp : per p ≤ 9999) (h : dnF wr' per bk' p 10000 (wr' p) ≠ -5) : dnF wr per bk p 10000 (wr p) ≠ -5 := by
  obtain ⟨f, a, b, c⟩ := dn_fix 10000 (wr' p) tw_ge h
  refine dn_of b (fun t ht => ?_) 10000 (wr p) tw_ge (Nat.le_trans (hw p) a) (by omega)
  have h1 : tw wr per bk p t ≤ tw wr' per bk' p f := twA_mono hw hb ht p
  omega
/-- the count of rounds does not matter -/
theorem dn_rounds {wr per : Nat → Nat} {bk : Nat → Nat → Nat} {p : Nat} : ∀ r r' t, t ≤ tw wr per bk p t → per p < r + t → per p < r' + t → dnF wr per bk p r t = dnF wr per bk p r' t := by
  intro r
  induction r with
  | zero =>
    intro r' t ht h1 h2
    cases r' with
    | zero => rfl
    | succ r' =>
      show (-5 : Int) = if per p < t then -5 else _
      rw [if_pos (by omega)]
  | succ r ih =>
    intro r' t ht h1 h2
    cases r' with
    | zero =>
      show (if per p < t then (-5 : Int) else _) = -5
      rw [if_pos (by omega)]
    | succ r' =>
      show (if per p < t then (-5 : Int) else if tw wr per bk p t = t then (t : Int) else dnF wr per bk p r (tw wr per bk p t)) = (if per p < t then (-5 : Int) else if tw wr per bk p t = t then (t : Int) else dnF wr per bk p r' (tw wr per bk p t))
      by_cases c : per p < t
      · rw [if_pos c, if_pos c]
      · rw [if_neg c, if_neg c]
        by_cases c2 : tw wr per bk p t = t
        · rw [if_pos c2, if_pos c2]
        · rw [if_neg c2, if_neg c2]
          exact ih r' _ (twA_mono (fun _ => Nat.le_refl _) (fun _ _ => Nat.le_refl _) ht p) (by omega) (by omega)
/-! the worst of a program -/
theorem BV_ex {W : Bool} {S w h ms cn : Nat} {sg : Nat → Int} (hT : ST S w h) (hX : TX cn sg) : ∃ v, BV W (AX S w h ms sg) v := by
  obtain ⟨v, _, b⟩ := bst_BV hT (wk_AX (W := W) (ms := ms) (fm := -6) hT hX)
  exact ⟨v, b⟩
noncomputable def wst (S w h ms : Nat) (sg : Nat → Int) : Nat := @dite Nat (∃ v, BV true (AX S w h ms sg) v) (Classical.propDecidable _) (fun q => q.choose) (fun _ => 0)
theorem wst_BV {S w h ms cn : Nat} {sg : Nat → Int} (hT : ST S w h) (hX : TX cn sg) : BV true (AX S w h ms sg) (wst S w h ms sg) := by
  have q := BV_ex (W := true) (ms := ms) hT hX
  unfold wst
  rw [dif_pos q]
  exact q.choose_spec
theorem wst_le {S w h ms cn : Nat} {sg : Nat → Int} (hT : ST S w h) (hX : TX cn sg) (hms : ms ≤ 20) : wst S w h ms sg ≤ 5376 := by
  obtain ⟨k, a⟩ := (wst_BV (ms := ms) hT hX).1
  have h1 := AX_le a
  have h2 : (ms + 1) * 4 ^ 4 ≤ 21 * 4 ^ 4 := Nat.mul_le_mul_right _ (by omega)
  omega
theorem Rx_ms {S w h ms ms' : Nat} {sg : Nat → Int} (hm : ms ≤ ms') (h1 : 1 ≤ ms') : ∀ d i k k' c, Rx S w h ms sg d i k k' c → ∃ c', c ≤ c' ∧ Rx S w h ms' sg d i k k' c' := by
  have hL : ∀ s k k' c, LfX S w h ms s k k' c → ∃ c', c ≤ c' ∧ LfX S w h ms' s k k' c' := by
    intro s k k' c hr
    unfold LfX at hr ⊢
    by_cases q : 48 ≤ s ∧ s ≤ 55
    · rw [if_pos q] at hr
      refine ⟨cs S h ms' k (lnO s), ?_, by rw [if_pos q]; exact ⟨hr.1, rfl⟩⟩
      rw [hr.2]; unfold cs; split <;> omega
    · rw [if_neg q] at hr
      exact ⟨c, Nat.le_refl _, by rw [if_neg q]; exact hr⟩
  intro d
  induction d with
  | zero => intro i k k' c hr; exact hL _ k k' c hr
  | succ d ih =>
    intro i k k' c hr
    by_cases c1 : sg i = 59
    · rw [Rx_seq c1] at hr ⊢
      obtain ⟨k1, v1, v2, a, b, e⟩ := hr
      obtain ⟨u1, a1, a2⟩ := ih _ _ _ _ a
      obtain ⟨u2, b1, b2⟩ := ih _ _ _ _ b
      exact ⟨u1 + u2, by omega, k1, u1, u2, a2, b2, rfl⟩
    · by_cases c2 : sg i = 63
      · rw [Rx_cho c2] at hr ⊢
        rcases hr with hr | hr
        · obtain ⟨u1, a1, a2⟩ := ih _ _ _ _ hr; exact ⟨u1, a1, Or.inl a2⟩
        · obtain ⟨u1, a1, a2⟩ := ih _ _ _ _ hr; exact ⟨u1, a1, Or.inr a2⟩
      · by_cases c3 : 98 ≤ sg i ∧ sg i ≤ 100
        · rw [Rx_loop c3] at hr ⊢
          obtain ⟨n, hn, hr⟩ := hr
          have hI : ∀ n k k' c, ItX (Rx S w h ms sg d (i + 1)) n k k' c → ∃ c', c ≤ c' ∧ ItX (Rx S w h ms' sg d (i + 1)) n k k' c' := by
            intro n
            induction n with
            | zero => intro k k' c ⟨a, b⟩; exact ⟨c, Nat.le_refl _, a, b⟩
            | succ n ihn =>
              intro k k' c ⟨k1, v1, v2, a, b, e⟩
              obtain ⟨u1, a1, a2⟩ := ihn _ _ _ a
              obtain ⟨u2, b1, b2⟩ := ih _ _ _ _ b
              exact ⟨u1 + u2, by omega, k1, u1, u2, a2, b2, rfl⟩
          obtain ⟨c', e1, e2⟩ := hI n k k' c hr
          exact ⟨c', e1, n, hn, e2⟩
        · have e : ∀ ms, Rx S w h ms sg (d + 1) i = LfX S w h ms (sg i) := fun ms => by
            show (if sg i = 59 then _ else if sg i = 63 then _ else if 98 ≤ sg i ∧ sg i ≤ 100 then _ else _) = _
            rw [if_neg c1, if_neg c2, if_neg c3]
          rw [e] at hr ⊢
          exact hL _ k k' c hr
theorem wst_mono {S w h ms ms' cn : Nat} {sg : Nat → Int} (hT : ST S w h) (hX : TX cn sg) (hm : ms ≤ ms') (h1 : 1 ≤ ms') : wst S w h ms sg ≤ wst S w h ms' sg := by
  obtain ⟨k, a⟩ := (wst_BV (ms := ms) hT hX).1
  obtain ⟨c', b1, b2⟩ := Rx_ms hm h1 4 0 0 k _ a
  have := (wst_BV (ms := ms') hT hX).2 k c' b2
  unfold gd at this
  rw [if_pos rfl] at this
  omega
/-! the board's tasks -/
def ownO (q : jBd) (h p : Nat) : Nat := (jand (lr (q.2.2.1 p) 0 (q.2.1 p) : Int) (jxor (h : Int) (-1))).toNat
theorem ownO_spec (q : jBd) {h : Nat} (p : Nat) (hh : h < 256) : jand (lr (q.2.2.1 p) 0 (q.2.1 p) : Int) (jxor (h : Int) (-1)) = (ownO q h p : Int) ∧ ownO q h p < 256 := by
  obtain ⟨r, e, hr, _⟩ := andn_nat (lr_lt (q.2.2.1 p) 0 (q.2.1 p)) hh
  unfold ownO
  rw [e, Int.toNat_natCast]
  exact ⟨rfl, hr⟩
def bkO (S h ms : Nat) (q : jBd) (p l : Nat) : Nat := brk S (ownO q h p) (ownO q h l) * ms
theorem bkO_le {S h ms : Nat} {q : jBd} {p l : Nat} (hms : ms ≤ 20) : bkO S h ms q p l ≤ 160 := Nat.mul_le_mul (brk_le _ _ _) hms
theorem s_breakCost {N S h ms p l : Nat} {m : jm_M} {q : jBd} (hN : 100 ≤ N) (hF : CF m) (hV : VB q) (hB : CB m 2 q) (hS : isS S) (hh : h < 256) (hms : ms ≤ 20) (s0 : q.1 0 = (S : Int)) (s3 : q.1 3 = (h : Int)) (hp : p < 4) (hl : l < 4) : f_X9_breakCost N shC 190 (p : Int) (l : Int) (ms : Int) m = some (bkO S h ms q p l : Int) := by
  have g0 : f_X1_setting shC 2 0 m = some (S : Int) := by
    rw [s_setting hF two_bL (by decide) (by decide)]
    show some (m 3 0) = _
    rw [hB.1 0 (by decide), s0]
  have g3 : f_X1_setting shC 2 3 m = some (h : Int) := by
    rw [s_setting hF two_bL (by decide) (by decide)]
    show some (m 3 3) = _
    rw [hB.1 3 (by decide), s3]
  have hp' := tL_of two_bL hp
  have hl' := tL_of two_bL hl
  have op := ownO_spec q p hh
  have ol := ownO_spec q l hh
  unfold f_X9_breakCost
  simp only [jrf_ok sC190, Option.bind_some, hF.t190_1, jck_ok sC2, g0, g3, s_textOf hF two_bL hp, s_textOf hF two_bL hl, jck_ok (tC hF _ hp').1, jck_ok (tC hF _ hl').1, s_allLines hF hp' (hV.2.1 p hp) (hB.2.1 p hp), s_allLines hF hl' (hV.2.1 l hl) (hB.2.1 l hl), op.1, ol.1]
  exact s_breakL (by omega) hS op.2 ol.2 hms
theorem sM_breaksOf {N S w h ms p l : Nat} {m : jm_M} {q : jBd} (hN : 100 ≤ N) (hF : MF m) (hV : VB q) (hs : SMm m S w h) (h2 : m 2 2 = (ms : Int)) (htx : ∀ p, p < 4 → m 4 p = (q.2.1 p : Int) ∧ ∀ i, i < q.2.1 p → m 5 (30 * p + i) = q.2.2.1 p i) (hS : isS S) (hh : h < 256) (hms : ms ≤ 20) (hp : p < 4) (hl : l < 4) : f_X12_breaksOf N shM 1 (p : Int) (l : Int) m = some (bkO S h ms q p l : Int) := by
  have op := ownO_spec q p hh
  have ol := ownO_spec q l hh
  have r3 : jra shM m 2 13 3 = some (h : Int) := by
    rw [jra_ok sM2 (by decide) (by decide)]
    exact congrArg some hs.2.2
  unfold f_X12_breaksOf
  simp only [jck_ok sM1, Option.bind_some, sM_crowd0 hN hF hp (hV.2.1 p hp) (htx p hp).1 (htx p hp).2, sM_crowd0 hN hF hl (hV.2.1 l hl) (htx l hl).1 (htx l hl).2, jrf_ok sM1, hF.t0, r3, op.1, ol.1]
  exact sM_breakL (by omega) hF hs h2 hS op.2 ol.2 hms
theorem s_isTask {m : jm_M} (hF : CF m) {q : jBd} (hV : VB q) (hB : CB m 2 q) {p : Nat} (hp : p < 4) : f_X1_isTask shC 2 (p : Int) m = some (if q.2.2.2.1 p = 0 then 0 else 1) := by
  have hpr := hV.2.2.1 p hp
  unfold f_X1_isTask
  rw [jck_ok sC2, Option.bind_some, s_periodOf hF two_bL (by omega) (by omega), Option.bind_some, Int.toNat_natCast, hB.2.2.1 p hp]
  by_cases c : q.2.2.2.1 p = 0
  · rw [if_neg (by omega), if_pos c]
  · rw [if_pos (by omega), if_neg c]
theorem op_breaks : jOp_breaks jN shC shM Inv := by
  intro mC mM x1 x2 hx1 hx2 hI
  obtain ⟨A, hV, ⟨hF, hRR, hK⟩, hFM, hKM⟩ := id hI
  have hJ := jN_big
  suffices hh : ∃ r, f_X11_breaks jN shC 1 x1 x2 mC = some r ∧ f_X12_breaks jN shM 1 x1 x2 mM = some r by
    obtain ⟨r, h1, h2⟩ := hh
    exact ⟨r, mC, mM, ⟨h1, rfl⟩, ⟨h2, rfl⟩, hI⟩
  by_cases c0 : 0 ≤ x1 ∧ x1 < 4
  · by_cases c1 : 0 ≤ x2 ∧ x2 < 4
    · by_cases c2 : x1 < x2
      · obtain ⟨p, rfl⟩ : ∃ p : Nat, x1 = p := ⟨x1.toNat, by omega⟩
        obtain ⟨l, rfl⟩ : ∃ p : Nat, x2 = p := ⟨x2.toNat, by omega⟩
        have hp : p < 4 := by omega
        have hl : l < 4 := by omega
        obtain ⟨S, w, h, ms, s0, s1, s2, s3, hT, hm1, hm2⟩ := hV.1.1.nat
        obtain ⟨q1, q2, -⟩ := hKM.1.prog (S := S) (w := w) (h := h) (ms := ms) hp s0 s1 s2 s3
        have g2 : f_X1_setting shC 2 2 mC = some (ms : Int) := by
          rw [s_setting hF two_bL (by decide) (by decide)]
          show some (mC 3 2) = _
          rw [hK.1.1 2 (by decide), s2]
        have eC : f_X11_breaks jN shC 1 p l mC = (if A.1.2.2.2.1 p = 0 then some (-3) else if A.1.2.2.2.1 l = 0 then some (-3) else some (bkO S h ms A.1 p l : Int)) := by
          unfold f_X11_breaks
          rw [s_isProgram, if_pos c0, Option.bind_some, if_neg (by decide), s_isProgram, if_pos c1, Option.bind_some, if_neg (by decide), if_pos c2]
          simp only [jrf_ok sC1, Option.bind_some, hF.t1_0, hF.t1_9, jck_ok sC2, s_isTask hF hV.1 hK.1 hp, s_isTask hF hV.1 hK.1 hl, g2, jck_ok sC190, s_breakCost (show 100 ≤ jN by omega) hF hV.1 hK.1 hT.1 hT.2.2.1 hm2 s0 s3 hp hl]
          by_cases d1 : A.1.2.2.2.1 p = 0
          · rw [if_pos d1, if_pos d1, if_pos rfl]
          · rw [if_neg d1, if_neg d1, if_neg (by decide)]
            by_cases d2 : A.1.2.2.2.1 l = 0
            · rw [if_pos d2, if_pos d2, if_pos rfl]
            · rw [if_neg d2, if_neg d2, if_neg (by decide)]
        have eM : f_X12_breaks jN shM 1 p l mM = (if A.1.2.2.2.1 p = 0 then some (-3) else if A.1.2.2.2.1 l = 0 then some (-3) else some (bkO S h ms A.1 p l : Int)) := by
          have rp : jra shM mM 7 13 (p : Int) = some (A.1.2.2.2.1 p) := by rw [jra_ok sM7 (by omega) (by omega), Int.toNat_natCast, hKM.1.2.2.1 p hp]
          have rl' : jra shM mM 7 13 (l : Int) = some (A.1.2.2.2.1 l) := by rw [jra_ok sM7 (by omega) (by omega), Int.toNat_natCast, hKM.1.2.2.1 l hl]
          unfold f_X12_breaks
          rw [sM_isProgram, if_pos c0, Option.bind_some, if_neg (by decide), sM_isProgram, if_pos c1, Option.bind_some, if_neg (by decide), if_pos c2]
          simp only [jrf_ok sM1, Option.bind_some, hFM.t6, rp, rl', jck_ok sM1, sM_breaksOf (show 100 ≤ jN by omega) hFM hV.1 q1 q2 (fun p hp => ⟨(hKM.1.2.1 p hp).1, fun i hi => ((hKM.1.2.1 p hp).2 i hi).1⟩) hT.1 hT.2.2.1 hm2 hp hl]
        exact ⟨_, eC.trans (by by_cases d1 : A.1.2.2.2.1 p = 0; exact (if_pos d1).trans (show some (-3) = some (if A.1.2.2.2.1 p = 0 then -3 else if A.1.2.2.2.1 l = 0 then -3 else (bkO S h ms A.1 p l : Int)) by rw [if_pos d1]); by_cases d2 : A.1.2.2.2.1 l = 0; rw [if_neg d1, if_pos d2, if_neg d1, if_pos d2]; rw [if_neg d1, if_neg d2, if_neg d1, if_neg d2]), eM.trans (by by_cases d1 : A.1.2.2.2.1 p = 0; rw [if_pos d1, if_pos d1]; by_cases d2 : A.1.2.2.2.1 l = 0; rw [if_neg d1, if_pos d2, if_neg d1, if_pos d2]; rw [if_neg d1, if_neg d2, if_neg d1, if_neg d2])⟩
      · exact ⟨-1, by simp [f_X11_breaks, s_isProgram, c0, c1, c2], by simp [f_X12_breaks, sM_isProgram, c0, c1, c2]⟩
    · exact ⟨-1, by simp [f_X11_breaks, s_isProgram, c0, c1], by simp [f_X12_breaks, sM_isProgram, c0, c1]⟩
  · exact ⟨-1, by simp [f_X11_breaks, s_isProgram, c0], by simp [f_X12_breaks, sM_isProgram, c0]⟩
