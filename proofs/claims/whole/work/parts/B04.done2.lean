/-- what the reference's tasks need -/
def MT (m : jm_M) (q : jBd) (S w h ms : Nat) : Prop := MF m ∧ SMm m S w h ∧ m 2 2 = (ms : Int) ∧ (∀ p, p < 4 → m 4 p = (q.2.1 p : Int) ∧ ∀ i, i < q.2.1 p → m 5 (30 * p + i) = q.2.2.1 p i ∧ m 6 (30 * p + i) = (zs (q.2.2.1 p) 4 i : Int)) ∧ ∀ p, p < 4 → m 7 p = q.2.2.2.1 p
def FrT (m M : jm_M) : Prop := (∀ a, a ≠ 1 → a ≠ 10 → a ≠ 11 → a ≠ 12 → a ≠ 13 → a ≠ 14 → a ≠ 15 → a ≠ 17 → a ≠ 22 → ∀ j, M a j = m a j) ∧ (∀ j, j ≠ 10 → j ≠ 12 → j ≠ 18 → j ≠ 19 → j ≠ 20 → j ≠ 22 → j ≠ 23 → j ≠ 25 → M 1 j = m 1 j)
theorem FrS.T {m M : jm_M} (h : FrS m M) : FrT m M := ⟨fun a a1 a2 a3 a4 a5 a6 a7 a8 _ j => h.1 a a1 a2 a3 a4 a5 a6 a7 a8 j, h.2⟩
theorem FrT.tr {m m1 m2 : jm_M} (h1 : FrT m m1) (h2 : FrT m1 m2) : FrT m m2 := ⟨fun a a1 a2 a3 a4 a5 a6 a7 a8 a9 j => (h2.1 a a1 a2 a3 a4 a5 a6 a7 a8 a9 j).trans (h1.1 a a1 a2 a3 a4 a5 a6 a7 a8 a9 j), fun j a1 a2 a3 a4 a5 a6 a7 a8 => (h2.2 j a1 a2 a3 a4 a5 a6 a7 a8).trans (h1.2 j a1 a2 a3 a4 a5 a6 a7 a8)⟩
theorem FrT.rf (m : jm_M) : FrT m m := ⟨fun _ _ _ _ _ _ _ _ _ _ _ => rfl, fun _ _ _ _ _ _ _ _ _ => rfl⟩
theorem FrT.up {m M : jm_M} {k : Nat} {v : Int} (h : FrT m M) : FrT m (jm_up M 22 k v) := ⟨fun a a1 a2 a3 a4 a5 a6 a7 a8 a9 j => (up_ne a9).trans (h.1 a a1 a2 a3 a4 a5 a6 a7 a8 a9 j), fun j a1 a2 a3 a4 a5 a6 a7 a8 => (up_ne (by decide)).trans (h.2 j a1 a2 a3 a4 a5 a6 a7 a8)⟩
theorem FrT.MF {m M : jm_M} (hf : FrT m M) (hF : MF m) : MF M := hF.same fun q hq => by
  have h1 : ∀ q ∈ rfM, q.1 = 1 ∧ q.2.1 ≠ 10 ∧ q.2.1 ≠ 12 ∧ q.2.1 ≠ 18 ∧ q.2.1 ≠ 19 ∧ q.2.1 ≠ 20 ∧ q.2.1 ≠ 22 ∧ q.2.1 ≠ 23 ∧ q.2.1 ≠ 25 := by decide
  obtain ⟨e, a1, a2, a3, a4, a5, a6, a7, a8⟩ := h1 q hq
  rw [e]
  exact hf.2 _ a1 a2 a3 a4 a5 a6 a7 a8
theorem FrT.row {m M : jm_M} (hf : FrT m M) {a : Nat} (ha : (2 ≤ a ∧ a ≤ 8) ∨ a = 23 ∨ a = 24) (j : Nat) : M a j = m a j := hf.1 a (by omega) (by omega) (by omega) (by omega) (by omega) (by omega) (by omega) (by omega) (by omega) j
theorem FrT.IM {m M : jm_M} {A : jAb} (hf : FrT m M) (h : IM m A) : IM M A := h.keep (fun a ha j => hf.row ha j) (hf.2 1 (by decide) (by decide) (by decide) (by decide) (by decide) (by decide) (by decide) (by decide)) (hf.2 7 (by decide) (by decide) (by decide) (by decide) (by decide) (by decide) (by decide) (by decide)) (hf.MF h.1)
theorem MT.fr {m M : jm_M} {q : jBd} {S w h ms : Nat} (hM : MT m q S w h ms) (hf : FrT m M) : MT M q S w h ms := by
  obtain ⟨a, b, c, d, e⟩ := hM
  exact ⟨hf.MF a, b.same (fun i => hf.row (by omega) i), by rw [hf.row (by omega)]; exact c, fun p hp => ⟨by rw [hf.row (by omega)]; exact (d p hp).1, fun i hi => by rw [hf.row (by omega), hf.row (by omega)]; exact (d p hp).2 i hi⟩, fun p hp => by rw [hf.row (by omega)]; exact e p hp⟩
theorem sM_layWorsts {N S w h ms : Nat} {m : jm_M} {q : jBd} (hN : 10000 ≤ N) (hM : MT m q S w h ms) (hV : VB q) (hT : ST S w h) (hms : ms ≤ 20) :
    ∃ M, f_X12_layWorsts N shM 1 m = some M ∧ (∀ p, p < 4 → M 22 p = (wrO S w h ms q p : Int)) ∧ FrT m M := by
  have w22 : rM 22 = true := rM_rows.2.2.2.2.2.2.2.2.2.2.2.2.2.2.2.2.2.2.2.2.1
  obtain ⟨M, n1, e1, i1, i2⟩ := loopN (fun g x m => f_X12_layWorsts_l2 N shM g 1 x m) 4 (fun k M => (∀ p, p < k → M 22 p = (wrO S w h ms q p : Int)) ∧ FrT m M) (by
    intro g k M hk ⟨g1, g2⟩
    have hMM := hM.fr g2
    obtain ⟨a, b, c, d, e⟩ := id hMM
    have hper := perO_eq hV hk
    have fin : ∀ (M1 : jm_M) (v : Nat), FrS M M1 → v = wrO S w h ms q k → ∃ m', f_X12_layWorsts_b30 N shM (f_X12_layWorsts_l2 N shM g) 1 (k : Int) 22 (k : Int) (v : Int) M1 = f_X12_layWorsts_l2 N shM g 1 ((k + 1 : Nat) : Int) m' ∧ (∀ p, p < k + 1 → m' 22 p = (wrO S w h ms q p : Int)) ∧ FrT m m' := by
      intro M1 v hf hv
      refine ⟨jm_up M1 22 k (v : Int), ?_, fun p hp => ?_, (g2.tr hf.T).up⟩
      · unfold f_X12_layWorsts_b30
        rw [jwa_ok sM22 (by omega) (by omega), Option.bind_some, Int.toNat_natCast, jw_succ (by omega)]
      · rw [up_row]
        by_cases cp : p = k
        · rw [if_pos cp, cp, hv]
        · rw [if_neg cp, hf.1 22 (by decide) (by decide) (by decide) (by decide) (by decide) (by decide) (by decide) (by decide)]; exact g1 p (by omega)
    show ∃ m', f_X12_layWorsts_b2 N shM (f_X12_layWorsts_l2 N shM g) 1 (k : Int) M = _ ∧ _
    unfold f_X12_layWorsts_b2
    rw [if_pos (by omega), jrf_ok sM1, Option.bind_some, jrf_ok sM1, Option.bind_some, a.t6, a.t31, jra_ok sM7 (by omega) (by omega), Option.bind_some, Int.toNat_natCast, e k hk]
    by_cases cz : q.2.2.2.1 k = 0
    · rw [if_neg (by omega)]
      exact fin M 0 (FrS.rf M) (by unfold wrO; rw [if_pos cz])
    · obtain ⟨v, M1, e1, bv, hf⟩ := sM_worstOf (N := N) hN a hk hT hms (hV.2.1 k hk) b c (d k hk).2
      have ev : v = wrO S w h ms q k := by
        unfold wrO
        rw [if_neg cz]
        exact bv.uniq (wst_BV hT (hV.2.1 k hk))
      rw [if_pos (by omega), jck_ok sM1, Option.bind_some, e1, Option.bind_some]
      exact fin M1 v hf ev) 0 N m (by omega) (by omega) ⟨fun p hp => absurd hp (Nat.not_lt_zero p), FrT.rf m⟩
  refine ⟨M, ?_, i1, i2⟩
  show f_X12_layWorsts_l2 N shM N 1 ((0 : Nat) : Int) m = _
  rw [e1]
  show f_X12_layWorsts_b2 N shM (f_X12_layWorsts_l2 N shM n1) 1 ((4 : Nat) : Int) M = _
  unfold f_X12_layWorsts_b2
  rw [if_neg (by omega)]
theorem sM_doneOf {N S w h ms p : Nat} {m : jm_M} {q : jBd} (hN : 20000 ≤ N) (hM : MT m q S w h ms) (hw : ∀ p, p < 4 → m 22 p = (wrO S w h ms q p : Int)) (hV : VB q) (hT : ST S w h) (hms : ms ≤ 20) (hp : p < 4) : f_X12_doneOf N shM 1 (p : Int) m = some (dnO S w h ms q p) := by
  obtain ⟨hF, hs, h2, htx, hpr⟩ := id hM
  have hper := perO_eq hV hp
  have rp : jra shM m 7 13 (p : Int) = some (perO q p : Int) := by rw [jra_ok sM7 (by omega) (by omega), Int.toNat_natCast, hpr p hp, hper.1]
  have rw' : jra shM m 22 13 (p : Int) = some (wrO S w h ms q p : Int) := by rw [jra_ok sM22 (by omega) (by omega), Int.toNat_natCast, hw p hp]
  -- one sum
  have sum : ∀ (k9 : Nat → Int → Int → Int → Option Int) (t : Nat), t ≤ 9999 → ∀ (r j n : Nat), j + r = p → r < n → f_X12_doneOf_l34 N shM k9 n 1 (p : Int) (t : Int) (twA (wrO S w h ms q) (perO q) (bkO S h ms q) p t j : Int) (j : Int) m = (if tw (wrO S w h ms q) (perO q) (bkO S h ms q) p t = t then k9 1 (p : Int) (tw (wrO S w h ms q) (perO q) (bkO S h ms q) p t : Int) 0 else k9 1 (p : Int) (tw (wrO S w h ms q) (perO q) (bkO S h ms q) p t : Int) 1) := by
    intro k9 t ht r
    induction r with
    | zero =>
      intro j n hj hn
      obtain ⟨n, rfl⟩ : ∃ n', n = n' + 1 := ⟨n - 1, by omega⟩
      have ej : j = p := by omega
      subst ej
      show f_X12_doneOf_b34 N shM k9 (fun a0 x1 x2 x4 x5 => f_X12_doneOf_l34 N shM k9 n a0 x1 x2 x4 x5 m) 1 (j : Int) (t : Int) (tw (wrO S w h ms q) (perO q) (bkO S h ms q) j t : Int) (j : Int) m = _
      unfold f_X12_doneOf_b34 f_X12_doneOf_b107
      rw [if_neg (by omega)]
      by_cases c : tw (wrO S w h ms q) (perO q) (bkO S h ms q) j t = t
      · rw [if_pos (by omega), if_pos c]
      · rw [if_neg (by omega), if_neg c]
    | succ r ih =>
      intro j n hj hn
      obtain ⟨n, rfl⟩ : ∃ n', n = n' + 1 := ⟨n - 1, by omega⟩
      have hj4 : j < 4 := by omega
      have ih' := ih (j + 1) n (by omega) (by omega)
      have hb1 := twA_le (wr := wrO S w h ms q) (per := perO q) (bk := bkO S h ms q) (t := t) hp (fun a ha => wrO_le hT hV hms ha) (fun a b => bkO_le hms) ht (j + 1) (by omega)
      have et : twA (wrO S w h ms q) (perO q) (bkO S h ms q) p t (j + 1) = twA (wrO S w h ms q) (perO q) (bkO S h ms q) p t j + (if 0 < perO q j then (t + perO q j - 1) / perO q j * (wrO S w h ms q j + bkO S h ms q j p) else 0) := rfl
      rw [et] at ih' hb1
      have hperj := perO_eq hV hj4
      have hwj := wrO_le (ms := ms) hT hV hms hj4
      have hbj := bkO_le (S := S) (h := h) (q := q) (p := j) (l := p) hms
      have rj : jra shM m 7 13 (j : Int) = some (perO q j : Int) := by rw [jra_ok sM7 (by omega) (by omega), Int.toNat_natCast, hpr j hj4, hperj.1]
      have rwj : jra shM m 22 13 (j : Int) = some (wrO S w h ms q j : Int) := by rw [jra_ok sM22 (by omega) (by omega), Int.toNat_natCast, hw j hj4]
      show f_X12_doneOf_b34 N shM k9 (fun a0 x1 x2 x4 x5 => f_X12_doneOf_l34 N shM k9 n a0 x1 x2 x4 x5 m) 1 (p : Int) (t : Int) _ (j : Int) m = _
      unfold f_X12_doneOf_b34 f_X12_doneOf_b90
      rw [if_pos (by omega)]
      simp only [jrf_ok sM1, Option.bind_some, hF.t6, hF.t31, rj, rwj, jck_ok sM1, sM_breaksOf (show 100 ≤ N by omega) hF hV hs h2 (fun p hp => ⟨(htx p hp).1, fun i hi => ((htx p hp).2 i hi).1⟩) hT.1 hT.2.2.1 hms hj4 hp]
      rw [jw_succ (by omega)]
      by_cases c : 0 < perO q j
      · rw [if_pos c] at ih' hb1
        rw [if_pos (by omega), if_neg (by omega)]
        generalize hx : (t + perO q j - 1) / perO q j = x at *
        generalize hy : wrO S w h ms q j + bkO S h ms q j p = y at *
        have e1 : jw (jw ((t : Int) + (perO q j : Int)) - 1) = ((t + perO q j - 1 : Nat) : Int) := by
          rw [jw_eq (x := (t : Int) + (perO q j : Int)) (by omega) (by omega), jw_eq (by omega) (by omega)]; omega
        have e2 : jw ((wrO S w h ms q j : Int) + (bkO S h ms q j p : Int)) = (y : Int) := by
          rw [jw_eq (by omega) (by omega)]; omega
        rw [e1, e2, jdiv_nat (by omega), hx]
        have hxy : x * y ≤ 5376 + 4 * 55354464 := by omega
        rw [show (x : Int) * (y : Int) = ((x * y : Nat) : Int) by omega, jw_nat (by omega), jw_eq (by omega) (by omega), show (twA (wrO S w h ms q) (perO q) (bkO S h ms q) p t j : Int) + ((x * y : Nat) : Int) = ((twA (wrO S w h ms q) (perO q) (bkO S h ms q) p t j + x * y : Nat) : Int) by omega]
        exact ih'
      · rw [if_neg c] at ih'
        rw [if_neg (by omega)]
        exact ih'
  have key : ∀ (r n t : Nat), t ≤ tw (wrO S w h ms q) (perO q) (bkO S h ms q) p t → perO q p < r + t → r + 1 < n → f_X12_doneOf_l9 N shM n 1 (p : Int) (t : Int) 1 m = some (dnF (wrO S w h ms q) (perO q) (bkO S h ms q) p r t) := by
    intro r
    induction r with
    | zero =>
      intro n t ht hr hn
      obtain ⟨n, rfl⟩ : ∃ n', n = n' + 1 := ⟨n - 1, by omega⟩
      show f_X12_doneOf_b9 N shM (fun a0 x1 x2 x3 => f_X12_doneOf_l9 N shM n a0 x1 x2 x3 m) 1 (p : Int) (t : Int) 1 m = some (-5)
      unfold f_X12_doneOf_b9 f_X12_doneOf_b114
      simp only [jrf_ok sM1, Option.bind_some, hF.t6, rp]
      rw [if_neg (by decide), if_pos (by omega), if_pos (by omega)]
    | succ r ih =>
      intro n t ht hr hn
      obtain ⟨n, rfl⟩ : ∃ n', n = n' + 1 := ⟨n - 1, by omega⟩
      show f_X12_doneOf_b9 N shM (fun a0 x1 x2 x3 => f_X12_doneOf_l9 N shM n a0 x1 x2 x3 m) 1 (p : Int) (t : Int) 1 m = some (if perO q p < t then -5 else if tw (wrO S w h ms q) (perO q) (bkO S h ms q) p t = t then (t : Int) else dnF (wrO S w h ms q) (perO q) (bkO S h ms q) p r (tw (wrO S w h ms q) (perO q) (bkO S h ms q) p t))
      unfold f_X12_doneOf_b9
      by_cases c : perO q p < t
      · unfold f_X12_doneOf_b114
        simp only [jrf_ok sM1, Option.bind_some, hF.t6, rp]
        rw [if_neg (by decide), if_pos (by omega), if_pos (by omega), if_pos c]
      · rw [if_neg (by decide), jrf_ok sM1, Option.bind_some, hF.t6, rp, Option.bind_some, if_neg (by omega), jrf_ok sM1, Option.bind_some, hF.t31, rw', Option.bind_some, if_neg c]
        have hs' := sum (fun a0 x1 x2 x3 => f_X12_doneOf_l9 N shM n a0 x1 x2 x3 m) t (by omega) p 0 N (by omega) (by omega)
        refine hs'.trans ?_
        by_cases c2 : tw (wrO S w h ms q) (perO q) (bkO S h ms q) p t = t
        · rw [if_pos c2, if_pos c2, c2]
          obtain ⟨n, rfl⟩ : ∃ n', n = n' + 1 := ⟨n - 1, by omega⟩
          show f_X12_doneOf_b9 N shM (fun a0 x1 x2 x3 => f_X12_doneOf_l9 N shM n a0 x1 x2 x3 m) 1 (p : Int) (t : Int) 0 m = _
          unfold f_X12_doneOf_b9 f_X12_doneOf_b114
          rw [if_pos rfl, jrf_ok sM1, Option.bind_some, hF.t6, rp, Option.bind_some, if_neg (by omega)]
        · rw [if_neg c2, if_neg c2]
          exact ih n _ (twA_mono (fun _ => Nat.le_refl _) (fun _ _ => Nat.le_refl _) ht p) (by omega) (by omega)
  unfold f_X12_doneOf
  rw [jrf_ok sM1, Option.bind_some, hF.t31, rw', Option.bind_some]
  exact key 10000 N _ tw_ge (by omega) (by omega)
theorem dnF_neg {wr per : Nat → Nat} {bk : Nat → Nat → Nat} {p : Nat} : ∀ r t, dnF wr per bk p r t = -5 ∨ 0 ≤ dnF wr per bk p r t := by
  intro r
  induction r with
  | zero => intro t; exact Or.inl rfl
  | succ r ih =>
    intro t
    show (if per p < t then (-5 : Int) else if tw wr per bk p t = t then (t : Int) else dnF wr per bk p r (tw wr per bk p t)) = -5 ∨ 0 ≤ (if per p < t then (-5 : Int) else if tw wr per bk p t = t then (t : Int) else dnF wr per bk p r (tw wr per bk p t))
    split
    · exact Or.inl rfl
    · split
      · exact Or.inr (by omega)
      · exact ih _
theorem sM_lateOnes {N S w h ms : Nat} {m : jm_M} {q : jBd} (hN : 20000 ≤ N) (hM : MT m q S w h ms) (hV : VB q) (hT : ST S w h) (hms : ms ≤ 20) : ∃ M, f_X12_lateOnes N shM 1 m = some ((ltO S w h ms q 4 : Int), M) ∧ FrT m M := by
  obtain ⟨M, e, hw, hf⟩ := sM_layWorsts (N := N) (by omega) hM hV hT hms
  have hMM := hM.fr hf
  obtain ⟨hF, hs, h2, htx, hpr⟩ := id hMM
  have key : ∀ (r k n : Nat), k + r = 4 → r < n → f_X12_lateOnes_l8 N shM n 1 (ltO S w h ms q k : Int) (k : Int) M = some ((ltO S w h ms q 4 : Int), M) := by
    intro r
    induction r with
    | zero =>
      intro k n hk hn
      obtain ⟨n, rfl⟩ : ∃ n', n = n' + 1 := ⟨n - 1, by omega⟩
      show f_X12_lateOnes_b8 N shM (f_X12_lateOnes_l8 N shM n) 1 _ (k : Int) M = _
      unfold f_X12_lateOnes_b8
      rw [if_neg (by omega), show k = 4 by omega]
    | succ r ih =>
      intro k n hk hn
      obtain ⟨n, rfl⟩ : ∃ n', n = n' + 1 := ⟨n - 1, by omega⟩
      have hk4 : k < 4 := by omega
      have ih' := ih (k + 1) n (by omega) (by omega)
      have el : ltO S w h ms q (k + 1) = ltO S w h ms q k ||| (if q.2.2.2.1 k ≠ 0 ∧ dnO S w h ms q k = -5 then 2 ^ k else 0) := rfl
      have hlt := ltO_lt S w h ms q k (by omega)
      have hper := perO_eq hV hk4
      have hp : 2 ^ k < 256 := by
        calc 2 ^ k ≤ 2 ^ 7 := Nat.pow_le_pow_right (by decide) (by omega)
          _ < 256 := by decide
      have hor0 : jor (ltO S w h ms q k : Int) 0 = (ltO S w h ms q k : Int) := by
        have := jor_nat (a := ltO S w h ms q k) (b := 0) (by omega) (by decide)
        rw [Nat.or_zero] at this
        exact this
      show f_X12_lateOnes_b8 N shM (f_X12_lateOnes_l8 N shM n) 1 _ (k : Int) M = _
      unfold f_X12_lateOnes_b8 f_X12_lateOnes_b37 f_X12_lateOnes_b38
      rw [if_pos (by omega), jrf_ok sM1, Option.bind_some, hF.t6, jra_ok sM7 (by omega) (by omega), Option.bind_some, Int.toNat_natCast, hpr k hk4, jw_succ (by omega), hor0]
      rw [el] at ih'
      by_cases c : q.2.2.2.1 k = 0
      · rw [if_neg (fun z => z.1 c), Nat.or_zero] at ih'
        rw [if_neg (by omega)]
        exact ih'
      · rw [if_pos (by omega), jck_ok sM1, Option.bind_some, sM_doneOf hN hMM hw hV hT hms hk4, Option.bind_some]
        by_cases c2 : dnO S w h ms q k = -5
        · rw [if_pos ⟨c, c2⟩] at ih'
          rw [if_pos (by omega), (show jshl 1 (k : Int) = ((2 ^ k : Nat) : Int) from jshl_one ⟨k, by omega⟩), jor_nat (by omega) (by omega)]
          exact ih'
        · rw [if_neg (fun z => c2 z.2), Nat.or_zero] at ih'
          have hnn : 0 ≤ dnO S w h ms q k := (dnF_neg _ _).resolve_left c2
          rw [if_neg (by omega)]
          exact ih'
  refine ⟨M, ?_, hf⟩
  unfold f_X12_lateOnes
  rw [jck_ok sM1, Option.bind_some, e, Option.bind_some]
  exact key 4 0 N (by omega) (by omega)
theorem KM.MT {mM : jm_M} {A : jAb} {S w h ms : Nat} (hM : IM mM A) (s0 : A.1.1 0 = (S : Int)) (s1 : A.1.1 1 = (w : Int)) (s2 : A.1.1 2 = (ms : Int)) (s3 : A.1.1 3 = (h : Int)) : MT mM A.1 S w h ms := by
  obtain ⟨q1, q2, -⟩ := hM.2.1.prog (S := S) (w := w) (h := h) (ms := ms) (show 0 < 4 by decide) s0 s1 s2 s3
  exact ⟨hM.1, q1, q2, fun p hp => ⟨(hM.2.1.2.1 p hp).1, fun i hi => (hM.2.1.2.1 p hp).2 i hi⟩, fun p hp => hM.2.1.2.2.1 p hp⟩
theorem op_done : jOp_done jN shC shM Inv := by
  intro mC mM x1 hx1 hI
  obtain ⟨A, hV, hC, hM⟩ := id hI
  obtain ⟨hF, hRR, hK⟩ := id hC
  obtain ⟨hFM, hKM⟩ := id hM
  have hJ := jN_big
  by_cases c0 : 0 ≤ x1 ∧ x1 < 4
  · obtain ⟨p, rfl⟩ : ∃ p : Nat, x1 = p := ⟨x1.toNat, by omega⟩
    have hp : p < 4 := by omega
    obtain ⟨S, w, h, ms, s0, s1, s2, s3, hT, hm1, hm2⟩ := hV.1.1.nat
    have hMT := KM.MT hM s0 s1 s2 s3
    by_cases cz : A.1.2.2.2.1 p = 0
    · refine ⟨-3, mC, mM, ?_, ?_, hI⟩
      · unfold f_X11_done
        rw [s_isProgram, if_pos c0, Option.bind_some, if_neg (by decide), jrf_ok sC1, Option.bind_some, hF.t1_0, jck_ok sC2, Option.bind_some, s_isTask hF hV.1 hK.1 hp, if_pos cz, Option.bind_some, if_pos rfl]
      · unfold f_X12_done
        rw [sM_isProgram, if_pos c0, Option.bind_some, if_neg (by decide), jrf_ok sM1, Option.bind_some, hFM.t6, jra_ok sM7 (by omega) (by omega), Option.bind_some, Int.toNat_natCast, hKM.1.2.2.1 p hp, if_pos cz]
    · obtain ⟨M, e, gt, rr, f⟩ := s_weigh (N := jN) (by omega) hF hRR hK.1 hV.1 hT hm2 s0 s1 s3
      obtain ⟨M', e', hw, hf⟩ := sM_layWorsts (N := jN) (by omega) hMT hV.1 hT hm2
      have g2 : f_X1_setting shC 2 2 mC = some (ms : Int) := by
        rw [s_setting hF two_bL (by decide) (by decide)]
        show some (mC 3 2) = _
        rw [hK.1.1 2 (by decide), s2]
      refine ⟨dnO S w h ms A.1 p, M, M', ?_, ?_, A, hV, hC.keep (fun a ha => f a (by omega)) gt.1 rr, hf.IM hM⟩
      · unfold f_X11_done
        rw [s_isProgram, if_pos c0, Option.bind_some, if_neg (by decide), jrf_ok sC1, Option.bind_some, hF.t1_0, jck_ok sC2, Option.bind_some, s_isTask hF hV.1 hK.1 hp, if_neg cz, Option.bind_some, if_neg (by decide), jrf_ok sC1, Option.bind_some, Option.bind_some, hF.t1_0, hF.t1_9, jck_ok sC2, Option.bind_some, g2, Option.bind_some, jck_ok sC190, Option.bind_some, e, Option.bind_some, jrf_ok sC1, Option.bind_some, gt.1.t1_9, jck_ok sC190, Option.bind_some, s_timeOf (by omega) gt hV.1 hT hm2 s0 s3 hp, Option.bind_some]
      · unfold f_X12_done
        rw [sM_isProgram, if_pos c0, Option.bind_some, if_neg (by decide), jrf_ok sM1, Option.bind_some, hFM.t6, jra_ok sM7 (by omega) (by omega), Option.bind_some, Int.toNat_natCast, hKM.1.2.2.1 p hp, if_neg cz, jck_ok sM1, Option.bind_some, e', Option.bind_some, Option.bind_some, sM_doneOf (by omega) (hMT.fr hf) hw hV.1 hT hm2 hp, Option.bind_some]
  · exact ⟨-1, mC, mM, by simp [f_X11_done, s_isProgram, c0], by simp [f_X12_done, sM_isProgram, c0], hI⟩
