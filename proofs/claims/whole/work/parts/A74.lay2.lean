theorem nl_lt {M r rk c : Nat} (hr : r ≤ 2) (hk : rk < M) (hc : c < lkD r M) : nlD M r rk c < lkD r M := by
  rcases (show r = 0 ∨ r = 1 ∨ r = 2 by omega) with rfl | rfl | rfl
  · exact (by decide : 0 < 1)
  · show 1 + rk < 1 + M; omega
  · have hc : c < 1 + M * M := hc
    show (if c ≠ 0 ∧ (c - 1) / M = rk then c else 1 + M * rk + (if c = 0 then rk else (c - 1) / M)) < 1 + M * M
    have h1 : M * rk + M ≤ M * M := by rw [← Nat.mul_succ]; exact Nat.mul_le_mul_left _ hk
    split
    · exact hc
    · split
      · omega
      · have : (c - 1) / M < M := Nat.div_lt_of_lt_mul (by omega)
        omega
theorem LC_le65 {S w h cr s : Nat} (hS : isS S) : LC S w h cr s ≤ 65 ∧ 1 ≤ LC S w h cr s := by
  have h1 := LC_le (w := w) (h := h) (cr := cr) (s := s) hS
  have h2 : LK S s ≤ 65 := by
    unfold LK
    split
    · rcases hS with rfl | rfl | rfl <;> decide
    · decide
  refine ⟨by omega, ?_⟩
  unfold LC lkD
  split
  · split
    · omega
    · split <;> omega
  · omega
def ppL (L : Nat → Nat) : Nat → Nat
  | 0 => 1
  | k + 1 => ppL L k * L k
theorem pp_sd (L : Nat → Nat) {s : Nat} (hs : s < 4) : ppL L s = sd L s := by
  refine four (P := fun s => ppL L s = sd L s) rfl ?_ ?_ ?_ hs
  · show 1 * L 0 = L 0; omega
  · show 1 * L 0 * L 1 = L 0 * L 1; rw [Nat.one_mul]
  · show 1 * L 0 * L 1 * L 2 = L 0 * L 1 * L 2; rw [Nat.one_mul]
theorem pp_4 (L : Nat → Nat) : ppL L 4 = L 0 * (L 1 * (L 2 * L 3)) := by
  show 1 * L 0 * L 1 * L 2 * L 3 = _
  rw [Nat.one_mul, Nat.mul_assoc, Nat.mul_assoc]
theorem pp_le {L : Nat → Nat} (h : ∀ s, L s ≤ 65) (k : Nat) : ppL L k ≤ 65 ^ k := by
  induction k with
  | zero => exact Nat.le_refl 1
  | succ k ih => rw [Nat.pow_succ]; exact Nat.mul_le_mul ih (h k)
theorem roomL_8 {S w h s : Nat} (hS : isS S) : roomL S w h s 8 = if s < S then rmS S w h s else w := by
  unfold roomL rmS hc
  split
  · rename_i c; rw [ix_8 hS c]
  · rfl
theorem membL_8 {S h cr s : Nat} (hS : isS S) : membL S h cr s 8 = if s < S then cnt (mbS S h cr s) (nS S) else 0 := by
  unfold membL
  split
  · rename_i c; rw [ix_8 hS c]
  · rfl
theorem s_looksOf {S w h cr s : Nat} (hT : ST S w h) : f_X7_looksOf (roomL S w h s 8 : Int) (membL S h cr s 8 : Int) = some (LC S w h cr s : Int) := by
  obtain ⟨hS, ⟨hw1, hw2⟩, hh, hm⟩ := id hT
  have hml := membL_le (S := S) (h := h) (cr := cr) (s := s) (L := 8) (by omega)
  have key : ∀ r M : Nat, r ≤ 2 → M ≤ 11 → f_X7_looksOf (r : Int) (M : Int) = some (lkD r M : Int) := by
    intro r M hr hM
    have hMM : M * M ≤ 11 * 11 := Nat.mul_le_mul hM hM
    unfold f_X7_looksOf lkD
    by_cases c1 : r = 1
    · rw [if_pos (by omega), if_pos c1, jw_eq (by omega) (by omega)]
      congr 1
    · rw [if_neg (by omega), if_neg c1]
      by_cases c2 : r = 2
      · rw [if_pos (by omega), if_pos c2, show (M : Int) * (M : Int) = ((M * M : Nat) : Int) by omega, jw_nat (by omega), jw_eq (by omega) (by omega)]
        congr 1
      · rw [if_neg (by omega), if_neg c2]
        rfl
  have hr : roomL S w h s 8 ≤ 2 := by unfold roomL; split <;> omega
  rw [key _ _ hr hml, roomL_8 hS, membL_8 hS]
  unfold LC
  split
  · rfl
  · unfold lkD
    split
    · rfl
    · split <;> rfl
/-- rows of numbers laid too -/
def LD2 (m : jm_M) (S w h cr : Nat) : Prop := LD1 m S w h cr 8 ∧ m 65 0 = (CN S w h cr : Int) ∧ ∀ s, s < 4 → m 70 s = (LC S w h cr s : Int) ∧ m 71 s = (sd (LC S w h cr) s : Int)
def mvI (S w h cr l c : Nat) : Int := if hb h l then 1 else 2 * (((nlD (cnt (mbS S h cr (l % S)) (nS S)) (rmS S w h (l % S)) (cnt (mbS S h cr (l % S)) (l / S)) c : Int) - (c : Int)) * (sd (LC S w h cr) (l % S) : Int)) + (if lyD (cnt (mbS S h cr (l % S)) (nS S)) (rmS S w h (l % S)) (cnt (mbS S h cr (l % S)) (l / S)) c then 1 else 0)
def LD3 (m : jm_M) (S w h cr : Nat) : Prop := LD2 m S w h cr ∧ ∀ l, l < 8 → hb cr l = true → ∀ c, c < LC S w h cr (l % S) → m (73 + l) c = mvI S w h cr l c
theorem LD1.same {m m' : jm_M} {S w h cr L : Nat} (hI : LD1 m S w h cr L) (h1 : m' 65 1 = m 65 1) (h2 : m' 65 2 = m 65 2) (hs : ∀ a, 66 ≤ a → a ≤ 69 → ∀ j, m' a j = m a j) : LD1 m' S w h cr L := by
  obtain ⟨i1, i2, i3, i4⟩ := hI
  refine ⟨by rw [h1]; exact i1, by rw [h2]; exact i2, fun l hl => ?_, fun s hs' => ?_⟩
  · rw [hs 66 (by omega) (by omega), hs 67 (by omega) (by omega)]; exact i3 l hl
  · rw [hs 68 (by omega) (by omega), hs 69 (by omega) (by omega)]; exact i4 s hs'
theorem LD2.same {m m' : jm_M} {S w h cr : Nat} (hI : LD2 m S w h cr) (h1 : ∀ j, j < 3 → m' 65 j = m 65 j) (hs : ∀ a, 66 ≤ a → a ≤ 71 → ∀ j, m' a j = m a j) : LD2 m' S w h cr := by
  obtain ⟨i1, i2, i3⟩ := hI
  refine ⟨i1.same (h1 1 (by omega)) (h1 2 (by omega)) (fun a h1 h2 => hs a h1 (by omega)), by rw [h1 0 (by omega)]; exact i2, fun s hs' => ?_⟩
  rw [hs 70 (by omega) (by omega), hs 71 (by omega) (by omega)]; exact i3 s hs'
theorem LD3.same {m m' : jm_M} {S w h cr : Nat} (hI : LD3 m S w h cr) (hs : ∀ a, 65 ≤ a → a ≤ 80 → ∀ j, m' a j = m a j) : LD3 m' S w h cr := by
  refine ⟨hI.1.same (fun j _ => hs 65 (by omega) (by omega) j) (fun a h1 h2 => hs a (by omega) (by omega)), fun l hl hc c hcc => ?_⟩
  rw [hs _ (by omega) (by omega)]; exact hI.2 l hl hc c hcc
theorem mem_line {S h cr l : Nat} (hS : isS S) (hl : l < 8) (hc : hb cr l = true) (hh : ¬ hb h l = true) : mbS S h cr (l % S) (l / S) = true ∧ cnt (mbS S h cr (l % S)) (l / S) < cnt (mbS S h cr (l % S)) (nS S) := by
  obtain ⟨l1, l2, l3⟩ := line_S hS hl
  have hf : mbS S h cr (l % S) (l / S) = true := by
    unfold mbS
    rw [l3, hc]
    simp [hh]
  exact ⟨hf, cnt_lt l1 hf⟩
theorem s_newestOf {M s c : Nat} {m : jm_M} (hF : CF m) (hs : s < 4) (hm : m 69 s = (M : Int)) (hM : 1 ≤ M) (hc : c ≤ 100) : f_X7_newestOf shC 65 (c : Int) (s : Int) m = some (if c = 0 then -1 else (((c - 1) / M : Nat) : Int)) ∧ f_X7_olderOf shC 65 (c : Int) (s : Int) m = some (if c = 0 then -1 else (((c - 1) % M : Nat) : Int)) := by
  constructor
  · unfold f_X7_newestOf
    rw [jrf_ok sC65, Option.bind_some, hF.t65_6, jra_ok sC69 (by omega) (by omega), Option.bind_some, Int.toNat_natCast, hm]
    by_cases c0 : c = 0
    · rw [if_neg (by omega), if_pos c0]
    · rw [if_pos (by omega), if_pos (by omega), if_neg (by omega), if_neg c0, jw_eq (by omega) (by omega), show (c : Int) - 1 = ((c - 1 : Nat) : Int) by omega, jdiv_nat (by omega)]
  · unfold f_X7_olderOf
    rw [jrf_ok sC65, Option.bind_some, hF.t65_6, jra_ok sC69 (by omega) (by omega), Option.bind_some, Int.toNat_natCast, hm]
    by_cases c0 : c = 0
    · rw [if_neg (by omega), if_pos c0]
    · rw [if_pos (by omega), if_pos (by omega), if_neg (by omega), if_neg c0, jw_eq (by omega) (by omega), show (c : Int) - 1 = ((c - 1 : Nat) : Int) by omega, jrem_nat]
theorem s_look {S w h cr l c : Nat} {m : jm_M} (hF : CF m) (hT : ST S w h) (hI : LD2 m S w h cr) (hl : l < 8) (hcr : hb cr l = true) (hh : ¬ hb h l = true) (hc : c < LC S w h cr (l % S)) :
    f_X7_nextLook shC 65 (l : Int) (c : Int) m = some (nlD (cnt (mbS S h cr (l % S)) (nS S)) (rmS S w h (l % S)) (cnt (mbS S h cr (l % S)) (l / S)) c : Int) ∧ f_X7_lies shC 65 (l : Int) (c : Int) m = some (if lyD (cnt (mbS S h cr (l % S)) (nS S)) (rmS S w h (l % S)) (cnt (mbS S h cr (l % S)) (l / S)) c then 1 else 0) := by
  obtain ⟨hS, ⟨hw1, hw2⟩, hh2, hm⟩ := id hT
  obtain ⟨l1, l2, l3⟩ := line_S hS hl
  obtain ⟨hf, hk⟩ := mem_line hS hl hcr hh
  have hle := hS.le
  have hs4 : l % S < 4 := by omega
  have hr2 := rm_le (S := S) (h := h) (s := l % S) hw2
  obtain ⟨⟨i1, i2, i3, i4⟩, i5, i6⟩ := hI
  have e66 := (i3 l hl).1
  have e67 : m 67 l = (cnt (mbS S h cr (l % S)) (l / S) : Int) := by rw [(i3 l hl).2]; unfold rankL; rw [if_neg hh, if_pos hcr]
  have e68 : m 68 (l % S) = (rmS S w h (l % S) : Int) := by rw [(i4 _ hs4).1, roomL_8 hS, if_pos l2]
  have e69 : m 69 (l % S) = (cnt (mbS S h cr (l % S)) (nS S) : Int) := by rw [(i4 _ hs4).2, membL_8 hS, if_pos l2]
  have hMle := cnt_le (mbS S h cr (l % S)) (nS S)
  have hc65 := (LC_le65 (w := w) (h := h) (cr := cr) (s := l % S) hS).1
  have hno := s_newestOf (c := c) hF hs4 e69 (by omega) (by omega)
  generalize cnt (mbS S h cr (l % S)) (nS S) = M at *
  generalize cnt (mbS S h cr (l % S)) (l / S) = rk at *
  generalize rmS S w h (l % S) = r at *
  have hmul : M * rk ≤ 8 * 8 := Nat.mul_le_mul (by omega) (by omega)
  have hdiv : (c - 1) / M ≤ c - 1 := Nat.div_le_self _ _
  unfold nlD lyD
  generalize (c - 1) / M = qd at *
  generalize (c - 1) % M = qm at *
  constructor
  · unfold f_X7_nextLook
    rw [jrf_ok sC65, Option.bind_some, hF.t65_3, jra_ok sC66 (by omega) (by omega), Option.bind_some, Int.toNat_natCast, e66, jrf_ok sC65, Option.bind_some, hF.t65_4, jra_ok sC67 (by omega) (by omega), Option.bind_some, Int.toNat_natCast, e67, jrf_ok sC65, Option.bind_some, hF.t65_5, jra_ok sC68 (by omega) (by omega), Option.bind_some, Int.toNat_natCast, e68]
    by_cases r0 : r = 0
    · rw [if_pos (by omega), if_pos r0]; rfl
    · rw [if_neg (by omega), if_neg r0, Option.bind_some, hF.t65_5, jra_ok sC68 (by omega) (by omega), Option.bind_some, Int.toNat_natCast, e68]
      by_cases r1 : r = 1
      · rw [if_pos (by omega), if_pos r1, jw_eq (by omega) (by omega)]
        congr 1
      · rw [if_neg (by omega), if_neg r1, jck_ok sC65, Option.bind_some, hno.1, Option.bind_some]
        by_cases c0 : c = 0
        · rw [if_pos c0, if_neg (by omega), if_neg (by omega), if_pos c0, jrf_ok sC65, Option.bind_some, hF.t65_6, jra_ok sC69 (by omega) (by omega), Option.bind_some, Int.toNat_natCast, e69, if_pos (by decide)]
          unfold f_X7_nextLook_b81
          rw [show (M : Int) * (rk : Int) = ((M * rk : Nat) : Int) by omega, jw_nat (by omega), jw_eq (x := 1 + ((M * rk : Nat) : Int)) (by omega) (by omega), jw_eq (by omega) (by omega)]
          congr 1
        · rw [if_neg c0, if_neg c0]
          by_cases ce : qd = rk
          · rw [if_pos (by omega), if_pos ⟨c0, ce⟩]
          · rw [if_neg (by omega), if_neg (fun q => ce q.2), jrf_ok sC65, Option.bind_some, hF.t65_6, jra_ok sC69 (by omega) (by omega), Option.bind_some, Int.toNat_natCast, e69, if_neg (by omega)]
            unfold f_X7_nextLook_b81
            rw [show (M : Int) * (rk : Int) = ((M * rk : Nat) : Int) by omega, jw_nat (by omega), jw_eq (x := 1 + ((M * rk : Nat) : Int)) (by omega) (by omega), jw_eq (by omega) (by omega)]
            congr 1
  · unfold f_X7_lies
    rw [jrf_ok sC65, Option.bind_some, hF.t65_3, jra_ok sC66 (by omega) (by omega), Option.bind_some, Int.toNat_natCast, e66, jrf_ok sC65, Option.bind_some, hF.t65_4, jra_ok sC67 (by omega) (by omega), Option.bind_some, Int.toNat_natCast, e67, jrf_ok sC65, Option.bind_some, hF.t65_5, jra_ok sC68 (by omega) (by omega), Option.bind_some, Int.toNat_natCast, e68]
    by_cases r0 : r = 0
    · rw [if_pos (by omega), if_pos (Or.inl r0)]; rfl
    · rw [if_neg (by omega)]
      by_cases c0 : c = 0
      · rw [if_pos (by omega), if_pos (Or.inr c0)]; rfl
      · rw [if_neg (by omega), if_neg (by omega), if_neg (show ¬ (r = 0 ∨ c = 0) by omega), Option.bind_some, hF.t65_5, jra_ok sC68 (by omega) (by omega), Option.bind_some, Int.toNat_natCast, e68]
        by_cases r1 : r = 1
        · rw [if_pos (by omega), if_pos r1, jw_eq (by omega) (by omega)]
          by_cases q : c = 1 + rk
          · rw [if_pos (by omega), decide_eq_true q]; rfl
          · rw [if_neg (by omega), decide_eq_false q]; rfl
        · rw [if_neg (by omega), if_neg r1, jck_ok sC65, Option.bind_some, hno.1, Option.bind_some, if_neg c0]
          by_cases q : qd = rk
          · rw [if_pos (by omega), decide_eq_true q]; rfl
          · rw [if_neg (by omega), decide_eq_false q, Option.bind_some, hno.2, Option.bind_some, if_neg c0]
            by_cases q2 : qm = rk
            · rw [if_pos (by omega), decide_eq_true q2]; rfl
            · rw [if_neg (by omega), decide_eq_false q2]; rfl
theorem mv_row {m : jm_M} (hF : CF m) {l : Nat} (hl : l < 8) : (m 72 l).toNat = 73 + l ∧ shC (73 + l) = (13, 65) ∧ rC (73 + l) = true := by
  have h8 : ∀ l : Fin 8, (72, l.val, 73 + l.val) ∈ rfC := by decide
  have h := hF _ (h8 ⟨l, hl⟩)
  have h : m 72 l = ((73 + l : Nat) : Int) := h
  refine ⟨by rw [h]; exact Int.toNat_natCast _, ?_, rC_sh.2.2.2.2.2.2.2.2.2 ⟨l, hl⟩⟩
  rcases (show l = 0 ∨ l = 1 ∨ l = 2 ∨ l = 3 ∨ l = 4 ∨ l = 5 ∨ l = 6 ∨ l = 7 by omega) with rfl | rfl | rfl | rfl | rfl | rfl | rfl | rfl
  · exact sC73
  · exact sC74
  · exact sC75
  · exact sC76
  · exact sC77
  · exact sC78
  · exact sC79
  · exact sC80
theorem sd_le {S w h cr s : Nat} (hS : isS S) (hs : s < 4) : sd (LC S w h cr) s ≤ 274625 := by
  rw [← pp_sd _ hs]
  have h1 := pp_le (L := LC S w h cr) (fun s => (LC_le65 hS).1) s
  have h2 : 65 ^ s ≤ 65 ^ 3 := Nat.pow_le_pow_right (by decide) (by omega)
  omega
theorem s_fillMoves {N S w h cr l : Nat} {m : jm_M} (hN : 200 ≤ N) (hF : CF m) (hT : ST S w h) (hI : LD2 m S w h cr) (hl : l < 8) (hcr : hb cr l = true) :
    ∃ M, f_X7_fillMoves N shC 65 (l : Int) m = some M ∧ CF M ∧ (∀ c, c < LC S w h cr (l % S) → M (73 + l) c = mvI S w h cr l c) ∧ (∀ a, a ≠ 73 + l → ∀ j, M a j = m a j) := by
  obtain ⟨hS, ⟨hw1, hw2⟩, hh2, hm⟩ := id hT
  obtain ⟨l1, l2, l3⟩ := line_S hS hl
  have hle := hS.le
  have hs4 : l % S < 4 := by omega
  have hc65 := (LC_le65 (w := w) (h := h) (cr := cr) (s := l % S) hS).1
  obtain ⟨q1, q2, q3⟩ := mv_row hF hl
  have hsd := sd_le (w := w) (h := h) (cr := cr) hS hs4
  obtain ⟨m1, n1, e1, i1, i2, i3⟩ := loopN (fun g x m => f_X7_fillMoves_l17 N shC g 65 (l : Int) (73 + l) ((l % S : Nat) : Int) x m) (LC S w h cr (l % S)) (fun k M => CF M ∧ (∀ c, c < k → M (73 + l) c = mvI S w h cr l c) ∧ (∀ a, a ≠ 73 + l → ∀ j, M a j = m a j)) (by
    intro n k M hk ⟨g1, g2, g3⟩
    have hI2 : LD2 M S w h cr := hI.same (fun j _ => g3 65 (by omega) j) (fun a h1 h2 => g3 a (by omega))
    refine ⟨jm_up M (73 + l) k (mvI S w h cr l k), ?_, g1.up (nC_of q3 _), fun c hc => ?_, fun a ha j => (up_ne ha).trans (g3 a ha j)⟩
    · show f_X7_fillMoves_b17 N shC (f_X7_fillMoves_l17 N shC n) 65 (l : Int) (73 + l) ((l % S : Nat) : Int) k M = _
      unfold f_X7_fillMoves_b17
      rw [jrf_ok sC65, Option.bind_some, g1.t65_7, jra_ok sC70 (by omega) (by omega), Option.bind_some, Int.toNat_natCast, (hI2.2.2 _ hs4).1, if_pos (by omega), jlen_ok q2 (by decide) (by decide) (by decide), Option.bind_some, if_pos (by omega), jrf_ok sC65, Option.bind_some, hI2.1.1, s_isIn hh2 hl, Option.bind_some, ifb]
      by_cases c : hb h l = true
      · rw [if_pos c, jwa_ok q2 (by omega) (by omega), Option.bind_some, Int.toNat_natCast]
        unfold f_X7_fillMoves_b97 mvI
        rw [if_pos c, jw_succ (by omega)]
      · obtain ⟨hf, hrk⟩ := mem_line hS hl hcr c
        have hlk := s_look g1 hT hI2 hl hcr c hk
        have hlc : LC S w h cr (l % S) = lkD (rmS S w h (l % S)) (cnt (mbS S h cr (l % S)) (nS S)) := if_pos l2
        have hnl := nl_lt (rm_le (S := S) (h := h) (s := l % S) hw2) hrk (by rw [← hlc]; exact hk)
        rw [← hlc] at hnl
        rw [if_neg c, jck_ok sC65, Option.bind_some, hlk.1, Option.bind_some, jrf_ok sC65, Option.bind_some, g1.t65_8, jra_ok sC71 (by omega) (by omega), Option.bind_some, Int.toNat_natCast, (hI2.2.2 _ hs4).2, Option.bind_some, hlk.2, Option.bind_some, ifb]
        have hmv : mvI S w h cr l k = 2 * (((nlD (cnt (mbS S h cr (l % S)) (nS S)) (rmS S w h (l % S)) (cnt (mbS S h cr (l % S)) (l / S)) k : Int) - (k : Int)) * (sd (LC S w h cr) (l % S) : Int)) + (if lyD (cnt (mbS S h cr (l % S)) (nS S)) (rmS S w h (l % S)) (cnt (mbS S h cr (l % S)) (l / S)) k then 1 else 0) := if_neg c
        rw [hmv]
        generalize nlD (cnt (mbS S h cr (l % S)) (nS S)) (rmS S w h (l % S)) (cnt (mbS S h cr (l % S)) (l / S)) k = nl at *
        generalize lyD (cnt (mbS S h cr (l % S)) (nS S)) (rmS S w h (l % S)) (cnt (mbS S h cr (l % S)) (l / S)) k = ly at *
        generalize sd (LC S w h cr) (l % S) = st at *
        have b1 : nl * st ≤ 65 * 274625 := Nat.mul_le_mul (by omega) hsd
        have b2 : k * st ≤ 65 * 274625 := Nat.mul_le_mul (by omega) hsd
        have e : ((nl : Int) - (k : Int)) * (st : Int) = ((nl * st : Nat) : Int) - ((k * st : Nat) : Int) := by rw [Int.sub_mul]; omega
        rw [jw_eq (x := (nl : Int) - (k : Int)) (by omega) (by omega), e, jw_eq (x := ((nl * st : Nat) : Int) - ((k * st : Nat) : Int)) (by omega) (by omega), jw_eq (x := 2 * (((nl * st : Nat) : Int) - ((k * st : Nat) : Int))) (by omega) (by omega)]
        cases ly with
        | true =>
          rw [if_pos rfl, if_pos rfl]
          unfold f_X7_fillMoves_b95 f_X7_fillMoves_b97
          rw [jwa_ok q2 (by omega) (by omega), Option.bind_some, Int.toNat_natCast, jw_succ (by omega), jw_eq (by omega) (by omega)]
        | false =>
          rw [if_neg (by decide), if_neg (by decide)]
          unfold f_X7_fillMoves_b95 f_X7_fillMoves_b97
          rw [jwa_ok q2 (by omega) (by omega), Option.bind_some, Int.toNat_natCast, jw_succ (by omega), jw_eq (by omega) (by omega)]
    · rw [up_row]
      by_cases e : c = k
      · rw [if_pos e, e]
      · rw [if_neg e]; exact g2 c (by omega)) 0 N m (by omega) (by omega) ⟨hF, fun i hi => absurd hi (Nat.not_lt_zero i), fun _ _ _ => rfl⟩
  refine ⟨m1, ?_, i1, i2, i3⟩
  unfold f_X7_fillMoves
  rw [jrf_ok sC65, Option.bind_some, hF.t65_9, jra_ok sC72 (by omega) (by omega), Option.bind_some, Int.toNat_natCast, q1, jrf_ok sC65, Option.bind_some, hF.t65_3, jra_ok sC66 (by omega) (by omega), Option.bind_some, Int.toNat_natCast, (hI.1.2.2.1 l hl).1]
  show f_X7_fillMoves_l17 N shC N 65 (l : Int) (73 + l) ((l % S : Nat) : Int) ((0 : Nat) : Int) m = _
  rw [e1]
  show f_X7_fillMoves_b17 N shC (f_X7_fillMoves_l17 N shC n1) 65 (l : Int) (73 + l) ((l % S : Nat) : Int) (LC S w h cr (l % S) : Int) m1 = _
  unfold f_X7_fillMoves_b17
  rw [jrf_ok sC65, Option.bind_some, i1.t65_7, jra_ok sC70 (by omega) (by omega), Option.bind_some, Int.toNat_natCast, i3 70 (by omega), (hI.2.2 _ hs4).1, if_neg (by omega)]
