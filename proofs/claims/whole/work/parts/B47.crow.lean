/-! the class's rows: tables by shelf of what is still to come -/
def isW (a : Nat) : Prop := 114 ≤ a ∧ a ≤ 141 ∧ a ≠ 115 ∧ a ≠ 121
theorem w_d : ∀ a : Fin 192, 114 ≤ a.val → a.val ≤ 141 → a.val ≠ 115 → a.val ≠ 121 → rC a.val = true ∧ shCL.getD a.val (99, 0) = (13, 625) := by decide +kernel
theorem isW.c {a : Nat} (h : isW a) : rC a = true := (w_d ⟨a, by have := h.2.1; omega⟩ h.1 h.2.1 h.2.2.1 h.2.2.2).1
theorem isW.s {a : Nat} (h : isW a) : shC a = (13, 625) := (shC_at a (by have := h.2.1; omega)).trans (w_d ⟨a, by have := h.2.1; omega⟩ h.1 h.2.1 h.2.2.1 h.2.2.2).2
theorem w_rfC : ∀ q ∈ rfC, ¬ (114 ≤ q.1 ∧ q.1 ≤ 141 ∧ q.1 ≠ 115 ∧ q.1 ≠ 121) ∧ ¬ (q.1 = 112 ∧ (q.2.1 = 0 ∨ q.2.1 = 1 ∨ q.2.1 = 2 ∨ q.2.1 = 3)) ∧ q.1 ≠ 113 := by decide +kernel
theorem bw_row {m : jm_M} (hF : CF m) {x : Nat} (hx : x < 5) : (m 115 x).toNat = 116 + x ∧ isW (116 + x) := by
  have h8 : ∀ l : Fin 5, (115, l.val, 116 + l.val) ∈ rfC := by decide +kernel
  have h : m 115 x = ((116 + x : Nat) : Int) := hF _ (h8 ⟨x, hx⟩)
  exact ⟨by rw [h]; exact Int.toNat_natCast _, by unfold isW; omega⟩
theorem ah_row {m : jm_M} (hF : CF m) {x : Nat} (hx : x < 20) : (m 121 x).toNat = 122 + x ∧ isW (122 + x) := by
  have h8 : ∀ l : Fin 20, (121, l.val, 122 + l.val) ∈ rfC := by decide +kernel
  have h : m 121 x = ((122 + x : Nat) : Int) := hF _ (h8 ⟨x, hx⟩)
  exact ⟨by rw [h]; exact Int.toNat_natCast _, by unfold isW; omega⟩
def TBc (m : jm_M) (S w h cr a : Nat) (β : Bt) : Prop := ∀ k c, Rk S w h cr k c → m a c = (β k : Int)
theorem TBc.same {m M : jm_M} {S w h cr a : Nat} {β : Bt} (hT : TBc m S w h cr a β) (hs : ∀ j, M a j = m a j) : TBc M S w h cr a β := fun k c hk => (hs c).trans (hT k c hk)
def GRr (m : jm_M) (t cn : Nat) (sg : Nat → Int) (S w h ms cr : Nat) : Prop := CF m ∧ CT m t cn sg ∧ LD3 m S w h cr ∧ m 112 3 = (t : Int) ∧ m 112 2 = (ms : Int)
theorem GRr.rows {m M : jm_M} {t cn : Nat} {sg : Nat → Int} {S w h ms cr : Nat} (hG : GRr m t cn sg S w h ms cr) (ht : t ∈ tL) (hs : ∀ a, ¬ isW a → a ≠ 112 → a ≠ 113 → ∀ j, M a j = m a j) (h1 : ∀ j, j ≠ 0 → j ≠ 1 → M 112 j = m 112 j) : GRr M t cn sg S w h ms cr := by
  obtain ⟨g1, g2, g3, g4, g5⟩ := hG
  have htl := tL_lt t ht
  refine ⟨g1.same fun q hq => ?_, g2.same (fun a h1 h2 j => hs a (by unfold isW; omega) (by omega) (by omega) j), g3.same (fun a h1 h2 j => hs a (by unfold isW; omega) (by omega) (by omega) j), by rw [h1 3 (by decide) (by decide)]; exact g4, by rw [h1 2 (by decide) (by decide)]; exact g5⟩
  obtain ⟨z1, z2, z3⟩ := w_rfC q hq
  by_cases c : q.1 = 112
  · rw [c]
    exact h1 _ (fun y => z2 ⟨c, Or.inl y⟩) (fun y => z2 ⟨c, Or.inr (Or.inl y)⟩)
  · exact hs _ z1 c z3 _
theorem GRr.row {m M : jm_M} {t cn b : Nat} {sg : Nat → Int} {S w h ms cr : Nat} (hG : GRr m t cn sg S w h ms cr) (ht : t ∈ tL) (hb : isW b) (hs : ∀ a, a ≠ b → ∀ j, M a j = m a j) : GRr M t cn sg S w h ms cr := hG.rows ht (fun a h1 _ _ j => hs a (fun z => h1 (by rw [z]; exact hb)) j) (fun j _ _ => hs 112 (fun z => by unfold isW at hb; omega) j)
theorem s_copyW {N t cn fr to : Nat} {sg : Nat → Int} {S w h ms cr : Nat} {m : jm_M} (hN : 1000 ≤ N) (ht : t ∈ tL) (hT : ST S w h) (hG : GRr m t cn sg S w h ms cr) (hf : isW fr) (hto : isW to) (hne : fr ≠ to) : ∃ M, f_X5_copy N shC 112 fr to m = some M ∧ (∀ c, c < CN S w h cr → M to c = m fr c) ∧ ∀ a, a ≠ to → ∀ j, M a j = m a j := by
  have hC := CN_le (w := w) (h := h) (cr := cr) hT.1
  obtain ⟨M, n', e, q⟩ := loopN (fun n k m => f_X5_copy_l2 N shC n 112 fr to k m) (CN S w h cr) (fun x M => (∀ c, c < x → M to c = m fr c) ∧ ∀ a, a ≠ to → ∀ j, M a j = m a j) (fun n x M hx hI => by
    obtain ⟨g1, g2, g3, g4, g5⟩ := hG.row ht hto hI.2
    refine ⟨jm_up M to x (m fr x), ?_, fun c hc => ?_, fun a ha j => (up_ne ha).trans (hI.2 a ha j)⟩
    · show f_X5_copy_b2 N shC (f_X5_copy_l2 N shC n) 112 fr to (x : Int) M = _
      unfold f_X5_copy_b2
      rw [jrf_ok sC112, Option.bind_some, g1.t112_5, jrf_ok sC65, Option.bind_some, g3.1.2.1, if_pos (by omega), jlen_ok hto.s (by decide) (by decide) (by decide), Option.bind_some, if_pos (by omega), jlen_ok hf.s (by decide) (by decide) (by decide), Option.bind_some, if_pos (by omega), jra_ok hf.s (by omega) (by omega), Option.bind_some, Int.toNat_natCast, jwa_ok hto.s (by omega) (by omega), Option.bind_some, Int.toNat_natCast, jw_succ (by omega), hI.2 fr hne]
    · by_cases k : c = x
      · rw [k]; exact up_eq
      · rw [up_nk k]; exact hI.1 c (by omega)) 0 N m (by omega) (by omega) ⟨fun c hc => by omega, fun _ _ _ => rfl⟩
  have e : f_X5_copy_l2 N shC N 112 fr to 0 m = f_X5_copy_l2 N shC (n' + 1) 112 fr to (CN S w h cr : Int) M := e
  obtain ⟨g1, g2, g3, g4, g5⟩ := hG.row ht hto q.2
  refine ⟨M, ?_, q.1, q.2⟩
  unfold f_X5_copy
  rw [e]
  show f_X5_copy_b2 N shC (f_X5_copy_l2 N shC n') 112 fr to (CN S w h cr : Int) M = _
  unfold f_X5_copy_b2
  rw [jrf_ok sC112, Option.bind_some, g1.t112_5, jrf_ok sC65, Option.bind_some, g3.1.2.1, if_neg (by omega)]
theorem s_raiseW {N t cn fr to : Nat} {sg : Nat → Int} {S w h ms cr : Nat} {m : jm_M} (hN : 1000 ≤ N) (ht : t ∈ tL) (hT : ST S w h) (hG : GRr m t cn sg S w h ms cr) (hf : isW fr) (hto : isW to) (hne : fr ≠ to) : ∃ M, f_X5_raise N shC 112 to fr m = some M ∧ (∀ c, c < CN S w h cr → M to c = if m to c < m fr c then m fr c else m to c) ∧ ∀ a, a ≠ to → ∀ j, M a j = m a j := by
  have hC := CN_le (w := w) (h := h) (cr := cr) hT.1
  obtain ⟨M, n', e, q⟩ := loopN (fun n k m => f_X5_raise_l2 N shC n 112 to fr k m) (CN S w h cr) (fun x M => (∀ c, c < x → M to c = if m to c < m fr c then m fr c else m to c) ∧ (∀ c, x ≤ c → M to c = m to c) ∧ ∀ a, a ≠ to → ∀ j, M a j = m a j) (fun n x M hx hI => by
    obtain ⟨g1, g2, g3, g4, g5⟩ := hG.row ht hto hI.2.2
    have emx : ∀ a b : Int, f_J9_max_7cf53 a b = some (if a < b then b else a) := fun a b => by
      unfold f_J9_max_7cf53
      by_cases c5 : a < b
      · rw [if_pos c5, if_pos c5]
      · rw [if_neg c5, if_neg c5]
    refine ⟨jm_up M to x (if m to x < m fr x then m fr x else m to x), ?_, fun c hc => ?_, fun c hc => ?_, fun a ha j => (up_ne ha).trans (hI.2.2 a ha j)⟩
    · show f_X5_raise_b2 N shC (f_X5_raise_l2 N shC n) 112 to fr (x : Int) M = _
      unfold f_X5_raise_b2
      rw [jrf_ok sC112, Option.bind_some, g1.t112_5, jrf_ok sC65, Option.bind_some, g3.1.2.1, if_pos (by omega), jlen_ok hto.s (by decide) (by decide) (by decide), Option.bind_some, if_pos (by omega), jlen_ok hf.s (by decide) (by decide) (by decide), Option.bind_some, if_pos (by omega), jra_ok hto.s (by omega) (by omega), Option.bind_some, Int.toNat_natCast, jra_ok hf.s (by omega) (by omega), Option.bind_some, Int.toNat_natCast, emx, Option.bind_some, jwa_ok hto.s (by omega) (by omega), Option.bind_some, Int.toNat_natCast, jw_succ (by omega), hI.2.2 fr hne, hI.2.1 x (Nat.le_refl _)]
    · by_cases k : c = x
      · rw [k]; exact up_eq
      · rw [up_nk k]; exact hI.1 c (by omega)
    · rw [up_nk (by omega)]; exact hI.2.1 c (by omega)) 0 N m (by omega) (by omega) ⟨fun c hc => by omega, fun _ _ => rfl, fun _ _ _ => rfl⟩
  have e : f_X5_raise_l2 N shC N 112 to fr 0 m = f_X5_raise_l2 N shC (n' + 1) 112 to fr (CN S w h cr : Int) M := e
  obtain ⟨g1, g2, g3, g4, g5⟩ := hG.row ht hto q.2.2
  refine ⟨M, ?_, q.1, q.2.2⟩
  unfold f_X5_raise
  rw [e]
  show f_X5_raise_b2 N shC (f_X5_raise_l2 N shC n') 112 to fr (CN S w h cr : Int) M = _
  unfold f_X5_raise_b2
  rw [jrf_ok sC112, Option.bind_some, g1.t112_5, jrf_ok sC65, Option.bind_some, g3.1.2.1, if_neg (by omega)]
theorem step_parts {a : Nat} {b : Bool} (ha : a < 625) : jshr ((2 * a + (if b then 1 else 0) : Nat) : Int) 1 = (a : Int) ∧ jand ((2 * a + (if b then 1 else 0) : Nat) : Int) 1 = (if b then 1 else 0) := by
  have hlt : 2 * a + (if b then 1 else 0) < 1300 := by split <;> omega
  refine ⟨?_, ?_⟩
  · have := jshr_half ⟨_, hlt⟩
    rw [this]
    show (((2 * a + (if b then 1 else 0)) / 2 : Nat) : Int) = _
    have : (2 * a + (if b then 1 else 0)) / 2 = a := by split <;> omega
    rw [this]
  · rw [jand_1 (by omega)]
    cases b
    · rw [if_neg (by decide), if_neg (by decide)]; omega
    · rw [if_pos rfl, if_pos rfl]; omega
theorem s_fetchW {N t cn fr to l : Nat} {sg : Nat → Int} {S w h ms cr : Nat} {m : jm_M} (hN : 1000 ≤ N) (ht : t ∈ tL) (hT : ST S w h) (hl : l < 8) (hcr : hb cr l = true) (hG : GRr m t cn sg S w h ms cr) (hf : isW fr) (hto : isW to) (hne : fr ≠ to) : ∃ M, f_X5_lookFetch N shC 112 (l : Int) fr to m = some M ∧ (∀ c, c < CN S w h cr → M to c = jw (m fr (fC S w h cr c l) + (if tC' S w h cr c l then 1 else (ms : Int)))) ∧ ∀ a, a ≠ to → ∀ j, M a j = m a j := by
  have hC := CN_le (w := w) (h := h) (cr := cr) hT.1
  obtain ⟨M, n', e, q⟩ := loopN (fun n k m => f_X5_lookFetch_l3 N shC n 112 (l : Int) fr to k m) (CN S w h cr) (fun x M => (∀ c, c < x → M to c = jw (m fr (fC S w h cr c l) + (if tC' S w h cr c l then 1 else (ms : Int)))) ∧ ∀ a, a ≠ to → ∀ j, M a j = m a j) (fun n x M hx hI => by
    obtain ⟨g1, g2, g3, g4, g5⟩ := hG.row ht hto hI.2
    have hfl := (fC_lt hT hl hcr hx).1
    obtain ⟨p1, p2⟩ := step_parts (a := fC S w h cr x l) (b := tC' S w h cr x l) (by omega)
    refine ⟨jm_up M to x (jw (m fr (fC S w h cr x l) + (if tC' S w h cr x l then 1 else (ms : Int)))), ?_, fun c hc => ?_, fun a ha j => (up_ne ha).trans (hI.2 a ha j)⟩
    · show f_X5_lookFetch_b3 N shC (f_X5_lookFetch_l3 N shC n) 112 (l : Int) fr to (x : Int) M = _
      unfold f_X5_lookFetch_b3 f_X5_lookFetch_b75 f_X5_lookFetch_b77
      rw [jrf_ok sC112, Option.bind_some, g1.t112_5, jrf_ok sC65, Option.bind_some, g3.1.2.1, if_pos (by omega), jlen_ok hto.s (by decide) (by decide) (by decide), Option.bind_some, if_pos (by omega), Option.bind_some, g1.t112_5, jck_ok sC65, Option.bind_some, s_stepOf g1 hT g3 hl hcr hx, Option.bind_some, p1, p2, if_neg (by omega), jlen_ok hf.s (by decide) (by decide) (by decide), Option.bind_some, if_pos (by omega), jra_ok hf.s (by omega) (by omega), Option.bind_some, Int.toNat_natCast, hI.2 fr hne, jw_succ (by omega)]
      cases tC' S w h cr x l
      · rw [if_neg (by decide), if_neg (by decide), jrf_ok sC112, Option.bind_some, g5, jwa_ok hto.s (by omega) (by omega), Option.bind_some, Int.toNat_natCast]
      · rw [if_pos rfl, if_pos rfl, jwa_ok hto.s (by omega) (by omega), Option.bind_some, Int.toNat_natCast, if_pos rfl]
    · by_cases k : c = x
      · rw [k]; exact up_eq
      · rw [up_nk k]; exact hI.1 c (by omega)) 0 N m (by omega) (by omega) ⟨fun c hc => by omega, fun _ _ _ => rfl⟩
  have e : f_X5_lookFetch_l3 N shC N 112 (l : Int) fr to 0 m = f_X5_lookFetch_l3 N shC (n' + 1) 112 (l : Int) fr to (CN S w h cr : Int) M := e
  obtain ⟨g1, g2, g3, g4, g5⟩ := hG.row ht hto q.2
  refine ⟨M, ?_, q.1, q.2⟩
  unfold f_X5_lookFetch
  rw [e]
  show f_X5_lookFetch_b3 N shC (f_X5_lookFetch_l3 N shC n') 112 (l : Int) fr to (CN S w h cr : Int) M = _
  unfold f_X5_lookFetch_b3
  rw [jrf_ok sC112, Option.bind_some, g1.t112_5, jrf_ok sC65, Option.bind_some, g3.1.2.1, if_neg (by omega)]
