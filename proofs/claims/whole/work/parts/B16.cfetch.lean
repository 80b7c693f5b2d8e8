/-! ages: the class's fetch -/
def uA (S w h l : Nat) (a : AgT) (k : Nat) : Nat := if k < 8 then (if k % S = l % S ∧ hb h k = false ∧ a k < a l then a k + 1 else a k) else (if (k - 8) % S = l % S ∧ hb h (k - 8) = false ∧ a k ≤ a (8 + l) ∧ a k < rmS S w h (l % S) then a k + 1 else a k)
theorem fA_uA {S w h l k : Nat} {a : AgT} (hn : ¬ (hb h l = true ∨ rmS S w h (l % S) = 0)) (hk : k < 16) : fA S w h l a k = if k = l ∨ k = 8 + l then 0 else uA S w h l a k := by
  unfold fA uA
  rw [if_neg hn]
  show (if k = l ∨ k = 8 + l then 0 else if k < 8 then _ else if k < 16 then _ else _) = _
  rw [if_pos hk]
theorem uA_lo {S w h l x : Nat} {a : AgT} (hx : x < 8) : uA S w h l a x = if x % S = l % S ∧ hb h x = false ∧ a x < a l then a x + 1 else a x := if_pos hx
theorem uA_hi {S w h l x : Nat} {a : AgT} : uA S w h l a (8 + x) = if x % S = l % S ∧ hb h x = false ∧ a (8 + x) ≤ a (8 + l) ∧ a (8 + x) < rmS S w h (l % S) then a (8 + x) + 1 else a (8 + x) := by
  unfold uA
  rw [if_neg (by omega), Nat.add_sub_cancel_left]
def IA (m M : jm_M) (row S w h l : Nat) (a : AgT) (x : Nat) : Prop := (∀ k, k < 16 → M row k = ((if k < x ∨ (8 ≤ k ∧ k < 8 + x) then uA S w h l a k else a k : Nat) : Int)) ∧ ∀ c, c ≠ row → ∀ j, M c j = m c j
theorem IA.next {m M : jm_M} {row S w h l x : Nat} {a : AgT} (hI : IA m M row S w h l a x) (hx : x < 8) : IA m (jm_up (jm_up M row x (uA S w h l a x : Int)) row (8 + x) (uA S w h l a (8 + x) : Int)) row S w h l a (x + 1) := by
  refine ⟨fun k hk => ?_, fun c hc j => (up_ne hc).trans ((up_ne hc).trans (hI.2 c hc j))⟩
  by_cases c : k = 8 + x
  · rw [c, up_eq, if_pos (by omega)]
  · rw [up_nk c]
    by_cases c' : k = x
    · rw [c', up_eq, if_pos (by omega)]
    · rw [up_nk c', hI.1 k hk]
      by_cases c2 : k < x ∨ (8 ≤ k ∧ k < 8 + x)
      · rw [if_pos c2, if_pos (by omega)]
      · rw [if_neg c2, if_neg (by omega)]
theorem IA.skip {m M : jm_M} {row S w h l x : Nat} {a : AgT} (hI : IA m M row S w h l a x) (hx : x < 8) (h1 : uA S w h l a x = a x) (h2 : uA S w h l a (8 + x) = a (8 + x)) : IA m M row S w h l a (x + 1) := by
  refine ⟨fun k hk => ?_, hI.2⟩
  rw [hI.1 k hk]
  by_cases c : k = 8 + x
  · rw [c, if_neg (by omega), if_pos (by omega), h2]
  · by_cases c' : k = x
    · rw [c', if_neg (by omega), if_pos (by omega), h1]
    · by_cases c2 : k < x ∨ (8 ≤ k ∧ k < 8 + x)
      · rw [if_pos c2, if_pos (by omega)]
      · rw [if_neg c2, if_neg (by omega)]
theorem s_fetchA {N S w h l : Nat} {a : AgT} {m : jm_M} (hN : 20 ≤ N) (hF : CF m) (hG : GS m S w h) (hT : ST S w h) (hl : l < 8) (hA : RA m 143 a) (hb2 : bdA a) : ∃ M, f_X0_fetch N shC 142 (l : Int) m = some M ∧ RA M 143 (fA S w h l a) ∧ ∀ c, c ≠ 143 → ∀ j, M c j = m c j := by
  have eh := s_holds hF hG hT.2.2.1 hl
  have er := s_roomFor hF hG hT hl
  have hr2 := rm_le (S := S) (h := h) (s := l % S) hT.2.1.2
  obtain ⟨r, ef, hr, hrb⟩ := s_freeMates hF hG hT hl
  have head : f_X0_fetch N shC 142 (l : Int) m = if hb h l = true then some m else if rmS S w h (l % S) = 0 then some m else f_X0_fetch_l56 N shC N 142 (l : Int) (rmS S w h (l % S) : Int) (a l : Int) (a (8 + l) : Int) (r : Int) 0 m := by
    have e8 : jw (8 + (l : Int)) = ((8 + l : Nat) : Int) := by rw [jw_eq (by omega) (by omega)]; omega
    unfold f_X0_fetch
    rw [jrf_ok sC142, Option.bind_some, hF.t142_1, jck_ok sC2, Option.bind_some, er, Option.bind_some, Option.bind_some, hF.t142_1, jck_ok sC2, Option.bind_some, eh, Option.bind_some, ifb]
    by_cases c : hb h l = true
    · rw [if_pos c, if_pos c]
    · rw [if_neg c, if_neg c]
      by_cases c2 : rmS S w h (l % S) = 0
      · rw [if_pos (by omega), if_pos c2]
      · rw [if_neg (by omega), if_neg c2, jrf_ok sC142, Option.bind_some, hF.t142_2, hA.get r143.s (by omega), Option.bind_some, Option.bind_some, hF.t142_2, e8, hA.get r143.s (by omega), Option.bind_some, Option.bind_some, hF.t142_1, jck_ok sC2, Option.bind_some, ef, Option.bind_some]
  rw [head]
  by_cases c : hb h l = true
  · rw [if_pos c]
    have e : fA S w h l a = a := if_pos (Or.inl c)
    exact ⟨m, rfl, by rw [e]; exact hA, fun _ _ _ => rfl⟩
  · rw [if_neg c]
    by_cases c2 : rmS S w h (l % S) = 0
    · rw [if_pos c2]
      have e : fA S w h l a = a := if_pos (Or.inr c2)
      exact ⟨m, rfl, by rw [e]; exact hA, fun _ _ _ => rfl⟩
    · rw [if_neg c2]
      obtain ⟨M, n', e, q⟩ := loopN (fun n k m => f_X0_fetch_l56 N shC n 142 (l : Int) (rmS S w h (l % S) : Int) (a l : Int) (a (8 + l) : Int) (r : Int) k m) 8 (fun x M => IA m M 143 S w h l a x) (fun n x M hx hI => by
        have cf : CF M := hF.row r143.c hI.2
        have h1 : M 143 x = (a x : Int) := by rw [hI.1 x (by omega), if_neg (by omega)]
        have h2 : M 143 (8 + x) = (a (8 + x) : Int) := by rw [hI.1 (8 + x) (by omega), if_neg (by omega)]
        have b1 := hb2 x (by omega)
        have b2 := hb2 (8 + x) (by omega)
        have e8 : jw (8 + (x : Int)) = ((8 + x : Nat) : Int) := by rw [jw_eq (by omega) (by omega)]; omega
        have u1 := uA_lo (S := S) (w := w) (h := h) (l := l) (a := a) hx
        have u2 := uA_hi (S := S) (w := w) (h := h) (l := l) (x := x) (a := a)
        have hrx := hrb x hx
        have start : f_X0_fetch_l56 N shC (n + 1) 142 (l : Int) (rmS S w h (l % S) : Int) (a l : Int) (a (8 + l) : Int) (r : Int) (x : Int) M = f_X0_fetch_b56 N shC (f_X0_fetch_l56 N shC n) 142 (l : Int) (rmS S w h (l % S) : Int) (a l : Int) (a (8 + l) : Int) (r : Int) (x : Int) M := rfl
        by_cases cm : hb r x = true
        · rw [cm] at hrx
          have hm1 : x % S = l % S := by
            by_cases z : x % S = l % S
            · exact z
            · rw [decide_eq_false z] at hrx; cases hrx
          have hm2 : hb h x = false := by
            cases z : hb h x with
            | false => rfl
            | true => rw [z, Bool.not_true, Bool.and_false] at hrx; cases hrx
          have cf1 : CF (jm_up M 143 x (uA S w h l a x : Int)) := cf.row r143.c (fun c hc j => up_ne hc)
          refine ⟨_, ?_, hI.next hx⟩
          have h97 : ∀ z : Int, (a x : Int) + z = (uA S w h l a x : Int) → f_X0_fetch_b97 N shC (f_X0_fetch_l56 N shC n) 142 (l : Int) (rmS S w h (l % S) : Int) (a l : Int) (a (8 + l) : Int) (r : Int) (x : Int) 143 (x : Int) (a x : Int) z M = f_X0_fetch_l56 N shC n 142 (l : Int) (rmS S w h (l % S) : Int) (a l : Int) (a (8 + l) : Int) (r : Int) ((x + 1 : Nat) : Int) (jm_up (jm_up M 143 x (uA S w h l a x : Int)) 143 (8 + x) (uA S w h l a (8 + x) : Int)) := by
            intro z hz
            have hu : uA S w h l a x ≤ 3 := by rw [u1]; split <;> omega
            have g8 : jm_up M 143 x (uA S w h l a x : Int) 143 (8 + x) = (a (8 + x) : Int) := by rw [up_nk (by omega)]; exact h2
            have h144 : ∀ y : Int, (a (8 + x) : Int) + y = (uA S w h l a (8 + x) : Int) → f_X0_fetch_b144 N shC (f_X0_fetch_l56 N shC n) 142 (l : Int) (rmS S w h (l % S) : Int) (a l : Int) (a (8 + l) : Int) (r : Int) (x : Int) 143 ((8 + x : Nat) : Int) (a (8 + x) : Int) y (jm_up M 143 x (uA S w h l a x : Int)) = f_X0_fetch_l56 N shC n 142 (l : Int) (rmS S w h (l % S) : Int) (a l : Int) (a (8 + l) : Int) (r : Int) ((x + 1 : Nat) : Int) (jm_up (jm_up M 143 x (uA S w h l a x : Int)) 143 (8 + x) (uA S w h l a (8 + x) : Int)) := by
              intro y hy
              have hu2 : uA S w h l a (8 + x) ≤ 3 := by rw [u2]; split <;> omega
              unfold f_X0_fetch_b144 f_X0_fetch_b146
              rw [hy, jw_nat (by omega), jwa_ok r143.s (by omega) (by omega), Option.bind_some, Int.toNat_natCast, jw_succ (by omega)]
            unfold f_X0_fetch_b97 f_X0_fetch_b143
            rw [hz, jw_nat (by omega), jwa_ok r143.s (by omega) (by omega), Option.bind_some, Int.toNat_natCast, jrf_ok sC142, Option.bind_some, cf1.t142_2, e8, jra_ok r143.s (by omega) (by omega), Option.bind_some, Int.toNat_natCast, g8, Option.bind_some, Option.bind_some, cf1.t142_2, jra_ok r143.s (by omega) (by omega), Option.bind_some, Int.toNat_natCast, g8, Option.bind_some]
            by_cases k1 : a (8 + l) < a (8 + x)
            · rw [if_pos (by omega)]
              exact h144 0 (by rw [u2, if_neg (fun z => by have := z.2.2.1; omega)]; omega)
            · rw [if_neg (by omega)]
              by_cases k2 : a (8 + x) < rmS S w h (l % S)
              · rw [if_pos (by omega)]
                exact h144 1 (by rw [u2, if_pos ⟨hm1, hm2, by omega, k2⟩]; omega)
              · rw [if_neg (by omega)]
                exact h144 0 (by rw [u2, if_neg (fun z => by have := z.2.2.2; omega)]; omega)
          show f_X0_fetch_l56 N shC (n + 1) 142 (l : Int) (rmS S w h (l % S) : Int) (a l : Int) (a (8 + l) : Int) (r : Int) (x : Int) M = _
          rw [start]
          unfold f_X0_fetch_b56
          rw [if_pos (by omega), s_isIn hr hx, Option.bind_some, ifb, if_pos cm, jrf_ok sC142, Option.bind_some, cf.t142_2, jra_ok r143.s (by omega) (by omega), Option.bind_some, Int.toNat_natCast, h1, Option.bind_some, cf.t142_2, jra_ok r143.s (by omega) (by omega), Option.bind_some, Int.toNat_natCast, h1]
          by_cases k1 : a x < a l
          · rw [if_pos (by omega)]
            exact h97 1 (by rw [u1, if_pos ⟨hm1, hm2, k1⟩]; omega)
          · rw [if_neg (by omega)]
            exact h97 0 (by rw [u1, if_neg (fun z => k1 z.2.2)]; omega)
        · have cm0 : hb r x = false := by cases z : hb r x with
            | false => rfl
            | true => exact absurd z cm
          rw [cm0] at hrx
          have hnm : ¬ (x % S = l % S ∧ hb h x = false) := fun z => by
            rw [decide_eq_true z.1, z.2] at hrx
            cases hrx
          refine ⟨M, ?_, hI.skip hx (by rw [u1, if_neg (fun z => hnm ⟨z.1, z.2.1⟩)]) (by rw [u2, if_neg (fun z => hnm ⟨z.1, z.2.1⟩)])⟩
          show f_X0_fetch_l56 N shC (n + 1) 142 (l : Int) (rmS S w h (l % S) : Int) (a l : Int) (a (8 + l) : Int) (r : Int) (x : Int) M = _
          rw [start]
          unfold f_X0_fetch_b56 f_X0_fetch_b146
          rw [if_pos (by omega), s_isIn hr hx, Option.bind_some, ifb, if_neg cm, jw_succ (by omega)]) 0 N m (by omega) (by omega) ⟨fun k hk => by rw [if_neg (by omega)]; exact hA k hk, fun _ _ _ => rfl⟩
      have e : f_X0_fetch_l56 N shC N 142 (l : Int) (rmS S w h (l % S) : Int) (a l : Int) (a (8 + l) : Int) (r : Int) 0 m = f_X0_fetch_l56 N shC (n' + 1) 142 (l : Int) (rmS S w h (l % S) : Int) (a l : Int) (a (8 + l) : Int) (r : Int) ((8 : Nat) : Int) M := e
      have cf : CF M := hF.row r143.c q.2
      have cf1 : CF (jm_up M 143 l 0) := cf.row r143.c (fun c hc j => up_ne hc)
      have e8 : jw (8 + (l : Int)) = ((8 + l : Nat) : Int) := by rw [jw_eq (by omega) (by omega)]; omega
      refine ⟨jm_up (jm_up M 143 l 0) 143 (8 + l) 0, ?_, fun k hk => ?_, fun c hc j => (up_ne hc).trans ((up_ne hc).trans (q.2 c hc j))⟩
      · rw [e]
        show f_X0_fetch_b56 N shC (f_X0_fetch_l56 N shC n') 142 (l : Int) (rmS S w h (l % S) : Int) (a l : Int) (a (8 + l) : Int) (r : Int) ((8 : Nat) : Int) M = _
        unfold f_X0_fetch_b56
        rw [if_neg (by omega), jrf_ok sC142, Option.bind_some, cf.t142_2, jwa_ok r143.s (by omega) (by omega), Option.bind_some, Int.toNat_natCast, jrf_ok sC142, Option.bind_some, cf1.t142_2, e8, jwa_ok r143.s (by omega) (by omega), Option.bind_some, Int.toNat_natCast]
      · rw [fA_uA (fun z => z.elim c c2) hk]
        by_cases k1 : k = 8 + l
        · rw [k1, up_eq, if_pos (Or.inr rfl)]; rfl
        · rw [up_nk k1]
          by_cases k2 : k = l
          · rw [k2, up_eq, if_pos (Or.inl rfl)]; rfl
          · rw [up_nk k2, q.1 k hk, if_pos (by omega), if_neg (by omega)]
