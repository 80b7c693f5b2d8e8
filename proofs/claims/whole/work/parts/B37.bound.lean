/-! bounds: the table of costs, from the last node to the first -/
def fcO (S w h : Nat) (ms one : Int) (sg : Nat → Int) (i : Nat) : Int := if soO S w h sg i = 0 then 1 else if soO S w h sg i = 2 then one else ms
def ncO (S w h : Nat) (ms one : Int) (sg : Nat → Int) (T : Nat → Int) (i : Nat) : Int := if sg i = 45 then 0 else if sg i = 59 then jw (T (i + 1) + T (nx sg i)) else if sg i = 63 then (if T (i + 1) < T (nx sg i) then T (nx sg i) else T (i + 1)) else if 98 ≤ sg i ∧ sg i ≤ 100 then jw ((tmO (sg i) : Int) * T (i + 1)) else fcO S w h ms one sg i
def tbO (S w h : Nat) (ms one : Int) (sg : Nat → Int) (cn : Nat) : Nat → Nat → Int
  | 0 => fun _ => 0
  | k + 1 => fun j => if j = cn - 1 - k then ncO S w h ms one sg (tbO S w h ms one sg cn k) (cn - 1 - k) else tbO S w h ms one sg cn k j
theorem ncO_congr {S w h cn : Nat} {ms one : Int} {sg : Nat → Int} (hX : TX cn sg) {T U : Nat → Int} {i : Nat} (hi : i < cn) (hh : ∀ j, i < j → j < cn → T j = U j) : ncO S w h ms one sg T i = ncO S w h ms one sg U i := by
  unfold ncO
  by_cases c2 : sg i = 59
  · have := hX.two hi (by rw [c2]; rfl)
    have hn : nx sg i = i + 1 + zs sg 4 (i + 1) := rfl
    rw [hh (i + 1) (by omega) (by omega), hh (nx sg i) (by omega) (by omega)]
  · by_cases c3 : sg i = 63
    · have := hX.two hi (by rw [c3]; rfl)
      have hn : nx sg i = i + 1 + zs sg 4 (i + 1) := rfl
      rw [hh (i + 1) (by omega) (by omega), hh (nx sg i) (by omega) (by omega)]
    · by_cases c4 : 98 ≤ sg i ∧ sg i ≤ 100
      · have hp : pt (sg i) = 1 := by
          rcases (show sg i = 98 ∨ sg i = 99 ∨ sg i = 100 by omega) with z | z | z <;> (rw [z]; rfl)
        have := hX.one hi hp
        rw [if_neg c2, if_neg c3, if_pos c4, if_neg c2, if_neg c3, if_pos c4, hh (i + 1) (by omega) (by omega)]
      · rw [if_neg c2, if_neg c3, if_neg c4, if_neg c2, if_neg c3, if_neg c4]
theorem s_costAt {t cn : Nat} {sg : Nat → Int} {m : jm_M} (ht : t ∈ tL) (hF : CF m) (hcn : cn ≤ 30) (hC : CT m t cn sg) (h0 : m 187 0 = (t : Int)) (v : Nat) : f_X2_costAt shC 187 (v : Int) m = some (if v < cn then m 189 v else 0) := by
  have et : (m 187 0).toNat = t := by rw [h0]; exact Int.toNat_natCast _
  have t1 := (tC hF t ht).1
  unfold f_X2_costAt f_X10_has
  rw [jrf_ok sC187, Option.bind_some, et, jck_ok t1, Option.bind_some, if_neg (by omega), jrf_ok t1, Option.bind_some, hC.1]
  by_cases c : v < cn
  · rw [if_pos (by omega), Option.bind_some, if_neg (by decide), jrf_ok sC187, Option.bind_some, hF.t187_4, jlen_ok sC189 (by decide) (by decide) (by decide), Option.bind_some, if_pos (by omega), Option.bind_some, hF.t187_4, jra_ok sC189 (by omega) (by omega), Option.bind_some, Int.toNat_natCast, if_pos c]
  · rw [if_neg (by omega), Option.bind_some, if_pos rfl, if_neg c]
theorem s_costNode {t cn : Nat} {sg : Nat → Int} {S w h i ms : Nat} {one : Int} {m : jm_M} (ht : t ∈ tL) (hF : CF m) (hX : TX cn sg) (hC : CT m t cn sg) (h0 : m 187 0 = (t : Int)) (hSO : SO m cn sg S w h) (h2 : m 3 2 = (ms : Int)) (hi : i < cn) : f_X2_costOfNode shC 187 (i : Int) one m = some (ncO S w h (ms : Int) one sg (fun j => m 189 j) i) := by
  have hcn := hX.1
  have et : (m 187 0).toNat = t := by rw [h0]; exact Int.toNat_natCast _
  have t1 := (tC hF t ht).1
  obtain ⟨v, ev, hv⟩ := s_second hF ht hX hC hi
  have g2 : f_X1_setting shC 2 2 m = some (ms : Int) := by
    rw [s_setting hF two_bL (by decide) (by decide)]
    show some (m 3 2) = _
    rw [h2]
  have hb : ∀ x3 : Int, (98 ≤ sg i ∧ sg i ≤ 100) → f_X2_costOfNode_b104 shC 187 (i : Int) x3 m = some (jw ((tmO (sg i) : Int) * x3)) := fun x3 hs => by
    unfold f_X2_costOfNode_b104
    rw [jrf_ok sC187, Option.bind_some, et, jck_ok t1, Option.bind_some, s_times hF ht hC hcn hi hs, Option.bind_some]
  have sgn := hX.sign hi
  unfold f_X2_costOfNode ncO
  rw [jrf_ok sC187, Option.bind_some, et, jck_ok t1, Option.bind_some, s_first (by omega), Option.bind_some, jck_ok sC187, Option.bind_some, s_costAt ht hF hcn hC h0, Option.bind_some, Option.bind_some, et, jck_ok t1, Option.bind_some, ev, Option.bind_some, Option.bind_some, s_costAt ht hF hcn hC h0, Option.bind_some, Option.bind_some, et, jck_ok t1, Option.bind_some, s_sg hF ht hC hcn hi, Option.bind_some]
  by_cases c1 : sg i = 45
  · rw [if_pos c1.symm, if_pos c1]
  · rw [if_neg (fun z => c1 z.symm), if_neg c1]
    by_cases c2 : sg i = 59
    · have h3 := hX.two hi (by rw [c2]; rfl)
      obtain rfl := hv (by omega)
      rw [if_pos c2.symm, if_pos c2, if_pos (by omega), if_pos (by omega)]
    · rw [if_neg (fun z => c2 z.symm), if_neg c2]
      by_cases c3 : sg i = 63
      · have h3 := hX.two hi (by rw [c3]; rfl)
        obtain rfl := hv (by omega)
        rw [if_pos c3.symm, if_pos c3, if_pos (show i + 1 < cn by omega), if_pos (show nx sg i < cn by omega)]
        unfold f_J9_max_7cf53
        by_cases c5 : m 189 (i + 1) < m 189 (nx sg i)
        · rw [if_pos c5, if_pos c5, Option.bind_some]
        · rw [if_neg c5, if_neg c5, Option.bind_some]
      · rw [if_neg (fun z => c3 z.symm), if_neg c3]
        by_cases c4 : 98 ≤ sg i ∧ sg i ≤ 100
        · have hp : pt (sg i) = 1 := by
            rcases (show sg i = 98 ∨ sg i = 99 ∨ sg i = 100 by omega) with z | z | z <;> (rw [z]; rfl)
          have h3 := hX.one hi hp
          rw [if_pos (show i + 1 < cn by omega), hb _ c4, if_pos c4]
          by_cases k1 : (98 : Int) = sg i
          · rw [if_pos k1]
          · rw [if_neg k1]
            by_cases k2 : (99 : Int) = sg i
            · rw [if_pos k2]
            · rw [if_neg k2, if_pos (by omega)]
        · have hl : 48 ≤ sg i ∧ sg i ≤ 55 := by
            rcases sgn with z | z | z | z
            · exact (lf_or z).resolve_left c1
            · exact absurd z c4
            · exact absurd z c2
            · exact absurd z c3
          have es : f_X2_sortAt shC 187 (i : Int) m = some (soO S w h sg i : Int) := by
            unfold f_X2_sortAt
            rw [if_neg (by omega), jrf_ok sC187, Option.bind_some, hF.t187_3, jlen_ok sC188 (by decide) (by decide) (by decide), Option.bind_some, if_pos (by omega), Option.bind_some, hF.t187_3, jra_ok sC188 (by omega) (by omega), Option.bind_some, Int.toNat_natCast, hSO i hi, if_pos hl]
          rw [if_neg (by omega), if_neg (by omega), if_neg (by omega), if_neg c4, es, Option.bind_some]
          unfold f_X2_costOfFetch fcO
          rw [Option.bind_some]
          by_cases k1 : soO S w h sg i = 0
          · rw [if_pos (by omega), if_pos k1]; rfl
          · rw [if_neg (by omega), if_neg k1]
            by_cases k2 : soO S w h sg i = 2
            · rw [if_pos (by omega), if_pos k2]; rfl
            · rw [if_neg (by omega), if_neg k2, jrf_ok sC187]
              simp only [Option.bind_some]
              rw [hF.t187_1, jck_ok sC2]
              simp only [Option.bind_some]
              rw [g2]
              rfl
