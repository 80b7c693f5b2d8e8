theorem shM_at (a : Nat) (h : a < 25) : shM a = shML.getD a (99, 0) := by
  have h1 := congrArg (fun l => l.getD a (99, 0)) shM_L
  simp only [List.getD_eq_getElem?_getD, List.getElem?_map, List.getElem?_range h] at h1
  simpa [List.getD_eq_getElem?_getD] using h1
theorem shC_at (a : Nat) (h : a < 192) : shC a = shCL.getD a (99, 0) := by
  have h1 := congrArg (fun l => l.getD a (99, 0)) shC_L
  simp only [List.getD_eq_getElem?_getD, List.getElem?_map, List.getElem?_range h] at h1
  simpa [List.getD_eq_getElem?_getD] using h1
theorem jrf_ok {sh : jm_S} {m : jm_M} {a kd n k : Nat} (hs : sh a = (kd, n)) : jrf sh m a kd n k = some (m a k) := if_pos hs
theorem jck_ok {sh : jm_S} {a kd n : Nat} (hs : sh a = (kd, n)) : jck sh a kd n = some () := if_pos hs
theorem jwf_ok {sh : jm_S} {m : jm_M} {a kd n k : Nat} {v : Int} (hs : sh a = (kd, n)) : jwf sh m a kd n k v = some (jm_up m a k v) := if_pos hs
theorem jwr_ok {sh : jm_S} {m : jm_M} {a kd n k r : Nat} (hs : sh a = (kd, n)) (hr : r ≤ 2147483647) : jwr sh m a kd n k r = some (jm_up m a k (r : Int)) := if_pos ⟨hs, hr⟩
theorem jra_ok {sh : jm_S} {m : jm_M} {a kd n : Nat} {i : Int} (hs : sh a = (kd, n)) (h0 : 0 ≤ i) (h1 : i < n) : jra sh m a kd i = some (m a i.toNat) := if_pos (by rw [hs]; exact ⟨rfl, h0, h1⟩)
theorem jwa_ok {sh : jm_S} {m : jm_M} {a kd n : Nat} {i v : Int} (hs : sh a = (kd, n)) (h0 : 0 ≤ i) (h1 : i < n) : jwa sh m a kd i v = some (jm_up m a i.toNat v) := if_pos (by rw [hs]; exact ⟨rfl, h0, h1⟩)
theorem jlen_ok {sh : jm_S} {a kd n : Nat} (hs : sh a = (kd, n)) (h0 : 13 ≤ kd) (h1 : kd ≤ 16) (h2 : n ≤ 2147483647) : jlen sh a = some (n : Int) := by
  unfold jlen
  rw [hs]
  exact if_pos ⟨h0, h1, h2⟩
theorem jzb_0 : jzb 0 = some 0 := rfl
theorem jzb_1 : jzb 1 = some 1 := rfl
theorem up_ne {m : jm_M} {a k b j : Nat} {v : Int} (h : b ≠ a) : jm_up m a k v b j = m b j := if_neg (fun q => h q.1)
theorem up_nk {m : jm_M} {a k b j : Nat} {v : Int} (h : j ≠ k) : jm_up m a k v b j = m b j := if_neg (fun q => h q.2)
theorem up_eq {m : jm_M} {a k : Nat} {v : Int} : jm_up m a k v a k = v := if_pos ⟨rfl, rfl⟩
theorem up_row {m : jm_M} {a k j : Nat} {v : Int} : jm_up m a k v a j = if j = k then v else m a j := by
  unfold jm_up
  by_cases h : j = k
  · rw [if_pos ⟨rfl, h⟩, if_pos h]
  · rw [if_neg (fun q => h q.2), if_neg h]
def MF (m : jm_M) : Prop := ∀ q ∈ rfM, m q.1 q.2.1 = (q.2.2 : Int)
def CF (m : jm_M) : Prop := ∀ q ∈ rfC, m q.1 q.2.1 = (q.2.2 : Int)
/-- a place that holds no reference of the frame -/
def nM (a k : Nat) : Bool := rfM.all fun q => !(q.1 == a && q.2.1 == k)
def nC (a k : Nat) : Bool := rfC.all fun q => !(q.1 == a && q.2.1 == k)
theorem MF.up {m : jm_M} {a k : Nat} {v : Int} (h : MF m) (hn : nM a k = true) : MF (jm_up m a k v) := by
  intro q hq
  have h1 := List.all_eq_true.mp hn q hq
  simp only [Bool.not_eq_true', Bool.and_eq_false_iff, beq_eq_false_iff_ne] at h1
  unfold jm_up
  rw [if_neg (fun z => by rcases h1 with h1 | h1; exact h1 z.1; exact h1 z.2)]
  exact h q hq
theorem CF.up {m : jm_M} {a k : Nat} {v : Int} (h : CF m) (hn : nC a k = true) : CF (jm_up m a k v) := by
  intro q hq
  have h1 := List.all_eq_true.mp hn q hq
  simp only [Bool.not_eq_true', Bool.and_eq_false_iff, beq_eq_false_iff_ne] at h1
  unfold jm_up
  rw [if_neg (fun z => by rcases h1 with h1 | h1; exact h1 z.1; exact h1 z.2)]
  exact h q hq
/-- rows that hold no reference -/
def rM (a : Nat) : Bool := rfM.all fun q => !(q.1 == a)
def rC (a : Nat) : Bool := rfC.all fun q => !(q.1 == a)
theorem nM_of {a : Nat} (h : rM a = true) (k : Nat) : nM a k = true := List.all_eq_true.mpr fun q hq => by
  have h1 := List.all_eq_true.mp h q hq
  simp only [Bool.not_eq_true', beq_eq_false_iff_ne] at h1
  simp [h1]
theorem nC_of {a : Nat} (h : rC a = true) (k : Nat) : nC a k = true := List.all_eq_true.mpr fun q hq => by
  have h1 := List.all_eq_true.mp h q hq
  simp only [Bool.not_eq_true', beq_eq_false_iff_ne] at h1
  simp [h1]
theorem MF.same {m m' : jm_M} (h : MF m) (hs : ∀ q ∈ rfM, m' q.1 q.2.1 = m q.1 q.2.1) : MF m' := fun q hq => (hs q hq).trans (h q hq)
theorem CF.same {m m' : jm_M} (h : CF m) (hs : ∀ q ∈ rfC, m' q.1 q.2.1 = m q.1 q.2.1) : CF m' := fun q hq => (hs q hq).trans (h q hq)
theorem sM1 : shM 1 = (12, 34) := (shM_at 1 (by decide)).trans rfl
theorem sM2 : shM 2 = (13, 4) := (shM_at 2 (by decide)).trans rfl
theorem sM3 : shM 3 = (13, 30) := (shM_at 3 (by decide)).trans rfl
theorem sM4 : shM 4 = (13, 4) := (shM_at 4 (by decide)).trans rfl
theorem sM5 : shM 5 = (13, 120) := (shM_at 5 (by decide)).trans rfl
theorem sM6 : shM 6 = (13, 120) := (shM_at 6 (by decide)).trans rfl
theorem sM7 : shM 7 = (13, 4) := (shM_at 7 (by decide)).trans rfl
theorem sM8 : shM 8 = (13, 20) := (shM_at 8 (by decide)).trans rfl
theorem sM9 : shM 9 = (13, 5) := (shM_at 9 (by decide)).trans rfl
theorem sM10 : shM 10 = (13, 625) := (shM_at 10 (by decide)).trans rfl
theorem sM11 : shM 11 = (13, 6) := (shM_at 11 (by decide)).trans rfl
theorem sM12 : shM 12 = (13, 6) := (shM_at 12 (by decide)).trans rfl
theorem sM13 : shM 13 = (13, 6) := (shM_at 13 (by decide)).trans rfl
theorem sM14 : shM 14 = (13, 3750) := (shM_at 14 (by decide)).trans rfl
theorem sM15 : shM 15 = (13, 3750) := (shM_at 15 (by decide)).trans rfl
theorem sM16 : shM 16 = (13, 21) := (shM_at 16 (by decide)).trans rfl
theorem sM17 : shM 17 = (13, 625) := (shM_at 17 (by decide)).trans rfl
theorem sM18 : shM 18 = (13, 16) := (shM_at 18 (by decide)).trans rfl
theorem sM19 : shM 19 = (13, 96) := (shM_at 19 (by decide)).trans rfl
theorem sM20 : shM 20 = (13, 480) := (shM_at 20 (by decide)).trans rfl
theorem sM21 : shM 21 = (13, 30) := (shM_at 21 (by decide)).trans rfl
theorem sM22 : shM 22 = (13, 4) := (shM_at 22 (by decide)).trans rfl
theorem sM23 : shM 23 = (13, 320) := (shM_at 23 (by decide)).trans rfl
theorem sM24 : shM 24 = (14, 2) := (shM_at 24 (by decide)).trans rfl
theorem sC1 : shC 1 = (11, 10) := (shC_at 1 (by decide)).trans rfl
theorem sC2 : shC 2 = (1, 9) := (shC_at 2 (by decide)).trans rfl
theorem sC3 : shC 3 = (13, 4) := (shC_at 3 (by decide)).trans rfl
theorem sC4 : shC 4 = (13, 4) := (shC_at 4 (by decide)).trans rfl
theorem sC5 : shC 5 = (13, 20) := (shC_at 5 (by decide)).trans rfl
theorem sC6 : shC 6 = (10, 4) := (shC_at 6 (by decide)).trans rfl
theorem sC7 : shC 7 = (13, 30) := (shC_at 7 (by decide)).trans rfl
theorem sC8 : shC 8 = (13, 30) := (shC_at 8 (by decide)).trans rfl
theorem sC9 : shC 9 = (13, 30) := (shC_at 9 (by decide)).trans rfl
theorem sC10 : shC 10 = (10, 4) := (shC_at 10 (by decide)).trans rfl
theorem sC11 : shC 11 = (13, 30) := (shC_at 11 (by decide)).trans rfl
theorem sC12 : shC 12 = (13, 30) := (shC_at 12 (by decide)).trans rfl
theorem sC13 : shC 13 = (13, 30) := (shC_at 13 (by decide)).trans rfl
theorem sC14 : shC 14 = (10, 4) := (shC_at 14 (by decide)).trans rfl
theorem sC15 : shC 15 = (13, 30) := (shC_at 15 (by decide)).trans rfl
theorem sC16 : shC 16 = (13, 30) := (shC_at 16 (by decide)).trans rfl
theorem sC17 : shC 17 = (13, 30) := (shC_at 17 (by decide)).trans rfl
theorem sC18 : shC 18 = (10, 4) := (shC_at 18 (by decide)).trans rfl
theorem sC19 : shC 19 = (13, 30) := (shC_at 19 (by decide)).trans rfl
theorem sC20 : shC 20 = (13, 30) := (shC_at 20 (by decide)).trans rfl
theorem sC21 : shC 21 = (13, 30) := (shC_at 21 (by decide)).trans rfl
theorem sC22 : shC 22 = (1, 9) := (shC_at 22 (by decide)).trans rfl
theorem sC23 : shC 23 = (13, 4) := (shC_at 23 (by decide)).trans rfl
theorem sC24 : shC 24 = (13, 4) := (shC_at 24 (by decide)).trans rfl
theorem sC25 : shC 25 = (13, 20) := (shC_at 25 (by decide)).trans rfl
theorem sC26 : shC 26 = (10, 4) := (shC_at 26 (by decide)).trans rfl
theorem sC27 : shC 27 = (13, 30) := (shC_at 27 (by decide)).trans rfl
theorem sC28 : shC 28 = (13, 30) := (shC_at 28 (by decide)).trans rfl
theorem sC29 : shC 29 = (13, 30) := (shC_at 29 (by decide)).trans rfl
theorem sC30 : shC 30 = (10, 4) := (shC_at 30 (by decide)).trans rfl
theorem sC31 : shC 31 = (13, 30) := (shC_at 31 (by decide)).trans rfl
theorem sC32 : shC 32 = (13, 30) := (shC_at 32 (by decide)).trans rfl
theorem sC33 : shC 33 = (13, 30) := (shC_at 33 (by decide)).trans rfl
theorem sC34 : shC 34 = (10, 4) := (shC_at 34 (by decide)).trans rfl
theorem sC35 : shC 35 = (13, 30) := (shC_at 35 (by decide)).trans rfl
theorem sC36 : shC 36 = (13, 30) := (shC_at 36 (by decide)).trans rfl
theorem sC37 : shC 37 = (13, 30) := (shC_at 37 (by decide)).trans rfl
theorem sC38 : shC 38 = (10, 4) := (shC_at 38 (by decide)).trans rfl
theorem sC39 : shC 39 = (13, 30) := (shC_at 39 (by decide)).trans rfl
theorem sC40 : shC 40 = (13, 30) := (shC_at 40 (by decide)).trans rfl
theorem sC41 : shC 41 = (13, 30) := (shC_at 41 (by decide)).trans rfl
theorem sC42 : shC 42 = (1, 9) := (shC_at 42 (by decide)).trans rfl
theorem sC43 : shC 43 = (13, 4) := (shC_at 43 (by decide)).trans rfl
theorem sC44 : shC 44 = (13, 4) := (shC_at 44 (by decide)).trans rfl
theorem sC45 : shC 45 = (13, 20) := (shC_at 45 (by decide)).trans rfl
theorem sC46 : shC 46 = (10, 4) := (shC_at 46 (by decide)).trans rfl
theorem sC47 : shC 47 = (13, 30) := (shC_at 47 (by decide)).trans rfl
theorem sC48 : shC 48 = (13, 30) := (shC_at 48 (by decide)).trans rfl
theorem sC49 : shC 49 = (13, 30) := (shC_at 49 (by decide)).trans rfl
theorem sC50 : shC 50 = (10, 4) := (shC_at 50 (by decide)).trans rfl
theorem sC51 : shC 51 = (13, 30) := (shC_at 51 (by decide)).trans rfl
theorem sC52 : shC 52 = (13, 30) := (shC_at 52 (by decide)).trans rfl
theorem sC53 : shC 53 = (13, 30) := (shC_at 53 (by decide)).trans rfl
theorem sC54 : shC 54 = (10, 4) := (shC_at 54 (by decide)).trans rfl
theorem sC55 : shC 55 = (13, 30) := (shC_at 55 (by decide)).trans rfl
theorem sC56 : shC 56 = (13, 30) := (shC_at 56 (by decide)).trans rfl
theorem sC57 : shC 57 = (13, 30) := (shC_at 57 (by decide)).trans rfl
theorem sC58 : shC 58 = (10, 4) := (shC_at 58 (by decide)).trans rfl
theorem sC59 : shC 59 = (13, 30) := (shC_at 59 (by decide)).trans rfl
theorem sC60 : shC 60 = (13, 30) := (shC_at 60 (by decide)).trans rfl
theorem sC61 : shC 61 = (13, 30) := (shC_at 61 (by decide)).trans rfl
theorem sC62 : shC 62 = (3, 3) := (shC_at 62 (by decide)).trans rfl
theorem sC63 : shC 63 = (13, 30) := (shC_at 63 (by decide)).trans rfl
theorem sC64 : shC 64 = (13, 60) := (shC_at 64 (by decide)).trans rfl
theorem sC65 : shC 65 = (7, 10) := (shC_at 65 (by decide)).trans rfl
theorem sC66 : shC 66 = (13, 8) := (shC_at 66 (by decide)).trans rfl
theorem sC67 : shC 67 = (13, 8) := (shC_at 67 (by decide)).trans rfl
theorem sC68 : shC 68 = (13, 4) := (shC_at 68 (by decide)).trans rfl
theorem sC69 : shC 69 = (13, 4) := (shC_at 69 (by decide)).trans rfl
theorem sC70 : shC 70 = (13, 4) := (shC_at 70 (by decide)).trans rfl
theorem sC71 : shC 71 = (13, 4) := (shC_at 71 (by decide)).trans rfl
theorem sC72 : shC 72 = (16, 8) := (shC_at 72 (by decide)).trans rfl
theorem sC73 : shC 73 = (13, 65) := (shC_at 73 (by decide)).trans rfl
theorem sC74 : shC 74 = (13, 65) := (shC_at 74 (by decide)).trans rfl
theorem sC75 : shC 75 = (13, 65) := (shC_at 75 (by decide)).trans rfl
theorem sC76 : shC 76 = (13, 65) := (shC_at 76 (by decide)).trans rfl
theorem sC77 : shC 77 = (13, 65) := (shC_at 77 (by decide)).trans rfl
theorem sC78 : shC 78 = (13, 65) := (shC_at 78 (by decide)).trans rfl
theorem sC79 : shC 79 = (13, 65) := (shC_at 79 (by decide)).trans rfl
theorem sC80 : shC 80 = (13, 65) := (shC_at 80 (by decide)).trans rfl
theorem sC81 : shC 81 = (6, 8) := (shC_at 81 (by decide)).trans rfl
theorem sC82 : shC 82 = (8, 10) := (shC_at 82 (by decide)).trans rfl
theorem sC83 : shC 83 = (4, 4) := (shC_at 83 (by decide)).trans rfl
theorem sC84 : shC 84 = (13, 625) := (shC_at 84 (by decide)).trans rfl
theorem sC85 : shC 85 = (13, 625) := (shC_at 85 (by decide)).trans rfl
theorem sC86 : shC 86 = (13, 625) := (shC_at 86 (by decide)).trans rfl
theorem sC87 : shC 87 = (4, 4) := (shC_at 87 (by decide)).trans rfl
theorem sC88 : shC 88 = (13, 625) := (shC_at 88 (by decide)).trans rfl
theorem sC89 : shC 89 = (13, 625) := (shC_at 89 (by decide)).trans rfl
theorem sC90 : shC 90 = (13, 625) := (shC_at 90 (by decide)).trans rfl
theorem sC91 : shC 91 = (15, 5) := (shC_at 91 (by decide)).trans rfl
theorem sC92 : shC 92 = (4, 4) := (shC_at 92 (by decide)).trans rfl
theorem sC93 : shC 93 = (13, 625) := (shC_at 93 (by decide)).trans rfl
theorem sC94 : shC 94 = (13, 625) := (shC_at 94 (by decide)).trans rfl
theorem sC95 : shC 95 = (13, 625) := (shC_at 95 (by decide)).trans rfl
theorem sC96 : shC 96 = (4, 4) := (shC_at 96 (by decide)).trans rfl
theorem sC97 : shC 97 = (13, 625) := (shC_at 97 (by decide)).trans rfl
theorem sC98 : shC 98 = (13, 625) := (shC_at 98 (by decide)).trans rfl
theorem sC99 : shC 99 = (13, 625) := (shC_at 99 (by decide)).trans rfl
theorem sC100 : shC 100 = (4, 4) := (shC_at 100 (by decide)).trans rfl
theorem sC101 : shC 101 = (13, 625) := (shC_at 101 (by decide)).trans rfl
theorem sC102 : shC 102 = (13, 625) := (shC_at 102 (by decide)).trans rfl
theorem sC103 : shC 103 = (13, 625) := (shC_at 103 (by decide)).trans rfl
theorem sC104 : shC 104 = (4, 4) := (shC_at 104 (by decide)).trans rfl
theorem sC105 : shC 105 = (13, 625) := (shC_at 105 (by decide)).trans rfl
theorem sC106 : shC 106 = (13, 625) := (shC_at 106 (by decide)).trans rfl
theorem sC107 : shC 107 = (13, 625) := (shC_at 107 (by decide)).trans rfl
theorem sC108 : shC 108 = (4, 4) := (shC_at 108 (by decide)).trans rfl
theorem sC109 : shC 109 = (13, 625) := (shC_at 109 (by decide)).trans rfl
theorem sC110 : shC 110 = (13, 625) := (shC_at 110 (by decide)).trans rfl
theorem sC111 : shC 111 = (13, 625) := (shC_at 111 (by decide)).trans rfl
theorem sC112 : shC 112 = (5, 10) := (shC_at 112 (by decide)).trans rfl
theorem sC113 : shC 113 = (13, 20) := (shC_at 113 (by decide)).trans rfl
theorem sC114 : shC 114 = (13, 625) := (shC_at 114 (by decide)).trans rfl
theorem sC115 : shC 115 = (16, 5) := (shC_at 115 (by decide)).trans rfl
theorem sC116 : shC 116 = (13, 625) := (shC_at 116 (by decide)).trans rfl
theorem sC117 : shC 117 = (13, 625) := (shC_at 117 (by decide)).trans rfl
theorem sC118 : shC 118 = (13, 625) := (shC_at 118 (by decide)).trans rfl
theorem sC119 : shC 119 = (13, 625) := (shC_at 119 (by decide)).trans rfl
theorem sC120 : shC 120 = (13, 625) := (shC_at 120 (by decide)).trans rfl
theorem sC121 : shC 121 = (16, 20) := (shC_at 121 (by decide)).trans rfl
theorem sC122 : shC 122 = (13, 625) := (shC_at 122 (by decide)).trans rfl
theorem sC123 : shC 123 = (13, 625) := (shC_at 123 (by decide)).trans rfl
theorem sC124 : shC 124 = (13, 625) := (shC_at 124 (by decide)).trans rfl
theorem sC125 : shC 125 = (13, 625) := (shC_at 125 (by decide)).trans rfl
theorem sC126 : shC 126 = (13, 625) := (shC_at 126 (by decide)).trans rfl
theorem sC127 : shC 127 = (13, 625) := (shC_at 127 (by decide)).trans rfl
theorem sC128 : shC 128 = (13, 625) := (shC_at 128 (by decide)).trans rfl
theorem sC129 : shC 129 = (13, 625) := (shC_at 129 (by decide)).trans rfl
theorem sC130 : shC 130 = (13, 625) := (shC_at 130 (by decide)).trans rfl
theorem sC131 : shC 131 = (13, 625) := (shC_at 131 (by decide)).trans rfl
theorem sC132 : shC 132 = (13, 625) := (shC_at 132 (by decide)).trans rfl
theorem sC133 : shC 133 = (13, 625) := (shC_at 133 (by decide)).trans rfl
theorem sC134 : shC 134 = (13, 625) := (shC_at 134 (by decide)).trans rfl
theorem sC135 : shC 135 = (13, 625) := (shC_at 135 (by decide)).trans rfl
theorem sC136 : shC 136 = (13, 625) := (shC_at 136 (by decide)).trans rfl
theorem sC137 : shC 137 = (13, 625) := (shC_at 137 (by decide)).trans rfl
theorem sC138 : shC 138 = (13, 625) := (shC_at 138 (by decide)).trans rfl
theorem sC139 : shC 139 = (13, 625) := (shC_at 139 (by decide)).trans rfl
theorem sC140 : shC 140 = (13, 625) := (shC_at 140 (by decide)).trans rfl
theorem sC141 : shC 141 = (13, 625) := (shC_at 141 (by decide)).trans rfl
theorem sC142 : shC 142 = (0, 6) := (shC_at 142 (by decide)).trans rfl
theorem sC143 : shC 143 = (13, 16) := (shC_at 143 (by decide)).trans rfl
theorem sC144 : shC 144 = (16, 30) := (shC_at 144 (by decide)).trans rfl
theorem sC145 : shC 145 = (13, 16) := (shC_at 145 (by decide)).trans rfl
theorem sC146 : shC 146 = (13, 16) := (shC_at 146 (by decide)).trans rfl
theorem sC147 : shC 147 = (13, 16) := (shC_at 147 (by decide)).trans rfl
theorem sC148 : shC 148 = (13, 16) := (shC_at 148 (by decide)).trans rfl
theorem sC149 : shC 149 = (13, 16) := (shC_at 149 (by decide)).trans rfl
theorem sC150 : shC 150 = (13, 16) := (shC_at 150 (by decide)).trans rfl
theorem sC151 : shC 151 = (13, 16) := (shC_at 151 (by decide)).trans rfl
theorem sC152 : shC 152 = (13, 16) := (shC_at 152 (by decide)).trans rfl
theorem sC153 : shC 153 = (13, 16) := (shC_at 153 (by decide)).trans rfl
theorem sC154 : shC 154 = (13, 16) := (shC_at 154 (by decide)).trans rfl
theorem sC155 : shC 155 = (13, 16) := (shC_at 155 (by decide)).trans rfl
theorem sC156 : shC 156 = (13, 16) := (shC_at 156 (by decide)).trans rfl
theorem sC157 : shC 157 = (13, 16) := (shC_at 157 (by decide)).trans rfl
theorem sC158 : shC 158 = (13, 16) := (shC_at 158 (by decide)).trans rfl
theorem sC159 : shC 159 = (13, 16) := (shC_at 159 (by decide)).trans rfl
theorem sC160 : shC 160 = (13, 16) := (shC_at 160 (by decide)).trans rfl
theorem sC161 : shC 161 = (13, 16) := (shC_at 161 (by decide)).trans rfl
theorem sC162 : shC 162 = (13, 16) := (shC_at 162 (by decide)).trans rfl
theorem sC163 : shC 163 = (13, 16) := (shC_at 163 (by decide)).trans rfl
theorem sC164 : shC 164 = (13, 16) := (shC_at 164 (by decide)).trans rfl
theorem sC165 : shC 165 = (13, 16) := (shC_at 165 (by decide)).trans rfl
theorem sC166 : shC 166 = (13, 16) := (shC_at 166 (by decide)).trans rfl
theorem sC167 : shC 167 = (13, 16) := (shC_at 167 (by decide)).trans rfl
theorem sC168 : shC 168 = (13, 16) := (shC_at 168 (by decide)).trans rfl
theorem sC169 : shC 169 = (13, 16) := (shC_at 169 (by decide)).trans rfl
theorem sC170 : shC 170 = (13, 16) := (shC_at 170 (by decide)).trans rfl
theorem sC171 : shC 171 = (13, 16) := (shC_at 171 (by decide)).trans rfl
theorem sC172 : shC 172 = (13, 16) := (shC_at 172 (by decide)).trans rfl
theorem sC173 : shC 173 = (13, 16) := (shC_at 173 (by decide)).trans rfl
theorem sC174 : shC 174 = (13, 16) := (shC_at 174 (by decide)).trans rfl
theorem sC175 : shC 175 = (16, 5) := (shC_at 175 (by decide)).trans rfl
theorem sC176 : shC 176 = (13, 16) := (shC_at 176 (by decide)).trans rfl
theorem sC177 : shC 177 = (13, 16) := (shC_at 177 (by decide)).trans rfl
theorem sC178 : shC 178 = (13, 16) := (shC_at 178 (by decide)).trans rfl
theorem sC179 : shC 179 = (13, 16) := (shC_at 179 (by decide)).trans rfl
theorem sC180 : shC 180 = (13, 16) := (shC_at 180 (by decide)).trans rfl
theorem sC181 : shC 181 = (16, 5) := (shC_at 181 (by decide)).trans rfl
theorem sC182 : shC 182 = (13, 16) := (shC_at 182 (by decide)).trans rfl
theorem sC183 : shC 183 = (13, 16) := (shC_at 183 (by decide)).trans rfl
theorem sC184 : shC 184 = (13, 16) := (shC_at 184 (by decide)).trans rfl
theorem sC185 : shC 185 = (13, 16) := (shC_at 185 (by decide)).trans rfl
theorem sC186 : shC 186 = (13, 16) := (shC_at 186 (by decide)).trans rfl
theorem sC187 : shC 187 = (2, 5) := (shC_at 187 (by decide)).trans rfl
theorem sC188 : shC 188 = (13, 30) := (shC_at 188 (by decide)).trans rfl
theorem sC189 : shC 189 = (13, 30) := (shC_at 189 (by decide)).trans rfl
theorem sC190 : shC 190 = (9, 4) := (shC_at 190 (by decide)).trans rfl
theorem sC191 : shC 191 = (13, 4) := (shC_at 191 (by decide)).trans rfl
theorem MF.f0 {m : jm_M} (h : MF m) : m 1 0 = 2 := h (1, 0, 2) (by decide)
theorem MF.f2 {m : jm_M} (h : MF m) : m 1 2 = 3 := h (1, 2, 3) (by decide)
theorem MF.f3 {m : jm_M} (h : MF m) : m 1 3 = 4 := h (1, 3, 4) (by decide)
theorem MF.f4 {m : jm_M} (h : MF m) : m 1 4 = 5 := h (1, 4, 5) (by decide)
theorem MF.f5 {m : jm_M} (h : MF m) : m 1 5 = 6 := h (1, 5, 6) (by decide)
theorem MF.f6 {m : jm_M} (h : MF m) : m 1 6 = 7 := h (1, 6, 7) (by decide)
theorem MF.f8 {m : jm_M} (h : MF m) : m 1 8 = 8 := h (1, 8, 8) (by decide)
theorem MF.f9 {m : jm_M} (h : MF m) : m 1 9 = 9 := h (1, 9, 9) (by decide)
theorem MF.f11 {m : jm_M} (h : MF m) : m 1 11 = 10 := h (1, 11, 10) (by decide)
theorem MF.f13 {m : jm_M} (h : MF m) : m 1 13 = 11 := h (1, 13, 11) (by decide)
theorem MF.f14 {m : jm_M} (h : MF m) : m 1 14 = 12 := h (1, 14, 12) (by decide)
theorem MF.f15 {m : jm_M} (h : MF m) : m 1 15 = 13 := h (1, 15, 13) (by decide)
theorem MF.f16 {m : jm_M} (h : MF m) : m 1 16 = 14 := h (1, 16, 14) (by decide)
theorem MF.f17 {m : jm_M} (h : MF m) : m 1 17 = 15 := h (1, 17, 15) (by decide)
theorem MF.f21 {m : jm_M} (h : MF m) : m 1 21 = 16 := h (1, 21, 16) (by decide)
theorem MF.f24 {m : jm_M} (h : MF m) : m 1 24 = 17 := h (1, 24, 17) (by decide)
theorem MF.f27 {m : jm_M} (h : MF m) : m 1 27 = 18 := h (1, 27, 18) (by decide)
theorem MF.f28 {m : jm_M} (h : MF m) : m 1 28 = 19 := h (1, 28, 19) (by decide)
theorem MF.f29 {m : jm_M} (h : MF m) : m 1 29 = 20 := h (1, 29, 20) (by decide)
theorem MF.f30 {m : jm_M} (h : MF m) : m 1 30 = 21 := h (1, 30, 21) (by decide)
theorem MF.f31 {m : jm_M} (h : MF m) : m 1 31 = 22 := h (1, 31, 22) (by decide)
theorem MF.f32 {m : jm_M} (h : MF m) : m 1 32 = 23 := h (1, 32, 23) (by decide)
theorem MF.f33 {m : jm_M} (h : MF m) : m 1 33 = 24 := h (1, 33, 24) (by decide)
theorem CF.f1_0 {m : jm_M} (h : CF m) : m 1 0 = 2 := h (1, 0, 2) (by decide)
theorem CF.f1_1 {m : jm_M} (h : CF m) : m 1 1 = 22 := h (1, 1, 22) (by decide)
theorem CF.f1_2 {m : jm_M} (h : CF m) : m 1 2 = 42 := h (1, 2, 42) (by decide)
theorem CF.f1_3 {m : jm_M} (h : CF m) : m 1 3 = 62 := h (1, 3, 62) (by decide)
theorem CF.f1_4 {m : jm_M} (h : CF m) : m 1 4 = 81 := h (1, 4, 81) (by decide)
theorem CF.f1_5 {m : jm_M} (h : CF m) : m 1 5 = 82 := h (1, 5, 82) (by decide)
theorem CF.f1_6 {m : jm_M} (h : CF m) : m 1 6 = 112 := h (1, 6, 112) (by decide)
theorem CF.f1_7 {m : jm_M} (h : CF m) : m 1 7 = 142 := h (1, 7, 142) (by decide)
theorem CF.f1_8 {m : jm_M} (h : CF m) : m 1 8 = 187 := h (1, 8, 187) (by decide)
theorem CF.f1_9 {m : jm_M} (h : CF m) : m 1 9 = 190 := h (1, 9, 190) (by decide)
theorem CF.f2_2 {m : jm_M} (h : CF m) : m 2 2 = 3 := h (2, 2, 3) (by decide)
theorem CF.f2_3 {m : jm_M} (h : CF m) : m 2 3 = 4 := h (2, 3, 4) (by decide)
theorem CF.f2_4 {m : jm_M} (h : CF m) : m 2 4 = 5 := h (2, 4, 5) (by decide)
theorem CF.f2_5 {m : jm_M} (h : CF m) : m 2 5 = 6 := h (2, 5, 6) (by decide)
theorem CF.f2_6 {m : jm_M} (h : CF m) : m 2 6 = 10 := h (2, 6, 10) (by decide)
theorem CF.f2_7 {m : jm_M} (h : CF m) : m 2 7 = 14 := h (2, 7, 14) (by decide)
theorem CF.f2_8 {m : jm_M} (h : CF m) : m 2 8 = 18 := h (2, 8, 18) (by decide)
theorem CF.f6_1 {m : jm_M} (h : CF m) : m 6 1 = 7 := h (6, 1, 7) (by decide)
theorem CF.f6_2 {m : jm_M} (h : CF m) : m 6 2 = 8 := h (6, 2, 8) (by decide)
theorem CF.f6_3 {m : jm_M} (h : CF m) : m 6 3 = 9 := h (6, 3, 9) (by decide)
theorem CF.f10_1 {m : jm_M} (h : CF m) : m 10 1 = 11 := h (10, 1, 11) (by decide)
theorem CF.f10_2 {m : jm_M} (h : CF m) : m 10 2 = 12 := h (10, 2, 12) (by decide)
theorem CF.f10_3 {m : jm_M} (h : CF m) : m 10 3 = 13 := h (10, 3, 13) (by decide)
theorem CF.f14_1 {m : jm_M} (h : CF m) : m 14 1 = 15 := h (14, 1, 15) (by decide)
theorem CF.f14_2 {m : jm_M} (h : CF m) : m 14 2 = 16 := h (14, 2, 16) (by decide)
theorem CF.f14_3 {m : jm_M} (h : CF m) : m 14 3 = 17 := h (14, 3, 17) (by decide)
theorem CF.f18_1 {m : jm_M} (h : CF m) : m 18 1 = 19 := h (18, 1, 19) (by decide)
theorem CF.f18_2 {m : jm_M} (h : CF m) : m 18 2 = 20 := h (18, 2, 20) (by decide)
theorem CF.f18_3 {m : jm_M} (h : CF m) : m 18 3 = 21 := h (18, 3, 21) (by decide)
theorem CF.f22_2 {m : jm_M} (h : CF m) : m 22 2 = 23 := h (22, 2, 23) (by decide)
theorem CF.f22_3 {m : jm_M} (h : CF m) : m 22 3 = 24 := h (22, 3, 24) (by decide)
theorem CF.f22_4 {m : jm_M} (h : CF m) : m 22 4 = 25 := h (22, 4, 25) (by decide)
theorem CF.f22_5 {m : jm_M} (h : CF m) : m 22 5 = 26 := h (22, 5, 26) (by decide)
theorem CF.f22_6 {m : jm_M} (h : CF m) : m 22 6 = 30 := h (22, 6, 30) (by decide)
theorem CF.f22_7 {m : jm_M} (h : CF m) : m 22 7 = 34 := h (22, 7, 34) (by decide)
theorem CF.f22_8 {m : jm_M} (h : CF m) : m 22 8 = 38 := h (22, 8, 38) (by decide)
theorem CF.f26_1 {m : jm_M} (h : CF m) : m 26 1 = 27 := h (26, 1, 27) (by decide)
theorem CF.f26_2 {m : jm_M} (h : CF m) : m 26 2 = 28 := h (26, 2, 28) (by decide)
theorem CF.f26_3 {m : jm_M} (h : CF m) : m 26 3 = 29 := h (26, 3, 29) (by decide)
theorem CF.f30_1 {m : jm_M} (h : CF m) : m 30 1 = 31 := h (30, 1, 31) (by decide)
theorem CF.f30_2 {m : jm_M} (h : CF m) : m 30 2 = 32 := h (30, 2, 32) (by decide)
theorem CF.f30_3 {m : jm_M} (h : CF m) : m 30 3 = 33 := h (30, 3, 33) (by decide)
theorem CF.f34_1 {m : jm_M} (h : CF m) : m 34 1 = 35 := h (34, 1, 35) (by decide)
theorem CF.f34_2 {m : jm_M} (h : CF m) : m 34 2 = 36 := h (34, 2, 36) (by decide)
theorem CF.f34_3 {m : jm_M} (h : CF m) : m 34 3 = 37 := h (34, 3, 37) (by decide)
theorem CF.f38_1 {m : jm_M} (h : CF m) : m 38 1 = 39 := h (38, 1, 39) (by decide)
theorem CF.f38_2 {m : jm_M} (h : CF m) : m 38 2 = 40 := h (38, 2, 40) (by decide)
theorem CF.f38_3 {m : jm_M} (h : CF m) : m 38 3 = 41 := h (38, 3, 41) (by decide)
theorem CF.f42_2 {m : jm_M} (h : CF m) : m 42 2 = 43 := h (42, 2, 43) (by decide)
theorem CF.f42_3 {m : jm_M} (h : CF m) : m 42 3 = 44 := h (42, 3, 44) (by decide)
theorem CF.f42_4 {m : jm_M} (h : CF m) : m 42 4 = 45 := h (42, 4, 45) (by decide)
theorem CF.f42_5 {m : jm_M} (h : CF m) : m 42 5 = 46 := h (42, 5, 46) (by decide)
theorem CF.f42_6 {m : jm_M} (h : CF m) : m 42 6 = 50 := h (42, 6, 50) (by decide)
theorem CF.f42_7 {m : jm_M} (h : CF m) : m 42 7 = 54 := h (42, 7, 54) (by decide)
theorem CF.f42_8 {m : jm_M} (h : CF m) : m 42 8 = 58 := h (42, 8, 58) (by decide)
theorem CF.f46_1 {m : jm_M} (h : CF m) : m 46 1 = 47 := h (46, 1, 47) (by decide)
theorem CF.f46_2 {m : jm_M} (h : CF m) : m 46 2 = 48 := h (46, 2, 48) (by decide)
theorem CF.f46_3 {m : jm_M} (h : CF m) : m 46 3 = 49 := h (46, 3, 49) (by decide)
theorem CF.f50_1 {m : jm_M} (h : CF m) : m 50 1 = 51 := h (50, 1, 51) (by decide)
theorem CF.f50_2 {m : jm_M} (h : CF m) : m 50 2 = 52 := h (50, 2, 52) (by decide)
theorem CF.f50_3 {m : jm_M} (h : CF m) : m 50 3 = 53 := h (50, 3, 53) (by decide)
theorem CF.f54_1 {m : jm_M} (h : CF m) : m 54 1 = 55 := h (54, 1, 55) (by decide)
theorem CF.f54_2 {m : jm_M} (h : CF m) : m 54 2 = 56 := h (54, 2, 56) (by decide)
theorem CF.f54_3 {m : jm_M} (h : CF m) : m 54 3 = 57 := h (54, 3, 57) (by decide)
theorem CF.f58_1 {m : jm_M} (h : CF m) : m 58 1 = 59 := h (58, 1, 59) (by decide)
theorem CF.f58_2 {m : jm_M} (h : CF m) : m 58 2 = 60 := h (58, 2, 60) (by decide)
theorem CF.f58_3 {m : jm_M} (h : CF m) : m 58 3 = 61 := h (58, 3, 61) (by decide)
theorem CF.f62_0 {m : jm_M} (h : CF m) : m 62 0 = 63 := h (62, 0, 63) (by decide)
theorem CF.f62_2 {m : jm_M} (h : CF m) : m 62 2 = 64 := h (62, 2, 64) (by decide)
theorem CF.f65_3 {m : jm_M} (h : CF m) : m 65 3 = 66 := h (65, 3, 66) (by decide)
theorem CF.f65_4 {m : jm_M} (h : CF m) : m 65 4 = 67 := h (65, 4, 67) (by decide)
theorem CF.f65_5 {m : jm_M} (h : CF m) : m 65 5 = 68 := h (65, 5, 68) (by decide)
theorem CF.f65_6 {m : jm_M} (h : CF m) : m 65 6 = 69 := h (65, 6, 69) (by decide)
theorem CF.f65_7 {m : jm_M} (h : CF m) : m 65 7 = 70 := h (65, 7, 70) (by decide)
theorem CF.f65_8 {m : jm_M} (h : CF m) : m 65 8 = 71 := h (65, 8, 71) (by decide)
theorem CF.f65_9 {m : jm_M} (h : CF m) : m 65 9 = 72 := h (65, 9, 72) (by decide)
theorem CF.f72_0 {m : jm_M} (h : CF m) : m 72 0 = 73 := h (72, 0, 73) (by decide)
theorem CF.f72_1 {m : jm_M} (h : CF m) : m 72 1 = 74 := h (72, 1, 74) (by decide)
theorem CF.f72_2 {m : jm_M} (h : CF m) : m 72 2 = 75 := h (72, 2, 75) (by decide)
theorem CF.f72_3 {m : jm_M} (h : CF m) : m 72 3 = 76 := h (72, 3, 76) (by decide)
theorem CF.f72_4 {m : jm_M} (h : CF m) : m 72 4 = 77 := h (72, 4, 77) (by decide)
theorem CF.f72_5 {m : jm_M} (h : CF m) : m 72 5 = 78 := h (72, 5, 78) (by decide)
theorem CF.f72_6 {m : jm_M} (h : CF m) : m 72 6 = 79 := h (72, 6, 79) (by decide)
theorem CF.f72_7 {m : jm_M} (h : CF m) : m 72 7 = 80 := h (72, 7, 80) (by decide)
theorem CF.f81_6 {m : jm_M} (h : CF m) : m 81 6 = 2 := h (81, 6, 2) (by decide)
theorem CF.f81_7 {m : jm_M} (h : CF m) : m 81 7 = 65 := h (81, 7, 65) (by decide)
theorem CF.f82_5 {m : jm_M} (h : CF m) : m 82 5 = 2 := h (82, 5, 2) (by decide)
theorem CF.f82_6 {m : jm_M} (h : CF m) : m 82 6 = 65 := h (82, 6, 65) (by decide)
theorem CF.f82_7 {m : jm_M} (h : CF m) : m 82 7 = 83 := h (82, 7, 83) (by decide)
theorem CF.f82_8 {m : jm_M} (h : CF m) : m 82 8 = 87 := h (82, 8, 87) (by decide)
theorem CF.f82_9 {m : jm_M} (h : CF m) : m 82 9 = 91 := h (82, 9, 91) (by decide)
theorem CF.f83_1 {m : jm_M} (h : CF m) : m 83 1 = 84 := h (83, 1, 84) (by decide)
theorem CF.f83_2 {m : jm_M} (h : CF m) : m 83 2 = 85 := h (83, 2, 85) (by decide)
theorem CF.f83_3 {m : jm_M} (h : CF m) : m 83 3 = 86 := h (83, 3, 86) (by decide)
theorem CF.f87_1 {m : jm_M} (h : CF m) : m 87 1 = 88 := h (87, 1, 88) (by decide)
theorem CF.f87_2 {m : jm_M} (h : CF m) : m 87 2 = 89 := h (87, 2, 89) (by decide)
theorem CF.f87_3 {m : jm_M} (h : CF m) : m 87 3 = 90 := h (87, 3, 90) (by decide)
theorem CF.f91_0 {m : jm_M} (h : CF m) : m 91 0 = 92 := h (91, 0, 92) (by decide)
theorem CF.f91_1 {m : jm_M} (h : CF m) : m 91 1 = 96 := h (91, 1, 96) (by decide)
theorem CF.f91_2 {m : jm_M} (h : CF m) : m 91 2 = 100 := h (91, 2, 100) (by decide)
theorem CF.f91_3 {m : jm_M} (h : CF m) : m 91 3 = 104 := h (91, 3, 104) (by decide)
theorem CF.f91_4 {m : jm_M} (h : CF m) : m 91 4 = 108 := h (91, 4, 108) (by decide)
theorem CF.f92_1 {m : jm_M} (h : CF m) : m 92 1 = 93 := h (92, 1, 93) (by decide)
theorem CF.f92_2 {m : jm_M} (h : CF m) : m 92 2 = 94 := h (92, 2, 94) (by decide)
theorem CF.f92_3 {m : jm_M} (h : CF m) : m 92 3 = 95 := h (92, 3, 95) (by decide)
theorem CF.f96_1 {m : jm_M} (h : CF m) : m 96 1 = 97 := h (96, 1, 97) (by decide)
theorem CF.f96_2 {m : jm_M} (h : CF m) : m 96 2 = 98 := h (96, 2, 98) (by decide)
theorem CF.f96_3 {m : jm_M} (h : CF m) : m 96 3 = 99 := h (96, 3, 99) (by decide)
theorem CF.f100_1 {m : jm_M} (h : CF m) : m 100 1 = 101 := h (100, 1, 101) (by decide)
theorem CF.f100_2 {m : jm_M} (h : CF m) : m 100 2 = 102 := h (100, 2, 102) (by decide)
theorem CF.f100_3 {m : jm_M} (h : CF m) : m 100 3 = 103 := h (100, 3, 103) (by decide)
theorem CF.f104_1 {m : jm_M} (h : CF m) : m 104 1 = 105 := h (104, 1, 105) (by decide)
theorem CF.f104_2 {m : jm_M} (h : CF m) : m 104 2 = 106 := h (104, 2, 106) (by decide)
theorem CF.f104_3 {m : jm_M} (h : CF m) : m 104 3 = 107 := h (104, 3, 107) (by decide)
theorem CF.f108_1 {m : jm_M} (h : CF m) : m 108 1 = 109 := h (108, 1, 109) (by decide)
theorem CF.f108_2 {m : jm_M} (h : CF m) : m 108 2 = 110 := h (108, 2, 110) (by decide)
theorem CF.f108_3 {m : jm_M} (h : CF m) : m 108 3 = 111 := h (108, 3, 111) (by decide)
theorem CF.f112_4 {m : jm_M} (h : CF m) : m 112 4 = 2 := h (112, 4, 2) (by decide)
theorem CF.f112_5 {m : jm_M} (h : CF m) : m 112 5 = 65 := h (112, 5, 65) (by decide)
theorem CF.f112_6 {m : jm_M} (h : CF m) : m 112 6 = 113 := h (112, 6, 113) (by decide)
theorem CF.f112_7 {m : jm_M} (h : CF m) : m 112 7 = 114 := h (112, 7, 114) (by decide)
theorem CF.f112_8 {m : jm_M} (h : CF m) : m 112 8 = 115 := h (112, 8, 115) (by decide)
theorem CF.f112_9 {m : jm_M} (h : CF m) : m 112 9 = 121 := h (112, 9, 121) (by decide)
theorem CF.f115_0 {m : jm_M} (h : CF m) : m 115 0 = 116 := h (115, 0, 116) (by decide)
theorem CF.f115_1 {m : jm_M} (h : CF m) : m 115 1 = 117 := h (115, 1, 117) (by decide)
theorem CF.f115_2 {m : jm_M} (h : CF m) : m 115 2 = 118 := h (115, 2, 118) (by decide)
theorem CF.f115_3 {m : jm_M} (h : CF m) : m 115 3 = 119 := h (115, 3, 119) (by decide)
theorem CF.f115_4 {m : jm_M} (h : CF m) : m 115 4 = 120 := h (115, 4, 120) (by decide)
theorem CF.f121_0 {m : jm_M} (h : CF m) : m 121 0 = 122 := h (121, 0, 122) (by decide)
theorem CF.f121_1 {m : jm_M} (h : CF m) : m 121 1 = 123 := h (121, 1, 123) (by decide)
theorem CF.f121_2 {m : jm_M} (h : CF m) : m 121 2 = 124 := h (121, 2, 124) (by decide)
theorem CF.f121_3 {m : jm_M} (h : CF m) : m 121 3 = 125 := h (121, 3, 125) (by decide)
theorem CF.f121_4 {m : jm_M} (h : CF m) : m 121 4 = 126 := h (121, 4, 126) (by decide)
theorem CF.f121_5 {m : jm_M} (h : CF m) : m 121 5 = 127 := h (121, 5, 127) (by decide)
theorem CF.f121_6 {m : jm_M} (h : CF m) : m 121 6 = 128 := h (121, 6, 128) (by decide)
theorem CF.f121_7 {m : jm_M} (h : CF m) : m 121 7 = 129 := h (121, 7, 129) (by decide)
theorem CF.f121_8 {m : jm_M} (h : CF m) : m 121 8 = 130 := h (121, 8, 130) (by decide)
theorem CF.f121_9 {m : jm_M} (h : CF m) : m 121 9 = 131 := h (121, 9, 131) (by decide)
theorem CF.f121_10 {m : jm_M} (h : CF m) : m 121 10 = 132 := h (121, 10, 132) (by decide)
theorem CF.f121_11 {m : jm_M} (h : CF m) : m 121 11 = 133 := h (121, 11, 133) (by decide)
theorem CF.f121_12 {m : jm_M} (h : CF m) : m 121 12 = 134 := h (121, 12, 134) (by decide)
theorem CF.f121_13 {m : jm_M} (h : CF m) : m 121 13 = 135 := h (121, 13, 135) (by decide)
theorem CF.f121_14 {m : jm_M} (h : CF m) : m 121 14 = 136 := h (121, 14, 136) (by decide)
theorem CF.f121_15 {m : jm_M} (h : CF m) : m 121 15 = 137 := h (121, 15, 137) (by decide)
theorem CF.f121_16 {m : jm_M} (h : CF m) : m 121 16 = 138 := h (121, 16, 138) (by decide)
theorem CF.f121_17 {m : jm_M} (h : CF m) : m 121 17 = 139 := h (121, 17, 139) (by decide)
theorem CF.f121_18 {m : jm_M} (h : CF m) : m 121 18 = 140 := h (121, 18, 140) (by decide)
theorem CF.f121_19 {m : jm_M} (h : CF m) : m 121 19 = 141 := h (121, 19, 141) (by decide)
theorem CF.f142_1 {m : jm_M} (h : CF m) : m 142 1 = 2 := h (142, 1, 2) (by decide)
theorem CF.f142_2 {m : jm_M} (h : CF m) : m 142 2 = 143 := h (142, 2, 143) (by decide)
theorem CF.f142_3 {m : jm_M} (h : CF m) : m 142 3 = 144 := h (142, 3, 144) (by decide)
theorem CF.f142_4 {m : jm_M} (h : CF m) : m 142 4 = 175 := h (142, 4, 175) (by decide)
theorem CF.f142_5 {m : jm_M} (h : CF m) : m 142 5 = 181 := h (142, 5, 181) (by decide)
theorem CF.f144_0 {m : jm_M} (h : CF m) : m 144 0 = 145 := h (144, 0, 145) (by decide)
theorem CF.f144_1 {m : jm_M} (h : CF m) : m 144 1 = 146 := h (144, 1, 146) (by decide)
theorem CF.f144_2 {m : jm_M} (h : CF m) : m 144 2 = 147 := h (144, 2, 147) (by decide)
theorem CF.f144_3 {m : jm_M} (h : CF m) : m 144 3 = 148 := h (144, 3, 148) (by decide)
theorem CF.f144_4 {m : jm_M} (h : CF m) : m 144 4 = 149 := h (144, 4, 149) (by decide)
theorem CF.f144_5 {m : jm_M} (h : CF m) : m 144 5 = 150 := h (144, 5, 150) (by decide)
theorem CF.f144_6 {m : jm_M} (h : CF m) : m 144 6 = 151 := h (144, 6, 151) (by decide)
theorem CF.f144_7 {m : jm_M} (h : CF m) : m 144 7 = 152 := h (144, 7, 152) (by decide)
theorem CF.f144_8 {m : jm_M} (h : CF m) : m 144 8 = 153 := h (144, 8, 153) (by decide)
theorem CF.f144_9 {m : jm_M} (h : CF m) : m 144 9 = 154 := h (144, 9, 154) (by decide)
theorem CF.f144_10 {m : jm_M} (h : CF m) : m 144 10 = 155 := h (144, 10, 155) (by decide)
theorem CF.f144_11 {m : jm_M} (h : CF m) : m 144 11 = 156 := h (144, 11, 156) (by decide)
theorem CF.f144_12 {m : jm_M} (h : CF m) : m 144 12 = 157 := h (144, 12, 157) (by decide)
theorem CF.f144_13 {m : jm_M} (h : CF m) : m 144 13 = 158 := h (144, 13, 158) (by decide)
theorem CF.f144_14 {m : jm_M} (h : CF m) : m 144 14 = 159 := h (144, 14, 159) (by decide)
theorem CF.f144_15 {m : jm_M} (h : CF m) : m 144 15 = 160 := h (144, 15, 160) (by decide)
theorem CF.f144_16 {m : jm_M} (h : CF m) : m 144 16 = 161 := h (144, 16, 161) (by decide)
theorem CF.f144_17 {m : jm_M} (h : CF m) : m 144 17 = 162 := h (144, 17, 162) (by decide)
theorem CF.f144_18 {m : jm_M} (h : CF m) : m 144 18 = 163 := h (144, 18, 163) (by decide)
theorem CF.f144_19 {m : jm_M} (h : CF m) : m 144 19 = 164 := h (144, 19, 164) (by decide)
theorem CF.f144_20 {m : jm_M} (h : CF m) : m 144 20 = 165 := h (144, 20, 165) (by decide)
theorem CF.f144_21 {m : jm_M} (h : CF m) : m 144 21 = 166 := h (144, 21, 166) (by decide)
theorem CF.f144_22 {m : jm_M} (h : CF m) : m 144 22 = 167 := h (144, 22, 167) (by decide)
theorem CF.f144_23 {m : jm_M} (h : CF m) : m 144 23 = 168 := h (144, 23, 168) (by decide)
theorem CF.f144_24 {m : jm_M} (h : CF m) : m 144 24 = 169 := h (144, 24, 169) (by decide)
theorem CF.f144_25 {m : jm_M} (h : CF m) : m 144 25 = 170 := h (144, 25, 170) (by decide)
theorem CF.f144_26 {m : jm_M} (h : CF m) : m 144 26 = 171 := h (144, 26, 171) (by decide)
theorem CF.f144_27 {m : jm_M} (h : CF m) : m 144 27 = 172 := h (144, 27, 172) (by decide)
theorem CF.f144_28 {m : jm_M} (h : CF m) : m 144 28 = 173 := h (144, 28, 173) (by decide)
theorem CF.f144_29 {m : jm_M} (h : CF m) : m 144 29 = 174 := h (144, 29, 174) (by decide)
theorem CF.f175_0 {m : jm_M} (h : CF m) : m 175 0 = 176 := h (175, 0, 176) (by decide)
theorem CF.f175_1 {m : jm_M} (h : CF m) : m 175 1 = 177 := h (175, 1, 177) (by decide)
theorem CF.f175_2 {m : jm_M} (h : CF m) : m 175 2 = 178 := h (175, 2, 178) (by decide)
theorem CF.f175_3 {m : jm_M} (h : CF m) : m 175 3 = 179 := h (175, 3, 179) (by decide)
theorem CF.f175_4 {m : jm_M} (h : CF m) : m 175 4 = 180 := h (175, 4, 180) (by decide)
theorem CF.f181_0 {m : jm_M} (h : CF m) : m 181 0 = 182 := h (181, 0, 182) (by decide)
theorem CF.f181_1 {m : jm_M} (h : CF m) : m 181 1 = 183 := h (181, 1, 183) (by decide)
theorem CF.f181_2 {m : jm_M} (h : CF m) : m 181 2 = 184 := h (181, 2, 184) (by decide)
theorem CF.f181_3 {m : jm_M} (h : CF m) : m 181 3 = 185 := h (181, 3, 185) (by decide)
theorem CF.f181_4 {m : jm_M} (h : CF m) : m 181 4 = 186 := h (181, 4, 186) (by decide)
theorem CF.f187_1 {m : jm_M} (h : CF m) : m 187 1 = 2 := h (187, 1, 2) (by decide)
theorem CF.f187_2 {m : jm_M} (h : CF m) : m 187 2 = 142 := h (187, 2, 142) (by decide)
theorem CF.f187_3 {m : jm_M} (h : CF m) : m 187 3 = 188 := h (187, 3, 188) (by decide)
theorem CF.f187_4 {m : jm_M} (h : CF m) : m 187 4 = 189 := h (187, 4, 189) (by decide)
theorem CF.f190_1 {m : jm_M} (h : CF m) : m 190 1 = 2 := h (190, 1, 2) (by decide)
theorem CF.f190_2 {m : jm_M} (h : CF m) : m 190 2 = 82 := h (190, 2, 82) (by decide)
theorem CF.f190_3 {m : jm_M} (h : CF m) : m 190 3 = 191 := h (190, 3, 191) (by decide)
