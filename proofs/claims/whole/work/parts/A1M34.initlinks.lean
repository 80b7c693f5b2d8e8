theorem jRo_self {k n0 Lm : Nat} : jRo (jrm k (Lm - n0) (jq (Lm - n0))) 0 n0 Lm := ⟨by show 0 + (Lm - n0) ≤ Lm - n0; omega, by rw [Nat.zero_add]; exact Nat.le_refl _⟩
theorem jgl_spec {g2 g : jm_G} {cN Lm : Nat} {u : Unit} (h : jgl g2 g cN Lm = some u) : g2.1 = g.1 + cN ∧ g.1 + cN ≤ Lm := by
  unfold jgl at h
  split at h
  · assumption
  · cases h
theorem jHA_cs {D : va_G} {cy : Nat → ClassId} {B n0 Lm : Nat} {g : jm_G} {s : State} {H0 H : Heap} {locs : List Loc} (S : jHA D cy B 0 n0 Lm g s H0 H locs) : 0 + (g.1 - n0) ≤ Lm - n0 ∧ jq (0 + (g.1 - n0)) ≤ jq (Lm - n0) := by
  obtain ⟨-, -, -, h4, h5, -⟩ := S
  exact ⟨by omega, jq_mono (by omega)⟩
theorem ka_int : Cond.arrayClass .int ∈ jB := jB_at 141 (by decide +kernel) rfl
theorem ka_bool : Cond.arrayClass .boolean ∈ jB := jB_at 1190 (by decide +kernel) rfl
theorem ko_i : Cond.instanceMethod Lib.objectInit ∈ jB := jB_at 110 (by decide +kernel) rfl
theorem ko_c : Cond.code Lib.objectInit ⟨#[0xb1]⟩ 1 none ∈ jB := jB_at 111 (by decide +kernel) rfl
theorem ko_X0_3 : Cond.methodLink RX0 3 Lib.objectInit ∈ jB := jB_at 374 (by decide +kernel) rfl
theorem fo_X0_2 : jFo RX0 0 6 2 := fun Cn T h => by
  have h2 : some (RX0, TX0, 6) = some (Cn, T, 6) := h
  cases h2
  rfl
theorem kl_X0_15 : Cond.classLink RX0 15 "[[I" ∈ jB := jB_at 375 (by decide +kernel) rfl
theorem fo_X0_3 : jFo RX0 0 6 3 := fun Cn T h => by
  have h2 : some (RX0, TX0, 6) = some (Cn, T, 6) := h
  cases h2
  rfl
theorem fo_X0_4 : jFo RX0 0 6 4 := fun Cn T h => by
  have h2 : some (RX0, TX0, 6) = some (Cn, T, 6) := h
  cases h2
  rfl
theorem fo_X0_5 : jFo RX0 0 6 5 := fun Cn T h => by
  have h2 : some (RX0, TX0, 6) = some (Cn, T, 6) := h
  cases h2
  rfl
theorem fo_X0_1 : jFo RX0 0 6 1 := fun Cn T h => by
  have h2 : some (RX0, TX0, 6) = some (Cn, T, 6) := h
  cases h2
  rfl
theorem ko_X1_3 : Cond.methodLink RX1 3 Lib.objectInit ∈ jB := jB_at 117 (by decide +kernel) rfl
theorem fo_X1_2 : jFo RX1 1 9 2 := fun Cn T h => by
  have h2 : some (RX1, TX1, 9) = some (Cn, T, 9) := h
  cases h2
  rfl
theorem fo_X1_3 : jFo RX1 1 9 3 := fun Cn T h => by
  have h2 : some (RX1, TX1, 9) = some (Cn, T, 9) := h
  cases h2
  rfl
theorem fo_X1_4 : jFo RX1 1 9 4 := fun Cn T h => by
  have h2 : some (RX1, TX1, 9) = some (Cn, T, 9) := h
  cases h2
  rfl
theorem nc_X1_21 : jNc RX1 21 10 4 := ⟨RX10, TX10, tyX10, rfl, jB_at 118 (by decide +kernel) rfl, jB_at 119 (by decide +kernel) rfl, jB_at 91 (by decide +kernel) rfl, inB_X10, tyX10_ok, by decide +kernel⟩
theorem ml_X1_23 : Cond.methodLink RX1 23 yX10_init ∈ jB := jB_at 120 (by decide +kernel) rfl
theorem mi_X10_init : jmI yX10_init cX10_init 2 0 := ⟨⟨jB_at 122 (by decide +kernel) rfl, jB_at 91 (by decide +kernel) rfl, ⟨by decide +kernel, by decide +kernel, by decide +kernel⟩, by decide⟩, jB_at 121 (by decide +kernel) rfl, rfl⟩
theorem fo_X1_5 : jFo RX1 1 9 5 := fun Cn T h => by
  have h2 : some (RX1, TX1, 9) = some (Cn, T, 9) := h
  cases h2
  rfl
theorem fo_X1_6 : jFo RX1 1 9 6 := fun Cn T h => by
  have h2 : some (RX1, TX1, 9) = some (Cn, T, 9) := h
  cases h2
  rfl
theorem fo_X1_7 : jFo RX1 1 9 7 := fun Cn T h => by
  have h2 : some (RX1, TX1, 9) = some (Cn, T, 9) := h
  cases h2
  rfl
theorem fo_X1_8 : jFo RX1 1 9 8 := fun Cn T h => by
  have h2 : some (RX1, TX1, 9) = some (Cn, T, 9) := h
  cases h2
  rfl
theorem ko_X2_3 : Cond.methodLink RX2 3 Lib.objectInit ∈ jB := jB_at 401 (by decide +kernel) rfl
theorem fo_X2_3 : jFo RX2 2 5 3 := fun Cn T h => by
  have h2 : some (RX2, TX2, 5) = some (Cn, T, 5) := h
  cases h2
  rfl
theorem fo_X2_4 : jFo RX2 2 5 4 := fun Cn T h => by
  have h2 : some (RX2, TX2, 5) = some (Cn, T, 5) := h
  cases h2
  rfl
theorem fo_X2_1 : jFo RX2 2 5 1 := fun Cn T h => by
  have h2 : some (RX2, TX2, 5) = some (Cn, T, 5) := h
  cases h2
  rfl
theorem fo_X2_2 : jFo RX2 2 5 2 := fun Cn T h => by
  have h2 : some (RX2, TX2, 5) = some (Cn, T, 5) := h
  cases h2
  rfl
theorem ko_X3_3 : Cond.methodLink RX3 3 Lib.objectInit ∈ jB := jB_at 176 (by decide +kernel) rfl
theorem fo_X3_0 : jFo RX3 3 3 0 := fun Cn T h => by
  have h2 : some (RX3, TX3, 3) = some (Cn, T, 3) := h
  cases h2
  rfl
theorem fo_X3_2 : jFo RX3 3 3 2 := fun Cn T h => by
  have h2 : some (RX3, TX3, 3) = some (Cn, T, 3) := h
  cases h2
  rfl
theorem ko_X4_3 : Cond.methodLink RX4 3 Lib.objectInit ∈ jB := jB_at 279 (by decide +kernel) rfl
theorem fo_X4_1 : jFo RX4 4 4 1 := fun Cn T h => by
  have h2 : some (RX4, TX4, 4) = some (Cn, T, 4) := h
  cases h2
  rfl
theorem fo_X4_2 : jFo RX4 4 4 2 := fun Cn T h => by
  have h2 : some (RX4, TX4, 4) = some (Cn, T, 4) := h
  cases h2
  rfl
theorem fo_X4_3 : jFo RX4 4 4 3 := fun Cn T h => by
  have h2 : some (RX4, TX4, 4) = some (Cn, T, 4) := h
  cases h2
  rfl
theorem ko_X5_3 : Cond.methodLink RX5 3 Lib.objectInit ∈ jB := jB_at 334 (by decide +kernel) rfl
theorem fo_X5_6 : jFo RX5 5 10 6 := fun Cn T h => by
  have h2 : some (RX5, TX5, 10) = some (Cn, T, 10) := h
  cases h2
  rfl
theorem fo_X5_7 : jFo RX5 5 10 7 := fun Cn T h => by
  have h2 : some (RX5, TX5, 10) = some (Cn, T, 10) := h
  cases h2
  rfl
theorem kl_X5_18 : Cond.classLink RX5 18 "[[I" ∈ jB := jB_at 335 (by decide +kernel) rfl
theorem fo_X5_8 : jFo RX5 5 10 8 := fun Cn T h => by
  have h2 : some (RX5, TX5, 10) = some (Cn, T, 10) := h
  cases h2
  rfl
theorem fo_X5_9 : jFo RX5 5 10 9 := fun Cn T h => by
  have h2 : some (RX5, TX5, 10) = some (Cn, T, 10) := h
  cases h2
  rfl
theorem fo_X5_4 : jFo RX5 5 10 4 := fun Cn T h => by
  have h2 : some (RX5, TX5, 10) = some (Cn, T, 10) := h
  cases h2
  rfl
theorem fo_X5_5 : jFo RX5 5 10 5 := fun Cn T h => by
  have h2 : some (RX5, TX5, 10) = some (Cn, T, 10) := h
  cases h2
  rfl
theorem ko_X6_3 : Cond.methodLink RX6 3 Lib.objectInit ∈ jB := jB_at 234 (by decide +kernel) rfl
theorem fo_X6_6 : jFo RX6 6 8 6 := fun Cn T h => by
  have h2 : some (RX6, TX6, 8) = some (Cn, T, 8) := h
  cases h2
  rfl
theorem fo_X6_7 : jFo RX6 6 8 7 := fun Cn T h => by
  have h2 : some (RX6, TX6, 8) = some (Cn, T, 8) := h
  cases h2
  rfl
theorem ko_X7_3 : Cond.methodLink RX7 3 Lib.objectInit ∈ jB := jB_at 194 (by decide +kernel) rfl
theorem fo_X7_3 : jFo RX7 7 10 3 := fun Cn T h => by
  have h2 : some (RX7, TX7, 10) = some (Cn, T, 10) := h
  cases h2
  rfl
theorem fo_X7_4 : jFo RX7 7 10 4 := fun Cn T h => by
  have h2 : some (RX7, TX7, 10) = some (Cn, T, 10) := h
  cases h2
  rfl
theorem fo_X7_5 : jFo RX7 7 10 5 := fun Cn T h => by
  have h2 : some (RX7, TX7, 10) = some (Cn, T, 10) := h
  cases h2
  rfl
theorem fo_X7_6 : jFo RX7 7 10 6 := fun Cn T h => by
  have h2 : some (RX7, TX7, 10) = some (Cn, T, 10) := h
  cases h2
  rfl
theorem fo_X7_7 : jFo RX7 7 10 7 := fun Cn T h => by
  have h2 : some (RX7, TX7, 10) = some (Cn, T, 10) := h
  cases h2
  rfl
theorem fo_X7_8 : jFo RX7 7 10 8 := fun Cn T h => by
  have h2 : some (RX7, TX7, 10) = some (Cn, T, 10) := h
  cases h2
  rfl
theorem kl_X7_30 : Cond.classLink RX7 30 "[[I" ∈ jB := jB_at 195 (by decide +kernel) rfl
theorem fo_X7_9 : jFo RX7 7 10 9 := fun Cn T h => by
  have h2 : some (RX7, TX7, 10) = some (Cn, T, 10) := h
  cases h2
  rfl
theorem ko_X8_3 : Cond.methodLink RX8 3 Lib.objectInit ∈ jB := jB_at 273 (by decide +kernel) rfl
theorem nc_X8_9 : jNc RX8 9 4 4 := ⟨RX4, TX4, tyX4, rfl, jB_at 274 (by decide +kernel) rfl, jB_at 275 (by decide +kernel) rfl, jB_at 96 (by decide +kernel) rfl, inB_X4, tyX4_ok, by decide +kernel⟩
theorem mn_X8_11 : (RX8, 11, yX4_init, "LongestRuns") ∈ jnM := by decide +kernel
theorem mi_X4_init : jmI yX4_init cX4_init 1 0 := ⟨⟨jB_at 278 (by decide +kernel) rfl, jB_at 96 (by decide +kernel) rfl, ⟨by decide +kernel, by decide +kernel, by decide +kernel⟩, by decide⟩, jB_at 277 (by decide +kernel) rfl, rfl⟩
theorem fo_X8_7 : jFo RX8 8 10 7 := fun Cn T h => by
  have h2 : some (RX8, TX8, 10) = some (Cn, T, 10) := h
  cases h2
  rfl
theorem fo_X8_8 : jFo RX8 8 10 8 := fun Cn T h => by
  have h2 : some (RX8, TX8, 10) = some (Cn, T, 10) := h
  cases h2
  rfl
theorem kl_X8_9 : Cond.classLink RX8 9 "LongestRuns$Reached" ∈ jB := jB_at 274 (by decide +kernel) rfl
theorem fo_X8_9 : jFo RX8 8 10 9 := fun Cn T h => by
  have h2 : some (RX8, TX8, 10) = some (Cn, T, 10) := h
  cases h2
  rfl
theorem fo_X8_5 : jFo RX8 8 10 5 := fun Cn T h => by
  have h2 : some (RX8, TX8, 10) = some (Cn, T, 10) := h
  cases h2
  rfl
theorem fo_X8_6 : jFo RX8 8 10 6 := fun Cn T h => by
  have h2 : some (RX8, TX8, 10) = some (Cn, T, 10) := h
  cases h2
  rfl
theorem ko_X9_3 : Cond.methodLink RX9 3 Lib.objectInit ∈ jB := jB_at 424 (by decide +kernel) rfl
theorem fo_X9_3 : jFo RX9 9 4 3 := fun Cn T h => by
  have h2 : some (RX9, TX9, 4) = some (Cn, T, 4) := h
  cases h2
  rfl
theorem fo_X9_1 : jFo RX9 9 4 1 := fun Cn T h => by
  have h2 : some (RX9, TX9, 4) = some (Cn, T, 4) := h
  cases h2
  rfl
theorem fo_X9_2 : jFo RX9 9 4 2 := fun Cn T h => by
  have h2 : some (RX9, TX9, 4) = some (Cn, T, 4) := h
  cases h2
  rfl
theorem ko_X10_3 : Cond.methodLink RX10 3 Lib.objectInit ∈ jB := jB_at 123 (by decide +kernel) rfl
theorem fo_X10_1 : jFo RX10 10 4 1 := fun Cn T h => by
  have h2 : some (RX10, TX10, 4) = some (Cn, T, 4) := h
  cases h2
  rfl
theorem fo_X10_2 : jFo RX10 10 4 2 := fun Cn T h => by
  have h2 : some (RX10, TX10, 4) = some (Cn, T, 4) := h
  cases h2
  rfl
theorem fo_X10_3 : jFo RX10 10 4 3 := fun Cn T h => by
  have h2 : some (RX10, TX10, 4) = some (Cn, T, 4) := h
  cases h2
  rfl
theorem ko_X11_1 : Cond.methodLink RX11 1 Lib.objectInit ∈ jB := jB_at 109 (by decide +kernel) rfl
theorem nc_X11_7 : jNc RX11 7 1 9 := ⟨RX1, TX1, tyX1, rfl, jB_at 112 (by decide +kernel) rfl, jB_at 113 (by decide +kernel) rfl, jB_at 90 (by decide +kernel) rfl, inB_X1, tyX1_ok, by decide +kernel⟩
theorem mn_X11_9 : (RX11, 9, yX1_init, "LongestRuns") ∈ jnM := by decide +kernel
theorem mi_X1_init : jmI yX1_init cX1_init 1 0 := ⟨⟨jB_at 116 (by decide +kernel) rfl, jB_at 90 (by decide +kernel) rfl, ⟨by decide +kernel, by decide +kernel, by decide +kernel⟩, by decide⟩, jB_at 115 (by decide +kernel) rfl, rfl⟩
theorem fo_X11_0 : jFo RX11 11 10 0 := fun Cn T h => by
  have h2 : some (RX11, TX11, 10) = some (Cn, T, 10) := h
  cases h2
  rfl
theorem fo_X11_1 : jFo RX11 11 10 1 := fun Cn T h => by
  have h2 : some (RX11, TX11, 10) = some (Cn, T, 10) := h
  cases h2
  rfl
theorem fo_X11_2 : jFo RX11 11 10 2 := fun Cn T h => by
  have h2 : some (RX11, TX11, 10) = some (Cn, T, 10) := h
  cases h2
  rfl
theorem nc_X11_22 : jNc RX11 22 3 3 := ⟨RX3, TX3, tyX3, rfl, jB_at 171 (by decide +kernel) rfl, jB_at 172 (by decide +kernel) rfl, jB_at 92 (by decide +kernel) rfl, inB_X3, tyX3_ok, by decide +kernel⟩
theorem mn_X11_24 : (RX11, 24, yX3_init, "LongestRuns") ∈ jnM := by decide +kernel
theorem mi_X3_init : jmI yX3_init cX3_init 1 0 := ⟨⟨jB_at 175 (by decide +kernel) rfl, jB_at 92 (by decide +kernel) rfl, ⟨by decide +kernel, by decide +kernel, by decide +kernel⟩, by decide⟩, jB_at 174 (by decide +kernel) rfl, rfl⟩
theorem fo_X11_3 : jFo RX11 11 10 3 := fun Cn T h => by
  have h2 : some (RX11, TX11, 10) = some (Cn, T, 10) := h
  cases h2
  rfl
theorem nc_X11_29 : jNc RX11 29 7 10 := ⟨RX7, TX7, tyX7, rfl, jB_at 189 (by decide +kernel) rfl, jB_at 190 (by decide +kernel) rfl, jB_at 93 (by decide +kernel) rfl, inB_X7, tyX7_ok, by decide +kernel⟩
theorem mn_X11_31 : (RX11, 31, yX7_init, "LongestRuns") ∈ jnM := by decide +kernel
theorem mi_X7_init : jmI yX7_init cX7_init 1 0 := ⟨⟨jB_at 193 (by decide +kernel) rfl, jB_at 93 (by decide +kernel) rfl, ⟨by decide +kernel, by decide +kernel, by decide +kernel⟩, by decide⟩, jB_at 192 (by decide +kernel) rfl, rfl⟩
theorem nc_X11_32 : jNc RX11 32 6 8 := ⟨RX6, TX6, tyX6, rfl, jB_at 229 (by decide +kernel) rfl, jB_at 230 (by decide +kernel) rfl, jB_at 94 (by decide +kernel) rfl, inB_X6, tyX6_ok, by decide +kernel⟩
theorem ml_X11_34 : Cond.methodLink RX11 34 yX6_init ∈ jB := jB_at 231 (by decide +kernel) rfl
theorem mi_X6_init : jmI yX6_init cX6_init 3 2 := ⟨⟨jB_at 233 (by decide +kernel) rfl, jB_at 94 (by decide +kernel) rfl, ⟨by decide +kernel, by decide +kernel, by decide +kernel⟩, by decide⟩, jB_at 232 (by decide +kernel) rfl, rfl⟩
theorem fo_X11_4 : jFo RX11 11 10 4 := fun Cn T h => by
  have h2 : some (RX11, TX11, 10) = some (Cn, T, 10) := h
  cases h2
  rfl
theorem nc_X11_41 : jNc RX11 41 8 10 := ⟨RX8, TX8, tyX8, rfl, jB_at 268 (by decide +kernel) rfl, jB_at 269 (by decide +kernel) rfl, jB_at 95 (by decide +kernel) rfl, inB_X8, tyX8_ok, by decide +kernel⟩
theorem ml_X11_43 : Cond.methodLink RX11 43 yX8_init ∈ jB := jB_at 270 (by decide +kernel) rfl
theorem mi_X8_init : jmI yX8_init cX8_init 4 2 := ⟨⟨jB_at 272 (by decide +kernel) rfl, jB_at 95 (by decide +kernel) rfl, ⟨by decide +kernel, by decide +kernel, by decide +kernel⟩, by decide⟩, jB_at 271 (by decide +kernel) rfl, rfl⟩
theorem fo_X11_5 : jFo RX11 11 10 5 := fun Cn T h => by
  have h2 : some (RX11, TX11, 10) = some (Cn, T, 10) := h
  cases h2
  rfl
theorem nc_X11_48 : jNc RX11 48 5 10 := ⟨RX5, TX5, tyX5, rfl, jB_at 329 (by decide +kernel) rfl, jB_at 330 (by decide +kernel) rfl, jB_at 97 (by decide +kernel) rfl, inB_X5, tyX5_ok, by decide +kernel⟩
theorem ml_X11_50 : Cond.methodLink RX11 50 yX5_init ∈ jB := jB_at 331 (by decide +kernel) rfl
theorem mi_X5_init : jmI yX5_init cX5_init 3 2 := ⟨⟨jB_at 333 (by decide +kernel) rfl, jB_at 97 (by decide +kernel) rfl, ⟨by decide +kernel, by decide +kernel, by decide +kernel⟩, by decide⟩, jB_at 332 (by decide +kernel) rfl, rfl⟩
theorem fo_X11_6 : jFo RX11 11 10 6 := fun Cn T h => by
  have h2 : some (RX11, TX11, 10) = some (Cn, T, 10) := h
  cases h2
  rfl
theorem nc_X11_55 : jNc RX11 55 0 6 := ⟨RX0, TX0, tyX0, rfl, jB_at 369 (by decide +kernel) rfl, jB_at 370 (by decide +kernel) rfl, jB_at 98 (by decide +kernel) rfl, inB_X0, tyX0_ok, by decide +kernel⟩
theorem ml_X11_57 : Cond.methodLink RX11 57 yX0_init ∈ jB := jB_at 371 (by decide +kernel) rfl
theorem mi_X0_init : jmI yX0_init cX0_init 2 1 := ⟨⟨jB_at 373 (by decide +kernel) rfl, jB_at 98 (by decide +kernel) rfl, ⟨by decide +kernel, by decide +kernel, by decide +kernel⟩, by decide⟩, jB_at 372 (by decide +kernel) rfl, rfl⟩
theorem fo_X11_7 : jFo RX11 11 10 7 := fun Cn T h => by
  have h2 : some (RX11, TX11, 10) = some (Cn, T, 10) := h
  cases h2
  rfl
theorem nc_X11_64 : jNc RX11 64 2 5 := ⟨RX2, TX2, tyX2, rfl, jB_at 396 (by decide +kernel) rfl, jB_at 397 (by decide +kernel) rfl, jB_at 99 (by decide +kernel) rfl, inB_X2, tyX2_ok, by decide +kernel⟩
theorem ml_X11_66 : Cond.methodLink RX11 66 yX2_init ∈ jB := jB_at 398 (by decide +kernel) rfl
theorem mi_X2_init : jmI yX2_init cX2_init 3 2 := ⟨⟨jB_at 400 (by decide +kernel) rfl, jB_at 99 (by decide +kernel) rfl, ⟨by decide +kernel, by decide +kernel, by decide +kernel⟩, by decide⟩, jB_at 399 (by decide +kernel) rfl, rfl⟩
theorem fo_X11_8 : jFo RX11 11 10 8 := fun Cn T h => by
  have h2 : some (RX11, TX11, 10) = some (Cn, T, 10) := h
  cases h2
  rfl
theorem nc_X11_73 : jNc RX11 73 9 4 := ⟨RX9, TX9, tyX9, rfl, jB_at 419 (by decide +kernel) rfl, jB_at 420 (by decide +kernel) rfl, jB_at 100 (by decide +kernel) rfl, inB_X9, tyX9_ok, by decide +kernel⟩
theorem ml_X11_75 : Cond.methodLink RX11 75 yX9_init ∈ jB := jB_at 421 (by decide +kernel) rfl
theorem mi_X9_init : jmI yX9_init cX9_init 3 2 := ⟨⟨jB_at 423 (by decide +kernel) rfl, jB_at 100 (by decide +kernel) rfl, ⟨by decide +kernel, by decide +kernel, by decide +kernel⟩, by decide⟩, jB_at 422 (by decide +kernel) rfl, rfl⟩
theorem fo_X11_9 : jFo RX11 11 10 9 := fun Cn T h => by
  have h2 : some (RX11, TX11, 10) = some (Cn, T, 10) := h
  cases h2
  rfl
theorem ko_X12_1 : Cond.methodLink RX12 1 Lib.objectInit ∈ jB := jB_at 1086 (by decide +kernel) rfl
theorem fo_X12_0 : jFo RX12 12 34 0 := fun Cn T h => by
  have h2 : some (RX12, TX12, 34) = some (Cn, T, 34) := h
  cases h2
  rfl
theorem fo_X12_2 : jFo RX12 12 34 2 := fun Cn T h => by
  have h2 : some (RX12, TX12, 34) = some (Cn, T, 34) := h
  cases h2
  rfl
theorem fo_X12_3 : jFo RX12 12 34 3 := fun Cn T h => by
  have h2 : some (RX12, TX12, 34) = some (Cn, T, 34) := h
  cases h2
  rfl
theorem fo_X12_4 : jFo RX12 12 34 4 := fun Cn T h => by
  have h2 : some (RX12, TX12, 34) = some (Cn, T, 34) := h
  cases h2
  rfl
theorem fo_X12_5 : jFo RX12 12 34 5 := fun Cn T h => by
  have h2 : some (RX12, TX12, 34) = some (Cn, T, 34) := h
  cases h2
  rfl
theorem fo_X12_6 : jFo RX12 12 34 6 := fun Cn T h => by
  have h2 : some (RX12, TX12, 34) = some (Cn, T, 34) := h
  cases h2
  rfl
theorem fo_X12_8 : jFo RX12 12 34 8 := fun Cn T h => by
  have h2 : some (RX12, TX12, 34) = some (Cn, T, 34) := h
  cases h2
  rfl
theorem fo_X12_9 : jFo RX12 12 34 9 := fun Cn T h => by
  have h2 : some (RX12, TX12, 34) = some (Cn, T, 34) := h
  cases h2
  rfl
theorem fo_X12_11 : jFo RX12 12 34 11 := fun Cn T h => by
  have h2 : some (RX12, TX12, 34) = some (Cn, T, 34) := h
  cases h2
  rfl
theorem fo_X12_13 : jFo RX12 12 34 13 := fun Cn T h => by
  have h2 : some (RX12, TX12, 34) = some (Cn, T, 34) := h
  cases h2
  rfl
theorem fo_X12_14 : jFo RX12 12 34 14 := fun Cn T h => by
  have h2 : some (RX12, TX12, 34) = some (Cn, T, 34) := h
  cases h2
  rfl
theorem fo_X12_15 : jFo RX12 12 34 15 := fun Cn T h => by
  have h2 : some (RX12, TX12, 34) = some (Cn, T, 34) := h
  cases h2
  rfl
theorem fo_X12_16 : jFo RX12 12 34 16 := fun Cn T h => by
  have h2 : some (RX12, TX12, 34) = some (Cn, T, 34) := h
  cases h2
  rfl
theorem fo_X12_17 : jFo RX12 12 34 17 := fun Cn T h => by
  have h2 : some (RX12, TX12, 34) = some (Cn, T, 34) := h
  cases h2
  rfl
theorem fo_X12_21 : jFo RX12 12 34 21 := fun Cn T h => by
  have h2 : some (RX12, TX12, 34) = some (Cn, T, 34) := h
  cases h2
  rfl
theorem fo_X12_24 : jFo RX12 12 34 24 := fun Cn T h => by
  have h2 : some (RX12, TX12, 34) = some (Cn, T, 34) := h
  cases h2
  rfl
theorem fo_X12_27 : jFo RX12 12 34 27 := fun Cn T h => by
  have h2 : some (RX12, TX12, 34) = some (Cn, T, 34) := h
  cases h2
  rfl
theorem fo_X12_28 : jFo RX12 12 34 28 := fun Cn T h => by
  have h2 : some (RX12, TX12, 34) = some (Cn, T, 34) := h
  cases h2
  rfl
theorem fo_X12_29 : jFo RX12 12 34 29 := fun Cn T h => by
  have h2 : some (RX12, TX12, 34) = some (Cn, T, 34) := h
  cases h2
  rfl
theorem fo_X12_30 : jFo RX12 12 34 30 := fun Cn T h => by
  have h2 : some (RX12, TX12, 34) = some (Cn, T, 34) := h
  cases h2
  rfl
theorem fo_X12_31 : jFo RX12 12 34 31 := fun Cn T h => by
  have h2 : some (RX12, TX12, 34) = some (Cn, T, 34) := h
  cases h2
  rfl
theorem fo_X12_32 : jFo RX12 12 34 32 := fun Cn T h => by
  have h2 : some (RX12, TX12, 34) = some (Cn, T, 34) := h
  cases h2
  rfl
theorem fo_X12_33 : jFo RX12 12 34 33 := fun Cn T h => by
  have h2 : some (RX12, TX12, 34) = some (Cn, T, 34) := h
  cases h2
  rfl
theorem nc_L_7 : jNc RL 7 11 10 := ⟨RX11, TX11, tyX11, rfl, jB_at 104 (by decide +kernel) rfl, jB_at 105 (by decide +kernel) rfl, jB_at 89 (by decide +kernel) rfl, inB_X11, tyX11_ok, by decide +kernel⟩
theorem ml_L_9 : Cond.methodLink RL 9 yX11_init ∈ jB := jB_at 106 (by decide +kernel) rfl
theorem mi_X11_init : jmI yX11_init cX11_init 2 0 := ⟨⟨jB_at 108 (by decide +kernel) rfl, jB_at 89 (by decide +kernel) rfl, ⟨by decide +kernel, by decide +kernel, by decide +kernel⟩, by decide⟩, jB_at 107 (by decide +kernel) rfl, rfl⟩
theorem nc_L_10 : jNc RL 10 12 34 := ⟨RX12, TX12, tyX12, rfl, jB_at 1081 (by decide +kernel) rfl, jB_at 1082 (by decide +kernel) rfl, jB_at 101 (by decide +kernel) rfl, inB_X12, tyX12_ok, by decide +kernel⟩
theorem ml_L_12 : Cond.methodLink RL 12 yX12_init ∈ jB := jB_at 1083 (by decide +kernel) rfl
theorem mi_X12_init : jmI yX12_init cX12_init 2 0 := ⟨⟨jB_at 1085 (by decide +kernel) rfl, jB_at 101 (by decide +kernel) rfl, ⟨by decide +kernel, by decide +kernel, by decide +kernel⟩, by decide⟩, jB_at 1084 (by decide +kernel) rfl, rfl⟩
