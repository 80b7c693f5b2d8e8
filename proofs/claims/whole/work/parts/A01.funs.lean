def f_X11_isIn (x0 : Int) (x1 : Int) : Option Int :=
  if (jand (jshr x0 x1) 1) = 1 then
    some 1
  else
  some 0
def f_X1_holds (sh : jm_S) (a0 : Nat) (x1 : Int) (m : jm_M) : Option Int :=
  Option.bind (jrf sh m a0 1 9 2) fun v1 =>
  Option.bind (jra sh m v1.toNat 13 3) fun v2 =>
  Option.bind (f_X11_isIn v2 x1) fun q3 =>
  Option.bind (jzb q3) fun z5 =>
  some z5
def f_X11_setOf (x0 : Int) (x1 : Int) : Option Int :=
  some (jand x0 (jw (x1 - 1)))
def f_X11_linesOfSet (x0 : Int) (x1 : Int) : Option Int :=
  if (1 : Int) = x1 then
    some 255
  else
  if (2 : Int) = x1 then
    some (jshl 85 x0)
  else
  some (jshl 17 x0)
def f_J6_bitCount_0f7a4 (x0 : Int) : Option Int :=
  some (jand (jw ((jw ((jand (jw ((jw ((jand (jw (x0 - (jand (jushr x0 1) 1431655765))) 858993459) + (jand (jushr (jw (x0 - (jand (jushr x0 1) 1431655765))) 2) 858993459))) + (jushr (jw ((jand (jw (x0 - (jand (jushr x0 1) 1431655765))) 858993459) + (jand (jushr (jw (x0 - (jand (jushr x0 1) 1431655765))) 2) 858993459))) 4))) 252645135) + (jushr (jand (jw ((jw ((jand (jw (x0 - (jand (jushr x0 1) 1431655765))) 858993459) + (jand (jushr (jw (x0 - (jand (jushr x0 1) 1431655765))) 2) 858993459))) + (jushr (jw ((jand (jw (x0 - (jand (jushr x0 1) 1431655765))) 858993459) + (jand (jushr (jw (x0 - (jand (jushr x0 1) 1431655765))) 2) 858993459))) 4))) 252645135) 8))) + (jushr (jw ((jand (jw ((jw ((jand (jw (x0 - (jand (jushr x0 1) 1431655765))) 858993459) + (jand (jushr (jw (x0 - (jand (jushr x0 1) 1431655765))) 2) 858993459))) + (jushr (jw ((jand (jw (x0 - (jand (jushr x0 1) 1431655765))) 858993459) + (jand (jushr (jw (x0 - (jand (jushr x0 1) 1431655765))) 2) 858993459))) 4))) 252645135) + (jushr (jand (jw ((jw ((jand (jw (x0 - (jand (jushr x0 1) 1431655765))) 858993459) + (jand (jushr (jw (x0 - (jand (jushr x0 1) 1431655765))) 2) 858993459))) + (jushr (jw ((jand (jw (x0 - (jand (jushr x0 1) 1431655765))) 858993459) + (jand (jushr (jw (x0 - (jand (jushr x0 1) 1431655765))) 2) 858993459))) 4))) 252645135) 8))) 16))) 63)
def f_X1_roomFor (sh : jm_S) (a0 : Nat) (x1 : Int) (m : jm_M) : Option Int :=
  Option.bind (jrf sh m a0 1 9 2) fun v1 =>
  Option.bind (jra sh m v1.toNat 13 0) fun v2 =>
  Option.bind (jrf sh m a0 1 9 2) fun v3 =>
  Option.bind (jra sh m v3.toNat 13 3) fun v4 =>
  Option.bind (f_X11_setOf x1 v2) fun q5 =>
  Option.bind (f_X11_linesOfSet q5 v2) fun q7 =>
  Option.bind (jrf sh m a0 1 9 2) fun v9 =>
  Option.bind (jra sh m v9.toNat 13 1) fun v10 =>
  Option.bind (f_J6_bitCount_0f7a4 (jand v4 q7)) fun q11 =>
  some (jw (v10 - q11))
def f_X10_firstPart (a0 : Nat) (x1 : Int) : Option Int :=
  some (jw (x1 + 1))
def f_X10_sizeAt (sh : jm_S) (a0 : Nat) (x1 : Int) (m : jm_M) : Option Int :=
  if x1 < 0 then
    some 1
  else
  if x1 < 30 then
    Option.bind (jrf sh m a0 10 4 2) fun v3 =>
    Option.bind (jra sh m v3.toNat 13 x1) fun v4 =>
    some v4
  else
  some 1
def f_X10_secondPart (sh : jm_S) (a0 : Nat) (x1 : Int) (m : jm_M) : Option Int :=
  Option.bind (jck sh a0 10 4) fun u1 =>
  Option.bind (f_X10_sizeAt sh a0 (jw (x1 + 1)) m) fun q2 =>
  some (jw ((jw (x1 + 1)) + q2))
def f_X10_signAt (sh : jm_S) (a0 : Nat) (x1 : Int) (m : jm_M) : Option Int :=
  if x1 < 0 then
    some 45
  else
  if x1 < 30 then
    Option.bind (jrf sh m a0 10 4 1) fun v3 =>
    Option.bind (jra sh m v3.toNat 13 x1) fun v4 =>
    some v4
  else
  some 45
def f_X0_copy_b2 (N : Nat) (sh : jm_S) (k2 : Nat → Nat → Int → jm_M → Option jm_M) (a0 : Nat) (a1 : Nat) (x2 : Int) (m : jm_M) : Option jm_M :=
  if x2 < 16 then
    Option.bind (jra sh m a0 13 x2) fun v2 =>
    Option.bind (jwa sh m a1 13 x2 v2) fun m3 =>
    k2 a0 a1 (jw (x2 + 1)) m3
  else
  some m
def f_X0_copy_l2 (N : Nat) (sh : jm_S) : Nat → Nat → Nat → Int → jm_M → Option jm_M
  | 0 => fun _ _ _ _ => none
  | n + 1 => fun a0 a1 x2 m => f_X0_copy_b2 N sh (f_X0_copy_l2 N sh n) a0 a1 x2 m
def f_X0_copy (N : Nat) (sh : jm_S) (a0 : Nat) (a1 : Nat) (m : jm_M) : Option jm_M :=
  f_X0_copy_l2 N sh N a0 a1 0 m
def f_J9_max_7cf53 (x0 : Int) (x1 : Int) : Option Int :=
  if x0 < x1 then
    some x1
  else
  some x0
def f_J9_min_7cf53 (x0 : Int) (x1 : Int) : Option Int :=
  if x1 < x0 then
    some x1
  else
  some x0
def f_X0_join_b2 (N : Nat) (sh : jm_S) (k2 : Nat → Nat → Int → jm_M → Option jm_M) (a0 : Nat) (a1 : Nat) (x2 : Int) (m : jm_M) : Option jm_M :=
  if x2 < 8 then
    Option.bind (jrf sh m a0 0 6 2) fun v2 =>
    Option.bind (jrf sh m a0 0 6 2) fun v3 =>
    Option.bind (jra sh m v3.toNat 13 x2) fun v4 =>
    Option.bind (jra sh m a1 13 x2) fun v5 =>
    Option.bind (f_J9_max_7cf53 v4 v5) fun q6 =>
    Option.bind (jwa sh m v2.toNat 13 x2 q6) fun m8 =>
    Option.bind (jrf sh m8 a0 0 6 2) fun v9 =>
    Option.bind (jrf sh m8 a0 0 6 2) fun v10 =>
    Option.bind (jra sh m8 v10.toNat 13 (jw (8 + x2))) fun v11 =>
    Option.bind (jra sh m8 a1 13 (jw (8 + x2))) fun v12 =>
    Option.bind (f_J9_min_7cf53 v11 v12) fun q13 =>
    Option.bind (jwa sh m8 v9.toNat 13 (jw (8 + x2)) q13) fun m15 =>
    k2 a0 a1 (jw (x2 + 1)) m15
  else
  some m
def f_X0_join_l2 (N : Nat) (sh : jm_S) : Nat → Nat → Nat → Int → jm_M → Option jm_M
  | 0 => fun _ _ _ _ => none
  | n + 1 => fun a0 a1 x2 m => f_X0_join_b2 N sh (f_X0_join_l2 N sh n) a0 a1 x2 m
def f_X0_join (N : Nat) (sh : jm_S) (a0 : Nat) (a1 : Nat) (m : jm_M) : Option jm_M :=
  f_X0_join_l2 N sh N a0 a1 0 m
def f_X0_isSame_b2 (N : Nat) (sh : jm_S) (k2 : Nat → Nat → Int → Option Int) (a0 : Nat) (a1 : Nat) (x2 : Int) (m : jm_M) : Option Int :=
  if x2 < 16 then
    Option.bind (jra sh m a0 13 x2) fun v2 =>
    Option.bind (jra sh m a1 13 x2) fun v3 =>
    if v2 = v3 then
      k2 a0 a1 (jw (x2 + 1))
    else
    some 0
  else
  some 1
def f_X0_isSame_l2 (N : Nat) (sh : jm_S) : Nat → Nat → Nat → Int → jm_M → Option Int
  | 0 => fun _ _ _ _ => none
  | n + 1 => fun a0 a1 x2 m => f_X0_isSame_b2 N sh (fun a0 a1 x2 => f_X0_isSame_l2 N sh n a0 a1 x2 m) a0 a1 x2 m
def f_X0_isSame (N : Nat) (sh : jm_S) (a0 : Nat) (a1 : Nat) (m : jm_M) : Option Int :=
  f_X0_isSame_l2 N sh N a0 a1 0 m
def f_X0_passLoop_b68 (N : Nat) (sh : jm_S) (rec : Nat → Int → Int → jm_M → Option jm_M) (k5 : Nat → Int → Int → Int → Int → jm_M → Option jm_M) (a0 : Nat) (x1 : Int) (x2 : Int) (x4 : Int) (s0 : Int) (m : jm_M) : Option jm_M :=
  k5 a0 x1 x2 s0 (jw (x4 + 1)) m
def f_X0_passLoop_b5 (N : Nat) (sh : jm_S) (rec : Nat → Int → Int → jm_M → Option jm_M) (k5 : Nat → Int → Int → Int → Int → jm_M → Option jm_M) (a0 : Nat) (x1 : Int) (x2 : Int) (x3 : Int) (x4 : Int) (m : jm_M) : Option jm_M :=
  if x4 < 64 then
    if x3 = 0 then
      some m
    else
    Option.bind (jrf sh m a0 0 6 2) fun v3 =>
    Option.bind (jrf sh m a0 0 6 4) fun v4 =>
    Option.bind (jra sh m v4.toNat 16 x2) fun v5 =>
    Option.bind (f_X0_copy N sh v3.toNat v5.toNat m) fun q6 =>
    Option.bind (jck sh a0 0 6) fun u8 =>
    Option.bind (rec a0 x1 (jw (x2 + 1)) q6) fun q9 =>
    Option.bind (jrf sh q9 a0 0 6 4) fun v11 =>
    Option.bind (jra sh q9 v11.toNat 16 x2) fun v12 =>
    Option.bind (jck sh a0 0 6) fun u13 =>
    Option.bind (f_X0_join N sh a0 v12.toNat q9) fun q14 =>
    Option.bind (jrf sh q14 a0 0 6 2) fun v16 =>
    Option.bind (jrf sh q14 a0 0 6 4) fun v17 =>
    Option.bind (jra sh q14 v17.toNat 16 x2) fun v18 =>
    Option.bind (f_X0_isSame N sh v16.toNat v18.toNat q14) fun q19 =>
    if q19 = 0 then
      f_X0_passLoop_b68 N sh rec k5 a0 x1 x2 x4 1 q14
    else
    f_X0_passLoop_b68 N sh rec k5 a0 x1 x2 x4 0 q14
  else
  some m
def f_X0_passLoop_l5 (N : Nat) (sh : jm_S) (rec : Nat → Int → Int → jm_M → Option jm_M) : Nat → Nat → Int → Int → Int → Int → jm_M → Option jm_M
  | 0 => fun _ _ _ _ _ _ => none
  | n + 1 => fun a0 x1 x2 x3 x4 m => f_X0_passLoop_b5 N sh rec (f_X0_passLoop_l5 N sh rec n) a0 x1 x2 x3 x4 m
def f_X0_passLoop (N : Nat) (sh : jm_S) (rec : Nat → Int → Int → jm_M → Option jm_M) (a0 : Nat) (x1 : Int) (x2 : Int) (m : jm_M) : Option jm_M :=
  f_X0_passLoop_l5 N sh rec N a0 x1 x2 1 0 m
def f_X10_lineAt (sh : jm_S) (a0 : Nat) (x1 : Int) (m : jm_M) : Option Int :=
  Option.bind (jck sh a0 10 4) fun u1 =>
  Option.bind (f_X10_signAt sh a0 x1 m) fun q2 =>
  some (jand q2 7)
def f_X1_freeMates (sh : jm_S) (a0 : Nat) (x1 : Int) (m : jm_M) : Option Int :=
  Option.bind (jrf sh m a0 1 9 2) fun v1 =>
  Option.bind (jra sh m v1.toNat 13 0) fun v2 =>
  Option.bind (f_X11_setOf x1 v2) fun q3 =>
  Option.bind (f_X11_linesOfSet q3 v2) fun q5 =>
  Option.bind (jrf sh m a0 1 9 2) fun v7 =>
  Option.bind (jra sh m v7.toNat 13 3) fun v8 =>
  some (jand q5 (jxor v8 (-1)))
def f_X0_fetch_b146 (N : Nat) (sh : jm_S) (k56 : Nat → Int → Int → Int → Int → Int → Int → jm_M → Option jm_M) (a0 : Nat) (x1 : Int) (x2 : Int) (x3 : Int) (x4 : Int) (x5 : Int) (x6 : Int) (m : jm_M) : Option jm_M :=
  k56 a0 x1 x2 x3 x4 x5 (jw (x6 + 1)) m
def f_X0_fetch_b144 (N : Nat) (sh : jm_S) (k56 : Nat → Int → Int → Int → Int → Int → Int → jm_M → Option jm_M) (a0 : Nat) (x1 : Int) (x2 : Int) (x3 : Int) (x4 : Int) (x5 : Int) (x6 : Int) (r0 : Nat) (s1 : Int) (s2 : Int) (s3 : Int) (m : jm_M) : Option jm_M :=
  Option.bind (jwa sh m r0 13 s1 (jw (s2 + s3))) fun m1 =>
  f_X0_fetch_b146 N sh k56 a0 x1 x2 x3 x4 x5 x6 m1
def f_X0_fetch_b143 (N : Nat) (sh : jm_S) (k56 : Nat → Int → Int → Int → Int → Int → Int → jm_M → Option jm_M) (a0 : Nat) (x1 : Int) (x2 : Int) (x3 : Int) (x4 : Int) (x5 : Int) (x6 : Int) (r0 : Nat) (s1 : Int) (s2 : Int) (m : jm_M) : Option jm_M :=
  f_X0_fetch_b144 N sh k56 a0 x1 x2 x3 x4 x5 x6 r0 s1 s2 0 m
def f_X0_fetch_b97 (N : Nat) (sh : jm_S) (k56 : Nat → Int → Int → Int → Int → Int → Int → jm_M → Option jm_M) (a0 : Nat) (x1 : Int) (x2 : Int) (x3 : Int) (x4 : Int) (x5 : Int) (x6 : Int) (r0 : Nat) (s1 : Int) (s2 : Int) (s3 : Int) (m : jm_M) : Option jm_M :=
  Option.bind (jwa sh m r0 13 s1 (jw (s2 + s3))) fun m2 =>
  Option.bind (jrf sh m2 a0 0 6 2) fun v3 =>
  Option.bind (jra sh m2 v3.toNat 13 (jw (8 + x6))) fun v4 =>
  Option.bind (jrf sh m2 a0 0 6 2) fun v5 =>
  Option.bind (jra sh m2 v5.toNat 13 (jw (8 + x6))) fun v6 =>
  if x4 < v6 then
    f_X0_fetch_b143 N sh k56 a0 x1 x2 x3 x4 x5 x6 v3.toNat (jw (8 + x6)) v4 m2
  else
  Option.bind (jrf sh m2 a0 0 6 2) fun v8 =>
  Option.bind (jra sh m2 v8.toNat 13 (jw (8 + x6))) fun v9 =>
  if v9 < x2 then
    f_X0_fetch_b144 N sh k56 a0 x1 x2 x3 x4 x5 x6 v3.toNat (jw (8 + x6)) v4 1 m2
  else
  f_X0_fetch_b143 N sh k56 a0 x1 x2 x3 x4 x5 x6 v3.toNat (jw (8 + x6)) v4 m2
def f_X0_fetch_b56 (N : Nat) (sh : jm_S) (k56 : Nat → Int → Int → Int → Int → Int → Int → jm_M → Option jm_M) (a0 : Nat) (x1 : Int) (x2 : Int) (x3 : Int) (x4 : Int) (x5 : Int) (x6 : Int) (m : jm_M) : Option jm_M :=
  if x6 < 8 then
    Option.bind (f_X11_isIn x5 x6) fun q12 =>
    if q12 = 0 then
      f_X0_fetch_b146 N sh k56 a0 x1 x2 x3 x4 x5 x6 m
    else
    Option.bind (jrf sh m a0 0 6 2) fun v15 =>
    Option.bind (jra sh m v15.toNat 13 x6) fun v16 =>
    Option.bind (jrf sh m a0 0 6 2) fun v17 =>
    Option.bind (jra sh m v17.toNat 13 x6) fun v18 =>
    if v18 < x3 then
      f_X0_fetch_b97 N sh k56 a0 x1 x2 x3 x4 x5 x6 v15.toNat x6 v16 1 m
    else
    f_X0_fetch_b97 N sh k56 a0 x1 x2 x3 x4 x5 x6 v15.toNat x6 v16 0 m
  else
  Option.bind (jrf sh m a0 0 6 2) fun v20 =>
  Option.bind (jwa sh m v20.toNat 13 x1 0) fun m21 =>
  Option.bind (jrf sh m21 a0 0 6 2) fun v22 =>
  Option.bind (jwa sh m21 v22.toNat 13 (jw (8 + x1)) 0) fun m23 =>
  some m23
def f_X0_fetch_l56 (N : Nat) (sh : jm_S) : Nat → Nat → Int → Int → Int → Int → Int → Int → jm_M → Option jm_M
  | 0 => fun _ _ _ _ _ _ _ _ => none
  | n + 1 => fun a0 x1 x2 x3 x4 x5 x6 m => f_X0_fetch_b56 N sh (f_X0_fetch_l56 N sh n) a0 x1 x2 x3 x4 x5 x6 m
def f_X0_fetch (N : Nat) (sh : jm_S) (a0 : Nat) (x1 : Int) (m : jm_M) : Option jm_M :=
  Option.bind (jrf sh m a0 0 6 1) fun v24 =>
  Option.bind (jck sh v24.toNat 1 9) fun u25 =>
  Option.bind (f_X1_roomFor sh v24.toNat x1 m) fun q26 =>
  Option.bind (jrf sh m a0 0 6 1) fun v28 =>
  Option.bind (jck sh v28.toNat 1 9) fun u29 =>
  Option.bind (f_X1_holds sh v28.toNat x1 m) fun q30 =>
  if q30 = 0 then
    if q26 = 0 then
      some m
    else
    Option.bind (jrf sh m a0 0 6 2) fun v34 =>
    Option.bind (jra sh m v34.toNat 13 x1) fun v35 =>
    Option.bind (jrf sh m a0 0 6 2) fun v36 =>
    Option.bind (jra sh m v36.toNat 13 (jw (8 + x1))) fun v37 =>
    Option.bind (jrf sh m a0 0 6 1) fun v38 =>
    Option.bind (jck sh v38.toNat 1 9) fun u39 =>
    Option.bind (f_X1_freeMates sh v38.toNat x1 m) fun q40 =>
    f_X0_fetch_l56 N sh N a0 x1 q26 v35 v37 q40 0 m
  else
  some m
def f_X0_pass_b189 (N : Nat) (sh : jm_S) (rec : Nat → Int → Int → jm_M → Option jm_M) (a0 : Nat) (x2 : Int) (x3 : Int) (m : jm_M) : Option jm_M :=
  Option.bind (jck sh a0 0 6) fun u1 =>
  Option.bind (f_X0_passLoop N sh rec a0 x3 x2 m) fun q2 =>
  some q2
def f_X0_pass_e (N : Nat) (sh : jm_S) (rec : Nat → Int → Int → jm_M → Option jm_M) (a0 : Nat) (x1 : Int) (x2 : Int) (m : jm_M) : Option jm_M :=
  if 4 < x2 then
    some m
  else
  if x1 < 0 then
    some m
  else
  if x1 < 30 then
    Option.bind (jrf sh m a0 0 6 0) fun v7 =>
    Option.bind (jck sh v7.toNat 10 4) fun u8 =>
    Option.bind (f_X10_firstPart v7.toNat x1) fun q9 =>
    Option.bind (jrf sh m a0 0 6 0) fun v11 =>
    Option.bind (jck sh v11.toNat 10 4) fun u12 =>
    Option.bind (f_X10_secondPart sh v11.toNat x1 m) fun q13 =>
    Option.bind (jrf sh m a0 0 6 0) fun v15 =>
    Option.bind (jck sh v15.toNat 10 4) fun u16 =>
    Option.bind (f_X10_signAt sh v15.toNat x1 m) fun q17 =>
    if (45 : Int) = q17 then
      some m
    else
    if (59 : Int) = q17 then
      Option.bind (jck sh a0 0 6) fun u21 =>
      Option.bind (rec a0 q9 (jw (x2 + 1)) m) fun q22 =>
      Option.bind (jck sh a0 0 6) fun u24 =>
      Option.bind (rec a0 q13 (jw (x2 + 1)) q22) fun q25 =>
      some q25
    else
    if (63 : Int) = q17 then
      Option.bind (jrf sh m a0 0 6 2) fun v28 =>
      Option.bind (jrf sh m a0 0 6 4) fun v29 =>
      Option.bind (jra sh m v29.toNat 16 x2) fun v30 =>
      Option.bind (f_X0_copy N sh v28.toNat v30.toNat m) fun q31 =>
      Option.bind (jck sh a0 0 6) fun u33 =>
      Option.bind (rec a0 q9 (jw (x2 + 1)) q31) fun q34 =>
      Option.bind (jrf sh q34 a0 0 6 2) fun v36 =>
      Option.bind (jrf sh q34 a0 0 6 5) fun v37 =>
      Option.bind (jra sh q34 v37.toNat 16 x2) fun v38 =>
      Option.bind (f_X0_copy N sh v36.toNat v38.toNat q34) fun q39 =>
      Option.bind (jrf sh q39 a0 0 6 4) fun v41 =>
      Option.bind (jra sh q39 v41.toNat 16 x2) fun v42 =>
      Option.bind (jrf sh q39 a0 0 6 2) fun v43 =>
      Option.bind (f_X0_copy N sh v42.toNat v43.toNat q39) fun q44 =>
      Option.bind (jck sh a0 0 6) fun u46 =>
      Option.bind (rec a0 q13 (jw (x2 + 1)) q44) fun q47 =>
      Option.bind (jrf sh q47 a0 0 6 5) fun v49 =>
      Option.bind (jra sh q47 v49.toNat 16 x2) fun v50 =>
      Option.bind (jck sh a0 0 6) fun u51 =>
      Option.bind (f_X0_join N sh a0 v50.toNat q47) fun q52 =>
      some q52
    else
    if (98 : Int) = q17 then
      f_X0_pass_b189 N sh rec a0 x2 q9 m
    else
    if (99 : Int) = q17 then
      f_X0_pass_b189 N sh rec a0 x2 q9 m
    else
    if (100 : Int) = q17 then
      f_X0_pass_b189 N sh rec a0 x2 q9 m
    else
    Option.bind (jrf sh m a0 0 6 2) fun v57 =>
    Option.bind (jrf sh m a0 0 6 3) fun v58 =>
    Option.bind (jra sh m v58.toNat 16 x1) fun v59 =>
    Option.bind (f_X0_copy N sh v57.toNat v59.toNat m) fun q60 =>
    Option.bind (jrf sh q60 a0 0 6 0) fun v62 =>
    Option.bind (jck sh v62.toNat 10 4) fun u63 =>
    Option.bind (f_X10_lineAt sh v62.toNat x1 q60) fun q64 =>
    Option.bind (jck sh a0 0 6) fun u66 =>
    Option.bind (f_X0_fetch N sh a0 q64 q60) fun q67 =>
    some q67
  else
  some m
def f_X0_pass (N : Nat) (sh : jm_S) : Nat → Nat → Int → Int → jm_M → Option jm_M
  | 0 => fun _ _ _ _ => none
  | d + 1 => fun a0 x1 x2 m => f_X0_pass_e N sh (f_X0_pass N sh d) a0 x1 x2 m
def f_X0_trace_b36 (N : Nat) (sh : jm_S) (k7 : Nat → Int → jm_M → Option jm_M) (a0 : Nat) (x2 : Int) (s0 : Int) (m : jm_M) : Option jm_M :=
  Option.bind (jrf sh m a0 0 6 2) fun v1 =>
  Option.bind (jwa sh m v1.toNat 13 x2 s0) fun m2 =>
  Option.bind (jrf sh m2 a0 0 6 2) fun v3 =>
  Option.bind (jwa sh m2 v3.toNat 13 (jw (8 + x2)) s0) fun m4 =>
  k7 a0 (jw (x2 + 1)) m4
def f_X0_trace_b7 (N : Nat) (sh : jm_S) (k7 : Nat → Int → jm_M → Option jm_M) (a0 : Nat) (x2 : Int) (m : jm_M) : Option jm_M :=
  if x2 < 8 then
    Option.bind (jrf sh m a0 0 6 1) fun v6 =>
    Option.bind (jck sh v6.toNat 1 9) fun u7 =>
    Option.bind (f_X1_holds sh v6.toNat x2 m) fun q8 =>
    if q8 = 0 then
      Option.bind (jrf sh m a0 0 6 1) fun v11 =>
      Option.bind (jck sh v11.toNat 1 9) fun u12 =>
      Option.bind (f_X1_roomFor sh v11.toNat x2 m) fun q13 =>
      f_X0_trace_b36 N sh k7 a0 x2 q13 m
    else
    f_X0_trace_b36 N sh k7 a0 x2 0 m
  else
  Option.bind (jck sh a0 0 6) fun u15 =>
  Option.bind (f_X0_pass N sh 8 a0 0 0 m) fun q16 =>
  some q16
def f_X0_trace_l7 (N : Nat) (sh : jm_S) : Nat → Nat → Int → jm_M → Option jm_M
  | 0 => fun _ _ _ => none
  | n + 1 => fun a0 x2 m => f_X0_trace_b7 N sh (f_X0_trace_l7 N sh n) a0 x2 m
def f_X0_trace (N : Nat) (sh : jm_S) (a0 : Nat) (a1 : Nat) (m : jm_M) : Option jm_M :=
  Option.bind (jwr sh m a0 0 6 0 a1) fun m18 =>
  f_X0_trace_l7 N sh N a0 0 m18
def f_X0_ageAt_b25 (sh : jm_S) (a0 : Nat) (x1 : Int) (x2 : Int) (s0 : Int) (m : jm_M) : Option Int :=
  if s0 = 0 then
    some 0
  else
  Option.bind (jrf sh m a0 0 6 3) fun v2 =>
  Option.bind (jra sh m v2.toNat 16 x1) fun v3 =>
  Option.bind (jra sh m v3.toNat 13 x2) fun v4 =>
  some v4
def f_X0_ageAt_b24 (sh : jm_S) (a0 : Nat) (x1 : Int) (x2 : Int) (m : jm_M) : Option Int :=
  f_X0_ageAt_b25 sh a0 x1 x2 0 m
def f_X0_ageAt (sh : jm_S) (a0 : Nat) (x1 : Int) (x2 : Int) (m : jm_M) : Option Int :=
  if x1 < 0 then
    f_X0_ageAt_b24 sh a0 x1 x2 m
  else
  if x1 < 30 then
    if x2 < 0 then
      f_X0_ageAt_b24 sh a0 x1 x2 m
    else
    if x2 < 16 then
      f_X0_ageAt_b25 sh a0 x1 x2 1 m
    else
    f_X0_ageAt_b24 sh a0 x1 x2 m
  else
  f_X0_ageAt_b24 sh a0 x1 x2 m
def f_X0_mustAt (sh : jm_S) (a0 : Nat) (x1 : Int) (x2 : Int) (m : jm_M) : Option Int :=
  Option.bind (jck sh a0 0 6) fun u1 =>
  Option.bind (f_X0_ageAt sh a0 x1 x2 m) fun q2 =>
  some q2
def f_X0_mayAt (sh : jm_S) (a0 : Nat) (x1 : Int) (x2 : Int) (m : jm_M) : Option Int :=
  Option.bind (jck sh a0 0 6) fun u1 =>
  Option.bind (f_X0_ageAt sh a0 x1 (jw (8 + x2)) m) fun q2 =>
  some q2
def f_X1_maySet (x0 : Int) (x1 : Int) : Option Int :=
  if (0 : Int) = x0 then
    if x1 = 1 then
      some 1
    else
    if x1 = 2 then
      some 1
    else
    if x1 = 4 then
      some 1
    else
    some 0
  else
  if (1 : Int) = x0 then
    if x1 = 1 then
      some 1
    else
    if x1 = 2 then
      some 1
    else
    some 0
  else
  if (2 : Int) = x0 then
    if x1 < 2 then
      some 0
    else
    if 20 < x1 then
      some 0
    else
    some 1
  else
  if (3 : Int) = x0 then
    if x1 < 0 then
      some 0
    else
    if 255 < x1 then
      some 0
    else
    some 1
  else
  some 0
def f_X1_setting (sh : jm_S) (a0 : Nat) (x1 : Int) (m : jm_M) : Option Int :=
  if x1 < 0 then
    some 0
  else
  Option.bind (jrf sh m a0 1 9 2) fun v2 =>
  Option.bind (jlen sh v2.toNat) fun v3 =>
  if x1 < v3 then
    Option.bind (jrf sh m a0 1 9 2) fun v5 =>
    Option.bind (jra sh m v5.toNat 13 x1) fun v6 =>
    some v6
  else
  some 0
def f_X1_set (sh : jm_S) (a0 : Nat) (x1 : Int) (x2 : Int) (m : jm_M) : Option jm_M :=
  Option.bind (f_X1_maySet x1 x2) fun q1 =>
  if q1 = 0 then
    some m
  else
  if x1 < 0 then
    some m
  else
  Option.bind (jrf sh m a0 1 9 2) fun v5 =>
  Option.bind (jlen sh v5.toNat) fun v6 =>
  if x1 < v6 then
    Option.bind (jrf sh m a0 1 9 2) fun v8 =>
    Option.bind (jwa sh m v8.toNat 13 x1 x2) fun m9 =>
    some m9
  else
  some m
def f_X1_textOf (sh : jm_S) (a0 : Nat) (x1 : Int) (m : jm_M) : Option Nat :=
  if (0 : Int) = x1 then
    Option.bind (jrf sh m a0 1 9 5) fun v2 =>
    some v2.toNat
  else
  if (1 : Int) = x1 then
    Option.bind (jrf sh m a0 1 9 6) fun v4 =>
    some v4.toNat
  else
  if (2 : Int) = x1 then
    Option.bind (jrf sh m a0 1 9 7) fun v6 =>
    some v6.toNat
  else
  Option.bind (jrf sh m a0 1 9 8) fun v7 =>
  some v7.toNat
def f_X1_periodOf (sh : jm_S) (a0 : Nat) (x1 : Int) (m : jm_M) : Option Int :=
  if x1 < 0 then
    some 0
  else
  Option.bind (jrf sh m a0 1 9 3) fun v2 =>
  Option.bind (jlen sh v2.toNat) fun v3 =>
  if x1 < v3 then
    Option.bind (jrf sh m a0 1 9 3) fun v5 =>
    Option.bind (jra sh m v5.toNat 13 x1) fun v6 =>
    some v6
  else
  some 0
def f_X1_setPeriod (sh : jm_S) (a0 : Nat) (x1 : Int) (x2 : Int) (m : jm_M) : Option jm_M :=
  if x1 < 0 then
    some m
  else
  Option.bind (jrf sh m a0 1 9 3) fun v2 =>
  Option.bind (jlen sh v2.toNat) fun v3 =>
  if x1 < v3 then
    Option.bind (jrf sh m a0 1 9 3) fun v5 =>
    Option.bind (jwa sh m v5.toNat 13 x1 x2) fun m6 =>
    some m6
  else
  some m
def f_X1_isTask (sh : jm_S) (a0 : Nat) (x1 : Int) (m : jm_M) : Option Int :=
  Option.bind (jck sh a0 1 9) fun u1 =>
  Option.bind (f_X1_periodOf sh a0 x1 m) fun q2 =>
  if 0 < q2 then
    some 1
  else
  some 0
def f_X1_addDigit (sh : jm_S) (a0 : Nat) (x1 : Int) (m : jm_M) : Option (Int × jm_M) :=
  Option.bind (jrf sh m a0 1 9 0) fun v1 =>
  Option.bind (jrf sh m a0 1 9 4) fun v2 =>
  Option.bind (jlen sh v2.toNat) fun v3 =>
  if v1 < v3 then
    Option.bind (jrf sh m a0 1 9 4) fun v5 =>
    Option.bind (jrf sh m a0 1 9 0) fun v6 =>
    Option.bind (jwa sh m v5.toNat 13 v6 x1) fun m7 =>
    Option.bind (jrf sh m7 a0 1 9 0) fun v8 =>
    Option.bind (jwf sh m7 a0 1 9 0 (jw (v8 + 1))) fun m9 =>
    some (1, m9)
  else
  some (0, m)
def f_X1_digitAt (sh : jm_S) (a0 : Nat) (x1 : Int) (m : jm_M) : Option Int :=
  if x1 < 0 then
    some 0
  else
  Option.bind (jrf sh m a0 1 9 0) fun v2 =>
  if x1 < v2 then
    Option.bind (jrf sh m a0 1 9 4) fun v4 =>
    Option.bind (jlen sh v4.toNat) fun v5 =>
    if x1 < v5 then
      Option.bind (jrf sh m a0 1 9 4) fun v7 =>
      Option.bind (jra sh m v7.toNat 13 x1) fun v8 =>
      some v8
    else
    some 0
  else
  some 0
def f_X11_isLineSign (x0 : Int) : Option Int :=
  if x0 < 48 then
    some 0
  else
  if 55 < x0 then
    some 0
  else
  some 1
def f_X11_partsOf (x0 : Int) : Option Int :=
  if (45 : Int) = x0 then
    some 0
  else
  if (59 : Int) = x0 then
    some 2
  else
  if (63 : Int) = x0 then
    some 2
  else
  if (98 : Int) = x0 then
    some 1
  else
  if (99 : Int) = x0 then
    some 1
  else
  if (100 : Int) = x0 then
    some 1
  else
  Option.bind (f_X11_isLineSign x0) fun q7 =>
  if q7 = 0 then
    some (-1)
  else
  some 0
def f_X10_linesWithin (sh : jm_S) (a0 : Nat) (x1 : Int) (m : jm_M) : Option Int :=
  if x1 < 0 then
    some 0
  else
  if x1 < 30 then
    Option.bind (jrf sh m a0 10 4 3) fun v3 =>
    Option.bind (jra sh m v3.toNat 13 x1) fun v4 =>
    some v4
  else
  some 0
def f_X10_take_b91 (N : Nat) (sh : jm_S) (k13 : Nat → Nat → Int → jm_M → Option jm_M) (k91 : Nat → Nat → Int → Int → Int → jm_M → Option jm_M) (a0 : Nat) (a1 : Nat) (x3 : Int) (x4 : Int) (x5 : Int) (m : jm_M) : Option jm_M :=
  if 0 < x5 then
    Option.bind (jck sh a0 10 4) fun u2 =>
    Option.bind (f_X10_sizeAt sh a0 x4 m) fun q3 =>
    Option.bind (jrf sh m a0 10 4 2) fun v5 =>
    Option.bind (jra sh m v5.toNat 13 x3) fun v6 =>
    Option.bind (jwa sh m v5.toNat 13 x3 (jw (v6 + q3))) fun m7 =>
    Option.bind (jrf sh m7 a0 10 4 3) fun v8 =>
    Option.bind (jra sh m7 v8.toNat 13 x3) fun v9 =>
    Option.bind (jck sh a0 10 4) fun u10 =>
    Option.bind (f_X10_linesWithin sh a0 x4 m7) fun q11 =>
    Option.bind (jwa sh m7 v8.toNat 13 x3 (jor v9 q11)) fun m13 =>
    k91 a0 a1 x3 (jw (x4 + q3)) (jw (x5 + (-1))) m13
  else
  k13 a0 a1 (jw (x3 + (-1))) m
def f_X10_take_l91 (N : Nat) (sh : jm_S) (k13 : Nat → Nat → Int → jm_M → Option jm_M) : Nat → Nat → Nat → Int → Int → Int → jm_M → Option jm_M
  | 0 => fun _ _ _ _ _ _ => none
  | n + 1 => fun a0 a1 x3 x4 x5 m => f_X10_take_b91 N sh k13 (f_X10_take_l91 N sh k13 n) a0 a1 x3 x4 x5 m
def f_X10_take_b74 (N : Nat) (sh : jm_S) (k13 : Nat → Nat → Int → jm_M → Option jm_M) (a0 : Nat) (a1 : Nat) (x3 : Int) (r0 : Nat) (s1 : Int) (s2 : Int) (m : jm_M) : Option jm_M :=
  Option.bind (jwa sh m r0 13 s1 s2) fun m14 =>
  Option.bind (jrf sh m14 a0 10 4 1) fun v15 =>
  Option.bind (jra sh m14 v15.toNat 13 x3) fun v16 =>
  Option.bind (f_X11_partsOf v16) fun q17 =>
  f_X10_take_l91 N sh k13 N a0 a1 x3 (jw (x3 + 1)) q17 m14
def f_X10_take_b38 (N : Nat) (sh : jm_S) (k13 : Nat → Nat → Int → jm_M → Option jm_M) (a0 : Nat) (a1 : Nat) (x3 : Int) (r0 : Nat) (s1 : Int) (s2 : Int) (m : jm_M) : Option jm_M :=
  Option.bind (jwa sh m r0 13 s1 s2) fun m19 =>
  Option.bind (jrf sh m19 a0 10 4 2) fun v20 =>
  Option.bind (jwa sh m19 v20.toNat 13 x3 1) fun m21 =>
  Option.bind (jrf sh m21 a0 10 4 3) fun v22 =>
  Option.bind (jrf sh m21 a0 10 4 1) fun v23 =>
  Option.bind (jra sh m21 v23.toNat 13 x3) fun v24 =>
  Option.bind (f_X11_isLineSign v24) fun q25 =>
  if q25 = 0 then
    f_X10_take_b74 N sh k13 a0 a1 x3 v22.toNat x3 0 m21
  else
  Option.bind (jck sh a0 10 4) fun u28 =>
  Option.bind (f_X10_lineAt sh a0 x3 m21) fun q29 =>
  f_X10_take_b74 N sh k13 a0 a1 x3 v22.toNat x3 (jshl 1 q29) m21
def f_X10_take_b13 (N : Nat) (sh : jm_S) (k13 : Nat → Nat → Int → jm_M → Option jm_M) (a0 : Nat) (a1 : Nat) (x3 : Int) (m : jm_M) : Option jm_M :=
  if x3 < 0 then
    some m
  else
  Option.bind (jrf sh m a0 10 4 1) fun v32 =>
  Option.bind (jrf sh m a0 10 4 0) fun v33 =>
  if x3 < v33 then
    Option.bind (jra sh m a1 13 x3) fun v35 =>
    f_X10_take_b38 N sh k13 a0 a1 x3 v32.toNat x3 v35 m
  else
  f_X10_take_b38 N sh k13 a0 a1 x3 v32.toNat x3 45 m
def f_X10_take_l13 (N : Nat) (sh : jm_S) : Nat → Nat → Nat → Int → jm_M → Option jm_M
  | 0 => fun _ _ _ _ => none
  | n + 1 => fun a0 a1 x3 m => f_X10_take_b13 N sh (f_X10_take_l13 N sh n) a0 a1 x3 m
def f_X10_take (N : Nat) (sh : jm_S) (a0 : Nat) (a1 : Nat) (x2 : Int) (m : jm_M) : Option jm_M :=
  Option.bind (jlen sh a1) fun v36 =>
  Option.bind (f_J9_min_7cf53 x2 v36) fun q37 =>
  Option.bind (jwf sh m a0 10 4 0 q37) fun m39 =>
  f_X10_take_l13 N sh N a0 a1 29 m39
def f_X1_copyFrom_b83 (N : Nat) (sh : jm_S) (k83 : Nat → Nat → Int → jm_M → Option jm_M) (a0 : Nat) (a1 : Nat) (x2 : Int) (m : jm_M) : Option jm_M :=
  Option.bind (jrf sh m a0 1 9 4) fun v1 =>
  Option.bind (jlen sh v1.toNat) fun v2 =>
  if x2 < v2 then
    Option.bind (jrf sh m a0 1 9 4) fun v4 =>
    Option.bind (jck sh a1 1 9) fun u5 =>
    Option.bind (f_X1_digitAt sh a1 x2 m) fun q6 =>
    Option.bind (jwa sh m v4.toNat 13 x2 q6) fun m8 =>
    k83 a0 a1 (jw (x2 + 1)) m8
  else
  some m
def f_X1_copyFrom_l83 (N : Nat) (sh : jm_S) : Nat → Nat → Nat → Int → jm_M → Option jm_M
  | 0 => fun _ _ _ _ => none
  | n + 1 => fun a0 a1 x2 m => f_X1_copyFrom_b83 N sh (f_X1_copyFrom_l83 N sh n) a0 a1 x2 m
def f_X1_copyFrom_b30 (N : Nat) (sh : jm_S) (k30 : Nat → Nat → Int → jm_M → Option jm_M) (a0 : Nat) (a1 : Nat) (x2 : Int) (m : jm_M) : Option jm_M :=
  if x2 < 4 then
    Option.bind (jck sh a1 1 9) fun u10 =>
    Option.bind (f_X1_textOf sh a1 x2 m) fun q11 =>
    Option.bind (jck sh a0 1 9) fun u13 =>
    Option.bind (f_X1_textOf sh a0 x2 m) fun q14 =>
    Option.bind (jrf sh m q11 10 4 1) fun v16 =>
    Option.bind (jrf sh m q11 10 4 0) fun v17 =>
    Option.bind (jck sh q14 10 4) fun u18 =>
    Option.bind (f_X10_take N sh q14 v16.toNat v17 m) fun q19 =>
    Option.bind (jck sh a1 1 9) fun u21 =>
    Option.bind (f_X1_periodOf sh a1 x2 q19) fun q22 =>
    Option.bind (jck sh a0 1 9) fun u24 =>
    Option.bind (f_X1_setPeriod sh a0 x2 q22 q19) fun q25 =>
    k30 a0 a1 (jw (x2 + 1)) q25
  else
  Option.bind (jrf sh m a1 1 9 0) fun v27 =>
  Option.bind (jwf sh m a0 1 9 0 v27) fun m28 =>
  f_X1_copyFrom_l83 N sh N a0 a1 0 m28
def f_X1_copyFrom_l30 (N : Nat) (sh : jm_S) : Nat → Nat → Nat → Int → jm_M → Option jm_M
  | 0 => fun _ _ _ _ => none
  | n + 1 => fun a0 a1 x2 m => f_X1_copyFrom_b30 N sh (f_X1_copyFrom_l30 N sh n) a0 a1 x2 m
def f_X1_copyFrom_b2 (N : Nat) (sh : jm_S) (k2 : Nat → Nat → Int → jm_M → Option jm_M) (a0 : Nat) (a1 : Nat) (x2 : Int) (m : jm_M) : Option jm_M :=
  Option.bind (jrf sh m a0 1 9 2) fun v29 =>
  Option.bind (jlen sh v29.toNat) fun v30 =>
  if x2 < v30 then
    Option.bind (jrf sh m a0 1 9 2) fun v32 =>
    Option.bind (jck sh a1 1 9) fun u33 =>
    Option.bind (f_X1_setting sh a1 x2 m) fun q34 =>
    Option.bind (jwa sh m v32.toNat 13 x2 q34) fun m36 =>
    k2 a0 a1 (jw (x2 + 1)) m36
  else
  f_X1_copyFrom_l30 N sh N a0 a1 0 m
def f_X1_copyFrom_l2 (N : Nat) (sh : jm_S) : Nat → Nat → Nat → Int → jm_M → Option jm_M
  | 0 => fun _ _ _ _ => none
  | n + 1 => fun a0 a1 x2 m => f_X1_copyFrom_b2 N sh (f_X1_copyFrom_l2 N sh n) a0 a1 x2 m
def f_X1_copyFrom (N : Nat) (sh : jm_S) (a0 : Nat) (a1 : Nat) (m : jm_M) : Option jm_M :=
  f_X1_copyFrom_l2 N sh N a0 a1 0 m
def f_X10_isFetchAt (sh : jm_S) (a0 : Nat) (x1 : Int) (m : jm_M) : Option Int :=
  Option.bind (jck sh a0 10 4) fun u1 =>
  Option.bind (f_X10_signAt sh a0 x1 m) fun q2 =>
  Option.bind (f_X11_isLineSign q2) fun q4 =>
  Option.bind (jzb q4) fun z6 =>
  some z6
def f_X10_timesAt (sh : jm_S) (a0 : Nat) (x1 : Int) (m : jm_M) : Option Int :=
  Option.bind (jck sh a0 10 4) fun u1 =>
  Option.bind (f_X10_signAt sh a0 x1 m) fun q2 =>
  if q2 < 98 then
    some 0
  else
  if 100 < q2 then
    some 0
  else
  some (jw ((jw (q2 - 98)) + 2))
def f_X10_isLoopAround (sh : jm_S) (a0 : Nat) (x1 : Int) (x2 : Int) (m : jm_M) : Option Int :=
  Option.bind (jck sh a0 10 4) fun u1 =>
  Option.bind (f_X10_timesAt sh a0 x1 m) fun q2 =>
  if 0 < q2 then
    if x1 < x2 then
      Option.bind (jck sh a0 10 4) fun u6 =>
      Option.bind (f_X10_sizeAt sh a0 x1 m) fun q7 =>
      if x2 < (jw (x1 + q7)) then
        some 1
      else
      some 0
    else
    some 0
  else
  some 0
def f_X2_loopThatKeeps_b75 (N : Nat) (sh : jm_S) (k35 : Nat → Int → Int → Int → Int → Option Int) (a0 : Nat) (x1 : Int) (x2 : Int) (x3 : Int) (x4 : Int) (m : jm_M) : Option Int :=
  k35 a0 x1 x2 x3 (jw (x4 + 1))
def f_X2_loopThatKeeps_b35 (N : Nat) (sh : jm_S) (k35 : Nat → Int → Int → Int → Int → Option Int) (a0 : Nat) (x1 : Int) (x2 : Int) (x3 : Int) (x4 : Int) (m : jm_M) : Option Int :=
  if x4 < x1 then
    Option.bind (jrf sh m a0 2 5 0) fun v2 =>
    Option.bind (jck sh v2.toNat 10 4) fun u3 =>
    Option.bind (f_X10_isLoopAround sh v2.toNat x4 x1 m) fun q4 =>
    if q4 = 0 then
      f_X2_loopThatKeeps_b75 N sh k35 a0 x1 x2 x3 x4 m
    else
    Option.bind (jrf sh m a0 2 5 0) fun v7 =>
    Option.bind (jck sh v7.toNat 10 4) fun u8 =>
    Option.bind (f_X10_linesWithin sh v7.toNat x4 m) fun q9 =>
    Option.bind (f_J6_bitCount_0f7a4 (jand q9 x2)) fun q11 =>
    if x3 < q11 then
      f_X2_loopThatKeeps_b75 N sh k35 a0 x1 x2 x3 x4 m
    else
    some x4
  else
  some (-1)
def f_X2_loopThatKeeps_l35 (N : Nat) (sh : jm_S) : Nat → Nat → Int → Int → Int → Int → jm_M → Option Int
  | 0 => fun _ _ _ _ _ _ => none
  | n + 1 => fun a0 x1 x2 x3 x4 m => f_X2_loopThatKeeps_b35 N sh (fun a0 x1 x2 x3 x4 => f_X2_loopThatKeeps_l35 N sh n a0 x1 x2 x3 x4 m) a0 x1 x2 x3 x4 m
def f_X2_loopThatKeeps (N : Nat) (sh : jm_S) (a0 : Nat) (x1 : Int) (m : jm_M) : Option Int :=
  Option.bind (jrf sh m a0 2 5 1) fun v14 =>
  Option.bind (jrf sh m a0 2 5 0) fun v15 =>
  Option.bind (jck sh v15.toNat 10 4) fun u16 =>
  Option.bind (f_X10_lineAt sh v15.toNat x1 m) fun q17 =>
  Option.bind (jck sh v14.toNat 1 9) fun u19 =>
  Option.bind (f_X1_freeMates sh v14.toNat q17 m) fun q20 =>
  Option.bind (jrf sh m a0 2 5 1) fun v22 =>
  Option.bind (jrf sh m a0 2 5 0) fun v23 =>
  Option.bind (jck sh v23.toNat 10 4) fun u24 =>
  Option.bind (f_X10_lineAt sh v23.toNat x1 m) fun q25 =>
  Option.bind (jck sh v22.toNat 1 9) fun u27 =>
  Option.bind (f_X1_roomFor sh v22.toNat q25 m) fun q28 =>
  f_X2_loopThatKeeps_l35 N sh N a0 x1 q20 q28 0 m
def f_X2_sortOf (N : Nat) (sh : jm_S) (a0 : Nat) (x1 : Int) (m : jm_M) : Option Int :=
  Option.bind (jrf sh m a0 2 5 0) fun v1 =>
  Option.bind (jck sh v1.toNat 10 4) fun u2 =>
  Option.bind (f_X10_lineAt sh v1.toNat x1 m) fun q3 =>
  Option.bind (jrf sh m a0 2 5 1) fun v5 =>
  Option.bind (jck sh v5.toNat 1 9) fun u6 =>
  Option.bind (f_X1_roomFor sh v5.toNat q3 m) fun q7 =>
  Option.bind (jrf sh m a0 2 5 1) fun v9 =>
  Option.bind (jck sh v9.toNat 1 9) fun u10 =>
  Option.bind (f_X1_holds sh v9.toNat q3 m) fun q11 =>
  if q11 = 0 then
    Option.bind (jrf sh m a0 2 5 2) fun v14 =>
    Option.bind (jck sh v14.toNat 0 6) fun u15 =>
    Option.bind (f_X0_mustAt sh v14.toNat x1 q3 m) fun q16 =>
    if q16 < q7 then
      some 0
    else
    Option.bind (jrf sh m a0 2 5 2) fun v19 =>
    Option.bind (jck sh v19.toNat 0 6) fun u20 =>
    Option.bind (f_X0_mayAt sh v19.toNat x1 q3 m) fun q21 =>
    if q21 = q7 then
      some 1
    else
    Option.bind (jck sh a0 2 5) fun u24 =>
    Option.bind (f_X2_loopThatKeeps N sh a0 x1 m) fun q25 =>
    if q25 < 0 then
      some 3
    else
    some 2
  else
  some 0
def f_X2_study_b54 (N : Nat) (sh : jm_S) (k15 : Nat → Nat → Int → jm_M → Option jm_M) (a0 : Nat) (a1 : Nat) (x2 : Int) (r0 : Nat) (s1 : Int) (s2 : Int) (m : jm_M) : Option jm_M :=
  Option.bind (jwa sh m r0 13 s1 s2) fun m1 =>
  k15 a0 a1 (jw (x2 + 1)) m1
def f_X2_study_b15 (N : Nat) (sh : jm_S) (k15 : Nat → Nat → Int → jm_M → Option jm_M) (a0 : Nat) (a1 : Nat) (x2 : Int) (m : jm_M) : Option jm_M :=
  Option.bind (jrf sh m a1 10 4 0) fun v2 =>
  if x2 < v2 then
    Option.bind (jrf sh m a0 2 5 3) fun v4 =>
    Option.bind (jlen sh v4.toNat) fun v5 =>
    if x2 < v5 then
      Option.bind (jrf sh m a0 2 5 3) fun v7 =>
      Option.bind (jck sh a1 10 4) fun u8 =>
      Option.bind (f_X10_isFetchAt sh a1 x2 m) fun q9 =>
      if q9 = 0 then
        f_X2_study_b54 N sh k15 a0 a1 x2 v7.toNat x2 0 m
      else
      Option.bind (jck sh a0 2 5) fun u12 =>
      Option.bind (f_X2_sortOf N sh a0 x2 m) fun q13 =>
      f_X2_study_b54 N sh k15 a0 a1 x2 v7.toNat x2 q13 m
    else
    some m
  else
  some m
def f_X2_study_l15 (N : Nat) (sh : jm_S) : Nat → Nat → Nat → Int → jm_M → Option jm_M
  | 0 => fun _ _ _ _ => none
  | n + 1 => fun a0 a1 x2 m => f_X2_study_b15 N sh (f_X2_study_l15 N sh n) a0 a1 x2 m
def f_X2_study (N : Nat) (sh : jm_S) (a0 : Nat) (a1 : Nat) (m : jm_M) : Option jm_M :=
  Option.bind (jwr sh m a0 2 5 0 a1) fun m15 =>
  Option.bind (jrf sh m15 a0 2 5 2) fun v16 =>
  Option.bind (jck sh v16.toNat 0 6) fun u17 =>
  Option.bind (f_X0_trace N sh v16.toNat a1 m15) fun q18 =>
  f_X2_study_l15 N sh N a0 a1 0 q18
def f_X2_sortAt (sh : jm_S) (a0 : Nat) (x1 : Int) (m : jm_M) : Option Int :=
  if x1 < 0 then
    some 0
  else
  Option.bind (jrf sh m a0 2 5 3) fun v2 =>
  Option.bind (jlen sh v2.toNat) fun v3 =>
  if x1 < v3 then
    Option.bind (jrf sh m a0 2 5 3) fun v5 =>
    Option.bind (jra sh m v5.toNat 13 x1) fun v6 =>
    some v6
  else
  some 0
def f_X10_has (sh : jm_S) (a0 : Nat) (x1 : Int) (m : jm_M) : Option Int :=
  if x1 < 0 then
    some 0
  else
  Option.bind (jrf sh m a0 10 4 0) fun v2 =>
  if x1 < v2 then
    some 1
  else
  some 0
def f_X2_costAt (sh : jm_S) (a0 : Nat) (x1 : Int) (m : jm_M) : Option Int :=
  Option.bind (jrf sh m a0 2 5 0) fun v1 =>
  Option.bind (jck sh v1.toNat 10 4) fun u2 =>
  Option.bind (f_X10_has sh v1.toNat x1 m) fun q3 =>
  if q3 = 0 then
    some 0
  else
  Option.bind (jrf sh m a0 2 5 4) fun v6 =>
  Option.bind (jlen sh v6.toNat) fun v7 =>
  if x1 < v7 then
    Option.bind (jrf sh m a0 2 5 4) fun v9 =>
    Option.bind (jra sh m v9.toNat 13 x1) fun v10 =>
    some v10
  else
  some 0
def f_X2_costOfFetch (sh : jm_S) (a0 : Nat) (x1 : Int) (x2 : Int) (m : jm_M) : Option Int :=
  if x1 = 0 then
    some 1
  else
  if x1 = 2 then
    some x2
  else
  Option.bind (jrf sh m a0 2 5 1) fun v3 =>
  Option.bind (jck sh v3.toNat 1 9) fun u4 =>
  Option.bind (f_X1_setting sh v3.toNat 2 m) fun q5 =>
  some q5
def f_X2_costOfNode_b104 (sh : jm_S) (a0 : Nat) (x1 : Int) (x3 : Int) (m : jm_M) : Option Int :=
  Option.bind (jrf sh m a0 2 5 0) fun v1 =>
  Option.bind (jck sh v1.toNat 10 4) fun u2 =>
  Option.bind (f_X10_timesAt sh v1.toNat x1 m) fun q3 =>
  some (jw (q3 * x3))
def f_X2_costOfNode (sh : jm_S) (a0 : Nat) (x1 : Int) (x2 : Int) (m : jm_M) : Option Int :=
  Option.bind (jrf sh m a0 2 5 0) fun v5 =>
  Option.bind (jck sh v5.toNat 10 4) fun u6 =>
  Option.bind (f_X10_firstPart v5.toNat x1) fun q7 =>
  Option.bind (jck sh a0 2 5) fun u9 =>
  Option.bind (f_X2_costAt sh a0 q7 m) fun q10 =>
  Option.bind (jrf sh m a0 2 5 0) fun v12 =>
  Option.bind (jck sh v12.toNat 10 4) fun u13 =>
  Option.bind (f_X10_secondPart sh v12.toNat x1 m) fun q14 =>
  Option.bind (jck sh a0 2 5) fun u16 =>
  Option.bind (f_X2_costAt sh a0 q14 m) fun q17 =>
  Option.bind (jrf sh m a0 2 5 0) fun v19 =>
  Option.bind (jck sh v19.toNat 10 4) fun u20 =>
  Option.bind (f_X10_signAt sh v19.toNat x1 m) fun q21 =>
  if (45 : Int) = q21 then
    some 0
  else
  if (59 : Int) = q21 then
    some (jw (q10 + q17))
  else
  if (63 : Int) = q21 then
    Option.bind (f_J9_max_7cf53 q10 q17) fun q26 =>
    some q26
  else
  if (98 : Int) = q21 then
    f_X2_costOfNode_b104 sh a0 x1 q10 m
  else
  if (99 : Int) = q21 then
    f_X2_costOfNode_b104 sh a0 x1 q10 m
  else
  if (100 : Int) = q21 then
    f_X2_costOfNode_b104 sh a0 x1 q10 m
  else
  Option.bind (jck sh a0 2 5) fun u31 =>
  Option.bind (f_X2_sortAt sh a0 x1 m) fun q32 =>
  Option.bind (jck sh a0 2 5) fun u34 =>
  Option.bind (f_X2_costOfFetch sh a0 q32 x2 m) fun q35 =>
  some q35
def f_X2_costOf_b35 (N : Nat) (sh : jm_S) (k10 : Nat → Int → Int → jm_M → Option (Int × jm_M)) (a0 : Nat) (x1 : Int) (x2 : Int) (m : jm_M) : Option (Int × jm_M) :=
  k10 a0 x1 (jw (x2 + (-1))) m
def f_X2_costOf_b10 (N : Nat) (sh : jm_S) (k10 : Nat → Int → Int → jm_M → Option (Int × jm_M)) (a0 : Nat) (x1 : Int) (x2 : Int) (m : jm_M) : Option (Int × jm_M) :=
  if x2 < 0 then
    Option.bind (jck sh a0 2 5) fun u2 =>
    Option.bind (f_X2_costAt sh a0 0 m) fun q3 =>
    some (q3, m)
  else
  Option.bind (jrf sh m a0 2 5 4) fun v5 =>
  Option.bind (jlen sh v5.toNat) fun v6 =>
  if x2 < v6 then
    Option.bind (jrf sh m a0 2 5 4) fun v8 =>
    Option.bind (jck sh a0 2 5) fun u9 =>
    Option.bind (f_X2_costOfNode sh a0 x2 x1 m) fun q10 =>
    Option.bind (jwa sh m v8.toNat 13 x2 q10) fun m12 =>
    f_X2_costOf_b35 N sh k10 a0 x1 x2 m12
  else
  f_X2_costOf_b35 N sh k10 a0 x1 x2 m
def f_X2_costOf_l10 (N : Nat) (sh : jm_S) : Nat → Nat → Int → Int → jm_M → Option (Int × jm_M)
  | 0 => fun _ _ _ _ => none
  | n + 1 => fun a0 x1 x2 m => f_X2_costOf_b10 N sh (f_X2_costOf_l10 N sh n) a0 x1 x2 m
def f_X2_costOf (N : Nat) (sh : jm_S) (a0 : Nat) (x1 : Int) (m : jm_M) : Option (Int × jm_M) :=
  Option.bind (jrf sh m a0 2 5 0) fun v13 =>
  Option.bind (jrf sh m v13.toNat 10 4 0) fun v14 =>
  f_X2_costOf_l10 N sh N a0 x1 (jw (v14 - 1)) m
def f_X2_plain (N : Nat) (sh : jm_S) (a0 : Nat) (m : jm_M) : Option (Int × jm_M) :=
  Option.bind (jrf sh m a0 2 5 1) fun v1 =>
  Option.bind (jck sh v1.toNat 1 9) fun u2 =>
  Option.bind (f_X1_setting sh v1.toNat 2 m) fun q3 =>
  Option.bind (jck sh a0 2 5) fun u5 =>
  Option.bind (f_X2_costOf N sh a0 q3 m) fun q6 =>
  some (q6.1, q6.2)
def f_X2_onceLinesOf_b58 (N : Nat) (sh : jm_S) (k18 : Nat → Int → Int → Int → Int → Option Int) (a0 : Nat) (x1 : Int) (x2 : Int) (x3 : Int) (x4 : Int) (m : jm_M) : Option Int :=
  k18 a0 x1 x2 x3 (jw (x4 + 1))
def f_X2_onceLinesOf_b18 (N : Nat) (sh : jm_S) (k18 : Nat → Int → Int → Int → Int → Option Int) (a0 : Nat) (x1 : Int) (x2 : Int) (x3 : Int) (x4 : Int) (m : jm_M) : Option Int :=
  if x4 < x3 then
    Option.bind (jck sh a0 2 5) fun u2 =>
    Option.bind (f_X2_sortAt sh a0 x4 m) fun q3 =>
    if q3 = 2 then
      Option.bind (jck sh a0 2 5) fun u6 =>
      Option.bind (f_X2_loopThatKeeps N sh a0 x4 m) fun q7 =>
      if q7 = x1 then
        Option.bind (jrf sh m a0 2 5 0) fun v10 =>
        Option.bind (jck sh v10.toNat 10 4) fun u11 =>
        Option.bind (f_X10_lineAt sh v10.toNat x4 m) fun q12 =>
        f_X2_onceLinesOf_b58 N sh k18 a0 x1 (jor x2 (jshl 1 q12)) x3 x4 m
      else
      f_X2_onceLinesOf_b58 N sh k18 a0 x1 x2 x3 x4 m
    else
    f_X2_onceLinesOf_b58 N sh k18 a0 x1 x2 x3 x4 m
  else
  some x2
def f_X2_onceLinesOf_l18 (N : Nat) (sh : jm_S) : Nat → Nat → Int → Int → Int → Int → jm_M → Option Int
  | 0 => fun _ _ _ _ _ _ => none
  | n + 1 => fun a0 x1 x2 x3 x4 m => f_X2_onceLinesOf_b18 N sh (fun a0 x1 x2 x3 x4 => f_X2_onceLinesOf_l18 N sh n a0 x1 x2 x3 x4 m) a0 x1 x2 x3 x4 m
def f_X2_onceLinesOf (N : Nat) (sh : jm_S) (a0 : Nat) (x1 : Int) (m : jm_M) : Option Int :=
  Option.bind (jrf sh m a0 2 5 0) fun v14 =>
  Option.bind (jck sh v14.toNat 10 4) fun u15 =>
  Option.bind (f_X10_sizeAt sh v14.toNat x1 m) fun q16 =>
  f_X2_onceLinesOf_l18 N sh N a0 x1 0 (jw (x1 + q16)) (jw (x1 + 1)) m
def f_X2_timesComeTo_b32 (N : Nat) (sh : jm_S) (k4 : Nat → Int → Int → Int → Option Int) (a0 : Nat) (x1 : Int) (x2 : Int) (x3 : Int) (m : jm_M) : Option Int :=
  k4 a0 x1 x2 (jw (x3 + 1))
def f_X2_timesComeTo_b4 (N : Nat) (sh : jm_S) (k4 : Nat → Int → Int → Int → Option Int) (a0 : Nat) (x1 : Int) (x2 : Int) (x3 : Int) (m : jm_M) : Option Int :=
  if x3 < x1 then
    Option.bind (jrf sh m a0 2 5 0) fun v2 =>
    Option.bind (jck sh v2.toNat 10 4) fun u3 =>
    Option.bind (f_X10_isLoopAround sh v2.toNat x3 x1 m) fun q4 =>
    if q4 = 0 then
      f_X2_timesComeTo_b32 N sh k4 a0 x1 x2 x3 m
    else
    Option.bind (jrf sh m a0 2 5 0) fun v7 =>
    Option.bind (jck sh v7.toNat 10 4) fun u8 =>
    Option.bind (f_X10_timesAt sh v7.toNat x3 m) fun q9 =>
    f_X2_timesComeTo_b32 N sh k4 a0 x1 (jw (x2 * q9)) x3 m
  else
  some x2
def f_X2_timesComeTo_l4 (N : Nat) (sh : jm_S) : Nat → Nat → Int → Int → Int → jm_M → Option Int
  | 0 => fun _ _ _ _ _ => none
  | n + 1 => fun a0 x1 x2 x3 m => f_X2_timesComeTo_b4 N sh (fun a0 x1 x2 x3 => f_X2_timesComeTo_l4 N sh n a0 x1 x2 x3 m) a0 x1 x2 x3 m
def f_X2_timesComeTo (N : Nat) (sh : jm_S) (a0 : Nat) (x1 : Int) (m : jm_M) : Option Int :=
  f_X2_timesComeTo_l4 N sh N a0 x1 1 0 m
def f_X2_closer_b8 (N : Nat) (sh : jm_S) (k8 : Nat → Int → Int → jm_M → Option (Int × jm_M)) (a0 : Nat) (x1 : Int) (x2 : Int) (m : jm_M) : Option (Int × jm_M) :=
  Option.bind (jrf sh m a0 2 5 0) fun v1 =>
  Option.bind (jrf sh m v1.toNat 10 4 0) fun v2 =>
  if x2 < v2 then
    Option.bind (jck sh a0 2 5) fun u4 =>
    Option.bind (f_X2_onceLinesOf N sh a0 x2 m) fun q5 =>
    Option.bind (f_J6_bitCount_0f7a4 q5) fun q7 =>
    Option.bind (jrf sh m a0 2 5 1) fun v9 =>
    Option.bind (jck sh v9.toNat 1 9) fun u10 =>
    Option.bind (f_X1_setting sh v9.toNat 2 m) fun q11 =>
    Option.bind (jck sh a0 2 5) fun u13 =>
    Option.bind (f_X2_timesComeTo N sh a0 x2 m) fun q14 =>
    k8 a0 (jw (x1 + (jw ((jw (q7 * (jw (q11 - 1)))) * q14)))) (jw (x2 + 1)) m
  else
  some (x1, m)
def f_X2_closer_l8 (N : Nat) (sh : jm_S) : Nat → Nat → Int → Int → jm_M → Option (Int × jm_M)
  | 0 => fun _ _ _ _ => none
  | n + 1 => fun a0 x1 x2 m => f_X2_closer_b8 N sh (f_X2_closer_l8 N sh n) a0 x1 x2 m
def f_X2_closer (N : Nat) (sh : jm_S) (a0 : Nat) (m : jm_M) : Option (Int × jm_M) :=
  Option.bind (jck sh a0 2 5) fun u16 =>
  Option.bind (f_X2_costOf N sh a0 1 m) fun q17 =>
  f_X2_closer_l8 N sh N a0 q17.1 0 q17.2
def f_X3_add (sh : jm_S) (a0 : Nat) (x1 : Int) (m : jm_M) : Option (Int × jm_M) :=
  Option.bind (jrf sh m a0 3 3 1) fun v1 =>
  Option.bind (jrf sh m a0 3 3 0) fun v2 =>
  Option.bind (jlen sh v2.toNat) fun v3 =>
  if v1 < v3 then
    Option.bind (jrf sh m a0 3 3 0) fun v5 =>
    Option.bind (jrf sh m a0 3 3 1) fun v6 =>
    Option.bind (jwa sh m v5.toNat 13 v6 x1) fun m7 =>
    Option.bind (jrf sh m7 a0 3 3 1) fun v8 =>
    Option.bind (jwf sh m7 a0 3 3 1 (jw (v8 + 1))) fun m9 =>
    some (1, m9)
  else
  some (0, m)
def f_X3_firstFault_b125 (N : Nat) (sh : jm_S) (a0 : Nat) (x1 : Int) (m : jm_M) : Option (Int × jm_M) :=
  if x1 = 0 then
    some ((-6), m)
  else
  Option.bind (jrf sh m a0 3 3 1) fun v2 =>
  some (v2, m)
def f_X3_firstFault_b119 (N : Nat) (sh : jm_S) (k11 : Nat → Int → Int → jm_M → Option (Int × jm_M)) (a0 : Nat) (x1 : Int) (x2 : Int) (m : jm_M) : Option (Int × jm_M) :=
  k11 a0 x1 (jw (x2 + 1)) m
def f_X3_firstFault_b85 (N : Nat) (sh : jm_S) (k11 : Nat → Int → Int → jm_M → Option (Int × jm_M)) (k85 : Nat → Int → Int → Int → Int → Int → jm_M → Option (Int × jm_M)) (a0 : Nat) (x1 : Int) (x2 : Int) (x3 : Int) (x4 : Int) (x5 : Int) (m : jm_M) : Option (Int × jm_M) :=
  if x5 < x4 then
    Option.bind (jrf sh m a0 3 3 2) fun v4 =>
    Option.bind (jlen sh v4.toNat) fun v5 =>
    if x1 < v5 then
      Option.bind (jrf sh m a0 3 3 2) fun v7 =>
      Option.bind (jwa sh m v7.toNat 13 x1 (jw (x3 + 1))) fun m8 =>
      k85 a0 (jw (x1 + 1)) x2 x3 x4 (jw (x5 + 1)) m8
    else
    f_X3_firstFault_b119 N sh k11 a0 x1 x2 m
  else
  f_X3_firstFault_b119 N sh k11 a0 x1 x2 m
def f_X3_firstFault_l85 (N : Nat) (sh : jm_S) (k11 : Nat → Int → Int → jm_M → Option (Int × jm_M)) : Nat → Nat → Int → Int → Int → Int → Int → jm_M → Option (Int × jm_M)
  | 0 => fun _ _ _ _ _ _ _ => none
  | n + 1 => fun a0 x1 x2 x3 x4 x5 m => f_X3_firstFault_b85 N sh k11 (f_X3_firstFault_l85 N sh k11 n) a0 x1 x2 x3 x4 x5 m
def f_X3_firstFault_b82 (N : Nat) (sh : jm_S) (k11 : Nat → Int → Int → jm_M → Option (Int × jm_M)) (a0 : Nat) (x1 : Int) (x2 : Int) (x3 : Int) (x4 : Int) (m : jm_M) : Option (Int × jm_M) :=
  f_X3_firstFault_l85 N sh k11 N a0 x1 x2 x3 x4 0 m
def f_X3_firstFault_b11 (N : Nat) (sh : jm_S) (k11 : Nat → Int → Int → jm_M → Option (Int × jm_M)) (a0 : Nat) (x1 : Int) (x2 : Int) (m : jm_M) : Option (Int × jm_M) :=
  Option.bind (jrf sh m a0 3 3 1) fun v9 =>
  if x2 < v9 then
    Option.bind (jrf sh m a0 3 3 0) fun v11 =>
    Option.bind (jlen sh v11.toNat) fun v12 =>
    if x2 < v12 then
      if x1 < 1 then
        some (x2, m)
      else
      Option.bind (jrf sh m a0 3 3 2) fun v15 =>
      Option.bind (jlen sh v15.toNat) fun v16 =>
      if v16 < x1 then
        some (x2, m)
      else
      Option.bind (jrf sh m a0 3 3 2) fun v18 =>
      Option.bind (jra sh m v18.toNat 13 (jw (x1 + (-1)))) fun v19 =>
      Option.bind (jrf sh m a0 3 3 0) fun v20 =>
      Option.bind (jra sh m v20.toNat 13 x2) fun v21 =>
      Option.bind (f_X11_partsOf v21) fun q22 =>
      if q22 < 0 then
        some (x2, m)
      else
      if 0 < q22 then
        if v19 < 4 then
          f_X3_firstFault_b82 N sh k11 a0 (jw (x1 + (-1))) x2 v19 q22 m
        else
        some (x2, m)
      else
      f_X3_firstFault_b82 N sh k11 a0 (jw (x1 + (-1))) x2 v19 q22 m
    else
    f_X3_firstFault_b125 N sh a0 x1 m
  else
  f_X3_firstFault_b125 N sh a0 x1 m
def f_X3_firstFault_l11 (N : Nat) (sh : jm_S) : Nat → Nat → Int → Int → jm_M → Option (Int × jm_M)
  | 0 => fun _ _ _ _ => none
  | n + 1 => fun a0 x1 x2 m => f_X3_firstFault_b11 N sh (f_X3_firstFault_l11 N sh n) a0 x1 x2 m
def f_X3_firstFault (N : Nat) (sh : jm_S) (a0 : Nat) (m : jm_M) : Option (Int × jm_M) :=
  Option.bind (jrf sh m a0 3 3 2) fun v27 =>
  Option.bind (jwa sh m v27.toNat 13 0 0) fun m28 =>
  f_X3_firstFault_l11 N sh N a0 1 0 m28
def f_X4_clear_b48 (N : Nat) (sh : jm_S) (a0 : Nat) (m : jm_M) : Option jm_M :=
  Option.bind (jwf sh m a0 4 4 0 0) fun m1 =>
  some m1
def f_X4_clear_b42 (N : Nat) (sh : jm_S) (k2 : Nat → Int → jm_M → Option jm_M) (a0 : Nat) (x1 : Int) (m : jm_M) : Option jm_M :=
  k2 a0 (jw (x1 + 1)) m
def f_X4_clear_b2 (N : Nat) (sh : jm_S) (k2 : Nat → Int → jm_M → Option jm_M) (a0 : Nat) (x1 : Int) (m : jm_M) : Option jm_M :=
  Option.bind (jrf sh m a0 4 4 0) fun v2 =>
  if x1 < v2 then
    if x1 < 625 then
      Option.bind (jrf sh m a0 4 4 1) fun v5 =>
      Option.bind (jra sh m v5.toNat 13 x1) fun v6 =>
      if v6 < 0 then
        f_X4_clear_b42 N sh k2 a0 x1 m
      else
      if v6 < 625 then
        Option.bind (jrf sh m a0 4 4 3) fun v9 =>
        Option.bind (jwa sh m v9.toNat 13 v6 0) fun m10 =>
        f_X4_clear_b42 N sh k2 a0 x1 m10
      else
      f_X4_clear_b42 N sh k2 a0 x1 m
    else
    f_X4_clear_b48 N sh a0 m
  else
  f_X4_clear_b48 N sh a0 m
def f_X4_clear_l2 (N : Nat) (sh : jm_S) : Nat → Nat → Int → jm_M → Option jm_M
  | 0 => fun _ _ _ => none
  | n + 1 => fun a0 x1 m => f_X4_clear_b2 N sh (f_X4_clear_l2 N sh n) a0 x1 m
def f_X4_clear (N : Nat) (sh : jm_S) (a0 : Nat) (m : jm_M) : Option jm_M :=
  f_X4_clear_l2 N sh N a0 0 m
def f_X4_add_b74 (sh : jm_S) (a0 : Nat) (x1 : Int) (x2 : Int) (m : jm_M) : Option jm_M :=
  Option.bind (jrf sh m a0 4 4 0) fun v1 =>
  if v1 < 625 then
    Option.bind (jrf sh m a0 4 4 1) fun v3 =>
    Option.bind (jrf sh m a0 4 4 0) fun v4 =>
    Option.bind (jwa sh m v3.toNat 13 v4 x1) fun m5 =>
    Option.bind (jrf sh m5 a0 4 4 2) fun v6 =>
    Option.bind (jrf sh m5 a0 4 4 0) fun v7 =>
    Option.bind (jwa sh m5 v6.toNat 13 v7 x2) fun m8 =>
    Option.bind (jrf sh m8 a0 4 4 0) fun v9 =>
    Option.bind (jwf sh m8 a0 4 4 0 (jw (v9 + 1))) fun m10 =>
    Option.bind (jrf sh m10 a0 4 4 3) fun v11 =>
    Option.bind (jrf sh m10 a0 4 4 0) fun v12 =>
    Option.bind (jwa sh m10 v11.toNat 13 x1 v12) fun m13 =>
    some m13
  else
  some m
def f_X4_add_b70 (sh : jm_S) (r0 : Nat) (s1 : Int) (s2 : Int) (m : jm_M) : Option jm_M :=
  Option.bind (jwa sh m r0 13 s1 s2) fun m14 =>
  some m14
def f_X4_add (sh : jm_S) (a0 : Nat) (x1 : Int) (x2 : Int) (x3 : Int) (m : jm_M) : Option jm_M :=
  if x1 < 0 then
    some m
  else
  if x1 < 625 then
    Option.bind (jrf sh m a0 4 4 3) fun v17 =>
    Option.bind (jra sh m v17.toNat 13 x1) fun v18 =>
    if (jw (v18 - 1)) < 0 then
      f_X4_add_b74 sh a0 x1 x2 m
    else
    if (jw (v18 - 1)) < 625 then
      Option.bind (jrf sh m a0 4 4 2) fun v21 =>
      if x3 = 0 then
        Option.bind (jrf sh m a0 4 4 2) fun v23 =>
        Option.bind (jra sh m v23.toNat 13 (jw (v18 - 1))) fun v24 =>
        Option.bind (f_J9_min_7cf53 v24 x2) fun q25 =>
        f_X4_add_b70 sh v21.toNat (jw (v18 - 1)) q25 m
      else
      Option.bind (jrf sh m a0 4 4 2) fun v27 =>
      Option.bind (jra sh m v27.toNat 13 (jw (v18 - 1))) fun v28 =>
      Option.bind (f_J9_max_7cf53 v28 x2) fun q29 =>
      f_X4_add_b70 sh v21.toNat (jw (v18 - 1)) q29 m
    else
    f_X4_add_b74 sh a0 x1 x2 m
  else
  some m
def f_X4_shelfAt (sh : jm_S) (a0 : Nat) (x1 : Int) (m : jm_M) : Option Int :=
  if x1 < 0 then
    some 0
  else
  if x1 < 625 then
    Option.bind (jrf sh m a0 4 4 1) fun v3 =>
    Option.bind (jra sh m v3.toNat 13 x1) fun v4 =>
    some v4
  else
  some 0
def f_X4_costAt (sh : jm_S) (a0 : Nat) (x1 : Int) (m : jm_M) : Option Int :=
  if x1 < 0 then
    some 0
  else
  if x1 < 625 then
    Option.bind (jrf sh m a0 4 4 2) fun v3 =>
    Option.bind (jra sh m v3.toNat 13 x1) fun v4 =>
    some v4
  else
  some 0
def f_X4_addAll_b2 (N : Nat) (sh : jm_S) (k2 : Nat → Nat → Int → Int → jm_M → Option jm_M) (a0 : Nat) (a1 : Nat) (x2 : Int) (x3 : Int) (m : jm_M) : Option jm_M :=
  Option.bind (jrf sh m a1 4 4 0) fun v1 =>
  if x3 < v1 then
    Option.bind (jck sh a1 4 4) fun u3 =>
    Option.bind (f_X4_shelfAt sh a1 x3 m) fun q4 =>
    Option.bind (jck sh a1 4 4) fun u6 =>
    Option.bind (f_X4_costAt sh a1 x3 m) fun q7 =>
    Option.bind (jck sh a0 4 4) fun u9 =>
    Option.bind (f_X4_add sh a0 q4 q7 x2 m) fun q10 =>
    k2 a0 a1 x2 (jw (x3 + 1)) q10
  else
  some m
def f_X4_addAll_l2 (N : Nat) (sh : jm_S) : Nat → Nat → Nat → Int → Int → jm_M → Option jm_M
  | 0 => fun _ _ _ _ _ => none
  | n + 1 => fun a0 a1 x2 x3 m => f_X4_addAll_b2 N sh (f_X4_addAll_l2 N sh n) a0 a1 x2 x3 m
def f_X4_addAll (N : Nat) (sh : jm_S) (a0 : Nat) (a1 : Nat) (x2 : Int) (m : jm_M) : Option jm_M :=
  f_X4_addAll_l2 N sh N a0 a1 x2 0 m
def f_X10_allLines (sh : jm_S) (a0 : Nat) (m : jm_M) : Option Int :=
  Option.bind (jrf sh m a0 10 4 3) fun v1 =>
  Option.bind (jra sh m v1.toNat 13 0) fun v2 =>
  some v2
def f_X7_enrol (sh : jm_S) (a0 : Nat) (x1 : Int) (x2 : Int) (m : jm_M) : Option jm_M :=
  if x1 < 0 then
    some m
  else
  if x1 < 8 then
    if x2 < 0 then
      some m
    else
    if x2 < 4 then
      Option.bind (jrf sh m a0 7 10 3) fun v5 =>
      Option.bind (jwa sh m v5.toNat 13 x1 x2) fun m6 =>
      Option.bind (jrf sh m6 a0 7 10 4) fun v7 =>
      Option.bind (jwa sh m6 v7.toNat 13 x1 (-1)) fun m8 =>
      Option.bind (jrf sh m8 a0 7 10 1) fun v9 =>
      Option.bind (f_X11_isIn v9 x1) fun q10 =>
      if q10 = 0 then
        Option.bind (jrf sh m8 a0 7 10 2) fun v13 =>
        Option.bind (f_X11_isIn v13 x1) fun q14 =>
        if q14 = 0 then
          some m8
        else
        Option.bind (jrf sh m8 a0 7 10 4) fun v17 =>
        Option.bind (jrf sh m8 a0 7 10 6) fun v18 =>
        Option.bind (jra sh m8 v18.toNat 13 x2) fun v19 =>
        Option.bind (jwa sh m8 v17.toNat 13 x1 v19) fun m20 =>
        Option.bind (jrf sh m20 a0 7 10 6) fun v21 =>
        Option.bind (jra sh m20 v21.toNat 13 x2) fun v22 =>
        Option.bind (jwa sh m20 v21.toNat 13 x2 (jw (v22 + 1))) fun m23 =>
        some m23
      else
      Option.bind (jrf sh m8 a0 7 10 5) fun v24 =>
      Option.bind (jra sh m8 v24.toNat 13 x2) fun v25 =>
      Option.bind (jwa sh m8 v24.toNat 13 x2 (jw (v25 - 1))) fun m26 =>
      some m26
    else
    some m
  else
  some m
def f_X7_looksOf (x0 : Int) (x1 : Int) : Option Int :=
  if (1 : Int) = x0 then
    some (jw (1 + x1))
  else
  if (2 : Int) = x0 then
    some (jw (1 + (jw (x1 * x1))))
  else
  some 1
def f_X7_newestOf (sh : jm_S) (a0 : Nat) (x1 : Int) (x2 : Int) (m : jm_M) : Option Int :=
  Option.bind (jrf sh m a0 7 10 6) fun v1 =>
  Option.bind (jra sh m v1.toNat 13 x2) fun v2 =>
  if 0 < x1 then
    if 0 < v2 then
      if v2 = 0 then none else
      some (jdiv (jw (x1 - 1)) v2)
    else
    some (-1)
  else
  some (-1)
def f_X7_nextLook_b81 (sh : jm_S) (s0 : Int) (s1 : Int) (m : jm_M) : Option Int :=
  some (jw (s0 + s1))
def f_X7_nextLook (sh : jm_S) (a0 : Nat) (x1 : Int) (x2 : Int) (m : jm_M) : Option Int :=
  Option.bind (jrf sh m a0 7 10 3) fun v1 =>
  Option.bind (jra sh m v1.toNat 13 x1) fun v2 =>
  Option.bind (jrf sh m a0 7 10 4) fun v3 =>
  Option.bind (jra sh m v3.toNat 13 x1) fun v4 =>
  Option.bind (jrf sh m a0 7 10 5) fun v5 =>
  Option.bind (jra sh m v5.toNat 13 v2) fun v6 =>
  if v6 = 0 then
    some 0
  else
  Option.bind (jrf sh m a0 7 10 5) fun v8 =>
  Option.bind (jra sh m v8.toNat 13 v2) fun v9 =>
  if v9 = 1 then
    some (jw (1 + v4))
  else
  Option.bind (jck sh a0 7 10) fun u11 =>
  Option.bind (f_X7_newestOf sh a0 x2 v2 m) fun q12 =>
  if q12 = v4 then
    some x2
  else
  Option.bind (jrf sh m a0 7 10 6) fun v15 =>
  Option.bind (jra sh m v15.toNat 13 v2) fun v16 =>
  if q12 < 0 then
    f_X7_nextLook_b81 sh (jw (1 + (jw (v16 * v4)))) v4 m
  else
  f_X7_nextLook_b81 sh (jw (1 + (jw (v16 * v4)))) q12 m
def f_X7_olderOf (sh : jm_S) (a0 : Nat) (x1 : Int) (x2 : Int) (m : jm_M) : Option Int :=
  Option.bind (jrf sh m a0 7 10 6) fun v1 =>
  Option.bind (jra sh m v1.toNat 13 x2) fun v2 =>
  if 0 < x1 then
    if 0 < v2 then
      if v2 = 0 then none else
      some (jrem (jw (x1 - 1)) v2)
    else
    some (-1)
  else
  some (-1)
def f_X7_lies (sh : jm_S) (a0 : Nat) (x1 : Int) (x2 : Int) (m : jm_M) : Option Int :=
  Option.bind (jrf sh m a0 7 10 3) fun v1 =>
  Option.bind (jra sh m v1.toNat 13 x1) fun v2 =>
  Option.bind (jrf sh m a0 7 10 4) fun v3 =>
  Option.bind (jra sh m v3.toNat 13 x1) fun v4 =>
  Option.bind (jrf sh m a0 7 10 5) fun v5 =>
  Option.bind (jra sh m v5.toNat 13 v2) fun v6 =>
  if v6 = 0 then
    some 0
  else
  if x2 = 0 then
    some 0
  else
  if v4 < 0 then
    some 0
  else
  Option.bind (jrf sh m a0 7 10 5) fun v10 =>
  Option.bind (jra sh m v10.toNat 13 v2) fun v11 =>
  if v11 = 1 then
    if x2 = (jw (1 + v4)) then
      some 1
    else
    some 0
  else
  Option.bind (jck sh a0 7 10) fun u14 =>
  Option.bind (f_X7_newestOf sh a0 x2 v2 m) fun q15 =>
  if q15 = v4 then
    some 1
  else
  Option.bind (jck sh a0 7 10) fun u18 =>
  Option.bind (f_X7_olderOf sh a0 x2 v2 m) fun q19 =>
  if q19 = v4 then
    some 1
  else
  some 0
def f_X7_fillMoves_b97 (N : Nat) (sh : jm_S) (k17 : Nat → Int → Nat → Int → Int → jm_M → Option jm_M) (a0 : Nat) (x1 : Int) (a2 : Nat) (x3 : Int) (x4 : Int) (m : jm_M) : Option jm_M :=
  k17 a0 x1 a2 x3 (jw (x4 + 1)) m
def f_X7_fillMoves_b95 (N : Nat) (sh : jm_S) (k17 : Nat → Int → Nat → Int → Int → jm_M → Option jm_M) (a0 : Nat) (x1 : Int) (a2 : Nat) (x3 : Int) (x4 : Int) (r0 : Nat) (s1 : Int) (s2 : Int) (s3 : Int) (m : jm_M) : Option jm_M :=
  Option.bind (jwa sh m r0 13 s1 (jw (s2 + s3))) fun m1 =>
  f_X7_fillMoves_b97 N sh k17 a0 x1 a2 x3 x4 m1
def f_X7_fillMoves_b17 (N : Nat) (sh : jm_S) (k17 : Nat → Int → Nat → Int → Int → jm_M → Option jm_M) (a0 : Nat) (x1 : Int) (a2 : Nat) (x3 : Int) (x4 : Int) (m : jm_M) : Option jm_M :=
  Option.bind (jrf sh m a0 7 10 7) fun v2 =>
  Option.bind (jra sh m v2.toNat 13 x3) fun v3 =>
  if x4 < v3 then
    Option.bind (jlen sh a2) fun v5 =>
    if x4 < v5 then
      Option.bind (jrf sh m a0 7 10 1) fun v7 =>
      Option.bind (f_X11_isIn v7 x1) fun q8 =>
      if q8 = 0 then
        Option.bind (jck sh a0 7 10) fun u11 =>
        Option.bind (f_X7_nextLook sh a0 x1 x4 m) fun q12 =>
        Option.bind (jrf sh m a0 7 10 8) fun v14 =>
        Option.bind (jra sh m v14.toNat 13 x3) fun v15 =>
        Option.bind (jck sh a0 7 10) fun u16 =>
        Option.bind (f_X7_lies sh a0 x1 x4 m) fun q17 =>
        if q17 = 0 then
          f_X7_fillMoves_b95 N sh k17 a0 x1 a2 x3 x4 a2 x4 (jw (2 * (jw ((jw (q12 - x4)) * v15)))) 0 m
        else
        f_X7_fillMoves_b95 N sh k17 a0 x1 a2 x3 x4 a2 x4 (jw (2 * (jw ((jw (q12 - x4)) * v15)))) 1 m
      else
      Option.bind (jwa sh m a2 13 x4 1) fun m20 =>
      f_X7_fillMoves_b97 N sh k17 a0 x1 a2 x3 x4 m20
    else
    some m
  else
  some m
def f_X7_fillMoves_l17 (N : Nat) (sh : jm_S) : Nat → Nat → Int → Nat → Int → Int → jm_M → Option jm_M
  | 0 => fun _ _ _ _ _ _ => none
  | n + 1 => fun a0 x1 a2 x3 x4 m => f_X7_fillMoves_b17 N sh (f_X7_fillMoves_l17 N sh n) a0 x1 a2 x3 x4 m
def f_X7_fillMoves (N : Nat) (sh : jm_S) (a0 : Nat) (x1 : Int) (m : jm_M) : Option jm_M :=
  Option.bind (jrf sh m a0 7 10 9) fun v21 =>
  Option.bind (jra sh m v21.toNat 16 x1) fun v22 =>
  Option.bind (jrf sh m a0 7 10 3) fun v23 =>
  Option.bind (jra sh m v23.toNat 13 x1) fun v24 =>
  f_X7_fillMoves_l17 N sh N a0 x1 v22.toNat v24 0 m
def f_X7_lay_b173 (N : Nat) (sh : jm_S) (k151 : Nat → Int → Int → jm_M → Option jm_M) (a0 : Nat) (x3 : Int) (x4 : Int) (m : jm_M) : Option jm_M :=
  k151 a0 x3 (jw (x4 + 1)) m
def f_X7_lay_b151 (N : Nat) (sh : jm_S) (k151 : Nat → Int → Int → jm_M → Option jm_M) (a0 : Nat) (x3 : Int) (x4 : Int) (m : jm_M) : Option jm_M :=
  if x4 < 8 then
    Option.bind (f_X11_isIn x3 x4) fun q2 =>
    if q2 = 0 then
      f_X7_lay_b173 N sh k151 a0 x3 x4 m
    else
    Option.bind (jck sh a0 7 10) fun u5 =>
    Option.bind (f_X7_fillMoves N sh a0 x4 m) fun q6 =>
    f_X7_lay_b173 N sh k151 a0 x3 x4 q6
  else
  some m
def f_X7_lay_l151 (N : Nat) (sh : jm_S) : Nat → Nat → Int → Int → jm_M → Option jm_M
  | 0 => fun _ _ _ _ => none
  | n + 1 => fun a0 x3 x4 m => f_X7_lay_b151 N sh (f_X7_lay_l151 N sh n) a0 x3 x4 m
def f_X7_lay_b85 (N : Nat) (sh : jm_S) (k85 : Nat → Int → Int → jm_M → Option jm_M) (a0 : Nat) (x3 : Int) (x4 : Int) (m : jm_M) : Option jm_M :=
  if x4 < 4 then
    Option.bind (jrf sh m a0 7 10 8) fun v9 =>
    Option.bind (jrf sh m a0 7 10 0) fun v10 =>
    Option.bind (jwa sh m v9.toNat 13 x4 v10) fun m11 =>
    Option.bind (jrf sh m11 a0 7 10 7) fun v12 =>
    Option.bind (jrf sh m11 a0 7 10 5) fun v13 =>
    Option.bind (jra sh m11 v13.toNat 13 x4) fun v14 =>
    Option.bind (jrf sh m11 a0 7 10 6) fun v15 =>
    Option.bind (jra sh m11 v15.toNat 13 x4) fun v16 =>
    Option.bind (f_X7_looksOf v14 v16) fun q17 =>
    Option.bind (jwa sh m11 v12.toNat 13 x4 q17) fun m19 =>
    Option.bind (jrf sh m19 a0 7 10 0) fun v20 =>
    Option.bind (jrf sh m19 a0 7 10 7) fun v21 =>
    Option.bind (jra sh m19 v21.toNat 13 x4) fun v22 =>
    Option.bind (jwf sh m19 a0 7 10 0 (jw (v20 * v22))) fun m23 =>
    k85 a0 x3 (jw (x4 + 1)) m23
  else
  f_X7_lay_l151 N sh N a0 x3 0 m
def f_X7_lay_l85 (N : Nat) (sh : jm_S) : Nat → Nat → Int → Int → jm_M → Option jm_M
  | 0 => fun _ _ _ _ => none
  | n + 1 => fun a0 x3 x4 m => f_X7_lay_b85 N sh (f_X7_lay_l85 N sh n) a0 x3 x4 m
def f_X7_lay_b48 (N : Nat) (sh : jm_S) (k48 : Nat → Nat → Int → Int → jm_M → Option jm_M) (a0 : Nat) (a1 : Nat) (x3 : Int) (x4 : Int) (m : jm_M) : Option jm_M :=
  if x4 < 8 then
    Option.bind (jck sh a1 1 9) fun u25 =>
    Option.bind (f_X1_setting sh a1 0 m) fun q26 =>
    Option.bind (f_X11_setOf x4 q26) fun q28 =>
    Option.bind (jck sh a0 7 10) fun u30 =>
    Option.bind (f_X7_enrol sh a0 x4 q28 m) fun q31 =>
    k48 a0 a1 x3 (jw (x4 + 1)) q31
  else
  Option.bind (jwf sh m a0 7 10 0 1) fun m33 =>
  f_X7_lay_l85 N sh N a0 x3 0 m33
def f_X7_lay_l48 (N : Nat) (sh : jm_S) : Nat → Nat → Nat → Int → Int → jm_M → Option jm_M
  | 0 => fun _ _ _ _ _ => none
  | n + 1 => fun a0 a1 x3 x4 m => f_X7_lay_b48 N sh (f_X7_lay_l48 N sh n) a0 a1 x3 x4 m
def f_X7_lay_b13 (N : Nat) (sh : jm_S) (k13 : Nat → Nat → Int → Int → jm_M → Option jm_M) (a0 : Nat) (a1 : Nat) (x3 : Int) (x4 : Int) (m : jm_M) : Option jm_M :=
  if x4 < 4 then
    Option.bind (jrf sh m a0 7 10 5) fun v35 =>
    Option.bind (jck sh a1 1 9) fun u36 =>
    Option.bind (f_X1_setting sh a1 1 m) fun q37 =>
    Option.bind (jwa sh m v35.toNat 13 x4 q37) fun m39 =>
    Option.bind (jrf sh m39 a0 7 10 6) fun v40 =>
    Option.bind (jwa sh m39 v40.toNat 13 x4 0) fun m41 =>
    k13 a0 a1 x3 (jw (x4 + 1)) m41
  else
  f_X7_lay_l48 N sh N a0 a1 x3 0 m
def f_X7_lay_l13 (N : Nat) (sh : jm_S) : Nat → Nat → Nat → Int → Int → jm_M → Option jm_M
  | 0 => fun _ _ _ _ _ => none
  | n + 1 => fun a0 a1 x3 x4 m => f_X7_lay_b13 N sh (f_X7_lay_l13 N sh n) a0 a1 x3 x4 m
def f_X7_lay (N : Nat) (sh : jm_S) (a0 : Nat) (a1 : Nat) (x2 : Int) (x3 : Int) (m : jm_M) : Option jm_M :=
  Option.bind (jwf sh m a0 7 10 1 x2) fun m42 =>
  Option.bind (jwf sh m42 a0 7 10 2 x3) fun m43 =>
  f_X7_lay_l13 N sh N a0 a1 x3 0 m43
def f_X5_aheadRow (sh : jm_S) (a0 : Nat) (x1 : Int) (x2 : Int) (a3 : Nat) (m : jm_M) : Option Nat :=
  if x2 < 4 then
    if (jw ((jw (4 * x1)) + x2)) < 0 then
      some a3
    else
    Option.bind (jrf sh m a0 5 10 9) fun v3 =>
    Option.bind (jlen sh v3.toNat) fun v4 =>
    if (jw ((jw (4 * x1)) + x2)) < v4 then
      Option.bind (jrf sh m a0 5 10 9) fun v6 =>
      Option.bind (jra sh m v6.toNat 16 (jw ((jw (4 * x1)) + x2))) fun v7 =>
      some v7.toNat
    else
    some a3
  else
  some a3
def f_X5_raise_b2 (N : Nat) (sh : jm_S) (k2 : Nat → Nat → Nat → Int → jm_M → Option jm_M) (a0 : Nat) (a1 : Nat) (a2 : Nat) (x3 : Int) (m : jm_M) : Option jm_M :=
  Option.bind (jrf sh m a0 5 10 5) fun v1 =>
  Option.bind (jrf sh m v1.toNat 7 10 0) fun v2 =>
  if x3 < v2 then
    Option.bind (jlen sh a1) fun v4 =>
    if x3 < v4 then
      Option.bind (jlen sh a2) fun v6 =>
      if x3 < v6 then
        Option.bind (jra sh m a1 13 x3) fun v8 =>
        Option.bind (jra sh m a2 13 x3) fun v9 =>
        Option.bind (f_J9_max_7cf53 v8 v9) fun q10 =>
        Option.bind (jwa sh m a1 13 x3 q10) fun m12 =>
        k2 a0 a1 a2 (jw (x3 + 1)) m12
      else
      some m
    else
    some m
  else
  some m
def f_X5_raise_l2 (N : Nat) (sh : jm_S) : Nat → Nat → Nat → Nat → Int → jm_M → Option jm_M
  | 0 => fun _ _ _ _ _ => none
  | n + 1 => fun a0 a1 a2 x3 m => f_X5_raise_b2 N sh (f_X5_raise_l2 N sh n) a0 a1 a2 x3 m
def f_X5_raise (N : Nat) (sh : jm_S) (a0 : Nat) (a1 : Nat) (a2 : Nat) (m : jm_M) : Option jm_M :=
  f_X5_raise_l2 N sh N a0 a1 a2 0 m
def f_X5_copy_b2 (N : Nat) (sh : jm_S) (k2 : Nat → Nat → Nat → Int → jm_M → Option jm_M) (a0 : Nat) (a1 : Nat) (a2 : Nat) (x3 : Int) (m : jm_M) : Option jm_M :=
  Option.bind (jrf sh m a0 5 10 5) fun v1 =>
  Option.bind (jrf sh m v1.toNat 7 10 0) fun v2 =>
  if x3 < v2 then
    Option.bind (jlen sh a2) fun v4 =>
    if x3 < v4 then
      Option.bind (jlen sh a1) fun v6 =>
      if x3 < v6 then
        Option.bind (jra sh m a1 13 x3) fun v8 =>
        Option.bind (jwa sh m a2 13 x3 v8) fun m9 =>
        k2 a0 a1 a2 (jw (x3 + 1)) m9
      else
      some m
    else
    some m
  else
  some m
def f_X5_copy_l2 (N : Nat) (sh : jm_S) : Nat → Nat → Nat → Nat → Int → jm_M → Option jm_M
  | 0 => fun _ _ _ _ _ => none
  | n + 1 => fun a0 a1 a2 x3 m => f_X5_copy_b2 N sh (f_X5_copy_l2 N sh n) a0 a1 a2 x3 m
def f_X5_copy (N : Nat) (sh : jm_S) (a0 : Nat) (a1 : Nat) (a2 : Nat) (m : jm_M) : Option jm_M :=
  f_X5_copy_l2 N sh N a0 a1 a2 0 m
def f_X5_lookLoop_b28 (N : Nat) (sh : jm_S) (rec : Nat → Int → Int → Nat → Nat → jm_M → Option jm_M) (k28 : Nat → Int → Int → Nat → Nat → Int → Int → jm_M → Option jm_M) (a0 : Nat) (x1 : Int) (x2 : Int) (a4 : Nat) (a5 : Nat) (x6 : Int) (x7 : Int) (m : jm_M) : Option jm_M :=
  if x7 < x6 then
    Option.bind (jrf sh m a0 5 10 3) fun v2 =>
    Option.bind (jck sh v2.toNat 10 4) fun u3 =>
    Option.bind (f_X10_firstPart v2.toNat x1) fun q4 =>
    Option.bind (jck sh a0 5 10) fun u6 =>
    Option.bind (rec a0 q4 (jw (x2 + 1)) a4 a5 m) fun q7 =>
    Option.bind (jck sh a0 5 10) fun u9 =>
    Option.bind (f_X5_raise N sh a0 a4 a5 q7) fun q10 =>
    k28 a0 x1 x2 a4 a5 x6 (jw (x7 + 1)) q10
  else
  some m
def f_X5_lookLoop_l28 (N : Nat) (sh : jm_S) (rec : Nat → Int → Int → Nat → Nat → jm_M → Option jm_M) : Nat → Nat → Int → Int → Nat → Nat → Int → Int → jm_M → Option jm_M
  | 0 => fun _ _ _ _ _ _ _ _ => none
  | n + 1 => fun a0 x1 x2 a4 a5 x6 x7 m => f_X5_lookLoop_b28 N sh rec (f_X5_lookLoop_l28 N sh rec n) a0 x1 x2 a4 a5 x6 x7 m
def f_X5_lookLoop (N : Nat) (sh : jm_S) (rec : Nat → Int → Int → Nat → Nat → jm_M → Option jm_M) (a0 : Nat) (x1 : Int) (x2 : Int) (a3 : Nat) (a4 : Nat) (m : jm_M) : Option jm_M :=
  Option.bind (jrf sh m a0 5 10 8) fun v12 =>
  Option.bind (jra sh m v12.toNat 16 x2) fun v13 =>
  Option.bind (jrf sh m a0 5 10 3) fun v14 =>
  Option.bind (jck sh v14.toNat 10 4) fun u15 =>
  Option.bind (f_X10_timesAt sh v14.toNat x1 m) fun q16 =>
  Option.bind (jck sh a0 5 10) fun u18 =>
  Option.bind (f_X5_copy N sh a0 a3 a4 m) fun q19 =>
  f_X5_lookLoop_l28 N sh rec N a0 x1 x2 a4 v13.toNat q16 0 q19
def f_X7_stepOf_b10 (sh : jm_S) (x2 : Int) (m : jm_M) : Option Int :=
  some (jw (2 * x2))
def f_X7_stepOf_b88 (sh : jm_S) (x2 : Int) (m : jm_M) : Option Int :=
  some (jw (2 * x2))
def f_X7_stepOf_b58 (sh : jm_S) (a0 : Nat) (x1 : Int) (x2 : Int) (s0 : Int) (m : jm_M) : Option Int :=
  if s0 < 0 then
    f_X7_stepOf_b88 sh x2 m
  else
  if s0 < 65 then
    Option.bind (jrf sh m a0 7 10 9) fun v3 =>
    Option.bind (jra sh m v3.toNat 16 x1) fun v4 =>
    Option.bind (jra sh m v4.toNat 13 s0) fun v5 =>
    some (jw ((jw (2 * x2)) + v5))
  else
  f_X7_stepOf_b88 sh x2 m
def f_X7_stepOf_b57 (sh : jm_S) (a0 : Nat) (x1 : Int) (x2 : Int) (m : jm_M) : Option Int :=
  f_X7_stepOf_b58 sh a0 x1 x2 0 m
def f_X7_stepOf (sh : jm_S) (a0 : Nat) (x1 : Int) (x2 : Int) (m : jm_M) : Option Int :=
  if x1 < 0 then
    f_X7_stepOf_b10 sh x2 m
  else
  if x1 < 8 then
    Option.bind (jrf sh m a0 7 10 8) fun v8 =>
    Option.bind (jrf sh m a0 7 10 3) fun v9 =>
    Option.bind (jra sh m v9.toNat 13 x1) fun v10 =>
    Option.bind (jra sh m v8.toNat 13 v10) fun v11 =>
    Option.bind (jrf sh m a0 7 10 7) fun v12 =>
    Option.bind (jrf sh m a0 7 10 3) fun v13 =>
    Option.bind (jra sh m v13.toNat 13 x1) fun v14 =>
    Option.bind (jra sh m v12.toNat 13 v14) fun v15 =>
    if 0 < v11 then
      if 0 < v15 then
        if v11 = 0 then none else
        if v15 = 0 then none else
        f_X7_stepOf_b58 sh a0 x1 x2 (jrem (jdiv x2 v11) v15) m
      else
      f_X7_stepOf_b57 sh a0 x1 x2 m
    else
    f_X7_stepOf_b57 sh a0 x1 x2 m
  else
  f_X7_stepOf_b10 sh x2 m
def f_X5_lookFetch_b77 (N : Nat) (sh : jm_S) (k3 : Nat → Int → Nat → Nat → Int → jm_M → Option jm_M) (a0 : Nat) (x1 : Int) (a2 : Nat) (a3 : Nat) (x4 : Int) (m : jm_M) : Option jm_M :=
  k3 a0 x1 a2 a3 (jw (x4 + 1)) m
def f_X5_lookFetch_b75 (N : Nat) (sh : jm_S) (k3 : Nat → Int → Nat → Nat → Int → jm_M → Option jm_M) (a0 : Nat) (x1 : Int) (a2 : Nat) (a3 : Nat) (x4 : Int) (r0 : Nat) (s1 : Int) (s2 : Int) (s3 : Int) (m : jm_M) : Option jm_M :=
  Option.bind (jwa sh m r0 13 s1 (jw (s2 + s3))) fun m1 =>
  f_X5_lookFetch_b77 N sh k3 a0 x1 a2 a3 x4 m1
def f_X5_lookFetch_b3 (N : Nat) (sh : jm_S) (k3 : Nat → Int → Nat → Nat → Int → jm_M → Option jm_M) (a0 : Nat) (x1 : Int) (a2 : Nat) (a3 : Nat) (x4 : Int) (m : jm_M) : Option jm_M :=
  Option.bind (jrf sh m a0 5 10 5) fun v2 =>
  Option.bind (jrf sh m v2.toNat 7 10 0) fun v3 =>
  if x4 < v3 then
    Option.bind (jlen sh a3) fun v5 =>
    if x4 < v5 then
      Option.bind (jrf sh m a0 5 10 5) fun v7 =>
      Option.bind (jck sh v7.toNat 7 10) fun u8 =>
      Option.bind (f_X7_stepOf sh v7.toNat x1 x4 m) fun q9 =>
      if (jshr q9 1) < 0 then
        f_X5_lookFetch_b77 N sh k3 a0 x1 a2 a3 x4 m
      else
      Option.bind (jlen sh a2) fun v12 =>
      if (jshr q9 1) < v12 then
        Option.bind (jra sh m a2 13 (jshr q9 1)) fun v14 =>
        if (jand q9 1) = 1 then
          f_X5_lookFetch_b75 N sh k3 a0 x1 a2 a3 x4 a3 x4 v14 1 m
        else
        Option.bind (jrf sh m a0 5 10 2) fun v16 =>
        f_X5_lookFetch_b75 N sh k3 a0 x1 a2 a3 x4 a3 x4 v14 v16 m
      else
      f_X5_lookFetch_b77 N sh k3 a0 x1 a2 a3 x4 m
    else
    some m
  else
  some m
def f_X5_lookFetch_l3 (N : Nat) (sh : jm_S) : Nat → Nat → Int → Nat → Nat → Int → jm_M → Option jm_M
  | 0 => fun _ _ _ _ _ _ => none
  | n + 1 => fun a0 x1 a2 a3 x4 m => f_X5_lookFetch_b3 N sh (f_X5_lookFetch_l3 N sh n) a0 x1 a2 a3 x4 m
def f_X5_lookFetch (N : Nat) (sh : jm_S) (a0 : Nat) (x1 : Int) (a2 : Nat) (a3 : Nat) (m : jm_M) : Option jm_M :=
  f_X5_lookFetch_l3 N sh N a0 x1 a2 a3 0 m
def f_X5_look_b171 (N : Nat) (sh : jm_S) (rec : Nat → Int → Int → Nat → Nat → jm_M → Option jm_M) (a0 : Nat) (x1 : Int) (x2 : Int) (a3 : Nat) (a4 : Nat) (m : jm_M) : Option jm_M :=
  Option.bind (jck sh a0 5 10) fun u1 =>
  Option.bind (f_X5_lookLoop N sh rec a0 x1 x2 a3 a4 m) fun q2 =>
  some q2
def f_X5_look_e (N : Nat) (sh : jm_S) (rec : Nat → Int → Int → Nat → Nat → jm_M → Option jm_M) (a0 : Nat) (x1 : Int) (x2 : Int) (a3 : Nat) (a4 : Nat) (m : jm_M) : Option jm_M :=
  if 4 < x2 then
    some m
  else
  Option.bind (jrf sh m a0 5 10 8) fun v5 =>
  Option.bind (jlen sh v5.toNat) fun v6 =>
  if x2 < v6 then
    Option.bind (jrf sh m a0 5 10 8) fun v8 =>
    Option.bind (jra sh m v8.toNat 16 x2) fun v9 =>
    Option.bind (jrf sh m a0 5 10 3) fun v10 =>
    Option.bind (jck sh v10.toNat 10 4) fun u11 =>
    Option.bind (f_X10_firstPart v10.toNat x1) fun q12 =>
    Option.bind (jrf sh m a0 5 10 3) fun v14 =>
    Option.bind (jck sh v14.toNat 10 4) fun u15 =>
    Option.bind (f_X10_secondPart sh v14.toNat x1 m) fun q16 =>
    Option.bind (jrf sh m a0 5 10 3) fun v18 =>
    Option.bind (jck sh v18.toNat 10 4) fun u19 =>
    Option.bind (f_X10_signAt sh v18.toNat x1 m) fun q20 =>
    if (45 : Int) = q20 then
      Option.bind (jck sh a0 5 10) fun u23 =>
      Option.bind (f_X5_copy N sh a0 a3 a4 m) fun q24 =>
      some q24
    else
    if (59 : Int) = q20 then
      Option.bind (jck sh a0 5 10) fun u27 =>
      Option.bind (rec a0 q16 (jw (x2 + 1)) a3 v9.toNat m) fun q28 =>
      Option.bind (jck sh a0 5 10) fun u30 =>
      Option.bind (rec a0 q12 (jw (x2 + 1)) v9.toNat a4 q28) fun q31 =>
      some q31
    else
    if (63 : Int) = q20 then
      Option.bind (jck sh a0 5 10) fun u34 =>
      Option.bind (rec a0 q12 (jw (x2 + 1)) a3 a4 m) fun q35 =>
      Option.bind (jck sh a0 5 10) fun u37 =>
      Option.bind (rec a0 q16 (jw (x2 + 1)) a3 v9.toNat q35) fun q38 =>
      Option.bind (jck sh a0 5 10) fun u40 =>
      Option.bind (f_X5_raise N sh a0 a4 v9.toNat q38) fun q41 =>
      some q41
    else
    if (98 : Int) = q20 then
      f_X5_look_b171 N sh rec a0 x1 x2 a3 a4 m
    else
    if (99 : Int) = q20 then
      f_X5_look_b171 N sh rec a0 x1 x2 a3 a4 m
    else
    if (100 : Int) = q20 then
      f_X5_look_b171 N sh rec a0 x1 x2 a3 a4 m
    else
    Option.bind (jrf sh m a0 5 10 3) fun v46 =>
    Option.bind (jck sh v46.toNat 10 4) fun u47 =>
    Option.bind (f_X10_lineAt sh v46.toNat x1 m) fun q48 =>
    Option.bind (jck sh a0 5 10) fun u50 =>
    Option.bind (f_X5_lookFetch N sh a0 q48 a3 a4 m) fun q51 =>
    some q51
  else
  some m
def f_X5_look (N : Nat) (sh : jm_S) : Nat → Nat → Int → Int → Nat → Nat → jm_M → Option jm_M
  | 0 => fun _ _ _ _ _ _ => none
  | d + 1 => fun a0 x1 x2 a3 a4 m => f_X5_look_e N sh (f_X5_look N sh d) a0 x1 x2 a3 a4 m
def f_X5_walkBoth (N : Nat) (sh : jm_S) (rec : Nat → Int → Int → Nat → jm_M → Option jm_M) (a0 : Nat) (x1 : Int) (x2 : Int) (a3 : Nat) (m : jm_M) : Option jm_M :=
  Option.bind (jck sh a0 5 10) fun u1 =>
  Option.bind (f_X5_aheadRow sh a0 x2 0 a3 m) fun q2 =>
  Option.bind (jrf sh m a0 5 10 3) fun v4 =>
  Option.bind (jck sh v4.toNat 10 4) fun u5 =>
  Option.bind (f_X10_secondPart sh v4.toNat x1 m) fun q6 =>
  Option.bind (jck sh a0 5 10) fun u8 =>
  Option.bind (f_X5_look N sh 8 a0 q6 (jw (x2 + 1)) a3 q2 m) fun q9 =>
  Option.bind (jrf sh q9 a0 5 10 3) fun v11 =>
  Option.bind (jck sh v11.toNat 10 4) fun u12 =>
  Option.bind (f_X10_firstPart v11.toNat x1) fun q13 =>
  Option.bind (jck sh a0 5 10) fun u15 =>
  Option.bind (rec a0 q13 (jw (x2 + 1)) q2 q9) fun q16 =>
  Option.bind (jrf sh q16 a0 5 10 3) fun v18 =>
  Option.bind (jck sh v18.toNat 10 4) fun u19 =>
  Option.bind (f_X10_secondPart sh v18.toNat x1 q16) fun q20 =>
  Option.bind (jck sh a0 5 10) fun u22 =>
  Option.bind (rec a0 q20 (jw (x2 + 1)) a3 q16) fun q23 =>
  some q23
def f_X5_costHere (sh : jm_S) (a0 : Nat) (a1 : Nat) (m : jm_M) : Option Int :=
  Option.bind (jrf sh m a0 5 10 1) fun v1 =>
  if v1 < 0 then
    some 0
  else
  Option.bind (jrf sh m a0 5 10 1) fun v3 =>
  Option.bind (jlen sh a1) fun v4 =>
  if v3 < v4 then
    Option.bind (jrf sh m a0 5 10 1) fun v6 =>
    Option.bind (jra sh m a1 13 v6) fun v7 =>
    some v7
  else
  some 0
def f_X5_put_b22 (sh : jm_S) (a0 : Nat) (m : jm_M) : Option jm_M :=
  Option.bind (jrf sh m a0 5 10 0) fun v1 =>
  Option.bind (jwf sh m a0 5 10 0 (jw (v1 + 1))) fun m2 =>
  some m2
def f_X5_put (sh : jm_S) (a0 : Nat) (x1 : Int) (m : jm_M) : Option jm_M :=
  Option.bind (jrf sh m a0 5 10 0) fun v3 =>
  Option.bind (jrf sh m a0 5 10 6) fun v4 =>
  Option.bind (jlen sh v4.toNat) fun v5 =>
  if v3 < v5 then
    Option.bind (jrf sh m a0 5 10 6) fun v7 =>
    Option.bind (jrf sh m a0 5 10 0) fun v8 =>
    Option.bind (jwa sh m v7.toNat 13 v8 x1) fun m9 =>
    f_X5_put_b22 sh a0 m9
  else
  f_X5_put_b22 sh a0 m
def f_X5_walkOne_b115 (N : Nat) (sh : jm_S) (rec : Nat → Int → Int → Nat → jm_M → Option jm_M) (x2 : Int) (a3 : Nat) (r0 : Nat) (s1 : Int) (m : jm_M) : Option jm_M :=
  Option.bind (jck sh r0 5 10) fun u1 =>
  Option.bind (rec r0 s1 (jw (x2 + 1)) a3 m) fun q2 =>
  some q2
def f_X5_walkOne_b87 (N : Nat) (sh : jm_S) (rec : Nat → Int → Int → Nat → jm_M → Option jm_M) (a0 : Nat) (x1 : Int) (x2 : Int) (a3 : Nat) (x6 : Int) (r0 : Nat) (s1 : Int) (m : jm_M) : Option jm_M :=
  Option.bind (jck sh r0 5 10) fun u4 =>
  Option.bind (f_X5_put sh r0 s1 m) fun q5 =>
  if x6 = 0 then
    Option.bind (jrf sh q5 a0 5 10 3) fun v8 =>
    Option.bind (jck sh v8.toNat 10 4) fun u9 =>
    Option.bind (f_X10_secondPart sh v8.toNat x1 q5) fun q10 =>
    f_X5_walkOne_b115 N sh rec x2 a3 a0 q10 q5
  else
  Option.bind (jrf sh q5 a0 5 10 3) fun v12 =>
  Option.bind (jck sh v12.toNat 10 4) fun u13 =>
  Option.bind (f_X10_firstPart v12.toNat x1) fun q14 =>
  f_X5_walkOne_b115 N sh rec x2 a3 a0 q14 q5
def f_X5_walkOne_b74 (N : Nat) (sh : jm_S) (rec : Nat → Int → Int → Nat → jm_M → Option jm_M) (a0 : Nat) (x1 : Int) (x2 : Int) (a3 : Nat) (s0 : Int) (m : jm_M) : Option jm_M :=
  if s0 = 0 then
    f_X5_walkOne_b87 N sh rec a0 x1 x2 a3 s0 a0 1 m
  else
  f_X5_walkOne_b87 N sh rec a0 x1 x2 a3 s0 a0 0 m
def f_X5_walkOne (N : Nat) (sh : jm_S) (rec : Nat → Int → Int → Nat → jm_M → Option jm_M) (a0 : Nat) (x1 : Int) (x2 : Int) (a3 : Nat) (m : jm_M) : Option jm_M :=
  Option.bind (jck sh a0 5 10) fun u17 =>
  Option.bind (f_X5_aheadRow sh a0 x2 0 a3 m) fun q18 =>
  Option.bind (jck sh a0 5 10) fun u20 =>
  Option.bind (f_X5_aheadRow sh a0 x2 1 a3 m) fun q21 =>
  Option.bind (jrf sh m a0 5 10 3) fun v23 =>
  Option.bind (jck sh v23.toNat 10 4) fun u24 =>
  Option.bind (f_X10_firstPart v23.toNat x1) fun q25 =>
  Option.bind (jck sh a0 5 10) fun u27 =>
  Option.bind (f_X5_look N sh 8 a0 q25 (jw (x2 + 1)) a3 q18 m) fun q28 =>
  Option.bind (jrf sh q28 a0 5 10 3) fun v30 =>
  Option.bind (jck sh v30.toNat 10 4) fun u31 =>
  Option.bind (f_X10_secondPart sh v30.toNat x1 q28) fun q32 =>
  Option.bind (jck sh a0 5 10) fun u34 =>
  Option.bind (f_X5_look N sh 8 a0 q32 (jw (x2 + 1)) a3 q21 q28) fun q35 =>
  Option.bind (jck sh a0 5 10) fun u37 =>
  Option.bind (f_X5_costHere sh a0 q18 q35) fun q38 =>
  Option.bind (jck sh a0 5 10) fun u40 =>
  Option.bind (f_X5_costHere sh a0 q21 q35) fun q41 =>
  if q38 < q41 then
    f_X5_walkOne_b74 N sh rec a0 x1 x2 a3 0 q35
  else
  f_X5_walkOne_b74 N sh rec a0 x1 x2 a3 1 q35
def f_X5_walkLoop_b143 (N : Nat) (sh : jm_S) (rec : Nat → Int → Int → Nat → jm_M → Option jm_M) (k113 : Nat → Int → Nat → Int → Int → jm_M → Option jm_M) (a0 : Nat) (x2 : Int) (a3 : Nat) (x4 : Int) (x9 : Int) (r0 : Nat) (s1 : Int) (s2 : Int) (r3 : Nat) (m : jm_M) : Option jm_M :=
  Option.bind (jck sh r0 5 10) fun u1 =>
  Option.bind (rec r0 s1 s2 r3 m) fun q2 =>
  k113 a0 x2 a3 x4 (jw (x9 + (-1))) q2
def f_X5_walkLoop_b113 (N : Nat) (sh : jm_S) (rec : Nat → Int → Int → Nat → jm_M → Option jm_M) (k113 : Nat → Int → Nat → Int → Int → jm_M → Option jm_M) (a0 : Nat) (x2 : Int) (a3 : Nat) (x4 : Int) (x9 : Int) (m : jm_M) : Option jm_M :=
  if x9 < 0 then
    some m
  else
  if x9 = 0 then
    f_X5_walkLoop_b143 N sh rec k113 a0 x2 a3 x4 x9 a0 x4 (jw (x2 + 1)) a3 m
  else
  Option.bind (jck sh a0 5 10) fun u6 =>
  Option.bind (f_X5_aheadRow sh a0 x2 (jw (x9 - 1)) a3 m) fun q7 =>
  f_X5_walkLoop_b143 N sh rec k113 a0 x2 a3 x4 x9 a0 x4 (jw (x2 + 1)) q7 m
def f_X5_walkLoop_l113 (N : Nat) (sh : jm_S) (rec : Nat → Int → Int → Nat → jm_M → Option jm_M) : Nat → Nat → Int → Nat → Int → Int → jm_M → Option jm_M
  | 0 => fun _ _ _ _ _ _ => none
  | n + 1 => fun a0 x2 a3 x4 x9 m => f_X5_walkLoop_b113 N sh rec (f_X5_walkLoop_l113 N sh rec n) a0 x2 a3 x4 x9 m
def f_X5_walkLoop_b91 (N : Nat) (sh : jm_S) (rec : Nat → Int → Int → Nat → jm_M → Option jm_M) (k36 : Nat → Int → Nat → Int → Int → Int → Int → Nat → Int → jm_M → Option jm_M) (a0 : Nat) (x2 : Int) (a3 : Nat) (x4 : Int) (x5 : Int) (x6 : Int) (x7 : Int) (x9 : Int) (a10 : Nat) (m : jm_M) : Option jm_M :=
  k36 a0 x2 a3 x4 x5 x6 x7 a10 (jw (x9 + 1)) m
def f_X5_walkLoop_b36 (N : Nat) (sh : jm_S) (rec : Nat → Int → Int → Nat → jm_M → Option jm_M) (k36 : Nat → Int → Nat → Int → Int → Int → Int → Nat → Int → jm_M → Option jm_M) (a0 : Nat) (x2 : Int) (a3 : Nat) (x4 : Int) (x5 : Int) (x6 : Int) (x7 : Int) (a8 : Nat) (x9 : Int) (m : jm_M) : Option jm_M :=
  if x9 < x5 then
    Option.bind (jck sh a0 5 10) fun u10 =>
    Option.bind (f_X5_aheadRow sh a0 x2 x9 a3 m) fun q11 =>
    Option.bind (jck sh a0 5 10) fun u13 =>
    Option.bind (f_X5_look N sh 8 a0 x4 (jw (x2 + 1)) a8 q11 m) fun q14 =>
    Option.bind (jck sh a0 5 10) fun u16 =>
    Option.bind (f_X5_costHere sh a0 q11 q14) fun q17 =>
    if x7 < q17 then
      Option.bind (jck sh a0 5 10) fun u20 =>
      Option.bind (f_X5_costHere sh a0 q11 q14) fun q21 =>
      f_X5_walkLoop_b91 N sh rec k36 a0 x2 a3 x4 x5 (jw (x9 + 1)) q21 x9 q11 q14
    else
    f_X5_walkLoop_b91 N sh rec k36 a0 x2 a3 x4 x5 x6 x7 x9 q11 q14
  else
  Option.bind (jck sh a0 5 10) fun u23 =>
  Option.bind (f_X5_put sh a0 x6 m) fun q24 =>
  f_X5_walkLoop_l113 N sh rec N a0 x2 a3 x4 (jw (x6 - 1)) q24
def f_X5_walkLoop_l36 (N : Nat) (sh : jm_S) (rec : Nat → Int → Int → Nat → jm_M → Option jm_M) : Nat → Nat → Int → Nat → Int → Int → Int → Int → Nat → Int → jm_M → Option jm_M
  | 0 => fun _ _ _ _ _ _ _ _ _ _ => none
  | n + 1 => fun a0 x2 a3 x4 x5 x6 x7 a8 x9 m => f_X5_walkLoop_b36 N sh rec (f_X5_walkLoop_l36 N sh rec n) a0 x2 a3 x4 x5 x6 x7 a8 x9 m
def f_X5_walkLoop (N : Nat) (sh : jm_S) (rec : Nat → Int → Int → Nat → jm_M → Option jm_M) (a0 : Nat) (x1 : Int) (x2 : Int) (a3 : Nat) (m : jm_M) : Option jm_M :=
  Option.bind (jrf sh m a0 5 10 3) fun v26 =>
  Option.bind (jck sh v26.toNat 10 4) fun u27 =>
  Option.bind (f_X10_firstPart v26.toNat x1) fun q28 =>
  Option.bind (jrf sh m a0 5 10 3) fun v30 =>
  Option.bind (jck sh v30.toNat 10 4) fun u31 =>
  Option.bind (f_X10_timesAt sh v30.toNat x1 m) fun q32 =>
  Option.bind (jck sh a0 5 10) fun u34 =>
  Option.bind (f_X5_costHere sh a0 a3 m) fun q35 =>
  f_X5_walkLoop_l36 N sh rec N a0 x2 a3 q28 q32 0 q35 a3 0 m
def f_X5_walk_b100 (N : Nat) (sh : jm_S) (rec : Nat → Int → Int → Nat → jm_M → Option jm_M) (a0 : Nat) (x1 : Int) (x2 : Int) (a3 : Nat) (m : jm_M) : Option jm_M :=
  Option.bind (jck sh a0 5 10) fun u1 =>
  Option.bind (f_X5_walkLoop N sh rec a0 x1 x2 a3 m) fun q2 =>
  some q2
def f_X5_walk_e (N : Nat) (sh : jm_S) (rec : Nat → Int → Int → Nat → jm_M → Option jm_M) (a0 : Nat) (x1 : Int) (x2 : Int) (a3 : Nat) (m : jm_M) : Option jm_M :=
  if 4 < x2 then
    some m
  else
  Option.bind (jrf sh m a0 5 10 0) fun v5 =>
  if 20 < v5 then
    some m
  else
  Option.bind (jrf sh m a0 5 10 3) fun v7 =>
  Option.bind (jck sh v7.toNat 10 4) fun u8 =>
  Option.bind (f_X10_signAt sh v7.toNat x1 m) fun q9 =>
  if (45 : Int) = q9 then
    some m
  else
  if (59 : Int) = q9 then
    Option.bind (jck sh a0 5 10) fun u13 =>
    Option.bind (f_X5_walkBoth N sh rec a0 x1 x2 a3 m) fun q14 =>
    some q14
  else
  if (63 : Int) = q9 then
    Option.bind (jck sh a0 5 10) fun u17 =>
    Option.bind (f_X5_walkOne N sh rec a0 x1 x2 a3 m) fun q18 =>
    some q18
  else
  if (98 : Int) = q9 then
    f_X5_walk_b100 N sh rec a0 x1 x2 a3 m
  else
  if (99 : Int) = q9 then
    f_X5_walk_b100 N sh rec a0 x1 x2 a3 m
  else
  if (100 : Int) = q9 then
    f_X5_walk_b100 N sh rec a0 x1 x2 a3 m
  else
  Option.bind (jrf sh m a0 5 10 5) fun v23 =>
  Option.bind (jrf sh m a0 5 10 3) fun v24 =>
  Option.bind (jck sh v24.toNat 10 4) fun u25 =>
  Option.bind (f_X10_lineAt sh v24.toNat x1 m) fun q26 =>
  Option.bind (jrf sh m a0 5 10 1) fun v28 =>
  Option.bind (jck sh v23.toNat 7 10) fun u29 =>
  Option.bind (f_X7_stepOf sh v23.toNat q26 v28 m) fun q30 =>
  Option.bind (jwf sh m a0 5 10 1 (jshr q30 1)) fun m32 =>
  some m32
def f_X5_walk (N : Nat) (sh : jm_S) : Nat → Nat → Int → Int → Nat → jm_M → Option jm_M
  | 0 => fun _ _ _ _ _ => none
  | d + 1 => fun a0 x1 x2 a3 m => f_X5_walk_e N sh (f_X5_walk N sh d) a0 x1 x2 a3 m
def f_X5_find_b85 (N : Nat) (sh : jm_S) (a0 : Nat) (m : jm_M) : Option jm_M :=
  Option.bind (jrf sh m a0 5 10 7) fun v1 =>
  Option.bind (jck sh a0 5 10) fun u2 =>
  Option.bind (f_X5_walk N sh 8 a0 0 0 v1.toNat m) fun q3 =>
  some q3
def f_X5_find_b52 (N : Nat) (sh : jm_S) (k52 : Nat → Int → jm_M → Option jm_M) (a0 : Nat) (x2 : Int) (m : jm_M) : Option jm_M :=
  Option.bind (jrf sh m a0 5 10 5) fun v5 =>
  Option.bind (jrf sh m v5.toNat 7 10 0) fun v6 =>
  if x2 < v6 then
    Option.bind (jrf sh m a0 5 10 7) fun v8 =>
    Option.bind (jlen sh v8.toNat) fun v9 =>
    if x2 < v9 then
      Option.bind (jrf sh m a0 5 10 7) fun v11 =>
      Option.bind (jwa sh m v11.toNat 13 x2 0) fun m12 =>
      k52 a0 (jw (x2 + 1)) m12
    else
    f_X5_find_b85 N sh a0 m
  else
  f_X5_find_b85 N sh a0 m
def f_X5_find_l52 (N : Nat) (sh : jm_S) : Nat → Nat → Int → jm_M → Option jm_M
  | 0 => fun _ _ _ => none
  | n + 1 => fun a0 x2 m => f_X5_find_b52 N sh (f_X5_find_l52 N sh n) a0 x2 m
def f_X5_find (N : Nat) (sh : jm_S) (a0 : Nat) (a1 : Nat) (m : jm_M) : Option jm_M :=
  Option.bind (jwr sh m a0 5 10 3 a1) fun m13 =>
  Option.bind (jrf sh m13 a0 5 10 4) fun v14 =>
  Option.bind (jck sh v14.toNat 1 9) fun u15 =>
  Option.bind (f_X1_setting sh v14.toNat 2 m13) fun q16 =>
  Option.bind (jwf sh m13 a0 5 10 2 q16) fun m18 =>
  Option.bind (jwf sh m18 a0 5 10 0 0) fun m19 =>
  Option.bind (jwf sh m19 a0 5 10 1 0) fun m20 =>
  Option.bind (jrf sh m20 a0 5 10 5) fun v21 =>
  Option.bind (jrf sh m20 a0 5 10 4) fun v22 =>
  Option.bind (jrf sh m20 a0 5 10 4) fun v23 =>
  Option.bind (jck sh v23.toNat 1 9) fun u24 =>
  Option.bind (f_X1_setting sh v23.toNat 3 m20) fun q25 =>
  Option.bind (jck sh a1 10 4) fun u27 =>
  Option.bind (f_X10_allLines sh a1 m20) fun q28 =>
  Option.bind (jck sh v21.toNat 7 10) fun u30 =>
  Option.bind (f_X7_lay N sh v21.toNat v22.toNat q25 q28 m20) fun q31 =>
  f_X5_find_l52 N sh N a0 0 q31
def f_X5_digitAt (sh : jm_S) (a0 : Nat) (x1 : Int) (m : jm_M) : Option Int :=
  if x1 < 0 then
    some (-6)
  else
  Option.bind (jrf sh m a0 5 10 0) fun v2 =>
  if x1 < v2 then
    Option.bind (jrf sh m a0 5 10 6) fun v4 =>
    Option.bind (jlen sh v4.toNat) fun v5 =>
    if x1 < v5 then
      Option.bind (jrf sh m a0 5 10 6) fun v7 =>
      Option.bind (jra sh m v7.toNat 13 x1) fun v8 =>
      some v8
    else
    some (-6)
  else
  some (-6)
def f_X6_nextDigit (sh : jm_S) (a0 : Nat) (m : jm_M) : Option (Int × jm_M) :=
  Option.bind (jrf sh m a0 6 8 6) fun v1 =>
  Option.bind (jrf sh m a0 6 8 3) fun v2 =>
  Option.bind (jck sh v1.toNat 1 9) fun u3 =>
  Option.bind (f_X1_digitAt sh v1.toNat v2 m) fun q4 =>
  Option.bind (jrf sh m a0 6 8 3) fun v6 =>
  Option.bind (jwf sh m a0 6 8 3 (jw (v6 + 1))) fun m7 =>
  some (q4, m7)
def f_X6_howOften (sh : jm_S) (a0 : Nat) (x1 : Int) (m : jm_M) : Option (Int × jm_M) :=
  Option.bind (jck sh a0 6 8) fun u1 =>
  Option.bind (f_X6_nextDigit sh a0 m) fun q2 =>
  if 0 < x1 then
    if x1 = 0 then none else
    some (jrem q2.1 x1, q2.2)
  else
  some (0, q2.2)
def f_X6_fetch_b75 (sh : jm_S) (a0 : Nat) (x2 : Int) (r0 : Nat) (s1 : Int) (s2 : Int) (m : jm_M) : Option jm_M :=
  Option.bind (jwf sh m r0 6 8 0 (jw (s1 + s2))) fun m1 =>
  Option.bind (jwf sh m1 a0 6 8 4 (jshr x2 1)) fun m2 =>
  some m2
def f_X6_fetch_b50 (sh : jm_S) (a0 : Nat) (x2 : Int) (x3 : Int) (r0 : Nat) (s1 : Int) (s2 : Int) (m : jm_M) : Option jm_M :=
  Option.bind (jwf sh m r0 6 8 2 (jw (s1 + s2))) fun m3 =>
  Option.bind (jrf sh m3 a0 6 8 0) fun v4 =>
  if x3 = 0 then
    Option.bind (jrf sh m3 a0 6 8 6) fun v6 =>
    Option.bind (jck sh v6.toNat 1 9) fun u7 =>
    Option.bind (f_X1_setting sh v6.toNat 2 m3) fun q8 =>
    f_X6_fetch_b75 sh a0 x2 a0 v4 q8 m3
  else
  f_X6_fetch_b75 sh a0 x2 a0 v4 1 m3
def f_X6_fetch_b25 (sh : jm_S) (a0 : Nat) (x2 : Int) (s0 : Int) (m : jm_M) : Option jm_M :=
  Option.bind (jrf sh m a0 6 8 1) fun v10 =>
  Option.bind (jwf sh m a0 6 8 1 (jw (v10 + 1))) fun m11 =>
  Option.bind (jrf sh m11 a0 6 8 2) fun v12 =>
  if s0 = 0 then
    f_X6_fetch_b50 sh a0 x2 s0 a0 v12 1 m11
  else
  f_X6_fetch_b50 sh a0 x2 s0 a0 v12 0 m11
def f_X6_fetch (sh : jm_S) (a0 : Nat) (x1 : Int) (m : jm_M) : Option jm_M :=
  Option.bind (jrf sh m a0 6 8 7) fun v14 =>
  Option.bind (jrf sh m a0 6 8 4) fun v15 =>
  Option.bind (jck sh v14.toNat 7 10) fun u16 =>
  Option.bind (f_X7_stepOf sh v14.toNat x1 v15 m) fun q17 =>
  if (jand q17 1) = 1 then
    f_X6_fetch_b25 sh a0 q17 1 m
  else
  f_X6_fetch_b25 sh a0 q17 0 m
def f_X6_go_b83 (N : Nat) (sh : jm_S) (rec : Nat → Int → Int → jm_M → Option jm_M) (k83 : Nat → Int → Int → Int → Int → jm_M → Option jm_M) (a0 : Nat) (x2 : Int) (x3 : Int) (x5 : Int) (x6 : Int) (m : jm_M) : Option jm_M :=
  if x6 < x5 then
    Option.bind (jck sh a0 6 8) fun u2 =>
    Option.bind (rec a0 x3 (jw (x2 + 1)) m) fun q3 =>
    k83 a0 x2 x3 x5 (jw (x6 + 1)) q3
  else
  some m
def f_X6_go_l83 (N : Nat) (sh : jm_S) (rec : Nat → Int → Int → jm_M → Option jm_M) : Nat → Nat → Int → Int → Int → Int → jm_M → Option jm_M
  | 0 => fun _ _ _ _ _ _ => none
  | n + 1 => fun a0 x2 x3 x5 x6 m => f_X6_go_b83 N sh rec (f_X6_go_l83 N sh rec n) a0 x2 x3 x5 x6 m
def f_X6_go_b136 (N : Nat) (sh : jm_S) (rec : Nat → Int → Int → jm_M → Option jm_M) (x2 : Int) (r0 : Nat) (s1 : Int) (m : jm_M) : Option jm_M :=
  Option.bind (jck sh r0 6 8) fun u5 =>
  Option.bind (rec r0 s1 (jw (x2 + 1)) m) fun q6 =>
  some q6
def f_X6_go_e (N : Nat) (sh : jm_S) (rec : Nat → Int → Int → jm_M → Option jm_M) (a0 : Nat) (x1 : Int) (x2 : Int) (m : jm_M) : Option jm_M :=
  if 4 < x2 then
    some m
  else
  Option.bind (jrf sh m a0 6 8 5) fun v9 =>
  Option.bind (jck sh v9.toNat 10 4) fun u10 =>
  Option.bind (f_X10_firstPart v9.toNat x1) fun q11 =>
  Option.bind (jrf sh m a0 6 8 5) fun v13 =>
  Option.bind (jck sh v13.toNat 10 4) fun u14 =>
  Option.bind (f_X10_secondPart sh v13.toNat x1 m) fun q15 =>
  Option.bind (jrf sh m a0 6 8 5) fun v17 =>
  Option.bind (jck sh v17.toNat 10 4) fun u18 =>
  Option.bind (f_X10_signAt sh v17.toNat x1 m) fun q19 =>
  Option.bind (f_X11_partsOf q19) fun q21 =>
  if (1 : Int) = q21 then
    Option.bind (jrf sh m a0 6 8 5) fun v24 =>
    Option.bind (jck sh v24.toNat 10 4) fun u25 =>
    Option.bind (f_X10_timesAt sh v24.toNat x1 m) fun q26 =>
    Option.bind (jck sh a0 6 8) fun u28 =>
    Option.bind (f_X6_howOften sh a0 (jw (q26 + 1)) m) fun q29 =>
    f_X6_go_l83 N sh rec N a0 x2 q11 q29.1 0 q29.2
  else
  if (2 : Int) = q21 then
    Option.bind (jrf sh m a0 6 8 5) fun v32 =>
    Option.bind (jck sh v32.toNat 10 4) fun u33 =>
    Option.bind (f_X10_signAt sh v32.toNat x1 m) fun q34 =>
    if q34 = 63 then
      Option.bind (jck sh a0 6 8) fun u37 =>
      Option.bind (f_X6_nextDigit sh a0 m) fun q38 =>
      if (jrem q38.1 2) = 0 then
        f_X6_go_b136 N sh rec x2 a0 q11 q38.2
      else
      f_X6_go_b136 N sh rec x2 a0 q15 q38.2
    else
    Option.bind (jck sh a0 6 8) fun u41 =>
    Option.bind (rec a0 q11 (jw (x2 + 1)) m) fun q42 =>
    Option.bind (jck sh a0 6 8) fun u44 =>
    Option.bind (rec a0 q15 (jw (x2 + 1)) q42) fun q45 =>
    some q45
  else
  Option.bind (jrf sh m a0 6 8 5) fun v47 =>
  Option.bind (jck sh v47.toNat 10 4) fun u48 =>
  Option.bind (f_X10_isFetchAt sh v47.toNat x1 m) fun q49 =>
  if q49 = 0 then
    some m
  else
  Option.bind (jrf sh m a0 6 8 5) fun v52 =>
  Option.bind (jck sh v52.toNat 10 4) fun u53 =>
  Option.bind (f_X10_lineAt sh v52.toNat x1 m) fun q54 =>
  Option.bind (jck sh a0 6 8) fun u56 =>
  Option.bind (f_X6_fetch sh a0 q54 m) fun q57 =>
  some q57
def f_X6_go (N : Nat) (sh : jm_S) : Nat → Nat → Int → Int → jm_M → Option jm_M
  | 0 => fun _ _ _ _ => none
  | d + 1 => fun a0 x1 x2 m => f_X6_go_e N sh (f_X6_go N sh d) a0 x1 x2 m
def f_X6_goThrough (N : Nat) (sh : jm_S) (a0 : Nat) (a1 : Nat) (m : jm_M) : Option jm_M :=
  Option.bind (jwr sh m a0 6 8 5 a1) fun m1 =>
  Option.bind (jwf sh m1 a0 6 8 0 0) fun m2 =>
  Option.bind (jwf sh m2 a0 6 8 1 0) fun m3 =>
  Option.bind (jwf sh m3 a0 6 8 2 0) fun m4 =>
  Option.bind (jwf sh m4 a0 6 8 3 0) fun m5 =>
  Option.bind (jwf sh m5 a0 6 8 4 0) fun m6 =>
  Option.bind (jrf sh m6 a0 6 8 7) fun v7 =>
  Option.bind (jrf sh m6 a0 6 8 6) fun v8 =>
  Option.bind (jrf sh m6 a0 6 8 6) fun v9 =>
  Option.bind (jck sh v9.toNat 1 9) fun u10 =>
  Option.bind (f_X1_setting sh v9.toNat 3 m6) fun q11 =>
  Option.bind (jck sh a1 10 4) fun u13 =>
  Option.bind (f_X10_allLines sh a1 m6) fun q14 =>
  Option.bind (jck sh v7.toNat 7 10) fun u16 =>
  Option.bind (f_X7_lay N sh v7.toNat v8.toNat q11 q14 m6) fun q17 =>
  Option.bind (jck sh a0 6 8) fun u19 =>
  Option.bind (f_X6_go N sh 8 a0 0 0 q17) fun q20 =>
  some q20
def f_X7_linesOn_b42 (N : Nat) (sh : jm_S) (k7 : Nat → Int → Int → Int → Option Int) (a0 : Nat) (x1 : Int) (x2 : Int) (x3 : Int) (m : jm_M) : Option Int :=
  k7 a0 x1 x2 (jw (x3 + 1))
def f_X7_linesOn_b7 (N : Nat) (sh : jm_S) (k7 : Nat → Int → Int → Int → Option Int) (a0 : Nat) (x1 : Int) (x2 : Int) (x3 : Int) (m : jm_M) : Option Int :=
  if x3 < 8 then
    Option.bind (jrf sh m a0 7 10 2) fun v2 =>
    Option.bind (f_X11_isIn v2 x3) fun q3 =>
    if q3 = 0 then
      f_X7_linesOn_b42 N sh k7 a0 x1 x2 x3 m
    else
    Option.bind (jck sh a0 7 10) fun u6 =>
    Option.bind (f_X7_stepOf sh a0 x3 x1 m) fun q7 =>
    if (jand q7 1) = 1 then
      f_X7_linesOn_b42 N sh k7 a0 x1 (jor x2 (jshl 1 x3)) x3 m
    else
    f_X7_linesOn_b42 N sh k7 a0 x1 x2 x3 m
  else
  some x2
def f_X7_linesOn_l7 (N : Nat) (sh : jm_S) : Nat → Nat → Int → Int → Int → jm_M → Option Int
  | 0 => fun _ _ _ _ _ => none
  | n + 1 => fun a0 x1 x2 x3 m => f_X7_linesOn_b7 N sh (fun a0 x1 x2 x3 => f_X7_linesOn_l7 N sh n a0 x1 x2 x3 m) a0 x1 x2 x3 m
def f_X7_linesOn (N : Nat) (sh : jm_S) (a0 : Nat) (x1 : Int) (m : jm_M) : Option Int :=
  Option.bind (jrf sh m a0 7 10 1) fun v10 =>
  f_X7_linesOn_l7 N sh N a0 x1 v10 0 m
def f_X6_linesThere (N : Nat) (sh : jm_S) (a0 : Nat) (m : jm_M) : Option Int :=
  Option.bind (jrf sh m a0 6 8 7) fun v1 =>
  Option.bind (jrf sh m a0 6 8 4) fun v2 =>
  Option.bind (jck sh v1.toNat 7 10) fun u3 =>
  Option.bind (f_X7_linesOn N sh v1.toNat v2 m) fun q4 =>
  some q4
def f_X8_betweenAt_b23 (sh : jm_S) (a0 : Nat) (r0 : Nat) (m : jm_M) : Option Nat :=
  if r0 = 0 then
    Option.bind (jrf sh m a0 8 10 8) fun v2 =>
    some v2.toNat
  else
  some r0
def f_X8_betweenAt_b22 (sh : jm_S) (a0 : Nat) (m : jm_M) : Option Nat :=
  f_X8_betweenAt_b23 sh a0 0 m
def f_X8_betweenAt (sh : jm_S) (a0 : Nat) (x1 : Int) (m : jm_M) : Option Nat :=
  if x1 < 0 then
    f_X8_betweenAt_b22 sh a0 m
  else
  Option.bind (jrf sh m a0 8 10 9) fun v4 =>
  Option.bind (jlen sh v4.toNat) fun v5 =>
  if x1 < v5 then
    Option.bind (jrf sh m a0 8 10 9) fun v7 =>
    Option.bind (jra sh m v7.toNat 15 x1) fun v8 =>
    f_X8_betweenAt_b23 sh a0 v8.toNat m
  else
  f_X8_betweenAt_b22 sh a0 m
def f_X8_repeat_b30 (N : Nat) (sh : jm_S) (rec : Nat → Int → Int → Nat → Nat → jm_M → Option jm_M) (k30 : Nat → Int → Int → Nat → Nat → Int → Int → jm_M → Option jm_M) (a0 : Nat) (x1 : Int) (x2 : Int) (a4 : Nat) (a5 : Nat) (x6 : Int) (x7 : Int) (m : jm_M) : Option jm_M :=
  if x7 < x6 then
    Option.bind (jrf sh m a0 8 10 4) fun v2 =>
    Option.bind (jck sh v2.toNat 10 4) fun u3 =>
    Option.bind (f_X10_firstPart v2.toNat x1) fun q4 =>
    Option.bind (jck sh a0 8 10) fun u6 =>
    Option.bind (rec a0 q4 (jw (x2 + 1)) a4 a5 m) fun q7 =>
    Option.bind (jrf sh q7 a0 8 10 2) fun v9 =>
    Option.bind (jck sh a4 4 4) fun u10 =>
    Option.bind (f_X4_addAll N sh a4 a5 v9 q7) fun q11 =>
    k30 a0 x1 x2 a4 a5 x6 (jw (x7 + 1)) q11
  else
  some m
def f_X8_repeat_l30 (N : Nat) (sh : jm_S) (rec : Nat → Int → Int → Nat → Nat → jm_M → Option jm_M) : Nat → Nat → Int → Int → Nat → Nat → Int → Int → jm_M → Option jm_M
  | 0 => fun _ _ _ _ _ _ _ _ => none
  | n + 1 => fun a0 x1 x2 a4 a5 x6 x7 m => f_X8_repeat_b30 N sh rec (f_X8_repeat_l30 N sh rec n) a0 x1 x2 a4 a5 x6 x7 m
def f_X8_repeat (N : Nat) (sh : jm_S) (rec : Nat → Int → Int → Nat → Nat → jm_M → Option jm_M) (a0 : Nat) (x1 : Int) (x2 : Int) (a3 : Nat) (a4 : Nat) (m : jm_M) : Option jm_M :=
  Option.bind (jck sh a0 8 10) fun u13 =>
  Option.bind (f_X8_betweenAt sh a0 x2 m) fun q14 =>
  Option.bind (jrf sh m a0 8 10 4) fun v16 =>
  Option.bind (jck sh v16.toNat 10 4) fun u17 =>
  Option.bind (f_X10_timesAt sh v16.toNat x1 m) fun q18 =>
  Option.bind (jrf sh m a0 8 10 2) fun v20 =>
  Option.bind (jck sh a4 4 4) fun u21 =>
  Option.bind (f_X4_addAll N sh a4 a3 v20 m) fun q22 =>
  f_X8_repeat_l30 N sh rec N a0 x1 x2 a4 q14 q18 0 q22
def f_X8_fetch_b44 (N : Nat) (sh : jm_S) (k3 : Nat → Int → Nat → Nat → Int → jm_M → Option jm_M) (a0 : Nat) (x1 : Int) (a2 : Nat) (a3 : Nat) (x4 : Int) (x5 : Int) (s0 : Int) (m : jm_M) : Option jm_M :=
  Option.bind (jck sh a2 4 4) fun u1 =>
  Option.bind (f_X4_costAt sh a2 x4 m) fun q2 =>
  Option.bind (jrf sh m a0 8 10 2) fun v4 =>
  Option.bind (jck sh a3 4 4) fun u5 =>
  Option.bind (f_X4_add sh a3 (jshr x5 1) (jw (q2 + s0)) v4 m) fun q6 =>
  k3 a0 x1 a2 a3 (jw (x4 + 1)) q6
def f_X8_fetch_b3 (N : Nat) (sh : jm_S) (k3 : Nat → Int → Nat → Nat → Int → jm_M → Option jm_M) (a0 : Nat) (x1 : Int) (a2 : Nat) (a3 : Nat) (x4 : Int) (m : jm_M) : Option jm_M :=
  Option.bind (jrf sh m a2 4 4 0) fun v8 =>
  if x4 < v8 then
    Option.bind (jrf sh m a0 8 10 6) fun v10 =>
    Option.bind (jck sh a2 4 4) fun u11 =>
    Option.bind (f_X4_shelfAt sh a2 x4 m) fun q12 =>
    Option.bind (jck sh v10.toNat 7 10) fun u14 =>
    Option.bind (f_X7_stepOf sh v10.toNat x1 q12 m) fun q15 =>
    if (jand q15 1) = 1 then
      f_X8_fetch_b44 N sh k3 a0 x1 a2 a3 x4 q15 1 m
    else
    Option.bind (jrf sh m a0 8 10 3) fun v18 =>
    f_X8_fetch_b44 N sh k3 a0 x1 a2 a3 x4 q15 v18 m
  else
  some m
def f_X8_fetch_l3 (N : Nat) (sh : jm_S) : Nat → Nat → Int → Nat → Nat → Int → jm_M → Option jm_M
  | 0 => fun _ _ _ _ _ _ => none
  | n + 1 => fun a0 x1 a2 a3 x4 m => f_X8_fetch_b3 N sh (f_X8_fetch_l3 N sh n) a0 x1 a2 a3 x4 m
def f_X8_fetch (N : Nat) (sh : jm_S) (a0 : Nat) (x1 : Int) (a2 : Nat) (a3 : Nat) (m : jm_M) : Option jm_M :=
  f_X8_fetch_l3 N sh N a0 x1 a2 a3 0 m
def f_X8_flow_b183 (N : Nat) (sh : jm_S) (rec : Nat → Int → Int → Nat → Nat → jm_M → Option jm_M) (a0 : Nat) (x1 : Int) (x2 : Int) (a3 : Nat) (a4 : Nat) (m : jm_M) : Option jm_M :=
  Option.bind (jck sh a0 8 10) fun u1 =>
  Option.bind (f_X8_repeat N sh rec a0 x1 x2 a3 a4 m) fun q2 =>
  some q2
def f_X8_flow_e (N : Nat) (sh : jm_S) (rec : Nat → Int → Int → Nat → Nat → jm_M → Option jm_M) (a0 : Nat) (x1 : Int) (x2 : Int) (a3 : Nat) (a4 : Nat) (m : jm_M) : Option jm_M :=
  if 4 < x2 then
    some m
  else
  Option.bind (jrf sh m a0 8 10 4) fun v5 =>
  Option.bind (jck sh v5.toNat 10 4) fun u6 =>
  Option.bind (f_X10_firstPart v5.toNat x1) fun q7 =>
  Option.bind (jrf sh m a0 8 10 4) fun v9 =>
  Option.bind (jck sh v9.toNat 10 4) fun u10 =>
  Option.bind (f_X10_secondPart sh v9.toNat x1 m) fun q11 =>
  Option.bind (jck sh a0 8 10) fun u13 =>
  Option.bind (f_X8_betweenAt sh a0 x2 m) fun q14 =>
  Option.bind (jck sh a4 4 4) fun u16 =>
  Option.bind (f_X4_clear N sh a4 m) fun q17 =>
  Option.bind (jrf sh q17 a0 8 10 4) fun v19 =>
  Option.bind (jck sh v19.toNat 10 4) fun u20 =>
  Option.bind (f_X10_signAt sh v19.toNat x1 q17) fun q21 =>
  if (45 : Int) = q21 then
    Option.bind (jrf sh q17 a0 8 10 2) fun v24 =>
    Option.bind (jck sh a4 4 4) fun u25 =>
    Option.bind (f_X4_addAll N sh a4 a3 v24 q17) fun q26 =>
    some q26
  else
  if (59 : Int) = q21 then
    Option.bind (jck sh a0 8 10) fun u29 =>
    Option.bind (rec a0 q7 (jw (x2 + 1)) a3 q14 q17) fun q30 =>
    Option.bind (jck sh a0 8 10) fun u32 =>
    Option.bind (rec a0 q11 (jw (x2 + 1)) q14 a4 q30) fun q33 =>
    some q33
  else
  if (63 : Int) = q21 then
    Option.bind (jck sh a0 8 10) fun u36 =>
    Option.bind (rec a0 q7 (jw (x2 + 1)) a3 a4 q17) fun q37 =>
    Option.bind (jck sh a0 8 10) fun u39 =>
    Option.bind (rec a0 q11 (jw (x2 + 1)) a3 q14 q37) fun q40 =>
    Option.bind (jrf sh q40 a0 8 10 2) fun v42 =>
    Option.bind (jck sh a4 4 4) fun u43 =>
    Option.bind (f_X4_addAll N sh a4 q14 v42 q40) fun q44 =>
    some q44
  else
  if (98 : Int) = q21 then
    f_X8_flow_b183 N sh rec a0 x1 x2 a3 a4 q17
  else
  if (99 : Int) = q21 then
    f_X8_flow_b183 N sh rec a0 x1 x2 a3 a4 q17
  else
  if (100 : Int) = q21 then
    f_X8_flow_b183 N sh rec a0 x1 x2 a3 a4 q17
  else
  Option.bind (jrf sh q17 a0 8 10 4) fun v49 =>
  Option.bind (jck sh v49.toNat 10 4) fun u50 =>
  Option.bind (f_X10_lineAt sh v49.toNat x1 q17) fun q51 =>
  Option.bind (jck sh a0 8 10) fun u53 =>
  Option.bind (f_X8_fetch N sh a0 q51 a3 a4 q17) fun q54 =>
  some q54
def f_X8_flow (N : Nat) (sh : jm_S) : Nat → Nat → Int → Int → Nat → Nat → jm_M → Option jm_M
  | 0 => fun _ _ _ _ _ _ => none
  | d + 1 => fun a0 x1 x2 a3 a4 m => f_X8_flow_e N sh (f_X8_flow N sh d) a0 x1 x2 a3 a4 m
def f_X8_costOf_b125 (N : Nat) (sh : jm_S) (k77 : Nat → Int → Int → Int → jm_M → Option (Int × jm_M)) (a0 : Nat) (x4 : Int) (x6 : Int) (s0 : Int) (m : jm_M) : Option (Int × jm_M) :=
  k77 a0 x4 s0 (jw (x6 + 1)) m
def f_X8_costOf_b77 (N : Nat) (sh : jm_S) (k77 : Nat → Int → Int → Int → jm_M → Option (Int × jm_M)) (a0 : Nat) (x4 : Int) (x5 : Int) (x6 : Int) (m : jm_M) : Option (Int × jm_M) :=
  Option.bind (jrf sh m a0 8 10 8) fun v1 =>
  Option.bind (jrf sh m v1.toNat 4 4 0) fun v2 =>
  if x6 < v2 then
    if x4 = 0 then
      Option.bind (jrf sh m a0 8 10 8) fun v5 =>
      Option.bind (jck sh v5.toNat 4 4) fun u6 =>
      Option.bind (f_X4_costAt sh v5.toNat x6 m) fun q7 =>
      Option.bind (f_J9_min_7cf53 x5 q7) fun q9 =>
      f_X8_costOf_b125 N sh k77 a0 x4 x6 q9 m
    else
    Option.bind (jrf sh m a0 8 10 8) fun v11 =>
    Option.bind (jck sh v11.toNat 4 4) fun u12 =>
    Option.bind (f_X4_costAt sh v11.toNat x6 m) fun q13 =>
    Option.bind (f_J9_max_7cf53 x5 q13) fun q15 =>
    f_X8_costOf_b125 N sh k77 a0 x4 x6 q15 m
  else
  some (x5, m)
def f_X8_costOf_l77 (N : Nat) (sh : jm_S) : Nat → Nat → Int → Int → Int → jm_M → Option (Int × jm_M)
  | 0 => fun _ _ _ _ _ => none
  | n + 1 => fun a0 x4 x5 x6 m => f_X8_costOf_b77 N sh (f_X8_costOf_l77 N sh n) a0 x4 x5 x6 m
def f_X8_costOf (N : Nat) (sh : jm_S) (a0 : Nat) (a1 : Nat) (x2 : Int) (x3 : Int) (x4 : Int) (m : jm_M) : Option (Int × jm_M) :=
  Option.bind (jwr sh m a0 8 10 4 a1) fun m17 =>
  Option.bind (jwf sh m17 a0 8 10 3 x2) fun m18 =>
  Option.bind (jzb x4) fun z20 =>
  Option.bind (jwf sh m18 a0 8 10 2 z20) fun m19 =>
  Option.bind (jrf sh m19 a0 8 10 6) fun v21 =>
  Option.bind (jrf sh m19 a0 8 10 5) fun v22 =>
  Option.bind (jck sh a1 10 4) fun u23 =>
  Option.bind (f_X10_allLines sh a1 m19) fun q24 =>
  Option.bind (jck sh v21.toNat 7 10) fun u26 =>
  Option.bind (f_X7_lay N sh v21.toNat v22.toNat x3 q24 m19) fun q27 =>
  Option.bind (jrf sh q27 a0 8 10 7) fun v29 =>
  Option.bind (jck sh v29.toNat 4 4) fun u30 =>
  Option.bind (f_X4_clear N sh v29.toNat q27) fun q31 =>
  Option.bind (jrf sh q31 a0 8 10 7) fun v33 =>
  Option.bind (jck sh v33.toNat 4 4) fun u34 =>
  Option.bind (f_X4_add sh v33.toNat 0 0 x4 q31) fun q35 =>
  Option.bind (jrf sh q35 a0 8 10 7) fun v37 =>
  Option.bind (jrf sh q35 a0 8 10 8) fun v38 =>
  Option.bind (jck sh a0 8 10) fun u39 =>
  Option.bind (f_X8_flow N sh 8 a0 0 0 v37.toNat v38.toNat q35) fun q40 =>
  Option.bind (jrf sh q40 a0 8 10 8) fun v42 =>
  Option.bind (jck sh v42.toNat 4 4) fun u43 =>
  Option.bind (f_X4_costAt sh v42.toNat 0 q40) fun q44 =>
  f_X8_costOf_l77 N sh N a0 x4 q44 1 q40
def f_X8_ends (sh : jm_S) (a0 : Nat) (m : jm_M) : Option Int :=
  Option.bind (jrf sh m a0 8 10 8) fun v1 =>
  Option.bind (jrf sh m v1.toNat 4 4 0) fun v2 =>
  some v2
def f_X11_mayBeHeld_b2 (N : Nat) (k2 : Int → Int → Int → Int → Option Int) (x0 : Int) (x1 : Int) (x2 : Int) (x3 : Int) : Option Int :=
  if x3 < x0 then
    Option.bind (f_X11_linesOfSet x3 x0) fun q2 =>
    Option.bind (f_J6_bitCount_0f7a4 (jand x2 q2)) fun q4 =>
    if x1 < q4 then
      some 0
    else
    k2 x0 x1 x2 (jw (x3 + 1))
  else
  some 1
def f_X11_mayBeHeld_l2 (N : Nat) : Nat → Int → Int → Int → Int → Option Int
  | 0 => fun _ _ _ _ => none
  | n + 1 => fun x0 x1 x2 x3 => f_X11_mayBeHeld_b2 N (f_X11_mayBeHeld_l2 N n) x0 x1 x2 x3
def f_X11_mayBeHeld (N : Nat) (x0 : Int) (x1 : Int) (x2 : Int) : Option Int :=
  f_X11_mayBeHeld_l2 N N x0 x1 x2 0
def f_X8_compare_b40 (sh : jm_S) (a0 : Nat) (x1 : Int) (x2 : Int) (m : jm_M) : Option jm_M :=
  Option.bind (jwf sh m a0 8 10 0 x1) fun m1 =>
  Option.bind (jwf sh m1 a0 8 10 1 x2) fun m2 =>
  some m2
def f_X8_compare_b19 (sh : jm_S) (a0 : Nat) (x1 : Int) (x2 : Int) (s0 : Int) (m : jm_M) : Option jm_M :=
  Option.bind (jrf sh m a0 8 10 1) fun v3 =>
  if x2 < v3 then
    f_X8_compare_b40 sh a0 x1 x2 m
  else
  Option.bind (jrf sh m a0 8 10 1) fun v5 =>
  if x2 = v5 then
    if s0 = 0 then
      some m
    else
    f_X8_compare_b40 sh a0 x1 x2 m
  else
  some m
def f_X8_compare (sh : jm_S) (a0 : Nat) (x1 : Int) (x2 : Int) (m : jm_M) : Option jm_M :=
  Option.bind (f_J6_bitCount_0f7a4 x1) fun q8 =>
  Option.bind (jrf sh m a0 8 10 0) fun v10 =>
  Option.bind (f_J6_bitCount_0f7a4 v10) fun q11 =>
  if q8 < q11 then
    f_X8_compare_b19 sh a0 x1 x2 1 m
  else
  f_X8_compare_b19 sh a0 x1 x2 0 m
def f_X8_holdFast_b90 (N : Nat) (sh : jm_S) (k34 : Nat → Nat → Int → Int → Int → jm_M → Option jm_M) (a0 : Nat) (a1 : Nat) (x2 : Int) (x3 : Int) (x4 : Int) (m : jm_M) : Option jm_M :=
  k34 a0 a1 x2 x3 (jw (x4 + 1)) m
def f_X8_holdFast_b34 (N : Nat) (sh : jm_S) (k34 : Nat → Nat → Int → Int → Int → jm_M → Option jm_M) (a0 : Nat) (a1 : Nat) (x2 : Int) (x3 : Int) (x4 : Int) (m : jm_M) : Option jm_M :=
  if 255 < x4 then
    some m
  else
  if (jand x4 (jxor x2 (-1))) = 0 then
    Option.bind (jrf sh m a0 8 10 5) fun v3 =>
    Option.bind (jck sh v3.toNat 1 9) fun u4 =>
    Option.bind (f_X1_setting sh v3.toNat 0 m) fun q5 =>
    Option.bind (jrf sh m a0 8 10 5) fun v7 =>
    Option.bind (jck sh v7.toNat 1 9) fun u8 =>
    Option.bind (f_X1_setting sh v7.toNat 1 m) fun q9 =>
    Option.bind (f_X11_mayBeHeld N q5 q9 x4) fun q11 =>
    if q11 = 0 then
      f_X8_holdFast_b90 N sh k34 a0 a1 x2 x3 x4 m
    else
    Option.bind (jck sh a0 8 10) fun u14 =>
    Option.bind (f_X8_costOf N sh a0 a1 x3 x4 1 m) fun q15 =>
    Option.bind (jck sh a0 8 10) fun u17 =>
    Option.bind (f_X8_compare sh a0 x4 q15.1 q15.2) fun q18 =>
    f_X8_holdFast_b90 N sh k34 a0 a1 x2 x3 x4 q18
  else
  f_X8_holdFast_b90 N sh k34 a0 a1 x2 x3 x4 m
def f_X8_holdFast_l34 (N : Nat) (sh : jm_S) : Nat → Nat → Nat → Int → Int → Int → jm_M → Option jm_M
  | 0 => fun _ _ _ _ _ _ => none
  | n + 1 => fun a0 a1 x2 x3 x4 m => f_X8_holdFast_b34 N sh (f_X8_holdFast_l34 N sh n) a0 a1 x2 x3 x4 m
def f_X8_holdFast (N : Nat) (sh : jm_S) (a0 : Nat) (a1 : Nat) (m : jm_M) : Option jm_M :=
  Option.bind (jck sh a1 10 4) fun u20 =>
  Option.bind (f_X10_allLines sh a1 m) fun q21 =>
  Option.bind (jrf sh m a0 8 10 5) fun v23 =>
  Option.bind (jck sh v23.toNat 1 9) fun u24 =>
  Option.bind (f_X1_setting sh v23.toNat 2 m) fun q25 =>
  Option.bind (jwf sh m a0 8 10 0 0) fun m27 =>
  Option.bind (jck sh a0 8 10) fun u28 =>
  Option.bind (f_X8_costOf N sh a0 a1 q25 0 1 m27) fun q29 =>
  Option.bind (jwf sh q29.2 a0 8 10 1 q29.1) fun m31 =>
  f_X8_holdFast_l34 N sh N a0 a1 q21 q25 1 m31
def f_X9_breakCost_b102 (N : Nat) (sh : jm_S) (k64 : Int → Int → Int → Int → Int → Int → Option Int) (x3 : Int) (x4 : Int) (x5 : Int) (x6 : Int) (x8 : Int) (s0 : Int) (s1 : Int) (m : jm_M) : Option Int :=
  k64 x3 x4 x5 x6 (jw (s0 + s1)) (jw (x8 + 1))
def f_X9_breakCost_b64 (N : Nat) (sh : jm_S) (k64 : Int → Int → Int → Int → Int → Int → Option Int) (x3 : Int) (x4 : Int) (x5 : Int) (x6 : Int) (x7 : Int) (x8 : Int) (m : jm_M) : Option Int :=
  if x8 < x4 then
    Option.bind (f_X11_linesOfSet x8 x4) fun q2 =>
    if (jand x5 q2) = 0 then
      f_X9_breakCost_b102 N sh k64 x3 x4 x5 x6 x8 x7 0 m
    else
    Option.bind (f_J6_bitCount_0f7a4 (jand x6 q2)) fun q5 =>
    f_X9_breakCost_b102 N sh k64 x3 x4 x5 x6 x8 x7 q5 m
  else
  some (jw (x7 * x3))
def f_X9_breakCost_l64 (N : Nat) (sh : jm_S) : Nat → Int → Int → Int → Int → Int → Int → jm_M → Option Int
  | 0 => fun _ _ _ _ _ _ _ => none
  | n + 1 => fun x3 x4 x5 x6 x7 x8 m => f_X9_breakCost_b64 N sh (fun x3 x4 x5 x6 x7 x8 => f_X9_breakCost_l64 N sh n x3 x4 x5 x6 x7 x8 m) x3 x4 x5 x6 x7 x8 m
def f_X9_breakCost (N : Nat) (sh : jm_S) (a0 : Nat) (x1 : Int) (x2 : Int) (x3 : Int) (m : jm_M) : Option Int :=
  Option.bind (jrf sh m a0 9 4 1) fun v7 =>
  Option.bind (jck sh v7.toNat 1 9) fun u8 =>
  Option.bind (f_X1_setting sh v7.toNat 0 m) fun q9 =>
  Option.bind (jrf sh m a0 9 4 1) fun v11 =>
  Option.bind (jck sh v11.toNat 1 9) fun u12 =>
  Option.bind (f_X1_textOf sh v11.toNat x1 m) fun q13 =>
  Option.bind (jck sh q13 10 4) fun u15 =>
  Option.bind (f_X10_allLines sh q13 m) fun q16 =>
  Option.bind (jrf sh m a0 9 4 1) fun v18 =>
  Option.bind (jck sh v18.toNat 1 9) fun u19 =>
  Option.bind (f_X1_setting sh v18.toNat 3 m) fun q20 =>
  Option.bind (jrf sh m a0 9 4 1) fun v22 =>
  Option.bind (jck sh v22.toNat 1 9) fun u23 =>
  Option.bind (f_X1_textOf sh v22.toNat x2 m) fun q24 =>
  Option.bind (jck sh q24 10 4) fun u26 =>
  Option.bind (f_X10_allLines sh q24 m) fun q27 =>
  Option.bind (jrf sh m a0 9 4 1) fun v29 =>
  Option.bind (jck sh v29.toNat 1 9) fun u30 =>
  Option.bind (f_X1_setting sh v29.toNat 3 m) fun q31 =>
  f_X9_breakCost_l64 N sh N x3 q9 (jand q16 (jxor q20 (-1))) (jand q27 (jxor q31 (-1))) 0 0 m
def f_X9_weigh_b57 (N : Nat) (sh : jm_S) (k7 : Nat → Int → Int → jm_M → Option jm_M) (a0 : Nat) (x1 : Int) (x2 : Int) (r0 : Nat) (s1 : Int) (s2 : Int) (m : jm_M) : Option jm_M :=
  Option.bind (jwa sh m r0 13 s1 s2) fun m1 =>
  k7 a0 x1 (jw (x2 + 1)) m1
def f_X9_weigh_b7 (N : Nat) (sh : jm_S) (k7 : Nat → Int → Int → jm_M → Option jm_M) (a0 : Nat) (x1 : Int) (x2 : Int) (m : jm_M) : Option jm_M :=
  if x2 < 4 then
    Option.bind (jrf sh m a0 9 4 3) fun v3 =>
    Option.bind (jrf sh m a0 9 4 1) fun v4 =>
    Option.bind (jck sh v4.toNat 1 9) fun u5 =>
    Option.bind (f_X1_isTask sh v4.toNat x2 m) fun q6 =>
    if q6 = 0 then
      f_X9_weigh_b57 N sh k7 a0 x1 x2 v3.toNat x2 0 m
    else
    Option.bind (jrf sh m a0 9 4 2) fun v9 =>
    Option.bind (jrf sh m a0 9 4 1) fun v10 =>
    Option.bind (jck sh v10.toNat 1 9) fun u11 =>
    Option.bind (f_X1_textOf sh v10.toNat x2 m) fun q12 =>
    Option.bind (jrf sh m a0 9 4 1) fun v14 =>
    Option.bind (jck sh v14.toNat 1 9) fun u15 =>
    Option.bind (f_X1_setting sh v14.toNat 3 m) fun q16 =>
    Option.bind (jck sh v9.toNat 8 10) fun u18 =>
    Option.bind (f_X8_costOf N sh v9.toNat q12 x1 q16 1 m) fun q19 =>
    f_X9_weigh_b57 N sh k7 a0 x1 x2 v3.toNat x2 q19.1 q19.2
  else
  some m
def f_X9_weigh_l7 (N : Nat) (sh : jm_S) : Nat → Nat → Int → Int → jm_M → Option jm_M
  | 0 => fun _ _ _ _ => none
  | n + 1 => fun a0 x1 x2 m => f_X9_weigh_b7 N sh (f_X9_weigh_l7 N sh n) a0 x1 x2 m
def f_X9_weigh (N : Nat) (sh : jm_S) (a0 : Nat) (x1 : Int) (m : jm_M) : Option jm_M :=
  Option.bind (jwf sh m a0 9 4 0 x1) fun m21 =>
  f_X9_weigh_l7 N sh N a0 x1 0 m21
def f_X9_worstOf (sh : jm_S) (a0 : Nat) (x1 : Int) (m : jm_M) : Option Int :=
  if x1 < 0 then
    some 0
  else
  Option.bind (jrf sh m a0 9 4 3) fun v2 =>
  Option.bind (jlen sh v2.toNat) fun v3 =>
  if x1 < v3 then
    Option.bind (jrf sh m a0 9 4 3) fun v5 =>
    Option.bind (jra sh m v5.toNat 13 x1) fun v6 =>
    some v6
  else
  some 0
def f_X9_timeWithBreaks_b66 (N : Nat) (sh : jm_S) (k9 : Nat → Int → Int → Int → Int → Option Int) (a0 : Nat) (x1 : Int) (x2 : Int) (x3 : Int) (x4 : Int) (m : jm_M) : Option Int :=
  k9 a0 x1 x2 x3 (jw (x4 + 1))
def f_X9_timeWithBreaks_b9 (N : Nat) (sh : jm_S) (k9 : Nat → Int → Int → Int → Int → Option Int) (a0 : Nat) (x1 : Int) (x2 : Int) (x3 : Int) (x4 : Int) (m : jm_M) : Option Int :=
  if x4 < x1 then
    Option.bind (jrf sh m a0 9 4 1) fun v2 =>
    Option.bind (jck sh v2.toNat 1 9) fun u3 =>
    Option.bind (f_X1_periodOf sh v2.toNat x4 m) fun q4 =>
    if 0 < q4 then
      if q4 = 0 then none else
      Option.bind (jck sh a0 9 4) fun u8 =>
      Option.bind (f_X9_worstOf sh a0 x4 m) fun q9 =>
      Option.bind (jrf sh m a0 9 4 0) fun v11 =>
      Option.bind (jck sh a0 9 4) fun u12 =>
      Option.bind (f_X9_breakCost N sh a0 x4 x1 v11 m) fun q13 =>
      f_X9_timeWithBreaks_b66 N sh k9 a0 x1 x2 (jw (x3 + (jw ((jdiv (jw ((jw (x2 + q4)) - 1)) q4) * (jw (q9 + q13)))))) x4 m
    else
    f_X9_timeWithBreaks_b66 N sh k9 a0 x1 x2 x3 x4 m
  else
  some x3
def f_X9_timeWithBreaks_l9 (N : Nat) (sh : jm_S) : Nat → Nat → Int → Int → Int → Int → jm_M → Option Int
  | 0 => fun _ _ _ _ _ _ => none
  | n + 1 => fun a0 x1 x2 x3 x4 m => f_X9_timeWithBreaks_b9 N sh (fun a0 x1 x2 x3 x4 => f_X9_timeWithBreaks_l9 N sh n a0 x1 x2 x3 x4 m) a0 x1 x2 x3 x4 m
def f_X9_timeWithBreaks (N : Nat) (sh : jm_S) (a0 : Nat) (x1 : Int) (x2 : Int) (m : jm_M) : Option Int :=
  Option.bind (jck sh a0 9 4) fun u15 =>
  Option.bind (f_X9_worstOf sh a0 x1 m) fun q16 =>
  f_X9_timeWithBreaks_l9 N sh N a0 x1 x2 q16 0 m
def f_X9_timeOf_b18 (N : Nat) (sh : jm_S) (k18 : Nat → Int → Int → Int → Int → Option Int) (a0 : Nat) (x1 : Int) (x2 : Int) (x3 : Int) (x4 : Int) (m : jm_M) : Option Int :=
  if 9999 < x4 then
    some (-5)
  else
  if x2 < x3 then
    some (-5)
  else
  Option.bind (jck sh a0 9 4) fun u3 =>
  Option.bind (f_X9_timeWithBreaks N sh a0 x1 x3 m) fun q4 =>
  if q4 = x3 then
    some x3
  else
  k18 a0 x1 x2 q4 (jw (x4 + 1))
def f_X9_timeOf_l18 (N : Nat) (sh : jm_S) : Nat → Nat → Int → Int → Int → Int → jm_M → Option Int
  | 0 => fun _ _ _ _ _ _ => none
  | n + 1 => fun a0 x1 x2 x3 x4 m => f_X9_timeOf_b18 N sh (fun a0 x1 x2 x3 x4 => f_X9_timeOf_l18 N sh n a0 x1 x2 x3 x4 m) a0 x1 x2 x3 x4 m
def f_X9_timeOf (N : Nat) (sh : jm_S) (a0 : Nat) (x1 : Int) (m : jm_M) : Option Int :=
  Option.bind (jrf sh m a0 9 4 1) fun v7 =>
  Option.bind (jck sh v7.toNat 1 9) fun u8 =>
  Option.bind (f_X1_periodOf sh v7.toNat x1 m) fun q9 =>
  Option.bind (jck sh a0 9 4) fun u11 =>
  Option.bind (f_X9_worstOf sh a0 x1 m) fun q12 =>
  f_X9_timeOf_l18 N sh N a0 x1 q9 q12 0 m
def f_X9_lateOnes_b36 (N : Nat) (sh : jm_S) (k4 : Nat → Int → Int → Option Int) (a0 : Nat) (x1 : Int) (x2 : Int) (m : jm_M) : Option Int :=
  k4 a0 x1 (jw (x2 + 1))
def f_X9_lateOnes_b4 (N : Nat) (sh : jm_S) (k4 : Nat → Int → Int → Option Int) (a0 : Nat) (x1 : Int) (x2 : Int) (m : jm_M) : Option Int :=
  if x2 < 4 then
    Option.bind (jrf sh m a0 9 4 1) fun v2 =>
    Option.bind (jck sh v2.toNat 1 9) fun u3 =>
    Option.bind (f_X1_isTask sh v2.toNat x2 m) fun q4 =>
    if q4 = 0 then
      f_X9_lateOnes_b36 N sh k4 a0 x1 x2 m
    else
    Option.bind (jck sh a0 9 4) fun u7 =>
    Option.bind (f_X9_timeOf N sh a0 x2 m) fun q8 =>
    if q8 = (-5) then
      f_X9_lateOnes_b36 N sh k4 a0 (jor x1 (jshl 1 x2)) x2 m
    else
    f_X9_lateOnes_b36 N sh k4 a0 x1 x2 m
  else
  some x1
def f_X9_lateOnes_l4 (N : Nat) (sh : jm_S) : Nat → Nat → Int → Int → jm_M → Option Int
  | 0 => fun _ _ _ _ => none
  | n + 1 => fun a0 x1 x2 m => f_X9_lateOnes_b4 N sh (fun a0 x1 x2 => f_X9_lateOnes_l4 N sh n a0 x1 x2 m) a0 x1 x2 m
def f_X9_lateOnes (N : Nat) (sh : jm_S) (a0 : Nat) (m : jm_M) : Option Int :=
  f_X9_lateOnes_l4 N sh N a0 0 0 m
def f_X9_greatestMiss_b55 (N : Nat) (sh : jm_S) (x1 : Int) (m : jm_M) : Option (Int × jm_M) :=
  if x1 < 2 then
    some ((-6), m)
  else
  some (x1, m)
def f_X9_greatestMiss_b49 (N : Nat) (sh : jm_S) (k7 : Nat → Int → Int → Int → jm_M → Option (Int × jm_M)) (a0 : Nat) (x1 : Int) (x2 : Int) (x3 : Int) (m : jm_M) : Option (Int × jm_M) :=
  k7 a0 x1 x2 (jw (x3 + 1)) m
def f_X9_greatestMiss_b7 (N : Nat) (sh : jm_S) (k7 : Nat → Int → Int → Int → jm_M → Option (Int × jm_M)) (a0 : Nat) (x1 : Int) (x2 : Int) (x3 : Int) (m : jm_M) : Option (Int × jm_M) :=
  if x3 < 20 then
    if 1 < (jw (x2 - x1)) then
      Option.bind (jck sh a0 9 4) fun u4 =>
      Option.bind (f_X9_weigh N sh a0 (jdiv (jw (x1 + x2)) 2) m) fun q5 =>
      Option.bind (jck sh a0 9 4) fun u7 =>
      Option.bind (f_X9_lateOnes N sh a0 q5) fun q8 =>
      if q8 = 0 then
        f_X9_greatestMiss_b49 N sh k7 a0 (jdiv (jw (x1 + x2)) 2) x2 x3 q5
      else
      f_X9_greatestMiss_b49 N sh k7 a0 x1 (jdiv (jw (x1 + x2)) 2) x3 q5
    else
    f_X9_greatestMiss_b55 N sh x1 m
  else
  f_X9_greatestMiss_b55 N sh x1 m
def f_X9_greatestMiss_l7 (N : Nat) (sh : jm_S) : Nat → Nat → Int → Int → Int → jm_M → Option (Int × jm_M)
  | 0 => fun _ _ _ _ _ => none
  | n + 1 => fun a0 x1 x2 x3 m => f_X9_greatestMiss_b7 N sh (f_X9_greatestMiss_l7 N sh n) a0 x1 x2 x3 m
def f_X9_greatestMiss (N : Nat) (sh : jm_S) (a0 : Nat) (m : jm_M) : Option (Int × jm_M) :=
  f_X9_greatestMiss_l7 N sh N a0 1 21 0 m
def f_X11_shelf_b64 (N : Nat) (sh : jm_S) (a0 : Nat) (x1 : Int) (x2 : Int) (x3 : Int) (x4 : Int) (s0 : Int) (m : jm_M) : Option (Int × jm_M) :=
  Option.bind (f_X11_mayBeHeld N x3 x4 s0) fun q1 =>
  if q1 = 0 then
    some ((-5), m)
  else
  Option.bind (jrf sh m a0 11 10 0) fun v4 =>
  Option.bind (jck sh v4.toNat 1 9) fun u5 =>
  Option.bind (f_X1_setting sh v4.toNat x1 m) fun q6 =>
  Option.bind (jrf sh m a0 11 10 0) fun v8 =>
  Option.bind (jck sh v8.toNat 1 9) fun u9 =>
  Option.bind (f_X1_set sh v8.toNat x1 x2 m) fun q10 =>
  some (q6, q10)
def f_X11_shelf_b45 (N : Nat) (sh : jm_S) (a0 : Nat) (x1 : Int) (x2 : Int) (x3 : Int) (s0 : Int) (m : jm_M) : Option (Int × jm_M) :=
  if x1 = 3 then
    f_X11_shelf_b64 N sh a0 x1 x2 x3 s0 x2 m
  else
  Option.bind (jrf sh m a0 11 10 0) fun v13 =>
  Option.bind (jck sh v13.toNat 1 9) fun u14 =>
  Option.bind (f_X1_setting sh v13.toNat 3 m) fun q15 =>
  f_X11_shelf_b64 N sh a0 x1 x2 x3 s0 q15 m
def f_X11_shelf_b27 (N : Nat) (sh : jm_S) (a0 : Nat) (x1 : Int) (x2 : Int) (s0 : Int) (m : jm_M) : Option (Int × jm_M) :=
  if x1 = 1 then
    f_X11_shelf_b45 N sh a0 x1 x2 s0 x2 m
  else
  Option.bind (jrf sh m a0 11 10 0) fun v18 =>
  Option.bind (jck sh v18.toNat 1 9) fun u19 =>
  Option.bind (f_X1_setting sh v18.toNat 1 m) fun q20 =>
  f_X11_shelf_b45 N sh a0 x1 x2 s0 q20 m
def f_X11_shelf (N : Nat) (sh : jm_S) (a0 : Nat) (x1 : Int) (x2 : Int) (m : jm_M) : Option (Int × jm_M) :=
  Option.bind (f_X1_maySet x1 x2) fun q22 =>
  if q22 = 0 then
    some ((-2), m)
  else
  if x1 = 0 then
    f_X11_shelf_b27 N sh a0 x1 x2 x2 m
  else
  Option.bind (jrf sh m a0 11 10 0) fun v26 =>
  Option.bind (jck sh v26.toNat 1 9) fun u27 =>
  Option.bind (f_X1_setting sh v26.toNat 0 m) fun q28 =>
  f_X11_shelf_b27 N sh a0 x1 x2 q28 m
def f_X11_say (sh : jm_S) (a0 : Nat) (x1 : Int) (m : jm_M) : Option (Int × jm_M) :=
  if x1 < 33 then
    some ((-2), m)
  else
  if 126 < x1 then
    some ((-2), m)
  else
  Option.bind (jrf sh m a0 11 10 3) fun v3 =>
  Option.bind (jck sh v3.toNat 3 3) fun u4 =>
  Option.bind (f_X3_add sh v3.toNat x1 m) fun q5 =>
  if q5.1 = 0 then
    some ((-4), q5.2)
  else
  Option.bind (jrf sh q5.2 a0 11 10 3) fun v8 =>
  Option.bind (jrf sh q5.2 v8.toNat 3 3 1) fun v9 =>
  some (v9, q5.2)
def f_X11_wipe (sh : jm_S) (a0 : Nat) (m : jm_M) : Option (Int × jm_M) :=
  Option.bind (jrf sh m a0 11 10 3) fun v1 =>
  Option.bind (jrf sh m v1.toNat 3 3 1) fun v2 =>
  Option.bind (jrf sh m a0 11 10 3) fun v3 =>
  Option.bind (jwf sh m v3.toNat 3 3 1 0) fun m4 =>
  some (v2, m4)
def f_X11_fault (N : Nat) (sh : jm_S) (a0 : Nat) (m : jm_M) : Option (Int × jm_M) :=
  Option.bind (jrf sh m a0 11 10 3) fun v1 =>
  Option.bind (jck sh v1.toNat 3 3) fun u2 =>
  Option.bind (f_X3_firstFault N sh v1.toNat m) fun q3 =>
  some (q3.1, q3.2)
def f_X11_isProgram (x0 : Int) : Option Int :=
  if x0 < 0 then
    some 0
  else
  if x0 < 4 then
    some 1
  else
  some 0
def f_X11_program (N : Nat) (sh : jm_S) (a0 : Nat) (x1 : Int) (m : jm_M) : Option (Int × jm_M) :=
  Option.bind (f_X11_isProgram x1) fun q1 =>
  if q1 = 0 then
    some ((-1), m)
  else
  Option.bind (jrf sh m a0 11 10 3) fun v4 =>
  Option.bind (jck sh v4.toNat 3 3) fun u5 =>
  Option.bind (f_X3_firstFault N sh v4.toNat m) fun q6 =>
  if q6.1 = (-6) then
    Option.bind (jrf sh q6.2 a0 11 10 0) fun v9 =>
    Option.bind (jck sh v9.toNat 1 9) fun u10 =>
    Option.bind (f_X1_textOf sh v9.toNat x1 q6.2) fun q11 =>
    Option.bind (jrf sh q6.2 a0 11 10 3) fun v13 =>
    Option.bind (jrf sh q6.2 v13.toNat 3 3 0) fun v14 =>
    Option.bind (jrf sh q6.2 a0 11 10 3) fun v15 =>
    Option.bind (jrf sh q6.2 v15.toNat 3 3 1) fun v16 =>
    Option.bind (jck sh q11 10 4) fun u17 =>
    Option.bind (f_X10_take N sh q11 v14.toNat v16 q6.2) fun q18 =>
    Option.bind (jrf sh q18 a0 11 10 3) fun v20 =>
    Option.bind (jwf sh q18 v20.toNat 3 3 1 0) fun m21 =>
    Option.bind (jrf sh m21 q11 10 4 0) fun v22 =>
    some (v22, m21)
  else
  some ((-5), q6.2)
def f_X11_node (sh : jm_S) (a0 : Nat) (x1 : Int) (x2 : Int) (x3 : Int) (m : jm_M) : Option Int :=
  Option.bind (f_X11_isProgram x1) fun q1 =>
  if q1 = 0 then
    some (-1)
  else
  Option.bind (jrf sh m a0 11 10 0) fun v4 =>
  Option.bind (jck sh v4.toNat 1 9) fun u5 =>
  Option.bind (f_X1_textOf sh v4.toNat x1 m) fun q6 =>
  Option.bind (jck sh q6 10 4) fun u8 =>
  Option.bind (f_X10_has sh q6 x2 m) fun q9 =>
  if q9 = 0 then
    some (-1)
  else
  if (0 : Int) = x3 then
    Option.bind (jrf sh m a0 11 10 0) fun v13 =>
    Option.bind (jck sh v13.toNat 1 9) fun u14 =>
    Option.bind (f_X1_textOf sh v13.toNat x1 m) fun q15 =>
    Option.bind (jck sh q15 10 4) fun u17 =>
    Option.bind (f_X10_signAt sh q15 x2 m) fun q18 =>
    some q18
  else
  if (1 : Int) = x3 then
    Option.bind (jrf sh m a0 11 10 0) fun v21 =>
    Option.bind (jck sh v21.toNat 1 9) fun u22 =>
    Option.bind (f_X1_textOf sh v21.toNat x1 m) fun q23 =>
    Option.bind (jck sh q23 10 4) fun u25 =>
    Option.bind (f_X10_sizeAt sh q23 x2 m) fun q26 =>
    some q26
  else
  some (-2)
def f_X11_choose (sh : jm_S) (a0 : Nat) (x1 : Int) (m : jm_M) : Option (Int × jm_M) :=
  if x1 < 0 then
    some ((-2), m)
  else
  if 9 < x1 then
    some ((-2), m)
  else
  Option.bind (jrf sh m a0 11 10 0) fun v3 =>
  Option.bind (jck sh v3.toNat 1 9) fun u4 =>
  Option.bind (f_X1_addDigit sh v3.toNat x1 m) fun q5 =>
  if q5.1 = 0 then
    some ((-4), q5.2)
  else
  Option.bind (jrf sh q5.2 a0 11 10 0) fun v8 =>
  Option.bind (jrf sh q5.2 v8.toNat 1 9 0) fun v9 =>
  some (v9, q5.2)
def f_X11_forget (sh : jm_S) (a0 : Nat) (m : jm_M) : Option (Int × jm_M) :=
  Option.bind (jrf sh m a0 11 10 0) fun v1 =>
  Option.bind (jrf sh m v1.toNat 1 9 0) fun v2 =>
  Option.bind (jrf sh m a0 11 10 0) fun v3 =>
  Option.bind (jwf sh m v3.toNat 1 9 0 0) fun m4 =>
  some (v2, m4)
def f_X11_run (N : Nat) (sh : jm_S) (a0 : Nat) (x1 : Int) (x2 : Int) (m : jm_M) : Option (Int × jm_M) :=
  Option.bind (f_X11_isProgram x1) fun q1 =>
  if q1 = 0 then
    some ((-1), m)
  else
  if x2 < 0 then
    some ((-2), m)
  else
  if 4 < x2 then
    some ((-2), m)
  else
  Option.bind (jrf sh m a0 11 10 4) fun v6 =>
  Option.bind (jrf sh m a0 11 10 0) fun v7 =>
  Option.bind (jck sh v7.toNat 1 9) fun u8 =>
  Option.bind (f_X1_textOf sh v7.toNat x1 m) fun q9 =>
  Option.bind (jck sh v6.toNat 6 8) fun u11 =>
  Option.bind (f_X6_goThrough N sh v6.toNat q9 m) fun q12 =>
  if (0 : Int) = x2 then
    Option.bind (jrf sh q12 a0 11 10 4) fun v15 =>
    Option.bind (jrf sh q12 v15.toNat 6 8 0) fun v16 =>
    some (v16, q12)
  else
  if (1 : Int) = x2 then
    Option.bind (jrf sh q12 a0 11 10 4) fun v18 =>
    Option.bind (jrf sh q12 v18.toNat 6 8 1) fun v19 =>
    some (v19, q12)
  else
  if (2 : Int) = x2 then
    Option.bind (jrf sh q12 a0 11 10 4) fun v21 =>
    Option.bind (jrf sh q12 v21.toNat 6 8 2) fun v22 =>
    some (v22, q12)
  else
  if (3 : Int) = x2 then
    Option.bind (jrf sh q12 a0 11 10 4) fun v24 =>
    Option.bind (jrf sh q12 v24.toNat 6 8 3) fun v25 =>
    some (v25, q12)
  else
  Option.bind (jrf sh q12 a0 11 10 4) fun v26 =>
  Option.bind (jck sh v26.toNat 6 8) fun u27 =>
  Option.bind (f_X6_linesThere N sh v26.toNat q12) fun q28 =>
  some (q28, q12)
def f_X11_most_b60 (N : Nat) (sh : jm_S) (a0 : Nat) (x2 : Int) (r0 : Nat) (r1 : Nat) (s2 : Int) (s3 : Int) (s4 : Int) (m : jm_M) : Option (Int × jm_M) :=
  Option.bind (jck sh r0 8 10) fun u1 =>
  Option.bind (f_X8_costOf N sh r0 r1 s2 s3 s4 m) fun q2 =>
  if x2 = 2 then
    Option.bind (jrf sh q2.2 a0 11 10 5) fun v5 =>
    Option.bind (jck sh v5.toNat 8 10) fun u6 =>
    Option.bind (f_X8_ends sh v5.toNat q2.2) fun q7 =>
    some (q7, q2.2)
  else
  some (q2.1, q2.2)
def f_X11_most (N : Nat) (sh : jm_S) (a0 : Nat) (x1 : Int) (x2 : Int) (m : jm_M) : Option (Int × jm_M) :=
  Option.bind (f_X11_isProgram x1) fun q9 =>
  if q9 = 0 then
    some ((-1), m)
  else
  if x2 < 0 then
    some ((-2), m)
  else
  if 2 < x2 then
    some ((-2), m)
  else
  Option.bind (jrf sh m a0 11 10 0) fun v14 =>
  Option.bind (jck sh v14.toNat 1 9) fun u15 =>
  Option.bind (f_X1_textOf sh v14.toNat x1 m) fun q16 =>
  Option.bind (jrf sh m a0 11 10 5) fun v18 =>
  Option.bind (jrf sh m a0 11 10 0) fun v19 =>
  Option.bind (jck sh v19.toNat 1 9) fun u20 =>
  Option.bind (f_X1_setting sh v19.toNat 2 m) fun q21 =>
  Option.bind (jrf sh m a0 11 10 0) fun v23 =>
  Option.bind (jck sh v23.toNat 1 9) fun u24 =>
  Option.bind (f_X1_setting sh v23.toNat 3 m) fun q25 =>
  if x2 = 0 then
    f_X11_most_b60 N sh a0 x2 v18.toNat q16 q21 q25 1 m
  else
  f_X11_most_b60 N sh a0 x2 v18.toNat q16 q21 q25 0 m
def f_X11_row (N : Nat) (sh : jm_S) (a0 : Nat) (x1 : Int) (x2 : Int) (m : jm_M) : Option (Int × jm_M) :=
  Option.bind (f_X11_isProgram x1) fun q1 =>
  if q1 = 0 then
    some ((-1), m)
  else
  Option.bind (jrf sh m a0 11 10 6) fun v4 =>
  Option.bind (jrf sh m a0 11 10 0) fun v5 =>
  Option.bind (jck sh v5.toNat 1 9) fun u6 =>
  Option.bind (f_X1_textOf sh v5.toNat x1 m) fun q7 =>
  Option.bind (jck sh v4.toNat 5 10) fun u9 =>
  Option.bind (f_X5_find N sh v4.toNat q7 m) fun q10 =>
  Option.bind (jrf sh q10 a0 11 10 6) fun v12 =>
  Option.bind (jrf sh q10 v12.toNat 5 10 0) fun v13 =>
  if 20 < v13 then
    some ((-3), q10)
  else
  if x2 = (-1) then
    Option.bind (jrf sh q10 a0 11 10 6) fun v16 =>
    Option.bind (jrf sh q10 v16.toNat 5 10 0) fun v17 =>
    some (v17, q10)
  else
  Option.bind (jrf sh q10 a0 11 10 6) fun v18 =>
  Option.bind (jck sh v18.toNat 5 10) fun u19 =>
  Option.bind (f_X5_digitAt sh v18.toNat x2 q10) fun q20 =>
  some (q20, q10)
def f_X11_isFetch (sh : jm_S) (a0 : Nat) (x1 : Int) (x2 : Int) (m : jm_M) : Option Int :=
  Option.bind (f_X11_isProgram x1) fun q1 =>
  if q1 = 0 then
    some 0
  else
  Option.bind (jrf sh m a0 11 10 0) fun v4 =>
  Option.bind (jck sh v4.toNat 1 9) fun u5 =>
  Option.bind (f_X1_textOf sh v4.toNat x1 m) fun q6 =>
  Option.bind (jck sh q6 10 4) fun u8 =>
  Option.bind (f_X10_isFetchAt sh q6 x2 m) fun q9 =>
  if q9 = 0 then
    some 0
  else
  some 1
def f_X11_age (N : Nat) (sh : jm_S) (a0 : Nat) (x1 : Int) (x2 : Int) (x3 : Int) (x4 : Int) (m : jm_M) : Option (Int × jm_M) :=
  Option.bind (jck sh a0 11 10) fun u1 =>
  Option.bind (f_X11_isFetch sh a0 x1 x2 m) fun q2 =>
  if q2 = 0 then
    some ((-1), m)
  else
  if x4 < 0 then
    some ((-1), m)
  else
  if x4 < 8 then
    if x3 < 0 then
      some ((-2), m)
    else
    if 1 < x3 then
      some ((-2), m)
    else
    Option.bind (jrf sh m a0 11 10 7) fun v9 =>
    Option.bind (jrf sh m a0 11 10 0) fun v10 =>
    Option.bind (jck sh v10.toNat 1 9) fun u11 =>
    Option.bind (f_X1_textOf sh v10.toNat x1 m) fun q12 =>
    Option.bind (jck sh v9.toNat 0 6) fun u14 =>
    Option.bind (f_X0_trace N sh v9.toNat q12 m) fun q15 =>
    if x3 = 0 then
      Option.bind (jrf sh q15 a0 11 10 7) fun v18 =>
      Option.bind (jck sh v18.toNat 0 6) fun u19 =>
      Option.bind (f_X0_mustAt sh v18.toNat x2 x4 q15) fun q20 =>
      some (q20, q15)
    else
    Option.bind (jrf sh q15 a0 11 10 7) fun v22 =>
    Option.bind (jck sh v22.toNat 0 6) fun u23 =>
    Option.bind (f_X0_mayAt sh v22.toNat x2 x4 q15) fun q24 =>
    some (q24, q15)
  else
  some ((-1), m)
def f_X11_sort (N : Nat) (sh : jm_S) (a0 : Nat) (x1 : Int) (x2 : Int) (m : jm_M) : Option (Int × jm_M) :=
  Option.bind (jck sh a0 11 10) fun u1 =>
  Option.bind (f_X11_isFetch sh a0 x1 x2 m) fun q2 =>
  if q2 = 0 then
    some ((-1), m)
  else
  Option.bind (jrf sh m a0 11 10 8) fun v5 =>
  Option.bind (jrf sh m a0 11 10 0) fun v6 =>
  Option.bind (jck sh v6.toNat 1 9) fun u7 =>
  Option.bind (f_X1_textOf sh v6.toNat x1 m) fun q8 =>
  Option.bind (jck sh v5.toNat 2 5) fun u10 =>
  Option.bind (f_X2_study N sh v5.toNat q8 m) fun q11 =>
  Option.bind (jrf sh q11 a0 11 10 8) fun v13 =>
  Option.bind (jck sh v13.toNat 2 5) fun u14 =>
  Option.bind (f_X2_sortAt sh v13.toNat x2 q11) fun q15 =>
  some (q15, q11)
def f_X11_bound (N : Nat) (sh : jm_S) (a0 : Nat) (x1 : Int) (x2 : Int) (m : jm_M) : Option (Int × jm_M) :=
  Option.bind (f_X11_isProgram x1) fun q1 =>
  if q1 = 0 then
    some ((-1), m)
  else
  if x2 < 0 then
    some ((-2), m)
  else
  if 1 < x2 then
    some ((-2), m)
  else
  Option.bind (jrf sh m a0 11 10 8) fun v6 =>
  Option.bind (jrf sh m a0 11 10 0) fun v7 =>
  Option.bind (jck sh v7.toNat 1 9) fun u8 =>
  Option.bind (f_X1_textOf sh v7.toNat x1 m) fun q9 =>
  Option.bind (jck sh v6.toNat 2 5) fun u11 =>
  Option.bind (f_X2_study N sh v6.toNat q9 m) fun q12 =>
  if x2 = 0 then
    Option.bind (jrf sh q12 a0 11 10 8) fun v15 =>
    Option.bind (jck sh v15.toNat 2 5) fun u16 =>
    Option.bind (f_X2_plain N sh v15.toNat q12) fun q17 =>
    some (q17.1, q17.2)
  else
  Option.bind (jrf sh q12 a0 11 10 8) fun v19 =>
  Option.bind (jck sh v19.toNat 2 5) fun u20 =>
  Option.bind (f_X2_closer N sh v19.toNat q12) fun q21 =>
  some (q21.1, q21.2)
def f_X11_fast (N : Nat) (sh : jm_S) (a0 : Nat) (x1 : Int) (x2 : Int) (m : jm_M) : Option (Int × jm_M) :=
  Option.bind (f_X11_isProgram x1) fun q1 =>
  if q1 = 0 then
    some ((-1), m)
  else
  if x2 < 0 then
    some ((-2), m)
  else
  if 1 < x2 then
    some ((-2), m)
  else
  Option.bind (jrf sh m a0 11 10 5) fun v6 =>
  Option.bind (jrf sh m a0 11 10 0) fun v7 =>
  Option.bind (jck sh v7.toNat 1 9) fun u8 =>
  Option.bind (f_X1_textOf sh v7.toNat x1 m) fun q9 =>
  Option.bind (jck sh v6.toNat 8 10) fun u11 =>
  Option.bind (f_X8_holdFast N sh v6.toNat q9 m) fun q12 =>
  if x2 = 0 then
    Option.bind (jrf sh q12 a0 11 10 5) fun v15 =>
    Option.bind (jrf sh q12 v15.toNat 8 10 0) fun v16 =>
    some (v16, q12)
  else
  Option.bind (jrf sh q12 a0 11 10 5) fun v17 =>
  Option.bind (jrf sh q12 v17.toNat 8 10 1) fun v18 =>
  some (v18, q12)
def f_X11_crowd (sh : jm_S) (a0 : Nat) (x1 : Int) (m : jm_M) : Option Int :=
  Option.bind (f_X11_isProgram x1) fun q1 =>
  if q1 = 0 then
    some (-1)
  else
  Option.bind (jrf sh m a0 11 10 0) fun v4 =>
  Option.bind (jck sh v4.toNat 1 9) fun u5 =>
  Option.bind (f_X1_textOf sh v4.toNat x1 m) fun q6 =>
  Option.bind (jck sh q6 10 4) fun u8 =>
  Option.bind (f_X10_allLines sh q6 m) fun q9 =>
  some q9
def f_X11_period (sh : jm_S) (a0 : Nat) (x1 : Int) (x2 : Int) (m : jm_M) : Option (Int × jm_M) :=
  Option.bind (f_X11_isProgram x1) fun q1 =>
  if q1 = 0 then
    some ((-1), m)
  else
  if x2 < 0 then
    some ((-2), m)
  else
  if 9999 < x2 then
    some ((-2), m)
  else
  Option.bind (jrf sh m a0 11 10 0) fun v6 =>
  Option.bind (jck sh v6.toNat 1 9) fun u7 =>
  Option.bind (f_X1_periodOf sh v6.toNat x1 m) fun q8 =>
  Option.bind (jrf sh m a0 11 10 0) fun v10 =>
  Option.bind (jck sh v10.toNat 1 9) fun u11 =>
  Option.bind (f_X1_setPeriod sh v10.toNat x1 x2 m) fun q12 =>
  some (q8, q12)
def f_X11_breaks (N : Nat) (sh : jm_S) (a0 : Nat) (x1 : Int) (x2 : Int) (m : jm_M) : Option Int :=
  Option.bind (f_X11_isProgram x1) fun q1 =>
  if q1 = 0 then
    some (-1)
  else
  Option.bind (f_X11_isProgram x2) fun q4 =>
  if q4 = 0 then
    some (-1)
  else
  if x1 < x2 then
    Option.bind (jrf sh m a0 11 10 0) fun v8 =>
    Option.bind (jck sh v8.toNat 1 9) fun u9 =>
    Option.bind (f_X1_isTask sh v8.toNat x1 m) fun q10 =>
    if q10 = 0 then
      some (-3)
    else
    Option.bind (jrf sh m a0 11 10 0) fun v13 =>
    Option.bind (jck sh v13.toNat 1 9) fun u14 =>
    Option.bind (f_X1_isTask sh v13.toNat x2 m) fun q15 =>
    if q15 = 0 then
      some (-3)
    else
    Option.bind (jrf sh m a0 11 10 9) fun v18 =>
    Option.bind (jrf sh m a0 11 10 0) fun v19 =>
    Option.bind (jck sh v19.toNat 1 9) fun u20 =>
    Option.bind (f_X1_setting sh v19.toNat 2 m) fun q21 =>
    Option.bind (jck sh v18.toNat 9 4) fun u23 =>
    Option.bind (f_X9_breakCost N sh v18.toNat x1 x2 q21 m) fun q24 =>
    some q24
  else
  some (-1)
def f_X11_done (N : Nat) (sh : jm_S) (a0 : Nat) (x1 : Int) (m : jm_M) : Option (Int × jm_M) :=
  Option.bind (f_X11_isProgram x1) fun q1 =>
  if q1 = 0 then
    some ((-1), m)
  else
  Option.bind (jrf sh m a0 11 10 0) fun v4 =>
  Option.bind (jck sh v4.toNat 1 9) fun u5 =>
  Option.bind (f_X1_isTask sh v4.toNat x1 m) fun q6 =>
  if q6 = 0 then
    some ((-3), m)
  else
  Option.bind (jrf sh m a0 11 10 9) fun v9 =>
  Option.bind (jrf sh m a0 11 10 0) fun v10 =>
  Option.bind (jck sh v10.toNat 1 9) fun u11 =>
  Option.bind (f_X1_setting sh v10.toNat 2 m) fun q12 =>
  Option.bind (jck sh v9.toNat 9 4) fun u14 =>
  Option.bind (f_X9_weigh N sh v9.toNat q12 m) fun q15 =>
  Option.bind (jrf sh q15 a0 11 10 9) fun v17 =>
  Option.bind (jck sh v17.toNat 9 4) fun u18 =>
  Option.bind (f_X9_timeOf N sh v17.toNat x1 q15) fun q19 =>
  some (q19, q15)
def f_X11_late (N : Nat) (sh : jm_S) (a0 : Nat) (x1 : Int) (m : jm_M) : Option (Int × jm_M) :=
  if (0 : Int) = x1 then
    Option.bind (jrf sh m a0 11 10 9) fun v2 =>
    Option.bind (jrf sh m a0 11 10 0) fun v3 =>
    Option.bind (jck sh v3.toNat 1 9) fun u4 =>
    Option.bind (f_X1_setting sh v3.toNat 2 m) fun q5 =>
    Option.bind (jck sh v2.toNat 9 4) fun u7 =>
    Option.bind (f_X9_weigh N sh v2.toNat q5 m) fun q8 =>
    Option.bind (jrf sh q8 a0 11 10 9) fun v10 =>
    Option.bind (jck sh v10.toNat 9 4) fun u11 =>
    Option.bind (f_X9_lateOnes N sh v10.toNat q8) fun q12 =>
    some (q12, q8)
  else
  if (1 : Int) = x1 then
    Option.bind (jrf sh m a0 11 10 9) fun v15 =>
    Option.bind (jck sh v15.toNat 9 4) fun u16 =>
    Option.bind (f_X9_greatestMiss N sh v15.toNat m) fun q17 =>
    some (q17.1, q17.2)
  else
  some ((-2), m)
def f_X11_imageOf (sh : jm_S) (a0 : Nat) (x1 : Int) (m : jm_M) : Option Nat :=
  if x1 = 0 then
    Option.bind (jrf sh m a0 11 10 1) fun v2 =>
    some v2.toNat
  else
  Option.bind (jrf sh m a0 11 10 2) fun v3 =>
  some v3.toNat
def f_X11_image (N : Nat) (sh : jm_S) (a0 : Nat) (x1 : Int) (m : jm_M) : Option (Int × jm_M) :=
  if x1 < 0 then
    some ((-2), m)
  else
  if 1 < x1 then
    some ((-2), m)
  else
  Option.bind (jck sh a0 11 10) fun u3 =>
  Option.bind (f_X11_imageOf sh a0 x1 m) fun q4 =>
  Option.bind (jrf sh m a0 11 10 0) fun v6 =>
  Option.bind (jck sh q4 1 9) fun u7 =>
  Option.bind (f_X1_copyFrom N sh q4 v6.toNat m) fun q8 =>
  Option.bind (jzb 1) fun z11 =>
  Option.bind (jwf sh q8 q4 1 9 1 z11) fun m10 =>
  some (1, m10)
def f_X11_restore (N : Nat) (sh : jm_S) (a0 : Nat) (x1 : Int) (m : jm_M) : Option (Int × jm_M) :=
  if x1 < 0 then
    some ((-2), m)
  else
  if 1 < x1 then
    some ((-2), m)
  else
  Option.bind (jck sh a0 11 10) fun u3 =>
  Option.bind (f_X11_imageOf sh a0 x1 m) fun q4 =>
  Option.bind (jrf sh m q4 1 9 1) fun v6 =>
  if v6 = 0 then
    some ((-3), m)
  else
  Option.bind (jrf sh m a0 11 10 0) fun v8 =>
  Option.bind (jck sh v8.toNat 1 9) fun u9 =>
  Option.bind (f_X1_copyFrom N sh v8.toNat q4 m) fun q10 =>
  some (1, q10)
def f_X11_told_b46 (sh : jm_S) (a0 : Nat) (x1 : Int) (m : jm_M) : Option Int :=
  Option.bind (f_X11_isProgram (jw (x1 - 10))) fun q1 =>
  if q1 = 0 then
    Option.bind (f_X11_isProgram (jw (x1 - 20))) fun q4 =>
    if q4 = 0 then
      some (-2)
    else
    Option.bind (jrf sh m a0 11 10 0) fun v7 =>
    Option.bind (jck sh v7.toNat 1 9) fun u8 =>
    Option.bind (f_X1_textOf sh v7.toNat (jw (x1 - 20)) m) fun q9 =>
    Option.bind (jrf sh m q9 10 4 0) fun v11 =>
    some v11
  else
  Option.bind (jrf sh m a0 11 10 0) fun v12 =>
  Option.bind (jck sh v12.toNat 1 9) fun u13 =>
  Option.bind (f_X1_periodOf sh v12.toNat (jw (x1 - 10)) m) fun q14 =>
  some q14
def f_X11_told (sh : jm_S) (a0 : Nat) (x1 : Int) (m : jm_M) : Option Int :=
  if x1 = 0 then
    Option.bind (jrf sh m a0 11 10 3) fun v17 =>
    Option.bind (jrf sh m v17.toNat 3 3 1) fun v18 =>
    some v18
  else
  if x1 = 1 then
    Option.bind (jrf sh m a0 11 10 0) fun v20 =>
    Option.bind (jrf sh m v20.toNat 1 9 0) fun v21 =>
    some v21
  else
  if x1 < 2 then
    f_X11_told_b46 sh a0 x1 m
  else
  if 5 < x1 then
    f_X11_told_b46 sh a0 x1 m
  else
  Option.bind (jrf sh m a0 11 10 0) fun v24 =>
  Option.bind (jck sh v24.toNat 1 9) fun u25 =>
  Option.bind (f_X1_setting sh v24.toNat (jw (x1 - 2)) m) fun q26 =>
  some q26
def f_X12_in (x0 : Int) (x1 : Int) (x2 : Int) : Option Int :=
  if x0 < x1 then
    some 0
  else
  if x2 < x0 then
    some 0
  else
  some 1
def f_X12_isProgram (x0 : Int) : Option Int :=
  Option.bind (f_X12_in x0 0 3) fun q1 =>
  Option.bind (jzb q1) fun z3 =>
  some z3
def f_X12_bits_b4 (N : Nat) (k4 : Int → Int → Int → Option Int) (x0 : Int) (x1 : Int) (x2 : Int) : Option Int :=
  if x2 < 8 then
    k4 x0 (jw (x1 + (jand (jshr x0 x2) 1))) (jw (x2 + 1))
  else
  some x1
def f_X12_bits_l4 (N : Nat) : Nat → Int → Int → Int → Option Int
  | 0 => fun _ _ _ => none
  | n + 1 => fun x0 x1 x2 => f_X12_bits_b4 N (f_X12_bits_l4 N n) x0 x1 x2
def f_X12_bits (N : Nat) (x0 : Int) : Option Int :=
  f_X12_bits_l4 N N x0 0 0
def f_X12_mayHold_b16 (N : Nat) (k3 : Int → Int → Int → Int → Option Int) (k16 : Int → Int → Int → Int → Int → Int → Option Int) (x1 : Int) (x2 : Int) (x3 : Int) (x4 : Int) (x5 : Int) (x6 : Int) : Option Int :=
  if x6 < 8 then
    k16 x1 x2 x3 x4 (jw (x5 + (jand (jshr x3 x6) 1))) (jw (x6 + x1))
  else
  if x2 < x5 then
    some 0
  else
  k3 x1 x2 x3 (jw (x4 + 1))
def f_X12_mayHold_l16 (N : Nat) (k3 : Int → Int → Int → Int → Option Int) : Nat → Int → Int → Int → Int → Int → Int → Option Int
  | 0 => fun _ _ _ _ _ _ => none
  | n + 1 => fun x1 x2 x3 x4 x5 x6 => f_X12_mayHold_b16 N k3 (f_X12_mayHold_l16 N k3 n) x1 x2 x3 x4 x5 x6
def f_X12_mayHold_b3 (N : Nat) (k3 : Int → Int → Int → Int → Option Int) (x1 : Int) (x2 : Int) (x3 : Int) (x4 : Int) : Option Int :=
  if x4 < x1 then
    f_X12_mayHold_l16 N k3 N x1 x2 x3 x4 0 x4
  else
  some 1
def f_X12_mayHold_l3 (N : Nat) : Nat → Int → Int → Int → Int → Option Int
  | 0 => fun _ _ _ _ => none
  | n + 1 => fun x1 x2 x3 x4 => f_X12_mayHold_b3 N (f_X12_mayHold_l3 N n) x1 x2 x3 x4
def f_X12_mayHold (N : Nat) (a0 : Nat) (x1 : Int) (x2 : Int) (x3 : Int) : Option Int :=
  f_X12_mayHold_l3 N N x1 x2 x3 0
def f_X12_shelf_b77 (N : Nat) (sh : jm_S) (a0 : Nat) (x1 : Int) (x2 : Int) (s0 : Int) (m : jm_M) : Option (Int × jm_M) :=
  if s0 = 0 then
    some ((-2), m)
  else
  Option.bind (jrf sh m a0 12 34 0) fun v2 =>
  Option.bind (jra sh m v2.toNat 13 x1) fun v3 =>
  Option.bind (jrf sh m a0 12 34 0) fun v4 =>
  Option.bind (jwa sh m v4.toNat 13 x1 x2) fun m5 =>
  Option.bind (jrf sh m5 a0 12 34 0) fun v6 =>
  Option.bind (jra sh m5 v6.toNat 13 0) fun v7 =>
  Option.bind (jrf sh m5 a0 12 34 0) fun v8 =>
  Option.bind (jra sh m5 v8.toNat 13 1) fun v9 =>
  Option.bind (jrf sh m5 a0 12 34 0) fun v10 =>
  Option.bind (jra sh m5 v10.toNat 13 3) fun v11 =>
  Option.bind (jck sh a0 12 34) fun u12 =>
  Option.bind (f_X12_mayHold N a0 v7 v9 v11) fun q13 =>
  if q13 = 0 then
    Option.bind (jrf sh m5 a0 12 34 0) fun v16 =>
    Option.bind (jwa sh m5 v16.toNat 13 x1 v3) fun m17 =>
    some ((-5), m17)
  else
  some (v3, m5)
def f_X12_shelf_b76 (N : Nat) (sh : jm_S) (a0 : Nat) (x1 : Int) (x2 : Int) (m : jm_M) : Option (Int × jm_M) :=
  f_X12_shelf_b77 N sh a0 x1 x2 0 m
def f_X12_shelf_b19 (N : Nat) (sh : jm_S) (a0 : Nat) (x1 : Int) (x2 : Int) (m : jm_M) : Option (Int × jm_M) :=
  f_X12_shelf_b77 N sh a0 x1 x2 1 m
def f_X12_shelf (N : Nat) (sh : jm_S) (a0 : Nat) (x1 : Int) (x2 : Int) (m : jm_M) : Option (Int × jm_M) :=
  if x1 = 0 then
    if x2 = 1 then
      f_X12_shelf_b19 N sh a0 x1 x2 m
    else
    if x2 = 2 then
      f_X12_shelf_b19 N sh a0 x1 x2 m
    else
    if x2 = 4 then
      f_X12_shelf_b19 N sh a0 x1 x2 m
    else
    f_X12_shelf_b77 N sh a0 x1 x2 0 m
  else
  if x1 = 1 then
    Option.bind (f_X12_in x2 1 2) fun q23 =>
    f_X12_shelf_b77 N sh a0 x1 x2 q23 m
  else
  if x1 = 2 then
    Option.bind (f_X12_in x2 2 20) fun q26 =>
    f_X12_shelf_b77 N sh a0 x1 x2 q26 m
  else
  if x1 = 3 then
    Option.bind (f_X12_in x2 0 255) fun q29 =>
    if q29 = 0 then
      f_X12_shelf_b76 N sh a0 x1 x2 m
    else
    f_X12_shelf_b77 N sh a0 x1 x2 1 m
  else
  f_X12_shelf_b76 N sh a0 x1 x2 m
def f_X12_isHeld (sh : jm_S) (a0 : Nat) (x1 : Int) (m : jm_M) : Option Int :=
  Option.bind (jrf sh m a0 12 34 0) fun v1 =>
  Option.bind (jra sh m v1.toNat 13 3) fun v2 =>
  if (jand (jshr v2 x1) 1) = 1 then
    some 1
  else
  some 0
def f_X12_setOf (sh : jm_S) (a0 : Nat) (x1 : Int) (m : jm_M) : Option Int :=
  Option.bind (jrf sh m a0 12 34 0) fun v1 =>
  Option.bind (jra sh m v1.toNat 13 0) fun v2 =>
  if v2 = 0 then none else
  some (jrem x1 v2)
def f_X12_roomOf_b9 (N : Nat) (sh : jm_S) (k9 : Nat → Int → Int → Option Int) (a0 : Nat) (x2 : Int) (x3 : Int) (m : jm_M) : Option Int :=
  if x3 < 8 then
    Option.bind (jrf sh m a0 12 34 0) fun v2 =>
    Option.bind (jra sh m v2.toNat 13 3) fun v3 =>
    Option.bind (jrf sh m a0 12 34 0) fun v4 =>
    Option.bind (jra sh m v4.toNat 13 0) fun v5 =>
    k9 a0 (jw (x2 - (jand (jshr v3 x3) 1))) (jw (x3 + v5))
  else
  some x2
def f_X12_roomOf_l9 (N : Nat) (sh : jm_S) : Nat → Nat → Int → Int → jm_M → Option Int
  | 0 => fun _ _ _ _ => none
  | n + 1 => fun a0 x2 x3 m => f_X12_roomOf_b9 N sh (fun a0 x2 x3 => f_X12_roomOf_l9 N sh n a0 x2 x3 m) a0 x2 x3 m
def f_X12_roomOf (N : Nat) (sh : jm_S) (a0 : Nat) (x1 : Int) (m : jm_M) : Option Int :=
  Option.bind (jrf sh m a0 12 34 0) fun v6 =>
  Option.bind (jra sh m v6.toNat 13 1) fun v7 =>
  f_X12_roomOf_l9 N sh N a0 v7 x1 m
def f_X12_say (sh : jm_S) (a0 : Nat) (x1 : Int) (m : jm_M) : Option (Int × jm_M) :=
  Option.bind (f_X12_in x1 33 126) fun q1 =>
  if q1 = 0 then
    some ((-2), m)
  else
  Option.bind (jrf sh m a0 12 34 1) fun v4 =>
  if v4 = 30 then
    some ((-4), m)
  else
  Option.bind (jrf sh m a0 12 34 2) fun v6 =>
  Option.bind (jrf sh m a0 12 34 1) fun v7 =>
  Option.bind (jwa sh m v6.toNat 13 v7 x1) fun m8 =>
  Option.bind (jrf sh m8 a0 12 34 1) fun v9 =>
  Option.bind (jwf sh m8 a0 12 34 1 (jw (v9 + 1))) fun m10 =>
  Option.bind (jrf sh m10 a0 12 34 1) fun v11 =>
  some (v11, m10)
def f_X12_wipe (sh : jm_S) (a0 : Nat) (m : jm_M) : Option (Int × jm_M) :=
  Option.bind (jrf sh m a0 12 34 1) fun v1 =>
  Option.bind (jwf sh m a0 12 34 1 0) fun m2 =>
  some (v1, m2)
def f_X12_isLoop (x0 : Int) : Option Int :=
  Option.bind (f_X12_in x0 98 100) fun q1 =>
  Option.bind (jzb q1) fun z3 =>
  some z3
def f_X12_partsOf (x0 : Int) : Option Int :=
  Option.bind (f_X12_in x0 48 55) fun q1 =>
  if q1 = 0 then
    if x0 = 45 then
      some 0
    else
    Option.bind (f_X12_isLoop x0) fun q5 =>
    if q5 = 0 then
      if x0 = 59 then
        some 2
      else
      if x0 = 63 then
        some 2
      else
      some (-6)
    else
    some 1
  else
  some 0
def f_X12_timesOf (x0 : Int) : Option Int :=
  some (jw ((jw (x0 - 98)) + 2))
def f_X12_faultOf_b155 (N : Nat) (sh : jm_S) (k4 : Nat → Int → Int → jm_M → Option (Int × jm_M)) (a0 : Nat) (x1 : Int) (x2 : Int) (m : jm_M) : Option (Int × jm_M) :=
  k4 a0 x1 (jw (x2 + 1)) m
def f_X12_faultOf_b127 (N : Nat) (sh : jm_S) (k4 : Nat → Int → Int → jm_M → Option (Int × jm_M)) (k65 : Nat → Int → Int → Int → jm_M → Option (Int × jm_M)) (a0 : Nat) (x1 : Int) (x2 : Int) (s0 : Int) (m : jm_M) : Option (Int × jm_M) :=
  k65 a0 x1 x2 s0 m
def f_X12_faultOf_b126 (N : Nat) (sh : jm_S) (k4 : Nat → Int → Int → jm_M → Option (Int × jm_M)) (k65 : Nat → Int → Int → Int → jm_M → Option (Int × jm_M)) (a0 : Nat) (x1 : Int) (x2 : Int) (m : jm_M) : Option (Int × jm_M) :=
  f_X12_faultOf_b127 N sh k4 k65 a0 x1 x2 0 m
def f_X12_faultOf_b111 (N : Nat) (sh : jm_S) (k4 : Nat → Int → Int → jm_M → Option (Int × jm_M)) (k65 : Nat → Int → Int → Int → jm_M → Option (Int × jm_M)) (a0 : Nat) (x2 : Int) (x4 : Int) (s0 : Int) (s1 : Int) (m : jm_M) : Option (Int × jm_M) :=
  if x4 = 0 then
    f_X12_faultOf_b126 N sh k4 k65 a0 (jw (s0 - s1)) x2 m
  else
  if 0 < (jw (s0 - s1)) then
    f_X12_faultOf_b127 N sh k4 k65 a0 (jw (s0 - s1)) x2 1 m
  else
  f_X12_faultOf_b126 N sh k4 k65 a0 (jw (s0 - s1)) x2 m
def f_X12_faultOf_b98 (N : Nat) (sh : jm_S) (k4 : Nat → Int → Int → jm_M → Option (Int × jm_M)) (k65 : Nat → Int → Int → Int → jm_M → Option (Int × jm_M)) (a0 : Nat) (x1 : Int) (x2 : Int) (s0 : Int) (m : jm_M) : Option (Int × jm_M) :=
  if s0 = 0 then
    f_X12_faultOf_b111 N sh k4 k65 a0 x2 s0 x1 0 m
  else
  f_X12_faultOf_b111 N sh k4 k65 a0 x2 s0 x1 1 m
def f_X12_faultOf_b65 (N : Nat) (sh : jm_S) (k4 : Nat → Int → Int → jm_M → Option (Int × jm_M)) (k65 : Nat → Int → Int → Int → jm_M → Option (Int × jm_M)) (a0 : Nat) (x1 : Int) (x2 : Int) (x4 : Int) (m : jm_M) : Option (Int × jm_M) :=
  if x4 = 0 then
    if x1 = 0 then
      Option.bind (jrf sh m a0 12 34 1) fun v6 =>
      if (jw (x2 + 1)) = v6 then
        some ((-6), m)
      else
      some (jw (x2 + 1), m)
    else
    f_X12_faultOf_b155 N sh k4 a0 x1 x2 m
  else
  Option.bind (jrf sh m a0 12 34 9) fun v8 =>
  Option.bind (jra sh m v8.toNat 13 (jw (x1 - 1))) fun v9 =>
  Option.bind (jwa sh m v8.toNat 13 (jw (x1 - 1)) (jw (v9 - 1))) fun m10 =>
  Option.bind (jrf sh m10 a0 12 34 9) fun v11 =>
  Option.bind (jra sh m10 v11.toNat 13 (jw (x1 - 1))) fun v12 =>
  if v12 = 0 then
    f_X12_faultOf_b98 N sh k4 k65 a0 x1 x2 1 m10
  else
  f_X12_faultOf_b98 N sh k4 k65 a0 x1 x2 0 m10
def f_X12_faultOf_l65 (N : Nat) (sh : jm_S) (k4 : Nat → Int → Int → jm_M → Option (Int × jm_M)) : Nat → Nat → Int → Int → Int → jm_M → Option (Int × jm_M)
  | 0 => fun _ _ _ _ _ => none
  | n + 1 => fun a0 x1 x2 x4 m => f_X12_faultOf_b65 N sh k4 (f_X12_faultOf_l65 N sh k4 n) a0 x1 x2 x4 m
def f_X12_faultOf_b63 (N : Nat) (sh : jm_S) (k4 : Nat → Int → Int → jm_M → Option (Int × jm_M)) (a0 : Nat) (x1 : Int) (x2 : Int) (s0 : Int) (m : jm_M) : Option (Int × jm_M) :=
  f_X12_faultOf_l65 N sh k4 N a0 x1 x2 s0 m
def f_X12_faultOf_b37 (N : Nat) (sh : jm_S) (k4 : Nat → Int → Int → jm_M → Option (Int × jm_M)) (a0 : Nat) (x1 : Int) (x2 : Int) (x3 : Int) (m : jm_M) : Option (Int × jm_M) :=
  if 0 < x3 then
    Option.bind (jrf sh m a0 12 34 9) fun v15 =>
    Option.bind (jwa sh m v15.toNat 13 x1 x3) fun m16 =>
    f_X12_faultOf_b155 N sh k4 a0 (jw (x1 + 1)) x2 m16
  else
  if 0 < x1 then
    f_X12_faultOf_b63 N sh k4 a0 x1 x2 1 m
  else
  f_X12_faultOf_b63 N sh k4 a0 x1 x2 0 m
def f_X12_faultOf_b4 (N : Nat) (sh : jm_S) (k4 : Nat → Int → Int → jm_M → Option (Int × jm_M)) (a0 : Nat) (x1 : Int) (x2 : Int) (m : jm_M) : Option (Int × jm_M) :=
  Option.bind (jrf sh m a0 12 34 1) fun v18 =>
  if x2 < v18 then
    Option.bind (jrf sh m a0 12 34 2) fun v20 =>
    Option.bind (jra sh m v20.toNat 13 x2) fun v21 =>
    Option.bind (f_X12_partsOf v21) fun q22 =>
    if q22 < 0 then
      some (x2, m)
    else
    if 0 < q22 then
      if x1 = 4 then
        some (x2, m)
      else
      f_X12_faultOf_b37 N sh k4 a0 x1 x2 q22 m
    else
    f_X12_faultOf_b37 N sh k4 a0 x1 x2 q22 m
  else
  Option.bind (jrf sh m a0 12 34 1) fun v27 =>
  some (v27, m)
def f_X12_faultOf_l4 (N : Nat) (sh : jm_S) : Nat → Nat → Int → Int → jm_M → Option (Int × jm_M)
  | 0 => fun _ _ _ _ => none
  | n + 1 => fun a0 x1 x2 m => f_X12_faultOf_b4 N sh (f_X12_faultOf_l4 N sh n) a0 x1 x2 m
def f_X12_faultOf (N : Nat) (sh : jm_S) (a0 : Nat) (m : jm_M) : Option (Int × jm_M) :=
  f_X12_faultOf_l4 N sh N a0 0 0 m
def f_X12_fault (N : Nat) (sh : jm_S) (a0 : Nat) (m : jm_M) : Option (Int × jm_M) :=
  Option.bind (jck sh a0 12 34) fun u1 =>
  Option.bind (f_X12_faultOf N sh a0 m) fun q2 =>
  some (q2.1, q2.2)
def f_X12_laySizes_b26 (N : Nat) (sh : jm_S) (k9 : Nat → Int → Int → jm_M → Option jm_M) (k26 : Nat → Int → Int → Int → Int → Int → jm_M → Option jm_M) (a0 : Nat) (x1 : Int) (x2 : Int) (x3 : Int) (x4 : Int) (x5 : Int) (m : jm_M) : Option jm_M :=
  Option.bind (jrf sh m a0 12 34 4) fun v1 =>
  Option.bind (jra sh m v1.toNat 13 x3) fun v2 =>
  Option.bind (f_X12_partsOf v2) fun q3 =>
  if x5 < q3 then
    Option.bind (jrf sh m a0 12 34 5) fun v6 =>
    Option.bind (jra sh m v6.toNat 13 (jw (x3 + x4))) fun v7 =>
    k26 a0 x1 x2 x3 (jw (x4 + v7)) (jw (x5 + 1)) m
  else
  Option.bind (jrf sh m a0 12 34 5) fun v8 =>
  Option.bind (jwa sh m v8.toNat 13 x3 x4) fun m9 =>
  k9 a0 x1 (jw (x2 + (-1))) m9
def f_X12_laySizes_l26 (N : Nat) (sh : jm_S) (k9 : Nat → Int → Int → jm_M → Option jm_M) : Nat → Nat → Int → Int → Int → Int → Int → jm_M → Option jm_M
  | 0 => fun _ _ _ _ _ _ _ => none
  | n + 1 => fun a0 x1 x2 x3 x4 x5 m => f_X12_laySizes_b26 N sh k9 (f_X12_laySizes_l26 N sh k9 n) a0 x1 x2 x3 x4 x5 m
def f_X12_laySizes_b9 (N : Nat) (sh : jm_S) (k9 : Nat → Int → Int → jm_M → Option jm_M) (a0 : Nat) (x1 : Int) (x2 : Int) (m : jm_M) : Option jm_M :=
  if x2 < 0 then
    some m
  else
  f_X12_laySizes_l26 N sh k9 N a0 x1 x2 (jw ((jw (30 * x1)) + x2)) 1 0 m
def f_X12_laySizes_l9 (N : Nat) (sh : jm_S) : Nat → Nat → Int → Int → jm_M → Option jm_M
  | 0 => fun _ _ _ _ => none
  | n + 1 => fun a0 x1 x2 m => f_X12_laySizes_b9 N sh (f_X12_laySizes_l9 N sh n) a0 x1 x2 m
def f_X12_laySizes (N : Nat) (sh : jm_S) (a0 : Nat) (x1 : Int) (m : jm_M) : Option jm_M :=
  Option.bind (jrf sh m a0 12 34 3) fun v11 =>
  Option.bind (jra sh m v11.toNat 13 x1) fun v12 =>
  f_X12_laySizes_l9 N sh N a0 x1 (jw (v12 - 1)) m
def f_X12_program_b31 (N : Nat) (sh : jm_S) (k31 : Nat → Int → Int → jm_M → Option (Int × jm_M)) (a0 : Nat) (x1 : Int) (x2 : Int) (m : jm_M) : Option (Int × jm_M) :=
  Option.bind (jrf sh m a0 12 34 1) fun v1 =>
  if x2 < v1 then
    Option.bind (jrf sh m a0 12 34 4) fun v3 =>
    Option.bind (jrf sh m a0 12 34 2) fun v4 =>
    Option.bind (jra sh m v4.toNat 13 x2) fun v5 =>
    Option.bind (jwa sh m v3.toNat 13 (jw ((jw (30 * x1)) + x2)) v5) fun m6 =>
    k31 a0 x1 (jw (x2 + 1)) m6
  else
  Option.bind (jwf sh m a0 12 34 1 0) fun m7 =>
  Option.bind (jck sh a0 12 34) fun u8 =>
  Option.bind (f_X12_laySizes N sh a0 x1 m7) fun q9 =>
  Option.bind (jrf sh q9 a0 12 34 3) fun v11 =>
  Option.bind (jra sh q9 v11.toNat 13 x1) fun v12 =>
  some (v12, q9)
def f_X12_program_l31 (N : Nat) (sh : jm_S) : Nat → Nat → Int → Int → jm_M → Option (Int × jm_M)
  | 0 => fun _ _ _ _ => none
  | n + 1 => fun a0 x1 x2 m => f_X12_program_b31 N sh (f_X12_program_l31 N sh n) a0 x1 x2 m
def f_X12_program (N : Nat) (sh : jm_S) (a0 : Nat) (x1 : Int) (m : jm_M) : Option (Int × jm_M) :=
  Option.bind (f_X12_isProgram x1) fun q13 =>
  if q13 = 0 then
    some ((-1), m)
  else
  Option.bind (jck sh a0 12 34) fun u16 =>
  Option.bind (f_X12_faultOf N sh a0 m) fun q17 =>
  if q17.1 < 0 then
    Option.bind (jrf sh q17.2 a0 12 34 3) fun v20 =>
    Option.bind (jrf sh q17.2 a0 12 34 1) fun v21 =>
    Option.bind (jwa sh q17.2 v20.toNat 13 x1 v21) fun m22 =>
    f_X12_program_l31 N sh N a0 x1 0 m22
  else
  some ((-5), q17.2)
def f_X12_isNode (sh : jm_S) (a0 : Nat) (x1 : Int) (x2 : Int) (m : jm_M) : Option Int :=
  Option.bind (f_X12_isProgram x1) fun q1 =>
  if q1 = 0 then
    some 0
  else
  Option.bind (jrf sh m a0 12 34 3) fun v4 =>
  Option.bind (jra sh m v4.toNat 13 x1) fun v5 =>
  Option.bind (f_X12_in x2 0 (jw (v5 - 1))) fun q6 =>
  if q6 = 0 then
    some 0
  else
  some 1
def f_X12_node (sh : jm_S) (a0 : Nat) (x1 : Int) (x2 : Int) (x3 : Int) (m : jm_M) : Option Int :=
  Option.bind (jck sh a0 12 34) fun u1 =>
  Option.bind (f_X12_isNode sh a0 x1 x2 m) fun q2 =>
  if q2 = 0 then
    some (-1)
  else
  if x3 = 0 then
    Option.bind (jrf sh m a0 12 34 4) fun v6 =>
    Option.bind (jra sh m v6.toNat 13 (jw ((jw (30 * x1)) + x2))) fun v7 =>
    some v7
  else
  if x3 = 1 then
    Option.bind (jrf sh m a0 12 34 5) fun v9 =>
    Option.bind (jra sh m v9.toNat 13 (jw ((jw (30 * x1)) + x2))) fun v10 =>
    some v10
  else
  some (-2)
def f_X12_linesInSet (sh : jm_S) (a0 : Nat) (m : jm_M) : Option Int :=
  Option.bind (jrf sh m a0 12 34 0) fun v1 =>
  Option.bind (jra sh m v1.toNat 13 0) fun v2 =>
  if v2 = 0 then none else
  some (jdiv 8 v2)
def f_X12_statesOfSet (sh : jm_S) (a0 : Nat) (m : jm_M) : Option Int :=
  Option.bind (jck sh a0 12 34) fun u1 =>
  Option.bind (f_X12_linesInSet sh a0 m) fun q2 =>
  some (jw ((jw (1 + q2)) + (jw (q2 * (jw (q2 - 1))))))
def f_X12_states_b4 (N : Nat) (sh : jm_S) (k4 : Nat → Int → Int → Option Int) (a0 : Nat) (x1 : Int) (x2 : Int) (m : jm_M) : Option Int :=
  Option.bind (jrf sh m a0 12 34 0) fun v1 =>
  Option.bind (jra sh m v1.toNat 13 0) fun v2 =>
  if x2 < v2 then
    Option.bind (jck sh a0 12 34) fun u4 =>
    Option.bind (f_X12_statesOfSet sh a0 m) fun q5 =>
    k4 a0 (jw (x1 * q5)) (jw (x2 + 1))
  else
  some x1
def f_X12_states_l4 (N : Nat) (sh : jm_S) : Nat → Nat → Int → Int → jm_M → Option Int
  | 0 => fun _ _ _ _ => none
  | n + 1 => fun a0 x1 x2 m => f_X12_states_b4 N sh (fun a0 x1 x2 => f_X12_states_l4 N sh n a0 x1 x2 m) a0 x1 x2 m
def f_X12_states (N : Nat) (sh : jm_S) (a0 : Nat) (m : jm_M) : Option Int :=
  f_X12_states_l4 N sh N a0 1 0 m
def f_X12_pair_b21 (s0 : Int) (s1 : Int) : Option Int :=
  some (jw (s0 + s1))
def f_X12_pair (x0 : Int) (x1 : Int) (x2 : Int) : Option Int :=
  if x2 < x1 then
    f_X12_pair_b21 (jw ((jw (1 + x0)) + (jw (x1 * (jw (x0 - 1)))))) x2
  else
  f_X12_pair_b21 (jw ((jw (1 + x0)) + (jw (x1 * (jw (x0 - 1)))))) (jw (x2 - 1))
def f_X12_newestOf (a0 : Nat) (x1 : Int) (x2 : Int) : Option Int :=
  if x2 = 0 then
    some (-6)
  else
  if x1 < x2 then
    if jw (x1 - 1) = 0 then none else
    some (jdiv (jw ((jw (x2 - 1)) - x1)) (jw (x1 - 1)))
  else
  some (jw (x2 - 1))
def f_X12_olderOf (sh : jm_S) (a0 : Nat) (x1 : Int) (x2 : Int) (m : jm_M) : Option Int :=
  if x1 < x2 then
    if jw (x1 - 1) = 0 then none else
    Option.bind (jck sh a0 12 34) fun u3 =>
    Option.bind (f_X12_newestOf a0 x1 x2) fun q4 =>
    if (jrem (jw ((jw (x2 - 1)) - x1)) (jw (x1 - 1))) < q4 then
      some (jrem (jw ((jw (x2 - 1)) - x1)) (jw (x1 - 1)))
    else
    some (jw ((jrem (jw ((jw (x2 - 1)) - x1)) (jw (x1 - 1))) + 1))
  else
  some (-6)
def f_X12_fetch_b182 (N : Nat) (sh : jm_S) (x1 : Int) (x5 : Int) (x6 : Int) (x11 : Int) (m : jm_M) : Option (Int × jm_M) :=
  some (jw (x1 + (jw ((jw (x11 - x6)) * x5))), m)
def f_X12_fetch_b150 (N : Nat) (sh : jm_S) (x1 : Int) (x5 : Int) (x6 : Int) (x8 : Int) (m : jm_M) : Option (Int × jm_M) :=
  f_X12_fetch_b182 N sh x1 x5 x6 (jw (1 + x8)) m
def f_X12_fetch_b159 (N : Nat) (sh : jm_S) (x1 : Int) (x3 : Int) (x5 : Int) (x6 : Int) (x7 : Int) (x8 : Int) (x9 : Int) (x11 : Int) (m : jm_M) : Option (Int × jm_M) :=
  if x7 = 2 then
    if x9 = x8 then
      f_X12_fetch_b182 N sh x1 x5 x6 x11 m
    else
    Option.bind (f_X12_pair x3 x8 x9) fun q3 =>
    f_X12_fetch_b182 N sh x1 x5 x6 q3 m
  else
  f_X12_fetch_b182 N sh x1 x5 x6 x11 m
def f_X12_fetch_b126 (N : Nat) (sh : jm_S) (x1 : Int) (x3 : Int) (x5 : Int) (x6 : Int) (x7 : Int) (x8 : Int) (x9 : Int) (r0 : Nat) (s1 : Int) (m : jm_M) : Option (Int × jm_M) :=
  Option.bind (jzb s1) fun z6 =>
  Option.bind (jwf sh m r0 12 34 10 z6) fun m5 =>
  if x7 = 1 then
    f_X12_fetch_b150 N sh x1 x5 x6 x8 m5
  else
  if x7 = 2 then
    if x9 < 0 then
      f_X12_fetch_b150 N sh x1 x5 x6 x8 m5
    else
    f_X12_fetch_b159 N sh x1 x3 x5 x6 x7 x8 x9 x6 m5
  else
  f_X12_fetch_b159 N sh x1 x3 x5 x6 x7 x8 x9 x6 m5
def f_X12_fetch_b121 (N : Nat) (sh : jm_S) (x1 : Int) (x3 : Int) (x5 : Int) (x6 : Int) (x7 : Int) (x8 : Int) (x9 : Int) (r0 : Nat) (m : jm_M) : Option (Int × jm_M) :=
  f_X12_fetch_b126 N sh x1 x3 x5 x6 x7 x8 x9 r0 1 m
def f_X12_fetch_b35 (N : Nat) (sh : jm_S) (k35 : Nat → Int → Int → Int → Int → Int → Int → jm_M → Option (Int × jm_M)) (a0 : Nat) (x1 : Int) (x2 : Int) (x3 : Int) (x4 : Int) (x5 : Int) (x6 : Int) (m : jm_M) : Option (Int × jm_M) :=
  Option.bind (jck sh a0 12 34) fun u10 =>
  Option.bind (f_X12_setOf sh a0 x2 m) fun q11 =>
  if x6 < q11 then
    k35 a0 x1 x2 x3 x4 (jw (x5 * x4)) (jw (x6 + 1)) m
  else
  if x5 = 0 then none else
  if x4 = 0 then none else
  Option.bind (jck sh a0 12 34) fun u16 =>
  Option.bind (f_X12_setOf sh a0 x2 m) fun q17 =>
  Option.bind (jck sh a0 12 34) fun u19 =>
  Option.bind (f_X12_roomOf N sh a0 q17 m) fun q20 =>
  Option.bind (jrf sh m a0 12 34 0) fun v22 =>
  Option.bind (jra sh m v22.toNat 13 0) fun v23 =>
  if v23 = 0 then none else
  Option.bind (jck sh a0 12 34) fun u25 =>
  Option.bind (f_X12_newestOf a0 x3 (jrem (jdiv x1 x5) x4)) fun q26 =>
  Option.bind (jck sh a0 12 34) fun u28 =>
  Option.bind (f_X12_olderOf sh a0 x3 (jrem (jdiv x1 x5) x4) m) fun q29 =>
  if q26 = (jdiv x2 v23) then
    f_X12_fetch_b121 N sh x1 x3 x5 (jrem (jdiv x1 x5) x4) q20 (jdiv x2 v23) q26 a0 m
  else
  if q29 = (jdiv x2 v23) then
    f_X12_fetch_b121 N sh x1 x3 x5 (jrem (jdiv x1 x5) x4) q20 (jdiv x2 v23) q26 a0 m
  else
  f_X12_fetch_b126 N sh x1 x3 x5 (jrem (jdiv x1 x5) x4) q20 (jdiv x2 v23) q26 a0 0 m
def f_X12_fetch_l35 (N : Nat) (sh : jm_S) : Nat → Nat → Int → Int → Int → Int → Int → Int → jm_M → Option (Int × jm_M)
  | 0 => fun _ _ _ _ _ _ _ _ => none
  | n + 1 => fun a0 x1 x2 x3 x4 x5 x6 m => f_X12_fetch_b35 N sh (f_X12_fetch_l35 N sh n) a0 x1 x2 x3 x4 x5 x6 m
def f_X12_fetch (N : Nat) (sh : jm_S) (a0 : Nat) (x1 : Int) (x2 : Int) (m : jm_M) : Option (Int × jm_M) :=
  Option.bind (jck sh a0 12 34) fun u33 =>
  Option.bind (f_X12_isHeld sh a0 x2 m) fun q34 =>
  Option.bind (jzb q34) fun z37 =>
  Option.bind (jwf sh m a0 12 34 10 z37) fun m36 =>
  Option.bind (jrf sh m36 a0 12 34 10) fun v38 =>
  if v38 = 0 then
    Option.bind (jck sh a0 12 34) fun u40 =>
    Option.bind (f_X12_linesInSet sh a0 m36) fun q41 =>
    Option.bind (jck sh a0 12 34) fun u43 =>
    Option.bind (f_X12_statesOfSet sh a0 m36) fun q44 =>
    f_X12_fetch_l35 N sh N a0 x1 x2 q41 q44 1 0 m36
  else
  some (x1, m36)
def f_X12_linesIn_b110 (N : Nat) (sh : jm_S) (k24 : Nat → Int → Int → Int → Int → Int → Option Int) (a0 : Nat) (x2 : Int) (x3 : Int) (x5 : Int) (x6 : Int) (s0 : Int) (s1 : Int) (m : jm_M) : Option Int :=
  if x3 = 0 then none else
  k24 a0 x2 x3 (jor s0 s1) (jdiv x5 x3) (jw (x6 + 1))
def f_X12_linesIn_b82 (N : Nat) (sh : jm_S) (k24 : Nat → Int → Int → Int → Int → Int → Option Int) (a0 : Nat) (x2 : Int) (x3 : Int) (x5 : Int) (x6 : Int) (x8 : Int) (s0 : Int) (s1 : Int) (m : jm_M) : Option Int :=
  if x8 < 0 then
    f_X12_linesIn_b110 N sh k24 a0 x2 x3 x5 x6 (jor s0 s1) 0 m
  else
  Option.bind (jrf sh m a0 12 34 0) fun v3 =>
  Option.bind (jra sh m v3.toNat 13 0) fun v4 =>
  f_X12_linesIn_b110 N sh k24 a0 x2 x3 x5 x6 (jor s0 s1) (jshl 1 (jw ((jw (x8 * v4)) + x6))) m
def f_X12_linesIn_b24 (N : Nat) (sh : jm_S) (k24 : Nat → Int → Int → Int → Int → Int → Option Int) (a0 : Nat) (x2 : Int) (x3 : Int) (x4 : Int) (x5 : Int) (x6 : Int) (m : jm_M) : Option Int :=
  Option.bind (jrf sh m a0 12 34 0) fun v5 =>
  Option.bind (jra sh m v5.toNat 13 0) fun v6 =>
  if x6 < v6 then
    if x3 = 0 then none else
    Option.bind (jck sh a0 12 34) fun u9 =>
    Option.bind (f_X12_newestOf a0 x2 (jrem x5 x3)) fun q10 =>
    if x3 = 0 then none else
    Option.bind (jck sh a0 12 34) fun u13 =>
    Option.bind (f_X12_olderOf sh a0 x2 (jrem x5 x3) m) fun q14 =>
    if q10 < 0 then
      f_X12_linesIn_b82 N sh k24 a0 x2 x3 x5 x6 q14 x4 0 m
    else
    Option.bind (jrf sh m a0 12 34 0) fun v17 =>
    Option.bind (jra sh m v17.toNat 13 0) fun v18 =>
    f_X12_linesIn_b82 N sh k24 a0 x2 x3 x5 x6 q14 x4 (jshl 1 (jw ((jw (q10 * v18)) + x6))) m
  else
  some x4
def f_X12_linesIn_l24 (N : Nat) (sh : jm_S) : Nat → Nat → Int → Int → Int → Int → Int → jm_M → Option Int
  | 0 => fun _ _ _ _ _ _ _ => none
  | n + 1 => fun a0 x2 x3 x4 x5 x6 m => f_X12_linesIn_b24 N sh (fun a0 x2 x3 x4 x5 x6 => f_X12_linesIn_l24 N sh n a0 x2 x3 x4 x5 x6 m) a0 x2 x3 x4 x5 x6 m
def f_X12_linesIn (N : Nat) (sh : jm_S) (a0 : Nat) (x1 : Int) (m : jm_M) : Option Int :=
  Option.bind (jck sh a0 12 34) fun u19 =>
  Option.bind (f_X12_linesInSet sh a0 m) fun q20 =>
  Option.bind (jck sh a0 12 34) fun u22 =>
  Option.bind (f_X12_statesOfSet sh a0 m) fun q23 =>
  Option.bind (jrf sh m a0 12 34 0) fun v25 =>
  Option.bind (jra sh m v25.toNat 13 3) fun v26 =>
  f_X12_linesIn_l24 N sh N a0 q20 q23 v26 x1 0 m
def f_X12_isBetter (sh : jm_S) (a0 : Nat) (x1 : Int) (x2 : Int) (m : jm_M) : Option Int :=
  if x2 < 0 then
    if x1 < 0 then
      some 0
    else
    some 1
  else
  if x1 < 0 then
    some 0
  else
  Option.bind (jrf sh m a0 12 34 19) fun v4 =>
  if v4 = 0 then
    if x1 < x2 then
      some 1
    else
    some 0
  else
  if x2 < x1 then
    some 1
  else
  some 0
def f_X12_fetchAll_b115 (N : Nat) (sh : jm_S) (k115 : Nat → Int → jm_M → Option jm_M) (a0 : Nat) (x2 : Int) (m : jm_M) : Option jm_M :=
  Option.bind (jrf sh m a0 12 34 18) fun v1 =>
  if x2 < v1 then
    Option.bind (jrf sh m a0 12 34 11) fun v3 =>
    Option.bind (jrf sh m a0 12 34 24) fun v4 =>
    Option.bind (jra sh m v4.toNat 13 x2) fun v5 =>
    Option.bind (jwa sh m v3.toNat 13 x2 v5) fun m6 =>
    k115 a0 (jw (x2 + 1)) m6
  else
  some m
def f_X12_fetchAll_l115 (N : Nat) (sh : jm_S) : Nat → Nat → Int → jm_M → Option jm_M
  | 0 => fun _ _ _ => none
  | n + 1 => fun a0 x2 m => f_X12_fetchAll_b115 N sh (f_X12_fetchAll_l115 N sh n) a0 x2 m
def f_X12_fetchAll_b107 (N : Nat) (sh : jm_S) (k25 : Nat → Int → Int → jm_M → Option jm_M) (a0 : Nat) (x1 : Int) (x2 : Int) (m : jm_M) : Option jm_M :=
  k25 a0 x1 (jw (x2 + 1)) m
def f_X12_fetchAll_b106 (N : Nat) (sh : jm_S) (k25 : Nat → Int → Int → jm_M → Option jm_M) (a0 : Nat) (x1 : Int) (x2 : Int) (r0 : Nat) (s1 : Int) (s2 : Int) (m : jm_M) : Option jm_M :=
  Option.bind (jwa sh m r0 13 s1 s2) fun m7 =>
  f_X12_fetchAll_b107 N sh k25 a0 x1 x2 m7
def f_X12_fetchAll_b72 (N : Nat) (sh : jm_S) (k25 : Nat → Int → Int → jm_M → Option jm_M) (a0 : Nat) (x1 : Int) (x2 : Int) (x3 : Int) (s0 : Int) (s1 : Int) (m : jm_M) : Option jm_M :=
  Option.bind (jrf sh m a0 12 34 24) fun v8 =>
  Option.bind (jrf sh m a0 12 34 24) fun v9 =>
  Option.bind (jra sh m v9.toNat 13 x3) fun v10 =>
  Option.bind (jck sh a0 12 34) fun u11 =>
  Option.bind (f_X12_isBetter sh a0 (jw (s0 + s1)) v10 m) fun q12 =>
  if q12 = 0 then
    Option.bind (jrf sh m a0 12 34 24) fun v15 =>
    Option.bind (jra sh m v15.toNat 13 x3) fun v16 =>
    f_X12_fetchAll_b106 N sh k25 a0 x1 x2 v8.toNat x3 v16 m
  else
  f_X12_fetchAll_b106 N sh k25 a0 x1 x2 v8.toNat x3 (jw (s0 + s1)) m
def f_X12_fetchAll_b25 (N : Nat) (sh : jm_S) (k25 : Nat → Int → Int → jm_M → Option jm_M) (a0 : Nat) (x1 : Int) (x2 : Int) (m : jm_M) : Option jm_M :=
  Option.bind (jrf sh m a0 12 34 18) fun v17 =>
  if x2 < v17 then
    Option.bind (jrf sh m a0 12 34 11) fun v19 =>
    Option.bind (jra sh m v19.toNat 13 x2) fun v20 =>
    if v20 < 0 then
      f_X12_fetchAll_b107 N sh k25 a0 x1 x2 m
    else
    Option.bind (jck sh a0 12 34) fun u22 =>
    Option.bind (f_X12_fetch N sh a0 x2 x1 m) fun q23 =>
    Option.bind (jrf sh q23.2 a0 12 34 11) fun v25 =>
    Option.bind (jra sh q23.2 v25.toNat 13 x2) fun v26 =>
    Option.bind (jrf sh q23.2 a0 12 34 10) fun v27 =>
    if v27 = 0 then
      Option.bind (jrf sh q23.2 a0 12 34 0) fun v29 =>
      Option.bind (jra sh q23.2 v29.toNat 13 2) fun v30 =>
      f_X12_fetchAll_b72 N sh k25 a0 x1 x2 q23.1 v26 v30 q23.2
    else
    f_X12_fetchAll_b72 N sh k25 a0 x1 x2 q23.1 v26 1 q23.2
  else
  f_X12_fetchAll_l115 N sh N a0 0 m
def f_X12_fetchAll_l25 (N : Nat) (sh : jm_S) : Nat → Nat → Int → Int → jm_M → Option jm_M
  | 0 => fun _ _ _ _ => none
  | n + 1 => fun a0 x1 x2 m => f_X12_fetchAll_b25 N sh (f_X12_fetchAll_l25 N sh n) a0 x1 x2 m
def f_X12_fetchAll_b2 (N : Nat) (sh : jm_S) (k2 : Nat → Int → Int → jm_M → Option jm_M) (a0 : Nat) (x1 : Int) (x2 : Int) (m : jm_M) : Option jm_M :=
  Option.bind (jrf sh m a0 12 34 18) fun v31 =>
  if x2 < v31 then
    Option.bind (jrf sh m a0 12 34 24) fun v33 =>
    Option.bind (jwa sh m v33.toNat 13 x2 (-1)) fun m34 =>
    k2 a0 x1 (jw (x2 + 1)) m34
  else
  f_X12_fetchAll_l25 N sh N a0 x1 0 m
def f_X12_fetchAll_l2 (N : Nat) (sh : jm_S) : Nat → Nat → Int → Int → jm_M → Option jm_M
  | 0 => fun _ _ _ _ => none
  | n + 1 => fun a0 x1 x2 m => f_X12_fetchAll_b2 N sh (f_X12_fetchAll_l2 N sh n) a0 x1 x2 m
def f_X12_fetchAll (N : Nat) (sh : jm_S) (a0 : Nat) (x1 : Int) (m : jm_M) : Option jm_M :=
  f_X12_fetchAll_l2 N sh N a0 x1 0 m
def f_X12_keep_b2 (N : Nat) (sh : jm_S) (k2 : Nat → Nat → Int → Int → jm_M → Option jm_M) (a0 : Nat) (a1 : Nat) (x2 : Int) (x3 : Int) (m : jm_M) : Option jm_M :=
  Option.bind (jrf sh m a0 12 34 18) fun v1 =>
  if x3 < v1 then
    Option.bind (jrf sh m a0 12 34 11) fun v3 =>
    Option.bind (jra sh m v3.toNat 13 x3) fun v4 =>
    Option.bind (jwa sh m a1 13 (jw ((jw (625 * x2)) + x3)) v4) fun m5 =>
    k2 a0 a1 x2 (jw (x3 + 1)) m5
  else
  some m
def f_X12_keep_l2 (N : Nat) (sh : jm_S) : Nat → Nat → Nat → Int → Int → jm_M → Option jm_M
  | 0 => fun _ _ _ _ _ => none
  | n + 1 => fun a0 a1 x2 x3 m => f_X12_keep_b2 N sh (f_X12_keep_l2 N sh n) a0 a1 x2 x3 m
def f_X12_keep (N : Nat) (sh : jm_S) (a0 : Nat) (a1 : Nat) (x2 : Int) (m : jm_M) : Option jm_M :=
  f_X12_keep_l2 N sh N a0 a1 x2 0 m
def f_X12_joinFrom_b52 (N : Nat) (sh : jm_S) (k2 : Nat → Nat → Int → Int → jm_M → Option jm_M) (a0 : Nat) (a1 : Nat) (x2 : Int) (x3 : Int) (r0 : Nat) (s1 : Int) (s2 : Int) (m : jm_M) : Option jm_M :=
  Option.bind (jwa sh m r0 13 s1 s2) fun m1 =>
  k2 a0 a1 x2 (jw (x3 + 1)) m1
def f_X12_joinFrom_b2 (N : Nat) (sh : jm_S) (k2 : Nat → Nat → Int → Int → jm_M → Option jm_M) (a0 : Nat) (a1 : Nat) (x2 : Int) (x3 : Int) (m : jm_M) : Option jm_M :=
  Option.bind (jrf sh m a0 12 34 18) fun v2 =>
  if x3 < v2 then
    Option.bind (jra sh m a1 13 (jw ((jw (625 * x2)) + x3))) fun v4 =>
    Option.bind (jrf sh m a0 12 34 11) fun v5 =>
    Option.bind (jrf sh m a0 12 34 11) fun v6 =>
    Option.bind (jra sh m v6.toNat 13 x3) fun v7 =>
    Option.bind (jck sh a0 12 34) fun u8 =>
    Option.bind (f_X12_isBetter sh a0 v4 v7 m) fun q9 =>
    if q9 = 0 then
      Option.bind (jrf sh m a0 12 34 11) fun v12 =>
      Option.bind (jra sh m v12.toNat 13 x3) fun v13 =>
      f_X12_joinFrom_b52 N sh k2 a0 a1 x2 x3 v5.toNat x3 v13 m
    else
    f_X12_joinFrom_b52 N sh k2 a0 a1 x2 x3 v5.toNat x3 v4 m
  else
  some m
def f_X12_joinFrom_l2 (N : Nat) (sh : jm_S) : Nat → Nat → Nat → Int → Int → jm_M → Option jm_M
  | 0 => fun _ _ _ _ _ => none
  | n + 1 => fun a0 a1 x2 x3 m => f_X12_joinFrom_b2 N sh (f_X12_joinFrom_l2 N sh n) a0 a1 x2 x3 m
def f_X12_joinFrom (N : Nat) (sh : jm_S) (a0 : Nat) (a1 : Nat) (x2 : Int) (m : jm_M) : Option jm_M :=
  f_X12_joinFrom_l2 N sh N a0 a1 x2 0 m
def f_X12_copyFrom_b2 (N : Nat) (sh : jm_S) (k2 : Nat → Nat → Int → Int → jm_M → Option jm_M) (a0 : Nat) (a1 : Nat) (x2 : Int) (x3 : Int) (m : jm_M) : Option jm_M :=
  Option.bind (jrf sh m a0 12 34 18) fun v1 =>
  if x3 < v1 then
    Option.bind (jrf sh m a0 12 34 11) fun v3 =>
    Option.bind (jra sh m a1 13 (jw ((jw (625 * x2)) + x3))) fun v4 =>
    Option.bind (jwa sh m v3.toNat 13 x3 v4) fun m5 =>
    k2 a0 a1 x2 (jw (x3 + 1)) m5
  else
  some m
def f_X12_copyFrom_l2 (N : Nat) (sh : jm_S) : Nat → Nat → Nat → Int → Int → jm_M → Option jm_M
  | 0 => fun _ _ _ _ _ => none
  | n + 1 => fun a0 a1 x2 x3 m => f_X12_copyFrom_b2 N sh (f_X12_copyFrom_l2 N sh n) a0 a1 x2 x3 m
def f_X12_copyFrom (N : Nat) (sh : jm_S) (a0 : Nat) (a1 : Nat) (x2 : Int) (m : jm_M) : Option jm_M :=
  f_X12_copyFrom_l2 N sh N a0 a1 x2 0 m
def f_X12_digit_b49 (sh : jm_S) (r0 : Nat) (s1 : Int) (m : jm_M) : Option (Int × jm_M) :=
  Option.bind (jwf sh m r0 12 34 23 s1) fun m1 =>
  some ((-6), m1)
def f_X12_digit (sh : jm_S) (a0 : Nat) (x1 : Int) (m : jm_M) : Option (Int × jm_M) :=
  Option.bind (jrf sh m a0 12 34 22) fun v2 =>
  Option.bind (jrf sh m a0 12 34 20) fun v3 =>
  if v2 < v3 then
    Option.bind (jrf sh m a0 12 34 22) fun v5 =>
    Option.bind (jwf sh m a0 12 34 22 (jw (v5 + 1))) fun m6 =>
    Option.bind (jrf sh m6 a0 12 34 21) fun v7 =>
    Option.bind (jrf sh m6 a0 12 34 22) fun v8 =>
    Option.bind (jra sh m6 v7.toNat 13 (jw (v8 - 1))) fun v9 =>
    some (v9, m6)
  else
  Option.bind (jrf sh m a0 12 34 23) fun v10 =>
  if v10 < 0 then
    f_X12_digit_b49 sh a0 x1 m
  else
  Option.bind (jrf sh m a0 12 34 23) fun v12 =>
  f_X12_digit_b49 sh a0 v12 m
def f_X12_pile (sh : jm_S) (a0 : Nat) (x1 : Int) (x2 : Int) (x3 : Int) (m : jm_M) : Option jm_M :=
  Option.bind (jrf sh m a0 12 34 13) fun v1 =>
  Option.bind (jrf sh m a0 12 34 12) fun v2 =>
  Option.bind (jwa sh m v1.toNat 13 v2 x1) fun m3 =>
  Option.bind (jrf sh m3 a0 12 34 14) fun v4 =>
  Option.bind (jrf sh m3 a0 12 34 12) fun v5 =>
  Option.bind (jwa sh m3 v4.toNat 13 v5 x2) fun m6 =>
  Option.bind (jrf sh m6 a0 12 34 15) fun v7 =>
  Option.bind (jrf sh m6 a0 12 34 12) fun v8 =>
  Option.bind (jwa sh m6 v7.toNat 13 v8 x3) fun m9 =>
  Option.bind (jrf sh m9 a0 12 34 12) fun v10 =>
  Option.bind (jwf sh m9 a0 12 34 12 (jw (v10 + 1))) fun m11 =>
  some m11
def f_X12_begin_b209 (N : Nat) (sh : jm_S) (a0 : Nat) (x1 : Int) (m : jm_M) : Option jm_M :=
  Option.bind (jwf sh m a0 12 34 25 (jw (x1 + 1))) fun m1 =>
  some m1
def f_X12_begin_b187 (N : Nat) (sh : jm_S) (a0 : Nat) (x1 : Int) (x4 : Int) (r0 : Nat) (s1 : Int) (s2 : Int) (s3 : Int) (m : jm_M) : Option jm_M :=
  Option.bind (jck sh r0 12 34) fun u2 =>
  Option.bind (f_X12_pile sh r0 s1 s2 s3 m) fun q3 =>
  if x4 < 0 then
    Option.bind (jrf sh q3 a0 12 34 16) fun v6 =>
    Option.bind (jrf sh q3 a0 12 34 12) fun v7 =>
    Option.bind (jck sh a0 12 34) fun u8 =>
    Option.bind (f_X12_keep N sh a0 v6.toNat (jw (v7 - 1)) q3) fun q9 =>
    f_X12_begin_b209 N sh a0 x1 q9
  else
  f_X12_begin_b209 N sh a0 x1 q3
def f_X12_begin_b176 (N : Nat) (sh : jm_S) (a0 : Nat) (x1 : Int) (x3 : Int) (x4 : Int) (r0 : Nat) (s1 : Int) (s2 : Int) (m : jm_M) : Option jm_M :=
  if x4 < 0 then
    f_X12_begin_b187 N sh a0 x1 x4 r0 s1 s2 x3 m
  else
  f_X12_begin_b187 N sh a0 x1 x4 r0 s1 s2 x4 m
def f_X12_begin_b132 (N : Nat) (sh : jm_S) (r0 : Nat) (s1 : Int) (m : jm_M) : Option jm_M :=
  Option.bind (jwf sh m r0 12 34 25 s1) fun m12 =>
  some m12
def f_X12_begin_b108 (N : Nat) (sh : jm_S) (a0 : Nat) (x1 : Int) (x3 : Int) (m : jm_M) : Option jm_M :=
  if x3 = 1 then
    Option.bind (jrf sh m a0 12 34 5) fun v14 =>
    Option.bind (jra sh m v14.toNat 13 (jw (x1 + 1))) fun v15 =>
    f_X12_begin_b132 N sh a0 (jw ((jw (x1 + 1)) + v15)) m
  else
  f_X12_begin_b132 N sh a0 (jw (x1 + 1)) m
def f_X12_begin_b86 (N : Nat) (sh : jm_S) (a0 : Nat) (x1 : Int) (x3 : Int) (r0 : Nat) (s1 : Int) (s2 : Int) (m : jm_M) : Option jm_M :=
  Option.bind (jck sh r0 12 34) fun u16 =>
  Option.bind (f_X12_pile sh r0 s1 s2 0 m) fun q17 =>
  if x3 < 0 then
    Option.bind (jrf sh q17 a0 12 34 16) fun v20 =>
    Option.bind (jrf sh q17 a0 12 34 12) fun v21 =>
    Option.bind (jck sh a0 12 34) fun u22 =>
    Option.bind (f_X12_keep N sh a0 v20.toNat (jw (v21 - 1)) q17) fun q23 =>
    f_X12_begin_b108 N sh a0 x1 x3 q23
  else
  f_X12_begin_b108 N sh a0 x1 x3 q17
def f_X12_begin (N : Nat) (sh : jm_S) (a0 : Nat) (m : jm_M) : Option jm_M :=
  Option.bind (jrf sh m a0 12 34 25) fun v25 =>
  Option.bind (jrf sh m a0 12 34 4) fun v26 =>
  Option.bind (jra sh m v26.toNat 13 v25) fun v27 =>
  Option.bind (jwf sh m a0 12 34 25 (-6)) fun m28 =>
  Option.bind (f_X12_in v27 48 55) fun q29 =>
  if q29 = 0 then
    if v27 = 59 then
      Option.bind (jck sh a0 12 34) fun u33 =>
      Option.bind (f_X12_pile sh a0 v25 0 0 m28) fun q34 =>
      Option.bind (jwf sh q34 a0 12 34 25 (jw (v25 + 1))) fun m36 =>
      some m36
    else
    if v27 = 63 then
      Option.bind (jck sh a0 12 34) fun u38 =>
      Option.bind (f_X12_digit sh a0 2 m28) fun q39 =>
      if q39.1 < 0 then
        f_X12_begin_b86 N sh a0 v25 q39.1 a0 v25 0 q39.2
      else
      f_X12_begin_b86 N sh a0 v25 q39.1 a0 v25 5 q39.2
    else
    Option.bind (f_X12_isLoop v27) fun q42 =>
    if q42 = 0 then
      some m28
    else
    Option.bind (f_X12_timesOf v27) fun q45 =>
    Option.bind (jck sh a0 12 34) fun u47 =>
    Option.bind (f_X12_digit sh a0 (jw (q45 + 1)) m28) fun q48 =>
    if q48.1 = 0 then
      some q48.2
    else
    if q48.1 < 0 then
      f_X12_begin_b176 N sh a0 v25 q45 q48.1 a0 v25 0 q48.2
    else
    f_X12_begin_b176 N sh a0 v25 q45 q48.1 a0 v25 5 q48.2
  else
  Option.bind (jck sh a0 12 34) fun u52 =>
  Option.bind (f_X12_fetchAll N sh a0 (jw (v27 - 48)) m28) fun q53 =>
  some q53
def f_X12_come_b220 (N : Nat) (sh : jm_S) (a0 : Nat) (m : jm_M) : Option jm_M :=
  Option.bind (jrf sh m a0 12 34 12) fun v1 =>
  Option.bind (jwf sh m a0 12 34 12 (jw (v1 - 1))) fun m2 =>
  some m2
def f_X12_come_b212 (N : Nat) (sh : jm_S) (a0 : Nat) (x2 : Int) (m : jm_M) : Option jm_M :=
  Option.bind (jwf sh m a0 12 34 25 (jw (x2 + 1))) fun m3 =>
  some m3
def f_X12_come_b189 (N : Nat) (sh : jm_S) (a0 : Nat) (x1 : Int) (x2 : Int) (x4 : Int) (m : jm_M) : Option jm_M :=
  Option.bind (jrf sh m a0 12 34 15) fun v4 =>
  Option.bind (jra sh m v4.toNat 13 x1) fun v5 =>
  if 0 < v5 then
    if x4 = 0 then
      f_X12_come_b212 N sh a0 x2 m
    else
    Option.bind (jrf sh m a0 12 34 17) fun v8 =>
    Option.bind (jck sh a0 12 34) fun u9 =>
    Option.bind (f_X12_copyFrom N sh a0 v8.toNat x1 m) fun q10 =>
    f_X12_come_b212 N sh a0 x2 q10
  else
  f_X12_come_b220 N sh a0 m
def f_X12_come_b155 (N : Nat) (sh : jm_S) (a0 : Nat) (x1 : Int) (x2 : Int) (s0 : Int) (m : jm_M) : Option jm_M :=
  if s0 = 0 then
    f_X12_come_b189 N sh a0 x1 x2 s0 m
  else
  Option.bind (jrf sh m a0 12 34 17) fun v13 =>
  Option.bind (jck sh a0 12 34) fun u14 =>
  Option.bind (f_X12_keep N sh a0 v13.toNat x1 m) fun q15 =>
  Option.bind (jrf sh q15 a0 12 34 16) fun v17 =>
  Option.bind (jck sh a0 12 34) fun u18 =>
  Option.bind (f_X12_joinFrom N sh a0 v17.toNat x1 q15) fun q19 =>
  Option.bind (jrf sh q19 a0 12 34 16) fun v21 =>
  Option.bind (jck sh a0 12 34) fun u22 =>
  Option.bind (f_X12_keep N sh a0 v21.toNat x1 q19) fun q23 =>
  f_X12_come_b189 N sh a0 x1 x2 s0 q23
def f_X12_come_b124 (N : Nat) (sh : jm_S) (a0 : Nat) (x1 : Int) (x2 : Int) (x3 : Int) (m : jm_M) : Option jm_M :=
  Option.bind (f_X12_isLoop x3) fun q25 =>
  if q25 = 0 then
    f_X12_come_b220 N sh a0 m
  else
  Option.bind (jrf sh m a0 12 34 15) fun v28 =>
  Option.bind (jra sh m v28.toNat 13 x1) fun v29 =>
  Option.bind (jwa sh m v28.toNat 13 x1 (jw (v29 - 1))) fun m30 =>
  Option.bind (jrf sh m30 a0 12 34 14) fun v31 =>
  Option.bind (jra sh m30 v31.toNat 13 x1) fun v32 =>
  if v32 = 0 then
    f_X12_come_b155 N sh a0 x1 x2 1 m30
  else
  f_X12_come_b155 N sh a0 x1 x2 0 m30
def f_X12_come_b99 (N : Nat) (sh : jm_S) (a0 : Nat) (x1 : Int) (x2 : Int) (x3 : Int) (m : jm_M) : Option jm_M :=
  if x3 = 63 then
    Option.bind (jrf sh m a0 12 34 14) fun v35 =>
    Option.bind (jra sh m v35.toNat 13 x1) fun v36 =>
    if v36 = 1 then
      Option.bind (jrf sh m a0 12 34 17) fun v38 =>
      Option.bind (jck sh a0 12 34) fun u39 =>
      Option.bind (f_X12_joinFrom N sh a0 v38.toNat x1 m) fun q40 =>
      f_X12_come_b124 N sh a0 x1 x2 x3 q40
    else
    f_X12_come_b124 N sh a0 x1 x2 x3 m
  else
  f_X12_come_b124 N sh a0 x1 x2 x3 m
def f_X12_come_b75 (N : Nat) (sh : jm_S) (a0 : Nat) (x1 : Int) (x2 : Int) (m : jm_M) : Option jm_M :=
  Option.bind (jrf sh m a0 12 34 14) fun v42 =>
  Option.bind (jwa sh m v42.toNat 13 x1 1) fun m43 =>
  Option.bind (jrf sh m43 a0 12 34 5) fun v44 =>
  Option.bind (jra sh m43 v44.toNat 13 (jw (x2 + 1))) fun v45 =>
  Option.bind (jwf sh m43 a0 12 34 25 (jw ((jw (x2 + 1)) + v45))) fun m46 =>
  some m46
def f_X12_come_b51 (N : Nat) (sh : jm_S) (a0 : Nat) (x1 : Int) (x2 : Int) (x3 : Int) (m : jm_M) : Option jm_M :=
  if x3 = 63 then
    Option.bind (jrf sh m a0 12 34 17) fun v48 =>
    Option.bind (jck sh a0 12 34) fun u49 =>
    Option.bind (f_X12_keep N sh a0 v48.toNat x1 m) fun q50 =>
    Option.bind (jrf sh q50 a0 12 34 16) fun v52 =>
    Option.bind (jck sh a0 12 34) fun u53 =>
    Option.bind (f_X12_copyFrom N sh a0 v52.toNat x1 q50) fun q54 =>
    f_X12_come_b75 N sh a0 x1 x2 q54
  else
  f_X12_come_b75 N sh a0 x1 x2 m
def f_X12_come_b36 (N : Nat) (sh : jm_S) (a0 : Nat) (x1 : Int) (x2 : Int) (x3 : Int) (m : jm_M) : Option jm_M :=
  if x3 = 63 then
    Option.bind (jrf sh m a0 12 34 14) fun v57 =>
    Option.bind (jra sh m v57.toNat 13 x1) fun v58 =>
    if v58 = 0 then
      f_X12_come_b51 N sh a0 x1 x2 x3 m
    else
    f_X12_come_b99 N sh a0 x1 x2 x3 m
  else
  f_X12_come_b99 N sh a0 x1 x2 x3 m
def f_X12_come (N : Nat) (sh : jm_S) (a0 : Nat) (m : jm_M) : Option jm_M :=
  Option.bind (jrf sh m a0 12 34 12) fun v60 =>
  Option.bind (jrf sh m a0 12 34 13) fun v61 =>
  Option.bind (jra sh m v61.toNat 13 (jw (v60 - 1))) fun v62 =>
  Option.bind (jrf sh m a0 12 34 4) fun v63 =>
  Option.bind (jra sh m v63.toNat 13 v62) fun v64 =>
  if v64 = 59 then
    Option.bind (jrf sh m a0 12 34 14) fun v66 =>
    Option.bind (jra sh m v66.toNat 13 (jw (v60 - 1))) fun v67 =>
    if v67 = 0 then
      f_X12_come_b51 N sh a0 (jw (v60 - 1)) v62 v64 m
    else
    f_X12_come_b36 N sh a0 (jw (v60 - 1)) v62 v64 m
  else
  f_X12_come_b36 N sh a0 (jw (v60 - 1)) v62 v64 m
def f_X12_work_b82 (N : Nat) (sh : jm_S) (k68 : Nat → jm_M → Option jm_M) (a0 : Nat) (m : jm_M) : Option jm_M :=
  Option.bind (jrf sh m a0 12 34 25) fun v1 =>
  if v1 < 0 then
    Option.bind (jck sh a0 12 34) fun u3 =>
    Option.bind (f_X12_come N sh a0 m) fun q4 =>
    k68 a0 q4
  else
  Option.bind (jck sh a0 12 34) fun u6 =>
  Option.bind (f_X12_begin N sh a0 m) fun q7 =>
  k68 a0 q7
def f_X12_work_b68 (N : Nat) (sh : jm_S) (k68 : Nat → jm_M → Option jm_M) (a0 : Nat) (m : jm_M) : Option jm_M :=
  Option.bind (jrf sh m a0 12 34 25) fun v9 =>
  if v9 < 0 then
    Option.bind (jrf sh m a0 12 34 12) fun v11 =>
    if 0 < v11 then
      f_X12_work_b82 N sh k68 a0 m
    else
    some m
  else
  f_X12_work_b82 N sh k68 a0 m
def f_X12_work_l68 (N : Nat) (sh : jm_S) : Nat → Nat → jm_M → Option jm_M
  | 0 => fun _ _ => none
  | n + 1 => fun a0 m => f_X12_work_b68 N sh (f_X12_work_l68 N sh n) a0 m
def f_X12_work_b37 (N : Nat) (sh : jm_S) (k15 : Nat → Int → Int → jm_M → Option jm_M) (a0 : Nat) (x1 : Int) (x3 : Int) (r0 : Nat) (s1 : Int) (s2 : Int) (m : jm_M) : Option jm_M :=
  Option.bind (jwa sh m r0 13 s1 s2) fun m13 =>
  k15 a0 x1 (jw (x3 + 1)) m13
def f_X12_work_b15 (N : Nat) (sh : jm_S) (k15 : Nat → Int → Int → jm_M → Option jm_M) (a0 : Nat) (x1 : Int) (x3 : Int) (m : jm_M) : Option jm_M :=
  Option.bind (jrf sh m a0 12 34 18) fun v14 =>
  if x3 < v14 then
    Option.bind (jrf sh m a0 12 34 11) fun v16 =>
    if x3 = 0 then
      f_X12_work_b37 N sh k15 a0 x1 x3 v16.toNat x3 0 m
    else
    f_X12_work_b37 N sh k15 a0 x1 x3 v16.toNat x3 (-1) m
  else
  Option.bind (jwf sh m a0 12 34 12 0) fun m18 =>
  Option.bind (jwf sh m18 a0 12 34 22 0) fun m19 =>
  Option.bind (jwf sh m19 a0 12 34 23 (-6)) fun m20 =>
  Option.bind (jwf sh m20 a0 12 34 25 (jw (30 * x1))) fun m21 =>
  f_X12_work_l68 N sh N a0 m21
def f_X12_work_l15 (N : Nat) (sh : jm_S) : Nat → Nat → Int → Int → jm_M → Option jm_M
  | 0 => fun _ _ _ _ => none
  | n + 1 => fun a0 x1 x3 m => f_X12_work_b15 N sh (f_X12_work_l15 N sh n) a0 x1 x3 m
def f_X12_work (N : Nat) (sh : jm_S) (a0 : Nat) (x1 : Int) (x2 : Int) (m : jm_M) : Option jm_M :=
  Option.bind (jck sh a0 12 34) fun u22 =>
  Option.bind (f_X12_states N sh a0 m) fun q23 =>
  Option.bind (jwf sh m a0 12 34 18 q23) fun m25 =>
  Option.bind (jzb x2) fun z27 =>
  Option.bind (jwf sh m25 a0 12 34 19 z27) fun m26 =>
  f_X12_work_l15 N sh N a0 x1 0 m26
def f_X12_bestOf_b36 (N : Nat) (sh : jm_S) (k4 : Nat → Int → Int → Option Int) (a0 : Nat) (x2 : Int) (s0 : Int) (m : jm_M) : Option Int :=
  k4 a0 s0 (jw (x2 + 1))
def f_X12_bestOf_b4 (N : Nat) (sh : jm_S) (k4 : Nat → Int → Int → Option Int) (a0 : Nat) (x1 : Int) (x2 : Int) (m : jm_M) : Option Int :=
  Option.bind (jrf sh m a0 12 34 18) fun v1 =>
  if x2 < v1 then
    Option.bind (jrf sh m a0 12 34 11) fun v3 =>
    Option.bind (jra sh m v3.toNat 13 x2) fun v4 =>
    Option.bind (jck sh a0 12 34) fun u5 =>
    Option.bind (f_X12_isBetter sh a0 v4 x1 m) fun q6 =>
    if q6 = 0 then
      f_X12_bestOf_b36 N sh k4 a0 x2 x1 m
    else
    Option.bind (jrf sh m a0 12 34 11) fun v9 =>
    Option.bind (jra sh m v9.toNat 13 x2) fun v10 =>
    f_X12_bestOf_b36 N sh k4 a0 x2 v10 m
  else
  some x1
def f_X12_bestOf_l4 (N : Nat) (sh : jm_S) : Nat → Nat → Int → Int → jm_M → Option Int
  | 0 => fun _ _ _ _ => none
  | n + 1 => fun a0 x1 x2 m => f_X12_bestOf_b4 N sh (fun a0 x1 x2 => f_X12_bestOf_l4 N sh n a0 x1 x2 m) a0 x1 x2 m
def f_X12_bestOf (N : Nat) (sh : jm_S) (a0 : Nat) (m : jm_M) : Option Int :=
  f_X12_bestOf_l4 N sh N a0 (-1) 0 m
def f_X12_worstOf (N : Nat) (sh : jm_S) (a0 : Nat) (x1 : Int) (m : jm_M) : Option (Int × jm_M) :=
  Option.bind (jwf sh m a0 12 34 20 0) fun m1 =>
  Option.bind (jck sh a0 12 34) fun u2 =>
  Option.bind (f_X12_work N sh a0 x1 1 m1) fun q3 =>
  Option.bind (jck sh a0 12 34) fun u5 =>
  Option.bind (f_X12_bestOf N sh a0 q3) fun q6 =>
  some (q6, q3)
def f_X12_choose (sh : jm_S) (a0 : Nat) (x1 : Int) (m : jm_M) : Option (Int × jm_M) :=
  Option.bind (f_X12_in x1 0 9) fun q1 =>
  if q1 = 0 then
    some ((-2), m)
  else
  Option.bind (jrf sh m a0 12 34 7) fun v4 =>
  if v4 = 20 then
    some ((-4), m)
  else
  Option.bind (jrf sh m a0 12 34 8) fun v6 =>
  Option.bind (jrf sh m a0 12 34 7) fun v7 =>
  Option.bind (jwa sh m v6.toNat 13 v7 x1) fun m8 =>
  Option.bind (jrf sh m8 a0 12 34 7) fun v9 =>
  Option.bind (jwf sh m8 a0 12 34 7 (jw (v9 + 1))) fun m10 =>
  Option.bind (jrf sh m10 a0 12 34 7) fun v11 =>
  some (v11, m10)
def f_X12_forget (sh : jm_S) (a0 : Nat) (m : jm_M) : Option (Int × jm_M) :=
  Option.bind (jrf sh m a0 12 34 7) fun v1 =>
  Option.bind (jwf sh m a0 12 34 7 0) fun m2 =>
  some (v1, m2)
def f_X12_nextDigit (sh : jm_S) (a0 : Nat) (m : jm_M) : Option (Int × jm_M) :=
  Option.bind (jrf sh m a0 12 34 26) fun v1 =>
  Option.bind (jwf sh m a0 12 34 26 (jw (v1 + 1))) fun m2 =>
  Option.bind (jrf sh m2 a0 12 34 26) fun v3 =>
  Option.bind (jrf sh m2 a0 12 34 7) fun v4 =>
  if v4 < v3 then
    some (0, m2)
  else
  Option.bind (jrf sh m2 a0 12 34 8) fun v6 =>
  Option.bind (jrf sh m2 a0 12 34 26) fun v7 =>
  Option.bind (jra sh m2 v6.toNat 13 (jw (v7 - 1))) fun v8 =>
  some (v8, m2)
def f_X12_run_b348 (N : Nat) (sh : jm_S) (k48 : Nat → Int → Int → Int → Int → Int → Int → jm_M → Option (Int × jm_M)) (a0 : Nat) (x2 : Int) (x3 : Int) (x4 : Int) (x5 : Int) (x6 : Int) (x7 : Int) (m : jm_M) : Option (Int × jm_M) :=
  k48 a0 x2 x3 x4 x5 x6 x7 m
def f_X12_run_b316 (N : Nat) (sh : jm_S) (k48 : Nat → Int → Int → Int → Int → Int → Int → jm_M → Option (Int × jm_M)) (a0 : Nat) (x2 : Int) (x3 : Int) (x4 : Int) (x5 : Int) (x6 : Int) (s0 : Int) (m : jm_M) : Option (Int × jm_M) :=
  f_X12_run_b348 N sh k48 a0 x2 x3 x4 x5 x6 s0 m
def f_X12_run_b249 (N : Nat) (sh : jm_S) (k48 : Nat → Int → Int → Int → Int → Int → Int → jm_M → Option (Int × jm_M)) (a0 : Nat) (x2 : Int) (x3 : Int) (x5 : Int) (x6 : Int) (x7 : Int) (s0 : Int) (s1 : Int) (m : jm_M) : Option (Int × jm_M) :=
  f_X12_run_b348 N sh k48 a0 x2 x3 (jw (s0 + s1)) x5 x6 x7 m
def f_X12_run_b227 (N : Nat) (sh : jm_S) (k48 : Nat → Int → Int → Int → Int → Int → Int → jm_M → Option (Int × jm_M)) (a0 : Nat) (x2 : Int) (x3 : Int) (x4 : Int) (x5 : Int) (x7 : Int) (s0 : Int) (s1 : Int) (m : jm_M) : Option (Int × jm_M) :=
  Option.bind (jrf sh m a0 12 34 10) fun v1 =>
  if v1 = 0 then
    Option.bind (jrf sh m a0 12 34 0) fun v3 =>
    Option.bind (jra sh m v3.toNat 13 2) fun v4 =>
    f_X12_run_b249 N sh k48 a0 x2 x3 x5 (jw (s0 + s1)) x7 x4 v4 m
  else
  f_X12_run_b249 N sh k48 a0 x2 x3 x5 (jw (s0 + s1)) x7 x4 1 m
def f_X12_run_b163 (N : Nat) (sh : jm_S) (k48 : Nat → Int → Int → Int → Int → Int → Int → jm_M → Option (Int × jm_M)) (a0 : Nat) (x2 : Int) (x3 : Int) (x4 : Int) (x5 : Int) (x6 : Int) (x7 : Int) (r0 : Nat) (s1 : Int) (s2 : Int) (m : jm_M) : Option (Int × jm_M) :=
  Option.bind (jwf sh m r0 12 34 12 (jw (s1 - s2))) fun m5 =>
  k48 a0 x2 x3 x4 x5 x6 x7 m5
def f_X12_run_b141 (N : Nat) (sh : jm_S) (k48 : Nat → Int → Int → Int → Int → Int → Int → jm_M → Option (Int × jm_M)) (a0 : Nat) (x2 : Int) (x3 : Int) (x4 : Int) (x5 : Int) (x6 : Int) (x8 : Int) (s0 : Int) (m : jm_M) : Option (Int × jm_M) :=
  Option.bind (jrf sh m a0 12 34 12) fun v6 =>
  Option.bind (jrf sh m a0 12 34 15) fun v7 =>
  Option.bind (jra sh m v7.toNat 13 x8) fun v8 =>
  if v8 < 0 then
    f_X12_run_b163 N sh k48 a0 x2 x3 x4 x5 x6 s0 a0 v6 1 m
  else
  f_X12_run_b163 N sh k48 a0 x2 x3 x4 x5 x6 s0 a0 v6 0 m
def f_X12_run_b60 (N : Nat) (sh : jm_S) (k48 : Nat → Int → Int → Int → Int → Int → Int → jm_M → Option (Int × jm_M)) (a0 : Nat) (x2 : Int) (x3 : Int) (x4 : Int) (x5 : Int) (x6 : Int) (x7 : Int) (m : jm_M) : Option (Int × jm_M) :=
  if x7 < 0 then
    Option.bind (jrf sh m a0 12 34 12) fun v11 =>
    Option.bind (jrf sh m a0 12 34 15) fun v12 =>
    Option.bind (jra sh m v12.toNat 13 (jw (v11 - 1))) fun v13 =>
    Option.bind (jwa sh m v12.toNat 13 (jw (v11 - 1)) (jw (v13 - 1))) fun m14 =>
    Option.bind (jrf sh m14 a0 12 34 13) fun v15 =>
    Option.bind (jra sh m14 v15.toNat 13 (jw (v11 - 1))) fun v16 =>
    Option.bind (jrf sh m14 a0 12 34 15) fun v17 =>
    Option.bind (jra sh m14 v17.toNat 13 (jw (v11 - 1))) fun v18 =>
    if v18 < 0 then
      f_X12_run_b141 N sh k48 a0 x2 x3 x4 x5 x6 (jw (v11 - 1)) (-6) m14
    else
    Option.bind (jrf sh m14 a0 12 34 4) fun v20 =>
    Option.bind (jra sh m14 v20.toNat 13 v16) fun v21 =>
    if v21 = 59 then
      Option.bind (jrf sh m14 a0 12 34 5) fun v23 =>
      Option.bind (jra sh m14 v23.toNat 13 (jw (v16 + 1))) fun v24 =>
      f_X12_run_b141 N sh k48 a0 x2 x3 x4 x5 x6 (jw (v11 - 1)) (jw ((jw (v16 + 1)) + v24)) m14
    else
    f_X12_run_b141 N sh k48 a0 x2 x3 x4 x5 x6 (jw (v11 - 1)) (jw (v16 + 1)) m14
  else
  Option.bind (jrf sh m a0 12 34 4) fun v25 =>
  Option.bind (jra sh m v25.toNat 13 x7) fun v26 =>
  Option.bind (f_X12_in v26 48 55) fun q27 =>
  if q27 = 0 then
    if v26 = 59 then
      Option.bind (jck sh a0 12 34) fun u31 =>
      Option.bind (f_X12_pile sh a0 x7 0 1 m) fun q32 =>
      f_X12_run_b348 N sh k48 a0 x2 x3 x4 x5 x6 (jw (x7 + 1)) q32
    else
    if v26 = 63 then
      Option.bind (jck sh a0 12 34) fun u35 =>
      Option.bind (f_X12_nextDigit sh a0 m) fun q36 =>
      if (jrem q36.1 2) = 0 then
        f_X12_run_b316 N sh k48 a0 x2 x3 x4 x5 x6 (jw (x7 + 1)) q36.2
      else
      Option.bind (jrf sh q36.2 a0 12 34 5) fun v39 =>
      Option.bind (jra sh q36.2 v39.toNat 13 (jw (x7 + 1))) fun v40 =>
      f_X12_run_b316 N sh k48 a0 x2 x3 x4 x5 x6 (jw ((jw (x7 + 1)) + v40)) q36.2
    else
    Option.bind (f_X12_isLoop v26) fun q41 =>
    if q41 = 0 then
      f_X12_run_b348 N sh k48 a0 x2 x3 x4 x5 x6 (-6) m
    else
    Option.bind (jck sh a0 12 34) fun u44 =>
    Option.bind (f_X12_nextDigit sh a0 m) fun q45 =>
    Option.bind (f_X12_timesOf v26) fun q47 =>
    if jw (q47 + 1) = 0 then none else
    Option.bind (jck sh a0 12 34) fun u50 =>
    Option.bind (f_X12_pile sh a0 x7 0 (jrem q45.1 (jw (q47 + 1))) q45.2) fun q51 =>
    f_X12_run_b348 N sh k48 a0 x2 x3 x4 x5 x6 (-6) q51
  else
  Option.bind (jck sh a0 12 34) fun u53 =>
  Option.bind (f_X12_fetch N sh a0 x3 (jw (v26 - 48)) m) fun q54 =>
  Option.bind (jrf sh q54.2 a0 12 34 10) fun v56 =>
  if v56 = 0 then
    f_X12_run_b227 N sh k48 a0 x2 q54.1 x4 (jw (x5 + 1)) (-6) x6 1 q54.2
  else
  f_X12_run_b227 N sh k48 a0 x2 q54.1 x4 (jw (x5 + 1)) (-6) x6 0 q54.2
def f_X12_run_b48 (N : Nat) (sh : jm_S) (k48 : Nat → Int → Int → Int → Int → Int → Int → jm_M → Option (Int × jm_M)) (a0 : Nat) (x2 : Int) (x3 : Int) (x4 : Int) (x5 : Int) (x6 : Int) (x7 : Int) (m : jm_M) : Option (Int × jm_M) :=
  if x7 < 0 then
    Option.bind (jrf sh m a0 12 34 12) fun v59 =>
    if 0 < v59 then
      f_X12_run_b60 N sh k48 a0 x2 x3 x4 x5 x6 x7 m
    else
    if x2 = 0 then
      some (x4, m)
    else
    if x2 = 1 then
      some (x5, m)
    else
    if x2 = 2 then
      some (x6, m)
    else
    if x2 = 3 then
      Option.bind (jrf sh m a0 12 34 26) fun v65 =>
      some (v65, m)
    else
    Option.bind (jck sh a0 12 34) fun u66 =>
    Option.bind (f_X12_linesIn N sh a0 x3 m) fun q67 =>
    some (q67, m)
  else
  f_X12_run_b60 N sh k48 a0 x2 x3 x4 x5 x6 x7 m
def f_X12_run_l48 (N : Nat) (sh : jm_S) : Nat → Nat → Int → Int → Int → Int → Int → Int → jm_M → Option (Int × jm_M)
  | 0 => fun _ _ _ _ _ _ _ _ => none
  | n + 1 => fun a0 x2 x3 x4 x5 x6 x7 m => f_X12_run_b48 N sh (f_X12_run_l48 N sh n) a0 x2 x3 x4 x5 x6 x7 m
def f_X12_run (N : Nat) (sh : jm_S) (a0 : Nat) (x1 : Int) (x2 : Int) (m : jm_M) : Option (Int × jm_M) :=
  Option.bind (f_X12_isProgram x1) fun q69 =>
  if q69 = 0 then
    some ((-1), m)
  else
  Option.bind (f_X12_in x2 0 4) fun q72 =>
  if q72 = 0 then
    some ((-2), m)
  else
  Option.bind (jwf sh m a0 12 34 26 0) fun m75 =>
  Option.bind (jwf sh m75 a0 12 34 12 0) fun m76 =>
  f_X12_run_l48 N sh N a0 x2 0 0 0 0 (jw (30 * x1)) m76
def f_X12_most_b70 (N : Nat) (sh : jm_S) (k45 : Nat → Int → Int → Int → jm_M → Option (Int × jm_M)) (a0 : Nat) (x2 : Int) (x4 : Int) (s0 : Int) (s1 : Int) (m : jm_M) : Option (Int × jm_M) :=
  k45 a0 x2 (jw (s0 + s1)) (jw (x4 + 1)) m
def f_X12_most_b45 (N : Nat) (sh : jm_S) (k45 : Nat → Int → Int → Int → jm_M → Option (Int × jm_M)) (a0 : Nat) (x2 : Int) (x3 : Int) (x4 : Int) (m : jm_M) : Option (Int × jm_M) :=
  Option.bind (jrf sh m a0 12 34 18) fun v1 =>
  if x4 < v1 then
    Option.bind (jrf sh m a0 12 34 11) fun v3 =>
    Option.bind (jra sh m v3.toNat 13 x4) fun v4 =>
    if v4 < 0 then
      f_X12_most_b70 N sh k45 a0 x2 x4 x3 0 m
    else
    f_X12_most_b70 N sh k45 a0 x2 x4 x3 1 m
  else
  if x2 = 2 then
    some (x3, m)
  else
  Option.bind (jck sh a0 12 34) fun u7 =>
  Option.bind (f_X12_bestOf N sh a0 m) fun q8 =>
  some (q8, m)
def f_X12_most_l45 (N : Nat) (sh : jm_S) : Nat → Nat → Int → Int → Int → jm_M → Option (Int × jm_M)
  | 0 => fun _ _ _ _ _ => none
  | n + 1 => fun a0 x2 x3 x4 m => f_X12_most_b45 N sh (f_X12_most_l45 N sh n) a0 x2 x3 x4 m
def f_X12_most_b37 (N : Nat) (sh : jm_S) (a0 : Nat) (x2 : Int) (r0 : Nat) (s1 : Int) (s2 : Int) (m : jm_M) : Option (Int × jm_M) :=
  Option.bind (jck sh r0 12 34) fun u10 =>
  Option.bind (f_X12_work N sh r0 s1 s2 m) fun q11 =>
  f_X12_most_l45 N sh N a0 x2 0 0 q11
def f_X12_most (N : Nat) (sh : jm_S) (a0 : Nat) (x1 : Int) (x2 : Int) (m : jm_M) : Option (Int × jm_M) :=
  Option.bind (f_X12_isProgram x1) fun q13 =>
  if q13 = 0 then
    some ((-1), m)
  else
  Option.bind (f_X12_in x2 0 2) fun q16 =>
  if q16 = 0 then
    some ((-2), m)
  else
  Option.bind (jwf sh m a0 12 34 20 0) fun m19 =>
  if x2 = 0 then
    f_X12_most_b37 N sh a0 x2 a0 x1 1 m19
  else
  f_X12_most_b37 N sh a0 x2 a0 x1 0 m19
def f_X12_layRow_b73 (N : Nat) (sh : jm_S) (k14 : Nat → Int → Int → Int → Int → jm_M → Option (Int × jm_M)) (k34 : Nat → Int → Int → Int → Int → Int → jm_M → Option (Int × jm_M)) (a0 : Nat) (x1 : Int) (x2 : Int) (x3 : Int) (x5 : Int) (s0 : Int) (m : jm_M) : Option (Int × jm_M) :=
  k34 a0 x1 x2 x3 (jw (x5 + 1)) s0 m
def f_X12_layRow_b34 (N : Nat) (sh : jm_S) (k14 : Nat → Int → Int → Int → Int → jm_M → Option (Int × jm_M)) (k34 : Nat → Int → Int → Int → Int → Int → jm_M → Option (Int × jm_M)) (a0 : Nat) (x1 : Int) (x2 : Int) (x3 : Int) (x5 : Int) (x6 : Int) (m : jm_M) : Option (Int × jm_M) :=
  if x6 = 0 then
    Option.bind (jrf sh m a0 12 34 21) fun v2 =>
    Option.bind (jwa sh m v2.toNat 13 x3 x5) fun m3 =>
    Option.bind (jwf sh m3 a0 12 34 20 (jw (x3 + 1))) fun m4 =>
    Option.bind (jck sh a0 12 34) fun u5 =>
    Option.bind (f_X12_work N sh a0 x1 1 m4) fun q6 =>
    Option.bind (jck sh a0 12 34) fun u8 =>
    Option.bind (f_X12_bestOf N sh a0 q6) fun q9 =>
    if q9 = x2 then
      f_X12_layRow_b73 N sh k14 k34 a0 x1 x2 x3 x5 1 q6
    else
    f_X12_layRow_b73 N sh k14 k34 a0 x1 x2 x3 x5 0 q6
  else
  Option.bind (jrf sh m a0 12 34 23) fun v12 =>
  k14 a0 x1 x2 (jw (x3 + 1)) v12 m
def f_X12_layRow_l34 (N : Nat) (sh : jm_S) (k14 : Nat → Int → Int → Int → Int → jm_M → Option (Int × jm_M)) : Nat → Nat → Int → Int → Int → Int → Int → jm_M → Option (Int × jm_M)
  | 0 => fun _ _ _ _ _ _ _ => none
  | n + 1 => fun a0 x1 x2 x3 x5 x6 m => f_X12_layRow_b34 N sh k14 (f_X12_layRow_l34 N sh k14 n) a0 x1 x2 x3 x5 x6 m
def f_X12_layRow_b14 (N : Nat) (sh : jm_S) (k14 : Nat → Int → Int → Int → Int → jm_M → Option (Int × jm_M)) (a0 : Nat) (x1 : Int) (x2 : Int) (x3 : Int) (x4 : Int) (m : jm_M) : Option (Int × jm_M) :=
  if 0 < x4 then
    if x3 = 20 then
      some ((-6), m)
    else
    f_X12_layRow_l34 N sh k14 N a0 x1 x2 x3 0 0 m
  else
  some (x3, m)
def f_X12_layRow_l14 (N : Nat) (sh : jm_S) : Nat → Nat → Int → Int → Int → Int → jm_M → Option (Int × jm_M)
  | 0 => fun _ _ _ _ _ _ => none
  | n + 1 => fun a0 x1 x2 x3 x4 m => f_X12_layRow_b14 N sh (f_X12_layRow_l14 N sh n) a0 x1 x2 x3 x4 m
def f_X12_layRow (N : Nat) (sh : jm_S) (a0 : Nat) (x1 : Int) (m : jm_M) : Option (Int × jm_M) :=
  Option.bind (jck sh a0 12 34) fun u15 =>
  Option.bind (f_X12_worstOf N sh a0 x1 m) fun q16 =>
  Option.bind (jrf sh q16.2 a0 12 34 23) fun v18 =>
  f_X12_layRow_l14 N sh N a0 x1 q16.1 0 v18 q16.2
def f_X12_row (N : Nat) (sh : jm_S) (a0 : Nat) (x1 : Int) (x2 : Int) (m : jm_M) : Option (Int × jm_M) :=
  Option.bind (f_X12_isProgram x1) fun q1 =>
  if q1 = 0 then
    some ((-1), m)
  else
  Option.bind (jck sh a0 12 34) fun u4 =>
  Option.bind (f_X12_layRow N sh a0 x1 m) fun q5 =>
  if q5.1 < 0 then
    some ((-3), q5.2)
  else
  if x2 = (-1) then
    some (q5.1, q5.2)
  else
  Option.bind (f_X12_in x2 0 (jw (q5.1 - 1))) fun q9 =>
  if q9 = 0 then
    some ((-6), q5.2)
  else
  Option.bind (jrf sh q5.2 a0 12 34 21) fun v12 =>
  Option.bind (jra sh q5.2 v12.toNat 13 x2) fun v13 =>
  some (v13, q5.2)
def f_X12_fetchAges_b143 (N : Nat) (sh : jm_S) (k47 : Nat → Int → Int → Int → Int → Int → jm_M → Option jm_M) (a0 : Nat) (x1 : Int) (x3 : Int) (x4 : Int) (x5 : Int) (x6 : Int) (m : jm_M) : Option jm_M :=
  Option.bind (jrf sh m a0 12 34 0) fun v1 =>
  Option.bind (jra sh m v1.toNat 13 0) fun v2 =>
  k47 a0 x1 x3 x4 x5 (jw (x6 + v2)) m
def f_X12_fetchAges_b141 (N : Nat) (sh : jm_S) (k47 : Nat → Int → Int → Int → Int → Int → jm_M → Option jm_M) (a0 : Nat) (x1 : Int) (x3 : Int) (x4 : Int) (x5 : Int) (x6 : Int) (r0 : Nat) (s1 : Int) (s2 : Int) (s3 : Int) (m : jm_M) : Option jm_M :=
  Option.bind (jwa sh m r0 13 s1 (jw (s2 + s3))) fun m3 =>
  f_X12_fetchAges_b143 N sh k47 a0 x1 x3 x4 x5 x6 m3
def f_X12_fetchAges_b140 (N : Nat) (sh : jm_S) (k47 : Nat → Int → Int → Int → Int → Int → jm_M → Option jm_M) (a0 : Nat) (x1 : Int) (x3 : Int) (x4 : Int) (x5 : Int) (x6 : Int) (r0 : Nat) (s1 : Int) (s2 : Int) (m : jm_M) : Option jm_M :=
  f_X12_fetchAges_b141 N sh k47 a0 x1 x3 x4 x5 x6 r0 s1 s2 0 m
def f_X12_fetchAges_b94 (N : Nat) (sh : jm_S) (k47 : Nat → Int → Int → Int → Int → Int → jm_M → Option jm_M) (a0 : Nat) (x1 : Int) (x3 : Int) (x4 : Int) (x5 : Int) (x6 : Int) (r0 : Nat) (s1 : Int) (s2 : Int) (s3 : Int) (m : jm_M) : Option jm_M :=
  Option.bind (jwa sh m r0 13 s1 (jw (s2 + s3))) fun m4 =>
  Option.bind (jrf sh m4 a0 12 34 27) fun v5 =>
  Option.bind (jra sh m4 v5.toNat 13 (jw (8 + x6))) fun v6 =>
  Option.bind (jrf sh m4 a0 12 34 27) fun v7 =>
  Option.bind (jra sh m4 v7.toNat 13 (jw (8 + x6))) fun v8 =>
  if x5 < v8 then
    f_X12_fetchAges_b140 N sh k47 a0 x1 x3 x4 x5 x6 v5.toNat (jw (8 + x6)) v6 m4
  else
  Option.bind (jrf sh m4 a0 12 34 27) fun v10 =>
  Option.bind (jra sh m4 v10.toNat 13 (jw (8 + x6))) fun v11 =>
  if v11 < x3 then
    f_X12_fetchAges_b141 N sh k47 a0 x1 x3 x4 x5 x6 v5.toNat (jw (8 + x6)) v6 1 m4
  else
  f_X12_fetchAges_b140 N sh k47 a0 x1 x3 x4 x5 x6 v5.toNat (jw (8 + x6)) v6 m4
def f_X12_fetchAges_b47 (N : Nat) (sh : jm_S) (k47 : Nat → Int → Int → Int → Int → Int → jm_M → Option jm_M) (a0 : Nat) (x1 : Int) (x3 : Int) (x4 : Int) (x5 : Int) (x6 : Int) (m : jm_M) : Option jm_M :=
  if x6 < 8 then
    if x6 = x1 then
      f_X12_fetchAges_b143 N sh k47 a0 x1 x3 x4 x5 x6 m
    else
    Option.bind (jck sh a0 12 34) fun u15 =>
    Option.bind (f_X12_isHeld sh a0 x6 m) fun q16 =>
    if q16 = 0 then
      Option.bind (jrf sh m a0 12 34 27) fun v19 =>
      Option.bind (jra sh m v19.toNat 13 x6) fun v20 =>
      Option.bind (jrf sh m a0 12 34 27) fun v21 =>
      Option.bind (jra sh m v21.toNat 13 x6) fun v22 =>
      if v22 < x4 then
        f_X12_fetchAges_b94 N sh k47 a0 x1 x3 x4 x5 x6 v19.toNat x6 v20 1 m
      else
      f_X12_fetchAges_b94 N sh k47 a0 x1 x3 x4 x5 x6 v19.toNat x6 v20 0 m
    else
    f_X12_fetchAges_b143 N sh k47 a0 x1 x3 x4 x5 x6 m
  else
  Option.bind (jrf sh m a0 12 34 27) fun v24 =>
  Option.bind (jwa sh m v24.toNat 13 x1 0) fun m25 =>
  Option.bind (jrf sh m25 a0 12 34 27) fun v26 =>
  Option.bind (jwa sh m25 v26.toNat 13 (jw (8 + x1)) 0) fun m27 =>
  some m27
def f_X12_fetchAges_l47 (N : Nat) (sh : jm_S) : Nat → Nat → Int → Int → Int → Int → Int → jm_M → Option jm_M
  | 0 => fun _ _ _ _ _ _ _ => none
  | n + 1 => fun a0 x1 x3 x4 x5 x6 m => f_X12_fetchAges_b47 N sh (f_X12_fetchAges_l47 N sh n) a0 x1 x3 x4 x5 x6 m
def f_X12_fetchAges (N : Nat) (sh : jm_S) (a0 : Nat) (x1 : Int) (m : jm_M) : Option jm_M :=
  Option.bind (jck sh a0 12 34) fun u28 =>
  Option.bind (f_X12_setOf sh a0 x1 m) fun q29 =>
  Option.bind (jck sh a0 12 34) fun u31 =>
  Option.bind (f_X12_roomOf N sh a0 q29 m) fun q32 =>
  Option.bind (jck sh a0 12 34) fun u34 =>
  Option.bind (f_X12_isHeld sh a0 x1 m) fun q35 =>
  if q35 = 0 then
    if q32 = 0 then
      some m
    else
    Option.bind (jrf sh m a0 12 34 27) fun v39 =>
    Option.bind (jra sh m v39.toNat 13 x1) fun v40 =>
    Option.bind (jrf sh m a0 12 34 27) fun v41 =>
    Option.bind (jra sh m v41.toNat 13 (jw (8 + x1))) fun v42 =>
    f_X12_fetchAges_l47 N sh N a0 x1 q32 v40 v42 q29 m
  else
  some m
def f_X12_joinAges_b108 (N : Nat) (sh : jm_S) (k4 : Nat → Int → Int → Int → jm_M → Option (Int × jm_M)) (a0 : Nat) (x1 : Int) (x3 : Int) (s0 : Int) (m : jm_M) : Option (Int × jm_M) :=
  k4 a0 x1 s0 (jw (x3 + 1)) m
def f_X12_joinAges_b103 (N : Nat) (sh : jm_S) (k4 : Nat → Int → Int → Int → jm_M → Option (Int × jm_M)) (a0 : Nat) (x1 : Int) (x3 : Int) (m : jm_M) : Option (Int × jm_M) :=
  f_X12_joinAges_b108 N sh k4 a0 x1 x3 1 m
def f_X12_joinAges_b87 (N : Nat) (sh : jm_S) (k4 : Nat → Int → Int → Int → jm_M → Option (Int × jm_M)) (a0 : Nat) (x1 : Int) (x2 : Int) (x3 : Int) (x4 : Int) (r0 : Nat) (s1 : Int) (s2 : Int) (m : jm_M) : Option (Int × jm_M) :=
  Option.bind (jwa sh m r0 13 s1 s2) fun m1 =>
  if x2 = 0 then
    Option.bind (jrf sh m1 a0 12 34 27) fun v3 =>
    Option.bind (jra sh m1 v3.toNat 13 x3) fun v4 =>
    if v4 = x4 then
      f_X12_joinAges_b108 N sh k4 a0 x1 x3 0 m1
    else
    f_X12_joinAges_b103 N sh k4 a0 x1 x3 m1
  else
  f_X12_joinAges_b103 N sh k4 a0 x1 x3 m1
def f_X12_joinAges_b64 (N : Nat) (sh : jm_S) (k4 : Nat → Int → Int → Int → jm_M → Option (Int × jm_M)) (a0 : Nat) (x1 : Int) (x2 : Int) (x3 : Int) (x4 : Int) (s0 : Int) (m : jm_M) : Option (Int × jm_M) :=
  Option.bind (jrf sh m a0 12 34 27) fun v6 =>
  if s0 = 0 then
    Option.bind (jrf sh m a0 12 34 27) fun v8 =>
    Option.bind (jra sh m v8.toNat 13 x3) fun v9 =>
    f_X12_joinAges_b87 N sh k4 a0 x1 x2 x3 x4 v6.toNat x3 v9 m
  else
  f_X12_joinAges_b87 N sh k4 a0 x1 x2 x3 x4 v6.toNat x3 x4 m
def f_X12_joinAges_b4 (N : Nat) (sh : jm_S) (k4 : Nat → Int → Int → Int → jm_M → Option (Int × jm_M)) (a0 : Nat) (x1 : Int) (x2 : Int) (x3 : Int) (m : jm_M) : Option (Int × jm_M) :=
  if x3 < 16 then
    Option.bind (jrf sh m a0 12 34 28) fun v11 =>
    Option.bind (jra sh m v11.toNat 13 (jw ((jw (16 * x1)) + x3))) fun v12 =>
    if x3 < 8 then
      Option.bind (jrf sh m a0 12 34 27) fun v14 =>
      Option.bind (jra sh m v14.toNat 13 x3) fun v15 =>
      if v15 < v12 then
        f_X12_joinAges_b64 N sh k4 a0 x1 x2 x3 v12 1 m
      else
      f_X12_joinAges_b64 N sh k4 a0 x1 x2 x3 v12 0 m
    else
    Option.bind (jrf sh m a0 12 34 27) fun v17 =>
    Option.bind (jra sh m v17.toNat 13 x3) fun v18 =>
    if v12 < v18 then
      f_X12_joinAges_b64 N sh k4 a0 x1 x2 x3 v12 1 m
    else
    f_X12_joinAges_b64 N sh k4 a0 x1 x2 x3 v12 0 m
  else
  Option.bind (jzb x2) fun z20 =>
  some (z20, m)
def f_X12_joinAges_l4 (N : Nat) (sh : jm_S) : Nat → Nat → Int → Int → Int → jm_M → Option (Int × jm_M)
  | 0 => fun _ _ _ _ _ => none
  | n + 1 => fun a0 x1 x2 x3 m => f_X12_joinAges_b4 N sh (f_X12_joinAges_l4 N sh n) a0 x1 x2 x3 m
def f_X12_joinAges (N : Nat) (sh : jm_S) (a0 : Nat) (x1 : Int) (m : jm_M) : Option (Int × jm_M) :=
  f_X12_joinAges_l4 N sh N a0 x1 0 0 m
def f_X12_keepAges_b2 (N : Nat) (sh : jm_S) (k2 : Nat → Int → Int → jm_M → Option jm_M) (a0 : Nat) (x1 : Int) (x2 : Int) (m : jm_M) : Option jm_M :=
  if x2 < 16 then
    Option.bind (jrf sh m a0 12 34 28) fun v2 =>
    Option.bind (jrf sh m a0 12 34 27) fun v3 =>
    Option.bind (jra sh m v3.toNat 13 x2) fun v4 =>
    Option.bind (jwa sh m v2.toNat 13 (jw ((jw (16 * x1)) + x2)) v4) fun m5 =>
    k2 a0 x1 (jw (x2 + 1)) m5
  else
  some m
def f_X12_keepAges_l2 (N : Nat) (sh : jm_S) : Nat → Nat → Int → Int → jm_M → Option jm_M
  | 0 => fun _ _ _ _ => none
  | n + 1 => fun a0 x1 x2 m => f_X12_keepAges_b2 N sh (f_X12_keepAges_l2 N sh n) a0 x1 x2 m
def f_X12_keepAges (N : Nat) (sh : jm_S) (a0 : Nat) (x1 : Int) (m : jm_M) : Option jm_M :=
  f_X12_keepAges_l2 N sh N a0 x1 0 m
def f_X12_swapAges_b2 (N : Nat) (sh : jm_S) (k2 : Nat → Int → Int → jm_M → Option jm_M) (a0 : Nat) (x1 : Int) (x2 : Int) (m : jm_M) : Option jm_M :=
  if x2 < 16 then
    Option.bind (jrf sh m a0 12 34 28) fun v2 =>
    Option.bind (jra sh m v2.toNat 13 (jw ((jw (16 * x1)) + x2))) fun v3 =>
    Option.bind (jrf sh m a0 12 34 28) fun v4 =>
    Option.bind (jrf sh m a0 12 34 27) fun v5 =>
    Option.bind (jra sh m v5.toNat 13 x2) fun v6 =>
    Option.bind (jwa sh m v4.toNat 13 (jw ((jw (16 * x1)) + x2)) v6) fun m7 =>
    Option.bind (jrf sh m7 a0 12 34 27) fun v8 =>
    Option.bind (jwa sh m7 v8.toNat 13 x2 v3) fun m9 =>
    k2 a0 x1 (jw (x2 + 1)) m9
  else
  some m
def f_X12_swapAges_l2 (N : Nat) (sh : jm_S) : Nat → Nat → Int → Int → jm_M → Option jm_M
  | 0 => fun _ _ _ _ => none
  | n + 1 => fun a0 x1 x2 m => f_X12_swapAges_b2 N sh (f_X12_swapAges_l2 N sh n) a0 x1 x2 m
def f_X12_swapAges (N : Nat) (sh : jm_S) (a0 : Nat) (x1 : Int) (m : jm_M) : Option jm_M :=
  f_X12_swapAges_l2 N sh N a0 x1 0 m
def f_X12_layAges_b341 (N : Nat) (sh : jm_S) (k63 : Nat → Int → Int → jm_M → Option jm_M) (a0 : Nat) (x1 : Int) (x2 : Int) (m : jm_M) : Option jm_M :=
  k63 a0 x1 x2 m
def f_X12_layAges_b331 (N : Nat) (sh : jm_S) (k63 : Nat → Int → Int → jm_M → Option jm_M) (a0 : Nat) (x1 : Int) (x2 : Int) (m : jm_M) : Option jm_M :=
  Option.bind (jrf sh m a0 12 34 12) fun v1 =>
  Option.bind (jwf sh m a0 12 34 12 (jw (v1 - 1))) fun m2 =>
  f_X12_layAges_b341 N sh k63 a0 x1 x2 m2
def f_X12_layAges_b303 (N : Nat) (sh : jm_S) (k63 : Nat → Int → Int → jm_M → Option jm_M) (a0 : Nat) (x1 : Int) (x2 : Int) (x3 : Int) (x4 : Int) (x5 : Int) (s0 : Int) (m : jm_M) : Option jm_M :=
  Option.bind (f_X12_isLoop x5) fun q3 =>
  if q3 = 0 then
    f_X12_layAges_b331 N sh k63 a0 x1 x2 m
  else
  if s0 = 0 then
    f_X12_layAges_b331 N sh k63 a0 x1 x2 m
  else
  Option.bind (jck sh a0 12 34) fun u7 =>
  Option.bind (f_X12_keepAges N sh a0 x3 m) fun q8 =>
  f_X12_layAges_b341 N sh k63 a0 x1 (jw (x4 + 1)) q8
def f_X12_layAges_b302 (N : Nat) (sh : jm_S) (k63 : Nat → Int → Int → jm_M → Option jm_M) (a0 : Nat) (x1 : Int) (x2 : Int) (x3 : Int) (x4 : Int) (x5 : Int) (m : jm_M) : Option jm_M :=
  f_X12_layAges_b303 N sh k63 a0 x1 x2 x3 x4 x5 0 m
def f_X12_layAges_b283 (N : Nat) (sh : jm_S) (k63 : Nat → Int → Int → jm_M → Option jm_M) (a0 : Nat) (x1 : Int) (x2 : Int) (x3 : Int) (x4 : Int) (x5 : Int) (m : jm_M) : Option jm_M :=
  if x5 = 59 then
    f_X12_layAges_b302 N sh k63 a0 x1 x2 x3 x4 x5 m
  else
  Option.bind (jck sh a0 12 34) fun u11 =>
  Option.bind (f_X12_joinAges N sh a0 x3 m) fun q12 =>
  if q12.1 = 0 then
    f_X12_layAges_b302 N sh k63 a0 x1 x2 x3 x4 x5 q12.2
  else
  f_X12_layAges_b303 N sh k63 a0 x1 x2 x3 x4 x5 1 q12.2
def f_X12_layAges_b265 (N : Nat) (sh : jm_S) (k63 : Nat → Int → Int → jm_M → Option jm_M) (a0 : Nat) (x1 : Int) (x4 : Int) (m : jm_M) : Option jm_M :=
  Option.bind (jrf sh m a0 12 34 5) fun v15 =>
  Option.bind (jra sh m v15.toNat 13 (jw (x4 + 1))) fun v16 =>
  f_X12_layAges_b341 N sh k63 a0 x1 (jw ((jw (x4 + 1)) + v16)) m
def f_X12_layAges_b230 (N : Nat) (sh : jm_S) (k63 : Nat → Int → Int → jm_M → Option jm_M) (a0 : Nat) (x1 : Int) (x2 : Int) (x3 : Int) (x4 : Int) (x5 : Int) (s0 : Int) (m : jm_M) : Option jm_M :=
  if s0 = 0 then
    f_X12_layAges_b283 N sh k63 a0 x1 x2 x3 x4 x5 m
  else
  Option.bind (jrf sh m a0 12 34 14) fun v18 =>
  Option.bind (jra sh m v18.toNat 13 x3) fun v19 =>
  if v19 = 0 then
    Option.bind (jrf sh m a0 12 34 14) fun v21 =>
    Option.bind (jwa sh m v21.toNat 13 x3 1) fun m22 =>
    if x5 = 63 then
      Option.bind (jck sh a0 12 34) fun u24 =>
      Option.bind (f_X12_swapAges N sh a0 x3 m22) fun q25 =>
      f_X12_layAges_b265 N sh k63 a0 x1 x4 q25
    else
    f_X12_layAges_b265 N sh k63 a0 x1 x4 m22
  else
  f_X12_layAges_b283 N sh k63 a0 x1 x2 x3 x4 x5 m
def f_X12_layAges_b225 (N : Nat) (sh : jm_S) (k63 : Nat → Int → Int → jm_M → Option jm_M) (a0 : Nat) (x1 : Int) (x2 : Int) (x3 : Int) (x4 : Int) (x5 : Int) (m : jm_M) : Option jm_M :=
  f_X12_layAges_b230 N sh k63 a0 x1 x2 x3 x4 x5 1 m
def f_X12_layAges_b184 (N : Nat) (sh : jm_S) (k63 : Nat → Int → Int → jm_M → Option jm_M) (a0 : Nat) (x1 : Int) (x2 : Int) (m : jm_M) : Option jm_M :=
  k63 a0 x1 x2 m
def f_X12_layAges_b106 (N : Nat) (sh : jm_S) (k63 : Nat → Int → Int → jm_M → Option jm_M) (k106 : Nat → Int → Int → Int → Int → Int → jm_M → Option jm_M) (a0 : Nat) (x1 : Int) (x2 : Int) (x3 : Int) (x4 : Int) (x5 : Int) (m : jm_M) : Option jm_M :=
  if x5 < 16 then
    Option.bind (jrf sh m a0 12 34 29) fun v28 =>
    Option.bind (jrf sh m a0 12 34 27) fun v29 =>
    Option.bind (jra sh m v29.toNat 13 x5) fun v30 =>
    Option.bind (jwa sh m v28.toNat 13 (jw ((jw (16 * (jw (x3 - (jw (30 * x1)))))) + x5)) v30) fun m31 =>
    k106 a0 x1 x2 x3 x4 (jw (x5 + 1)) m31
  else
  Option.bind (jck sh a0 12 34) fun u32 =>
  Option.bind (f_X12_fetchAges N sh a0 (jw (x4 - 48)) m) fun q33 =>
  f_X12_layAges_b184 N sh k63 a0 x1 x2 q33
def f_X12_layAges_l106 (N : Nat) (sh : jm_S) (k63 : Nat → Int → Int → jm_M → Option jm_M) : Nat → Nat → Int → Int → Int → Int → Int → jm_M → Option jm_M
  | 0 => fun _ _ _ _ _ _ _ => none
  | n + 1 => fun a0 x1 x2 x3 x4 x5 m => f_X12_layAges_b106 N sh k63 (f_X12_layAges_l106 N sh k63 n) a0 x1 x2 x3 x4 x5 m
def f_X12_layAges_b74 (N : Nat) (sh : jm_S) (k63 : Nat → Int → Int → jm_M → Option jm_M) (a0 : Nat) (x1 : Int) (x2 : Int) (m : jm_M) : Option jm_M :=
  if x2 < 0 then
    Option.bind (jrf sh m a0 12 34 12) fun v36 =>
    Option.bind (jrf sh m a0 12 34 13) fun v37 =>
    Option.bind (jra sh m v37.toNat 13 (jw (v36 - 1))) fun v38 =>
    Option.bind (jrf sh m a0 12 34 4) fun v39 =>
    Option.bind (jra sh m v39.toNat 13 v38) fun v40 =>
    if v40 = 59 then
      f_X12_layAges_b225 N sh k63 a0 x1 x2 (jw (v36 - 1)) v38 v40 m
    else
    if v40 = 63 then
      f_X12_layAges_b225 N sh k63 a0 x1 x2 (jw (v36 - 1)) v38 v40 m
    else
    f_X12_layAges_b230 N sh k63 a0 x1 x2 (jw (v36 - 1)) v38 v40 0 m
  else
  Option.bind (jrf sh m a0 12 34 4) fun v43 =>
  Option.bind (jra sh m v43.toNat 13 x2) fun v44 =>
  Option.bind (f_X12_in v44 48 55) fun q45 =>
  if q45 = 0 then
    Option.bind (f_X12_partsOf v44) fun q48 =>
    if 0 < q48 then
      Option.bind (jck sh a0 12 34) fun u51 =>
      Option.bind (f_X12_pile sh a0 x2 0 0 m) fun q52 =>
      Option.bind (jrf sh q52 a0 12 34 12) fun v54 =>
      Option.bind (jck sh a0 12 34) fun u55 =>
      Option.bind (f_X12_keepAges N sh a0 (jw (v54 - 1)) q52) fun q56 =>
      f_X12_layAges_b184 N sh k63 a0 x1 (jw (x2 + 1)) q56
    else
    f_X12_layAges_b184 N sh k63 a0 x1 (-6) m
  else
  f_X12_layAges_l106 N sh k63 N a0 x1 (-6) x2 v44 0 m
def f_X12_layAges_b63 (N : Nat) (sh : jm_S) (k63 : Nat → Int → Int → jm_M → Option jm_M) (a0 : Nat) (x1 : Int) (x2 : Int) (m : jm_M) : Option jm_M :=
  if x2 < 0 then
    Option.bind (jrf sh m a0 12 34 12) fun v59 =>
    if 0 < v59 then
      f_X12_layAges_b74 N sh k63 a0 x1 x2 m
    else
    some m
  else
  f_X12_layAges_b74 N sh k63 a0 x1 x2 m
def f_X12_layAges_l63 (N : Nat) (sh : jm_S) : Nat → Nat → Int → Int → jm_M → Option jm_M
  | 0 => fun _ _ _ _ => none
  | n + 1 => fun a0 x1 x2 m => f_X12_layAges_b63 N sh (f_X12_layAges_l63 N sh n) a0 x1 x2 m
def f_X12_layAges_b29 (N : Nat) (sh : jm_S) (k2 : Nat → Int → Int → jm_M → Option jm_M) (a0 : Nat) (x1 : Int) (x2 : Int) (s0 : Int) (m : jm_M) : Option jm_M :=
  Option.bind (jrf sh m a0 12 34 27) fun v61 =>
  Option.bind (jwa sh m v61.toNat 13 x2 s0) fun m62 =>
  Option.bind (jrf sh m62 a0 12 34 27) fun v63 =>
  Option.bind (jwa sh m62 v63.toNat 13 (jw (8 + x2)) s0) fun m64 =>
  k2 a0 x1 (jw (x2 + 1)) m64
def f_X12_layAges_b2 (N : Nat) (sh : jm_S) (k2 : Nat → Int → Int → jm_M → Option jm_M) (a0 : Nat) (x1 : Int) (x2 : Int) (m : jm_M) : Option jm_M :=
  if x2 < 8 then
    Option.bind (jck sh a0 12 34) fun u66 =>
    Option.bind (f_X12_isHeld sh a0 x2 m) fun q67 =>
    if q67 = 0 then
      Option.bind (jck sh a0 12 34) fun u70 =>
      Option.bind (f_X12_setOf sh a0 x2 m) fun q71 =>
      Option.bind (jck sh a0 12 34) fun u73 =>
      Option.bind (f_X12_roomOf N sh a0 q71 m) fun q74 =>
      f_X12_layAges_b29 N sh k2 a0 x1 x2 q74 m
    else
    f_X12_layAges_b29 N sh k2 a0 x1 x2 0 m
  else
  Option.bind (jwf sh m a0 12 34 12 0) fun m76 =>
  f_X12_layAges_l63 N sh N a0 x1 (jw (30 * x1)) m76
def f_X12_layAges_l2 (N : Nat) (sh : jm_S) : Nat → Nat → Int → Int → jm_M → Option jm_M
  | 0 => fun _ _ _ _ => none
  | n + 1 => fun a0 x1 x2 m => f_X12_layAges_b2 N sh (f_X12_layAges_l2 N sh n) a0 x1 x2 m
def f_X12_layAges (N : Nat) (sh : jm_S) (a0 : Nat) (x1 : Int) (m : jm_M) : Option jm_M :=
  f_X12_layAges_l2 N sh N a0 x1 0 m
def f_X12_isFetch (sh : jm_S) (a0 : Nat) (x1 : Int) (x2 : Int) (m : jm_M) : Option Int :=
  Option.bind (jck sh a0 12 34) fun u1 =>
  Option.bind (f_X12_isNode sh a0 x1 x2 m) fun q2 =>
  if q2 = 0 then
    some 0
  else
  Option.bind (jrf sh m a0 12 34 4) fun v5 =>
  Option.bind (jra sh m v5.toNat 13 (jw ((jw (30 * x1)) + x2))) fun v6 =>
  Option.bind (f_X12_in v6 48 55) fun q7 =>
  if q7 = 0 then
    some 0
  else
  some 1
def f_X12_age (N : Nat) (sh : jm_S) (a0 : Nat) (x1 : Int) (x2 : Int) (x3 : Int) (x4 : Int) (m : jm_M) : Option (Int × jm_M) :=
  Option.bind (jck sh a0 12 34) fun u1 =>
  Option.bind (f_X12_isFetch sh a0 x1 x2 m) fun q2 =>
  if q2 = 0 then
    some ((-1), m)
  else
  Option.bind (f_X12_in x4 0 7) fun q5 =>
  if q5 = 0 then
    some ((-1), m)
  else
  Option.bind (f_X12_in x3 0 1) fun q8 =>
  if q8 = 0 then
    some ((-2), m)
  else
  Option.bind (jck sh a0 12 34) fun u11 =>
  Option.bind (f_X12_layAges N sh a0 x1 m) fun q12 =>
  Option.bind (jrf sh q12 a0 12 34 29) fun v14 =>
  Option.bind (jra sh q12 v14.toNat 13 (jw ((jw ((jw (16 * x2)) + (jw (8 * x3)))) + x4))) fun v15 =>
  some (v15, q12)
def f_X12_crowdOf_b69 (N : Nat) (sh : jm_S) (k5 : Nat → Int → Int → Int → Int → Option Int) (a0 : Nat) (x1 : Int) (x2 : Int) (x4 : Int) (s0 : Int) (s1 : Int) (m : jm_M) : Option Int :=
  k5 a0 x1 x2 (jor s0 s1) (jw (x4 + 1))
def f_X12_crowdOf_b68 (N : Nat) (sh : jm_S) (k5 : Nat → Int → Int → Int → Int → Option Int) (a0 : Nat) (x1 : Int) (x2 : Int) (x4 : Int) (s0 : Int) (m : jm_M) : Option Int :=
  f_X12_crowdOf_b69 N sh k5 a0 x1 x2 x4 s0 0 m
def f_X12_crowdOf_b5 (N : Nat) (sh : jm_S) (k5 : Nat → Int → Int → Int → Int → Option Int) (a0 : Nat) (x1 : Int) (x2 : Int) (x3 : Int) (x4 : Int) (m : jm_M) : Option Int :=
  Option.bind (jrf sh m a0 12 34 5) fun v1 =>
  Option.bind (jra sh m v1.toNat 13 x1) fun v2 =>
  if x4 < (jw (x1 + v2)) then
    Option.bind (jrf sh m a0 12 34 4) fun v4 =>
    Option.bind (jra sh m v4.toNat 13 x4) fun v5 =>
    Option.bind (f_X12_in (jw (v5 - 48)) 0 7) fun q6 =>
    if q6 = 0 then
      f_X12_crowdOf_b68 N sh k5 a0 x1 x2 x4 x3 m
    else
    Option.bind (jck sh a0 12 34) fun u9 =>
    Option.bind (f_X12_isHeld sh a0 (jw (v5 - 48)) m) fun q10 =>
    if q10 = 0 then
      Option.bind (jck sh a0 12 34) fun u13 =>
      Option.bind (f_X12_setOf sh a0 (jw (v5 - 48)) m) fun q14 =>
      if q14 = x2 then
        f_X12_crowdOf_b69 N sh k5 a0 x1 x2 x4 x3 (jshl 1 (jw (v5 - 48))) m
      else
      f_X12_crowdOf_b68 N sh k5 a0 x1 x2 x4 x3 m
    else
    f_X12_crowdOf_b68 N sh k5 a0 x1 x2 x4 x3 m
  else
  some x3
def f_X12_crowdOf_l5 (N : Nat) (sh : jm_S) : Nat → Nat → Int → Int → Int → Int → jm_M → Option Int
  | 0 => fun _ _ _ _ _ _ => none
  | n + 1 => fun a0 x1 x2 x3 x4 m => f_X12_crowdOf_b5 N sh (fun a0 x1 x2 x3 x4 => f_X12_crowdOf_l5 N sh n a0 x1 x2 x3 x4 m) a0 x1 x2 x3 x4 m
def f_X12_crowdOf (N : Nat) (sh : jm_S) (a0 : Nat) (x1 : Int) (x2 : Int) (m : jm_M) : Option Int :=
  f_X12_crowdOf_l5 N sh N a0 x1 x2 0 x1 m
def f_X12_loopOf_b84 (N : Nat) (sh : jm_S) (k28 : Nat → Int → Int → Int → Option Int) (a0 : Nat) (x3 : Int) (x4 : Int) (x5 : Int) (m : jm_M) : Option Int :=
  k28 a0 x3 x4 (jw (x5 + 1))
def f_X12_loopOf_b28 (N : Nat) (sh : jm_S) (k28 : Nat → Int → Int → Int → Option Int) (a0 : Nat) (x3 : Int) (x4 : Int) (x5 : Int) (m : jm_M) : Option Int :=
  if x5 < x3 then
    Option.bind (jrf sh m a0 12 34 4) fun v2 =>
    Option.bind (jra sh m v2.toNat 13 x5) fun v3 =>
    Option.bind (f_X12_isLoop v3) fun q4 =>
    if q4 = 0 then
      f_X12_loopOf_b84 N sh k28 a0 x3 x4 x5 m
    else
    Option.bind (jrf sh m a0 12 34 5) fun v7 =>
    Option.bind (jra sh m v7.toNat 13 x5) fun v8 =>
    if x3 < (jw (x5 + v8)) then
      Option.bind (jck sh a0 12 34) fun u10 =>
      Option.bind (f_X12_crowdOf N sh a0 x5 x4 m) fun q11 =>
      Option.bind (f_X12_bits N q11) fun q13 =>
      Option.bind (jck sh a0 12 34) fun u15 =>
      Option.bind (f_X12_roomOf N sh a0 x4 m) fun q16 =>
      if q16 < q13 then
        f_X12_loopOf_b84 N sh k28 a0 x3 x4 x5 m
      else
      some x5
    else
    f_X12_loopOf_b84 N sh k28 a0 x3 x4 x5 m
  else
  some (-6)
def f_X12_loopOf_l28 (N : Nat) (sh : jm_S) : Nat → Nat → Int → Int → Int → jm_M → Option Int
  | 0 => fun _ _ _ _ _ => none
  | n + 1 => fun a0 x3 x4 x5 m => f_X12_loopOf_b28 N sh (fun a0 x3 x4 x5 => f_X12_loopOf_l28 N sh n a0 x3 x4 x5 m) a0 x3 x4 x5 m
def f_X12_loopOf (N : Nat) (sh : jm_S) (a0 : Nat) (x1 : Int) (x2 : Int) (m : jm_M) : Option Int :=
  Option.bind (jrf sh m a0 12 34 4) fun v19 =>
  Option.bind (jra sh m v19.toNat 13 (jw ((jw (30 * x1)) + x2))) fun v20 =>
  Option.bind (jck sh a0 12 34) fun u21 =>
  Option.bind (f_X12_setOf sh a0 (jw (v20 - 48)) m) fun q22 =>
  f_X12_loopOf_l28 N sh N a0 (jw ((jw (30 * x1)) + x2)) q22 (jw (30 * x1)) m
def f_X12_sortOf (N : Nat) (sh : jm_S) (a0 : Nat) (x1 : Int) (x2 : Int) (m : jm_M) : Option Int :=
  Option.bind (jrf sh m a0 12 34 4) fun v1 =>
  Option.bind (jra sh m v1.toNat 13 (jw ((jw (30 * x1)) + x2))) fun v2 =>
  Option.bind (jck sh a0 12 34) fun u3 =>
  Option.bind (f_X12_setOf sh a0 (jw (v2 - 48)) m) fun q4 =>
  Option.bind (jck sh a0 12 34) fun u6 =>
  Option.bind (f_X12_roomOf N sh a0 q4 m) fun q7 =>
  Option.bind (jck sh a0 12 34) fun u9 =>
  Option.bind (f_X12_isHeld sh a0 (jw (v2 - 48)) m) fun q10 =>
  if q10 = 0 then
    Option.bind (jrf sh m a0 12 34 29) fun v13 =>
    Option.bind (jra sh m v13.toNat 13 (jw ((jw (16 * x2)) + (jw (v2 - 48))))) fun v14 =>
    if v14 < q7 then
      some 0
    else
    Option.bind (jrf sh m a0 12 34 29) fun v16 =>
    Option.bind (jra sh m v16.toNat 13 (jw ((jw ((jw (16 * x2)) + 8)) + (jw (v2 - 48))))) fun v17 =>
    if v17 = q7 then
      some 1
    else
    Option.bind (jck sh a0 12 34) fun u19 =>
    Option.bind (f_X12_loopOf N sh a0 x1 x2 m) fun q20 =>
    if q20 < 0 then
      some 3
    else
    some 2
  else
  some 0
def f_X12_sort (N : Nat) (sh : jm_S) (a0 : Nat) (x1 : Int) (x2 : Int) (m : jm_M) : Option (Int × jm_M) :=
  Option.bind (jck sh a0 12 34) fun u1 =>
  Option.bind (f_X12_isFetch sh a0 x1 x2 m) fun q2 =>
  if q2 = 0 then
    some ((-1), m)
  else
  Option.bind (jck sh a0 12 34) fun u5 =>
  Option.bind (f_X12_layAges N sh a0 x1 m) fun q6 =>
  Option.bind (jck sh a0 12 34) fun u8 =>
  Option.bind (f_X12_sortOf N sh a0 x1 x2 q6) fun q9 =>
  some (q9, q6)
def f_X12_onceIn_b75 (N : Nat) (sh : jm_S) (k7 : Nat → Int → Int → Int → Int → Option Int) (a0 : Nat) (x1 : Int) (x2 : Int) (x3 : Int) (x4 : Int) (m : jm_M) : Option Int :=
  k7 a0 x1 x2 x3 (jw (x4 + 1))
def f_X12_onceIn_b7 (N : Nat) (sh : jm_S) (k7 : Nat → Int → Int → Int → Int → Option Int) (a0 : Nat) (x1 : Int) (x2 : Int) (x3 : Int) (x4 : Int) (m : jm_M) : Option Int :=
  Option.bind (jrf sh m a0 12 34 3) fun v1 =>
  Option.bind (jra sh m v1.toNat 13 x1) fun v2 =>
  if x4 < v2 then
    Option.bind (jck sh a0 12 34) fun u4 =>
    Option.bind (f_X12_isFetch sh a0 x1 x4 m) fun q5 =>
    if q5 = 0 then
      f_X12_onceIn_b75 N sh k7 a0 x1 x2 x3 x4 m
    else
    Option.bind (jck sh a0 12 34) fun u8 =>
    Option.bind (f_X12_sortOf N sh a0 x1 x4 m) fun q9 =>
    if q9 = 2 then
      Option.bind (jck sh a0 12 34) fun u12 =>
      Option.bind (f_X12_loopOf N sh a0 x1 x4 m) fun q13 =>
      if q13 = (jw ((jw (30 * x1)) + x2)) then
        Option.bind (jrf sh m a0 12 34 4) fun v16 =>
        Option.bind (jra sh m v16.toNat 13 (jw ((jw (30 * x1)) + x4))) fun v17 =>
        f_X12_onceIn_b75 N sh k7 a0 x1 x2 (jor x3 (jshl 1 (jw (v17 - 48)))) x4 m
      else
      f_X12_onceIn_b75 N sh k7 a0 x1 x2 x3 x4 m
    else
    f_X12_onceIn_b75 N sh k7 a0 x1 x2 x3 x4 m
  else
  some x3
def f_X12_onceIn_l7 (N : Nat) (sh : jm_S) : Nat → Nat → Int → Int → Int → Int → jm_M → Option Int
  | 0 => fun _ _ _ _ _ _ => none
  | n + 1 => fun a0 x1 x2 x3 x4 m => f_X12_onceIn_b7 N sh (fun a0 x1 x2 x3 x4 => f_X12_onceIn_l7 N sh n a0 x1 x2 x3 x4 m) a0 x1 x2 x3 x4 m
def f_X12_onceIn (N : Nat) (sh : jm_S) (a0 : Nat) (x1 : Int) (x2 : Int) (m : jm_M) : Option Int :=
  f_X12_onceIn_l7 N sh N a0 x1 x2 0 (jw (x2 + 1)) m
def f_X12_comesTo_b62 (N : Nat) (sh : jm_S) (k5 : Nat → Int → Int → Int → Int → Option Int) (a0 : Nat) (x1 : Int) (x2 : Int) (x4 : Int) (s0 : Int) (s1 : Int) (m : jm_M) : Option Int :=
  k5 a0 x1 x2 (jw (s0 * s1)) (jw (x4 + 1))
def f_X12_comesTo_b61 (N : Nat) (sh : jm_S) (k5 : Nat → Int → Int → Int → Int → Option Int) (a0 : Nat) (x1 : Int) (x2 : Int) (x4 : Int) (s0 : Int) (m : jm_M) : Option Int :=
  f_X12_comesTo_b62 N sh k5 a0 x1 x2 x4 s0 1 m
def f_X12_comesTo_b5 (N : Nat) (sh : jm_S) (k5 : Nat → Int → Int → Int → Int → Option Int) (a0 : Nat) (x1 : Int) (x2 : Int) (x3 : Int) (x4 : Int) (m : jm_M) : Option Int :=
  if x4 < x2 then
    Option.bind (jrf sh m a0 12 34 4) fun v2 =>
    Option.bind (jra sh m v2.toNat 13 (jw ((jw (30 * x1)) + x4))) fun v3 =>
    Option.bind (f_X12_isLoop v3) fun q4 =>
    if q4 = 0 then
      f_X12_comesTo_b61 N sh k5 a0 x1 x2 x4 x3 m
    else
    Option.bind (jrf sh m a0 12 34 5) fun v7 =>
    Option.bind (jra sh m v7.toNat 13 (jw ((jw (30 * x1)) + x4))) fun v8 =>
    if x2 < (jw (x4 + v8)) then
      Option.bind (jrf sh m a0 12 34 4) fun v10 =>
      Option.bind (jra sh m v10.toNat 13 (jw ((jw (30 * x1)) + x4))) fun v11 =>
      Option.bind (f_X12_timesOf v11) fun q12 =>
      f_X12_comesTo_b62 N sh k5 a0 x1 x2 x4 x3 q12 m
    else
    f_X12_comesTo_b61 N sh k5 a0 x1 x2 x4 x3 m
  else
  some x3
def f_X12_comesTo_l5 (N : Nat) (sh : jm_S) : Nat → Nat → Int → Int → Int → Int → jm_M → Option Int
  | 0 => fun _ _ _ _ _ _ => none
  | n + 1 => fun a0 x1 x2 x3 x4 m => f_X12_comesTo_b5 N sh (fun a0 x1 x2 x3 x4 => f_X12_comesTo_l5 N sh n a0 x1 x2 x3 x4 m) a0 x1 x2 x3 x4 m
def f_X12_comesTo (N : Nat) (sh : jm_S) (a0 : Nat) (x1 : Int) (x2 : Int) (m : jm_M) : Option Int :=
  f_X12_comesTo_l5 N sh N a0 x1 x2 1 0 m
def f_X12_bound_b304 (N : Nat) (sh : jm_S) (k240 : Nat → Int → Int → Int → Int → jm_M → Option (Int × jm_M)) (a0 : Nat) (x1 : Int) (x2 : Int) (x3 : Int) (x4 : Int) (m : jm_M) : Option (Int × jm_M) :=
  k240 a0 x1 x2 x3 (jw (x4 + 1)) m
def f_X12_bound_b240 (N : Nat) (sh : jm_S) (k240 : Nat → Int → Int → Int → Int → jm_M → Option (Int × jm_M)) (a0 : Nat) (x1 : Int) (x2 : Int) (x3 : Int) (x4 : Int) (m : jm_M) : Option (Int × jm_M) :=
  Option.bind (jrf sh m a0 12 34 3) fun v1 =>
  Option.bind (jra sh m v1.toNat 13 x1) fun v2 =>
  if x4 < v2 then
    if x2 = 1 then
      Option.bind (jrf sh m a0 12 34 4) fun v5 =>
      Option.bind (jra sh m v5.toNat 13 (jw ((jw (30 * x1)) + x4))) fun v6 =>
      Option.bind (f_X12_isLoop v6) fun q7 =>
      if q7 = 0 then
        f_X12_bound_b304 N sh k240 a0 x1 x2 x3 x4 m
      else
      Option.bind (jrf sh m a0 12 34 0) fun v10 =>
      Option.bind (jra sh m v10.toNat 13 2) fun v11 =>
      Option.bind (jck sh a0 12 34) fun u12 =>
      Option.bind (f_X12_onceIn N sh a0 x1 x4 m) fun q13 =>
      Option.bind (f_X12_bits N q13) fun q15 =>
      Option.bind (jck sh a0 12 34) fun u17 =>
      Option.bind (f_X12_comesTo N sh a0 x1 x4 m) fun q18 =>
      f_X12_bound_b304 N sh k240 a0 x1 x2 (jw (x3 + (jw ((jw ((jw (v11 - 1)) * q15)) * q18)))) x4 m
    else
    some (x3, m)
  else
  some (x3, m)
def f_X12_bound_l240 (N : Nat) (sh : jm_S) : Nat → Nat → Int → Int → Int → Int → jm_M → Option (Int × jm_M)
  | 0 => fun _ _ _ _ _ _ => none
  | n + 1 => fun a0 x1 x2 x3 x4 m => f_X12_bound_b240 N sh (f_X12_bound_l240 N sh n) a0 x1 x2 x3 x4 m
def f_X12_bound_b224 (N : Nat) (sh : jm_S) (k35 : Nat → Int → Int → Int → jm_M → Option (Int × jm_M)) (a0 : Nat) (x1 : Int) (x2 : Int) (x3 : Int) (m : jm_M) : Option (Int × jm_M) :=
  k35 a0 x1 x2 (jw (x3 + (-1))) m
def f_X12_bound_b223 (N : Nat) (sh : jm_S) (k35 : Nat → Int → Int → Int → jm_M → Option (Int × jm_M)) (a0 : Nat) (x1 : Int) (x2 : Int) (x3 : Int) (r0 : Nat) (s1 : Int) (s2 : Int) (m : jm_M) : Option (Int × jm_M) :=
  Option.bind (jwa sh m r0 13 s1 s2) fun m20 =>
  f_X12_bound_b224 N sh k35 a0 x1 x2 x3 m20
def f_X12_bound_b107 (N : Nat) (sh : jm_S) (k35 : Nat → Int → Int → Int → jm_M → Option (Int × jm_M)) (a0 : Nat) (x1 : Int) (x2 : Int) (x3 : Int) (r0 : Nat) (s1 : Int) (s2 : Int) (m : jm_M) : Option (Int × jm_M) :=
  Option.bind (jwa sh m r0 13 s1 s2) fun m21 =>
  f_X12_bound_b224 N sh k35 a0 x1 x2 x3 m21
def f_X12_bound_b97 (N : Nat) (sh : jm_S) (k35 : Nat → Int → Int → Int → jm_M → Option (Int × jm_M)) (a0 : Nat) (x1 : Int) (x2 : Int) (x3 : Int) (r0 : Nat) (s1 : Int) (m : jm_M) : Option (Int × jm_M) :=
  f_X12_bound_b107 N sh k35 a0 x1 x2 x3 r0 s1 1 m
def f_X12_bound_b101 (N : Nat) (sh : jm_S) (k35 : Nat → Int → Int → Int → jm_M → Option (Int × jm_M)) (a0 : Nat) (x1 : Int) (x2 : Int) (x3 : Int) (r0 : Nat) (s1 : Int) (m : jm_M) : Option (Int × jm_M) :=
  Option.bind (jrf sh m a0 12 34 0) fun v22 =>
  Option.bind (jra sh m v22.toNat 13 2) fun v23 =>
  f_X12_bound_b107 N sh k35 a0 x1 x2 x3 r0 s1 v23 m
def f_X12_bound_b35 (N : Nat) (sh : jm_S) (k35 : Nat → Int → Int → Int → jm_M → Option (Int × jm_M)) (a0 : Nat) (x1 : Int) (x2 : Int) (x3 : Int) (m : jm_M) : Option (Int × jm_M) :=
  if x3 < 0 then
    Option.bind (jrf sh m a0 12 34 30) fun v25 =>
    Option.bind (jra sh m v25.toNat 13 0) fun v26 =>
    f_X12_bound_l240 N sh N a0 x1 x2 v26 0 m
  else
  Option.bind (jrf sh m a0 12 34 4) fun v27 =>
  Option.bind (jra sh m v27.toNat 13 (jw ((jw (30 * x1)) + x3))) fun v28 =>
  Option.bind (f_X12_in v28 48 55) fun q29 =>
  if q29 = 0 then
    if v28 = 45 then
      Option.bind (jrf sh m a0 12 34 30) fun v33 =>
      Option.bind (jwa sh m v33.toNat 13 x3 0) fun m34 =>
      f_X12_bound_b224 N sh k35 a0 x1 x2 x3 m34
    else
    Option.bind (f_X12_isLoop v28) fun q35 =>
    if q35 = 0 then
      Option.bind (jrf sh m a0 12 34 30) fun v38 =>
      Option.bind (jra sh m v38.toNat 13 (jw (x3 + 1))) fun v39 =>
      Option.bind (jrf sh m a0 12 34 30) fun v40 =>
      Option.bind (jrf sh m a0 12 34 5) fun v41 =>
      Option.bind (jra sh m v41.toNat 13 (jw ((jw ((jw (30 * x1)) + x3)) + 1))) fun v42 =>
      Option.bind (jra sh m v40.toNat 13 (jw ((jw (x3 + 1)) + v42))) fun v43 =>
      Option.bind (jrf sh m a0 12 34 30) fun v44 =>
      if v28 = 59 then
        f_X12_bound_b223 N sh k35 a0 x1 x2 x3 v44.toNat x3 (jw (v39 + v43)) m
      else
      if v43 < v39 then
        f_X12_bound_b223 N sh k35 a0 x1 x2 x3 v44.toNat x3 v39 m
      else
      f_X12_bound_b223 N sh k35 a0 x1 x2 x3 v44.toNat x3 v43 m
    else
    Option.bind (jrf sh m a0 12 34 30) fun v47 =>
    Option.bind (f_X12_timesOf v28) fun q48 =>
    Option.bind (jrf sh m a0 12 34 30) fun v50 =>
    Option.bind (jra sh m v50.toNat 13 (jw (x3 + 1))) fun v51 =>
    Option.bind (jwa sh m v47.toNat 13 x3 (jw (q48 * v51))) fun m52 =>
    f_X12_bound_b224 N sh k35 a0 x1 x2 x3 m52
  else
  Option.bind (jck sh a0 12 34) fun u53 =>
  Option.bind (f_X12_sortOf N sh a0 x1 x3 m) fun q54 =>
  Option.bind (jrf sh m a0 12 34 30) fun v56 =>
  if q54 = 0 then
    f_X12_bound_b97 N sh k35 a0 x1 x2 x3 v56.toNat x3 m
  else
  if x2 = 1 then
    if q54 = 2 then
      f_X12_bound_b97 N sh k35 a0 x1 x2 x3 v56.toNat x3 m
    else
    f_X12_bound_b101 N sh k35 a0 x1 x2 x3 v56.toNat x3 m
  else
  f_X12_bound_b101 N sh k35 a0 x1 x2 x3 v56.toNat x3 m
def f_X12_bound_l35 (N : Nat) (sh : jm_S) : Nat → Nat → Int → Int → Int → jm_M → Option (Int × jm_M)
  | 0 => fun _ _ _ _ _ => none
  | n + 1 => fun a0 x1 x2 x3 m => f_X12_bound_b35 N sh (f_X12_bound_l35 N sh n) a0 x1 x2 x3 m
def f_X12_bound (N : Nat) (sh : jm_S) (a0 : Nat) (x1 : Int) (x2 : Int) (m : jm_M) : Option (Int × jm_M) :=
  Option.bind (f_X12_isProgram x1) fun q60 =>
  if q60 = 0 then
    some ((-1), m)
  else
  Option.bind (f_X12_in x2 0 1) fun q63 =>
  if q63 = 0 then
    some ((-2), m)
  else
  Option.bind (jck sh a0 12 34) fun u66 =>
  Option.bind (f_X12_layAges N sh a0 x1 m) fun q67 =>
  Option.bind (jrf sh q67 a0 12 34 3) fun v69 =>
  Option.bind (jra sh q67 v69.toNat 13 x1) fun v70 =>
  f_X12_bound_l35 N sh N a0 x1 x2 (jw (v70 - 1)) q67
def f_X12_fast_b122 (N : Nat) (sh : jm_S) (k38 : Nat → Int → Int → Int → Int → Int → Int → jm_M → Option (Int × jm_M)) (a0 : Nat) (x1 : Int) (x2 : Int) (x3 : Int) (x4 : Int) (x5 : Int) (x6 : Int) (m : jm_M) : Option (Int × jm_M) :=
  k38 a0 x1 x2 x3 x4 x5 (jw (x6 + 1)) m
def f_X12_fast_b114 (N : Nat) (sh : jm_S) (k38 : Nat → Int → Int → Int → Int → Int → Int → jm_M → Option (Int × jm_M)) (a0 : Nat) (x1 : Int) (x2 : Int) (x3 : Int) (x6 : Int) (x7 : Int) (m : jm_M) : Option (Int × jm_M) :=
  f_X12_fast_b122 N sh k38 a0 x1 x2 x3 x6 x7 x6 m
def f_X12_fast_b38 (N : Nat) (sh : jm_S) (k38 : Nat → Int → Int → Int → Int → Int → Int → jm_M → Option (Int × jm_M)) (a0 : Nat) (x1 : Int) (x2 : Int) (x3 : Int) (x4 : Int) (x5 : Int) (x6 : Int) (m : jm_M) : Option (Int × jm_M) :=
  if x6 < 256 then
    Option.bind (jrf sh m a0 12 34 0) fun v2 =>
    Option.bind (jra sh m v2.toNat 13 0) fun v3 =>
    Option.bind (jrf sh m a0 12 34 0) fun v4 =>
    Option.bind (jra sh m v4.toNat 13 1) fun v5 =>
    Option.bind (jck sh a0 12 34) fun u6 =>
    Option.bind (f_X12_mayHold N a0 v3 v5 x6) fun q7 =>
    if q7 = 0 then
      f_X12_fast_b122 N sh k38 a0 x1 x2 x3 x4 x5 x6 m
    else
    Option.bind (jrf sh m a0 12 34 0) fun v10 =>
    Option.bind (jwa sh m v10.toNat 13 3 x6) fun m11 =>
    Option.bind (jck sh a0 12 34) fun u12 =>
    Option.bind (f_X12_worstOf N sh a0 x1 m11) fun q13 =>
    if x4 < 0 then
      f_X12_fast_b114 N sh k38 a0 x1 x2 x3 x6 q13.1 q13.2
    else
    if q13.1 < x5 then
      f_X12_fast_b114 N sh k38 a0 x1 x2 x3 x6 q13.1 q13.2
    else
    if q13.1 = x5 then
      Option.bind (f_X12_bits N x6) fun q18 =>
      Option.bind (f_X12_bits N x4) fun q20 =>
      if q18 < q20 then
        f_X12_fast_b114 N sh k38 a0 x1 x2 x3 x6 q13.1 q13.2
      else
      f_X12_fast_b122 N sh k38 a0 x1 x2 x3 x4 x5 x6 q13.2
    else
    f_X12_fast_b122 N sh k38 a0 x1 x2 x3 x4 x5 x6 q13.2
  else
  Option.bind (jrf sh m a0 12 34 0) fun v23 =>
  Option.bind (jwa sh m v23.toNat 13 3 x3) fun m24 =>
  if x2 = 0 then
    some (x4, m24)
  else
  some (x5, m24)
def f_X12_fast_l38 (N : Nat) (sh : jm_S) : Nat → Nat → Int → Int → Int → Int → Int → Int → jm_M → Option (Int × jm_M)
  | 0 => fun _ _ _ _ _ _ _ _ => none
  | n + 1 => fun a0 x1 x2 x3 x4 x5 x6 m => f_X12_fast_b38 N sh (f_X12_fast_l38 N sh n) a0 x1 x2 x3 x4 x5 x6 m
def f_X12_fast (N : Nat) (sh : jm_S) (a0 : Nat) (x1 : Int) (x2 : Int) (m : jm_M) : Option (Int × jm_M) :=
  Option.bind (f_X12_isProgram x1) fun q26 =>
  if q26 = 0 then
    some ((-1), m)
  else
  Option.bind (f_X12_in x2 0 1) fun q29 =>
  if q29 = 0 then
    some ((-2), m)
  else
  Option.bind (jrf sh m a0 12 34 0) fun v32 =>
  Option.bind (jra sh m v32.toNat 13 3) fun v33 =>
  f_X12_fast_l38 N sh N a0 x1 x2 v33 (-6) 0 0 m
def f_X12_crowd0_b50 (N : Nat) (sh : jm_S) (k4 : Nat → Int → Int → Int → Option Int) (a0 : Nat) (x1 : Int) (x3 : Int) (s0 : Int) (s1 : Int) (m : jm_M) : Option Int :=
  k4 a0 x1 (jor s0 s1) (jw (x3 + 1))
def f_X12_crowd0_b4 (N : Nat) (sh : jm_S) (k4 : Nat → Int → Int → Int → Option Int) (a0 : Nat) (x1 : Int) (x2 : Int) (x3 : Int) (m : jm_M) : Option Int :=
  Option.bind (jrf sh m a0 12 34 3) fun v1 =>
  Option.bind (jra sh m v1.toNat 13 x1) fun v2 =>
  if x3 < v2 then
    Option.bind (jrf sh m a0 12 34 4) fun v4 =>
    Option.bind (jra sh m v4.toNat 13 (jw ((jw (30 * x1)) + x3))) fun v5 =>
    Option.bind (f_X12_in (jw (v5 - 48)) 0 7) fun q6 =>
    if q6 = 0 then
      f_X12_crowd0_b50 N sh k4 a0 x1 x3 x2 0 m
    else
    f_X12_crowd0_b50 N sh k4 a0 x1 x3 x2 (jshl 1 (jw (v5 - 48))) m
  else
  some x2
def f_X12_crowd0_l4 (N : Nat) (sh : jm_S) : Nat → Nat → Int → Int → Int → jm_M → Option Int
  | 0 => fun _ _ _ _ _ => none
  | n + 1 => fun a0 x1 x2 x3 m => f_X12_crowd0_b4 N sh (fun a0 x1 x2 x3 => f_X12_crowd0_l4 N sh n a0 x1 x2 x3 m) a0 x1 x2 x3 m
def f_X12_crowd0 (N : Nat) (sh : jm_S) (a0 : Nat) (x1 : Int) (m : jm_M) : Option Int :=
  f_X12_crowd0_l4 N sh N a0 x1 0 0 m
def f_X12_crowd (N : Nat) (sh : jm_S) (a0 : Nat) (x1 : Int) (m : jm_M) : Option Int :=
  Option.bind (f_X12_isProgram x1) fun q1 =>
  if q1 = 0 then
    some (-1)
  else
  Option.bind (jck sh a0 12 34) fun u4 =>
  Option.bind (f_X12_crowd0 N sh a0 x1 m) fun q5 =>
  some q5
def f_X12_period (sh : jm_S) (a0 : Nat) (x1 : Int) (x2 : Int) (m : jm_M) : Option (Int × jm_M) :=
  Option.bind (f_X12_isProgram x1) fun q1 =>
  if q1 = 0 then
    some ((-1), m)
  else
  Option.bind (f_X12_in x2 0 9999) fun q4 =>
  if q4 = 0 then
    some ((-2), m)
  else
  Option.bind (jrf sh m a0 12 34 6) fun v7 =>
  Option.bind (jra sh m v7.toNat 13 x1) fun v8 =>
  Option.bind (jrf sh m a0 12 34 6) fun v9 =>
  Option.bind (jwa sh m v9.toNat 13 x1 x2) fun m10 =>
  some (v8, m10)
def f_X12_breaksOf_b123 (N : Nat) (sh : jm_S) (k37 : Nat → Int → Int → Int → Int → Option Int) (a0 : Nat) (x3 : Int) (x4 : Int) (x6 : Int) (s0 : Int) (s1 : Int) (m : jm_M) : Option Int :=
  k37 a0 x3 x4 (jw (s0 + s1)) (jw (x6 + 1))
def f_X12_breaksOf_b122 (N : Nat) (sh : jm_S) (k37 : Nat → Int → Int → Int → Int → Option Int) (a0 : Nat) (x3 : Int) (x4 : Int) (x6 : Int) (s0 : Int) (m : jm_M) : Option Int :=
  f_X12_breaksOf_b123 N sh k37 a0 x3 x4 x6 s0 0 m
def f_X12_breaksOf_b92 (N : Nat) (sh : jm_S) (k37 : Nat → Int → Int → Int → Int → Option Int) (k50 : Nat → Int → Int → Int → Int → Int → Int → Option Int) (a0 : Nat) (x3 : Int) (x4 : Int) (x5 : Int) (x6 : Int) (x8 : Int) (s0 : Int) (m : jm_M) : Option Int :=
  k50 a0 x3 x4 x5 x6 s0 (jw (x8 + 1))
def f_X12_breaksOf_b87 (N : Nat) (sh : jm_S) (k37 : Nat → Int → Int → Int → Int → Option Int) (k50 : Nat → Int → Int → Int → Int → Int → Int → Option Int) (a0 : Nat) (x3 : Int) (x4 : Int) (x5 : Int) (x6 : Int) (x8 : Int) (m : jm_M) : Option Int :=
  f_X12_breaksOf_b92 N sh k37 k50 a0 x3 x4 x5 x6 x8 1 m
def f_X12_breaksOf_b91 (N : Nat) (sh : jm_S) (k37 : Nat → Int → Int → Int → Int → Option Int) (k50 : Nat → Int → Int → Int → Int → Int → Int → Option Int) (a0 : Nat) (x3 : Int) (x4 : Int) (x5 : Int) (x6 : Int) (x8 : Int) (m : jm_M) : Option Int :=
  f_X12_breaksOf_b92 N sh k37 k50 a0 x3 x4 x5 x6 x8 0 m
def f_X12_breaksOf_b50 (N : Nat) (sh : jm_S) (k37 : Nat → Int → Int → Int → Int → Option Int) (k50 : Nat → Int → Int → Int → Int → Int → Int → Option Int) (a0 : Nat) (x3 : Int) (x4 : Int) (x5 : Int) (x6 : Int) (x7 : Int) (x8 : Int) (m : jm_M) : Option Int :=
  if x8 < 8 then
    if x7 = 0 then
      if (jand (jshr x3 x8) 1) = 1 then
        Option.bind (jck sh a0 12 34) fun u4 =>
        Option.bind (f_X12_setOf sh a0 x8 m) fun q5 =>
        Option.bind (jck sh a0 12 34) fun u7 =>
        Option.bind (f_X12_setOf sh a0 x6 m) fun q8 =>
        if q5 = q8 then
          f_X12_breaksOf_b87 N sh k37 k50 a0 x3 x4 x5 x6 x8 m
        else
        f_X12_breaksOf_b91 N sh k37 k50 a0 x3 x4 x5 x6 x8 m
      else
      f_X12_breaksOf_b91 N sh k37 k50 a0 x3 x4 x5 x6 x8 m
    else
    f_X12_breaksOf_b87 N sh k37 k50 a0 x3 x4 x5 x6 x8 m
  else
  if (jand (jshr x4 x6) 1) = 1 then
    if x7 = 0 then
      f_X12_breaksOf_b122 N sh k37 a0 x3 x4 x6 x5 m
    else
    f_X12_breaksOf_b123 N sh k37 a0 x3 x4 x6 x5 1 m
  else
  f_X12_breaksOf_b122 N sh k37 a0 x3 x4 x6 x5 m
def f_X12_breaksOf_l50 (N : Nat) (sh : jm_S) (k37 : Nat → Int → Int → Int → Int → Option Int) : Nat → Nat → Int → Int → Int → Int → Int → Int → jm_M → Option Int
  | 0 => fun _ _ _ _ _ _ _ _ => none
  | n + 1 => fun a0 x3 x4 x5 x6 x7 x8 m => f_X12_breaksOf_b50 N sh k37 (fun a0 x3 x4 x5 x6 x7 x8 => f_X12_breaksOf_l50 N sh k37 n a0 x3 x4 x5 x6 x7 x8 m) a0 x3 x4 x5 x6 x7 x8 m
def f_X12_breaksOf_b37 (N : Nat) (sh : jm_S) (k37 : Nat → Int → Int → Int → Int → Option Int) (a0 : Nat) (x3 : Int) (x4 : Int) (x5 : Int) (x6 : Int) (m : jm_M) : Option Int :=
  if x6 < 8 then
    f_X12_breaksOf_l50 N sh k37 N a0 x3 x4 x5 x6 0 0 m
  else
  Option.bind (jrf sh m a0 12 34 0) fun v14 =>
  Option.bind (jra sh m v14.toNat 13 2) fun v15 =>
  some (jw (x5 * v15))
def f_X12_breaksOf_l37 (N : Nat) (sh : jm_S) : Nat → Nat → Int → Int → Int → Int → jm_M → Option Int
  | 0 => fun _ _ _ _ _ _ => none
  | n + 1 => fun a0 x3 x4 x5 x6 m => f_X12_breaksOf_b37 N sh (fun a0 x3 x4 x5 x6 => f_X12_breaksOf_l37 N sh n a0 x3 x4 x5 x6 m) a0 x3 x4 x5 x6 m
def f_X12_breaksOf (N : Nat) (sh : jm_S) (a0 : Nat) (x1 : Int) (x2 : Int) (m : jm_M) : Option Int :=
  Option.bind (jck sh a0 12 34) fun u16 =>
  Option.bind (f_X12_crowd0 N sh a0 x1 m) fun q17 =>
  Option.bind (jrf sh m a0 12 34 0) fun v19 =>
  Option.bind (jra sh m v19.toNat 13 3) fun v20 =>
  Option.bind (jck sh a0 12 34) fun u21 =>
  Option.bind (f_X12_crowd0 N sh a0 x2 m) fun q22 =>
  Option.bind (jrf sh m a0 12 34 0) fun v24 =>
  Option.bind (jra sh m v24.toNat 13 3) fun v25 =>
  f_X12_breaksOf_l37 N sh N a0 (jand q17 (jxor v20 (-1))) (jand q22 (jxor v25 (-1))) 0 0 m
def f_X12_breaks (N : Nat) (sh : jm_S) (a0 : Nat) (x1 : Int) (x2 : Int) (m : jm_M) : Option Int :=
  Option.bind (f_X12_isProgram x1) fun q1 =>
  if q1 = 0 then
    some (-1)
  else
  Option.bind (f_X12_isProgram x2) fun q4 =>
  if q4 = 0 then
    some (-1)
  else
  if x1 < x2 then
    Option.bind (jrf sh m a0 12 34 6) fun v8 =>
    Option.bind (jra sh m v8.toNat 13 x1) fun v9 =>
    if v9 = 0 then
      some (-3)
    else
    Option.bind (jrf sh m a0 12 34 6) fun v11 =>
    Option.bind (jra sh m v11.toNat 13 x2) fun v12 =>
    if v12 = 0 then
      some (-3)
    else
    Option.bind (jck sh a0 12 34) fun u14 =>
    Option.bind (f_X12_breaksOf N sh a0 x1 x2 m) fun q15 =>
    some q15
  else
  some (-1)
def f_X12_layWorsts_b30 (N : Nat) (sh : jm_S) (k2 : Nat → Int → jm_M → Option jm_M) (a0 : Nat) (x1 : Int) (r0 : Nat) (s1 : Int) (s2 : Int) (m : jm_M) : Option jm_M :=
  Option.bind (jwa sh m r0 13 s1 s2) fun m1 =>
  k2 a0 (jw (x1 + 1)) m1
def f_X12_layWorsts_b2 (N : Nat) (sh : jm_S) (k2 : Nat → Int → jm_M → Option jm_M) (a0 : Nat) (x1 : Int) (m : jm_M) : Option jm_M :=
  if x1 < 4 then
    Option.bind (jrf sh m a0 12 34 31) fun v3 =>
    Option.bind (jrf sh m a0 12 34 6) fun v4 =>
    Option.bind (jra sh m v4.toNat 13 x1) fun v5 =>
    if 0 < v5 then
      Option.bind (jck sh a0 12 34) fun u7 =>
      Option.bind (f_X12_worstOf N sh a0 x1 m) fun q8 =>
      f_X12_layWorsts_b30 N sh k2 a0 x1 v3.toNat x1 q8.1 q8.2
    else
    f_X12_layWorsts_b30 N sh k2 a0 x1 v3.toNat x1 0 m
  else
  some m
def f_X12_layWorsts_l2 (N : Nat) (sh : jm_S) : Nat → Nat → Int → jm_M → Option jm_M
  | 0 => fun _ _ _ => none
  | n + 1 => fun a0 x1 m => f_X12_layWorsts_b2 N sh (f_X12_layWorsts_l2 N sh n) a0 x1 m
def f_X12_layWorsts (N : Nat) (sh : jm_S) (a0 : Nat) (m : jm_M) : Option jm_M :=
  f_X12_layWorsts_l2 N sh N a0 0 m
def f_X12_doneOf_b114 (N : Nat) (sh : jm_S) (a0 : Nat) (x1 : Int) (x2 : Int) (m : jm_M) : Option Int :=
  Option.bind (jrf sh m a0 12 34 6) fun v1 =>
  Option.bind (jra sh m v1.toNat 13 x1) fun v2 =>
  if v2 < x2 then
    some (-5)
  else
  some x2
def f_X12_doneOf_b107 (N : Nat) (sh : jm_S) (k9 : Nat → Int → Int → Int → Option Int) (a0 : Nat) (x1 : Int) (x4 : Int) (s0 : Int) (m : jm_M) : Option Int :=
  k9 a0 x1 x4 s0
def f_X12_doneOf_b90 (N : Nat) (sh : jm_S) (k9 : Nat → Int → Int → Int → Option Int) (k34 : Nat → Int → Int → Int → Int → Option Int) (a0 : Nat) (x1 : Int) (x2 : Int) (x4 : Int) (x5 : Int) (m : jm_M) : Option Int :=
  k34 a0 x1 x2 x4 (jw (x5 + 1))
def f_X12_doneOf_b34 (N : Nat) (sh : jm_S) (k9 : Nat → Int → Int → Int → Option Int) (k34 : Nat → Int → Int → Int → Int → Option Int) (a0 : Nat) (x1 : Int) (x2 : Int) (x4 : Int) (x5 : Int) (m : jm_M) : Option Int :=
  if x5 < x1 then
    Option.bind (jrf sh m a0 12 34 6) fun v5 =>
    Option.bind (jra sh m v5.toNat 13 x5) fun v6 =>
    if 0 < v6 then
      Option.bind (jrf sh m a0 12 34 6) fun v8 =>
      Option.bind (jra sh m v8.toNat 13 x5) fun v9 =>
      Option.bind (jrf sh m a0 12 34 6) fun v10 =>
      Option.bind (jra sh m v10.toNat 13 x5) fun v11 =>
      if v11 = 0 then none else
      Option.bind (jrf sh m a0 12 34 31) fun v13 =>
      Option.bind (jra sh m v13.toNat 13 x5) fun v14 =>
      Option.bind (jck sh a0 12 34) fun u15 =>
      Option.bind (f_X12_breaksOf N sh a0 x5 x1 m) fun q16 =>
      f_X12_doneOf_b90 N sh k9 k34 a0 x1 x2 (jw (x4 + (jw ((jdiv (jw ((jw (x2 + v9)) - 1)) v11) * (jw (v14 + q16)))))) x5 m
    else
    f_X12_doneOf_b90 N sh k9 k34 a0 x1 x2 x4 x5 m
  else
  if x4 = x2 then
    f_X12_doneOf_b107 N sh k9 a0 x1 x4 0 m
  else
  f_X12_doneOf_b107 N sh k9 a0 x1 x4 1 m
def f_X12_doneOf_l34 (N : Nat) (sh : jm_S) (k9 : Nat → Int → Int → Int → Option Int) : Nat → Nat → Int → Int → Int → Int → jm_M → Option Int
  | 0 => fun _ _ _ _ _ _ => none
  | n + 1 => fun a0 x1 x2 x4 x5 m => f_X12_doneOf_b34 N sh k9 (fun a0 x1 x2 x4 x5 => f_X12_doneOf_l34 N sh k9 n a0 x1 x2 x4 x5 m) a0 x1 x2 x4 x5 m
def f_X12_doneOf_b9 (N : Nat) (sh : jm_S) (k9 : Nat → Int → Int → Int → Option Int) (a0 : Nat) (x1 : Int) (x2 : Int) (x3 : Int) (m : jm_M) : Option Int :=
  if x3 = 0 then
    f_X12_doneOf_b114 N sh a0 x1 x2 m
  else
  Option.bind (jrf sh m a0 12 34 6) fun v20 =>
  Option.bind (jra sh m v20.toNat 13 x1) fun v21 =>
  if v21 < x2 then
    f_X12_doneOf_b114 N sh a0 x1 x2 m
  else
  Option.bind (jrf sh m a0 12 34 31) fun v23 =>
  Option.bind (jra sh m v23.toNat 13 x1) fun v24 =>
  f_X12_doneOf_l34 N sh k9 N a0 x1 x2 v24 0 m
def f_X12_doneOf_l9 (N : Nat) (sh : jm_S) : Nat → Nat → Int → Int → Int → jm_M → Option Int
  | 0 => fun _ _ _ _ _ => none
  | n + 1 => fun a0 x1 x2 x3 m => f_X12_doneOf_b9 N sh (fun a0 x1 x2 x3 => f_X12_doneOf_l9 N sh n a0 x1 x2 x3 m) a0 x1 x2 x3 m
def f_X12_doneOf (N : Nat) (sh : jm_S) (a0 : Nat) (x1 : Int) (m : jm_M) : Option Int :=
  Option.bind (jrf sh m a0 12 34 31) fun v25 =>
  Option.bind (jra sh m v25.toNat 13 x1) fun v26 =>
  f_X12_doneOf_l9 N sh N a0 x1 v26 1 m
def f_X12_done (N : Nat) (sh : jm_S) (a0 : Nat) (x1 : Int) (m : jm_M) : Option (Int × jm_M) :=
  Option.bind (f_X12_isProgram x1) fun q1 =>
  if q1 = 0 then
    some ((-1), m)
  else
  Option.bind (jrf sh m a0 12 34 6) fun v4 =>
  Option.bind (jra sh m v4.toNat 13 x1) fun v5 =>
  if v5 = 0 then
    some ((-3), m)
  else
  Option.bind (jck sh a0 12 34) fun u7 =>
  Option.bind (f_X12_layWorsts N sh a0 m) fun q8 =>
  Option.bind (jck sh a0 12 34) fun u10 =>
  Option.bind (f_X12_doneOf N sh a0 x1 q8) fun q11 =>
  some (q11, q8)
def f_X12_lateOnes_b38 (N : Nat) (sh : jm_S) (k8 : Nat → Int → Int → jm_M → Option (Int × jm_M)) (a0 : Nat) (x2 : Int) (s0 : Int) (s1 : Int) (m : jm_M) : Option (Int × jm_M) :=
  k8 a0 (jor s0 s1) (jw (x2 + 1)) m
def f_X12_lateOnes_b37 (N : Nat) (sh : jm_S) (k8 : Nat → Int → Int → jm_M → Option (Int × jm_M)) (a0 : Nat) (x2 : Int) (s0 : Int) (m : jm_M) : Option (Int × jm_M) :=
  f_X12_lateOnes_b38 N sh k8 a0 x2 s0 0 m
def f_X12_lateOnes_b8 (N : Nat) (sh : jm_S) (k8 : Nat → Int → Int → jm_M → Option (Int × jm_M)) (a0 : Nat) (x1 : Int) (x2 : Int) (m : jm_M) : Option (Int × jm_M) :=
  if x2 < 4 then
    Option.bind (jrf sh m a0 12 34 6) fun v2 =>
    Option.bind (jra sh m v2.toNat 13 x2) fun v3 =>
    if 0 < v3 then
      Option.bind (jck sh a0 12 34) fun u5 =>
      Option.bind (f_X12_doneOf N sh a0 x2 m) fun q6 =>
      if q6 < 0 then
        f_X12_lateOnes_b38 N sh k8 a0 x2 x1 (jshl 1 x2) m
      else
      f_X12_lateOnes_b37 N sh k8 a0 x2 x1 m
    else
    f_X12_lateOnes_b37 N sh k8 a0 x2 x1 m
  else
  some (x1, m)
def f_X12_lateOnes_l8 (N : Nat) (sh : jm_S) : Nat → Nat → Int → Int → jm_M → Option (Int × jm_M)
  | 0 => fun _ _ _ _ => none
  | n + 1 => fun a0 x1 x2 m => f_X12_lateOnes_b8 N sh (f_X12_lateOnes_l8 N sh n) a0 x1 x2 m
def f_X12_lateOnes (N : Nat) (sh : jm_S) (a0 : Nat) (m : jm_M) : Option (Int × jm_M) :=
  Option.bind (jck sh a0 12 34) fun u9 =>
  Option.bind (f_X12_layWorsts N sh a0 m) fun q10 =>
  f_X12_lateOnes_l8 N sh N a0 0 0 q10
def f_X12_late_b74 (N : Nat) (sh : jm_S) (a0 : Nat) (x2 : Int) (x3 : Int) (m : jm_M) : Option (Int × jm_M) :=
  Option.bind (jrf sh m a0 12 34 0) fun v1 =>
  Option.bind (jwa sh m v1.toNat 13 2 x2) fun m2 =>
  some (x3, m2)
def f_X12_late_b67 (N : Nat) (sh : jm_S) (k35 : Nat → Int → Int → Int → jm_M → Option (Int × jm_M)) (a0 : Nat) (x2 : Int) (x4 : Int) (s0 : Int) (m : jm_M) : Option (Int × jm_M) :=
  k35 a0 x2 s0 (jw (x4 + (-1))) m
def f_X12_late_b35 (N : Nat) (sh : jm_S) (k35 : Nat → Int → Int → Int → jm_M → Option (Int × jm_M)) (a0 : Nat) (x2 : Int) (x3 : Int) (x4 : Int) (m : jm_M) : Option (Int × jm_M) :=
  if 1 < x4 then
    if x3 < 0 then
      Option.bind (jrf sh m a0 12 34 0) fun v5 =>
      Option.bind (jwa sh m v5.toNat 13 2 x4) fun m6 =>
      Option.bind (jck sh a0 12 34) fun u7 =>
      Option.bind (f_X12_lateOnes N sh a0 m6) fun q8 =>
      if q8.1 = 0 then
        f_X12_late_b67 N sh k35 a0 x2 x4 x4 q8.2
      else
      f_X12_late_b67 N sh k35 a0 x2 x4 (-6) q8.2
    else
    f_X12_late_b74 N sh a0 x2 x3 m
  else
  f_X12_late_b74 N sh a0 x2 x3 m
def f_X12_late_l35 (N : Nat) (sh : jm_S) : Nat → Nat → Int → Int → Int → jm_M → Option (Int × jm_M)
  | 0 => fun _ _ _ _ _ => none
  | n + 1 => fun a0 x2 x3 x4 m => f_X12_late_b35 N sh (f_X12_late_l35 N sh n) a0 x2 x3 x4 m
def f_X12_late (N : Nat) (sh : jm_S) (a0 : Nat) (x1 : Int) (m : jm_M) : Option (Int × jm_M) :=
  Option.bind (f_X12_in x1 0 1) fun q11 =>
  if q11 = 0 then
    some ((-2), m)
  else
  if x1 = 0 then
    Option.bind (jck sh a0 12 34) fun u15 =>
    Option.bind (f_X12_lateOnes N sh a0 m) fun q16 =>
    some (q16.1, q16.2)
  else
  Option.bind (jrf sh m a0 12 34 0) fun v18 =>
  Option.bind (jra sh m v18.toNat 13 2) fun v19 =>
  f_X12_late_l35 N sh N a0 v19 (-6) 20 m
def f_X12_image_b124 (N : Nat) (sh : jm_S) (k124 : Nat → Int → Int → Int → jm_M → Option (Int × jm_M)) (a0 : Nat) (x1 : Int) (x2 : Int) (x3 : Int) (m : jm_M) : Option (Int × jm_M) :=
  if x3 < 120 then
    Option.bind (jrf sh m a0 12 34 32) fun v2 =>
    Option.bind (jrf sh m a0 12 34 4) fun v3 =>
    Option.bind (jra sh m v3.toNat 13 x3) fun v4 =>
    Option.bind (jwa sh m v2.toNat 13 (jw ((jw (x2 + 33)) + x3)) v4) fun m5 =>
    k124 a0 x1 x2 (jw (x3 + 1)) m5
  else
  Option.bind (jrf sh m a0 12 34 33) fun v6 =>
  Option.bind (jzb 1) fun z8 =>
  Option.bind (jwa sh m v6.toNat 14 x1 z8) fun m7 =>
  some (1, m7)
def f_X12_image_l124 (N : Nat) (sh : jm_S) : Nat → Nat → Int → Int → Int → jm_M → Option (Int × jm_M)
  | 0 => fun _ _ _ _ _ => none
  | n + 1 => fun a0 x1 x2 x3 m => f_X12_image_b124 N sh (f_X12_image_l124 N sh n) a0 x1 x2 x3 m
def f_X12_image_b93 (N : Nat) (sh : jm_S) (k93 : Nat → Int → Int → Int → jm_M → Option (Int × jm_M)) (a0 : Nat) (x1 : Int) (x2 : Int) (x3 : Int) (m : jm_M) : Option (Int × jm_M) :=
  if x3 < 20 then
    Option.bind (jrf sh m a0 12 34 32) fun v10 =>
    Option.bind (jrf sh m a0 12 34 8) fun v11 =>
    Option.bind (jra sh m v11.toNat 13 x3) fun v12 =>
    Option.bind (jwa sh m v10.toNat 13 (jw ((jw (x2 + 13)) + x3)) v12) fun m13 =>
    k93 a0 x1 x2 (jw (x3 + 1)) m13
  else
  f_X12_image_l124 N sh N a0 x1 x2 0 m
def f_X12_image_l93 (N : Nat) (sh : jm_S) : Nat → Nat → Int → Int → Int → jm_M → Option (Int × jm_M)
  | 0 => fun _ _ _ _ _ => none
  | n + 1 => fun a0 x1 x2 x3 m => f_X12_image_b93 N sh (f_X12_image_l93 N sh n) a0 x1 x2 x3 m
def f_X12_image_b20 (N : Nat) (sh : jm_S) (k20 : Nat → Int → Int → Int → jm_M → Option (Int × jm_M)) (a0 : Nat) (x1 : Int) (x2 : Int) (x3 : Int) (m : jm_M) : Option (Int × jm_M) :=
  if x3 < 4 then
    Option.bind (jrf sh m a0 12 34 32) fun v15 =>
    Option.bind (jrf sh m a0 12 34 0) fun v16 =>
    Option.bind (jra sh m v16.toNat 13 x3) fun v17 =>
    Option.bind (jwa sh m v15.toNat 13 (jw (x2 + x3)) v17) fun m18 =>
    Option.bind (jrf sh m18 a0 12 34 32) fun v19 =>
    Option.bind (jrf sh m18 a0 12 34 3) fun v20 =>
    Option.bind (jra sh m18 v20.toNat 13 x3) fun v21 =>
    Option.bind (jwa sh m18 v19.toNat 13 (jw ((jw (x2 + 4)) + x3)) v21) fun m22 =>
    Option.bind (jrf sh m22 a0 12 34 32) fun v23 =>
    Option.bind (jrf sh m22 a0 12 34 6) fun v24 =>
    Option.bind (jra sh m22 v24.toNat 13 x3) fun v25 =>
    Option.bind (jwa sh m22 v23.toNat 13 (jw ((jw (x2 + 8)) + x3)) v25) fun m26 =>
    k20 a0 x1 x2 (jw (x3 + 1)) m26
  else
  Option.bind (jrf sh m a0 12 34 32) fun v27 =>
  Option.bind (jrf sh m a0 12 34 7) fun v28 =>
  Option.bind (jwa sh m v27.toNat 13 (jw (x2 + 12)) v28) fun m29 =>
  f_X12_image_l93 N sh N a0 x1 x2 0 m29
def f_X12_image_l20 (N : Nat) (sh : jm_S) : Nat → Nat → Int → Int → Int → jm_M → Option (Int × jm_M)
  | 0 => fun _ _ _ _ _ => none
  | n + 1 => fun a0 x1 x2 x3 m => f_X12_image_b20 N sh (f_X12_image_l20 N sh n) a0 x1 x2 x3 m
def f_X12_image (N : Nat) (sh : jm_S) (a0 : Nat) (x1 : Int) (m : jm_M) : Option (Int × jm_M) :=
  Option.bind (f_X12_in x1 0 1) fun q30 =>
  if q30 = 0 then
    some ((-2), m)
  else
  f_X12_image_l20 N sh N a0 x1 (jw (160 * x1)) 0 m
def f_X12_restore_b167 (N : Nat) (sh : jm_S) (k167 : Nat → Int → jm_M → Option (Int × jm_M)) (a0 : Nat) (x3 : Int) (m : jm_M) : Option (Int × jm_M) :=
  if x3 < 4 then
    Option.bind (jck sh a0 12 34) fun u2 =>
    Option.bind (f_X12_laySizes N sh a0 x3 m) fun q3 =>
    k167 a0 (jw (x3 + 1)) q3
  else
  some (1, m)
def f_X12_restore_l167 (N : Nat) (sh : jm_S) : Nat → Nat → Int → jm_M → Option (Int × jm_M)
  | 0 => fun _ _ _ => none
  | n + 1 => fun a0 x3 m => f_X12_restore_b167 N sh (f_X12_restore_l167 N sh n) a0 x3 m
def f_X12_restore_b136 (N : Nat) (sh : jm_S) (k136 : Nat → Int → Int → jm_M → Option (Int × jm_M)) (a0 : Nat) (x2 : Int) (x3 : Int) (m : jm_M) : Option (Int × jm_M) :=
  if x3 < 120 then
    Option.bind (jrf sh m a0 12 34 4) fun v6 =>
    Option.bind (jrf sh m a0 12 34 32) fun v7 =>
    Option.bind (jra sh m v7.toNat 13 (jw ((jw (x2 + 33)) + x3))) fun v8 =>
    Option.bind (jwa sh m v6.toNat 13 x3 v8) fun m9 =>
    k136 a0 x2 (jw (x3 + 1)) m9
  else
  f_X12_restore_l167 N sh N a0 0 m
def f_X12_restore_l136 (N : Nat) (sh : jm_S) : Nat → Nat → Int → Int → jm_M → Option (Int × jm_M)
  | 0 => fun _ _ _ _ => none
  | n + 1 => fun a0 x2 x3 m => f_X12_restore_b136 N sh (f_X12_restore_l136 N sh n) a0 x2 x3 m
def f_X12_restore_b105 (N : Nat) (sh : jm_S) (k105 : Nat → Int → Int → jm_M → Option (Int × jm_M)) (a0 : Nat) (x2 : Int) (x3 : Int) (m : jm_M) : Option (Int × jm_M) :=
  if x3 < 20 then
    Option.bind (jrf sh m a0 12 34 8) fun v11 =>
    Option.bind (jrf sh m a0 12 34 32) fun v12 =>
    Option.bind (jra sh m v12.toNat 13 (jw ((jw (x2 + 13)) + x3))) fun v13 =>
    Option.bind (jwa sh m v11.toNat 13 x3 v13) fun m14 =>
    k105 a0 x2 (jw (x3 + 1)) m14
  else
  f_X12_restore_l136 N sh N a0 x2 0 m
def f_X12_restore_l105 (N : Nat) (sh : jm_S) : Nat → Nat → Int → Int → jm_M → Option (Int × jm_M)
  | 0 => fun _ _ _ _ => none
  | n + 1 => fun a0 x2 x3 m => f_X12_restore_b105 N sh (f_X12_restore_l105 N sh n) a0 x2 x3 m
def f_X12_restore_b32 (N : Nat) (sh : jm_S) (k32 : Nat → Int → Int → jm_M → Option (Int × jm_M)) (a0 : Nat) (x2 : Int) (x3 : Int) (m : jm_M) : Option (Int × jm_M) :=
  if x3 < 4 then
    Option.bind (jrf sh m a0 12 34 0) fun v16 =>
    Option.bind (jrf sh m a0 12 34 32) fun v17 =>
    Option.bind (jra sh m v17.toNat 13 (jw (x2 + x3))) fun v18 =>
    Option.bind (jwa sh m v16.toNat 13 x3 v18) fun m19 =>
    Option.bind (jrf sh m19 a0 12 34 3) fun v20 =>
    Option.bind (jrf sh m19 a0 12 34 32) fun v21 =>
    Option.bind (jra sh m19 v21.toNat 13 (jw ((jw (x2 + 4)) + x3))) fun v22 =>
    Option.bind (jwa sh m19 v20.toNat 13 x3 v22) fun m23 =>
    Option.bind (jrf sh m23 a0 12 34 6) fun v24 =>
    Option.bind (jrf sh m23 a0 12 34 32) fun v25 =>
    Option.bind (jra sh m23 v25.toNat 13 (jw ((jw (x2 + 8)) + x3))) fun v26 =>
    Option.bind (jwa sh m23 v24.toNat 13 x3 v26) fun m27 =>
    k32 a0 x2 (jw (x3 + 1)) m27
  else
  Option.bind (jrf sh m a0 12 34 32) fun v28 =>
  Option.bind (jra sh m v28.toNat 13 (jw (x2 + 12))) fun v29 =>
  Option.bind (jwf sh m a0 12 34 7 v29) fun m30 =>
  f_X12_restore_l105 N sh N a0 x2 0 m30
def f_X12_restore_l32 (N : Nat) (sh : jm_S) : Nat → Nat → Int → Int → jm_M → Option (Int × jm_M)
  | 0 => fun _ _ _ _ => none
  | n + 1 => fun a0 x2 x3 m => f_X12_restore_b32 N sh (f_X12_restore_l32 N sh n) a0 x2 x3 m
def f_X12_restore (N : Nat) (sh : jm_S) (a0 : Nat) (x1 : Int) (m : jm_M) : Option (Int × jm_M) :=
  Option.bind (f_X12_in x1 0 1) fun q31 =>
  if q31 = 0 then
    some ((-2), m)
  else
  Option.bind (jrf sh m a0 12 34 33) fun v34 =>
  Option.bind (jra sh m v34.toNat 14 x1) fun v35 =>
  if v35 = 0 then
    some ((-3), m)
  else
  f_X12_restore_l32 N sh N a0 (jw (160 * x1)) 0 m
def f_X12_told (sh : jm_S) (a0 : Nat) (x1 : Int) (m : jm_M) : Option Int :=
  Option.bind (f_X12_in x1 10 13) fun q1 =>
  if q1 = 0 then
    Option.bind (f_X12_in x1 20 23) fun q4 =>
    if q4 = 0 then
      if x1 = 0 then
        Option.bind (jrf sh m a0 12 34 1) fun v8 =>
        some v8
      else
      if x1 = 1 then
        Option.bind (jrf sh m a0 12 34 7) fun v10 =>
        some v10
      else
      Option.bind (f_X12_in x1 2 5) fun q11 =>
      if q11 = 0 then
        some (-2)
      else
      Option.bind (jrf sh m a0 12 34 0) fun v14 =>
      Option.bind (jra sh m v14.toNat 13 (jw (x1 - 2))) fun v15 =>
      some v15
    else
    Option.bind (jrf sh m a0 12 34 3) fun v16 =>
    Option.bind (jra sh m v16.toNat 13 (jw (x1 - 20))) fun v17 =>
    some v17
  else
  Option.bind (jrf sh m a0 12 34 6) fun v18 =>
  Option.bind (jra sh m v18.toNat 13 (jw (x1 - 10))) fun v19 =>
  some v19
