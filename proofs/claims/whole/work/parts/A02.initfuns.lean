def f_X0_init (Lm : Nat) (a0 : Nat) (a1 : Nat) (g : jm_G) : Option jm_G :=
  Option.bind (jgna Lm g 13 16) fun g1 =>
  Option.bind (jgr g1 a0 0 6 2 (g.1 + 1)) fun g2 =>
  Option.bind (jg2 Lm g2 30 16) fun g3 =>
  Option.bind (jgr g3 a0 0 6 3 (g2.1 + 1)) fun g4 =>
  Option.bind (jg2 Lm g4 5 16) fun g5 =>
  Option.bind (jgr g5 a0 0 6 4 (g4.1 + 1)) fun g6 =>
  Option.bind (jg2 Lm g6 5 16) fun g7 =>
  Option.bind (jgr g7 a0 0 6 5 (g6.1 + 1)) fun g8 =>
  Option.bind (jgr g8 a0 0 6 1 a1) fun g9 =>
  Option.bind (jck g9.2.1 a1 1 9) fun u10 =>
  Option.bind (f_X1_textOf g9.2.1 a1 0 g9.2.2) fun q11 =>
  Option.bind (jgr g9 a0 0 6 0 q11) fun g13 =>
  some g13
def f_X10_init_b35 (N : Nat) (Lm : Nat) (k35 : Nat → Int → jm_G → Option jm_G) (a0 : Nat) (x1 : Int) (g : jm_G) : Option jm_G :=
  if x1 < 30 then
    Option.bind (jrf g.2.1 g.2.2 a0 10 4 1) fun v2 =>
    Option.bind (jga g v2.toNat 13 x1 45) fun g3 =>
    Option.bind (jrf g3.2.1 g3.2.2 a0 10 4 2) fun v4 =>
    Option.bind (jga g3 v4.toNat 13 x1 1) fun g5 =>
    k35 a0 (jw (x1 + 1)) g5
  else
  some g
def f_X10_init_l35 (N : Nat) (Lm : Nat) : Nat → Nat → Int → jm_G → Option jm_G
  | 0 => fun _ _ _ => none
  | n + 1 => fun a0 x1 g => f_X10_init_b35 N Lm (f_X10_init_l35 N Lm n) a0 x1 g
def f_X10_init (N : Nat) (Lm : Nat) (a0 : Nat) (g : jm_G) : Option jm_G :=
  Option.bind (jgf g a0 10 4 0 1) fun g6 =>
  Option.bind (jgna Lm g6 13 30) fun g7 =>
  Option.bind (jgr g7 a0 10 4 1 (g6.1 + 1)) fun g8 =>
  Option.bind (jgna Lm g8 13 30) fun g9 =>
  Option.bind (jgr g9 a0 10 4 2 (g8.1 + 1)) fun g10 =>
  Option.bind (jgna Lm g10 13 30) fun g11 =>
  Option.bind (jgr g11 a0 10 4 3 (g10.1 + 1)) fun g12 =>
  f_X10_init_l35 N Lm N a0 0 g12
def f_X1_init (N : Nat) (Lm : Nat) (a0 : Nat) (g : jm_G) : Option jm_G :=
  Option.bind (jgna Lm g 13 4) fun g1 =>
  Option.bind (jga g1 (g.1 + 1) 13 0 2) fun g2 =>
  Option.bind (jga g2 (g.1 + 1) 13 1 2) fun g3 =>
  Option.bind (jga g3 (g.1 + 1) 13 2 10) fun g4 =>
  Option.bind (jga g4 (g.1 + 1) 13 3 0) fun g5 =>
  Option.bind (jgr g5 a0 1 9 2 (g.1 + 1)) fun g6 =>
  Option.bind (jgna Lm g6 13 4) fun g7 =>
  Option.bind (jgr g7 a0 1 9 3 (g6.1 + 1)) fun g8 =>
  Option.bind (jgna Lm g8 13 20) fun g9 =>
  Option.bind (jgr g9 a0 1 9 4 (g8.1 + 1)) fun g10 =>
  Option.bind (jgn Lm g10 10 4) fun g11 =>
  Option.bind (f_X10_init N (g11.1 + 3) (g10.1 + 1) g11) fun g12 =>
  Option.bind (jgl g12 g11 3 Lm) fun u13 =>
  Option.bind (jgr g12 a0 1 9 5 (g10.1 + 1)) fun g14 =>
  Option.bind (jgn Lm g14 10 4) fun g15 =>
  Option.bind (f_X10_init N (g15.1 + 3) (g14.1 + 1) g15) fun g16 =>
  Option.bind (jgl g16 g15 3 Lm) fun u17 =>
  Option.bind (jgr g16 a0 1 9 6 (g14.1 + 1)) fun g18 =>
  Option.bind (jgn Lm g18 10 4) fun g19 =>
  Option.bind (f_X10_init N (g19.1 + 3) (g18.1 + 1) g19) fun g20 =>
  Option.bind (jgl g20 g19 3 Lm) fun u21 =>
  Option.bind (jgr g20 a0 1 9 7 (g18.1 + 1)) fun g22 =>
  Option.bind (jgn Lm g22 10 4) fun g23 =>
  Option.bind (f_X10_init N (g23.1 + 3) (g22.1 + 1) g23) fun g24 =>
  Option.bind (jgl g24 g23 3 Lm) fun u25 =>
  Option.bind (jgr g24 a0 1 9 8 (g22.1 + 1)) fun g26 =>
  some g26
def f_X2_init (Lm : Nat) (a0 : Nat) (a1 : Nat) (a2 : Nat) (g : jm_G) : Option jm_G :=
  Option.bind (jgna Lm g 13 30) fun g1 =>
  Option.bind (jgr g1 a0 2 5 3 (g.1 + 1)) fun g2 =>
  Option.bind (jgna Lm g2 13 30) fun g3 =>
  Option.bind (jgr g3 a0 2 5 4 (g2.1 + 1)) fun g4 =>
  Option.bind (jgr g4 a0 2 5 1 a1) fun g5 =>
  Option.bind (jgr g5 a0 2 5 2 a2) fun g6 =>
  Option.bind (jck g6.2.1 a1 1 9) fun u7 =>
  Option.bind (f_X1_textOf g6.2.1 a1 0 g6.2.2) fun q8 =>
  Option.bind (jgr g6 a0 2 5 0 q8) fun g10 =>
  some g10
def f_X3_init (Lm : Nat) (a0 : Nat) (g : jm_G) : Option jm_G :=
  Option.bind (jgna Lm g 13 30) fun g1 =>
  Option.bind (jgr g1 a0 3 3 0 (g.1 + 1)) fun g2 =>
  Option.bind (jgna Lm g2 13 60) fun g3 =>
  Option.bind (jgr g3 a0 3 3 2 (g2.1 + 1)) fun g4 =>
  some g4
def f_X4_init (Lm : Nat) (a0 : Nat) (g : jm_G) : Option jm_G :=
  Option.bind (jgna Lm g 13 625) fun g1 =>
  Option.bind (jgr g1 a0 4 4 1 (g.1 + 1)) fun g2 =>
  Option.bind (jgna Lm g2 13 625) fun g3 =>
  Option.bind (jgr g3 a0 4 4 2 (g2.1 + 1)) fun g4 =>
  Option.bind (jgna Lm g4 13 625) fun g5 =>
  Option.bind (jgr g5 a0 4 4 3 (g4.1 + 1)) fun g6 =>
  some g6
def f_X5_init (Lm : Nat) (a0 : Nat) (a1 : Nat) (a2 : Nat) (g : jm_G) : Option jm_G :=
  Option.bind (jgna Lm g 13 20) fun g1 =>
  Option.bind (jgr g1 a0 5 10 6 (g.1 + 1)) fun g2 =>
  Option.bind (jgna Lm g2 13 625) fun g3 =>
  Option.bind (jgr g3 a0 5 10 7 (g2.1 + 1)) fun g4 =>
  Option.bind (jg2 Lm g4 5 625) fun g5 =>
  Option.bind (jgr g5 a0 5 10 8 (g4.1 + 1)) fun g6 =>
  Option.bind (jg2 Lm g6 20 625) fun g7 =>
  Option.bind (jgr g7 a0 5 10 9 (g6.1 + 1)) fun g8 =>
  Option.bind (jgr g8 a0 5 10 4 a1) fun g9 =>
  Option.bind (jgr g9 a0 5 10 5 a2) fun g10 =>
  Option.bind (jck g10.2.1 a1 1 9) fun u11 =>
  Option.bind (f_X1_textOf g10.2.1 a1 0 g10.2.2) fun q12 =>
  Option.bind (jgr g10 a0 5 10 3 q12) fun g14 =>
  some g14
def f_X6_init (Lm : Nat) (a0 : Nat) (a1 : Nat) (a2 : Nat) (g : jm_G) : Option jm_G :=
  Option.bind (jgr g a0 6 8 6 a1) fun g1 =>
  Option.bind (jgr g1 a0 6 8 7 a2) fun g2 =>
  Option.bind (jck g2.2.1 a1 1 9) fun u3 =>
  Option.bind (f_X1_textOf g2.2.1 a1 0 g2.2.2) fun q4 =>
  Option.bind (jgr g2 a0 6 8 5 q4) fun g6 =>
  some g6
def f_X7_init (Lm : Nat) (a0 : Nat) (g : jm_G) : Option jm_G :=
  Option.bind (jgna Lm g 13 8) fun g1 =>
  Option.bind (jgr g1 a0 7 10 3 (g.1 + 1)) fun g2 =>
  Option.bind (jgna Lm g2 13 8) fun g3 =>
  Option.bind (jgr g3 a0 7 10 4 (g2.1 + 1)) fun g4 =>
  Option.bind (jgna Lm g4 13 4) fun g5 =>
  Option.bind (jgr g5 a0 7 10 5 (g4.1 + 1)) fun g6 =>
  Option.bind (jgna Lm g6 13 4) fun g7 =>
  Option.bind (jgr g7 a0 7 10 6 (g6.1 + 1)) fun g8 =>
  Option.bind (jgna Lm g8 13 4) fun g9 =>
  Option.bind (jgr g9 a0 7 10 7 (g8.1 + 1)) fun g10 =>
  Option.bind (jgna Lm g10 13 4) fun g11 =>
  Option.bind (jgr g11 a0 7 10 8 (g10.1 + 1)) fun g12 =>
  Option.bind (jg2 Lm g12 8 65) fun g13 =>
  Option.bind (jgr g13 a0 7 10 9 (g12.1 + 1)) fun g14 =>
  some g14
def f_X8_init_b55 (N : Nat) (Lm : Nat) (k55 : Nat → Int → jm_G → Option jm_G) (a0 : Nat) (x3 : Int) (g : jm_G) : Option jm_G :=
  Option.bind (jrf g.2.1 g.2.2 a0 8 10 9) fun v1 =>
  Option.bind (jlen g.2.1 v1.toNat) fun v2 =>
  if x3 < v2 then
    Option.bind (jrf g.2.1 g.2.2 a0 8 10 9) fun v4 =>
    Option.bind (jgn Lm g 4 4) fun g5 =>
    Option.bind (f_X4_init (g5.1 + 3) (g.1 + 1) g5) fun g6 =>
    Option.bind (jgl g6 g5 3 Lm) fun u7 =>
    Option.bind (jck g6.2.1 (g.1 + 1) 4 4) fun u9 =>
    Option.bind (jga g6 v4.toNat 15 x3 (g.1 + 1 : Nat)) fun g8 =>
    k55 a0 (jw (x3 + 1)) g8
  else
  some g
def f_X8_init_l55 (N : Nat) (Lm : Nat) : Nat → Nat → Int → jm_G → Option jm_G
  | 0 => fun _ _ _ => none
  | n + 1 => fun a0 x3 g => f_X8_init_b55 N Lm (f_X8_init_l55 N Lm n) a0 x3 g
def f_X8_init (N : Nat) (Lm : Nat) (a0 : Nat) (a1 : Nat) (a2 : Nat) (g : jm_G) : Option jm_G :=
  Option.bind (jgn Lm g 4 4) fun g10 =>
  Option.bind (f_X4_init (g10.1 + 3) (g.1 + 1) g10) fun g11 =>
  Option.bind (jgl g11 g10 3 Lm) fun u12 =>
  Option.bind (jgr g11 a0 8 10 7 (g.1 + 1)) fun g13 =>
  Option.bind (jgn Lm g13 4 4) fun g14 =>
  Option.bind (f_X4_init (g14.1 + 3) (g13.1 + 1) g14) fun g15 =>
  Option.bind (jgl g15 g14 3 Lm) fun u16 =>
  Option.bind (jgr g15 a0 8 10 8 (g13.1 + 1)) fun g17 =>
  Option.bind (jgna Lm g17 15 5) fun g18 =>
  Option.bind (jgr g18 a0 8 10 9 (g17.1 + 1)) fun g19 =>
  Option.bind (jgr g19 a0 8 10 5 a1) fun g20 =>
  Option.bind (jgr g20 a0 8 10 6 a2) fun g21 =>
  Option.bind (jck g21.2.1 a1 1 9) fun u22 =>
  Option.bind (f_X1_textOf g21.2.1 a1 0 g21.2.2) fun q23 =>
  Option.bind (jgr g21 a0 8 10 4 q23) fun g25 =>
  f_X8_init_l55 N Lm N a0 0 g25
def f_X9_init (Lm : Nat) (a0 : Nat) (a1 : Nat) (a2 : Nat) (g : jm_G) : Option jm_G :=
  Option.bind (jgna Lm g 13 4) fun g1 =>
  Option.bind (jgr g1 a0 9 4 3 (g.1 + 1)) fun g2 =>
  Option.bind (jgr g2 a0 9 4 1 a1) fun g3 =>
  Option.bind (jgr g3 a0 9 4 2 a2) fun g4 =>
  some g4
def f_X11_init (N : Nat) (Lm : Nat) (a0 : Nat) (g : jm_G) : Option jm_G :=
  Option.bind (jgn Lm g 1 9) fun g1 =>
  Option.bind (f_X1_init N (g1.1 + 19) (g.1 + 1) g1) fun g2 =>
  Option.bind (jgl g2 g1 19 Lm) fun u3 =>
  Option.bind (jgr g2 a0 11 10 0 (g.1 + 1)) fun g4 =>
  Option.bind (jgn Lm g4 1 9) fun g5 =>
  Option.bind (f_X1_init N (g5.1 + 19) (g4.1 + 1) g5) fun g6 =>
  Option.bind (jgl g6 g5 19 Lm) fun u7 =>
  Option.bind (jgr g6 a0 11 10 1 (g4.1 + 1)) fun g8 =>
  Option.bind (jgn Lm g8 1 9) fun g9 =>
  Option.bind (f_X1_init N (g9.1 + 19) (g8.1 + 1) g9) fun g10 =>
  Option.bind (jgl g10 g9 19 Lm) fun u11 =>
  Option.bind (jgr g10 a0 11 10 2 (g8.1 + 1)) fun g12 =>
  Option.bind (jgn Lm g12 3 3) fun g13 =>
  Option.bind (f_X3_init (g13.1 + 2) (g12.1 + 1) g13) fun g14 =>
  Option.bind (jgl g14 g13 2 Lm) fun u15 =>
  Option.bind (jgr g14 a0 11 10 3 (g12.1 + 1)) fun g16 =>
  Option.bind (jgn Lm g16 7 10) fun g17 =>
  Option.bind (f_X7_init (g17.1 + 15) (g16.1 + 1) g17) fun g18 =>
  Option.bind (jgl g18 g17 15 Lm) fun u19 =>
  Option.bind (jgn Lm g18 6 8) fun g20 =>
  Option.bind (jrf g20.2.1 g20.2.2 a0 11 10 0) fun v21 =>
  Option.bind (f_X6_init (g20.1 + 0) (g18.1 + 1) v21.toNat (g16.1 + 1) g20) fun g22 =>
  Option.bind (jgl g22 g20 0 Lm) fun u23 =>
  Option.bind (jgr g22 a0 11 10 4 (g18.1 + 1)) fun g24 =>
  Option.bind (jgn Lm g24 8 10) fun g25 =>
  Option.bind (jrf g25.2.1 g25.2.2 a0 11 10 0) fun v26 =>
  Option.bind (f_X8_init N (g25.1 + 29) (g24.1 + 1) v26.toNat (g16.1 + 1) g25) fun g27 =>
  Option.bind (jgl g27 g25 29 Lm) fun u28 =>
  Option.bind (jgr g27 a0 11 10 5 (g24.1 + 1)) fun g29 =>
  Option.bind (jgn Lm g29 5 10) fun g30 =>
  Option.bind (jrf g30.2.1 g30.2.2 a0 11 10 0) fun v31 =>
  Option.bind (f_X5_init (g30.1 + 29) (g29.1 + 1) v31.toNat (g16.1 + 1) g30) fun g32 =>
  Option.bind (jgl g32 g30 29 Lm) fun u33 =>
  Option.bind (jgr g32 a0 11 10 6 (g29.1 + 1)) fun g34 =>
  Option.bind (jgn Lm g34 0 6) fun g35 =>
  Option.bind (jrf g35.2.1 g35.2.2 a0 11 10 0) fun v36 =>
  Option.bind (f_X0_init (g35.1 + 44) (g34.1 + 1) v36.toNat g35) fun g37 =>
  Option.bind (jgl g37 g35 44 Lm) fun u38 =>
  Option.bind (jgr g37 a0 11 10 7 (g34.1 + 1)) fun g39 =>
  Option.bind (jgn Lm g39 2 5) fun g40 =>
  Option.bind (jrf g40.2.1 g40.2.2 a0 11 10 0) fun v41 =>
  Option.bind (jrf g40.2.1 g40.2.2 a0 11 10 7) fun v42 =>
  Option.bind (f_X2_init (g40.1 + 2) (g39.1 + 1) v41.toNat v42.toNat g40) fun g43 =>
  Option.bind (jgl g43 g40 2 Lm) fun u44 =>
  Option.bind (jgr g43 a0 11 10 8 (g39.1 + 1)) fun g45 =>
  Option.bind (jgn Lm g45 9 4) fun g46 =>
  Option.bind (jrf g46.2.1 g46.2.2 a0 11 10 0) fun v47 =>
  Option.bind (jrf g46.2.1 g46.2.2 a0 11 10 5) fun v48 =>
  Option.bind (f_X9_init (g46.1 + 1) (g45.1 + 1) v47.toNat v48.toNat g46) fun g49 =>
  Option.bind (jgl g49 g46 1 Lm) fun u50 =>
  Option.bind (jgr g49 a0 11 10 9 (g45.1 + 1)) fun g51 =>
  some g51
def f_X12_init_b212 (N : Nat) (Lm : Nat) (k212 : Nat → Int → jm_G → Option jm_G) (a0 : Nat) (x1 : Int) (g : jm_G) : Option jm_G :=
  if x1 < 4 then
    Option.bind (jrf g.2.1 g.2.2 a0 12 34 3) fun v2 =>
    Option.bind (jga g v2.toNat 13 x1 1) fun g3 =>
    Option.bind (jrf g3.2.1 g3.2.2 a0 12 34 4) fun v4 =>
    Option.bind (jga g3 v4.toNat 13 (jw (30 * x1)) 45) fun g5 =>
    Option.bind (jrf g5.2.1 g5.2.2 a0 12 34 5) fun v6 =>
    Option.bind (jga g5 v6.toNat 13 (jw (30 * x1)) 1) fun g7 =>
    k212 a0 (jw (x1 + 1)) g7
  else
  some g
def f_X12_init_l212 (N : Nat) (Lm : Nat) : Nat → Nat → Int → jm_G → Option jm_G
  | 0 => fun _ _ _ => none
  | n + 1 => fun a0 x1 g => f_X12_init_b212 N Lm (f_X12_init_l212 N Lm n) a0 x1 g
def f_X12_init (N : Nat) (Lm : Nat) (a0 : Nat) (g : jm_G) : Option jm_G :=
  Option.bind (jgna Lm g 13 4) fun g8 =>
  Option.bind (jgr g8 a0 12 34 0 (g.1 + 1)) fun g9 =>
  Option.bind (jgna Lm g9 13 30) fun g10 =>
  Option.bind (jgr g10 a0 12 34 2 (g9.1 + 1)) fun g11 =>
  Option.bind (jgna Lm g11 13 4) fun g12 =>
  Option.bind (jgr g12 a0 12 34 3 (g11.1 + 1)) fun g13 =>
  Option.bind (jgna Lm g13 13 120) fun g14 =>
  Option.bind (jgr g14 a0 12 34 4 (g13.1 + 1)) fun g15 =>
  Option.bind (jgna Lm g15 13 120) fun g16 =>
  Option.bind (jgr g16 a0 12 34 5 (g15.1 + 1)) fun g17 =>
  Option.bind (jgna Lm g17 13 4) fun g18 =>
  Option.bind (jgr g18 a0 12 34 6 (g17.1 + 1)) fun g19 =>
  Option.bind (jgna Lm g19 13 20) fun g20 =>
  Option.bind (jgr g20 a0 12 34 8 (g19.1 + 1)) fun g21 =>
  Option.bind (jgna Lm g21 13 5) fun g22 =>
  Option.bind (jgr g22 a0 12 34 9 (g21.1 + 1)) fun g23 =>
  Option.bind (jgna Lm g23 13 625) fun g24 =>
  Option.bind (jgr g24 a0 12 34 11 (g23.1 + 1)) fun g25 =>
  Option.bind (jgna Lm g25 13 6) fun g26 =>
  Option.bind (jgr g26 a0 12 34 13 (g25.1 + 1)) fun g27 =>
  Option.bind (jgna Lm g27 13 6) fun g28 =>
  Option.bind (jgr g28 a0 12 34 14 (g27.1 + 1)) fun g29 =>
  Option.bind (jgna Lm g29 13 6) fun g30 =>
  Option.bind (jgr g30 a0 12 34 15 (g29.1 + 1)) fun g31 =>
  Option.bind (jgna Lm g31 13 3750) fun g32 =>
  Option.bind (jgr g32 a0 12 34 16 (g31.1 + 1)) fun g33 =>
  Option.bind (jgna Lm g33 13 3750) fun g34 =>
  Option.bind (jgr g34 a0 12 34 17 (g33.1 + 1)) fun g35 =>
  Option.bind (jgna Lm g35 13 21) fun g36 =>
  Option.bind (jgr g36 a0 12 34 21 (g35.1 + 1)) fun g37 =>
  Option.bind (jgna Lm g37 13 625) fun g38 =>
  Option.bind (jgr g38 a0 12 34 24 (g37.1 + 1)) fun g39 =>
  Option.bind (jgna Lm g39 13 16) fun g40 =>
  Option.bind (jgr g40 a0 12 34 27 (g39.1 + 1)) fun g41 =>
  Option.bind (jgna Lm g41 13 96) fun g42 =>
  Option.bind (jgr g42 a0 12 34 28 (g41.1 + 1)) fun g43 =>
  Option.bind (jgna Lm g43 13 480) fun g44 =>
  Option.bind (jgr g44 a0 12 34 29 (g43.1 + 1)) fun g45 =>
  Option.bind (jgna Lm g45 13 30) fun g46 =>
  Option.bind (jgr g46 a0 12 34 30 (g45.1 + 1)) fun g47 =>
  Option.bind (jgna Lm g47 13 4) fun g48 =>
  Option.bind (jgr g48 a0 12 34 31 (g47.1 + 1)) fun g49 =>
  Option.bind (jgna Lm g49 13 320) fun g50 =>
  Option.bind (jgr g50 a0 12 34 32 (g49.1 + 1)) fun g51 =>
  Option.bind (jgna Lm g51 14 2) fun g52 =>
  Option.bind (jgr g52 a0 12 34 33 (g51.1 + 1)) fun g53 =>
  Option.bind (jrf g53.2.1 g53.2.2 a0 12 34 0) fun v54 =>
  Option.bind (jga g53 v54.toNat 13 0 2) fun g55 =>
  Option.bind (jrf g55.2.1 g55.2.2 a0 12 34 0) fun v56 =>
  Option.bind (jga g55 v56.toNat 13 1 2) fun g57 =>
  Option.bind (jrf g57.2.1 g57.2.2 a0 12 34 0) fun v58 =>
  Option.bind (jga g57 v58.toNat 13 2 10) fun g59 =>
  f_X12_init_l212 N Lm N a0 0 g59
