/-! THE LAW: what must hold at its loop and at each of its calls, by program. -/
def pu_h260_18 (X : px_X) (x3 : Int32) (D : pu_D) (P : Int32 → pu_D → Prop) : Prop := pu_W X 260 (882, 12719) px_c260_18 [.ref 1300, .ref 0, .ref 85, .int x3] [] D (pu_qi P)
def pu_h260_1738 (X : px_X)  (D : pu_D) (P : Int32 → pu_D → Prop) : Prop := ∀ z0 : Value, z0.category = 1 → ∀ z1 : Value, z1.category = 1 → ∀ z2 : Value, z2.category = 1 → ∀ z3 : Value, z3.category = 1 → pu_W X 260 (882, 12719) px_c260_1738 [z0, z1, z2, z3] [] D (pu_qi P)
def pu_h260_220 (X : px_X) (x3 : Int32) (D : pu_D) (P : Int32 → pu_D → Prop) : Prop := pu_W X 260 (882, 12719) px_c260_220 [.ref 1300, .ref 0, .ref 85, .int x3] [] D (pu_qi P)
def pu_h260_263 (X : px_X) (x3 : Int32) (D : pu_D) (P : Int32 → pu_D → Prop) : Prop := pu_W X 260 (882, 12719) px_c260_263 [.ref 1300, .ref 0, .ref 85, .int x3] [] D (pu_qi P)
def pu_h260_336 (X : px_X) (x3 : Int32) (D : pu_D) (P : Int32 → pu_D → Prop) : Prop := pu_W X 260 (882, 12719) px_c260_336 [.ref 1300, .ref 0, .ref 85, .int x3] [] D (pu_qi P)
def pu_h260_399 (X : px_X) (x3 : Int32) (D : pu_D) (P : Int32 → pu_D → Prop) : Prop := pu_W X 260 (882, 12719) px_c260_399 [.ref 1300, .ref 0, .ref 85, .int x3] [] D (pu_qi P)
def pu_h260_433 (X : px_X) (x3 : Int32) (D : pu_D) (P : Int32 → pu_D → Prop) : Prop := pu_W X 260 (882, 12719) px_c260_433 [.ref 1300, .ref 0, .ref 85, .int x3] [] D (pu_qi P)
def pu_h260_476 (X : px_X) (x3 : Int32) (D : pu_D) (P : Int32 → pu_D → Prop) : Prop := pu_W X 260 (882, 12719) px_c260_476 [.ref 1300, .ref 0, .ref 85, .int x3] [] D (pu_qi P)
def pu_h260_499 (X : px_X) (x3 : Int32) (D : pu_D) (P : Int32 → pu_D → Prop) : Prop := pu_W X 260 (882, 12719) px_c260_499 [.ref 1300, .ref 0, .ref 85, .int x3] [] D (pu_qi P)
def pu_h260_532 (X : px_X) (x3 : Int32) (D : pu_D) (P : Int32 → pu_D → Prop) : Prop := pu_W X 260 (882, 12719) px_c260_532 [.ref 1300, .ref 0, .ref 85, .int x3] [] D (pu_qi P)
def pu_h260_585 (X : px_X) (x3 : Int32) (D : pu_D) (P : Int32 → pu_D → Prop) : Prop := pu_W X 260 (882, 12719) px_c260_585 [.ref 1300, .ref 0, .ref 85, .int x3] [] D (pu_qi P)
def pu_h260_618 (X : px_X) (x3 : Int32) (D : pu_D) (P : Int32 → pu_D → Prop) : Prop := pu_W X 260 (882, 12719) px_c260_618 [.ref 1300, .ref 0, .ref 85, .int x3] [] D (pu_qi P)
def pu_h260_651 (X : px_X) (x3 : Int32) (D : pu_D) (P : Int32 → pu_D → Prop) : Prop := pu_W X 260 (882, 12719) px_c260_651 [.ref 1300, .ref 0, .ref 85, .int x3] [] D (pu_qi P)
def pu_h260_684 (X : px_X) (x3 : Int32) (D : pu_D) (P : Int32 → pu_D → Prop) : Prop := pu_W X 260 (882, 12719) px_c260_684 [.ref 1300, .ref 0, .ref 85, .int x3] [] D (pu_qi P)
def pu_h260_727 (X : px_X) (x3 : Int32) (D : pu_D) (P : Int32 → pu_D → Prop) : Prop := pu_W X 260 (882, 12719) px_c260_727 [.ref 1300, .ref 0, .ref 85, .int x3] [] D (pu_qi P)
def pu_h260_760 (X : px_X) (x3 : Int32) (D : pu_D) (P : Int32 → pu_D → Prop) : Prop := pu_W X 260 (882, 12719) px_c260_760 [.ref 1300, .ref 0, .ref 85, .int x3] [] D (pu_qi P)
def pu_h260_783 (X : px_X) (x3 : Int32) (D : pu_D) (P : Int32 → pu_D → Prop) : Prop := pu_W X 260 (882, 12719) px_c260_783 [.ref 1300, .ref 0, .ref 85, .int x3] [] D (pu_qi P)
def pu_h260_796 (X : px_X) (x3 : Int32) (D : pu_D) (P : Int32 → pu_D → Prop) : Prop := pu_W X 260 (882, 12719) px_c260_796 [.ref 1300, .ref 0, .ref 85, .int x3] [] D (pu_qi P)
def pu_h260_829 (X : px_X) (x3 : Int32) (D : pu_D) (P : Int32 → pu_D → Prop) : Prop := pu_W X 260 (882, 12719) px_c260_829 [.ref 1300, .ref 0, .ref 85, .int x3] [] D (pu_qi P)
def pu_h260_862 (X : px_X) (x3 : Int32) (D : pu_D) (P : Int32 → pu_D → Prop) : Prop := pu_W X 260 (882, 12719) px_c260_862 [.ref 1300, .ref 0, .ref 85, .int x3] [] D (pu_qi P)
def pu_h260_895 (X : px_X) (x3 : Int32) (D : pu_D) (P : Int32 → pu_D → Prop) : Prop := pu_W X 260 (882, 12719) px_c260_895 [.ref 1300, .ref 0, .ref 85, .int x3] [] D (pu_qi P)
def pu_h260_944 (X : px_X) (x3 : Int32) (D : pu_D) (P : Int32 → pu_D → Prop) : Prop := pu_W X 260 (882, 12719) px_c260_944 [.ref 1300, .ref 0, .ref 85, .int x3] [] D (pu_qi P)
def pu_h260_997 (X : px_X) (x3 : Int32) (D : pu_D) (P : Int32 → pu_D → Prop) : Prop := pu_W X 260 (882, 12719) px_c260_997 [.ref 1300, .ref 0, .ref 85, .int x3] [] D (pu_qi P)
def pu_h260_1050 (X : px_X) (x3 : Int32) (D : pu_D) (P : Int32 → pu_D → Prop) : Prop := pu_W X 260 (882, 12719) px_c260_1050 [.ref 1300, .ref 0, .ref 85, .int x3] [] D (pu_qi P)
def pu_h260_1093 (X : px_X) (x3 : Int32) (D : pu_D) (P : Int32 → pu_D → Prop) : Prop := pu_W X 260 (882, 12719) px_c260_1093 [.ref 1300, .ref 0, .ref 85, .int x3] [] D (pu_qi P)
def pu_h260_1136 (X : px_X) (x3 : Int32) (D : pu_D) (P : Int32 → pu_D → Prop) : Prop := pu_W X 260 (882, 12719) px_c260_1136 [.ref 1300, .ref 0, .ref 85, .int x3] [] D (pu_qi P)
def pu_h260_1169 (X : px_X) (x3 : Int32) (D : pu_D) (P : Int32 → pu_D → Prop) : Prop := pu_W X 260 (882, 12719) px_c260_1169 [.ref 1300, .ref 0, .ref 85, .int x3] [] D (pu_qi P)
def pu_h260_1202 (X : px_X) (x3 : Int32) (D : pu_D) (P : Int32 → pu_D → Prop) : Prop := pu_W X 260 (882, 12719) px_c260_1202 [.ref 1300, .ref 0, .ref 85, .int x3] [] D (pu_qi P)
def pu_h260_1235 (X : px_X) (x3 : Int32) (D : pu_D) (P : Int32 → pu_D → Prop) : Prop := pu_W X 260 (882, 12719) px_c260_1235 [.ref 1300, .ref 0, .ref 85, .int x3] [] D (pu_qi P)
def pu_h260_1268 (X : px_X) (x3 : Int32) (D : pu_D) (P : Int32 → pu_D → Prop) : Prop := pu_W X 260 (882, 12719) px_c260_1268 [.ref 1300, .ref 0, .ref 85, .int x3] [] D (pu_qi P)
def pu_h260_1301 (X : px_X) (x3 : Int32) (D : pu_D) (P : Int32 → pu_D → Prop) : Prop := pu_W X 260 (882, 12719) px_c260_1301 [.ref 1300, .ref 0, .ref 85, .int x3] [] D (pu_qi P)
def pu_h260_1324 (X : px_X) (x3 : Int32) (D : pu_D) (P : Int32 → pu_D → Prop) : Prop := pu_W X 260 (882, 12719) px_c260_1324 [.ref 1300, .ref 0, .ref 85, .int x3] [] D (pu_qi P)
def pu_h260_1347 (X : px_X) (x3 : Int32) (D : pu_D) (P : Int32 → pu_D → Prop) : Prop := pu_W X 260 (882, 12719) px_c260_1347 [.ref 1300, .ref 0, .ref 85, .int x3] [] D (pu_qi P)
def pu_h260_1360 (X : px_X) (x3 : Int32) (D : pu_D) (P : Int32 → pu_D → Prop) : Prop := pu_W X 260 (882, 12719) px_c260_1360 [.ref 1300, .ref 0, .ref 85, .int x3] [] D (pu_qi P)
def pu_h260_1403 (X : px_X) (x3 : Int32) (D : pu_D) (P : Int32 → pu_D → Prop) : Prop := pu_W X 260 (882, 12719) px_c260_1403 [.ref 1300, .ref 0, .ref 85, .int x3] [] D (pu_qi P)
def pu_h260_1436 (X : px_X) (x3 : Int32) (D : pu_D) (P : Int32 → pu_D → Prop) : Prop := pu_W X 260 (882, 12719) px_c260_1436 [.ref 1300, .ref 0, .ref 85, .int x3] [] D (pu_qi P)
def pu_h260_1459 (X : px_X) (x3 : Int32) (D : pu_D) (P : Int32 → pu_D → Prop) : Prop := pu_W X 260 (882, 12719) px_c260_1459 [.ref 1300, .ref 0, .ref 85, .int x3] [] D (pu_qi P)
def pu_h260_1508 (X : px_X) (x3 : Int32) (D : pu_D) (P : Int32 → pu_D → Prop) : Prop := pu_W X 260 (882, 12719) px_c260_1508 [.ref 1300, .ref 0, .ref 85, .int x3] [] D (pu_qi P)
def pu_h260_1541 (X : px_X) (x3 : Int32) (D : pu_D) (P : Int32 → pu_D → Prop) : Prop := pu_W X 260 (882, 12719) px_c260_1541 [.ref 1300, .ref 0, .ref 85, .int x3] [] D (pu_qi P)
def pu_h260_1574 (X : px_X) (x3 : Int32) (D : pu_D) (P : Int32 → pu_D → Prop) : Prop := pu_W X 260 (882, 12719) px_c260_1574 [.ref 1300, .ref 0, .ref 85, .int x3] [] D (pu_qi P)
def pu_h260_1617 (X : px_X) (x3 : Int32) (D : pu_D) (P : Int32 → pu_D → Prop) : Prop := pu_W X 260 (882, 12719) px_c260_1617 [.ref 1300, .ref 0, .ref 85, .int x3] [] D (pu_qi P)
def pu_h260_1660 (X : px_X) (x3 : Int32) (D : pu_D) (P : Int32 → pu_D → Prop) : Prop := pu_W X 260 (882, 12719) px_c260_1660 [.ref 1300, .ref 0, .ref 85, .int x3] [] D (pu_qi P)
def pu_h260_1683 (X : px_X) (x3 : Int32) (D : pu_D) (P : Int32 → pu_D → Prop) : Prop := pu_W X 260 (882, 12719) px_c260_1683 [.ref 1300, .ref 0, .ref 85, .int x3] [] D (pu_qi P)
def pu_h260_1696 (X : px_X) (x3 : Int32) (D : pu_D) (P : Int32 → pu_D → Prop) : Prop := pu_W X 260 (882, 12719) px_c260_1696 [.ref 1300, .ref 0, .ref 85, .int x3] [] D (pu_qi P)
def pu_h260_1709 (X : px_X) (x3 : Int32) (D : pu_D) (P : Int32 → pu_D → Prop) : Prop := pu_W X 260 (882, 12719) px_c260_1709 [.ref 1300, .ref 0, .ref 85, .int x3] [] D (pu_qi P)
def pu_h260_1732 (X : px_X) (x3 : Int32) (D : pu_D) (P : Int32 → pu_D → Prop) : Prop := pu_W X 260 (882, 12719) px_c260_1732 [.ref 1300, .ref 0, .ref 85, .int x3] [] D (pu_qi P)
theorem pu_u260_18 {X : px_X} {x3 : Int32} {D : pu_D} {P : Int32 → pu_D → Prop}
    (H : if ((Int32.ofNat X.1) - 6) < x3 then (pu_h260_1738 X D P) else ((px_in x3 X.1 = true) ∧ if ((X.2 x3.toNatClampNeg) &&& 63) = 0 then (pu_h260_220 X x3 D P) else if ((X.2 x3.toNatClampNeg) &&& 63) = 1 then (pu_h260_263 X x3 D P) else if ((X.2 x3.toNatClampNeg) &&& 63) = 2 then (pu_h260_336 X x3 D P) else if ((X.2 x3.toNatClampNeg) &&& 63) = 3 then (pu_h260_399 X x3 D P) else if ((X.2 x3.toNatClampNeg) &&& 63) = 4 then (pu_h260_433 X x3 D P) else if ((X.2 x3.toNatClampNeg) &&& 63) = 5 then (pu_h260_476 X x3 D P) else if ((X.2 x3.toNatClampNeg) &&& 63) = 6 then (pu_h260_499 X x3 D P) else if ((X.2 x3.toNatClampNeg) &&& 63) = 7 then (pu_h260_532 X x3 D P) else if ((X.2 x3.toNatClampNeg) &&& 63) = 8 then (pu_h260_585 X x3 D P) else if ((X.2 x3.toNatClampNeg) &&& 63) = 9 then (pu_h260_618 X x3 D P) else if ((X.2 x3.toNatClampNeg) &&& 63) = 10 then (pu_h260_651 X x3 D P) else if ((X.2 x3.toNatClampNeg) &&& 63) = 11 then (pu_h260_684 X x3 D P) else if ((X.2 x3.toNatClampNeg) &&& 63) = 12 then (pu_h260_727 X x3 D P) else if ((X.2 x3.toNatClampNeg) &&& 63) = 13 then (pu_h260_760 X x3 D P) else if ((X.2 x3.toNatClampNeg) &&& 63) = 14 then (pu_h260_783 X x3 D P) else if ((X.2 x3.toNatClampNeg) &&& 63) = 15 then (pu_h260_796 X x3 D P) else if ((X.2 x3.toNatClampNeg) &&& 63) = 16 then (pu_h260_829 X x3 D P) else if ((X.2 x3.toNatClampNeg) &&& 63) = 17 then (pu_h260_862 X x3 D P) else if ((X.2 x3.toNatClampNeg) &&& 63) = 18 then (pu_h260_895 X x3 D P) else if ((X.2 x3.toNatClampNeg) &&& 63) = 19 then (pu_h260_944 X x3 D P) else if ((X.2 x3.toNatClampNeg) &&& 63) = 20 then (pu_h260_997 X x3 D P) else if ((X.2 x3.toNatClampNeg) &&& 63) = 21 then (pu_h260_1050 X x3 D P) else if ((X.2 x3.toNatClampNeg) &&& 63) = 22 then (pu_h260_1093 X x3 D P) else if ((X.2 x3.toNatClampNeg) &&& 63) = 23 then (pu_h260_1136 X x3 D P) else if ((X.2 x3.toNatClampNeg) &&& 63) = 24 then (pu_h260_1169 X x3 D P) else if ((X.2 x3.toNatClampNeg) &&& 63) = 25 then (pu_h260_1202 X x3 D P) else if ((X.2 x3.toNatClampNeg) &&& 63) = 26 then (pu_h260_1235 X x3 D P) else if ((X.2 x3.toNatClampNeg) &&& 63) = 27 then (pu_h260_1268 X x3 D P) else if ((X.2 x3.toNatClampNeg) &&& 63) = 28 then (pu_h260_1301 X x3 D P) else if ((X.2 x3.toNatClampNeg) &&& 63) = 29 then (pu_h260_1324 X x3 D P) else if ((X.2 x3.toNatClampNeg) &&& 63) = 30 then (pu_h260_1347 X x3 D P) else if ((X.2 x3.toNatClampNeg) &&& 63) = 31 then (pu_h260_1360 X x3 D P) else if ((X.2 x3.toNatClampNeg) &&& 63) = 32 then (pu_h260_1403 X x3 D P) else if ((X.2 x3.toNatClampNeg) &&& 63) = 33 then (pu_h260_1436 X x3 D P) else if ((X.2 x3.toNatClampNeg) &&& 63) = 34 then (pu_h260_1459 X x3 D P) else if ((X.2 x3.toNatClampNeg) &&& 63) = 35 then (pu_h260_1508 X x3 D P) else if ((X.2 x3.toNatClampNeg) &&& 63) = 36 then (pu_h260_1541 X x3 D P) else if ((X.2 x3.toNatClampNeg) &&& 63) = 37 then (pu_h260_1574 X x3 D P) else if ((X.2 x3.toNatClampNeg) &&& 63) = 38 then (pu_h260_1617 X x3 D P) else if ((X.2 x3.toNatClampNeg) &&& 63) = 39 then (pu_h260_1660 X x3 D P) else if ((X.2 x3.toNatClampNeg) &&& 63) = 40 then (pu_h260_1683 X x3 D P) else if ((X.2 x3.toNatClampNeg) &&& 63) = 41 then (pu_h260_1696 X x3 D P) else if ((X.2 x3.toNatClampNeg) &&& 63) = 42 then (pu_h260_1709 X x3 D P) else (pu_h260_1732 X x3 D P))) :
    pu_h260_18 X x3 D P := by
  refine pu_iload_n rfl ?_
  refine pu_aload_n rfl ?_
  refine pu_alenX ?_
  refine pu_bipush ?_
  refine pu_isub ?_
  refine pu_gt_ pu_t260_1738 (fun h1 => ?_) (fun h1 => ?_)
  · replace H := pu_t h1 H
    exact H _ rfl _ rfl _ rfl _ rfl
  · replace H := pu_f h1 H
    refine pu_aload_n rfl ?_
    refine pu_iload_n rfl ?_
    refine pu_ialX H.1 ?_
    replace H := H.2
    refine pu_bipush ?_
    refine pu_iand ?_
    by_cases h2 : ((X.2 x3.toNatClampNeg) &&& 63) = 0
    · replace H := pu_t h2 H
      refine pu_tswC 0 (187) h2 (by decide +kernel) pu_t260_220 ?_
      exact H 
    replace H := pu_f h2 H
    by_cases h3 : ((X.2 x3.toNatClampNeg) &&& 63) = 1
    · replace H := pu_t h3 H
      refine pu_tswC 1 (230) h3 (by decide +kernel) pu_t260_263 ?_
      exact H 
    replace H := pu_f h3 H
    by_cases h4 : ((X.2 x3.toNatClampNeg) &&& 63) = 2
    · replace H := pu_t h4 H
      refine pu_tswC 2 (303) h4 (by decide +kernel) pu_t260_336 ?_
      exact H 
    replace H := pu_f h4 H
    by_cases h5 : ((X.2 x3.toNatClampNeg) &&& 63) = 3
    · replace H := pu_t h5 H
      refine pu_tswC 3 (366) h5 (by decide +kernel) pu_t260_399 ?_
      exact H 
    replace H := pu_f h5 H
    by_cases h6 : ((X.2 x3.toNatClampNeg) &&& 63) = 4
    · replace H := pu_t h6 H
      refine pu_tswC 4 (400) h6 (by decide +kernel) pu_t260_433 ?_
      exact H 
    replace H := pu_f h6 H
    by_cases h7 : ((X.2 x3.toNatClampNeg) &&& 63) = 5
    · replace H := pu_t h7 H
      refine pu_tswC 5 (443) h7 (by decide +kernel) pu_t260_476 ?_
      exact H 
    replace H := pu_f h7 H
    by_cases h8 : ((X.2 x3.toNatClampNeg) &&& 63) = 6
    · replace H := pu_t h8 H
      refine pu_tswC 6 (466) h8 (by decide +kernel) pu_t260_499 ?_
      exact H 
    replace H := pu_f h8 H
    by_cases h9 : ((X.2 x3.toNatClampNeg) &&& 63) = 7
    · replace H := pu_t h9 H
      refine pu_tswC 7 (499) h9 (by decide +kernel) pu_t260_532 ?_
      exact H 
    replace H := pu_f h9 H
    by_cases h10 : ((X.2 x3.toNatClampNeg) &&& 63) = 8
    · replace H := pu_t h10 H
      refine pu_tswC 8 (552) h10 (by decide +kernel) pu_t260_585 ?_
      exact H 
    replace H := pu_f h10 H
    by_cases h11 : ((X.2 x3.toNatClampNeg) &&& 63) = 9
    · replace H := pu_t h11 H
      refine pu_tswC 9 (585) h11 (by decide +kernel) pu_t260_618 ?_
      exact H 
    replace H := pu_f h11 H
    by_cases h12 : ((X.2 x3.toNatClampNeg) &&& 63) = 10
    · replace H := pu_t h12 H
      refine pu_tswC 10 (618) h12 (by decide +kernel) pu_t260_651 ?_
      exact H 
    replace H := pu_f h12 H
    by_cases h13 : ((X.2 x3.toNatClampNeg) &&& 63) = 11
    · replace H := pu_t h13 H
      refine pu_tswC 11 (651) h13 (by decide +kernel) pu_t260_684 ?_
      exact H 
    replace H := pu_f h13 H
    by_cases h14 : ((X.2 x3.toNatClampNeg) &&& 63) = 12
    · replace H := pu_t h14 H
      refine pu_tswC 12 (694) h14 (by decide +kernel) pu_t260_727 ?_
      exact H 
    replace H := pu_f h14 H
    by_cases h15 : ((X.2 x3.toNatClampNeg) &&& 63) = 13
    · replace H := pu_t h15 H
      refine pu_tswC 13 (727) h15 (by decide +kernel) pu_t260_760 ?_
      exact H 
    replace H := pu_f h15 H
    by_cases h16 : ((X.2 x3.toNatClampNeg) &&& 63) = 14
    · replace H := pu_t h16 H
      refine pu_tswC 14 (750) h16 (by decide +kernel) pu_t260_783 ?_
      exact H 
    replace H := pu_f h16 H
    by_cases h17 : ((X.2 x3.toNatClampNeg) &&& 63) = 15
    · replace H := pu_t h17 H
      refine pu_tswC 15 (763) h17 (by decide +kernel) pu_t260_796 ?_
      exact H 
    replace H := pu_f h17 H
    by_cases h18 : ((X.2 x3.toNatClampNeg) &&& 63) = 16
    · replace H := pu_t h18 H
      refine pu_tswC 16 (796) h18 (by decide +kernel) pu_t260_829 ?_
      exact H 
    replace H := pu_f h18 H
    by_cases h19 : ((X.2 x3.toNatClampNeg) &&& 63) = 17
    · replace H := pu_t h19 H
      refine pu_tswC 17 (829) h19 (by decide +kernel) pu_t260_862 ?_
      exact H 
    replace H := pu_f h19 H
    by_cases h20 : ((X.2 x3.toNatClampNeg) &&& 63) = 18
    · replace H := pu_t h20 H
      refine pu_tswC 18 (862) h20 (by decide +kernel) pu_t260_895 ?_
      exact H 
    replace H := pu_f h20 H
    by_cases h21 : ((X.2 x3.toNatClampNeg) &&& 63) = 19
    · replace H := pu_t h21 H
      refine pu_tswC 19 (911) h21 (by decide +kernel) pu_t260_944 ?_
      exact H 
    replace H := pu_f h21 H
    by_cases h22 : ((X.2 x3.toNatClampNeg) &&& 63) = 20
    · replace H := pu_t h22 H
      refine pu_tswC 20 (964) h22 (by decide +kernel) pu_t260_997 ?_
      exact H 
    replace H := pu_f h22 H
    by_cases h23 : ((X.2 x3.toNatClampNeg) &&& 63) = 21
    · replace H := pu_t h23 H
      refine pu_tswC 21 (1017) h23 (by decide +kernel) pu_t260_1050 ?_
      exact H 
    replace H := pu_f h23 H
    by_cases h24 : ((X.2 x3.toNatClampNeg) &&& 63) = 22
    · replace H := pu_t h24 H
      refine pu_tswC 22 (1060) h24 (by decide +kernel) pu_t260_1093 ?_
      exact H 
    replace H := pu_f h24 H
    by_cases h25 : ((X.2 x3.toNatClampNeg) &&& 63) = 23
    · replace H := pu_t h25 H
      refine pu_tswC 23 (1103) h25 (by decide +kernel) pu_t260_1136 ?_
      exact H 
    replace H := pu_f h25 H
    by_cases h26 : ((X.2 x3.toNatClampNeg) &&& 63) = 24
    · replace H := pu_t h26 H
      refine pu_tswC 24 (1136) h26 (by decide +kernel) pu_t260_1169 ?_
      exact H 
    replace H := pu_f h26 H
    by_cases h27 : ((X.2 x3.toNatClampNeg) &&& 63) = 25
    · replace H := pu_t h27 H
      refine pu_tswC 25 (1169) h27 (by decide +kernel) pu_t260_1202 ?_
      exact H 
    replace H := pu_f h27 H
    by_cases h28 : ((X.2 x3.toNatClampNeg) &&& 63) = 26
    · replace H := pu_t h28 H
      refine pu_tswC 26 (1202) h28 (by decide +kernel) pu_t260_1235 ?_
      exact H 
    replace H := pu_f h28 H
    by_cases h29 : ((X.2 x3.toNatClampNeg) &&& 63) = 27
    · replace H := pu_t h29 H
      refine pu_tswC 27 (1235) h29 (by decide +kernel) pu_t260_1268 ?_
      exact H 
    replace H := pu_f h29 H
    by_cases h30 : ((X.2 x3.toNatClampNeg) &&& 63) = 28
    · replace H := pu_t h30 H
      refine pu_tswC 28 (1268) h30 (by decide +kernel) pu_t260_1301 ?_
      exact H 
    replace H := pu_f h30 H
    by_cases h31 : ((X.2 x3.toNatClampNeg) &&& 63) = 29
    · replace H := pu_t h31 H
      refine pu_tswC 29 (1291) h31 (by decide +kernel) pu_t260_1324 ?_
      exact H 
    replace H := pu_f h31 H
    by_cases h32 : ((X.2 x3.toNatClampNeg) &&& 63) = 30
    · replace H := pu_t h32 H
      refine pu_tswC 30 (1314) h32 (by decide +kernel) pu_t260_1347 ?_
      exact H 
    replace H := pu_f h32 H
    by_cases h33 : ((X.2 x3.toNatClampNeg) &&& 63) = 31
    · replace H := pu_t h33 H
      refine pu_tswC 31 (1327) h33 (by decide +kernel) pu_t260_1360 ?_
      exact H 
    replace H := pu_f h33 H
    by_cases h34 : ((X.2 x3.toNatClampNeg) &&& 63) = 32
    · replace H := pu_t h34 H
      refine pu_tswC 32 (1370) h34 (by decide +kernel) pu_t260_1403 ?_
      exact H 
    replace H := pu_f h34 H
    by_cases h35 : ((X.2 x3.toNatClampNeg) &&& 63) = 33
    · replace H := pu_t h35 H
      refine pu_tswC 33 (1403) h35 (by decide +kernel) pu_t260_1436 ?_
      exact H 
    replace H := pu_f h35 H
    by_cases h36 : ((X.2 x3.toNatClampNeg) &&& 63) = 34
    · replace H := pu_t h36 H
      refine pu_tswC 34 (1426) h36 (by decide +kernel) pu_t260_1459 ?_
      exact H 
    replace H := pu_f h36 H
    by_cases h37 : ((X.2 x3.toNatClampNeg) &&& 63) = 35
    · replace H := pu_t h37 H
      refine pu_tswC 35 (1475) h37 (by decide +kernel) pu_t260_1508 ?_
      exact H 
    replace H := pu_f h37 H
    by_cases h38 : ((X.2 x3.toNatClampNeg) &&& 63) = 36
    · replace H := pu_t h38 H
      refine pu_tswC 36 (1508) h38 (by decide +kernel) pu_t260_1541 ?_
      exact H 
    replace H := pu_f h38 H
    by_cases h39 : ((X.2 x3.toNatClampNeg) &&& 63) = 37
    · replace H := pu_t h39 H
      refine pu_tswC 37 (1541) h39 (by decide +kernel) pu_t260_1574 ?_
      exact H 
    replace H := pu_f h39 H
    by_cases h40 : ((X.2 x3.toNatClampNeg) &&& 63) = 38
    · replace H := pu_t h40 H
      refine pu_tswC 38 (1584) h40 (by decide +kernel) pu_t260_1617 ?_
      exact H 
    replace H := pu_f h40 H
    by_cases h41 : ((X.2 x3.toNatClampNeg) &&& 63) = 39
    · replace H := pu_t h41 H
      refine pu_tswC 39 (1627) h41 (by decide +kernel) pu_t260_1660 ?_
      exact H 
    replace H := pu_f h41 H
    by_cases h42 : ((X.2 x3.toNatClampNeg) &&& 63) = 40
    · replace H := pu_t h42 H
      refine pu_tswC 40 (1650) h42 (by decide +kernel) pu_t260_1683 ?_
      exact H 
    replace H := pu_f h42 H
    by_cases h43 : ((X.2 x3.toNatClampNeg) &&& 63) = 41
    · replace H := pu_t h43 H
      refine pu_tswC 41 (1663) h43 (by decide +kernel) pu_t260_1696 ?_
      exact H 
    replace H := pu_f h43 H
    by_cases h44 : ((X.2 x3.toNatClampNeg) &&& 63) = 42
    · replace H := pu_t h44 H
      refine pu_tswC 42 (1676) h44 (by decide +kernel) pu_t260_1709 ?_
      exact H 
    replace H := pu_f h44 H
    refine pu_tswD [0, 1, 2, 3, 4, 5, 6, 7, 8, 9, 10, 11, 12, 13, 14, 15, 16, 17, 18, 19, 20, 21, 22, 23, 24, 25, 26, 27, 28, 29, 30, 31, 32, 33, 34, 35, 36, 37, 38, 39, 40, 41, 42] (by simp only [List.mem_cons, List.not_mem_nil, or_false, not_or]; exact ⟨h2, h3, h4, h5, h6, h7, h8, h9, h10, h11, h12, h13, h14, h15, h16, h17, h18, h19, h20, h21, h22, h23, h24, h25, h26, h27, h28, h29, h30, h31, h32, h33, h34, h35, h36, h37, h38, h39, h40, h41, h42, h43, h44⟩) (by decide +kernel) pu_t260_1732 ?_
    exact H 
theorem pu_u260_1738 {X : px_X}  {D : pu_D} {P : Int32 → pu_D → Prop}
    (H : P 1 D) :
    pu_h260_1738 X  D P := by
  intro z0 hz0 z1 hz1 z2 hz2 z3 hz3
  refine pu_iconst ?_
  exact pu_iretZ pu_rt260 (by decide) H
theorem pu_u260_220 {X : px_X} {x3 : Int32} {D : pu_D} {P : Int32 → pu_D → Prop}
    (H : (px_in (x3 + 1) X.1 = true) ∧ (px_in (x3 + 2) X.1 = true) ∧ (px_in (x3 + 3) X.1 = true) ∧ pu_I X 87 [.ref 0, .int (X.2 (x3 + 1).toNatClampNeg), .int (X.2 (x3 + 2).toNatClampNeg), .int (X.2 (x3 + 3).toNatClampNeg)] D (fun y45 D46 => (px_in (x3 + 1) X.1 = true) ∧ (px_in (x3 + 2) X.1 = true) ∧ (px_in (x3 + 3) X.1 = true) ∧ pu_I X 157 [.ref 85, .int (X.2 (x3 + 1).toNatClampNeg), .int (X.2 (x3 + 2).toNatClampNeg), .int (X.2 (x3 + 3).toNatClampNeg)] D46 (fun y47 D48 => if y45 = y47 then (pu_h260_1732 X x3 D48 P) else (P 0 D48)))) :
    pu_h260_220 X x3 D P := by
  refine pu_aload_n rfl ?_
  refine pu_aload_n rfl ?_
  refine pu_iload_n rfl ?_
  refine pu_iconst ?_
  refine pu_iadd ?_
  refine pu_ialX H.1 ?_
  replace H := H.2
  refine pu_aload_n rfl ?_
  refine pu_iload_n rfl ?_
  refine pu_iconst ?_
  refine pu_iadd ?_
  refine pu_ialX H.1 ?_
  replace H := H.2
  refine pu_aload_n rfl ?_
  refine pu_iload_n rfl ?_
  refine pu_iconst ?_
  refine pu_iadd ?_
  refine pu_ialX H.1 ?_
  replace H := H.2
  refine pu_cv (vs := [.int (X.2 (x3 + 1).toNatClampNeg), .int (X.2 (x3 + 2).toNatClampNeg), .int (X.2 (x3 + 3).toNatClampNeg)]) (rest := []) pu_g87 ⟨pu_c0, by decide⟩ rfl rfl rfl rfl rfl (pu_CI (pu_I_imp H (fun y45 D46 H => ?_)))
  refine pu_aload_n rfl ?_
  refine pu_aload_n rfl ?_
  refine pu_iload_n rfl ?_
  refine pu_iconst ?_
  refine pu_iadd ?_
  refine pu_ialX H.1 ?_
  replace H := H.2
  refine pu_aload_n rfl ?_
  refine pu_iload_n rfl ?_
  refine pu_iconst ?_
  refine pu_iadd ?_
  refine pu_ialX H.1 ?_
  replace H := H.2
  refine pu_aload_n rfl ?_
  refine pu_iload_n rfl ?_
  refine pu_iconst ?_
  refine pu_iadd ?_
  refine pu_ialX H.1 ?_
  replace H := H.2
  refine pu_cv (vs := [.int (X.2 (x3 + 1).toNatClampNeg), .int (X.2 (x3 + 2).toNatClampNeg), .int (X.2 (x3 + 3).toNatClampNeg)]) (rest := [.int y45]) pu_g157 ⟨pu_c85, by decide⟩ rfl rfl rfl rfl rfl (pu_CI (pu_I_imp H (fun y47 D48 H => ?_)))
  refine pu_eq_ pu_t260_1732 (fun h49 => ?_) (fun h49 => ?_)
  · replace H := pu_t h49 H
    exact H 
  · replace H := pu_f h49 H
    refine pu_iconst ?_
    exact pu_iretZ pu_rt260 (by decide) H
theorem pu_u260_263 {X : px_X} {x3 : Int32} {D : pu_D} {P : Int32 → pu_D → Prop}
    (H : (px_in (x3 + 1) X.1 = true) ∧ (px_in (x3 + 2) X.1 = true) ∧ (px_in (x3 + 3) X.1 = true) ∧ (px_in (x3 + 4) X.1 = true) ∧ pu_I X 88 [.ref 0, .int (X.2 (x3 + 1).toNatClampNeg), .int (X.2 (x3 + 2).toNatClampNeg), .long (((Int32.toInt64 (X.2 (x3 + 3).toNatClampNeg)) <<< (Int32.toInt64 32 &&& 63)) ||| ((Int32.toInt64 (X.2 (x3 + 4).toNatClampNeg)) &&& 4294967295))] D (fun y50 D51 => (px_in (x3 + 1) X.1 = true) ∧ (px_in (x3 + 2) X.1 = true) ∧ (px_in (x3 + 3) X.1 = true) ∧ (px_in (x3 + 4) X.1 = true) ∧ pu_I X 158 [.ref 85, .int (X.2 (x3 + 1).toNatClampNeg), .int (X.2 (x3 + 2).toNatClampNeg), .long (((Int32.toInt64 (X.2 (x3 + 3).toNatClampNeg)) <<< (Int32.toInt64 32 &&& 63)) ||| ((Int32.toInt64 (X.2 (x3 + 4).toNatClampNeg)) &&& 4294967295))] D51 (fun y52 D53 => if y50 = y52 then (pu_h260_1732 X x3 D53 P) else (P 0 D53)))) :
    pu_h260_263 X x3 D P := by
  refine pu_aload_n rfl ?_
  refine pu_aload_n rfl ?_
  refine pu_iload_n rfl ?_
  refine pu_iconst ?_
  refine pu_iadd ?_
  refine pu_ialX H.1 ?_
  replace H := H.2
  refine pu_aload_n rfl ?_
  refine pu_iload_n rfl ?_
  refine pu_iconst ?_
  refine pu_iadd ?_
  refine pu_ialX H.1 ?_
  replace H := H.2
  refine pu_aload_n rfl ?_
  refine pu_iload_n rfl ?_
  refine pu_iconst ?_
  refine pu_iadd ?_
  refine pu_ialX H.1 ?_
  replace H := H.2
  refine pu_i2l ?_
  refine pu_bipush ?_
  refine pu_lshl ?_
  refine pu_aload_n rfl ?_
  refine pu_iload_n rfl ?_
  refine pu_iconst ?_
  refine pu_iadd ?_
  refine pu_ialX H.1 ?_
  replace H := H.2
  refine pu_i2l ?_
  refine pu_ldc2_w ?_
  refine pu_land ?_
  refine pu_lor ?_
  refine pu_cv (vs := [.int (X.2 (x3 + 1).toNatClampNeg), .int (X.2 (x3 + 2).toNatClampNeg), .long (((Int32.toInt64 (X.2 (x3 + 3).toNatClampNeg)) <<< (Int32.toInt64 32 &&& 63)) ||| ((Int32.toInt64 (X.2 (x3 + 4).toNatClampNeg)) &&& 4294967295))]) (rest := []) pu_g88 ⟨pu_c0, by decide⟩ rfl rfl rfl rfl rfl (pu_CI (pu_I_imp H (fun y50 D51 H => ?_)))
  refine pu_aload_n rfl ?_
  refine pu_aload_n rfl ?_
  refine pu_iload_n rfl ?_
  refine pu_iconst ?_
  refine pu_iadd ?_
  refine pu_ialX H.1 ?_
  replace H := H.2
  refine pu_aload_n rfl ?_
  refine pu_iload_n rfl ?_
  refine pu_iconst ?_
  refine pu_iadd ?_
  refine pu_ialX H.1 ?_
  replace H := H.2
  refine pu_aload_n rfl ?_
  refine pu_iload_n rfl ?_
  refine pu_iconst ?_
  refine pu_iadd ?_
  refine pu_ialX H.1 ?_
  replace H := H.2
  refine pu_i2l ?_
  refine pu_bipush ?_
  refine pu_lshl ?_
  refine pu_aload_n rfl ?_
  refine pu_iload_n rfl ?_
  refine pu_iconst ?_
  refine pu_iadd ?_
  refine pu_ialX H.1 ?_
  replace H := H.2
  refine pu_i2l ?_
  refine pu_ldc2_w ?_
  refine pu_land ?_
  refine pu_lor ?_
  refine pu_cv (vs := [.int (X.2 (x3 + 1).toNatClampNeg), .int (X.2 (x3 + 2).toNatClampNeg), .long (((Int32.toInt64 (X.2 (x3 + 3).toNatClampNeg)) <<< (Int32.toInt64 32 &&& 63)) ||| ((Int32.toInt64 (X.2 (x3 + 4).toNatClampNeg)) &&& 4294967295))]) (rest := [.int y50]) pu_g158 ⟨pu_c85, by decide⟩ rfl rfl rfl rfl rfl (pu_CI (pu_I_imp H (fun y52 D53 H => ?_)))
  refine pu_eq_ pu_t260_1732 (fun h54 => ?_) (fun h54 => ?_)
  · replace H := pu_t h54 H
    exact H 
  · replace H := pu_f h54 H
    refine pu_iconst ?_
    exact pu_iretZ pu_rt260 (by decide) H
theorem pu_u260_336 {X : px_X} {x3 : Int32} {D : pu_D} {P : Int32 → pu_D → Prop}
    (H : (px_in (x3 + 1) X.1 = true) ∧ (px_in (x3 + 2) X.1 = true) ∧ (px_in (x3 + 3) X.1 = true) ∧ (px_in (x3 + 4) X.1 = true) ∧ (px_in (x3 + 5) X.1 = true) ∧ pu_I X 89 [.ref 0, .int (X.2 (x3 + 1).toNatClampNeg), .int (X.2 (x3 + 2).toNatClampNeg), .int (X.2 (x3 + 3).toNatClampNeg), .int (X.2 (x3 + 4).toNatClampNeg), .int (X.2 (x3 + 5).toNatClampNeg)] D (fun y55 D56 => (px_in (x3 + 1) X.1 = true) ∧ (px_in (x3 + 2) X.1 = true) ∧ (px_in (x3 + 3) X.1 = true) ∧ (px_in (x3 + 4) X.1 = true) ∧ (px_in (x3 + 5) X.1 = true) ∧ pu_I X 159 [.ref 85, .int (X.2 (x3 + 1).toNatClampNeg), .int (X.2 (x3 + 2).toNatClampNeg), .int (X.2 (x3 + 3).toNatClampNeg), .int (X.2 (x3 + 4).toNatClampNeg), .int (X.2 (x3 + 5).toNatClampNeg)] D56 (fun y57 D58 => if y55 = y57 then (pu_h260_1732 X x3 D58 P) else (P 0 D58)))) :
    pu_h260_336 X x3 D P := by
  refine pu_aload_n rfl ?_
  refine pu_aload_n rfl ?_
  refine pu_iload_n rfl ?_
  refine pu_iconst ?_
  refine pu_iadd ?_
  refine pu_ialX H.1 ?_
  replace H := H.2
  refine pu_aload_n rfl ?_
  refine pu_iload_n rfl ?_
  refine pu_iconst ?_
  refine pu_iadd ?_
  refine pu_ialX H.1 ?_
  replace H := H.2
  refine pu_aload_n rfl ?_
  refine pu_iload_n rfl ?_
  refine pu_iconst ?_
  refine pu_iadd ?_
  refine pu_ialX H.1 ?_
  replace H := H.2
  refine pu_aload_n rfl ?_
  refine pu_iload_n rfl ?_
  refine pu_iconst ?_
  refine pu_iadd ?_
  refine pu_ialX H.1 ?_
  replace H := H.2
  refine pu_aload_n rfl ?_
  refine pu_iload_n rfl ?_
  refine pu_iconst ?_
  refine pu_iadd ?_
  refine pu_ialX H.1 ?_
  replace H := H.2
  refine pu_cv (vs := [.int (X.2 (x3 + 1).toNatClampNeg), .int (X.2 (x3 + 2).toNatClampNeg), .int (X.2 (x3 + 3).toNatClampNeg), .int (X.2 (x3 + 4).toNatClampNeg), .int (X.2 (x3 + 5).toNatClampNeg)]) (rest := []) pu_g89 ⟨pu_c0, by decide⟩ rfl rfl rfl rfl rfl (pu_CI (pu_I_imp H (fun y55 D56 H => ?_)))
  refine pu_aload_n rfl ?_
  refine pu_aload_n rfl ?_
  refine pu_iload_n rfl ?_
  refine pu_iconst ?_
  refine pu_iadd ?_
  refine pu_ialX H.1 ?_
  replace H := H.2
  refine pu_aload_n rfl ?_
  refine pu_iload_n rfl ?_
  refine pu_iconst ?_
  refine pu_iadd ?_
  refine pu_ialX H.1 ?_
  replace H := H.2
  refine pu_aload_n rfl ?_
  refine pu_iload_n rfl ?_
  refine pu_iconst ?_
  refine pu_iadd ?_
  refine pu_ialX H.1 ?_
  replace H := H.2
  refine pu_aload_n rfl ?_
  refine pu_iload_n rfl ?_
  refine pu_iconst ?_
  refine pu_iadd ?_
  refine pu_ialX H.1 ?_
  replace H := H.2
  refine pu_aload_n rfl ?_
  refine pu_iload_n rfl ?_
  refine pu_iconst ?_
  refine pu_iadd ?_
  refine pu_ialX H.1 ?_
  replace H := H.2
  refine pu_cv (vs := [.int (X.2 (x3 + 1).toNatClampNeg), .int (X.2 (x3 + 2).toNatClampNeg), .int (X.2 (x3 + 3).toNatClampNeg), .int (X.2 (x3 + 4).toNatClampNeg), .int (X.2 (x3 + 5).toNatClampNeg)]) (rest := [.int y55]) pu_g159 ⟨pu_c85, by decide⟩ rfl rfl rfl rfl rfl (pu_CI (pu_I_imp H (fun y57 D58 H => ?_)))
  refine pu_eq_ pu_t260_1732 (fun h59 => ?_) (fun h59 => ?_)
  · replace H := pu_t h59 H
    exact H 
  · replace H := pu_f h59 H
    refine pu_iconst ?_
    exact pu_iretZ pu_rt260 (by decide) H
theorem pu_u260_399 {X : px_X} {x3 : Int32} {D : pu_D} {P : Int32 → pu_D → Prop}
    (H : (px_in (x3 + 1) X.1 = true) ∧ (px_in (x3 + 2) X.1 = true) ∧ pu_J X 90 [.ref 0, .int (X.2 (x3 + 1).toNatClampNeg), .int (X.2 (x3 + 2).toNatClampNeg)] D (fun y60 D61 => (px_in (x3 + 1) X.1 = true) ∧ (px_in (x3 + 2) X.1 = true) ∧ pu_J X 160 [.ref 85, .int (X.2 (x3 + 1).toNatClampNeg), .int (X.2 (x3 + 2).toNatClampNeg)] D61 (fun y62 D63 => if (lg_cmp y60 y62) = 0 then (pu_h260_1732 X x3 D63 P) else (P 0 D63)))) :
    pu_h260_399 X x3 D P := by
  refine pu_aload_n rfl ?_
  refine pu_aload_n rfl ?_
  refine pu_iload_n rfl ?_
  refine pu_iconst ?_
  refine pu_iadd ?_
  refine pu_ialX H.1 ?_
  replace H := H.2
  refine pu_aload_n rfl ?_
  refine pu_iload_n rfl ?_
  refine pu_iconst ?_
  refine pu_iadd ?_
  refine pu_ialX H.1 ?_
  replace H := H.2
  refine pu_cv (vs := [.int (X.2 (x3 + 1).toNatClampNeg), .int (X.2 (x3 + 2).toNatClampNeg)]) (rest := []) pu_g90 ⟨pu_c0, by decide⟩ rfl rfl rfl rfl rfl (pu_CJ (pu_J_imp H (fun y60 D61 H => ?_)))
  refine pu_aload_n rfl ?_
  refine pu_aload_n rfl ?_
  refine pu_iload_n rfl ?_
  refine pu_iconst ?_
  refine pu_iadd ?_
  refine pu_ialX H.1 ?_
  replace H := H.2
  refine pu_aload_n rfl ?_
  refine pu_iload_n rfl ?_
  refine pu_iconst ?_
  refine pu_iadd ?_
  refine pu_ialX H.1 ?_
  replace H := H.2
  refine pu_cv (vs := [.int (X.2 (x3 + 1).toNatClampNeg), .int (X.2 (x3 + 2).toNatClampNeg)]) (rest := [.long y60]) pu_g160 ⟨pu_c85, by decide⟩ rfl rfl rfl rfl rfl (pu_CJ (pu_J_imp H (fun y62 D63 H => ?_)))
  refine pu_lcmp ?_
  refine pu_eq0 pu_t260_1732 (fun h64 => ?_) (fun h64 => ?_)
  · replace H := pu_t h64 H
    exact H 
  · replace H := pu_f h64 H
    refine pu_iconst ?_
    exact pu_iretZ pu_rt260 (by decide) H
theorem pu_u260_433 {X : px_X} {x3 : Int32} {D : pu_D} {P : Int32 → pu_D → Prop}
    (H : (px_in (x3 + 1) X.1 = true) ∧ (px_in (x3 + 2) X.1 = true) ∧ (px_in (x3 + 3) X.1 = true) ∧ pu_I X 91 [.ref 0, .int (X.2 (x3 + 1).toNatClampNeg), .int (X.2 (x3 + 2).toNatClampNeg), .int (X.2 (x3 + 3).toNatClampNeg)] D (fun y65 D66 => (px_in (x3 + 1) X.1 = true) ∧ (px_in (x3 + 2) X.1 = true) ∧ (px_in (x3 + 3) X.1 = true) ∧ pu_I X 161 [.ref 85, .int (X.2 (x3 + 1).toNatClampNeg), .int (X.2 (x3 + 2).toNatClampNeg), .int (X.2 (x3 + 3).toNatClampNeg)] D66 (fun y67 D68 => if y65 = y67 then (pu_h260_1732 X x3 D68 P) else (P 0 D68)))) :
    pu_h260_433 X x3 D P := by
  refine pu_aload_n rfl ?_
  refine pu_aload_n rfl ?_
  refine pu_iload_n rfl ?_
  refine pu_iconst ?_
  refine pu_iadd ?_
  refine pu_ialX H.1 ?_
  replace H := H.2
  refine pu_aload_n rfl ?_
  refine pu_iload_n rfl ?_
  refine pu_iconst ?_
  refine pu_iadd ?_
  refine pu_ialX H.1 ?_
  replace H := H.2
  refine pu_aload_n rfl ?_
  refine pu_iload_n rfl ?_
  refine pu_iconst ?_
  refine pu_iadd ?_
  refine pu_ialX H.1 ?_
  replace H := H.2
  refine pu_cv (vs := [.int (X.2 (x3 + 1).toNatClampNeg), .int (X.2 (x3 + 2).toNatClampNeg), .int (X.2 (x3 + 3).toNatClampNeg)]) (rest := []) pu_g91 ⟨pu_c0, by decide⟩ rfl rfl rfl rfl rfl (pu_CI (pu_I_imp H (fun y65 D66 H => ?_)))
  refine pu_aload_n rfl ?_
  refine pu_aload_n rfl ?_
  refine pu_iload_n rfl ?_
  refine pu_iconst ?_
  refine pu_iadd ?_
  refine pu_ialX H.1 ?_
  replace H := H.2
  refine pu_aload_n rfl ?_
  refine pu_iload_n rfl ?_
  refine pu_iconst ?_
  refine pu_iadd ?_
  refine pu_ialX H.1 ?_
  replace H := H.2
  refine pu_aload_n rfl ?_
  refine pu_iload_n rfl ?_
  refine pu_iconst ?_
  refine pu_iadd ?_
  refine pu_ialX H.1 ?_
  replace H := H.2
  refine pu_cv (vs := [.int (X.2 (x3 + 1).toNatClampNeg), .int (X.2 (x3 + 2).toNatClampNeg), .int (X.2 (x3 + 3).toNatClampNeg)]) (rest := [.int y65]) pu_g161 ⟨pu_c85, by decide⟩ rfl rfl rfl rfl rfl (pu_CI (pu_I_imp H (fun y67 D68 H => ?_)))
  refine pu_eq_ pu_t260_1732 (fun h69 => ?_) (fun h69 => ?_)
  · replace H := pu_t h69 H
    exact H 
  · replace H := pu_f h69 H
    refine pu_iconst ?_
    exact pu_iretZ pu_rt260 (by decide) H
theorem pu_u260_476 {X : px_X} {x3 : Int32} {D : pu_D} {P : Int32 → pu_D → Prop}
    (H : (px_in (x3 + 1) X.1 = true) ∧ pu_I X 92 [.ref 0, .int (X.2 (x3 + 1).toNatClampNeg)] D (fun y70 D71 => (px_in (x3 + 1) X.1 = true) ∧ pu_I X 162 [.ref 85, .int (X.2 (x3 + 1).toNatClampNeg)] D71 (fun y72 D73 => if y70 = y72 then (pu_h260_1732 X x3 D73 P) else (P 0 D73)))) :
    pu_h260_476 X x3 D P := by
  refine pu_aload_n rfl ?_
  refine pu_aload_n rfl ?_
  refine pu_iload_n rfl ?_
  refine pu_iconst ?_
  refine pu_iadd ?_
  refine pu_ialX H.1 ?_
  replace H := H.2
  refine pu_cv (vs := [.int (X.2 (x3 + 1).toNatClampNeg)]) (rest := []) pu_g92 ⟨pu_c0, by decide⟩ rfl rfl rfl rfl rfl (pu_CI (pu_I_imp H (fun y70 D71 H => ?_)))
  refine pu_aload_n rfl ?_
  refine pu_aload_n rfl ?_
  refine pu_iload_n rfl ?_
  refine pu_iconst ?_
  refine pu_iadd ?_
  refine pu_ialX H.1 ?_
  replace H := H.2
  refine pu_cv (vs := [.int (X.2 (x3 + 1).toNatClampNeg)]) (rest := [.int y70]) pu_g162 ⟨pu_c85, by decide⟩ rfl rfl rfl rfl rfl (pu_CI (pu_I_imp H (fun y72 D73 H => ?_)))
  refine pu_eq_ pu_t260_1732 (fun h74 => ?_) (fun h74 => ?_)
  · replace H := pu_t h74 H
    exact H 
  · replace H := pu_f h74 H
    refine pu_iconst ?_
    exact pu_iretZ pu_rt260 (by decide) H
theorem pu_u260_499 {X : px_X} {x3 : Int32} {D : pu_D} {P : Int32 → pu_D → Prop}
    (H : (px_in (x3 + 1) X.1 = true) ∧ (px_in (x3 + 2) X.1 = true) ∧ pu_I X 93 [.ref 0, .int (X.2 (x3 + 1).toNatClampNeg), .int (X.2 (x3 + 2).toNatClampNeg)] D (fun y75 D76 => (px_in (x3 + 1) X.1 = true) ∧ (px_in (x3 + 2) X.1 = true) ∧ pu_I X 164 [.ref 85, .int (X.2 (x3 + 1).toNatClampNeg), .int (X.2 (x3 + 2).toNatClampNeg)] D76 (fun y77 D78 => if y75 = y77 then (pu_h260_1732 X x3 D78 P) else (P 0 D78)))) :
    pu_h260_499 X x3 D P := by
  refine pu_aload_n rfl ?_
  refine pu_aload_n rfl ?_
  refine pu_iload_n rfl ?_
  refine pu_iconst ?_
  refine pu_iadd ?_
  refine pu_ialX H.1 ?_
  replace H := H.2
  refine pu_aload_n rfl ?_
  refine pu_iload_n rfl ?_
  refine pu_iconst ?_
  refine pu_iadd ?_
  refine pu_ialX H.1 ?_
  replace H := H.2
  refine pu_cv (vs := [.int (X.2 (x3 + 1).toNatClampNeg), .int (X.2 (x3 + 2).toNatClampNeg)]) (rest := []) pu_g93 ⟨pu_c0, by decide⟩ rfl rfl rfl rfl rfl (pu_CI (pu_I_imp H (fun y75 D76 H => ?_)))
  refine pu_aload_n rfl ?_
  refine pu_aload_n rfl ?_
  refine pu_iload_n rfl ?_
  refine pu_iconst ?_
  refine pu_iadd ?_
  refine pu_ialX H.1 ?_
  replace H := H.2
  refine pu_aload_n rfl ?_
  refine pu_iload_n rfl ?_
  refine pu_iconst ?_
  refine pu_iadd ?_
  refine pu_ialX H.1 ?_
  replace H := H.2
  refine pu_cv (vs := [.int (X.2 (x3 + 1).toNatClampNeg), .int (X.2 (x3 + 2).toNatClampNeg)]) (rest := [.int y75]) pu_g164 ⟨pu_c85, by decide⟩ rfl rfl rfl rfl rfl (pu_CI (pu_I_imp H (fun y77 D78 H => ?_)))
  refine pu_eq_ pu_t260_1732 (fun h79 => ?_) (fun h79 => ?_)
  · replace H := pu_t h79 H
    exact H 
  · replace H := pu_f h79 H
    refine pu_iconst ?_
    exact pu_iretZ pu_rt260 (by decide) H
theorem pu_u260_532 {X : px_X} {x3 : Int32} {D : pu_D} {P : Int32 → pu_D → Prop}
    (H : (px_in (x3 + 1) X.1 = true) ∧ (px_in (x3 + 2) X.1 = true) ∧ (px_in (x3 + 3) X.1 = true) ∧ (px_in (x3 + 4) X.1 = true) ∧ pu_I X 94 [.ref 0, .int (X.2 (x3 + 1).toNatClampNeg), .int (X.2 (x3 + 2).toNatClampNeg), .int (X.2 (x3 + 3).toNatClampNeg), .int (X.2 (x3 + 4).toNatClampNeg)] D (fun y80 D81 => (px_in (x3 + 1) X.1 = true) ∧ (px_in (x3 + 2) X.1 = true) ∧ (px_in (x3 + 3) X.1 = true) ∧ (px_in (x3 + 4) X.1 = true) ∧ pu_I X 170 [.ref 85, .int (X.2 (x3 + 1).toNatClampNeg), .int (X.2 (x3 + 2).toNatClampNeg), .int (X.2 (x3 + 3).toNatClampNeg), .int (X.2 (x3 + 4).toNatClampNeg)] D81 (fun y82 D83 => if y80 = y82 then (pu_h260_1732 X x3 D83 P) else (P 0 D83)))) :
    pu_h260_532 X x3 D P := by
  refine pu_aload_n rfl ?_
  refine pu_aload_n rfl ?_
  refine pu_iload_n rfl ?_
  refine pu_iconst ?_
  refine pu_iadd ?_
  refine pu_ialX H.1 ?_
  replace H := H.2
  refine pu_aload_n rfl ?_
  refine pu_iload_n rfl ?_
  refine pu_iconst ?_
  refine pu_iadd ?_
  refine pu_ialX H.1 ?_
  replace H := H.2
  refine pu_aload_n rfl ?_
  refine pu_iload_n rfl ?_
  refine pu_iconst ?_
  refine pu_iadd ?_
  refine pu_ialX H.1 ?_
  replace H := H.2
  refine pu_aload_n rfl ?_
  refine pu_iload_n rfl ?_
  refine pu_iconst ?_
  refine pu_iadd ?_
  refine pu_ialX H.1 ?_
  replace H := H.2
  refine pu_cv (vs := [.int (X.2 (x3 + 1).toNatClampNeg), .int (X.2 (x3 + 2).toNatClampNeg), .int (X.2 (x3 + 3).toNatClampNeg), .int (X.2 (x3 + 4).toNatClampNeg)]) (rest := []) pu_g94 ⟨pu_c0, by decide⟩ rfl rfl rfl rfl rfl (pu_CI (pu_I_imp H (fun y80 D81 H => ?_)))
  refine pu_aload_n rfl ?_
  refine pu_aload_n rfl ?_
  refine pu_iload_n rfl ?_
  refine pu_iconst ?_
  refine pu_iadd ?_
  refine pu_ialX H.1 ?_
  replace H := H.2
  refine pu_aload_n rfl ?_
  refine pu_iload_n rfl ?_
  refine pu_iconst ?_
  refine pu_iadd ?_
  refine pu_ialX H.1 ?_
  replace H := H.2
  refine pu_aload_n rfl ?_
  refine pu_iload_n rfl ?_
  refine pu_iconst ?_
  refine pu_iadd ?_
  refine pu_ialX H.1 ?_
  replace H := H.2
  refine pu_aload_n rfl ?_
  refine pu_iload_n rfl ?_
  refine pu_iconst ?_
  refine pu_iadd ?_
  refine pu_ialX H.1 ?_
  replace H := H.2
  refine pu_cv (vs := [.int (X.2 (x3 + 1).toNatClampNeg), .int (X.2 (x3 + 2).toNatClampNeg), .int (X.2 (x3 + 3).toNatClampNeg), .int (X.2 (x3 + 4).toNatClampNeg)]) (rest := [.int y80]) pu_g170 ⟨pu_c85, by decide⟩ rfl rfl rfl rfl rfl (pu_CI (pu_I_imp H (fun y82 D83 H => ?_)))
  refine pu_eq_ pu_t260_1732 (fun h84 => ?_) (fun h84 => ?_)
  · replace H := pu_t h84 H
    exact H 
  · replace H := pu_f h84 H
    refine pu_iconst ?_
    exact pu_iretZ pu_rt260 (by decide) H
theorem pu_u260_585 {X : px_X} {x3 : Int32} {D : pu_D} {P : Int32 → pu_D → Prop}
    (H : (px_in (x3 + 1) X.1 = true) ∧ (px_in (x3 + 2) X.1 = true) ∧ pu_I X 95 [.ref 0, .int (X.2 (x3 + 1).toNatClampNeg), .int (X.2 (x3 + 2).toNatClampNeg)] D (fun y85 D86 => (px_in (x3 + 1) X.1 = true) ∧ (px_in (x3 + 2) X.1 = true) ∧ pu_I X 172 [.ref 85, .int (X.2 (x3 + 1).toNatClampNeg), .int (X.2 (x3 + 2).toNatClampNeg)] D86 (fun y87 D88 => if y85 = y87 then (pu_h260_1732 X x3 D88 P) else (P 0 D88)))) :
    pu_h260_585 X x3 D P := by
  refine pu_aload_n rfl ?_
  refine pu_aload_n rfl ?_
  refine pu_iload_n rfl ?_
  refine pu_iconst ?_
  refine pu_iadd ?_
  refine pu_ialX H.1 ?_
  replace H := H.2
  refine pu_aload_n rfl ?_
  refine pu_iload_n rfl ?_
  refine pu_iconst ?_
  refine pu_iadd ?_
  refine pu_ialX H.1 ?_
  replace H := H.2
  refine pu_cv (vs := [.int (X.2 (x3 + 1).toNatClampNeg), .int (X.2 (x3 + 2).toNatClampNeg)]) (rest := []) pu_g95 ⟨pu_c0, by decide⟩ rfl rfl rfl rfl rfl (pu_CI (pu_I_imp H (fun y85 D86 H => ?_)))
  refine pu_aload_n rfl ?_
  refine pu_aload_n rfl ?_
  refine pu_iload_n rfl ?_
  refine pu_iconst ?_
  refine pu_iadd ?_
  refine pu_ialX H.1 ?_
  replace H := H.2
  refine pu_aload_n rfl ?_
  refine pu_iload_n rfl ?_
  refine pu_iconst ?_
  refine pu_iadd ?_
  refine pu_ialX H.1 ?_
  replace H := H.2
  refine pu_cv (vs := [.int (X.2 (x3 + 1).toNatClampNeg), .int (X.2 (x3 + 2).toNatClampNeg)]) (rest := [.int y85]) pu_g172 ⟨pu_c85, by decide⟩ rfl rfl rfl rfl rfl (pu_CI (pu_I_imp H (fun y87 D88 H => ?_)))
  refine pu_eq_ pu_t260_1732 (fun h89 => ?_) (fun h89 => ?_)
  · replace H := pu_t h89 H
    exact H 
  · replace H := pu_f h89 H
    refine pu_iconst ?_
    exact pu_iretZ pu_rt260 (by decide) H
theorem pu_u260_618 {X : px_X} {x3 : Int32} {D : pu_D} {P : Int32 → pu_D → Prop}
    (H : (px_in (x3 + 1) X.1 = true) ∧ (px_in (x3 + 2) X.1 = true) ∧ pu_I X 96 [.ref 0, .int (X.2 (x3 + 1).toNatClampNeg), .int (X.2 (x3 + 2).toNatClampNeg)] D (fun y90 D91 => (px_in (x3 + 1) X.1 = true) ∧ (px_in (x3 + 2) X.1 = true) ∧ pu_I X 175 [.ref 85, .int (X.2 (x3 + 1).toNatClampNeg), .int (X.2 (x3 + 2).toNatClampNeg)] D91 (fun y92 D93 => if y90 = y92 then (pu_h260_1732 X x3 D93 P) else (P 0 D93)))) :
    pu_h260_618 X x3 D P := by
  refine pu_aload_n rfl ?_
  refine pu_aload_n rfl ?_
  refine pu_iload_n rfl ?_
  refine pu_iconst ?_
  refine pu_iadd ?_
  refine pu_ialX H.1 ?_
  replace H := H.2
  refine pu_aload_n rfl ?_
  refine pu_iload_n rfl ?_
  refine pu_iconst ?_
  refine pu_iadd ?_
  refine pu_ialX H.1 ?_
  replace H := H.2
  refine pu_cv (vs := [.int (X.2 (x3 + 1).toNatClampNeg), .int (X.2 (x3 + 2).toNatClampNeg)]) (rest := []) pu_g96 ⟨pu_c0, by decide⟩ rfl rfl rfl rfl rfl (pu_CI (pu_I_imp H (fun y90 D91 H => ?_)))
  refine pu_aload_n rfl ?_
  refine pu_aload_n rfl ?_
  refine pu_iload_n rfl ?_
  refine pu_iconst ?_
  refine pu_iadd ?_
  refine pu_ialX H.1 ?_
  replace H := H.2
  refine pu_aload_n rfl ?_
  refine pu_iload_n rfl ?_
  refine pu_iconst ?_
  refine pu_iadd ?_
  refine pu_ialX H.1 ?_
  replace H := H.2
  refine pu_cv (vs := [.int (X.2 (x3 + 1).toNatClampNeg), .int (X.2 (x3 + 2).toNatClampNeg)]) (rest := [.int y90]) pu_g175 ⟨pu_c85, by decide⟩ rfl rfl rfl rfl rfl (pu_CI (pu_I_imp H (fun y92 D93 H => ?_)))
  refine pu_eq_ pu_t260_1732 (fun h94 => ?_) (fun h94 => ?_)
  · replace H := pu_t h94 H
    exact H 
  · replace H := pu_f h94 H
    refine pu_iconst ?_
    exact pu_iretZ pu_rt260 (by decide) H
theorem pu_u260_651 {X : px_X} {x3 : Int32} {D : pu_D} {P : Int32 → pu_D → Prop}
    (H : (px_in (x3 + 1) X.1 = true) ∧ (px_in (x3 + 2) X.1 = true) ∧ pu_I X 97 [.ref 0, .int (X.2 (x3 + 1).toNatClampNeg), .int (X.2 (x3 + 2).toNatClampNeg)] D (fun y95 D96 => (px_in (x3 + 1) X.1 = true) ∧ (px_in (x3 + 2) X.1 = true) ∧ pu_I X 177 [.ref 85, .int (X.2 (x3 + 1).toNatClampNeg), .int (X.2 (x3 + 2).toNatClampNeg)] D96 (fun y97 D98 => if y95 = y97 then (pu_h260_1732 X x3 D98 P) else (P 0 D98)))) :
    pu_h260_651 X x3 D P := by
  refine pu_aload_n rfl ?_
  refine pu_aload_n rfl ?_
  refine pu_iload_n rfl ?_
  refine pu_iconst ?_
  refine pu_iadd ?_
  refine pu_ialX H.1 ?_
  replace H := H.2
  refine pu_aload_n rfl ?_
  refine pu_iload_n rfl ?_
  refine pu_iconst ?_
  refine pu_iadd ?_
  refine pu_ialX H.1 ?_
  replace H := H.2
  refine pu_cv (vs := [.int (X.2 (x3 + 1).toNatClampNeg), .int (X.2 (x3 + 2).toNatClampNeg)]) (rest := []) pu_g97 ⟨pu_c0, by decide⟩ rfl rfl rfl rfl rfl (pu_CI (pu_I_imp H (fun y95 D96 H => ?_)))
  refine pu_aload_n rfl ?_
  refine pu_aload_n rfl ?_
  refine pu_iload_n rfl ?_
  refine pu_iconst ?_
  refine pu_iadd ?_
  refine pu_ialX H.1 ?_
  replace H := H.2
  refine pu_aload_n rfl ?_
  refine pu_iload_n rfl ?_
  refine pu_iconst ?_
  refine pu_iadd ?_
  refine pu_ialX H.1 ?_
  replace H := H.2
  refine pu_cv (vs := [.int (X.2 (x3 + 1).toNatClampNeg), .int (X.2 (x3 + 2).toNatClampNeg)]) (rest := [.int y95]) pu_g177 ⟨pu_c85, by decide⟩ rfl rfl rfl rfl rfl (pu_CI (pu_I_imp H (fun y97 D98 H => ?_)))
  refine pu_eq_ pu_t260_1732 (fun h99 => ?_) (fun h99 => ?_)
  · replace H := pu_t h99 H
    exact H 
  · replace H := pu_f h99 H
    refine pu_iconst ?_
    exact pu_iretZ pu_rt260 (by decide) H
theorem pu_u260_684 {X : px_X} {x3 : Int32} {D : pu_D} {P : Int32 → pu_D → Prop}
    (H : (px_in (x3 + 1) X.1 = true) ∧ (px_in (x3 + 2) X.1 = true) ∧ (px_in (x3 + 3) X.1 = true) ∧ pu_I X 98 [.ref 0, .int (X.2 (x3 + 1).toNatClampNeg), .int (X.2 (x3 + 2).toNatClampNeg), .int (X.2 (x3 + 3).toNatClampNeg)] D (fun y100 D101 => (px_in (x3 + 1) X.1 = true) ∧ (px_in (x3 + 2) X.1 = true) ∧ (px_in (x3 + 3) X.1 = true) ∧ pu_I X 179 [.ref 85, .int (X.2 (x3 + 1).toNatClampNeg), .int (X.2 (x3 + 2).toNatClampNeg), .int (X.2 (x3 + 3).toNatClampNeg)] D101 (fun y102 D103 => if y100 = y102 then (pu_h260_1732 X x3 D103 P) else (P 0 D103)))) :
    pu_h260_684 X x3 D P := by
  refine pu_aload_n rfl ?_
  refine pu_aload_n rfl ?_
  refine pu_iload_n rfl ?_
  refine pu_iconst ?_
  refine pu_iadd ?_
  refine pu_ialX H.1 ?_
  replace H := H.2
  refine pu_aload_n rfl ?_
  refine pu_iload_n rfl ?_
  refine pu_iconst ?_
  refine pu_iadd ?_
  refine pu_ialX H.1 ?_
  replace H := H.2
  refine pu_aload_n rfl ?_
  refine pu_iload_n rfl ?_
  refine pu_iconst ?_
  refine pu_iadd ?_
  refine pu_ialX H.1 ?_
  replace H := H.2
  refine pu_cv (vs := [.int (X.2 (x3 + 1).toNatClampNeg), .int (X.2 (x3 + 2).toNatClampNeg), .int (X.2 (x3 + 3).toNatClampNeg)]) (rest := []) pu_g98 ⟨pu_c0, by decide⟩ rfl rfl rfl rfl rfl (pu_CI (pu_I_imp H (fun y100 D101 H => ?_)))
  refine pu_aload_n rfl ?_
  refine pu_aload_n rfl ?_
  refine pu_iload_n rfl ?_
  refine pu_iconst ?_
  refine pu_iadd ?_
  refine pu_ialX H.1 ?_
  replace H := H.2
  refine pu_aload_n rfl ?_
  refine pu_iload_n rfl ?_
  refine pu_iconst ?_
  refine pu_iadd ?_
  refine pu_ialX H.1 ?_
  replace H := H.2
  refine pu_aload_n rfl ?_
  refine pu_iload_n rfl ?_
  refine pu_iconst ?_
  refine pu_iadd ?_
  refine pu_ialX H.1 ?_
  replace H := H.2
  refine pu_cv (vs := [.int (X.2 (x3 + 1).toNatClampNeg), .int (X.2 (x3 + 2).toNatClampNeg), .int (X.2 (x3 + 3).toNatClampNeg)]) (rest := [.int y100]) pu_g179 ⟨pu_c85, by decide⟩ rfl rfl rfl rfl rfl (pu_CI (pu_I_imp H (fun y102 D103 H => ?_)))
  refine pu_eq_ pu_t260_1732 (fun h104 => ?_) (fun h104 => ?_)
  · replace H := pu_t h104 H
    exact H 
  · replace H := pu_f h104 H
    refine pu_iconst ?_
    exact pu_iretZ pu_rt260 (by decide) H
theorem pu_u260_727 {X : px_X} {x3 : Int32} {D : pu_D} {P : Int32 → pu_D → Prop}
    (H : (px_in (x3 + 1) X.1 = true) ∧ (px_in (x3 + 2) X.1 = true) ∧ pu_I X 99 [.ref 0, .int (X.2 (x3 + 1).toNatClampNeg), .int (X.2 (x3 + 2).toNatClampNeg)] D (fun y105 D106 => (px_in (x3 + 1) X.1 = true) ∧ (px_in (x3 + 2) X.1 = true) ∧ pu_I X 182 [.ref 85, .int (X.2 (x3 + 1).toNatClampNeg), .int (X.2 (x3 + 2).toNatClampNeg)] D106 (fun y107 D108 => if y105 = y107 then (pu_h260_1732 X x3 D108 P) else (P 0 D108)))) :
    pu_h260_727 X x3 D P := by
  refine pu_aload_n rfl ?_
  refine pu_aload_n rfl ?_
  refine pu_iload_n rfl ?_
  refine pu_iconst ?_
  refine pu_iadd ?_
  refine pu_ialX H.1 ?_
  replace H := H.2
  refine pu_aload_n rfl ?_
  refine pu_iload_n rfl ?_
  refine pu_iconst ?_
  refine pu_iadd ?_
  refine pu_ialX H.1 ?_
  replace H := H.2
  refine pu_cv (vs := [.int (X.2 (x3 + 1).toNatClampNeg), .int (X.2 (x3 + 2).toNatClampNeg)]) (rest := []) pu_g99 ⟨pu_c0, by decide⟩ rfl rfl rfl rfl rfl (pu_CI (pu_I_imp H (fun y105 D106 H => ?_)))
  refine pu_aload_n rfl ?_
  refine pu_aload_n rfl ?_
  refine pu_iload_n rfl ?_
  refine pu_iconst ?_
  refine pu_iadd ?_
  refine pu_ialX H.1 ?_
  replace H := H.2
  refine pu_aload_n rfl ?_
  refine pu_iload_n rfl ?_
  refine pu_iconst ?_
  refine pu_iadd ?_
  refine pu_ialX H.1 ?_
  replace H := H.2
  refine pu_cv (vs := [.int (X.2 (x3 + 1).toNatClampNeg), .int (X.2 (x3 + 2).toNatClampNeg)]) (rest := [.int y105]) pu_g182 ⟨pu_c85, by decide⟩ rfl rfl rfl rfl rfl (pu_CI (pu_I_imp H (fun y107 D108 H => ?_)))
  refine pu_eq_ pu_t260_1732 (fun h109 => ?_) (fun h109 => ?_)
  · replace H := pu_t h109 H
    exact H 
  · replace H := pu_f h109 H
    refine pu_iconst ?_
    exact pu_iretZ pu_rt260 (by decide) H
theorem pu_u260_760 {X : px_X} {x3 : Int32} {D : pu_D} {P : Int32 → pu_D → Prop}
    (H : (px_in (x3 + 1) X.1 = true) ∧ pu_I X 100 [.ref 0, .int (X.2 (x3 + 1).toNatClampNeg)] D (fun y110 D111 => (px_in (x3 + 1) X.1 = true) ∧ pu_I X 192 [.ref 85, .int (X.2 (x3 + 1).toNatClampNeg)] D111 (fun y112 D113 => if y110 = y112 then (pu_h260_1732 X x3 D113 P) else (P 0 D113)))) :
    pu_h260_760 X x3 D P := by
  refine pu_aload_n rfl ?_
  refine pu_aload_n rfl ?_
  refine pu_iload_n rfl ?_
  refine pu_iconst ?_
  refine pu_iadd ?_
  refine pu_ialX H.1 ?_
  replace H := H.2
  refine pu_cv (vs := [.int (X.2 (x3 + 1).toNatClampNeg)]) (rest := []) pu_g100 ⟨pu_c0, by decide⟩ rfl rfl rfl rfl rfl (pu_CI (pu_I_imp H (fun y110 D111 H => ?_)))
  refine pu_aload_n rfl ?_
  refine pu_aload_n rfl ?_
  refine pu_iload_n rfl ?_
  refine pu_iconst ?_
  refine pu_iadd ?_
  refine pu_ialX H.1 ?_
  replace H := H.2
  refine pu_cv (vs := [.int (X.2 (x3 + 1).toNatClampNeg)]) (rest := [.int y110]) pu_g192 ⟨pu_c85, by decide⟩ rfl rfl rfl rfl rfl (pu_CI (pu_I_imp H (fun y112 D113 H => ?_)))
  refine pu_eq_ pu_t260_1732 (fun h114 => ?_) (fun h114 => ?_)
  · replace H := pu_t h114 H
    exact H 
  · replace H := pu_f h114 H
    refine pu_iconst ?_
    exact pu_iretZ pu_rt260 (by decide) H
theorem pu_u260_783 {X : px_X} {x3 : Int32} {D : pu_D} {P : Int32 → pu_D → Prop}
    (H : pu_I X 101 [.ref 0] D (fun y115 D116 => pu_I X 193 [.ref 85] D116 (fun y117 D118 => if y115 = y117 then (pu_h260_1732 X x3 D118 P) else (P 0 D118)))) :
    pu_h260_783 X x3 D P := by
  refine pu_aload_n rfl ?_
  refine pu_cv (vs := []) (rest := []) pu_g101 ⟨pu_c0, by decide⟩ rfl rfl rfl rfl rfl (pu_CI (pu_I_imp H (fun y115 D116 H => ?_)))
  refine pu_aload_n rfl ?_
  refine pu_cv (vs := []) (rest := [.int y115]) pu_g193 ⟨pu_c85, by decide⟩ rfl rfl rfl rfl rfl (pu_CI (pu_I_imp H (fun y117 D118 H => ?_)))
  refine pu_eq_ pu_t260_1732 (fun h119 => ?_) (fun h119 => ?_)
  · replace H := pu_t h119 H
    exact H 
  · replace H := pu_f h119 H
    refine pu_iconst ?_
    exact pu_iretZ pu_rt260 (by decide) H
theorem pu_u260_796 {X : px_X} {x3 : Int32} {D : pu_D} {P : Int32 → pu_D → Prop}
    (H : (px_in (x3 + 1) X.1 = true) ∧ (px_in (x3 + 2) X.1 = true) ∧ pu_I X 102 [.ref 0, .int (X.2 (x3 + 1).toNatClampNeg), .int (X.2 (x3 + 2).toNatClampNeg)] D (fun y120 D121 => (px_in (x3 + 1) X.1 = true) ∧ (px_in (x3 + 2) X.1 = true) ∧ pu_I X 194 [.ref 85, .int (X.2 (x3 + 1).toNatClampNeg), .int (X.2 (x3 + 2).toNatClampNeg)] D121 (fun y122 D123 => if y120 = y122 then (pu_h260_1732 X x3 D123 P) else (P 0 D123)))) :
    pu_h260_796 X x3 D P := by
  refine pu_aload_n rfl ?_
  refine pu_aload_n rfl ?_
  refine pu_iload_n rfl ?_
  refine pu_iconst ?_
  refine pu_iadd ?_
  refine pu_ialX H.1 ?_
  replace H := H.2
  refine pu_aload_n rfl ?_
  refine pu_iload_n rfl ?_
  refine pu_iconst ?_
  refine pu_iadd ?_
  refine pu_ialX H.1 ?_
  replace H := H.2
  refine pu_cv (vs := [.int (X.2 (x3 + 1).toNatClampNeg), .int (X.2 (x3 + 2).toNatClampNeg)]) (rest := []) pu_g102 ⟨pu_c0, by decide⟩ rfl rfl rfl rfl rfl (pu_CI (pu_I_imp H (fun y120 D121 H => ?_)))
  refine pu_aload_n rfl ?_
  refine pu_aload_n rfl ?_
  refine pu_iload_n rfl ?_
  refine pu_iconst ?_
  refine pu_iadd ?_
  refine pu_ialX H.1 ?_
  replace H := H.2
  refine pu_aload_n rfl ?_
  refine pu_iload_n rfl ?_
  refine pu_iconst ?_
  refine pu_iadd ?_
  refine pu_ialX H.1 ?_
  replace H := H.2
  refine pu_cv (vs := [.int (X.2 (x3 + 1).toNatClampNeg), .int (X.2 (x3 + 2).toNatClampNeg)]) (rest := [.int y120]) pu_g194 ⟨pu_c85, by decide⟩ rfl rfl rfl rfl rfl (pu_CI (pu_I_imp H (fun y122 D123 H => ?_)))
  refine pu_eq_ pu_t260_1732 (fun h124 => ?_) (fun h124 => ?_)
  · replace H := pu_t h124 H
    exact H 
  · replace H := pu_f h124 H
    refine pu_iconst ?_
    exact pu_iretZ pu_rt260 (by decide) H
theorem pu_u260_829 {X : px_X} {x3 : Int32} {D : pu_D} {P : Int32 → pu_D → Prop}
    (H : (px_in (x3 + 1) X.1 = true) ∧ (px_in (x3 + 2) X.1 = true) ∧ pu_I X 103 [.ref 0, .int (X.2 (x3 + 1).toNatClampNeg), .int (X.2 (x3 + 2).toNatClampNeg)] D (fun y125 D126 => (px_in (x3 + 1) X.1 = true) ∧ (px_in (x3 + 2) X.1 = true) ∧ pu_I X 195 [.ref 85, .int (X.2 (x3 + 1).toNatClampNeg), .int (X.2 (x3 + 2).toNatClampNeg)] D126 (fun y127 D128 => if y125 = y127 then (pu_h260_1732 X x3 D128 P) else (P 0 D128)))) :
    pu_h260_829 X x3 D P := by
  refine pu_aload_n rfl ?_
  refine pu_aload_n rfl ?_
  refine pu_iload_n rfl ?_
  refine pu_iconst ?_
  refine pu_iadd ?_
  refine pu_ialX H.1 ?_
  replace H := H.2
  refine pu_aload_n rfl ?_
  refine pu_iload_n rfl ?_
  refine pu_iconst ?_
  refine pu_iadd ?_
  refine pu_ialX H.1 ?_
  replace H := H.2
  refine pu_cv (vs := [.int (X.2 (x3 + 1).toNatClampNeg), .int (X.2 (x3 + 2).toNatClampNeg)]) (rest := []) pu_g103 ⟨pu_c0, by decide⟩ rfl rfl rfl rfl rfl (pu_CI (pu_I_imp H (fun y125 D126 H => ?_)))
  refine pu_aload_n rfl ?_
  refine pu_aload_n rfl ?_
  refine pu_iload_n rfl ?_
  refine pu_iconst ?_
  refine pu_iadd ?_
  refine pu_ialX H.1 ?_
  replace H := H.2
  refine pu_aload_n rfl ?_
  refine pu_iload_n rfl ?_
  refine pu_iconst ?_
  refine pu_iadd ?_
  refine pu_ialX H.1 ?_
  replace H := H.2
  refine pu_cv (vs := [.int (X.2 (x3 + 1).toNatClampNeg), .int (X.2 (x3 + 2).toNatClampNeg)]) (rest := [.int y125]) pu_g195 ⟨pu_c85, by decide⟩ rfl rfl rfl rfl rfl (pu_CI (pu_I_imp H (fun y127 D128 H => ?_)))
  refine pu_eq_ pu_t260_1732 (fun h129 => ?_) (fun h129 => ?_)
  · replace H := pu_t h129 H
    exact H 
  · replace H := pu_f h129 H
    refine pu_iconst ?_
    exact pu_iretZ pu_rt260 (by decide) H
theorem pu_u260_862 {X : px_X} {x3 : Int32} {D : pu_D} {P : Int32 → pu_D → Prop}
    (H : (px_in (x3 + 1) X.1 = true) ∧ (px_in (x3 + 2) X.1 = true) ∧ pu_I X 104 [.ref 0, .int (X.2 (x3 + 1).toNatClampNeg), .int (X.2 (x3 + 2).toNatClampNeg)] D (fun y130 D131 => (px_in (x3 + 1) X.1 = true) ∧ (px_in (x3 + 2) X.1 = true) ∧ pu_I X 196 [.ref 85, .int (X.2 (x3 + 1).toNatClampNeg), .int (X.2 (x3 + 2).toNatClampNeg)] D131 (fun y132 D133 => if y130 = y132 then (pu_h260_1732 X x3 D133 P) else (P 0 D133)))) :
    pu_h260_862 X x3 D P := by
  refine pu_aload_n rfl ?_
  refine pu_aload_n rfl ?_
  refine pu_iload_n rfl ?_
  refine pu_iconst ?_
  refine pu_iadd ?_
  refine pu_ialX H.1 ?_
  replace H := H.2
  refine pu_aload_n rfl ?_
  refine pu_iload_n rfl ?_
  refine pu_iconst ?_
  refine pu_iadd ?_
  refine pu_ialX H.1 ?_
  replace H := H.2
  refine pu_cv (vs := [.int (X.2 (x3 + 1).toNatClampNeg), .int (X.2 (x3 + 2).toNatClampNeg)]) (rest := []) pu_g104 ⟨pu_c0, by decide⟩ rfl rfl rfl rfl rfl (pu_CI (pu_I_imp H (fun y130 D131 H => ?_)))
  refine pu_aload_n rfl ?_
  refine pu_aload_n rfl ?_
  refine pu_iload_n rfl ?_
  refine pu_iconst ?_
  refine pu_iadd ?_
  refine pu_ialX H.1 ?_
  replace H := H.2
  refine pu_aload_n rfl ?_
  refine pu_iload_n rfl ?_
  refine pu_iconst ?_
  refine pu_iadd ?_
  refine pu_ialX H.1 ?_
  replace H := H.2
  refine pu_cv (vs := [.int (X.2 (x3 + 1).toNatClampNeg), .int (X.2 (x3 + 2).toNatClampNeg)]) (rest := [.int y130]) pu_g196 ⟨pu_c85, by decide⟩ rfl rfl rfl rfl rfl (pu_CI (pu_I_imp H (fun y132 D133 H => ?_)))
  refine pu_eq_ pu_t260_1732 (fun h134 => ?_) (fun h134 => ?_)
  · replace H := pu_t h134 H
    exact H 
  · replace H := pu_f h134 H
    refine pu_iconst ?_
    exact pu_iretZ pu_rt260 (by decide) H
theorem pu_u260_895 {X : px_X} {x3 : Int32} {D : pu_D} {P : Int32 → pu_D → Prop}
    (H : (px_in (x3 + 1) X.1 = true) ∧ (px_in (x3 + 2) X.1 = true) ∧ if (X.2 (x3 + 2).toNatClampNeg) = 0 then (pu_I X 105 [.ref 0, .int (X.2 (x3 + 1).toNatClampNeg), .int 0] D (fun y136 D137 => (px_in (x3 + 1) X.1 = true) ∧ (px_in (x3 + 2) X.1 = true) ∧ if (X.2 (x3 + 2).toNatClampNeg) = 0 then (pu_I X 197 [.ref 85, .int (X.2 (x3 + 1).toNatClampNeg), .int 0] D137 (fun y139 D140 => if y136 = y139 then (pu_h260_1732 X x3 D140 P) else (P 0 D140))) else (pu_I X 197 [.ref 85, .int (X.2 (x3 + 1).toNatClampNeg), .int 1] D137 (fun y142 D143 => if y136 = y142 then (pu_h260_1732 X x3 D143 P) else (P 0 D143))))) else (pu_I X 105 [.ref 0, .int (X.2 (x3 + 1).toNatClampNeg), .int 1] D (fun y145 D146 => (px_in (x3 + 1) X.1 = true) ∧ (px_in (x3 + 2) X.1 = true) ∧ if (X.2 (x3 + 2).toNatClampNeg) = 0 then (pu_I X 197 [.ref 85, .int (X.2 (x3 + 1).toNatClampNeg), .int 0] D146 (fun y148 D149 => if y145 = y148 then (pu_h260_1732 X x3 D149 P) else (P 0 D149))) else (pu_I X 197 [.ref 85, .int (X.2 (x3 + 1).toNatClampNeg), .int 1] D146 (fun y151 D152 => if y145 = y151 then (pu_h260_1732 X x3 D152 P) else (P 0 D152)))))) :
    pu_h260_895 X x3 D P := by
  refine pu_aload_n rfl ?_
  refine pu_aload_n rfl ?_
  refine pu_iload_n rfl ?_
  refine pu_iconst ?_
  refine pu_iadd ?_
  refine pu_ialX H.1 ?_
  replace H := H.2
  refine pu_aload_n rfl ?_
  refine pu_iload_n rfl ?_
  refine pu_iconst ?_
  refine pu_iadd ?_
  refine pu_ialX H.1 ?_
  replace H := H.2
  refine pu_eq0 pu_t260_913 (fun h135 => ?_) (fun h135 => ?_)
  · replace H := pu_t h135 H
    refine pu_iconst ?_
    refine pu_cv (vs := [.int (X.2 (x3 + 1).toNatClampNeg), .int 0]) (rest := []) pu_g105 ⟨pu_c0, by decide⟩ rfl rfl rfl rfl rfl (pu_CI (pu_I_imp H (fun y136 D137 H => ?_)))
    refine pu_aload_n rfl ?_
    refine pu_aload_n rfl ?_
    refine pu_iload_n rfl ?_
    refine pu_iconst ?_
    refine pu_iadd ?_
    refine pu_ialX H.1 ?_
    replace H := H.2
    refine pu_aload_n rfl ?_
    refine pu_iload_n rfl ?_
    refine pu_iconst ?_
    refine pu_iadd ?_
    refine pu_ialX H.1 ?_
    replace H := H.2
    refine pu_eq0 pu_t260_935 (fun h138 => ?_) (fun h138 => ?_)
    · replace H := pu_t h138 H
      refine pu_iconst ?_
      refine pu_cv (vs := [.int (X.2 (x3 + 1).toNatClampNeg), .int 0]) (rest := [.int y136]) pu_g197 ⟨pu_c85, by decide⟩ rfl rfl rfl rfl rfl (pu_CI (pu_I_imp H (fun y139 D140 H => ?_)))
      refine pu_eq_ pu_t260_1732 (fun h141 => ?_) (fun h141 => ?_)
      · replace H := pu_t h141 H
        exact H 
      · replace H := pu_f h141 H
        refine pu_iconst ?_
        exact pu_iretZ pu_rt260 (by decide) H
    · replace H := pu_f h138 H
      refine pu_iconst ?_
      refine pu_goto pu_t260_936 ?_
      refine pu_cv (vs := [.int (X.2 (x3 + 1).toNatClampNeg), .int 1]) (rest := [.int y136]) pu_g197 ⟨pu_c85, by decide⟩ rfl rfl rfl rfl rfl (pu_CI (pu_I_imp H (fun y142 D143 H => ?_)))
      refine pu_eq_ pu_t260_1732 (fun h144 => ?_) (fun h144 => ?_)
      · replace H := pu_t h144 H
        exact H 
      · replace H := pu_f h144 H
        refine pu_iconst ?_
        exact pu_iretZ pu_rt260 (by decide) H
  · replace H := pu_f h135 H
    refine pu_iconst ?_
    refine pu_goto pu_t260_914 ?_
    refine pu_cv (vs := [.int (X.2 (x3 + 1).toNatClampNeg), .int 1]) (rest := []) pu_g105 ⟨pu_c0, by decide⟩ rfl rfl rfl rfl rfl (pu_CI (pu_I_imp H (fun y145 D146 H => ?_)))
    refine pu_aload_n rfl ?_
    refine pu_aload_n rfl ?_
    refine pu_iload_n rfl ?_
    refine pu_iconst ?_
    refine pu_iadd ?_
    refine pu_ialX H.1 ?_
    replace H := H.2
    refine pu_aload_n rfl ?_
    refine pu_iload_n rfl ?_
    refine pu_iconst ?_
    refine pu_iadd ?_
    refine pu_ialX H.1 ?_
    replace H := H.2
    refine pu_eq0 pu_t260_935 (fun h147 => ?_) (fun h147 => ?_)
    · replace H := pu_t h147 H
      refine pu_iconst ?_
      refine pu_cv (vs := [.int (X.2 (x3 + 1).toNatClampNeg), .int 0]) (rest := [.int y145]) pu_g197 ⟨pu_c85, by decide⟩ rfl rfl rfl rfl rfl (pu_CI (pu_I_imp H (fun y148 D149 H => ?_)))
      refine pu_eq_ pu_t260_1732 (fun h150 => ?_) (fun h150 => ?_)
      · replace H := pu_t h150 H
        exact H 
      · replace H := pu_f h150 H
        refine pu_iconst ?_
        exact pu_iretZ pu_rt260 (by decide) H
    · replace H := pu_f h147 H
      refine pu_iconst ?_
      refine pu_goto pu_t260_936 ?_
      refine pu_cv (vs := [.int (X.2 (x3 + 1).toNatClampNeg), .int 1]) (rest := [.int y145]) pu_g197 ⟨pu_c85, by decide⟩ rfl rfl rfl rfl rfl (pu_CI (pu_I_imp H (fun y151 D152 H => ?_)))
      refine pu_eq_ pu_t260_1732 (fun h153 => ?_) (fun h153 => ?_)
      · replace H := pu_t h153 H
        exact H 
      · replace H := pu_f h153 H
        refine pu_iconst ?_
        exact pu_iretZ pu_rt260 (by decide) H
theorem pu_u260_944 {X : px_X} {x3 : Int32} {D : pu_D} {P : Int32 → pu_D → Prop}
    (H : (px_in (x3 + 1) X.1 = true) ∧ (px_in (x3 + 2) X.1 = true) ∧ (px_in (x3 + 3) X.1 = true) ∧ (px_in (x3 + 4) X.1 = true) ∧ pu_I X 106 [.ref 0, .int (X.2 (x3 + 1).toNatClampNeg), .int (X.2 (x3 + 2).toNatClampNeg), .int (X.2 (x3 + 3).toNatClampNeg), .int (X.2 (x3 + 4).toNatClampNeg)] D (fun y154 D155 => (px_in (x3 + 1) X.1 = true) ∧ (px_in (x3 + 2) X.1 = true) ∧ (px_in (x3 + 3) X.1 = true) ∧ (px_in (x3 + 4) X.1 = true) ∧ pu_I X 208 [.ref 85, .int (X.2 (x3 + 1).toNatClampNeg), .int (X.2 (x3 + 2).toNatClampNeg), .int (X.2 (x3 + 3).toNatClampNeg), .int (X.2 (x3 + 4).toNatClampNeg)] D155 (fun y156 D157 => if y154 = y156 then (pu_h260_1732 X x3 D157 P) else (P 0 D157)))) :
    pu_h260_944 X x3 D P := by
  refine pu_aload_n rfl ?_
  refine pu_aload_n rfl ?_
  refine pu_iload_n rfl ?_
  refine pu_iconst ?_
  refine pu_iadd ?_
  refine pu_ialX H.1 ?_
  replace H := H.2
  refine pu_aload_n rfl ?_
  refine pu_iload_n rfl ?_
  refine pu_iconst ?_
  refine pu_iadd ?_
  refine pu_ialX H.1 ?_
  replace H := H.2
  refine pu_aload_n rfl ?_
  refine pu_iload_n rfl ?_
  refine pu_iconst ?_
  refine pu_iadd ?_
  refine pu_ialX H.1 ?_
  replace H := H.2
  refine pu_aload_n rfl ?_
  refine pu_iload_n rfl ?_
  refine pu_iconst ?_
  refine pu_iadd ?_
  refine pu_ialX H.1 ?_
  replace H := H.2
  refine pu_cv (vs := [.int (X.2 (x3 + 1).toNatClampNeg), .int (X.2 (x3 + 2).toNatClampNeg), .int (X.2 (x3 + 3).toNatClampNeg), .int (X.2 (x3 + 4).toNatClampNeg)]) (rest := []) pu_g106 ⟨pu_c0, by decide⟩ rfl rfl rfl rfl rfl (pu_CI (pu_I_imp H (fun y154 D155 H => ?_)))
  refine pu_aload_n rfl ?_
  refine pu_aload_n rfl ?_
  refine pu_iload_n rfl ?_
  refine pu_iconst ?_
  refine pu_iadd ?_
  refine pu_ialX H.1 ?_
  replace H := H.2
  refine pu_aload_n rfl ?_
  refine pu_iload_n rfl ?_
  refine pu_iconst ?_
  refine pu_iadd ?_
  refine pu_ialX H.1 ?_
  replace H := H.2
  refine pu_aload_n rfl ?_
  refine pu_iload_n rfl ?_
  refine pu_iconst ?_
  refine pu_iadd ?_
  refine pu_ialX H.1 ?_
  replace H := H.2
  refine pu_aload_n rfl ?_
  refine pu_iload_n rfl ?_
  refine pu_iconst ?_
  refine pu_iadd ?_
  refine pu_ialX H.1 ?_
  replace H := H.2
  refine pu_cv (vs := [.int (X.2 (x3 + 1).toNatClampNeg), .int (X.2 (x3 + 2).toNatClampNeg), .int (X.2 (x3 + 3).toNatClampNeg), .int (X.2 (x3 + 4).toNatClampNeg)]) (rest := [.int y154]) pu_g208 ⟨pu_c85, by decide⟩ rfl rfl rfl rfl rfl (pu_CI (pu_I_imp H (fun y156 D157 H => ?_)))
  refine pu_eq_ pu_t260_1732 (fun h158 => ?_) (fun h158 => ?_)
  · replace H := pu_t h158 H
    exact H 
  · replace H := pu_f h158 H
    refine pu_iconst ?_
    exact pu_iretZ pu_rt260 (by decide) H
theorem pu_u260_997 {X : px_X} {x3 : Int32} {D : pu_D} {P : Int32 → pu_D → Prop}
    (H : (px_in (x3 + 1) X.1 = true) ∧ (px_in (x3 + 2) X.1 = true) ∧ (px_in (x3 + 3) X.1 = true) ∧ (px_in (x3 + 4) X.1 = true) ∧ pu_I X 107 [.ref 0, .int (X.2 (x3 + 1).toNatClampNeg), .int (X.2 (x3 + 2).toNatClampNeg), .int (X.2 (x3 + 3).toNatClampNeg), .int (X.2 (x3 + 4).toNatClampNeg)] D (fun y159 D160 => (px_in (x3 + 1) X.1 = true) ∧ (px_in (x3 + 2) X.1 = true) ∧ (px_in (x3 + 3) X.1 = true) ∧ (px_in (x3 + 4) X.1 = true) ∧ pu_I X 209 [.ref 85, .int (X.2 (x3 + 1).toNatClampNeg), .int (X.2 (x3 + 2).toNatClampNeg), .int (X.2 (x3 + 3).toNatClampNeg), .int (X.2 (x3 + 4).toNatClampNeg)] D160 (fun y161 D162 => if y159 = y161 then (pu_h260_1732 X x3 D162 P) else (P 0 D162)))) :
    pu_h260_997 X x3 D P := by
  refine pu_aload_n rfl ?_
  refine pu_aload_n rfl ?_
  refine pu_iload_n rfl ?_
  refine pu_iconst ?_
  refine pu_iadd ?_
  refine pu_ialX H.1 ?_
  replace H := H.2
  refine pu_aload_n rfl ?_
  refine pu_iload_n rfl ?_
  refine pu_iconst ?_
  refine pu_iadd ?_
  refine pu_ialX H.1 ?_
  replace H := H.2
  refine pu_aload_n rfl ?_
  refine pu_iload_n rfl ?_
  refine pu_iconst ?_
  refine pu_iadd ?_
  refine pu_ialX H.1 ?_
  replace H := H.2
  refine pu_aload_n rfl ?_
  refine pu_iload_n rfl ?_
  refine pu_iconst ?_
  refine pu_iadd ?_
  refine pu_ialX H.1 ?_
  replace H := H.2
  refine pu_cv (vs := [.int (X.2 (x3 + 1).toNatClampNeg), .int (X.2 (x3 + 2).toNatClampNeg), .int (X.2 (x3 + 3).toNatClampNeg), .int (X.2 (x3 + 4).toNatClampNeg)]) (rest := []) pu_g107 ⟨pu_c0, by decide⟩ rfl rfl rfl rfl rfl (pu_CI (pu_I_imp H (fun y159 D160 H => ?_)))
  refine pu_aload_n rfl ?_
  refine pu_aload_n rfl ?_
  refine pu_iload_n rfl ?_
  refine pu_iconst ?_
  refine pu_iadd ?_
  refine pu_ialX H.1 ?_
  replace H := H.2
  refine pu_aload_n rfl ?_
  refine pu_iload_n rfl ?_
  refine pu_iconst ?_
  refine pu_iadd ?_
  refine pu_ialX H.1 ?_
  replace H := H.2
  refine pu_aload_n rfl ?_
  refine pu_iload_n rfl ?_
  refine pu_iconst ?_
  refine pu_iadd ?_
  refine pu_ialX H.1 ?_
  replace H := H.2
  refine pu_aload_n rfl ?_
  refine pu_iload_n rfl ?_
  refine pu_iconst ?_
  refine pu_iadd ?_
  refine pu_ialX H.1 ?_
  replace H := H.2
  refine pu_cv (vs := [.int (X.2 (x3 + 1).toNatClampNeg), .int (X.2 (x3 + 2).toNatClampNeg), .int (X.2 (x3 + 3).toNatClampNeg), .int (X.2 (x3 + 4).toNatClampNeg)]) (rest := [.int y159]) pu_g209 ⟨pu_c85, by decide⟩ rfl rfl rfl rfl rfl (pu_CI (pu_I_imp H (fun y161 D162 H => ?_)))
  refine pu_eq_ pu_t260_1732 (fun h163 => ?_) (fun h163 => ?_)
  · replace H := pu_t h163 H
    exact H 
  · replace H := pu_f h163 H
    refine pu_iconst ?_
    exact pu_iretZ pu_rt260 (by decide) H
theorem pu_u260_1050 {X : px_X} {x3 : Int32} {D : pu_D} {P : Int32 → pu_D → Prop}
    (H : (px_in (x3 + 1) X.1 = true) ∧ (px_in (x3 + 2) X.1 = true) ∧ (px_in (x3 + 3) X.1 = true) ∧ pu_I X 108 [.ref 0, .int (X.2 (x3 + 1).toNatClampNeg), .int (X.2 (x3 + 2).toNatClampNeg), .int (X.2 (x3 + 3).toNatClampNeg)] D (fun y164 D165 => (px_in (x3 + 1) X.1 = true) ∧ (px_in (x3 + 2) X.1 = true) ∧ (px_in (x3 + 3) X.1 = true) ∧ pu_I X 213 [.ref 85, .int (X.2 (x3 + 1).toNatClampNeg), .int (X.2 (x3 + 2).toNatClampNeg), .int (X.2 (x3 + 3).toNatClampNeg)] D165 (fun y166 D167 => if y164 = y166 then (pu_h260_1732 X x3 D167 P) else (P 0 D167)))) :
    pu_h260_1050 X x3 D P := by
  refine pu_aload_n rfl ?_
  refine pu_aload_n rfl ?_
  refine pu_iload_n rfl ?_
  refine pu_iconst ?_
  refine pu_iadd ?_
  refine pu_ialX H.1 ?_
  replace H := H.2
  refine pu_aload_n rfl ?_
  refine pu_iload_n rfl ?_
  refine pu_iconst ?_
  refine pu_iadd ?_
  refine pu_ialX H.1 ?_
  replace H := H.2
  refine pu_aload_n rfl ?_
  refine pu_iload_n rfl ?_
  refine pu_iconst ?_
  refine pu_iadd ?_
  refine pu_ialX H.1 ?_
  replace H := H.2
  refine pu_cv (vs := [.int (X.2 (x3 + 1).toNatClampNeg), .int (X.2 (x3 + 2).toNatClampNeg), .int (X.2 (x3 + 3).toNatClampNeg)]) (rest := []) pu_g108 ⟨pu_c0, by decide⟩ rfl rfl rfl rfl rfl (pu_CI (pu_I_imp H (fun y164 D165 H => ?_)))
  refine pu_aload_n rfl ?_
  refine pu_aload_n rfl ?_
  refine pu_iload_n rfl ?_
  refine pu_iconst ?_
  refine pu_iadd ?_
  refine pu_ialX H.1 ?_
  replace H := H.2
  refine pu_aload_n rfl ?_
  refine pu_iload_n rfl ?_
  refine pu_iconst ?_
  refine pu_iadd ?_
  refine pu_ialX H.1 ?_
  replace H := H.2
  refine pu_aload_n rfl ?_
  refine pu_iload_n rfl ?_
  refine pu_iconst ?_
  refine pu_iadd ?_
  refine pu_ialX H.1 ?_
  replace H := H.2
  refine pu_cv (vs := [.int (X.2 (x3 + 1).toNatClampNeg), .int (X.2 (x3 + 2).toNatClampNeg), .int (X.2 (x3 + 3).toNatClampNeg)]) (rest := [.int y164]) pu_g213 ⟨pu_c85, by decide⟩ rfl rfl rfl rfl rfl (pu_CI (pu_I_imp H (fun y166 D167 H => ?_)))
  refine pu_eq_ pu_t260_1732 (fun h168 => ?_) (fun h168 => ?_)
  · replace H := pu_t h168 H
    exact H 
  · replace H := pu_f h168 H
    refine pu_iconst ?_
    exact pu_iretZ pu_rt260 (by decide) H
theorem pu_u260_1093 {X : px_X} {x3 : Int32} {D : pu_D} {P : Int32 → pu_D → Prop}
    (H : (px_in (x3 + 1) X.1 = true) ∧ (px_in (x3 + 2) X.1 = true) ∧ (px_in (x3 + 3) X.1 = true) ∧ pu_I X 109 [.ref 0, .int (X.2 (x3 + 1).toNatClampNeg), .int (X.2 (x3 + 2).toNatClampNeg), .int (X.2 (x3 + 3).toNatClampNeg)] D (fun y169 D170 => (px_in (x3 + 1) X.1 = true) ∧ (px_in (x3 + 2) X.1 = true) ∧ (px_in (x3 + 3) X.1 = true) ∧ pu_I X 214 [.ref 85, .int (X.2 (x3 + 1).toNatClampNeg), .int (X.2 (x3 + 2).toNatClampNeg), .int (X.2 (x3 + 3).toNatClampNeg)] D170 (fun y171 D172 => if y169 = y171 then (pu_h260_1732 X x3 D172 P) else (P 0 D172)))) :
    pu_h260_1093 X x3 D P := by
  refine pu_aload_n rfl ?_
  refine pu_aload_n rfl ?_
  refine pu_iload_n rfl ?_
  refine pu_iconst ?_
  refine pu_iadd ?_
  refine pu_ialX H.1 ?_
  replace H := H.2
  refine pu_aload_n rfl ?_
  refine pu_iload_n rfl ?_
  refine pu_iconst ?_
  refine pu_iadd ?_
  refine pu_ialX H.1 ?_
  replace H := H.2
  refine pu_aload_n rfl ?_
  refine pu_iload_n rfl ?_
  refine pu_iconst ?_
  refine pu_iadd ?_
  refine pu_ialX H.1 ?_
  replace H := H.2
  refine pu_cv (vs := [.int (X.2 (x3 + 1).toNatClampNeg), .int (X.2 (x3 + 2).toNatClampNeg), .int (X.2 (x3 + 3).toNatClampNeg)]) (rest := []) pu_g109 ⟨pu_c0, by decide⟩ rfl rfl rfl rfl rfl (pu_CI (pu_I_imp H (fun y169 D170 H => ?_)))
  refine pu_aload_n rfl ?_
  refine pu_aload_n rfl ?_
  refine pu_iload_n rfl ?_
  refine pu_iconst ?_
  refine pu_iadd ?_
  refine pu_ialX H.1 ?_
  replace H := H.2
  refine pu_aload_n rfl ?_
  refine pu_iload_n rfl ?_
  refine pu_iconst ?_
  refine pu_iadd ?_
  refine pu_ialX H.1 ?_
  replace H := H.2
  refine pu_aload_n rfl ?_
  refine pu_iload_n rfl ?_
  refine pu_iconst ?_
  refine pu_iadd ?_
  refine pu_ialX H.1 ?_
  replace H := H.2
  refine pu_cv (vs := [.int (X.2 (x3 + 1).toNatClampNeg), .int (X.2 (x3 + 2).toNatClampNeg), .int (X.2 (x3 + 3).toNatClampNeg)]) (rest := [.int y169]) pu_g214 ⟨pu_c85, by decide⟩ rfl rfl rfl rfl rfl (pu_CI (pu_I_imp H (fun y171 D172 H => ?_)))
  refine pu_eq_ pu_t260_1732 (fun h173 => ?_) (fun h173 => ?_)
  · replace H := pu_t h173 H
    exact H 
  · replace H := pu_f h173 H
    refine pu_iconst ?_
    exact pu_iretZ pu_rt260 (by decide) H
theorem pu_u260_1136 {X : px_X} {x3 : Int32} {D : pu_D} {P : Int32 → pu_D → Prop}
    (H : (px_in (x3 + 1) X.1 = true) ∧ (px_in (x3 + 2) X.1 = true) ∧ pu_I X 110 [.ref 0, .int (X.2 (x3 + 1).toNatClampNeg), .int (X.2 (x3 + 2).toNatClampNeg)] D (fun y174 D175 => (px_in (x3 + 1) X.1 = true) ∧ (px_in (x3 + 2) X.1 = true) ∧ pu_I X 216 [.ref 85, .int (X.2 (x3 + 1).toNatClampNeg), .int (X.2 (x3 + 2).toNatClampNeg)] D175 (fun y176 D177 => if y174 = y176 then (pu_h260_1732 X x3 D177 P) else (P 0 D177)))) :
    pu_h260_1136 X x3 D P := by
  refine pu_aload_n rfl ?_
  refine pu_aload_n rfl ?_
  refine pu_iload_n rfl ?_
  refine pu_iconst ?_
  refine pu_iadd ?_
  refine pu_ialX H.1 ?_
  replace H := H.2
  refine pu_aload_n rfl ?_
  refine pu_iload_n rfl ?_
  refine pu_iconst ?_
  refine pu_iadd ?_
  refine pu_ialX H.1 ?_
  replace H := H.2
  refine pu_cv (vs := [.int (X.2 (x3 + 1).toNatClampNeg), .int (X.2 (x3 + 2).toNatClampNeg)]) (rest := []) pu_g110 ⟨pu_c0, by decide⟩ rfl rfl rfl rfl rfl (pu_CI (pu_I_imp H (fun y174 D175 H => ?_)))
  refine pu_aload_n rfl ?_
  refine pu_aload_n rfl ?_
  refine pu_iload_n rfl ?_
  refine pu_iconst ?_
  refine pu_iadd ?_
  refine pu_ialX H.1 ?_
  replace H := H.2
  refine pu_aload_n rfl ?_
  refine pu_iload_n rfl ?_
  refine pu_iconst ?_
  refine pu_iadd ?_
  refine pu_ialX H.1 ?_
  replace H := H.2
  refine pu_cv (vs := [.int (X.2 (x3 + 1).toNatClampNeg), .int (X.2 (x3 + 2).toNatClampNeg)]) (rest := [.int y174]) pu_g216 ⟨pu_c85, by decide⟩ rfl rfl rfl rfl rfl (pu_CI (pu_I_imp H (fun y176 D177 H => ?_)))
  refine pu_eq_ pu_t260_1732 (fun h178 => ?_) (fun h178 => ?_)
  · replace H := pu_t h178 H
    exact H 
  · replace H := pu_f h178 H
    refine pu_iconst ?_
    exact pu_iretZ pu_rt260 (by decide) H
theorem pu_u260_1169 {X : px_X} {x3 : Int32} {D : pu_D} {P : Int32 → pu_D → Prop}
    (H : (px_in (x3 + 1) X.1 = true) ∧ (px_in (x3 + 2) X.1 = true) ∧ pu_I X 111 [.ref 0, .int (X.2 (x3 + 1).toNatClampNeg), .int (X.2 (x3 + 2).toNatClampNeg)] D (fun y179 D180 => (px_in (x3 + 1) X.1 = true) ∧ (px_in (x3 + 2) X.1 = true) ∧ pu_I X 222 [.ref 85, .int (X.2 (x3 + 1).toNatClampNeg), .int (X.2 (x3 + 2).toNatClampNeg)] D180 (fun y181 D182 => if y179 = y181 then (pu_h260_1732 X x3 D182 P) else (P 0 D182)))) :
    pu_h260_1169 X x3 D P := by
  refine pu_aload_n rfl ?_
  refine pu_aload_n rfl ?_
  refine pu_iload_n rfl ?_
  refine pu_iconst ?_
  refine pu_iadd ?_
  refine pu_ialX H.1 ?_
  replace H := H.2
  refine pu_aload_n rfl ?_
  refine pu_iload_n rfl ?_
  refine pu_iconst ?_
  refine pu_iadd ?_
  refine pu_ialX H.1 ?_
  replace H := H.2
  refine pu_cv (vs := [.int (X.2 (x3 + 1).toNatClampNeg), .int (X.2 (x3 + 2).toNatClampNeg)]) (rest := []) pu_g111 ⟨pu_c0, by decide⟩ rfl rfl rfl rfl rfl (pu_CI (pu_I_imp H (fun y179 D180 H => ?_)))
  refine pu_aload_n rfl ?_
  refine pu_aload_n rfl ?_
  refine pu_iload_n rfl ?_
  refine pu_iconst ?_
  refine pu_iadd ?_
  refine pu_ialX H.1 ?_
  replace H := H.2
  refine pu_aload_n rfl ?_
  refine pu_iload_n rfl ?_
  refine pu_iconst ?_
  refine pu_iadd ?_
  refine pu_ialX H.1 ?_
  replace H := H.2
  refine pu_cv (vs := [.int (X.2 (x3 + 1).toNatClampNeg), .int (X.2 (x3 + 2).toNatClampNeg)]) (rest := [.int y179]) pu_g222 ⟨pu_c85, by decide⟩ rfl rfl rfl rfl rfl (pu_CI (pu_I_imp H (fun y181 D182 H => ?_)))
  refine pu_eq_ pu_t260_1732 (fun h183 => ?_) (fun h183 => ?_)
  · replace H := pu_t h183 H
    exact H 
  · replace H := pu_f h183 H
    refine pu_iconst ?_
    exact pu_iretZ pu_rt260 (by decide) H
theorem pu_u260_1202 {X : px_X} {x3 : Int32} {D : pu_D} {P : Int32 → pu_D → Prop}
    (H : (px_in (x3 + 1) X.1 = true) ∧ (px_in (x3 + 2) X.1 = true) ∧ pu_I X 112 [.ref 0, .int (X.2 (x3 + 1).toNatClampNeg), .int (X.2 (x3 + 2).toNatClampNeg)] D (fun y184 D185 => (px_in (x3 + 1) X.1 = true) ∧ (px_in (x3 + 2) X.1 = true) ∧ pu_I X 223 [.ref 85, .int (X.2 (x3 + 1).toNatClampNeg), .int (X.2 (x3 + 2).toNatClampNeg)] D185 (fun y186 D187 => if y184 = y186 then (pu_h260_1732 X x3 D187 P) else (P 0 D187)))) :
    pu_h260_1202 X x3 D P := by
  refine pu_aload_n rfl ?_
  refine pu_aload_n rfl ?_
  refine pu_iload_n rfl ?_
  refine pu_iconst ?_
  refine pu_iadd ?_
  refine pu_ialX H.1 ?_
  replace H := H.2
  refine pu_aload_n rfl ?_
  refine pu_iload_n rfl ?_
  refine pu_iconst ?_
  refine pu_iadd ?_
  refine pu_ialX H.1 ?_
  replace H := H.2
  refine pu_cv (vs := [.int (X.2 (x3 + 1).toNatClampNeg), .int (X.2 (x3 + 2).toNatClampNeg)]) (rest := []) pu_g112 ⟨pu_c0, by decide⟩ rfl rfl rfl rfl rfl (pu_CI (pu_I_imp H (fun y184 D185 H => ?_)))
  refine pu_aload_n rfl ?_
  refine pu_aload_n rfl ?_
  refine pu_iload_n rfl ?_
  refine pu_iconst ?_
  refine pu_iadd ?_
  refine pu_ialX H.1 ?_
  replace H := H.2
  refine pu_aload_n rfl ?_
  refine pu_iload_n rfl ?_
  refine pu_iconst ?_
  refine pu_iadd ?_
  refine pu_ialX H.1 ?_
  replace H := H.2
  refine pu_cv (vs := [.int (X.2 (x3 + 1).toNatClampNeg), .int (X.2 (x3 + 2).toNatClampNeg)]) (rest := [.int y184]) pu_g223 ⟨pu_c85, by decide⟩ rfl rfl rfl rfl rfl (pu_CI (pu_I_imp H (fun y186 D187 H => ?_)))
  refine pu_eq_ pu_t260_1732 (fun h188 => ?_) (fun h188 => ?_)
  · replace H := pu_t h188 H
    exact H 
  · replace H := pu_f h188 H
    refine pu_iconst ?_
    exact pu_iretZ pu_rt260 (by decide) H
theorem pu_u260_1235 {X : px_X} {x3 : Int32} {D : pu_D} {P : Int32 → pu_D → Prop}
    (H : (px_in (x3 + 1) X.1 = true) ∧ (px_in (x3 + 2) X.1 = true) ∧ pu_I X 113 [.ref 0, .int (X.2 (x3 + 1).toNatClampNeg), .int (X.2 (x3 + 2).toNatClampNeg)] D (fun y189 D190 => (px_in (x3 + 1) X.1 = true) ∧ (px_in (x3 + 2) X.1 = true) ∧ pu_I X 224 [.ref 85, .int (X.2 (x3 + 1).toNatClampNeg), .int (X.2 (x3 + 2).toNatClampNeg)] D190 (fun y191 D192 => if y189 = y191 then (pu_h260_1732 X x3 D192 P) else (P 0 D192)))) :
    pu_h260_1235 X x3 D P := by
  refine pu_aload_n rfl ?_
  refine pu_aload_n rfl ?_
  refine pu_iload_n rfl ?_
  refine pu_iconst ?_
  refine pu_iadd ?_
  refine pu_ialX H.1 ?_
  replace H := H.2
  refine pu_aload_n rfl ?_
  refine pu_iload_n rfl ?_
  refine pu_iconst ?_
  refine pu_iadd ?_
  refine pu_ialX H.1 ?_
  replace H := H.2
  refine pu_cv (vs := [.int (X.2 (x3 + 1).toNatClampNeg), .int (X.2 (x3 + 2).toNatClampNeg)]) (rest := []) pu_g113 ⟨pu_c0, by decide⟩ rfl rfl rfl rfl rfl (pu_CI (pu_I_imp H (fun y189 D190 H => ?_)))
  refine pu_aload_n rfl ?_
  refine pu_aload_n rfl ?_
  refine pu_iload_n rfl ?_
  refine pu_iconst ?_
  refine pu_iadd ?_
  refine pu_ialX H.1 ?_
  replace H := H.2
  refine pu_aload_n rfl ?_
  refine pu_iload_n rfl ?_
  refine pu_iconst ?_
  refine pu_iadd ?_
  refine pu_ialX H.1 ?_
  replace H := H.2
  refine pu_cv (vs := [.int (X.2 (x3 + 1).toNatClampNeg), .int (X.2 (x3 + 2).toNatClampNeg)]) (rest := [.int y189]) pu_g224 ⟨pu_c85, by decide⟩ rfl rfl rfl rfl rfl (pu_CI (pu_I_imp H (fun y191 D192 H => ?_)))
  refine pu_eq_ pu_t260_1732 (fun h193 => ?_) (fun h193 => ?_)
  · replace H := pu_t h193 H
    exact H 
  · replace H := pu_f h193 H
    refine pu_iconst ?_
    exact pu_iretZ pu_rt260 (by decide) H
theorem pu_u260_1268 {X : px_X} {x3 : Int32} {D : pu_D} {P : Int32 → pu_D → Prop}
    (H : (px_in (x3 + 1) X.1 = true) ∧ (px_in (x3 + 2) X.1 = true) ∧ pu_I X 114 [.ref 0, .int (X.2 (x3 + 1).toNatClampNeg), .int (X.2 (x3 + 2).toNatClampNeg)] D (fun y194 D195 => (px_in (x3 + 1) X.1 = true) ∧ (px_in (x3 + 2) X.1 = true) ∧ pu_I X 225 [.ref 85, .int (X.2 (x3 + 1).toNatClampNeg), .int (X.2 (x3 + 2).toNatClampNeg)] D195 (fun y196 D197 => if y194 = y196 then (pu_h260_1732 X x3 D197 P) else (P 0 D197)))) :
    pu_h260_1268 X x3 D P := by
  refine pu_aload_n rfl ?_
  refine pu_aload_n rfl ?_
  refine pu_iload_n rfl ?_
  refine pu_iconst ?_
  refine pu_iadd ?_
  refine pu_ialX H.1 ?_
  replace H := H.2
  refine pu_aload_n rfl ?_
  refine pu_iload_n rfl ?_
  refine pu_iconst ?_
  refine pu_iadd ?_
  refine pu_ialX H.1 ?_
  replace H := H.2
  refine pu_cv (vs := [.int (X.2 (x3 + 1).toNatClampNeg), .int (X.2 (x3 + 2).toNatClampNeg)]) (rest := []) pu_g114 ⟨pu_c0, by decide⟩ rfl rfl rfl rfl rfl (pu_CI (pu_I_imp H (fun y194 D195 H => ?_)))
  refine pu_aload_n rfl ?_
  refine pu_aload_n rfl ?_
  refine pu_iload_n rfl ?_
  refine pu_iconst ?_
  refine pu_iadd ?_
  refine pu_ialX H.1 ?_
  replace H := H.2
  refine pu_aload_n rfl ?_
  refine pu_iload_n rfl ?_
  refine pu_iconst ?_
  refine pu_iadd ?_
  refine pu_ialX H.1 ?_
  replace H := H.2
  refine pu_cv (vs := [.int (X.2 (x3 + 1).toNatClampNeg), .int (X.2 (x3 + 2).toNatClampNeg)]) (rest := [.int y194]) pu_g225 ⟨pu_c85, by decide⟩ rfl rfl rfl rfl rfl (pu_CI (pu_I_imp H (fun y196 D197 H => ?_)))
  refine pu_eq_ pu_t260_1732 (fun h198 => ?_) (fun h198 => ?_)
  · replace H := pu_t h198 H
    exact H 
  · replace H := pu_f h198 H
    refine pu_iconst ?_
    exact pu_iretZ pu_rt260 (by decide) H
theorem pu_u260_1301 {X : px_X} {x3 : Int32} {D : pu_D} {P : Int32 → pu_D → Prop}
    (H : (px_in (x3 + 1) X.1 = true) ∧ pu_I X 115 [.ref 0, .int (X.2 (x3 + 1).toNatClampNeg)] D (fun y199 D200 => (px_in (x3 + 1) X.1 = true) ∧ pu_I X 226 [.ref 85, .int (X.2 (x3 + 1).toNatClampNeg)] D200 (fun y201 D202 => if y199 = y201 then (pu_h260_1732 X x3 D202 P) else (P 0 D202)))) :
    pu_h260_1301 X x3 D P := by
  refine pu_aload_n rfl ?_
  refine pu_aload_n rfl ?_
  refine pu_iload_n rfl ?_
  refine pu_iconst ?_
  refine pu_iadd ?_
  refine pu_ialX H.1 ?_
  replace H := H.2
  refine pu_cv (vs := [.int (X.2 (x3 + 1).toNatClampNeg)]) (rest := []) pu_g115 ⟨pu_c0, by decide⟩ rfl rfl rfl rfl rfl (pu_CI (pu_I_imp H (fun y199 D200 H => ?_)))
  refine pu_aload_n rfl ?_
  refine pu_aload_n rfl ?_
  refine pu_iload_n rfl ?_
  refine pu_iconst ?_
  refine pu_iadd ?_
  refine pu_ialX H.1 ?_
  replace H := H.2
  refine pu_cv (vs := [.int (X.2 (x3 + 1).toNatClampNeg)]) (rest := [.int y199]) pu_g226 ⟨pu_c85, by decide⟩ rfl rfl rfl rfl rfl (pu_CI (pu_I_imp H (fun y201 D202 H => ?_)))
  refine pu_eq_ pu_t260_1732 (fun h203 => ?_) (fun h203 => ?_)
  · replace H := pu_t h203 H
    exact H 
  · replace H := pu_f h203 H
    refine pu_iconst ?_
    exact pu_iretZ pu_rt260 (by decide) H
theorem pu_u260_1324 {X : px_X} {x3 : Int32} {D : pu_D} {P : Int32 → pu_D → Prop}
    (H : (px_in (x3 + 1) X.1 = true) ∧ pu_I X 116 [.ref 0, .int (X.2 (x3 + 1).toNatClampNeg)] D (fun y204 D205 => (px_in (x3 + 1) X.1 = true) ∧ pu_I X 227 [.ref 85, .int (X.2 (x3 + 1).toNatClampNeg)] D205 (fun y206 D207 => if y204 = y206 then (pu_h260_1732 X x3 D207 P) else (P 0 D207)))) :
    pu_h260_1324 X x3 D P := by
  refine pu_aload_n rfl ?_
  refine pu_aload_n rfl ?_
  refine pu_iload_n rfl ?_
  refine pu_iconst ?_
  refine pu_iadd ?_
  refine pu_ialX H.1 ?_
  replace H := H.2
  refine pu_cv (vs := [.int (X.2 (x3 + 1).toNatClampNeg)]) (rest := []) pu_g116 ⟨pu_c0, by decide⟩ rfl rfl rfl rfl rfl (pu_CI (pu_I_imp H (fun y204 D205 H => ?_)))
  refine pu_aload_n rfl ?_
  refine pu_aload_n rfl ?_
  refine pu_iload_n rfl ?_
  refine pu_iconst ?_
  refine pu_iadd ?_
  refine pu_ialX H.1 ?_
  replace H := H.2
  refine pu_cv (vs := [.int (X.2 (x3 + 1).toNatClampNeg)]) (rest := [.int y204]) pu_g227 ⟨pu_c85, by decide⟩ rfl rfl rfl rfl rfl (pu_CI (pu_I_imp H (fun y206 D207 H => ?_)))
  refine pu_eq_ pu_t260_1732 (fun h208 => ?_) (fun h208 => ?_)
  · replace H := pu_t h208 H
    exact H 
  · replace H := pu_f h208 H
    refine pu_iconst ?_
    exact pu_iretZ pu_rt260 (by decide) H
theorem pu_u260_1347 {X : px_X} {x3 : Int32} {D : pu_D} {P : Int32 → pu_D → Prop}
    (H : pu_I X 117 [.ref 0] D (fun y209 D210 => pu_I X 228 [.ref 85] D210 (fun y211 D212 => if y209 = y211 then (pu_h260_1732 X x3 D212 P) else (P 0 D212)))) :
    pu_h260_1347 X x3 D P := by
  refine pu_aload_n rfl ?_
  refine pu_cv (vs := []) (rest := []) pu_g117 ⟨pu_c0, by decide⟩ rfl rfl rfl rfl rfl (pu_CI (pu_I_imp H (fun y209 D210 H => ?_)))
  refine pu_aload_n rfl ?_
  refine pu_cv (vs := []) (rest := [.int y209]) pu_g228 ⟨pu_c85, by decide⟩ rfl rfl rfl rfl rfl (pu_CI (pu_I_imp H (fun y211 D212 H => ?_)))
  refine pu_eq_ pu_t260_1732 (fun h213 => ?_) (fun h213 => ?_)
  · replace H := pu_t h213 H
    exact H 
  · replace H := pu_f h213 H
    refine pu_iconst ?_
    exact pu_iretZ pu_rt260 (by decide) H
theorem pu_u260_1360 {X : px_X} {x3 : Int32} {D : pu_D} {P : Int32 → pu_D → Prop}
    (H : (px_in (x3 + 1) X.1 = true) ∧ (px_in (x3 + 2) X.1 = true) ∧ (px_in (x3 + 3) X.1 = true) ∧ pu_I X 118 [.ref 0, .int (X.2 (x3 + 1).toNatClampNeg), .int (X.2 (x3 + 2).toNatClampNeg), .int (X.2 (x3 + 3).toNatClampNeg)] D (fun y214 D215 => (px_in (x3 + 1) X.1 = true) ∧ (px_in (x3 + 2) X.1 = true) ∧ (px_in (x3 + 3) X.1 = true) ∧ pu_I X 229 [.ref 85, .int (X.2 (x3 + 1).toNatClampNeg), .int (X.2 (x3 + 2).toNatClampNeg), .int (X.2 (x3 + 3).toNatClampNeg)] D215 (fun y216 D217 => if y214 = y216 then (pu_h260_1732 X x3 D217 P) else (P 0 D217)))) :
    pu_h260_1360 X x3 D P := by
  refine pu_aload_n rfl ?_
  refine pu_aload_n rfl ?_
  refine pu_iload_n rfl ?_
  refine pu_iconst ?_
  refine pu_iadd ?_
  refine pu_ialX H.1 ?_
  replace H := H.2
  refine pu_aload_n rfl ?_
  refine pu_iload_n rfl ?_
  refine pu_iconst ?_
  refine pu_iadd ?_
  refine pu_ialX H.1 ?_
  replace H := H.2
  refine pu_aload_n rfl ?_
  refine pu_iload_n rfl ?_
  refine pu_iconst ?_
  refine pu_iadd ?_
  refine pu_ialX H.1 ?_
  replace H := H.2
  refine pu_cv (vs := [.int (X.2 (x3 + 1).toNatClampNeg), .int (X.2 (x3 + 2).toNatClampNeg), .int (X.2 (x3 + 3).toNatClampNeg)]) (rest := []) pu_g118 ⟨pu_c0, by decide⟩ rfl rfl rfl rfl rfl (pu_CI (pu_I_imp H (fun y214 D215 H => ?_)))
  refine pu_aload_n rfl ?_
  refine pu_aload_n rfl ?_
  refine pu_iload_n rfl ?_
  refine pu_iconst ?_
  refine pu_iadd ?_
  refine pu_ialX H.1 ?_
  replace H := H.2
  refine pu_aload_n rfl ?_
  refine pu_iload_n rfl ?_
  refine pu_iconst ?_
  refine pu_iadd ?_
  refine pu_ialX H.1 ?_
  replace H := H.2
  refine pu_aload_n rfl ?_
  refine pu_iload_n rfl ?_
  refine pu_iconst ?_
  refine pu_iadd ?_
  refine pu_ialX H.1 ?_
  replace H := H.2
  refine pu_cv (vs := [.int (X.2 (x3 + 1).toNatClampNeg), .int (X.2 (x3 + 2).toNatClampNeg), .int (X.2 (x3 + 3).toNatClampNeg)]) (rest := [.int y214]) pu_g229 ⟨pu_c85, by decide⟩ rfl rfl rfl rfl rfl (pu_CI (pu_I_imp H (fun y216 D217 H => ?_)))
  refine pu_eq_ pu_t260_1732 (fun h218 => ?_) (fun h218 => ?_)
  · replace H := pu_t h218 H
    exact H 
  · replace H := pu_f h218 H
    refine pu_iconst ?_
    exact pu_iretZ pu_rt260 (by decide) H
theorem pu_u260_1403 {X : px_X} {x3 : Int32} {D : pu_D} {P : Int32 → pu_D → Prop}
    (H : (px_in (x3 + 1) X.1 = true) ∧ (px_in (x3 + 2) X.1 = true) ∧ pu_I X 119 [.ref 0, .int (X.2 (x3 + 1).toNatClampNeg), .int (X.2 (x3 + 2).toNatClampNeg)] D (fun y219 D220 => (px_in (x3 + 1) X.1 = true) ∧ (px_in (x3 + 2) X.1 = true) ∧ pu_I X 230 [.ref 85, .int (X.2 (x3 + 1).toNatClampNeg), .int (X.2 (x3 + 2).toNatClampNeg)] D220 (fun y221 D222 => if y219 = y221 then (pu_h260_1732 X x3 D222 P) else (P 0 D222)))) :
    pu_h260_1403 X x3 D P := by
  refine pu_aload_n rfl ?_
  refine pu_aload_n rfl ?_
  refine pu_iload_n rfl ?_
  refine pu_iconst ?_
  refine pu_iadd ?_
  refine pu_ialX H.1 ?_
  replace H := H.2
  refine pu_aload_n rfl ?_
  refine pu_iload_n rfl ?_
  refine pu_iconst ?_
  refine pu_iadd ?_
  refine pu_ialX H.1 ?_
  replace H := H.2
  refine pu_cv (vs := [.int (X.2 (x3 + 1).toNatClampNeg), .int (X.2 (x3 + 2).toNatClampNeg)]) (rest := []) pu_g119 ⟨pu_c0, by decide⟩ rfl rfl rfl rfl rfl (pu_CI (pu_I_imp H (fun y219 D220 H => ?_)))
  refine pu_aload_n rfl ?_
  refine pu_aload_n rfl ?_
  refine pu_iload_n rfl ?_
  refine pu_iconst ?_
  refine pu_iadd ?_
  refine pu_ialX H.1 ?_
  replace H := H.2
  refine pu_aload_n rfl ?_
  refine pu_iload_n rfl ?_
  refine pu_iconst ?_
  refine pu_iadd ?_
  refine pu_ialX H.1 ?_
  replace H := H.2
  refine pu_cv (vs := [.int (X.2 (x3 + 1).toNatClampNeg), .int (X.2 (x3 + 2).toNatClampNeg)]) (rest := [.int y219]) pu_g230 ⟨pu_c85, by decide⟩ rfl rfl rfl rfl rfl (pu_CI (pu_I_imp H (fun y221 D222 H => ?_)))
  refine pu_eq_ pu_t260_1732 (fun h223 => ?_) (fun h223 => ?_)
  · replace H := pu_t h223 H
    exact H 
  · replace H := pu_f h223 H
    refine pu_iconst ?_
    exact pu_iretZ pu_rt260 (by decide) H
theorem pu_u260_1436 {X : px_X} {x3 : Int32} {D : pu_D} {P : Int32 → pu_D → Prop}
    (H : (px_in (x3 + 1) X.1 = true) ∧ pu_I X 120 [.ref 0, .int (X.2 (x3 + 1).toNatClampNeg)] D (fun y224 D225 => (px_in (x3 + 1) X.1 = true) ∧ pu_I X 231 [.ref 85, .int (X.2 (x3 + 1).toNatClampNeg)] D225 (fun y226 D227 => if y224 = y226 then (pu_h260_1732 X x3 D227 P) else (P 0 D227)))) :
    pu_h260_1436 X x3 D P := by
  refine pu_aload_n rfl ?_
  refine pu_aload_n rfl ?_
  refine pu_iload_n rfl ?_
  refine pu_iconst ?_
  refine pu_iadd ?_
  refine pu_ialX H.1 ?_
  replace H := H.2
  refine pu_cv (vs := [.int (X.2 (x3 + 1).toNatClampNeg)]) (rest := []) pu_g120 ⟨pu_c0, by decide⟩ rfl rfl rfl rfl rfl (pu_CI (pu_I_imp H (fun y224 D225 H => ?_)))
  refine pu_aload_n rfl ?_
  refine pu_aload_n rfl ?_
  refine pu_iload_n rfl ?_
  refine pu_iconst ?_
  refine pu_iadd ?_
  refine pu_ialX H.1 ?_
  replace H := H.2
  refine pu_cv (vs := [.int (X.2 (x3 + 1).toNatClampNeg)]) (rest := [.int y224]) pu_g231 ⟨pu_c85, by decide⟩ rfl rfl rfl rfl rfl (pu_CI (pu_I_imp H (fun y226 D227 H => ?_)))
  refine pu_eq_ pu_t260_1732 (fun h228 => ?_) (fun h228 => ?_)
  · replace H := pu_t h228 H
    exact H 
  · replace H := pu_f h228 H
    refine pu_iconst ?_
    exact pu_iretZ pu_rt260 (by decide) H
theorem pu_u260_1459 {X : px_X} {x3 : Int32} {D : pu_D} {P : Int32 → pu_D → Prop}
    (H : (px_in (x3 + 1) X.1 = true) ∧ (px_in (x3 + 2) X.1 = true) ∧ if (X.2 (x3 + 2).toNatClampNeg) = 0 then (pu_I X 121 [.ref 0, .int (X.2 (x3 + 1).toNatClampNeg), .int 0] D (fun y230 D231 => (px_in (x3 + 1) X.1 = true) ∧ (px_in (x3 + 2) X.1 = true) ∧ if (X.2 (x3 + 2).toNatClampNeg) = 0 then (pu_I X 232 [.ref 85, .int (X.2 (x3 + 1).toNatClampNeg), .int 0] D231 (fun y233 D234 => if y230 = y233 then (pu_h260_1732 X x3 D234 P) else (P 0 D234))) else (pu_I X 232 [.ref 85, .int (X.2 (x3 + 1).toNatClampNeg), .int 1] D231 (fun y236 D237 => if y230 = y236 then (pu_h260_1732 X x3 D237 P) else (P 0 D237))))) else (pu_I X 121 [.ref 0, .int (X.2 (x3 + 1).toNatClampNeg), .int 1] D (fun y239 D240 => (px_in (x3 + 1) X.1 = true) ∧ (px_in (x3 + 2) X.1 = true) ∧ if (X.2 (x3 + 2).toNatClampNeg) = 0 then (pu_I X 232 [.ref 85, .int (X.2 (x3 + 1).toNatClampNeg), .int 0] D240 (fun y242 D243 => if y239 = y242 then (pu_h260_1732 X x3 D243 P) else (P 0 D243))) else (pu_I X 232 [.ref 85, .int (X.2 (x3 + 1).toNatClampNeg), .int 1] D240 (fun y245 D246 => if y239 = y245 then (pu_h260_1732 X x3 D246 P) else (P 0 D246)))))) :
    pu_h260_1459 X x3 D P := by
  refine pu_aload_n rfl ?_
  refine pu_aload_n rfl ?_
  refine pu_iload_n rfl ?_
  refine pu_iconst ?_
  refine pu_iadd ?_
  refine pu_ialX H.1 ?_
  replace H := H.2
  refine pu_aload_n rfl ?_
  refine pu_iload_n rfl ?_
  refine pu_iconst ?_
  refine pu_iadd ?_
  refine pu_ialX H.1 ?_
  replace H := H.2
  refine pu_eq0 pu_t260_1477 (fun h229 => ?_) (fun h229 => ?_)
  · replace H := pu_t h229 H
    refine pu_iconst ?_
    refine pu_cv (vs := [.int (X.2 (x3 + 1).toNatClampNeg), .int 0]) (rest := []) pu_g121 ⟨pu_c0, by decide⟩ rfl rfl rfl rfl rfl (pu_CI (pu_I_imp H (fun y230 D231 H => ?_)))
    refine pu_aload_n rfl ?_
    refine pu_aload_n rfl ?_
    refine pu_iload_n rfl ?_
    refine pu_iconst ?_
    refine pu_iadd ?_
    refine pu_ialX H.1 ?_
    replace H := H.2
    refine pu_aload_n rfl ?_
    refine pu_iload_n rfl ?_
    refine pu_iconst ?_
    refine pu_iadd ?_
    refine pu_ialX H.1 ?_
    replace H := H.2
    refine pu_eq0 pu_t260_1499 (fun h232 => ?_) (fun h232 => ?_)
    · replace H := pu_t h232 H
      refine pu_iconst ?_
      refine pu_cv (vs := [.int (X.2 (x3 + 1).toNatClampNeg), .int 0]) (rest := [.int y230]) pu_g232 ⟨pu_c85, by decide⟩ rfl rfl rfl rfl rfl (pu_CI (pu_I_imp H (fun y233 D234 H => ?_)))
      refine pu_eq_ pu_t260_1732 (fun h235 => ?_) (fun h235 => ?_)
      · replace H := pu_t h235 H
        exact H 
      · replace H := pu_f h235 H
        refine pu_iconst ?_
        exact pu_iretZ pu_rt260 (by decide) H
    · replace H := pu_f h232 H
      refine pu_iconst ?_
      refine pu_goto pu_t260_1500 ?_
      refine pu_cv (vs := [.int (X.2 (x3 + 1).toNatClampNeg), .int 1]) (rest := [.int y230]) pu_g232 ⟨pu_c85, by decide⟩ rfl rfl rfl rfl rfl (pu_CI (pu_I_imp H (fun y236 D237 H => ?_)))
      refine pu_eq_ pu_t260_1732 (fun h238 => ?_) (fun h238 => ?_)
      · replace H := pu_t h238 H
        exact H 
      · replace H := pu_f h238 H
        refine pu_iconst ?_
        exact pu_iretZ pu_rt260 (by decide) H
  · replace H := pu_f h229 H
    refine pu_iconst ?_
    refine pu_goto pu_t260_1478 ?_
    refine pu_cv (vs := [.int (X.2 (x3 + 1).toNatClampNeg), .int 1]) (rest := []) pu_g121 ⟨pu_c0, by decide⟩ rfl rfl rfl rfl rfl (pu_CI (pu_I_imp H (fun y239 D240 H => ?_)))
    refine pu_aload_n rfl ?_
    refine pu_aload_n rfl ?_
    refine pu_iload_n rfl ?_
    refine pu_iconst ?_
    refine pu_iadd ?_
    refine pu_ialX H.1 ?_
    replace H := H.2
    refine pu_aload_n rfl ?_
    refine pu_iload_n rfl ?_
    refine pu_iconst ?_
    refine pu_iadd ?_
    refine pu_ialX H.1 ?_
    replace H := H.2
    refine pu_eq0 pu_t260_1499 (fun h241 => ?_) (fun h241 => ?_)
    · replace H := pu_t h241 H
      refine pu_iconst ?_
      refine pu_cv (vs := [.int (X.2 (x3 + 1).toNatClampNeg), .int 0]) (rest := [.int y239]) pu_g232 ⟨pu_c85, by decide⟩ rfl rfl rfl rfl rfl (pu_CI (pu_I_imp H (fun y242 D243 H => ?_)))
      refine pu_eq_ pu_t260_1732 (fun h244 => ?_) (fun h244 => ?_)
      · replace H := pu_t h244 H
        exact H 
      · replace H := pu_f h244 H
        refine pu_iconst ?_
        exact pu_iretZ pu_rt260 (by decide) H
    · replace H := pu_f h241 H
      refine pu_iconst ?_
      refine pu_goto pu_t260_1500 ?_
      refine pu_cv (vs := [.int (X.2 (x3 + 1).toNatClampNeg), .int 1]) (rest := [.int y239]) pu_g232 ⟨pu_c85, by decide⟩ rfl rfl rfl rfl rfl (pu_CI (pu_I_imp H (fun y245 D246 H => ?_)))
      refine pu_eq_ pu_t260_1732 (fun h247 => ?_) (fun h247 => ?_)
      · replace H := pu_t h247 H
        exact H 
      · replace H := pu_f h247 H
        refine pu_iconst ?_
        exact pu_iretZ pu_rt260 (by decide) H
theorem pu_u260_1508 {X : px_X} {x3 : Int32} {D : pu_D} {P : Int32 → pu_D → Prop}
    (H : (px_in (x3 + 1) X.1 = true) ∧ (px_in (x3 + 2) X.1 = true) ∧ pu_I X 122 [.ref 0, .int (X.2 (x3 + 1).toNatClampNeg), .int (X.2 (x3 + 2).toNatClampNeg)] D (fun y248 D249 => (px_in (x3 + 1) X.1 = true) ∧ (px_in (x3 + 2) X.1 = true) ∧ pu_I X 233 [.ref 85, .int (X.2 (x3 + 1).toNatClampNeg), .int (X.2 (x3 + 2).toNatClampNeg)] D249 (fun y250 D251 => if y248 = y250 then (pu_h260_1732 X x3 D251 P) else (P 0 D251)))) :
    pu_h260_1508 X x3 D P := by
  refine pu_aload_n rfl ?_
  refine pu_aload_n rfl ?_
  refine pu_iload_n rfl ?_
  refine pu_iconst ?_
  refine pu_iadd ?_
  refine pu_ialX H.1 ?_
  replace H := H.2
  refine pu_aload_n rfl ?_
  refine pu_iload_n rfl ?_
  refine pu_iconst ?_
  refine pu_iadd ?_
  refine pu_ialX H.1 ?_
  replace H := H.2
  refine pu_cv (vs := [.int (X.2 (x3 + 1).toNatClampNeg), .int (X.2 (x3 + 2).toNatClampNeg)]) (rest := []) pu_g122 ⟨pu_c0, by decide⟩ rfl rfl rfl rfl rfl (pu_CI (pu_I_imp H (fun y248 D249 H => ?_)))
  refine pu_aload_n rfl ?_
  refine pu_aload_n rfl ?_
  refine pu_iload_n rfl ?_
  refine pu_iconst ?_
  refine pu_iadd ?_
  refine pu_ialX H.1 ?_
  replace H := H.2
  refine pu_aload_n rfl ?_
  refine pu_iload_n rfl ?_
  refine pu_iconst ?_
  refine pu_iadd ?_
  refine pu_ialX H.1 ?_
  replace H := H.2
  refine pu_cv (vs := [.int (X.2 (x3 + 1).toNatClampNeg), .int (X.2 (x3 + 2).toNatClampNeg)]) (rest := [.int y248]) pu_g233 ⟨pu_c85, by decide⟩ rfl rfl rfl rfl rfl (pu_CI (pu_I_imp H (fun y250 D251 H => ?_)))
  refine pu_eq_ pu_t260_1732 (fun h252 => ?_) (fun h252 => ?_)
  · replace H := pu_t h252 H
    exact H 
  · replace H := pu_f h252 H
    refine pu_iconst ?_
    exact pu_iretZ pu_rt260 (by decide) H
theorem pu_u260_1541 {X : px_X} {x3 : Int32} {D : pu_D} {P : Int32 → pu_D → Prop}
    (H : (px_in (x3 + 1) X.1 = true) ∧ (px_in (x3 + 2) X.1 = true) ∧ pu_I X 123 [.ref 0, .int (X.2 (x3 + 1).toNatClampNeg), .int (X.2 (x3 + 2).toNatClampNeg)] D (fun y253 D254 => (px_in (x3 + 1) X.1 = true) ∧ (px_in (x3 + 2) X.1 = true) ∧ pu_I X 234 [.ref 85, .int (X.2 (x3 + 1).toNatClampNeg), .int (X.2 (x3 + 2).toNatClampNeg)] D254 (fun y255 D256 => if y253 = y255 then (pu_h260_1732 X x3 D256 P) else (P 0 D256)))) :
    pu_h260_1541 X x3 D P := by
  refine pu_aload_n rfl ?_
  refine pu_aload_n rfl ?_
  refine pu_iload_n rfl ?_
  refine pu_iconst ?_
  refine pu_iadd ?_
  refine pu_ialX H.1 ?_
  replace H := H.2
  refine pu_aload_n rfl ?_
  refine pu_iload_n rfl ?_
  refine pu_iconst ?_
  refine pu_iadd ?_
  refine pu_ialX H.1 ?_
  replace H := H.2
  refine pu_cv (vs := [.int (X.2 (x3 + 1).toNatClampNeg), .int (X.2 (x3 + 2).toNatClampNeg)]) (rest := []) pu_g123 ⟨pu_c0, by decide⟩ rfl rfl rfl rfl rfl (pu_CI (pu_I_imp H (fun y253 D254 H => ?_)))
  refine pu_aload_n rfl ?_
  refine pu_aload_n rfl ?_
  refine pu_iload_n rfl ?_
  refine pu_iconst ?_
  refine pu_iadd ?_
  refine pu_ialX H.1 ?_
  replace H := H.2
  refine pu_aload_n rfl ?_
  refine pu_iload_n rfl ?_
  refine pu_iconst ?_
  refine pu_iadd ?_
  refine pu_ialX H.1 ?_
  replace H := H.2
  refine pu_cv (vs := [.int (X.2 (x3 + 1).toNatClampNeg), .int (X.2 (x3 + 2).toNatClampNeg)]) (rest := [.int y253]) pu_g234 ⟨pu_c85, by decide⟩ rfl rfl rfl rfl rfl (pu_CI (pu_I_imp H (fun y255 D256 H => ?_)))
  refine pu_eq_ pu_t260_1732 (fun h257 => ?_) (fun h257 => ?_)
  · replace H := pu_t h257 H
    exact H 
  · replace H := pu_f h257 H
    refine pu_iconst ?_
    exact pu_iretZ pu_rt260 (by decide) H
theorem pu_u260_1574 {X : px_X} {x3 : Int32} {D : pu_D} {P : Int32 → pu_D → Prop}
    (H : (px_in (x3 + 1) X.1 = true) ∧ (px_in (x3 + 2) X.1 = true) ∧ (px_in (x3 + 3) X.1 = true) ∧ pu_I X 124 [.ref 0, .int (X.2 (x3 + 1).toNatClampNeg), .int (X.2 (x3 + 2).toNatClampNeg), .int (X.2 (x3 + 3).toNatClampNeg)] D (fun y258 D259 => (px_in (x3 + 1) X.1 = true) ∧ (px_in (x3 + 2) X.1 = true) ∧ (px_in (x3 + 3) X.1 = true) ∧ pu_I X 235 [.ref 85, .int (X.2 (x3 + 1).toNatClampNeg), .int (X.2 (x3 + 2).toNatClampNeg), .int (X.2 (x3 + 3).toNatClampNeg)] D259 (fun y260 D261 => if y258 = y260 then (pu_h260_1732 X x3 D261 P) else (P 0 D261)))) :
    pu_h260_1574 X x3 D P := by
  refine pu_aload_n rfl ?_
  refine pu_aload_n rfl ?_
  refine pu_iload_n rfl ?_
  refine pu_iconst ?_
  refine pu_iadd ?_
  refine pu_ialX H.1 ?_
  replace H := H.2
  refine pu_aload_n rfl ?_
  refine pu_iload_n rfl ?_
  refine pu_iconst ?_
  refine pu_iadd ?_
  refine pu_ialX H.1 ?_
  replace H := H.2
  refine pu_aload_n rfl ?_
  refine pu_iload_n rfl ?_
  refine pu_iconst ?_
  refine pu_iadd ?_
  refine pu_ialX H.1 ?_
  replace H := H.2
  refine pu_cv (vs := [.int (X.2 (x3 + 1).toNatClampNeg), .int (X.2 (x3 + 2).toNatClampNeg), .int (X.2 (x3 + 3).toNatClampNeg)]) (rest := []) pu_g124 ⟨pu_c0, by decide⟩ rfl rfl rfl rfl rfl (pu_CI (pu_I_imp H (fun y258 D259 H => ?_)))
  refine pu_aload_n rfl ?_
  refine pu_aload_n rfl ?_
  refine pu_iload_n rfl ?_
  refine pu_iconst ?_
  refine pu_iadd ?_
  refine pu_ialX H.1 ?_
  replace H := H.2
  refine pu_aload_n rfl ?_
  refine pu_iload_n rfl ?_
  refine pu_iconst ?_
  refine pu_iadd ?_
  refine pu_ialX H.1 ?_
  replace H := H.2
  refine pu_aload_n rfl ?_
  refine pu_iload_n rfl ?_
  refine pu_iconst ?_
  refine pu_iadd ?_
  refine pu_ialX H.1 ?_
  replace H := H.2
  refine pu_cv (vs := [.int (X.2 (x3 + 1).toNatClampNeg), .int (X.2 (x3 + 2).toNatClampNeg), .int (X.2 (x3 + 3).toNatClampNeg)]) (rest := [.int y258]) pu_g235 ⟨pu_c85, by decide⟩ rfl rfl rfl rfl rfl (pu_CI (pu_I_imp H (fun y260 D261 H => ?_)))
  refine pu_eq_ pu_t260_1732 (fun h262 => ?_) (fun h262 => ?_)
  · replace H := pu_t h262 H
    exact H 
  · replace H := pu_f h262 H
    refine pu_iconst ?_
    exact pu_iretZ pu_rt260 (by decide) H
theorem pu_u260_1617 {X : px_X} {x3 : Int32} {D : pu_D} {P : Int32 → pu_D → Prop}
    (H : (px_in (x3 + 1) X.1 = true) ∧ (px_in (x3 + 2) X.1 = true) ∧ (px_in (x3 + 3) X.1 = true) ∧ pu_I X 125 [.ref 0, .int (X.2 (x3 + 1).toNatClampNeg), .int (X.2 (x3 + 2).toNatClampNeg), .int (X.2 (x3 + 3).toNatClampNeg)] D (fun y263 D264 => (px_in (x3 + 1) X.1 = true) ∧ (px_in (x3 + 2) X.1 = true) ∧ (px_in (x3 + 3) X.1 = true) ∧ pu_I X 240 [.ref 85, .int (X.2 (x3 + 1).toNatClampNeg), .int (X.2 (x3 + 2).toNatClampNeg), .int (X.2 (x3 + 3).toNatClampNeg)] D264 (fun y265 D266 => if y263 = y265 then (pu_h260_1732 X x3 D266 P) else (P 0 D266)))) :
    pu_h260_1617 X x3 D P := by
  refine pu_aload_n rfl ?_
  refine pu_aload_n rfl ?_
  refine pu_iload_n rfl ?_
  refine pu_iconst ?_
  refine pu_iadd ?_
  refine pu_ialX H.1 ?_
  replace H := H.2
  refine pu_aload_n rfl ?_
  refine pu_iload_n rfl ?_
  refine pu_iconst ?_
  refine pu_iadd ?_
  refine pu_ialX H.1 ?_
  replace H := H.2
  refine pu_aload_n rfl ?_
  refine pu_iload_n rfl ?_
  refine pu_iconst ?_
  refine pu_iadd ?_
  refine pu_ialX H.1 ?_
  replace H := H.2
  refine pu_cv (vs := [.int (X.2 (x3 + 1).toNatClampNeg), .int (X.2 (x3 + 2).toNatClampNeg), .int (X.2 (x3 + 3).toNatClampNeg)]) (rest := []) pu_g125 ⟨pu_c0, by decide⟩ rfl rfl rfl rfl rfl (pu_CI (pu_I_imp H (fun y263 D264 H => ?_)))
  refine pu_aload_n rfl ?_
  refine pu_aload_n rfl ?_
  refine pu_iload_n rfl ?_
  refine pu_iconst ?_
  refine pu_iadd ?_
  refine pu_ialX H.1 ?_
  replace H := H.2
  refine pu_aload_n rfl ?_
  refine pu_iload_n rfl ?_
  refine pu_iconst ?_
  refine pu_iadd ?_
  refine pu_ialX H.1 ?_
  replace H := H.2
  refine pu_aload_n rfl ?_
  refine pu_iload_n rfl ?_
  refine pu_iconst ?_
  refine pu_iadd ?_
  refine pu_ialX H.1 ?_
  replace H := H.2
  refine pu_cv (vs := [.int (X.2 (x3 + 1).toNatClampNeg), .int (X.2 (x3 + 2).toNatClampNeg), .int (X.2 (x3 + 3).toNatClampNeg)]) (rest := [.int y263]) pu_g240 ⟨pu_c85, by decide⟩ rfl rfl rfl rfl rfl (pu_CI (pu_I_imp H (fun y265 D266 H => ?_)))
  refine pu_eq_ pu_t260_1732 (fun h267 => ?_) (fun h267 => ?_)
  · replace H := pu_t h267 H
    exact H 
  · replace H := pu_f h267 H
    refine pu_iconst ?_
    exact pu_iretZ pu_rt260 (by decide) H
theorem pu_u260_1660 {X : px_X} {x3 : Int32} {D : pu_D} {P : Int32 → pu_D → Prop}
    (H : (px_in (x3 + 1) X.1 = true) ∧ pu_I X 126 [.ref 0, .int (X.2 (x3 + 1).toNatClampNeg)] D (fun y268 D269 => (px_in (x3 + 1) X.1 = true) ∧ pu_I X 241 [.ref 85, .int (X.2 (x3 + 1).toNatClampNeg)] D269 (fun y270 D271 => if y268 = y270 then (pu_h260_1732 X x3 D271 P) else (P 0 D271)))) :
    pu_h260_1660 X x3 D P := by
  refine pu_aload_n rfl ?_
  refine pu_aload_n rfl ?_
  refine pu_iload_n rfl ?_
  refine pu_iconst ?_
  refine pu_iadd ?_
  refine pu_ialX H.1 ?_
  replace H := H.2
  refine pu_cv (vs := [.int (X.2 (x3 + 1).toNatClampNeg)]) (rest := []) pu_g126 ⟨pu_c0, by decide⟩ rfl rfl rfl rfl rfl (pu_CI (pu_I_imp H (fun y268 D269 H => ?_)))
  refine pu_aload_n rfl ?_
  refine pu_aload_n rfl ?_
  refine pu_iload_n rfl ?_
  refine pu_iconst ?_
  refine pu_iadd ?_
  refine pu_ialX H.1 ?_
  replace H := H.2
  refine pu_cv (vs := [.int (X.2 (x3 + 1).toNatClampNeg)]) (rest := [.int y268]) pu_g241 ⟨pu_c85, by decide⟩ rfl rfl rfl rfl rfl (pu_CI (pu_I_imp H (fun y270 D271 H => ?_)))
  refine pu_eq_ pu_t260_1732 (fun h272 => ?_) (fun h272 => ?_)
  · replace H := pu_t h272 H
    exact H 
  · replace H := pu_f h272 H
    refine pu_iconst ?_
    exact pu_iretZ pu_rt260 (by decide) H
theorem pu_u260_1683 {X : px_X} {x3 : Int32} {D : pu_D} {P : Int32 → pu_D → Prop}
    (H : pu_I X 127 [.ref 0] D (fun y273 D274 => pu_I X 244 [.ref 85] D274 (fun y275 D276 => if y273 = y275 then (pu_h260_1732 X x3 D276 P) else (P 0 D276)))) :
    pu_h260_1683 X x3 D P := by
  refine pu_aload_n rfl ?_
  refine pu_cv (vs := []) (rest := []) pu_g127 ⟨pu_c0, by decide⟩ rfl rfl rfl rfl rfl (pu_CI (pu_I_imp H (fun y273 D274 H => ?_)))
  refine pu_aload_n rfl ?_
  refine pu_cv (vs := []) (rest := [.int y273]) pu_g244 ⟨pu_c85, by decide⟩ rfl rfl rfl rfl rfl (pu_CI (pu_I_imp H (fun y275 D276 H => ?_)))
  refine pu_eq_ pu_t260_1732 (fun h277 => ?_) (fun h277 => ?_)
  · replace H := pu_t h277 H
    exact H 
  · replace H := pu_f h277 H
    refine pu_iconst ?_
    exact pu_iretZ pu_rt260 (by decide) H
theorem pu_u260_1696 {X : px_X} {x3 : Int32} {D : pu_D} {P : Int32 → pu_D → Prop}
    (H : pu_I X 128 [.ref 0] D (fun y278 D279 => pu_I X 245 [.ref 85] D279 (fun y280 D281 => if y278 = y280 then (pu_h260_1732 X x3 D281 P) else (P 0 D281)))) :
    pu_h260_1696 X x3 D P := by
  refine pu_aload_n rfl ?_
  refine pu_cv (vs := []) (rest := []) pu_g128 ⟨pu_c0, by decide⟩ rfl rfl rfl rfl rfl (pu_CI (pu_I_imp H (fun y278 D279 H => ?_)))
  refine pu_aload_n rfl ?_
  refine pu_cv (vs := []) (rest := [.int y278]) pu_g245 ⟨pu_c85, by decide⟩ rfl rfl rfl rfl rfl (pu_CI (pu_I_imp H (fun y280 D281 H => ?_)))
  refine pu_eq_ pu_t260_1732 (fun h282 => ?_) (fun h282 => ?_)
  · replace H := pu_t h282 H
    exact H 
  · replace H := pu_f h282 H
    refine pu_iconst ?_
    exact pu_iretZ pu_rt260 (by decide) H
theorem pu_u260_1709 {X : px_X} {x3 : Int32} {D : pu_D} {P : Int32 → pu_D → Prop}
    (H : (px_in (x3 + 1) X.1 = true) ∧ pu_I X 129 [.ref 0, .int (X.2 (x3 + 1).toNatClampNeg)] D (fun y283 D284 => (px_in (x3 + 1) X.1 = true) ∧ pu_I X 246 [.ref 85, .int (X.2 (x3 + 1).toNatClampNeg)] D284 (fun y285 D286 => if y283 = y285 then (pu_h260_1732 X x3 D286 P) else (P 0 D286)))) :
    pu_h260_1709 X x3 D P := by
  refine pu_aload_n rfl ?_
  refine pu_aload_n rfl ?_
  refine pu_iload_n rfl ?_
  refine pu_iconst ?_
  refine pu_iadd ?_
  refine pu_ialX H.1 ?_
  replace H := H.2
  refine pu_cv (vs := [.int (X.2 (x3 + 1).toNatClampNeg)]) (rest := []) pu_g129 ⟨pu_c0, by decide⟩ rfl rfl rfl rfl rfl (pu_CI (pu_I_imp H (fun y283 D284 H => ?_)))
  refine pu_aload_n rfl ?_
  refine pu_aload_n rfl ?_
  refine pu_iload_n rfl ?_
  refine pu_iconst ?_
  refine pu_iadd ?_
  refine pu_ialX H.1 ?_
  replace H := H.2
  refine pu_cv (vs := [.int (X.2 (x3 + 1).toNatClampNeg)]) (rest := [.int y283]) pu_g246 ⟨pu_c85, by decide⟩ rfl rfl rfl rfl rfl (pu_CI (pu_I_imp H (fun y285 D286 H => ?_)))
  refine pu_eq_ pu_t260_1732 (fun h287 => ?_) (fun h287 => ?_)
  · replace H := pu_t h287 H
    exact H 
  · replace H := pu_f h287 H
    refine pu_iconst ?_
    exact pu_iretZ pu_rt260 (by decide) H
theorem pu_u260_1732 {X : px_X} {x3 : Int32} {D : pu_D} {P : Int32 → pu_D → Prop}
    (H : pu_h260_18 X (x3 + 6) D P) :
    pu_h260_1732 X x3 D P := by
  refine pu_iinc (L' := [.ref 1300, .ref 0, .ref 85, .int (x3 + 6)]) rfl (Or.inr rfl) rfl ?_
  refine pu_goto pu_t260_18 ?_
  exact H 
