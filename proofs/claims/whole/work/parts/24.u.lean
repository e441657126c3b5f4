/-! WHAT MUST HOLD AHEAD OF EACH METHOD, by program. -/
/-- LightAlong$Street.bareLight(II)I -/
theorem pu_e60 {X : px_X} {x1 : Int32} {x2 : Int32} {D : pu_D} {P : Int32 → pu_D → Prop} 
    (H : pu_I X 82 [.ref 3, .int x1, .int 0] D (fun y1 D2 => if ((y1 * y1) + x2) < 1 then (P 0 D2) else (pu_I X 82 [.ref 3, .int x1, .int 1] D2 (fun y4 D5 => (¬ ((y1 * y1) + x2) = 0) ∧ P ((1000 * y4) / ((y1 * y1) + x2)) D5)))) :
    pu_I X 60 [.ref 1, .int x1, .int x2] D P := by
  refine pu_ent (E := [.ref 1, .int x1, .int x2, .null, .null]) pu_n60.1 pu_n60.2 pu_t60_0 rfl ?_
  refine pu_aload_n rfl ?_
  refine pu_getR pu_kr4_1 pu_c1 pu_r1_1 ?_
  refine pu_iload_n rfl ?_
  refine pu_iconst ?_
  refine pu_cv (vs := [.int x1, .int 0]) (rest := []) pu_g82 ⟨pu_c3, by decide⟩ rfl rfl rfl rfl rfl (pu_CI (pu_I_imp H (fun y1 D2 H => ?_)))
  refine pu_istore_n (L' := [.ref 1, .int x1, .int x2, .int y1, .null]) (Or.inr rfl) rfl ?_
  refine pu_iload_n rfl ?_
  refine pu_iload_n rfl ?_
  refine pu_imul ?_
  refine pu_iload_n rfl ?_
  refine pu_iadd ?_
  refine pu_istore (L' := [.ref 1, .int x1, .int x2, .int y1, .int ((y1 * y1) + x2)]) (Or.inr rfl) rfl ?_
  refine pu_iload rfl ?_
  refine pu_iconst ?_
  refine pu_ge_ pu_t60_27 (fun h3 => ?_) (fun h3 => ?_)
  · replace H := pu_f h3 H
    refine pu_sipush ?_
    refine pu_aload_n rfl ?_
    refine pu_getR pu_kr4_1 pu_c1 pu_r1_1 ?_
    refine pu_iload_n rfl ?_
    refine pu_iconst ?_
    refine pu_cv (vs := [.int x1, .int 1]) (rest := [.int 1000]) pu_g82 ⟨pu_c3, by decide⟩ rfl rfl rfl rfl rfl (pu_CI (pu_I_imp H (fun y4 D5 H => ?_)))
    refine pu_imul ?_
    refine pu_iload rfl ?_
    refine pu_idiv H.1 ?_
    replace H := H.2
    exact pu_iretI pu_rt60 H
  · replace H := pu_t h3 H
    refine pu_iconst ?_
    refine pu_goto pu_t60_43 ?_
    exact pu_iretI pu_rt60 H
/-- LightAlong$Street.given(IIII)I -/
def pu_h61_111 (X : px_X) (x4 : Int32) (x8 : Int32) (x9 : Int32) (x10 : Int32) (D : pu_D) (P : Int32 → pu_D → Prop) : Prop := ∀ z0 : Value, z0.category = 1 → ∀ z1 : Value, z1.category = 1 → ∀ z2 : Value, z2.category = 1 → ∀ z3 : Value, z3.category = 1 → ∀ z5 : Value, z5.category = 1 → ∀ z6 : Value, z6.category = 1 → ∀ z7 : Value, z7.category = 1 → pu_W X 61 (0, 0) px_c61_111 [z0, z1, z2, z3, .int x4, z5, z6, z7, .int x8, .int x9, .int x10] [] D (pu_qi P)
theorem pu_u61_111 {X : px_X} {x4 : Int32} {x8 : Int32} {x9 : Int32} {x10 : Int32} {D : pu_D} {P : Int32 → pu_D → Prop} 
    (H : if x10 < x9 then ((px_in x4 12 = true) ∧ pu_h61_111 X x4 ((x8 * (4 - (pu_sa 3 x4.toNatClampNeg))) / 4) x9 (x10 + 1) D P) else (P x8 D)) :
    pu_h61_111 X x4 x8 x9 x10 D P := by
  intro z0 hz0 z1 hz1 z2 hz2 z3 hz3 z5 hz5 z6 hz6 z7 hz7
  refine pu_iload rfl ?_
  refine pu_iload rfl ?_
  refine pu_ge_ pu_t61_139 (fun h26 => ?_) (fun h26 => ?_)
  · replace H := pu_f h26 H
    refine pu_iload rfl ?_
    exact pu_iretI pu_rt61 H
  · replace H := pu_t h26 H
    refine pu_iload rfl ?_
    refine pu_iconst ?_
    refine pu_gsA (by decide) rfl ?_
    refine pu_iload rfl ?_
    refine pu_ialA (m := 12) (by decide) (by decide +kernel) H.1 ?_
    replace H := H.2
    refine pu_isub ?_
    refine pu_imul ?_
    refine pu_iconst ?_
    refine pu_idiv (by decide) ?_
    refine pu_istore (L' := [z0, z1, z2, z3, .int x4, z5, z6, z7, .int ((x8 * (4 - (pu_sa 3 x4.toNatClampNeg))) / 4), .int x9, .int x10]) (Or.inr hz7) rfl ?_
    refine pu_iinc (L' := [z0, z1, z2, z3, .int x4, z5, z6, z7, .int ((x8 * (4 - (pu_sa 3 x4.toNatClampNeg))) / 4), .int x9, .int (x10 + 1)]) rfl (Or.inr rfl) rfl ?_
    refine pu_goto pu_t61_111 ?_
    exact H _ hz0 _ hz1 _ hz2 _ hz3 _ hz5 _ hz6 _ hz7
theorem pu_e61 {X : px_X} {x1 : Int32} {x2 : Int32} {x3 : Int32} {x4 : Int32} {D : pu_D} {P : Int32 → pu_D → Prop} 
    (H : pu_I X 140 [.int x4] D (fun y1 D2 => if y1 = 0 then (P 0 D2) else (pu_I X 82 [.ref 5, .int x1, .int 0] D2 (fun y4 D5 => pu_I X 62 [.ref 1, .ref 9, .int y4, .int x3] D5 (fun y6 D7 => if 0 < y6 then (P 0 D7) else (pu_I X 143 [.int y4] D7 (fun y9 D10 => pu_I X 143 [.int x3] D10 (fun y11 D12 => pu_I X 144 [.int y4] D12 (fun y13 D14 => pu_I X 144 [.int x3] D14 (fun y15 D16 => if y13 = y15 then (pu_I X 60 [.ref 1, .int x2, .int ((y9 - y11) * (y9 - y11))] D16 (fun y18 D19 => pu_I X 62 [.ref 1, .ref 7, .int y4, .int x3] D19 (fun y20 D21 => pu_h61_111 X x4 y18 y20 0 D21 P))) else (pu_I X 60 [.ref 1, .int x2, .int (((y9 - y11) * (y9 - y11)) + ((D16.1 2 (Int32.toNatClampNeg 2)) * (D16.1 2 (Int32.toNatClampNeg 2))))] D16 (fun y22 D23 => pu_I X 62 [.ref 1, .ref 7, .int y4, .int x3] D23 (fun y24 D25 => pu_h61_111 X x4 y22 y24 0 D25 P))))))))))))) :
    pu_I X 61 [.ref 1, .int x1, .int x2, .int x3, .int x4] D P := by
  refine pu_ent (E := [.ref 1, .int x1, .int x2, .int x3, .int x4, .null, .null, .null, .null, .null, .null]) pu_n61.1 pu_n61.2 pu_t61_0 rfl ?_
  refine pu_iload rfl ?_
  refine pu_cs (vs := [.int x4]) (rest := []) pu_g140 rfl rfl rfl rfl rfl (pu_CI (pu_I_imp H (fun y1 D2 H => ?_)))
  refine pu_ne0 pu_t61_10 (fun h3 => ?_) (fun h3 => ?_)
  · replace H := pu_f h3 H
    refine pu_aload_n rfl ?_
    refine pu_getR pu_kr4_2 pu_c1 pu_r1_2 ?_
    refine pu_iload_n rfl ?_
    refine pu_iconst ?_
    refine pu_cv (vs := [.int x1, .int 0]) (rest := []) pu_g82 ⟨pu_c5, by decide⟩ rfl rfl rfl rfl rfl (pu_CI (pu_I_imp H (fun y4 D5 H => ?_)))
    refine pu_istore (L' := [.ref 1, .int x1, .int x2, .int x3, .int x4, .int y4, .null, .null, .null, .null, .null]) (Or.inr rfl) rfl ?_
    refine pu_aload_n rfl ?_
    refine pu_aload_n rfl ?_
    refine pu_getR pu_kr4_4 pu_c1 pu_r1_4 ?_
    refine pu_iload rfl ?_
    refine pu_iload_n rfl ?_
    refine pu_cv (vs := [.ref 9, .int y4, .int x3]) (rest := []) pu_g62 ⟨pu_c1, by decide⟩ rfl rfl rfl rfl rfl (pu_CI (pu_I_imp H (fun y6 D7 H => ?_)))
    refine pu_le0 pu_t61_37 (fun h8 => ?_) (fun h8 => ?_)
    · replace H := pu_f h8 H
      refine pu_iload rfl ?_
      refine pu_cs (vs := [.int y4]) (rest := []) pu_g143 rfl rfl rfl rfl rfl (pu_CI (pu_I_imp H (fun y9 D10 H => ?_)))
      refine pu_iload_n rfl ?_
      refine pu_cs (vs := [.int x3]) (rest := [.int y9]) pu_g143 rfl rfl rfl rfl rfl (pu_CI (pu_I_imp H (fun y11 D12 H => ?_)))
      refine pu_isub ?_
      refine pu_istore (L' := [.ref 1, .int x1, .int x2, .int x3, .int x4, .int y4, .int (y9 - y11), .null, .null, .null, .null]) (Or.inr rfl) rfl ?_
      refine pu_iload rfl ?_
      refine pu_iload rfl ?_
      refine pu_imul ?_
      refine pu_istore (L' := [.ref 1, .int x1, .int x2, .int x3, .int x4, .int y4, .int (y9 - y11), .int ((y9 - y11) * (y9 - y11)), .null, .null, .null]) (Or.inr rfl) rfl ?_
      refine pu_iload rfl ?_
      refine pu_cs (vs := [.int y4]) (rest := []) pu_g144 rfl rfl rfl rfl rfl (pu_CI (pu_I_imp H (fun y13 D14 H => ?_)))
      refine pu_iload_n rfl ?_
      refine pu_cs (vs := [.int x3]) (rest := [.int y13]) pu_g144 rfl rfl rfl rfl rfl (pu_CI (pu_I_imp H (fun y15 D16 H => ?_)))
      refine pu_eq_ pu_t61_86 (fun h17 => ?_) (fun h17 => ?_)
      · replace H := pu_t h17 H
        refine pu_aload_n rfl ?_
        refine pu_iload_n rfl ?_
        refine pu_iload rfl ?_
        refine pu_cv (vs := [.int x2, .int ((y9 - y11) * (y9 - y11))]) (rest := []) pu_g60 ⟨pu_c1, by decide⟩ rfl rfl rfl rfl rfl (pu_CI (pu_I_imp H (fun y18 D19 H => ?_)))
        refine pu_istore (L' := [.ref 1, .int x1, .int x2, .int x3, .int x4, .int y4, .int (y9 - y11), .int ((y9 - y11) * (y9 - y11)), .int y18, .null, .null]) (Or.inr rfl) rfl ?_
        refine pu_aload_n rfl ?_
        refine pu_aload_n rfl ?_
        refine pu_getR pu_kr4_3 pu_c1 pu_r1_3 ?_
        refine pu_iload rfl ?_
        refine pu_iload_n rfl ?_
        refine pu_cv (vs := [.ref 7, .int y4, .int x3]) (rest := []) pu_g62 ⟨pu_c1, by decide⟩ rfl rfl rfl rfl rfl (pu_CI (pu_I_imp H (fun y20 D21 H => ?_)))
        refine pu_istore (L' := [.ref 1, .int x1, .int x2, .int x3, .int x4, .int y4, .int (y9 - y11), .int ((y9 - y11) * (y9 - y11)), .int y18, .int y20, .null]) (Or.inr rfl) rfl ?_
        refine pu_iconst ?_
        refine pu_istore (L' := [.ref 1, .int x1, .int x2, .int x3, .int x4, .int y4, .int (y9 - y11), .int ((y9 - y11) * (y9 - y11)), .int y18, .int y20, .int 0]) (Or.inr rfl) rfl ?_
        exact H _ rfl _ rfl _ rfl _ rfl _ rfl _ rfl _ rfl
      · replace H := pu_f h17 H
        refine pu_iload rfl ?_
        refine pu_aload_n rfl ?_
        refine pu_getR pu_kr4_0 pu_c1 pu_r1_0 ?_
        refine pu_iconst ?_
        refine pu_ial pu_c2 pu_ln2 (by decide) ?_
        refine pu_aload_n rfl ?_
        refine pu_getR pu_kr4_0 pu_c1 pu_r1_0 ?_
        refine pu_iconst ?_
        refine pu_ial pu_c2 pu_ln2 (by decide) ?_
        refine pu_imul ?_
        refine pu_iadd ?_
        refine pu_istore (L' := [.ref 1, .int x1, .int x2, .int x3, .int x4, .int y4, .int (y9 - y11), .int (((y9 - y11) * (y9 - y11)) + ((D16.1 2 (Int32.toNatClampNeg 2)) * (D16.1 2 (Int32.toNatClampNeg 2)))), .null, .null, .null]) (Or.inr rfl) rfl ?_
        refine pu_aload_n rfl ?_
        refine pu_iload_n rfl ?_
        refine pu_iload rfl ?_
        refine pu_cv (vs := [.int x2, .int (((y9 - y11) * (y9 - y11)) + ((D16.1 2 (Int32.toNatClampNeg 2)) * (D16.1 2 (Int32.toNatClampNeg 2))))]) (rest := []) pu_g60 ⟨pu_c1, by decide⟩ rfl rfl rfl rfl rfl (pu_CI (pu_I_imp H (fun y22 D23 H => ?_)))
        refine pu_istore (L' := [.ref 1, .int x1, .int x2, .int x3, .int x4, .int y4, .int (y9 - y11), .int (((y9 - y11) * (y9 - y11)) + ((D16.1 2 (Int32.toNatClampNeg 2)) * (D16.1 2 (Int32.toNatClampNeg 2)))), .int y22, .null, .null]) (Or.inr rfl) rfl ?_
        refine pu_aload_n rfl ?_
        refine pu_aload_n rfl ?_
        refine pu_getR pu_kr4_3 pu_c1 pu_r1_3 ?_
        refine pu_iload rfl ?_
        refine pu_iload_n rfl ?_
        refine pu_cv (vs := [.ref 7, .int y4, .int x3]) (rest := []) pu_g62 ⟨pu_c1, by decide⟩ rfl rfl rfl rfl rfl (pu_CI (pu_I_imp H (fun y24 D25 H => ?_)))
        refine pu_istore (L' := [.ref 1, .int x1, .int x2, .int x3, .int x4, .int y4, .int (y9 - y11), .int (((y9 - y11) * (y9 - y11)) + ((D16.1 2 (Int32.toNatClampNeg 2)) * (D16.1 2 (Int32.toNatClampNeg 2)))), .int y22, .int y24, .null]) (Or.inr rfl) rfl ?_
        refine pu_iconst ?_
        refine pu_istore (L' := [.ref 1, .int x1, .int x2, .int x3, .int x4, .int y4, .int (y9 - y11), .int (((y9 - y11) * (y9 - y11)) + ((D16.1 2 (Int32.toNatClampNeg 2)) * (D16.1 2 (Int32.toNatClampNeg 2)))), .int y22, .int y24, .int 0]) (Or.inr rfl) rfl ?_
        exact H _ rfl _ rfl _ rfl _ rfl _ rfl _ rfl _ rfl
    · replace H := pu_t h8 H
      refine pu_iconst ?_
      exact pu_iretI pu_rt61 H
  · replace H := pu_t h3 H
    refine pu_iconst ?_
    exact pu_iretI pu_rt61 H
/-- LightAlong$Street.countBetween(LLightAlong$Table;II)I -/
def pu_h62_32 (X : px_X) (q1 : Nat) (x2 : Int32) (x4 : Int32) (x5 : Int32) (x6 : Int32) (x7 : Int32) (D : pu_D) (P : Int32 → pu_D → Prop) : Prop := ∀ z0 : Value, z0.category = 1 → ∀ z3 : Value, z3.category = 1 → ∀ z8 : Value, z8.category = 1 → ∀ z9 : Value, z9.category = 1 → pu_W X 62 (0, 0) px_c62_32 [z0, .ref q1, .int x2, z3, .int x4, .int x5, .int x6, .int x7, z8, z9] [] D (pu_qi P)
theorem pu_u62_32 {X : px_X} {q1 : Nat} {x2 : Int32} {x4 : Int32} {x5 : Int32} {x6 : Int32} {x7 : Int32} {D : pu_D} {P : Int32 → pu_D → Prop} (hq1 : pu_cl q1 = 6)
    (H : if x7 < (D.1 q1 2) then (pu_I X 82 [.ref q1, .int x7, .int 0] D (fun y10 D11 => pu_I X 143 [.int y10] D11 (fun y12 D13 => pu_I X 144 [.int y10] D13 (fun y14 D15 => pu_I X 144 [.int x2] D15 (fun y16 D17 => if y14 = y16 then (if x4 < y12 then (if y12 < x5 then (pu_h62_32 X q1 x2 x4 x5 (x6 + 1) (x7 + 1) D17 P) else (pu_h62_32 X q1 x2 x4 x5 x6 (x7 + 1) D17 P)) else (pu_h62_32 X q1 x2 x4 x5 x6 (x7 + 1) D17 P)) else (pu_h62_32 X q1 x2 x4 x5 x6 (x7 + 1) D17 P)))))) else (P x6 D)) :
    pu_h62_32 X q1 x2 x4 x5 x6 x7 D P := by
  intro z0 hz0 z3 hz3 z8 hz8 z9 hz9
  refine pu_iload rfl ?_
  refine pu_aload_n rfl ?_
  refine pu_getI pu_k6_2 hq1 ?_
  refine pu_ge_ pu_t62_92 (fun h9 => ?_) (fun h9 => ?_)
  · replace H := pu_f h9 H
    refine pu_iload rfl ?_
    exact pu_iretI pu_rt62 H
  · replace H := pu_t h9 H
    refine pu_aload_n rfl ?_
    refine pu_iload rfl ?_
    refine pu_iconst ?_
    refine pu_cv (vs := [.int x7, .int 0]) (rest := []) pu_g82 ⟨hq1, by decide⟩ rfl rfl rfl rfl rfl (pu_CI (pu_I_imp H (fun y10 D11 H => ?_)))
    refine pu_istore (L' := [z0, .ref q1, .int x2, z3, .int x4, .int x5, .int x6, .int x7, .int y10, z9]) (Or.inr rfl) rfl ?_
    refine pu_iload rfl ?_
    refine pu_cs (vs := [.int y10]) (rest := []) pu_g143 rfl rfl rfl rfl rfl (pu_CI (pu_I_imp H (fun y12 D13 H => ?_)))
    refine pu_istore (L' := [z0, .ref q1, .int x2, z3, .int x4, .int x5, .int x6, .int x7, .int y10, .int y12]) (Or.inr rfl) rfl ?_
    refine pu_iload rfl ?_
    refine pu_cs (vs := [.int y10]) (rest := []) pu_g144 rfl rfl rfl rfl rfl (pu_CI (pu_I_imp H (fun y14 D15 H => ?_)))
    refine pu_iload_n rfl ?_
    refine pu_cs (vs := [.int x2]) (rest := [.int y14]) pu_g144 rfl rfl rfl rfl rfl (pu_CI (pu_I_imp H (fun y16 D17 H => ?_)))
    refine pu_ne_ pu_t62_86 (fun h18 => ?_) (fun h18 => ?_)
    · replace H := pu_f h18 H
      refine pu_iinc (L' := [z0, .ref q1, .int x2, z3, .int x4, .int x5, .int x6, .int (x7 + 1), .int y10, .int y12]) rfl (Or.inr rfl) rfl ?_
      refine pu_goto pu_t62_32 ?_
      exact H _ hz0 _ hz3 _ rfl _ rfl
    · replace H := pu_t h18 H
      refine pu_iload rfl ?_
      refine pu_iload rfl ?_
      refine pu_le_ pu_t62_86 (fun h19 => ?_) (fun h19 => ?_)
      · replace H := pu_f h19 H
        refine pu_iinc (L' := [z0, .ref q1, .int x2, z3, .int x4, .int x5, .int x6, .int (x7 + 1), .int y10, .int y12]) rfl (Or.inr rfl) rfl ?_
        refine pu_goto pu_t62_32 ?_
        exact H _ hz0 _ hz3 _ rfl _ rfl
      · replace H := pu_t h19 H
        refine pu_iload rfl ?_
        refine pu_iload rfl ?_
        refine pu_ge_ pu_t62_86 (fun h20 => ?_) (fun h20 => ?_)
        · replace H := pu_f h20 H
          refine pu_iinc (L' := [z0, .ref q1, .int x2, z3, .int x4, .int x5, .int x6, .int (x7 + 1), .int y10, .int y12]) rfl (Or.inr rfl) rfl ?_
          refine pu_goto pu_t62_32 ?_
          exact H _ hz0 _ hz3 _ rfl _ rfl
        · replace H := pu_t h20 H
          refine pu_iinc (L' := [z0, .ref q1, .int x2, z3, .int x4, .int x5, .int (x6 + 1), .int x7, .int y10, .int y12]) rfl (Or.inr rfl) rfl ?_
          refine pu_iinc (L' := [z0, .ref q1, .int x2, z3, .int x4, .int x5, .int (x6 + 1), .int (x7 + 1), .int y10, .int y12]) rfl (Or.inr rfl) rfl ?_
          refine pu_goto pu_t62_32 ?_
          exact H _ hz0 _ hz3 _ rfl _ rfl
theorem pu_e62 {X : px_X} {q1 : Nat} {x2 : Int32} {x3 : Int32} {D : pu_D} {P : Int32 → pu_D → Prop} (hq1 : pu_cl q1 = 6)
    (H : pu_I X 143 [.int x2] D (fun y1 D2 => pu_I X 143 [.int x3] D2 (fun y3 D4 => pu_I X 143 [.int x2] D4 (fun y5 D6 => pu_I X 143 [.int x3] D6 (fun y7 D8 => pu_h62_32 X q1 x2 (if y3 < y1 then y3 else y1) (if y5 < y7 then y7 else y5) 0 0 D8 P))))) :
    pu_I X 62 [.ref 1, .ref q1, .int x2, .int x3] D P := by
  refine pu_ent (E := [.ref 1, .ref q1, .int x2, .int x3, .null, .null, .null, .null, .null, .null]) pu_n62.1 pu_n62.2 pu_t62_0 rfl ?_
  refine pu_iload_n rfl ?_
  refine pu_cs (vs := [.int x2]) (rest := []) pu_g143 rfl rfl rfl rfl rfl (pu_CI (pu_I_imp H (fun y1 D2 H => ?_)))
  refine pu_iload_n rfl ?_
  refine pu_cs (vs := [.int x3]) (rest := [.int y1]) pu_g143 rfl rfl rfl rfl rfl (pu_CI (pu_I_imp H (fun y3 D4 H => ?_)))
  refine pu_mmin rfl ?_
  refine pu_istore (L' := [.ref 1, .ref q1, .int x2, .int x3, .int (if y3 < y1 then y3 else y1), .null, .null, .null, .null, .null]) (Or.inr rfl) rfl ?_
  refine pu_iload_n rfl ?_
  refine pu_cs (vs := [.int x2]) (rest := []) pu_g143 rfl rfl rfl rfl rfl (pu_CI (pu_I_imp H (fun y5 D6 H => ?_)))
  refine pu_iload_n rfl ?_
  refine pu_cs (vs := [.int x3]) (rest := [.int y5]) pu_g143 rfl rfl rfl rfl rfl (pu_CI (pu_I_imp H (fun y7 D8 H => ?_)))
  refine pu_mmax rfl ?_
  refine pu_istore (L' := [.ref 1, .ref q1, .int x2, .int x3, .int (if y3 < y1 then y3 else y1), .int (if y5 < y7 then y7 else y5), .null, .null, .null, .null]) (Or.inr rfl) rfl ?_
  refine pu_iconst ?_
  refine pu_istore (L' := [.ref 1, .ref q1, .int x2, .int x3, .int (if y3 < y1 then y3 else y1), .int (if y5 < y7 then y7 else y5), .int 0, .null, .null, .null]) (Or.inr rfl) rfl ?_
  refine pu_iconst ?_
  refine pu_istore (L' := [.ref 1, .ref q1, .int x2, .int x3, .int (if y3 < y1 then y3 else y1), .int (if y5 < y7 then y7 else y5), .int 0, .int 0, .null, .null]) (Or.inr rfl) rfl ?_
  exact H _ rfl _ rfl _ rfl _ rfl
/-- LightAlong$Street.ofLamp(IZII)I -/
theorem pu_e63 {X : px_X} {x1 : Int32} {x2 : Int32} {x3 : Int32} {x4 : Int32} {D : pu_D} {P : Int32 → pu_D → Prop} 
    (H : pu_I X 82 [.ref 5, .int x1, .int 2] D (fun y1 D2 => pu_I X 61 [.ref 1, .int x1, .int y1, .int x3, .int x4] D2 (fun y3 D4 => if x2 = 0 then (P y3 D4) else (P (y3 / 2) D4)))) :
    pu_I X 63 [.ref 1, .int x1, .int x2, .int x3, .int x4] D P := by
  refine pu_ent (E := [.ref 1, .int x1, .int x2, .int x3, .int x4, .null]) pu_n63.1 pu_n63.2 pu_t63_0 rfl ?_
  refine pu_aload_n rfl ?_
  refine pu_iload_n rfl ?_
  refine pu_aload_n rfl ?_
  refine pu_getR pu_kr4_2 pu_c1 pu_r1_2 ?_
  refine pu_iload_n rfl ?_
  refine pu_iconst ?_
  refine pu_cv (vs := [.int x1, .int 2]) (rest := [.int x1, .ref 1]) pu_g82 ⟨pu_c5, by decide⟩ rfl rfl rfl rfl rfl (pu_CI (pu_I_imp H (fun y1 D2 H => ?_)))
  refine pu_iload_n rfl ?_
  refine pu_iload rfl ?_
  refine pu_cv (vs := [.int x1, .int y1, .int x3, .int x4]) (rest := []) pu_g61 ⟨pu_c1, by decide⟩ rfl rfl rfl rfl rfl (pu_CI (pu_I_imp H (fun y3 D4 H => ?_)))
  refine pu_istore (L' := [.ref 1, .int x1, .int x2, .int x3, .int x4, .int y3]) (Or.inr rfl) rfl ?_
  refine pu_iload_n rfl ?_
  refine pu_eq0 pu_t63_30 (fun h5 => ?_) (fun h5 => ?_)
  · replace H := pu_t h5 H
    refine pu_iload rfl ?_
    exact pu_iretI pu_rt63 H
  · replace H := pu_f h5 H
    refine pu_iload rfl ?_
    refine pu_iconst ?_
    refine pu_idiv (by decide) ?_
    refine pu_goto pu_t63_32 ?_
    exact pu_iretI pu_rt63 H
/-- LightAlong$Street.ofLamps(IZII)I -/
def pu_h64_6 (X : px_X) (x1 : Int32) (x2 : Int32) (x3 : Int32) (x4 : Int32) (x5 : Int32) (x6 : Int32) (D : pu_D) (P : Int32 → pu_D → Prop) : Prop := pu_W X 64 (0, 0) px_c64_6 [.ref 1, .int x1, .int x2, .int x3, .int x4, .int x5, .int x6] [] D (pu_qi P)
theorem pu_u64_6 {X : px_X} {x1 : Int32} {x2 : Int32} {x3 : Int32} {x4 : Int32} {x5 : Int32} {x6 : Int32} {D : pu_D} {P : Int32 → pu_D → Prop} 
    (H : if x6 < (D.1 5 2) then (pu_I X 142 [.int x1, .int x6] D (fun y2 D3 => if y2 = 0 then (pu_h64_6 X x1 x2 x3 x4 x5 (x6 + 1) D3 P) else (pu_I X 63 [.ref 1, .int x6, .int x2, .int x3, .int x4] D3 (fun y5 D6 => pu_h64_6 X x1 x2 x3 x4 (x5 + y5) (x6 + 1) D6 P)))) else (P x5 D)) :
    pu_h64_6 X x1 x2 x3 x4 x5 x6 D P := by
  refine pu_iload rfl ?_
  refine pu_aload_n rfl ?_
  refine pu_getR pu_kr4_2 pu_c1 pu_r1_2 ?_
  refine pu_getI pu_k6_2 pu_c5 ?_
  refine pu_ge_ pu_t64_48 (fun h1 => ?_) (fun h1 => ?_)
  · replace H := pu_f h1 H
    refine pu_iload rfl ?_
    exact pu_iretI pu_rt64 H
  · replace H := pu_t h1 H
    refine pu_iload_n rfl ?_
    refine pu_iload rfl ?_
    refine pu_cs (vs := [.int x1, .int x6]) (rest := []) pu_g142 rfl rfl rfl rfl rfl (pu_CI (pu_I_imp H (fun y2 D3 H => ?_)))
    refine pu_eq0 pu_t64_42 (fun h4 => ?_) (fun h4 => ?_)
    · replace H := pu_t h4 H
      refine pu_iinc (L' := [.ref 1, .int x1, .int x2, .int x3, .int x4, .int x5, .int (x6 + 1)]) rfl (Or.inr rfl) rfl ?_
      refine pu_goto pu_t64_6 ?_
      exact H 
    · replace H := pu_f h4 H
      refine pu_iload rfl ?_
      refine pu_aload_n rfl ?_
      refine pu_iload rfl ?_
      refine pu_iload_n rfl ?_
      refine pu_iload_n rfl ?_
      refine pu_iload rfl ?_
      refine pu_cv (vs := [.int x6, .int x2, .int x3, .int x4]) (rest := [.int x5]) pu_g63 ⟨pu_c1, by decide⟩ rfl rfl rfl rfl rfl (pu_CI (pu_I_imp H (fun y5 D6 H => ?_)))
      refine pu_iadd ?_
      refine pu_istore (L' := [.ref 1, .int x1, .int x2, .int x3, .int x4, .int (x5 + y5), .int x6]) (Or.inr rfl) rfl ?_
      refine pu_iinc (L' := [.ref 1, .int x1, .int x2, .int x3, .int x4, .int (x5 + y5), .int (x6 + 1)]) rfl (Or.inr rfl) rfl ?_
      refine pu_goto pu_t64_6 ?_
      exact H 
theorem pu_e64 {X : px_X} {x1 : Int32} {x2 : Int32} {x3 : Int32} {x4 : Int32} {D : pu_D} {P : Int32 → pu_D → Prop} 
    (H : pu_h64_6 X x1 x2 x3 x4 0 0 D P) :
    pu_I X 64 [.ref 1, .int x1, .int x2, .int x3, .int x4] D P := by
  refine pu_ent (E := [.ref 1, .int x1, .int x2, .int x3, .int x4, .null, .null]) pu_n64.1 pu_n64.2 pu_t64_0 rfl ?_
  refine pu_iconst ?_
  refine pu_istore (L' := [.ref 1, .int x1, .int x2, .int x3, .int x4, .int 0, .null]) (Or.inr rfl) rfl ?_
  refine pu_iconst ?_
  refine pu_istore (L' := [.ref 1, .int x1, .int x2, .int x3, .int x4, .int 0, .int 0]) (Or.inr rfl) rfl ?_
  exact H 
/-- LightAlong$Street.faceOfLamps(IZII)I -/
def pu_h65_6 (X : px_X) (x1 : Int32) (x2 : Int32) (x3 : Int32) (x4 : Int32) (x5 : Int32) (x6 : Int32) (D : pu_D) (P : Int32 → pu_D → Prop) : Prop := ∀ z7 : Value, z7.category = 1 → pu_W X 65 (0, 0) px_c65_6 [.ref 1, .int x1, .int x2, .int x3, .int x4, .int x5, .int x6, z7] [] D (pu_qi P)
theorem pu_u65_6 {X : px_X} {x1 : Int32} {x2 : Int32} {x3 : Int32} {x4 : Int32} {x5 : Int32} {x6 : Int32} {D : pu_D} {P : Int32 → pu_D → Prop} 
    (H : if x6 < (D.1 5 2) then (pu_I X 82 [.ref 5, .int x6, .int 0] D (fun y2 D3 => pu_I X 143 [.int y2] D3 (fun y4 D5 => pu_I X 143 [.int x3] D5 (fun y6 D7 => if y6 < y4 then (pu_I X 142 [.int x1, .int x6] D7 (fun y9 D10 => if y9 = 0 then (pu_h65_6 X x1 x2 x3 x4 x5 (x6 + 1) D10 P) else (pu_I X 63 [.ref 1, .int x6, .int x2, .int x3, .int x4] D10 (fun y12 D13 => pu_h65_6 X x1 x2 x3 x4 (x5 + (y12 / 2)) (x6 + 1) D13 P)))) else (pu_h65_6 X x1 x2 x3 x4 x5 (x6 + 1) D7 P))))) else (P x5 D)) :
    pu_h65_6 X x1 x2 x3 x4 x5 x6 D P := by
  intro z7 hz7
  refine pu_iload rfl ?_
  refine pu_aload_n rfl ?_
  refine pu_getR pu_kr4_2 pu_c1 pu_r1_2 ?_
  refine pu_getI pu_k6_2 pu_c5 ?_
  refine pu_ge_ pu_t65_82 (fun h1 => ?_) (fun h1 => ?_)
  · replace H := pu_f h1 H
    refine pu_iload rfl ?_
    exact pu_iretI pu_rt65 H
  · replace H := pu_t h1 H
    refine pu_aload_n rfl ?_
    refine pu_getR pu_kr4_2 pu_c1 pu_r1_2 ?_
    refine pu_iload rfl ?_
    refine pu_iconst ?_
    refine pu_cv (vs := [.int x6, .int 0]) (rest := []) pu_g82 ⟨pu_c5, by decide⟩ rfl rfl rfl rfl rfl (pu_CI (pu_I_imp H (fun y2 D3 H => ?_)))
    refine pu_cs (vs := [.int y2]) (rest := []) pu_g143 rfl rfl rfl rfl rfl (pu_CI (pu_I_imp H (fun y4 D5 H => ?_)))
    refine pu_iload_n rfl ?_
    refine pu_cs (vs := [.int x3]) (rest := [.int y4]) pu_g143 rfl rfl rfl rfl rfl (pu_CI (pu_I_imp H (fun y6 D7 H => ?_)))
    refine pu_le_ pu_t65_42 (fun h8 => ?_) (fun h8 => ?_)
    · replace H := pu_f h8 H
      refine pu_iconst ?_
      refine pu_istore (L' := [.ref 1, .int x1, .int x2, .int x3, .int x4, .int x5, .int x6, .int 0]) (Or.inr rfl) rfl ?_
      refine pu_iload rfl ?_
      refine pu_ifT (by decide) pu_t65_76 ?_
      refine pu_iinc (L' := [.ref 1, .int x1, .int x2, .int x3, .int x4, .int x5, .int (x6 + 1), .int 0]) rfl (Or.inr rfl) rfl ?_
      refine pu_goto pu_t65_6 ?_
      exact H _ rfl
    · replace H := pu_t h8 H
      refine pu_iconst ?_
      refine pu_goto pu_t65_43 ?_
      refine pu_istore (L' := [.ref 1, .int x1, .int x2, .int x3, .int x4, .int x5, .int x6, .int 1]) (Or.inr rfl) rfl ?_
      refine pu_iload rfl ?_
      refine pu_ifF (by decide) ?_
      refine pu_iload_n rfl ?_
      refine pu_iload rfl ?_
      refine pu_cs (vs := [.int x1, .int x6]) (rest := []) pu_g142 rfl rfl rfl rfl rfl (pu_CI (pu_I_imp H (fun y9 D10 H => ?_)))
      refine pu_eq0 pu_t65_76 (fun h11 => ?_) (fun h11 => ?_)
      · replace H := pu_t h11 H
        refine pu_iinc (L' := [.ref 1, .int x1, .int x2, .int x3, .int x4, .int x5, .int (x6 + 1), .int 1]) rfl (Or.inr rfl) rfl ?_
        refine pu_goto pu_t65_6 ?_
        exact H _ rfl
      · replace H := pu_f h11 H
        refine pu_iload rfl ?_
        refine pu_aload_n rfl ?_
        refine pu_iload rfl ?_
        refine pu_iload_n rfl ?_
        refine pu_iload_n rfl ?_
        refine pu_iload rfl ?_
        refine pu_cv (vs := [.int x6, .int x2, .int x3, .int x4]) (rest := [.int x5]) pu_g63 ⟨pu_c1, by decide⟩ rfl rfl rfl rfl rfl (pu_CI (pu_I_imp H (fun y12 D13 H => ?_)))
        refine pu_iconst ?_
        refine pu_idiv (by decide) ?_
        refine pu_iadd ?_
        refine pu_istore (L' := [.ref 1, .int x1, .int x2, .int x3, .int x4, .int (x5 + (y12 / 2)), .int x6, .int 1]) (Or.inr rfl) rfl ?_
        refine pu_iinc (L' := [.ref 1, .int x1, .int x2, .int x3, .int x4, .int (x5 + (y12 / 2)), .int (x6 + 1), .int 1]) rfl (Or.inr rfl) rfl ?_
        refine pu_goto pu_t65_6 ?_
        exact H _ rfl
theorem pu_e65 {X : px_X} {x1 : Int32} {x2 : Int32} {x3 : Int32} {x4 : Int32} {D : pu_D} {P : Int32 → pu_D → Prop} 
    (H : pu_h65_6 X x1 x2 x3 x4 0 0 D P) :
    pu_I X 65 [.ref 1, .int x1, .int x2, .int x3, .int x4] D P := by
  refine pu_ent (E := [.ref 1, .int x1, .int x2, .int x3, .int x4, .null, .null, .null]) pu_n65.1 pu_n65.2 pu_t65_0 rfl ?_
  refine pu_iconst ?_
  refine pu_istore (L' := [.ref 1, .int x1, .int x2, .int x3, .int x4, .int 0, .null, .null]) (Or.inr rfl) rfl ?_
  refine pu_iconst ?_
  refine pu_istore (L' := [.ref 1, .int x1, .int x2, .int x3, .int x4, .int 0, .int 0, .null]) (Or.inr rfl) rfl ?_
  exact H _ rfl
/-- LightAlong$Street.brightest(IZII)I -/
def pu_h66_9 (X : px_X) (x1 : Int32) (x2 : Int32) (x3 : Int32) (x4 : Int32) (x5 : Int32) (x6 : Int32) (x7 : Int32) (D : pu_D) (P : Int32 → pu_D → Prop) : Prop := ∀ z8 : Value, z8.category = 1 → pu_W X 66 (0, 0) px_c66_9 [.ref 1, .int x1, .int x2, .int x3, .int x4, .int x5, .int x6, .int x7, z8] [] D (pu_qi P)
theorem pu_u66_9 {X : px_X} {x1 : Int32} {x2 : Int32} {x3 : Int32} {x4 : Int32} {x5 : Int32} {x6 : Int32} {x7 : Int32} {D : pu_D} {P : Int32 → pu_D → Prop} 
    (H : if x7 < (D.1 5 2) then (pu_I X 142 [.int x1, .int x7] D (fun y2 D3 => if y2 = 0 then (if x6 < 0 then (pu_h66_9 X x1 x2 x3 x4 x7 0 (x7 + 1) D3 P) else (pu_h66_9 X x1 x2 x3 x4 x5 x6 (x7 + 1) D3 P)) else (pu_I X 63 [.ref 1, .int x7, .int x2, .int x3, .int x4] D3 (fun y6 D7 => if x6 < y6 then (pu_h66_9 X x1 x2 x3 x4 x7 y6 (x7 + 1) D7 P) else (pu_h66_9 X x1 x2 x3 x4 x5 x6 (x7 + 1) D7 P))))) else (P x5 D)) :
    pu_h66_9 X x1 x2 x3 x4 x5 x6 x7 D P := by
  intro z8 hz8
  refine pu_iload rfl ?_
  refine pu_aload_n rfl ?_
  refine pu_getR pu_kr4_2 pu_c1 pu_r1_2 ?_
  refine pu_getI pu_k6_2 pu_c5 ?_
  refine pu_ge_ pu_t66_67 (fun h1 => ?_) (fun h1 => ?_)
  · replace H := pu_f h1 H
    refine pu_iload rfl ?_
    exact pu_iretI pu_rt66 H
  · replace H := pu_t h1 H
    refine pu_iload_n rfl ?_
    refine pu_iload rfl ?_
    refine pu_cs (vs := [.int x1, .int x7]) (rest := []) pu_g142 rfl rfl rfl rfl rfl (pu_CI (pu_I_imp H (fun y2 D3 H => ?_)))
    refine pu_eq0 pu_t66_43 (fun h4 => ?_) (fun h4 => ?_)
    · replace H := pu_t h4 H
      refine pu_iconst ?_
      refine pu_istore (L' := [.ref 1, .int x1, .int x2, .int x3, .int x4, .int x5, .int x6, .int x7, .int 0]) (Or.inr rfl) rfl ?_
      refine pu_iload rfl ?_
      refine pu_iload rfl ?_
      refine pu_le_ pu_t66_61 (fun h5 => ?_) (fun h5 => ?_)
      · replace H := pu_f h5 H
        refine pu_iinc (L' := [.ref 1, .int x1, .int x2, .int x3, .int x4, .int x5, .int x6, .int (x7 + 1), .int 0]) rfl (Or.inr rfl) rfl ?_
        refine pu_goto pu_t66_9 ?_
        exact H _ rfl
      · replace H := pu_t h5 H
        refine pu_iload rfl ?_
        refine pu_istore (L' := [.ref 1, .int x1, .int x2, .int x3, .int x4, .int x7, .int x6, .int x7, .int 0]) (Or.inr rfl) rfl ?_
        refine pu_iload rfl ?_
        refine pu_istore (L' := [.ref 1, .int x1, .int x2, .int x3, .int x4, .int x7, .int 0, .int x7, .int 0]) (Or.inr rfl) rfl ?_
        refine pu_iinc (L' := [.ref 1, .int x1, .int x2, .int x3, .int x4, .int x7, .int 0, .int (x7 + 1), .int 0]) rfl (Or.inr rfl) rfl ?_
        refine pu_goto pu_t66_9 ?_
        exact H _ rfl
    · replace H := pu_f h4 H
      refine pu_aload_n rfl ?_
      refine pu_iload rfl ?_
      refine pu_iload_n rfl ?_
      refine pu_iload_n rfl ?_
      refine pu_iload rfl ?_
      refine pu_cv (vs := [.int x7, .int x2, .int x3, .int x4]) (rest := []) pu_g63 ⟨pu_c1, by decide⟩ rfl rfl rfl rfl rfl (pu_CI (pu_I_imp H (fun y6 D7 H => ?_)))
      refine pu_goto pu_t66_44 ?_
      refine pu_istore (L' := [.ref 1, .int x1, .int x2, .int x3, .int x4, .int x5, .int x6, .int x7, .int y6]) (Or.inr rfl) rfl ?_
      refine pu_iload rfl ?_
      refine pu_iload rfl ?_
      refine pu_le_ pu_t66_61 (fun h8 => ?_) (fun h8 => ?_)
      · replace H := pu_f h8 H
        refine pu_iinc (L' := [.ref 1, .int x1, .int x2, .int x3, .int x4, .int x5, .int x6, .int (x7 + 1), .int y6]) rfl (Or.inr rfl) rfl ?_
        refine pu_goto pu_t66_9 ?_
        exact H _ rfl
      · replace H := pu_t h8 H
        refine pu_iload rfl ?_
        refine pu_istore (L' := [.ref 1, .int x1, .int x2, .int x3, .int x4, .int x7, .int x6, .int x7, .int y6]) (Or.inr rfl) rfl ?_
        refine pu_iload rfl ?_
        refine pu_istore (L' := [.ref 1, .int x1, .int x2, .int x3, .int x4, .int x7, .int y6, .int x7, .int y6]) (Or.inr rfl) rfl ?_
        refine pu_iinc (L' := [.ref 1, .int x1, .int x2, .int x3, .int x4, .int x7, .int y6, .int (x7 + 1), .int y6]) rfl (Or.inr rfl) rfl ?_
        refine pu_goto pu_t66_9 ?_
        exact H _ rfl
theorem pu_e66 {X : px_X} {x1 : Int32} {x2 : Int32} {x3 : Int32} {x4 : Int32} {D : pu_D} {P : Int32 → pu_D → Prop} 
    (H : pu_h66_9 X x1 x2 x3 x4 (-1) 0 0 D P) :
    pu_I X 66 [.ref 1, .int x1, .int x2, .int x3, .int x4] D P := by
  refine pu_ent (E := [.ref 1, .int x1, .int x2, .int x3, .int x4, .null, .null, .null, .null]) pu_n66.1 pu_n66.2 pu_t66_0 rfl ?_
  refine pu_iconst ?_
  refine pu_istore (L' := [.ref 1, .int x1, .int x2, .int x3, .int x4, .int (-1), .null, .null, .null]) (Or.inr rfl) rfl ?_
  refine pu_iconst ?_
  refine pu_istore (L' := [.ref 1, .int x1, .int x2, .int x3, .int x4, .int (-1), .int 0, .null, .null]) (Or.inr rfl) rfl ?_
  refine pu_iconst ?_
  refine pu_istore (L' := [.ref 1, .int x1, .int x2, .int x3, .int x4, .int (-1), .int 0, .int 0, .null]) (Or.inr rfl) rfl ?_
  exact H _ rfl
/-- LightAlong$Street.ofShop(III)I -/
theorem pu_e67 {X : px_X} {x1 : Int32} {x2 : Int32} {x3 : Int32} {D : pu_D} {P : Int32 → pu_D → Prop} 
    (H : pu_I X 82 [.ref 13, .int x1, .int 0] D (fun y1 D2 => pu_I X 82 [.ref 13, .int x1, .int 2] D2 (fun y3 D4 => if x3 < y3 then (pu_I X 144 [.int y1] D4 (fun y6 D7 => pu_I X 144 [.int x2] D7 (fun y8 D9 => if y6 = y8 then (pu_I X 82 [.ref 13, .int x1, .int 1] D9 (fun y11 D12 => pu_I X 143 [.int y1] D12 (fun y13 D14 => pu_I X 143 [.int x2] D14 (fun y15 D16 => if (if 0 ≤ (y13 - y15) then (y13 - y15) else 0 - (y13 - y15)) = 0 then (P y11 D16) else if (if 0 ≤ (y13 - y15) then (y13 - y15) else 0 - (y13 - y15)) = 1 then (P (y11 / 2) D16) else if (if 0 ≤ (y13 - y15) then (y13 - y15) else 0 - (y13 - y15)) = 2 then (P (y11 / 4) D16) else (P 0 D16))))) else (P 0 D9)))) else (P 0 D4)))) :
    pu_I X 67 [.ref 1, .int x1, .int x2, .int x3] D P := by
  refine pu_ent (E := [.ref 1, .int x1, .int x2, .int x3, .null, .null]) pu_n67.1 pu_n67.2 pu_t67_0 rfl ?_
  refine pu_aload_n rfl ?_
  refine pu_getR pu_kr4_6 pu_c1 pu_r1_6 ?_
  refine pu_iload_n rfl ?_
  refine pu_iconst ?_
  refine pu_cv (vs := [.int x1, .int 0]) (rest := []) pu_g82 ⟨pu_c13, by decide⟩ rfl rfl rfl rfl rfl (pu_CI (pu_I_imp H (fun y1 D2 H => ?_)))
  refine pu_istore (L' := [.ref 1, .int x1, .int x2, .int x3, .int y1, .null]) (Or.inr rfl) rfl ?_
  refine pu_aload_n rfl ?_
  refine pu_getR pu_kr4_6 pu_c1 pu_r1_6 ?_
  refine pu_iload_n rfl ?_
  refine pu_iconst ?_
  refine pu_cv (vs := [.int x1, .int 2]) (rest := []) pu_g82 ⟨pu_c13, by decide⟩ rfl rfl rfl rfl rfl (pu_CI (pu_I_imp H (fun y3 D4 H => ?_)))
  refine pu_iload_n rfl ?_
  refine pu_le_ pu_t67_36 (fun h5 => ?_) (fun h5 => ?_)
  · replace H := pu_f h5 H
    refine pu_iconst ?_
    exact pu_iretI pu_rt67 H
  · replace H := pu_t h5 H
    refine pu_iload rfl ?_
    refine pu_cs (vs := [.int y1]) (rest := []) pu_g144 rfl rfl rfl rfl rfl (pu_CI (pu_I_imp H (fun y6 D7 H => ?_)))
    refine pu_iload_n rfl ?_
    refine pu_cs (vs := [.int x2]) (rest := [.int y6]) pu_g144 rfl rfl rfl rfl rfl (pu_CI (pu_I_imp H (fun y8 D9 H => ?_)))
    refine pu_eq_ pu_t67_38 (fun h10 => ?_) (fun h10 => ?_)
    · replace H := pu_t h10 H
      refine pu_aload_n rfl ?_
      refine pu_getR pu_kr4_6 pu_c1 pu_r1_6 ?_
      refine pu_iload_n rfl ?_
      refine pu_iconst ?_
      refine pu_cv (vs := [.int x1, .int 1]) (rest := []) pu_g82 ⟨pu_c13, by decide⟩ rfl rfl rfl rfl rfl (pu_CI (pu_I_imp H (fun y11 D12 H => ?_)))
      refine pu_istore (L' := [.ref 1, .int x1, .int x2, .int x3, .int y1, .int y11]) (Or.inr rfl) rfl ?_
      refine pu_iload rfl ?_
      refine pu_cs (vs := [.int y1]) (rest := []) pu_g143 rfl rfl rfl rfl rfl (pu_CI (pu_I_imp H (fun y13 D14 H => ?_)))
      refine pu_iload_n rfl ?_
      refine pu_cs (vs := [.int x2]) (rest := [.int y13]) pu_g143 rfl rfl rfl rfl rfl (pu_CI (pu_I_imp H (fun y15 D16 H => ?_)))
      refine pu_isub ?_
      refine pu_mabs rfl ?_
      by_cases h17 : (if 0 ≤ (y13 - y15) then (y13 - y15) else 0 - (y13 - y15)) = 0
      · replace H := pu_t h17 H
        refine pu_tswC 0 (26) h17 (by decide +kernel) pu_t67_88 ?_
        refine pu_iload rfl ?_
        exact pu_iretI pu_rt67 H
      replace H := pu_f h17 H
      by_cases h18 : (if 0 ≤ (y13 - y15) then (y13 - y15) else 0 - (y13 - y15)) = 1
      · replace H := pu_t h18 H
        refine pu_tswC 1 (29) h18 (by decide +kernel) pu_t67_91 ?_
        refine pu_iload rfl ?_
        refine pu_iconst ?_
        refine pu_idiv (by decide) ?_
        exact pu_iretI pu_rt67 H
      replace H := pu_f h18 H
      by_cases h19 : (if 0 ≤ (y13 - y15) then (y13 - y15) else 0 - (y13 - y15)) = 2
      · replace H := pu_t h19 H
        refine pu_tswC 2 (34) h19 (by decide +kernel) pu_t67_96 ?_
        refine pu_iload rfl ?_
        refine pu_iconst ?_
        refine pu_idiv (by decide) ?_
        exact pu_iretI pu_rt67 H
      replace H := pu_f h19 H
      refine pu_tswD [0, 1, 2] (by simp only [List.mem_cons, List.not_mem_nil, or_false, not_or]; exact ⟨h17, h18, h19⟩) (by decide +kernel) pu_t67_101 ?_
      refine pu_iconst ?_
      exact pu_iretI pu_rt67 H
    · replace H := pu_f h10 H
      refine pu_iconst ?_
      exact pu_iretI pu_rt67 H
/-- LightAlong$Street.ofShops(II)I -/
def pu_h68_5 (X : px_X) (x1 : Int32) (x2 : Int32) (x3 : Int32) (x4 : Int32) (D : pu_D) (P : Int32 → pu_D → Prop) : Prop := pu_W X 68 (0, 0) px_c68_5 [.ref 1, .int x1, .int x2, .int x3, .int x4] [] D (pu_qi P)
theorem pu_u68_5 {X : px_X} {x1 : Int32} {x2 : Int32} {x3 : Int32} {x4 : Int32} {D : pu_D} {P : Int32 → pu_D → Prop} 
    (H : if x4 < (D.1 13 2) then (pu_I X 67 [.ref 1, .int x4, .int x1, .int x2] D (fun y2 D3 => pu_h68_5 X x1 x2 (x3 + y2) (x4 + 1) D3 P)) else (P x3 D)) :
    pu_h68_5 X x1 x2 x3 x4 D P := by
  refine pu_iload rfl ?_
  refine pu_aload_n rfl ?_
  refine pu_getR pu_kr4_6 pu_c1 pu_r1_6 ?_
  refine pu_getI pu_k6_2 pu_c13 ?_
  refine pu_ge_ pu_t68_34 (fun h1 => ?_) (fun h1 => ?_)
  · replace H := pu_f h1 H
    refine pu_iload_n rfl ?_
    exact pu_iretI pu_rt68 H
  · replace H := pu_t h1 H
    refine pu_iload_n rfl ?_
    refine pu_aload_n rfl ?_
    refine pu_iload rfl ?_
    refine pu_iload_n rfl ?_
    refine pu_iload_n rfl ?_
    refine pu_cv (vs := [.int x4, .int x1, .int x2]) (rest := [.int x3]) pu_g67 ⟨pu_c1, by decide⟩ rfl rfl rfl rfl rfl (pu_CI (pu_I_imp H (fun y2 D3 H => ?_)))
    refine pu_iadd ?_
    refine pu_istore_n (L' := [.ref 1, .int x1, .int x2, .int (x3 + y2), .int x4]) (Or.inr rfl) rfl ?_
    refine pu_iinc (L' := [.ref 1, .int x1, .int x2, .int (x3 + y2), .int (x4 + 1)]) rfl (Or.inr rfl) rfl ?_
    refine pu_goto pu_t68_5 ?_
    exact H 
theorem pu_e68 {X : px_X} {x1 : Int32} {x2 : Int32} {D : pu_D} {P : Int32 → pu_D → Prop} 
    (H : pu_h68_5 X x1 x2 0 0 D P) :
    pu_I X 68 [.ref 1, .int x1, .int x2] D P := by
  refine pu_ent (E := [.ref 1, .int x1, .int x2, .null, .null]) pu_n68.1 pu_n68.2 pu_t68_0 rfl ?_
  refine pu_iconst ?_
  refine pu_istore_n (L' := [.ref 1, .int x1, .int x2, .int 0, .null]) (Or.inr rfl) rfl ?_
  refine pu_iconst ?_
  refine pu_istore (L' := [.ref 1, .int x1, .int x2, .int 0, .int 0]) (Or.inr rfl) rfl ?_
  exact H 
/-- LightAlong$Street.coinOf(II)I -/
def pu_h69_5 (X : px_X) (x1 : Int32) (x2 : Int32) (x3 : Int32) (x4 : Int32) (D : pu_D) (P : Int32 → pu_D → Prop) : Prop := pu_W X 69 (0, 0) px_c69_5 [.ref 1, .int x1, .int x2, .int x3, .int x4] [] D (pu_qi P)
theorem pu_u69_5 {X : px_X} {x1 : Int32} {x2 : Int32} {x3 : Int32} {x4 : Int32} {D : pu_D} {P : Int32 → pu_D → Prop} 
    (H : if x4 < (D.1 5 2) then (pu_I X 142 [.int x1, .int x4] D (fun y2 D3 => if y2 = 0 then (pu_h69_5 X x1 x2 x3 (x4 + 1) D3 P) else (pu_I X 82 [.ref 3, .int x2, .int 2] D3 (fun y5 D6 => pu_I X 82 [.ref 5, .int x4, .int 1] D6 (fun y7 D8 => pu_h69_5 X x1 x2 (x3 + (y5 + y7)) (x4 + 1) D8 P))))) else (P x3 D)) :
    pu_h69_5 X x1 x2 x3 x4 D P := by
  refine pu_iload rfl ?_
  refine pu_aload_n rfl ?_
  refine pu_getR pu_kr4_2 pu_c1 pu_r1_2 ?_
  refine pu_getI pu_k6_2 pu_c5 ?_
  refine pu_ge_ pu_t69_55 (fun h1 => ?_) (fun h1 => ?_)
  · replace H := pu_f h1 H
    refine pu_iload_n rfl ?_
    exact pu_iretI pu_rt69 H
  · replace H := pu_t h1 H
    refine pu_iload_n rfl ?_
    refine pu_iload rfl ?_
    refine pu_cs (vs := [.int x1, .int x4]) (rest := []) pu_g142 rfl rfl rfl rfl rfl (pu_CI (pu_I_imp H (fun y2 D3 H => ?_)))
    refine pu_eq0 pu_t69_49 (fun h4 => ?_) (fun h4 => ?_)
    · replace H := pu_t h4 H
      refine pu_iinc (L' := [.ref 1, .int x1, .int x2, .int x3, .int (x4 + 1)]) rfl (Or.inr rfl) rfl ?_
      refine pu_goto pu_t69_5 ?_
      exact H 
    · replace H := pu_f h4 H
      refine pu_iload_n rfl ?_
      refine pu_aload_n rfl ?_
      refine pu_getR pu_kr4_1 pu_c1 pu_r1_1 ?_
      refine pu_iload_n rfl ?_
      refine pu_iconst ?_
      refine pu_cv (vs := [.int x2, .int 2]) (rest := [.int x3]) pu_g82 ⟨pu_c3, by decide⟩ rfl rfl rfl rfl rfl (pu_CI (pu_I_imp H (fun y5 D6 H => ?_)))
      refine pu_aload_n rfl ?_
      refine pu_getR pu_kr4_2 pu_c1 pu_r1_2 ?_
      refine pu_iload rfl ?_
      refine pu_iconst ?_
      refine pu_cv (vs := [.int x4, .int 1]) (rest := [.int y5, .int x3]) pu_g82 ⟨pu_c5, by decide⟩ rfl rfl rfl rfl rfl (pu_CI (pu_I_imp H (fun y7 D8 H => ?_)))
      refine pu_iadd ?_
      refine pu_iadd ?_
      refine pu_istore_n (L' := [.ref 1, .int x1, .int x2, .int (x3 + (y5 + y7)), .int x4]) (Or.inr rfl) rfl ?_
      refine pu_iinc (L' := [.ref 1, .int x1, .int x2, .int (x3 + (y5 + y7)), .int (x4 + 1)]) rfl (Or.inr rfl) rfl ?_
      refine pu_goto pu_t69_5 ?_
      exact H 
theorem pu_e69 {X : px_X} {x1 : Int32} {x2 : Int32} {D : pu_D} {P : Int32 → pu_D → Prop} 
    (H : pu_h69_5 X x1 x2 0 0 D P) :
    pu_I X 69 [.ref 1, .int x1, .int x2] D P := by
  refine pu_ent (E := [.ref 1, .int x1, .int x2, .null, .null]) pu_n69.1 pu_n69.2 pu_t69_0 rfl ?_
  refine pu_iconst ?_
  refine pu_istore_n (L' := [.ref 1, .int x1, .int x2, .int 0, .null]) (Or.inr rfl) rfl ?_
  refine pu_iconst ?_
  refine pu_istore (L' := [.ref 1, .int x1, .int x2, .int 0, .int 0]) (Or.inr rfl) rfl ?_
  exact H 
/-- LightAlong$Street.bulbsAsTheyGo(I)I -/
def pu_h70_4 (X : px_X) (x1 : Int32) (x2 : Int32) (x3 : Int32) (D : pu_D) (P : Int32 → pu_D → Prop) : Prop := ∀ z4 : Value, z4.category = 1 → ∀ z5 : Value, z5.category = 1 → ∀ z6 : Value, z6.category = 1 → pu_W X 70 (0, 0) px_c70_4 [.ref 1, .int x1, .int x2, .int x3, z4, z5, z6] [] D (pu_qi P)
theorem pu_u70_4 {X : px_X} {x1 : Int32} {x2 : Int32} {x3 : Int32} {D : pu_D} {P : Int32 → pu_D → Prop} 
    (H : if x3 < (D.1 5 2) then (pu_I X 52 [.ref 1, .int x3] D (fun y2 D3 => if y2 = 0 then (pu_h70_4 X x1 x2 (x3 + 1) D3 P) else (pu_I X 82 [.ref 5, .int x3, .int 2] D3 (fun y5 D6 => pu_I X 82 [.ref 3, .int y5, .int 3] D6 (fun y7 D8 => if y7 < 1 then (pu_I X 82 [.ref 3, .int y5, .int 2] D8 (fun y12 D13 => pu_h70_4 X x1 (x2 + (0 * (y12 + 30))) (x3 + 1) D13 P)) else ((¬ y7 = 0) ∧ pu_I X 82 [.ref 3, .int y5, .int 2] D8 (fun y10 D11 => pu_h70_4 X x1 (x2 + ((x1 / y7) * (y10 + 30))) (x3 + 1) D11 P))))))) else (P x2 D)) :
    pu_h70_4 X x1 x2 x3 D P := by
  intro z4 hz4 z5 hz5 z6 hz6
  refine pu_iload_n rfl ?_
  refine pu_aload_n rfl ?_
  refine pu_getR pu_kr4_2 pu_c1 pu_r1_2 ?_
  refine pu_getI pu_k6_2 pu_c5 ?_
  refine pu_ge_ pu_t70_90 (fun h1 => ?_) (fun h1 => ?_)
  · replace H := pu_f h1 H
    refine pu_iload_n rfl ?_
    exact pu_iretI pu_rt70 H
  · replace H := pu_t h1 H
    refine pu_aload_n rfl ?_
    refine pu_iload_n rfl ?_
    refine pu_cv (vs := [.int x3]) (rest := []) pu_g52 ⟨pu_c1, by decide⟩ rfl rfl rfl rfl rfl (pu_CI (pu_I_imp H (fun y2 D3 H => ?_)))
    refine pu_ne0 pu_t70_26 (fun h4 => ?_) (fun h4 => ?_)
    · replace H := pu_f h4 H
      refine pu_aload_n rfl ?_
      refine pu_getR pu_kr4_2 pu_c1 pu_r1_2 ?_
      refine pu_iload_n rfl ?_
      refine pu_iconst ?_
      refine pu_cv (vs := [.int x3, .int 2]) (rest := []) pu_g82 ⟨pu_c5, by decide⟩ rfl rfl rfl rfl rfl (pu_CI (pu_I_imp H (fun y5 D6 H => ?_)))
      refine pu_istore (L' := [.ref 1, .int x1, .int x2, .int x3, .int y5, z5, z6]) (Or.inr rfl) rfl ?_
      refine pu_aload_n rfl ?_
      refine pu_getR pu_kr4_1 pu_c1 pu_r1_1 ?_
      refine pu_iload rfl ?_
      refine pu_iconst ?_
      refine pu_cv (vs := [.int y5, .int 3]) (rest := []) pu_g82 ⟨pu_c3, by decide⟩ rfl rfl rfl rfl rfl (pu_CI (pu_I_imp H (fun y7 D8 H => ?_)))
      refine pu_istore (L' := [.ref 1, .int x1, .int x2, .int x3, .int y5, .int y7, z6]) (Or.inr rfl) rfl ?_
      refine pu_iload rfl ?_
      refine pu_iconst ?_
      refine pu_ge_ pu_t70_59 (fun h9 => ?_) (fun h9 => ?_)
      · replace H := pu_f h9 H
        refine pu_iload_n rfl ?_
        refine pu_iload rfl ?_
        refine pu_idiv H.1 ?_
        replace H := H.2
        refine pu_istore (L' := [.ref 1, .int x1, .int x2, .int x3, .int y5, .int y7, .int (x1 / y7)]) (Or.inr rfl) rfl ?_
        refine pu_iload_n rfl ?_
        refine pu_iload rfl ?_
        refine pu_aload_n rfl ?_
        refine pu_getR pu_kr4_1 pu_c1 pu_r1_1 ?_
        refine pu_iload rfl ?_
        refine pu_iconst ?_
        refine pu_cv (vs := [.int y5, .int 2]) (rest := [.int (x1 / y7), .int x2]) pu_g82 ⟨pu_c3, by decide⟩ rfl rfl rfl rfl rfl (pu_CI (pu_I_imp H (fun y10 D11 H => ?_)))
        refine pu_bipush ?_
        refine pu_iadd ?_
        refine pu_imul ?_
        refine pu_iadd ?_
        refine pu_istore_n (L' := [.ref 1, .int x1, .int (x2 + ((x1 / y7) * (y10 + 30))), .int x3, .int y5, .int y7, .int (x1 / y7)]) (Or.inr rfl) rfl ?_
        refine pu_iinc (L' := [.ref 1, .int x1, .int (x2 + ((x1 / y7) * (y10 + 30))), .int (x3 + 1), .int y5, .int y7, .int (x1 / y7)]) rfl (Or.inr rfl) rfl ?_
        refine pu_goto pu_t70_4 ?_
        exact H _ rfl _ rfl _ rfl
      · replace H := pu_t h9 H
        refine pu_iconst ?_
        refine pu_goto pu_t70_63 ?_
        refine pu_istore (L' := [.ref 1, .int x1, .int x2, .int x3, .int y5, .int y7, .int 0]) (Or.inr rfl) rfl ?_
        refine pu_iload_n rfl ?_
        refine pu_iload rfl ?_
        refine pu_aload_n rfl ?_
        refine pu_getR pu_kr4_1 pu_c1 pu_r1_1 ?_
        refine pu_iload rfl ?_
        refine pu_iconst ?_
        refine pu_cv (vs := [.int y5, .int 2]) (rest := [.int 0, .int x2]) pu_g82 ⟨pu_c3, by decide⟩ rfl rfl rfl rfl rfl (pu_CI (pu_I_imp H (fun y12 D13 H => ?_)))
        refine pu_bipush ?_
        refine pu_iadd ?_
        refine pu_imul ?_
        refine pu_iadd ?_
        refine pu_istore_n (L' := [.ref 1, .int x1, .int (x2 + (0 * (y12 + 30))), .int x3, .int y5, .int y7, .int 0]) (Or.inr rfl) rfl ?_
        refine pu_iinc (L' := [.ref 1, .int x1, .int (x2 + (0 * (y12 + 30))), .int (x3 + 1), .int y5, .int y7, .int 0]) rfl (Or.inr rfl) rfl ?_
        refine pu_goto pu_t70_4 ?_
        exact H _ rfl _ rfl _ rfl
    · replace H := pu_t h4 H
      refine pu_goto pu_t70_84 ?_
      refine pu_iinc (L' := [.ref 1, .int x1, .int x2, .int (x3 + 1), z4, z5, z6]) rfl (Or.inr rfl) rfl ?_
      refine pu_goto pu_t70_4 ?_
      exact H _ hz4 _ hz5 _ hz6
theorem pu_e70 {X : px_X} {x1 : Int32} {D : pu_D} {P : Int32 → pu_D → Prop} 
    (H : pu_h70_4 X x1 0 0 D P) :
    pu_I X 70 [.ref 1, .int x1] D P := by
  refine pu_ent (E := [.ref 1, .int x1, .null, .null, .null, .null, .null]) pu_n70.1 pu_n70.2 pu_t70_0 rfl ?_
  refine pu_iconst ?_
  refine pu_istore_n (L' := [.ref 1, .int x1, .int 0, .null, .null, .null, .null]) (Or.inr rfl) rfl ?_
  refine pu_iconst ?_
  refine pu_istore_n (L' := [.ref 1, .int x1, .int 0, .int 0, .null, .null, .null]) (Or.inr rfl) rfl ?_
  exact H _ rfl _ rfl _ rfl
/-- LightAlong$Street.bulbsTogether(I)I -/
def pu_h71_9 (X : px_X) (x1 : Int32) (x2 : Int32) (x3 : Int32) (x4 : Int32) (D : pu_D) (P : Int32 → pu_D → Prop) : Prop := ∀ z5 : Value, z5.category = 1 → pu_W X 71 (0, 0) px_c71_9 [.ref 1, .int x1, .int x2, .int x3, .int x4, z5] [] D (pu_qi P)
theorem pu_u71_9 {X : px_X} {x1 : Int32} {x2 : Int32} {x3 : Int32} {x4 : Int32} {D : pu_D} {P : Int32 → pu_D → Prop} 
    (H : if x4 < (D.1 5 2) then (pu_I X 52 [.ref 1, .int x4] D (fun y3 D4 => if y3 = 0 then (pu_h71_9 X x1 x2 x3 (x4 + 1) D4 P) else (pu_I X 82 [.ref 5, .int x4, .int 2] D4 (fun y6 D7 => pu_I X 82 [.ref 3, .int y6, .int 2] D7 (fun y8 D9 => pu_I X 82 [.ref 3, .int y6, .int 3] D9 (fun y10 D11 => pu_h71_9 X x1 (x2 + y8) (if y10 < x3 then y10 else x3) (x4 + 1) D11 P)))))) else (if x3 < 1 then (P 0 D) else ((¬ x3 = 0) ∧ P ((x1 / x3) * (x2 + 50)) D))) :
    pu_h71_9 X x1 x2 x3 x4 D P := by
  intro z5 hz5
  refine pu_iload rfl ?_
  refine pu_aload_n rfl ?_
  refine pu_getR pu_kr4_2 pu_c1 pu_r1_2 ?_
  refine pu_getI pu_k6_2 pu_c5 ?_
  refine pu_ge_ pu_t71_79 (fun h1 => ?_) (fun h1 => ?_)
  · replace H := pu_f h1 H
    refine pu_iload_n rfl ?_
    refine pu_iconst ?_
    refine pu_ge_ pu_t71_88 (fun h2 => ?_) (fun h2 => ?_)
    · replace H := pu_f h2 H
      refine pu_iload_n rfl ?_
      refine pu_iload_n rfl ?_
      refine pu_idiv H.1 ?_
      replace H := H.2
      refine pu_iload_n rfl ?_
      refine pu_bipush ?_
      refine pu_iadd ?_
      refine pu_imul ?_
      exact pu_iretI pu_rt71 H
    · replace H := pu_t h2 H
      refine pu_iconst ?_
      refine pu_goto pu_t71_96 ?_
      exact pu_iretI pu_rt71 H
  · replace H := pu_t h1 H
    refine pu_aload_n rfl ?_
    refine pu_iload rfl ?_
    refine pu_cv (vs := [.int x4]) (rest := []) pu_g52 ⟨pu_c1, by decide⟩ rfl rfl rfl rfl rfl (pu_CI (pu_I_imp H (fun y3 D4 H => ?_)))
    refine pu_ne0 pu_t71_33 (fun h5 => ?_) (fun h5 => ?_)
    · replace H := pu_f h5 H
      refine pu_aload_n rfl ?_
      refine pu_getR pu_kr4_2 pu_c1 pu_r1_2 ?_
      refine pu_iload rfl ?_
      refine pu_iconst ?_
      refine pu_cv (vs := [.int x4, .int 2]) (rest := []) pu_g82 ⟨pu_c5, by decide⟩ rfl rfl rfl rfl rfl (pu_CI (pu_I_imp H (fun y6 D7 H => ?_)))
      refine pu_istore (L' := [.ref 1, .int x1, .int x2, .int x3, .int x4, .int y6]) (Or.inr rfl) rfl ?_
      refine pu_iload_n rfl ?_
      refine pu_aload_n rfl ?_
      refine pu_getR pu_kr4_1 pu_c1 pu_r1_1 ?_
      refine pu_iload rfl ?_
      refine pu_iconst ?_
      refine pu_cv (vs := [.int y6, .int 2]) (rest := [.int x2]) pu_g82 ⟨pu_c3, by decide⟩ rfl rfl rfl rfl rfl (pu_CI (pu_I_imp H (fun y8 D9 H => ?_)))
      refine pu_iadd ?_
      refine pu_istore_n (L' := [.ref 1, .int x1, .int (x2 + y8), .int x3, .int x4, .int y6]) (Or.inr rfl) rfl ?_
      refine pu_iload_n rfl ?_
      refine pu_aload_n rfl ?_
      refine pu_getR pu_kr4_1 pu_c1 pu_r1_1 ?_
      refine pu_iload rfl ?_
      refine pu_iconst ?_
      refine pu_cv (vs := [.int y6, .int 3]) (rest := [.int x3]) pu_g82 ⟨pu_c3, by decide⟩ rfl rfl rfl rfl rfl (pu_CI (pu_I_imp H (fun y10 D11 H => ?_)))
      refine pu_mmin rfl ?_
      refine pu_istore_n (L' := [.ref 1, .int x1, .int (x2 + y8), .int (if y10 < x3 then y10 else x3), .int x4, .int y6]) (Or.inr rfl) rfl ?_
      refine pu_iinc (L' := [.ref 1, .int x1, .int (x2 + y8), .int (if y10 < x3 then y10 else x3), .int (x4 + 1), .int y6]) rfl (Or.inr rfl) rfl ?_
      refine pu_goto pu_t71_9 ?_
      exact H _ rfl
    · replace H := pu_t h5 H
      refine pu_goto pu_t71_73 ?_
      refine pu_iinc (L' := [.ref 1, .int x1, .int x2, .int x3, .int (x4 + 1), z5]) rfl (Or.inr rfl) rfl ?_
      refine pu_goto pu_t71_9 ?_
      exact H _ hz5
theorem pu_e71 {X : px_X} {x1 : Int32} {D : pu_D} {P : Int32 → pu_D → Prop} 
    (H : pu_h71_9 X x1 0 (x1 + 1) 0 D P) :
    pu_I X 71 [.ref 1, .int x1] D P := by
  refine pu_ent (E := [.ref 1, .int x1, .null, .null, .null, .null]) pu_n71.1 pu_n71.2 pu_t71_0 rfl ?_
  refine pu_iconst ?_
  refine pu_istore_n (L' := [.ref 1, .int x1, .int 0, .null, .null, .null]) (Or.inr rfl) rfl ?_
  refine pu_iload_n rfl ?_
  refine pu_iconst ?_
  refine pu_iadd ?_
  refine pu_istore_n (L' := [.ref 1, .int x1, .int 0, .int (x1 + 1), .null, .null]) (Or.inr rfl) rfl ?_
  refine pu_iconst ?_
  refine pu_istore (L' := [.ref 1, .int x1, .int 0, .int (x1 + 1), .int 0, .null]) (Or.inr rfl) rfl ?_
  exact H _ rfl
/-- LightAlong$StreetText.read(LLightAlong$Shelf;LLightAlong$Street;)I -/
def pu_h73_12 (X : px_X) (q1 : Nat) (x3 : Int32) (D : pu_D) (P : Int32 → pu_D → Prop) : Prop := ∀ z4 : Value, z4.category = 1 → pu_W X 73 (0, 0) px_c73_12 [.ref 50, .ref q1, .ref 17, .int x3, z4] [] D (pu_qi P)
theorem pu_u73_12 {X : px_X} {q1 : Nat} {x3 : Int32} {D : pu_D} {P : Int32 → pu_D → Prop} (hq1 : pu_cl q1 = 3)
    (H : if (D.1 q1 2) < x3 then (P (D.1 50 1) D) else (pu_I X 74 [.ref 50, .ref q1, .ref 17] D (fun y2 D3 => if y2 = (-1) then (if ((pu_wi D3 50 2 ((D3.1 50 2) + 1)).1 50 1) < ((pu_wi D3 50 2 ((D3.1 50 2) + 1)).1 q1 2) then (pu_I X 40 [.ref q1, .int ((pu_wi D3 50 2 ((D3.1 50 2) + 1)).1 50 1)] (pu_wi D3 50 2 ((D3.1 50 2) + 1)) (fun y6 D7 => if y6 = 59 then (pu_h73_12 X q1 (x3 + 1) (pu_wi D7 50 1 ((D7.1 50 1) + 1)) P) else (P (D7.1 50 1) D7))) else (P (-1) (pu_wi D3 50 2 ((D3.1 50 2) + 1)))) else (P y2 D3)))) :
    pu_h73_12 X q1 x3 D P := by
  intro z4 hz4
  refine pu_iload_n rfl ?_
  refine pu_aload_n rfl ?_
  refine pu_getI pu_k3_2 hq1 ?_
  refine pu_gt_ pu_t73_94 (fun h1 => ?_) (fun h1 => ?_)
  · replace H := pu_t h1 H
    refine pu_aload_n rfl ?_
    refine pu_getI pu_k5_1 pu_c50 ?_
    exact pu_iretI pu_rt73 H
  · replace H := pu_f h1 H
    refine pu_aload_n rfl ?_
    refine pu_aload_n rfl ?_
    refine pu_aload_n rfl ?_
    refine pu_cv (vs := [.ref q1, .ref 17]) (rest := []) pu_g74 ⟨pu_c50, by decide⟩ rfl rfl rfl rfl rfl (pu_CI (pu_I_imp H (fun y2 D3 H => ?_)))
    refine pu_istore (L' := [.ref 50, .ref q1, .ref 17, .int x3, .int y2]) (Or.inr rfl) rfl ?_
    refine pu_iload rfl ?_
    refine pu_iconst ?_
    refine pu_eq_ pu_t73_37 (fun h4 => ?_) (fun h4 => ?_)
    · replace H := pu_t h4 H
      refine pu_aload_n rfl ?_
      refine pu_dup rfl ?_
      refine pu_getI pu_k5_2 pu_c50 ?_
      refine pu_iconst ?_
      refine pu_iadd ?_
      refine pu_putI pu_p5_2 pu_c50 ?_
      refine pu_aload_n rfl ?_
      refine pu_getI pu_k5_1 pu_c50 ?_
      refine pu_aload_n rfl ?_
      refine pu_getI pu_k3_2 hq1 ?_
      refine pu_lt_ pu_t73_60 (fun h5 => ?_) (fun h5 => ?_)
      · replace H := pu_t h5 H
        refine pu_aload_n rfl ?_
        refine pu_aload_n rfl ?_
        refine pu_getI pu_k5_1 pu_c50 ?_
        refine pu_cv (vs := [.int ((pu_wi D3 50 2 ((D3.1 50 2) + 1)).1 50 1)]) (rest := []) pu_g40 ⟨hq1, by decide⟩ rfl rfl rfl rfl rfl (pu_CI (pu_I_imp H (fun y6 D7 H => ?_)))
        refine pu_bipush ?_
        refine pu_eq_ pu_t73_78 (fun h8 => ?_) (fun h8 => ?_)
        · replace H := pu_t h8 H
          refine pu_aload_n rfl ?_
          refine pu_dup rfl ?_
          refine pu_getI pu_k5_1 pu_c50 ?_
          refine pu_iconst ?_
          refine pu_iadd ?_
          refine pu_putI pu_p5_1 pu_c50 ?_
          refine pu_iinc (L' := [.ref 50, .ref q1, .ref 17, .int (x3 + 1), .int y2]) rfl (Or.inr rfl) rfl ?_
          refine pu_goto pu_t73_12 ?_
          exact H _ rfl
        · replace H := pu_f h8 H
          refine pu_aload_n rfl ?_
          refine pu_getI pu_k5_1 pu_c50 ?_
          exact pu_iretI pu_rt73 H
      · replace H := pu_f h5 H
        refine pu_iconst ?_
        exact pu_iretI pu_rt73 H
    · replace H := pu_f h4 H
      refine pu_iload rfl ?_
      exact pu_iretI pu_rt73 H
theorem pu_e73 {X : px_X} {q1 : Nat} {D : pu_D} {P : Int32 → pu_D → Prop} (hq1 : pu_cl q1 = 3)
    (H : pu_h73_12 X q1 0 (pu_wi (pu_wi D 50 1 0) 50 2 0) P) :
    pu_I X 73 [.ref 50, .ref q1, .ref 17] D P := by
  refine pu_ent (E := [.ref 50, .ref q1, .ref 17, .null, .null]) pu_n73.1 pu_n73.2 pu_t73_0 rfl ?_
  refine pu_aload_n rfl ?_
  refine pu_iconst ?_
  refine pu_putI pu_p5_1 pu_c50 ?_
  refine pu_aload_n rfl ?_
  refine pu_iconst ?_
  refine pu_putI pu_p5_2 pu_c50 ?_
  refine pu_iconst ?_
  refine pu_istore_n (L' := [.ref 50, .ref q1, .ref 17, .int 0, .null]) (Or.inr rfl) rfl ?_
  exact H _ rfl
/-- LightAlong$StreetText.readItem(LLightAlong$Shelf;LLightAlong$Street;)I -/
def pu_h74_53 (X : px_X) (q1 : Nat) (x4 : Int32) (x5 : Int32) (D : pu_D) (P : Int32 → pu_D → Prop) : Prop := ∀ z3 : Value, z3.category = 1 → pu_W X 74 (0, 0) px_c74_53 [.ref 50, .ref q1, .ref 17, z3, .int x4, .int x5] [] D (pu_qi P)
theorem pu_u74_53 {X : px_X} {q1 : Nat} {x4 : Int32} {x5 : Int32} {D : pu_D} {P : Int32 → pu_D → Prop} (hq1 : pu_cl q1 = 3)
    (H : (px_in x4 11 = true) ∧ if x5 < (pu_sa 2 x4.toNatClampNeg) then (pu_I X 40 [.ref q1, .int (D.1 50 1)] D (fun y13 D14 => if y13 = 32 then (pu_I X 77 [.ref 50, .ref q1, .int x4, .int x5] (pu_wi D14 50 1 ((D14.1 50 1) + 1)) (fun y16 D17 => if y16 = 0 then (P (D17.1 50 1) D17) else (pu_h74_53 X q1 x4 (x5 + 1) D17 P))) else (P (D14.1 50 1) D14))) else (pu_V X 48 [.ref 17, .int x4, .ref 51] D (fun D12 => P (-1) D12))) :
    pu_h74_53 X q1 x4 x5 D P := by
  intro z3 hz3
  refine pu_iload rfl ?_
  refine pu_gsA (by decide) rfl ?_
  refine pu_iload rfl ?_
  refine pu_ialA (m := 11) (by decide) (by decide +kernel) H.1 ?_
  replace H := H.2
  refine pu_ge_ pu_t74_115 (fun h10 => ?_) (fun h10 => ?_)
  · replace H := pu_f h10 H
    refine pu_aload_n rfl ?_
    refine pu_iload rfl ?_
    refine pu_aload_n rfl ?_
    refine pu_getR pu_kr5_0 pu_c50 pu_r50_0 ?_
    refine pu_cv (vs := [.int x4, .ref 51]) (rest := []) pu_g48 ⟨pu_c17, by decide⟩ rfl rfl rfl rfl rfl (pu_CV (pu_V_imp H (fun D12 H => ?_)))
    refine pu_iconst ?_
    exact pu_iretI pu_rt74 H
  · replace H := pu_t h10 H
    refine pu_aload_n rfl ?_
    refine pu_aload_n rfl ?_
    refine pu_getI pu_k5_1 pu_c50 ?_
    refine pu_cv (vs := [.int (D.1 50 1)]) (rest := []) pu_g40 ⟨hq1, by decide⟩ rfl rfl rfl rfl rfl (pu_CI (pu_I_imp H (fun y13 D14 H => ?_)))
    refine pu_bipush ?_
    refine pu_eq_ pu_t74_82 (fun h15 => ?_) (fun h15 => ?_)
    · replace H := pu_t h15 H
      refine pu_aload_n rfl ?_
      refine pu_dup rfl ?_
      refine pu_getI pu_k5_1 pu_c50 ?_
      refine pu_iconst ?_
      refine pu_iadd ?_
      refine pu_putI pu_p5_1 pu_c50 ?_
      refine pu_aload_n rfl ?_
      refine pu_aload_n rfl ?_
      refine pu_iload rfl ?_
      refine pu_iload rfl ?_
      refine pu_cv (vs := [.ref q1, .int x4, .int x5]) (rest := []) pu_g77 ⟨pu_c50, by decide⟩ rfl rfl rfl rfl rfl (pu_CI (pu_I_imp H (fun y16 D17 H => ?_)))
      refine pu_ne0 pu_t74_109 (fun h18 => ?_) (fun h18 => ?_)
      · replace H := pu_f h18 H
        refine pu_iinc (L' := [.ref 50, .ref q1, .ref 17, z3, .int x4, .int (x5 + 1)]) rfl (Or.inr rfl) rfl ?_
        refine pu_goto pu_t74_53 ?_
        exact H _ hz3
      · replace H := pu_t h18 H
        refine pu_aload_n rfl ?_
        refine pu_getI pu_k5_1 pu_c50 ?_
        exact pu_iretI pu_rt74 H
    · replace H := pu_f h15 H
      refine pu_aload_n rfl ?_
      refine pu_getI pu_k5_1 pu_c50 ?_
      exact pu_iretI pu_rt74 H
theorem pu_e74 {X : px_X} {q1 : Nat} {D : pu_D} {P : Int32 → pu_D → Prop} (hq1 : pu_cl q1 = 3)
    (H : pu_I X 75 [.ref 50, .ref q1] D (fun y1 D2 => if y1 < 0 then (P (D2.1 50 1) D2) else (if y1 < 11 then (pu_I X 47 [.ref 17, .int y1] D2 (fun y5 D6 => if y5 = 0 then (P (D.1 50 1) D6) else (pu_V X 258 [.ref 51, .int 0] D6 (fun D9 => pu_h74_53 X q1 y1 0 D9 P)))) else (P (D2.1 50 1) D2)))) :
    pu_I X 74 [.ref 50, .ref q1, .ref 17] D P := by
  refine pu_ent (E := [.ref 50, .ref q1, .ref 17, .null, .null, .null]) pu_n74.1 pu_n74.2 pu_t74_0 rfl ?_
  refine pu_aload_n rfl ?_
  refine pu_getI pu_k5_1 pu_c50 ?_
  refine pu_istore_n (L' := [.ref 50, .ref q1, .ref 17, .int (D.1 50 1), .null, .null]) (Or.inr rfl) rfl ?_
  refine pu_aload_n rfl ?_
  refine pu_aload_n rfl ?_
  refine pu_cv (vs := [.ref q1]) (rest := []) pu_g75 ⟨pu_c50, by decide⟩ rfl rfl rfl rfl rfl (pu_CI (pu_I_imp H (fun y1 D2 H => ?_)))
  refine pu_istore (L' := [.ref 50, .ref q1, .ref 17, .int (D.1 50 1), .int y1, .null]) (Or.inr rfl) rfl ?_
  refine pu_iload rfl ?_
  refine pu_lt0 pu_t74_26 (fun h3 => ?_) (fun h3 => ?_)
  · replace H := pu_t h3 H
    refine pu_aload_n rfl ?_
    refine pu_getI pu_k5_1 pu_c50 ?_
    exact pu_iretI pu_rt74 H
  · replace H := pu_f h3 H
    refine pu_iload rfl ?_
    refine pu_gsA (by decide) rfl ?_
    refine pu_alenA (y := 11) (by decide) (by decide +kernel) ?_
    refine pu_lt_ pu_t74_31 (fun h4 => ?_) (fun h4 => ?_)
    · replace H := pu_t h4 H
      refine pu_aload_n rfl ?_
      refine pu_iload rfl ?_
      refine pu_cv (vs := [.int y1]) (rest := []) pu_g47 ⟨pu_c17, by decide⟩ rfl rfl rfl rfl rfl (pu_CI (pu_I_imp H (fun y5 D6 H => ?_)))
      refine pu_ne0 pu_t74_42 (fun h7 => ?_) (fun h7 => ?_)
      · replace H := pu_f h7 H
        refine pu_aload_n rfl ?_
        refine pu_getR pu_kr5_0 pu_c50 pu_r50_0 ?_
        refine pu_iconst ?_
        refine pu_cs (vs := [.ref 51, .int 0]) (rest := []) pu_g258 rfl rfl rfl rfl rfl (pu_CV (pu_V_imp H (fun D9 H => ?_)))
        refine pu_iconst ?_
        refine pu_istore (L' := [.ref 50, .ref q1, .ref 17, .int (D.1 50 1), .int y1, .int 0]) (Or.inr rfl) rfl ?_
        exact H _ rfl
      · replace H := pu_t h7 H
        refine pu_iload_n rfl ?_
        exact pu_iretI pu_rt74 H
    · replace H := pu_f h4 H
      refine pu_aload_n rfl ?_
      refine pu_getI pu_k5_1 pu_c50 ?_
      exact pu_iretI pu_rt74 H
/-- LightAlong$StreetText.readWord(LLightAlong$Shelf;)I -/
def pu_h75_7 (X : px_X) (q1 : Nat) (x2 : Int32) (x3 : Int32) (D : pu_D) (P : Int32 → pu_D → Prop) : Prop := ∀ z4 : Value, z4.category = 1 → ∀ z5 : Value, z5.category = 1 → pu_W X 75 (0, 0) px_c75_7 [.ref 50, .ref q1, .int x2, .int x3, z4, z5] [] D (pu_qi P)
theorem pu_u75_7 {X : px_X} {q1 : Nat} {x2 : Int32} {x3 : Int32} {D : pu_D} {P : Int32 → pu_D → Prop} (hq1 : pu_cl q1 = 3)
    (H : if x3 < 11 then (pu_R X 147 [.int x3] D (fun y2 D3 => (1000 ≤ y2 ∧ y2 < 1011) ∧ pu_I X 76 [.ref q1, .int x2, .ref y2] D3 (fun y5 D6 => pu_I X 251 [.ref y2] (pu_wi D6 50 1 (if (D6.1 50 1) < (x2 + y5) then (x2 + y5) else (D6.1 50 1))) (fun y7 D8 => if y5 = y7 then (P x3 D8) else (pu_h75_7 X q1 x2 (x3 + 1) D8 P))))) else (P (-1) D)) :
    pu_h75_7 X q1 x2 x3 D P := by
  intro z4 hz4 z5 hz5
  refine pu_iload_n rfl ?_
  refine pu_bipush ?_
  refine pu_ge_ pu_t75_61 (fun h1 => ?_) (fun h1 => ?_)
  · replace H := pu_f h1 H
    refine pu_iconst ?_
    exact pu_iretI pu_rt75 H
  · replace H := pu_t h1 H
    refine pu_iload_n rfl ?_
    refine pu_cs (vs := [.int x3]) (rest := []) pu_g147 rfl rfl rfl rfl rfl (pu_CR (pu_R_imp H (fun y2 D3 H => ?_)))
    have h4 := H.1
    replace H := H.2
    refine pu_astore (L' := [.ref 50, .ref q1, .int x2, .int x3, .ref y2, z5]) (Or.inr rfl) rfl ?_
    refine pu_aload_n rfl ?_
    refine pu_iload_n rfl ?_
    refine pu_aload rfl ?_
    refine pu_cs (vs := [.ref q1, .int x2, .ref y2]) (rest := []) pu_g76 rfl rfl rfl rfl rfl (pu_CI (pu_I_imp H (fun y5 D6 H => ?_)))
    refine pu_istore (L' := [.ref 50, .ref q1, .int x2, .int x3, .ref y2, .int y5]) (Or.inr rfl) rfl ?_
    refine pu_aload_n rfl ?_
    refine pu_aload_n rfl ?_
    refine pu_getI pu_k5_1 pu_c50 ?_
    refine pu_iload_n rfl ?_
    refine pu_iload rfl ?_
    refine pu_iadd ?_
    refine pu_mmax rfl ?_
    refine pu_putI pu_p5_1 pu_c50 ?_
    refine pu_iload rfl ?_
    refine pu_aload rfl ?_
    refine pu_cvS (vs := []) (rest := [.int y5]) pu_g251 h4 rfl rfl rfl rfl rfl (pu_CI (pu_I_imp H (fun y7 D8 H => ?_)))
    refine pu_ne_ pu_t75_55 (fun h9 => ?_) (fun h9 => ?_)
    · replace H := pu_f h9 H
      refine pu_iinc (L' := [.ref 50, .ref q1, .int x2, .int (x3 + 1), .ref y2, .int y5]) rfl (Or.inr rfl) rfl ?_
      refine pu_goto pu_t75_7 ?_
      exact H _ rfl _ rfl
    · replace H := pu_t h9 H
      refine pu_iload_n rfl ?_
      exact pu_iretI pu_rt75 H
theorem pu_e75 {X : px_X} {q1 : Nat} {D : pu_D} {P : Int32 → pu_D → Prop} (hq1 : pu_cl q1 = 3)
    (H : pu_h75_7 X q1 (D.1 50 1) 0 D P) :
    pu_I X 75 [.ref 50, .ref q1] D P := by
  refine pu_ent (E := [.ref 50, .ref q1, .null, .null, .null, .null]) pu_n75.1 pu_n75.2 pu_t75_0 rfl ?_
  refine pu_aload_n rfl ?_
  refine pu_getI pu_k5_1 pu_c50 ?_
  refine pu_istore_n (L' := [.ref 50, .ref q1, .int (D.1 50 1), .null, .null, .null]) (Or.inr rfl) rfl ?_
  refine pu_iconst ?_
  refine pu_istore_n (L' := [.ref 50, .ref q1, .int (D.1 50 1), .int 0, .null, .null]) (Or.inr rfl) rfl ?_
  exact H _ rfl _ rfl
/-- LightAlong$StreetText.sameLetters(LLightAlong$Shelf;ILjava/lang/String;)I -/
def pu_h76_2 (X : px_X) (q0 : Nat) (x1 : Int32) (q2 : Nat) (x3 : Int32) (D : pu_D) (P : Int32 → pu_D → Prop) : Prop := pu_W X 76 (0, 0) px_c76_2 [.ref q0, .int x1, .ref q2, .int x3] [] D (pu_qi P)
theorem pu_u76_2 {X : px_X} {q0 : Nat} {x1 : Int32} {q2 : Nat} {x3 : Int32} {D : pu_D} {P : Int32 → pu_D → Prop} (hq0 : pu_cl q0 = 3) (hq2 : 1000 ≤ q2 ∧ q2 < 1011)
    (H : pu_I X 251 [.ref q2] D (fun y1 D2 => if x3 < y1 then (pu_I X 40 [.ref q0, .int (x1 + x3)] D2 (fun y4 D5 => pu_I X 252 [.ref q2, .int x3] D5 (fun y6 D7 => if y4 = y6 then (pu_h76_2 X q0 x1 q2 (x3 + 1) D7 P) else (P x3 D7)))) else (P x3 D2))) :
    pu_h76_2 X q0 x1 q2 x3 D P := by
  refine pu_iload_n rfl ?_
  refine pu_aload_n rfl ?_
  refine pu_cvS (vs := []) (rest := [.int x3]) pu_g251 hq2 rfl rfl rfl rfl rfl (pu_CI (pu_I_imp H (fun y1 D2 H => ?_)))
  refine pu_ge_ pu_t76_31 (fun h3 => ?_) (fun h3 => ?_)
  · replace H := pu_f h3 H
    refine pu_iload_n rfl ?_
    exact pu_iretI pu_rt76 H
  · replace H := pu_t h3 H
    refine pu_aload_n rfl ?_
    refine pu_iload_n rfl ?_
    refine pu_iload_n rfl ?_
    refine pu_iadd ?_
    refine pu_cv (vs := [.int (x1 + x3)]) (rest := []) pu_g40 ⟨hq0, by decide⟩ rfl rfl rfl rfl rfl (pu_CI (pu_I_imp H (fun y4 D5 H => ?_)))
    refine pu_aload_n rfl ?_
    refine pu_iload_n rfl ?_
    refine pu_cvS (vs := [.int x3]) (rest := [.int y4]) pu_g252 hq2 rfl rfl rfl rfl rfl (pu_CI (pu_I_imp H (fun y6 D7 H => ?_)))
    refine pu_ne_ pu_t76_31 (fun h8 => ?_) (fun h8 => ?_)
    · replace H := pu_f h8 H
      refine pu_iload_n rfl ?_
      exact pu_iretI pu_rt76 H
    · replace H := pu_t h8 H
      refine pu_iinc (L' := [.ref q0, .int x1, .ref q2, .int (x3 + 1)]) rfl (Or.inr rfl) rfl ?_
      refine pu_goto pu_t76_2 ?_
      exact H 
theorem pu_e76 {X : px_X} {q0 : Nat} {x1 : Int32} {q2 : Nat} {D : pu_D} {P : Int32 → pu_D → Prop} (hq0 : pu_cl q0 = 3) (hq2 : 1000 ≤ q2 ∧ q2 < 1011)
    (H : pu_h76_2 X q0 x1 q2 0 D P) :
    pu_I X 76 [.ref q0, .int x1, .ref q2] D P := by
  refine pu_ent (E := [.ref q0, .int x1, .ref q2, .null]) pu_n76.1 pu_n76.2 pu_t76_0 rfl ?_
  refine pu_iconst ?_
  refine pu_istore_n (L' := [.ref q0, .int x1, .ref q2, .int 0]) (Or.inr rfl) rfl ?_
  exact H 
/-- LightAlong$StreetText.readNumber(LLightAlong$Shelf;II)Z -/
def pu_h77_6 (X : px_X) (q1 : Nat) (x2 : Int32) (x3 : Int32) (x4 : Int32) (x5 : Int32) (D : pu_D) (P : Int32 → pu_D → Prop) : Prop := pu_W X 77 (0, 0) px_c77_6 [.ref 50, .ref q1, .int x2, .int x3, .int x4, .int x5] [] D (pu_qi P)
theorem pu_u77_6 {X : px_X} {q1 : Nat} {x2 : Int32} {x3 : Int32} {x4 : Int32} {x5 : Int32} {D : pu_D} {P : Int32 → pu_D → Prop} (hq1 : pu_cl q1 = 3)
    (H : if x5 < 3 then (pu_I X 40 [.ref q1, .int ((D.1 50 1) + x5)] D (fun y7 D8 => pu_I X 78 [.int y7] D8 (fun y9 D10 => if y9 = 0 then (if x5 = 0 then (P 0 D10) else (if x3 < 4 then (pu_I X 145 [.int x2, .int x3, .int x4] D10 (fun y14 D15 => if y14 = 0 then (P 0 D15) else ((px_in x3 4 = true) ∧ P 1 (pu_wi (pu_wi D15 51 x3.toNatClampNeg x4) 50 1 (((pu_wi D15 51 x3.toNatClampNeg x4).1 50 1) + x5))))) else (P 0 D10))) else (pu_I X 40 [.ref q1, .int ((D10.1 50 1) + x5)] D10 (fun y17 D18 => pu_h77_6 X q1 x2 x3 (((x4 * 10) + y17) - 48) (x5 + 1) D18 P))))) else (if x5 = 0 then (P 0 D) else (if x3 < 4 then (pu_I X 145 [.int x2, .int x3, .int x4] D (fun y4 D5 => if y4 = 0 then (P 0 D5) else ((px_in x3 4 = true) ∧ P 1 (pu_wi (pu_wi D5 51 x3.toNatClampNeg x4) 50 1 (((pu_wi D5 51 x3.toNatClampNeg x4).1 50 1) + x5))))) else (P 0 D)))) :
    pu_h77_6 X q1 x2 x3 x4 x5 D P := by
  refine pu_iload rfl ?_
  refine pu_iconst ?_
  refine pu_ge_ pu_t77_57 (fun h1 => ?_) (fun h1 => ?_)
  · replace H := pu_f h1 H
    refine pu_iload rfl ?_
    refine pu_eq0 pu_t77_81 (fun h2 => ?_) (fun h2 => ?_)
    · replace H := pu_t h2 H
      refine pu_iconst ?_
      exact pu_iretZ pu_rt77 (by decide) H
    · replace H := pu_f h2 H
      refine pu_iload_n rfl ?_
      refine pu_aload_n rfl ?_
      refine pu_getR pu_kr5_0 pu_c50 pu_r50_0 ?_
      refine pu_alen (y := 4) (by decide) pu_c51 (by rw [pu_ln51]; rfl) ?_
      refine pu_ge_ pu_t77_81 (fun h3 => ?_) (fun h3 => ?_)
      · replace H := pu_f h3 H
        refine pu_iconst ?_
        exact pu_iretZ pu_rt77 (by decide) H
      · replace H := pu_t h3 H
        refine pu_iload_n rfl ?_
        refine pu_iload_n rfl ?_
        refine pu_iload rfl ?_
        refine pu_cs (vs := [.int x2, .int x3, .int x4]) (rest := []) pu_g145 rfl rfl rfl rfl rfl (pu_CI (pu_I_imp H (fun y4 D5 H => ?_)))
        refine pu_ne0 pu_t77_83 (fun h6 => ?_) (fun h6 => ?_)
        · replace H := pu_f h6 H
          refine pu_aload_n rfl ?_
          refine pu_getR pu_kr5_0 pu_c50 pu_r50_0 ?_
          refine pu_iload_n rfl ?_
          refine pu_iload rfl ?_
          refine pu_ias pu_c51 pu_ln51 H.1 ?_
          replace H := H.2
          refine pu_aload_n rfl ?_
          refine pu_dup rfl ?_
          refine pu_getI pu_k5_1 pu_c50 ?_
          refine pu_iload rfl ?_
          refine pu_iadd ?_
          refine pu_putI pu_p5_1 pu_c50 ?_
          refine pu_iconst ?_
          exact pu_iretZ pu_rt77 (by decide) H
        · replace H := pu_t h6 H
          refine pu_iconst ?_
          exact pu_iretZ pu_rt77 (by decide) H
  · replace H := pu_t h1 H
    refine pu_aload_n rfl ?_
    refine pu_aload_n rfl ?_
    refine pu_getI pu_k5_1 pu_c50 ?_
    refine pu_iload rfl ?_
    refine pu_iadd ?_
    refine pu_cv (vs := [.int ((D.1 50 1) + x5)]) (rest := []) pu_g40 ⟨hq1, by decide⟩ rfl rfl rfl rfl rfl (pu_CI (pu_I_imp H (fun y7 D8 H => ?_)))
    refine pu_cs (vs := [.int y7]) (rest := []) pu_g78 rfl rfl rfl rfl rfl (pu_CI (pu_I_imp H (fun y9 D10 H => ?_)))
    refine pu_eq0 pu_t77_57 (fun h11 => ?_) (fun h11 => ?_)
    · replace H := pu_t h11 H
      refine pu_iload rfl ?_
      refine pu_eq0 pu_t77_81 (fun h12 => ?_) (fun h12 => ?_)
      · replace H := pu_t h12 H
        refine pu_iconst ?_
        exact pu_iretZ pu_rt77 (by decide) H
      · replace H := pu_f h12 H
        refine pu_iload_n rfl ?_
        refine pu_aload_n rfl ?_
        refine pu_getR pu_kr5_0 pu_c50 pu_r50_0 ?_
        refine pu_alen (y := 4) (by decide) pu_c51 (by rw [pu_ln51]; rfl) ?_
        refine pu_ge_ pu_t77_81 (fun h13 => ?_) (fun h13 => ?_)
        · replace H := pu_f h13 H
          refine pu_iconst ?_
          exact pu_iretZ pu_rt77 (by decide) H
        · replace H := pu_t h13 H
          refine pu_iload_n rfl ?_
          refine pu_iload_n rfl ?_
          refine pu_iload rfl ?_
          refine pu_cs (vs := [.int x2, .int x3, .int x4]) (rest := []) pu_g145 rfl rfl rfl rfl rfl (pu_CI (pu_I_imp H (fun y14 D15 H => ?_)))
          refine pu_ne0 pu_t77_83 (fun h16 => ?_) (fun h16 => ?_)
          · replace H := pu_f h16 H
            refine pu_aload_n rfl ?_
            refine pu_getR pu_kr5_0 pu_c50 pu_r50_0 ?_
            refine pu_iload_n rfl ?_
            refine pu_iload rfl ?_
            refine pu_ias pu_c51 pu_ln51 H.1 ?_
            replace H := H.2
            refine pu_aload_n rfl ?_
            refine pu_dup rfl ?_
            refine pu_getI pu_k5_1 pu_c50 ?_
            refine pu_iload rfl ?_
            refine pu_iadd ?_
            refine pu_putI pu_p5_1 pu_c50 ?_
            refine pu_iconst ?_
            exact pu_iretZ pu_rt77 (by decide) H
          · replace H := pu_t h16 H
            refine pu_iconst ?_
            exact pu_iretZ pu_rt77 (by decide) H
    · replace H := pu_f h11 H
      refine pu_iload rfl ?_
      refine pu_bipush ?_
      refine pu_imul ?_
      refine pu_aload_n rfl ?_
      refine pu_aload_n rfl ?_
      refine pu_getI pu_k5_1 pu_c50 ?_
      refine pu_iload rfl ?_
      refine pu_iadd ?_
      refine pu_cv (vs := [.int ((D10.1 50 1) + x5)]) (rest := [.int (x4 * 10)]) pu_g40 ⟨hq1, by decide⟩ rfl rfl rfl rfl rfl (pu_CI (pu_I_imp H (fun y17 D18 H => ?_)))
      refine pu_iadd ?_
      refine pu_bipush ?_
      refine pu_isub ?_
      refine pu_istore (L' := [.ref 50, .ref q1, .int x2, .int x3, .int (((x4 * 10) + y17) - 48), .int x5]) (Or.inr rfl) rfl ?_
      refine pu_iinc (L' := [.ref 50, .ref q1, .int x2, .int x3, .int (((x4 * 10) + y17) - 48), .int (x5 + 1)]) rfl (Or.inr rfl) rfl ?_
      refine pu_goto pu_t77_6 ?_
      exact H 
theorem pu_e77 {X : px_X} {q1 : Nat} {x2 : Int32} {x3 : Int32} {D : pu_D} {P : Int32 → pu_D → Prop} (hq1 : pu_cl q1 = 3)
    (H : pu_h77_6 X q1 x2 x3 0 0 D P) :
    pu_I X 77 [.ref 50, .ref q1, .int x2, .int x3] D P := by
  refine pu_ent (E := [.ref 50, .ref q1, .int x2, .int x3, .null, .null]) pu_n77.1 pu_n77.2 pu_t77_0 rfl ?_
  refine pu_iconst ?_
  refine pu_istore (L' := [.ref 50, .ref q1, .int x2, .int x3, .int 0, .null]) (Or.inr rfl) rfl ?_
  refine pu_iconst ?_
  refine pu_istore (L' := [.ref 50, .ref q1, .int x2, .int x3, .int 0, .int 0]) (Or.inr rfl) rfl ?_
  exact H 
/-- LightAlong$StreetText.isDigit(I)Z -/
theorem pu_e78 {X : px_X} {x0 : Int32} {D : pu_D} {P : Int32 → pu_D → Prop} 
    (H : if x0 < 48 then (P 0 D) else (if 57 < x0 then (P 0 D) else (P 1 D))) :
    pu_I X 78 [.int x0] D P := by
  refine pu_ent (E := [.int x0]) pu_n78.1 pu_n78.2 pu_t78_0 rfl ?_
  refine pu_iload_n rfl ?_
  refine pu_bipush ?_
  refine pu_lt_ pu_t78_16 (fun h1 => ?_) (fun h1 => ?_)
  · replace H := pu_t h1 H
    refine pu_iconst ?_
    exact pu_iretZ pu_rt78 (by decide) H
  · replace H := pu_f h1 H
    refine pu_iload_n rfl ?_
    refine pu_bipush ?_
    refine pu_gt_ pu_t78_16 (fun h2 => ?_) (fun h2 => ?_)
    · replace H := pu_t h2 H
      refine pu_iconst ?_
      exact pu_iretZ pu_rt78 (by decide) H
    · replace H := pu_f h2 H
      refine pu_iconst ?_
      refine pu_goto pu_t78_17 ?_
      exact pu_iretZ pu_rt78 (by decide) H
/-- LightAlong$Table.isFull()Z -/
theorem pu_e80 {X : px_X} {q0 : Nat} {D : pu_D} {P : Int32 → pu_D → Prop} (hq0 : pu_cl q0 = 6)
    (H : if (D.1 q0 2) < (D.1 q0 0) then (P 0 D) else (P 1 D)) :
    pu_I X 80 [.ref q0] D P := by
  refine pu_ent (E := [.ref q0]) pu_n80.1 pu_n80.2 pu_t80_0 rfl ?_
  refine pu_aload_n rfl ?_
  refine pu_getI pu_k6_2 hq0 ?_
  refine pu_aload_n rfl ?_
  refine pu_getI pu_k6_0 hq0 ?_
  refine pu_lt_ pu_t80_15 (fun h1 => ?_) (fun h1 => ?_)
  · replace H := pu_t h1 H
    refine pu_iconst ?_
    exact pu_iretZ pu_rt80 (by decide) H
  · replace H := pu_f h1 H
    refine pu_iconst ?_
    refine pu_goto pu_t80_16 ?_
    exact pu_iretZ pu_rt80 (by decide) H
/-- LightAlong$Table.has(I)Z -/
theorem pu_e81 {X : px_X} {q0 : Nat} {x1 : Int32} {D : pu_D} {P : Int32 → pu_D → Prop} (hq0 : pu_cl q0 = 6)
    (H : if x1 < 0 then (P 0 D) else (if x1 < (D.1 q0 2) then (P 1 D) else (P 0 D))) :
    pu_I X 81 [.ref q0, .int x1] D P := by
  refine pu_ent (E := [.ref q0, .int x1]) pu_n81.1 pu_n81.2 pu_t81_0 rfl ?_
  refine pu_iload_n rfl ?_
  refine pu_lt0 pu_t81_16 (fun h1 => ?_) (fun h1 => ?_)
  · replace H := pu_t h1 H
    refine pu_iconst ?_
    exact pu_iretZ pu_rt81 (by decide) H
  · replace H := pu_f h1 H
    refine pu_iload_n rfl ?_
    refine pu_aload_n rfl ?_
    refine pu_getI pu_k6_2 hq0 ?_
    refine pu_ge_ pu_t81_16 (fun h2 => ?_) (fun h2 => ?_)
    · replace H := pu_f h2 H
      refine pu_iconst ?_
      exact pu_iretZ pu_rt81 (by decide) H
    · replace H := pu_t h2 H
      refine pu_iconst ?_
      refine pu_goto pu_t81_17 ?_
      exact pu_iretZ pu_rt81 (by decide) H
/-- LightAlong$Table.number(II)I -/
theorem pu_e82 {X : px_X} {q0 : Nat} {x1 : Int32} {x2 : Int32} {D : pu_D} {P : Int32 → pu_D → Prop} (hq0 : pu_cl q0 = 6)
    (H : if x1 < 0 then (P (-1) D) else (if x1 < (D.1 q0 2) then (if x2 < 0 then (P (-1) D) else (if x2 < 4 then ((px_in ((x1 * 4) + x2) (pu_ln (pu_rf q0 1)) = true) ∧ P (D.1 (pu_rf q0 1) ((x1 * 4) + x2).toNatClampNeg) D) else (P (-1) D))) else (P (-1) D))) :
    pu_I X 82 [.ref q0, .int x1, .int x2] D P := by
  refine pu_ent (E := [.ref q0, .int x1, .int x2, .null]) pu_n82.1 pu_n82.2 pu_t82_0 rfl ?_
  refine pu_iload_n rfl ?_
  refine pu_lt0 pu_t82_25 (fun h1 => ?_) (fun h1 => ?_)
  · replace H := pu_t h1 H
    refine pu_iconst ?_
    refine pu_istore_n (L' := [.ref q0, .int x1, .int x2, .int 0]) (Or.inr rfl) rfl ?_
    refine pu_iload_n rfl ?_
    refine pu_ifT (by decide) pu_t82_44 ?_
    refine pu_iconst ?_
    exact pu_iretI pu_rt82 H
  · replace H := pu_f h1 H
    refine pu_iload_n rfl ?_
    refine pu_aload_n rfl ?_
    refine pu_getI pu_k6_2 hq0 ?_
    refine pu_ge_ pu_t82_25 (fun h2 => ?_) (fun h2 => ?_)
    · replace H := pu_f h2 H
      refine pu_iconst ?_
      refine pu_istore_n (L' := [.ref q0, .int x1, .int x2, .int 0]) (Or.inr rfl) rfl ?_
      refine pu_iload_n rfl ?_
      refine pu_ifT (by decide) pu_t82_44 ?_
      refine pu_iconst ?_
      exact pu_iretI pu_rt82 H
    · replace H := pu_t h2 H
      refine pu_iload_n rfl ?_
      refine pu_lt0 pu_t82_25 (fun h3 => ?_) (fun h3 => ?_)
      · replace H := pu_t h3 H
        refine pu_iconst ?_
        refine pu_istore_n (L' := [.ref q0, .int x1, .int x2, .int 0]) (Or.inr rfl) rfl ?_
        refine pu_iload_n rfl ?_
        refine pu_ifT (by decide) pu_t82_44 ?_
        refine pu_iconst ?_
        exact pu_iretI pu_rt82 H
      · replace H := pu_f h3 H
        refine pu_iload_n rfl ?_
        refine pu_iconst ?_
        refine pu_ge_ pu_t82_25 (fun h4 => ?_) (fun h4 => ?_)
        · replace H := pu_f h4 H
          refine pu_iconst ?_
          refine pu_istore_n (L' := [.ref q0, .int x1, .int x2, .int 0]) (Or.inr rfl) rfl ?_
          refine pu_iload_n rfl ?_
          refine pu_ifT (by decide) pu_t82_44 ?_
          refine pu_iconst ?_
          exact pu_iretI pu_rt82 H
        · replace H := pu_t h4 H
          refine pu_iconst ?_
          refine pu_goto pu_t82_26 ?_
          refine pu_istore_n (L' := [.ref q0, .int x1, .int x2, .int 1]) (Or.inr rfl) rfl ?_
          refine pu_iload_n rfl ?_
          refine pu_ifF (by decide) ?_
          refine pu_aload_n rfl ?_
          refine pu_getR pu_kr6_1 hq0 rfl ?_
          refine pu_iload_n rfl ?_
          refine pu_iconst ?_
          refine pu_imul ?_
          refine pu_iload_n rfl ?_
          refine pu_iadd ?_
          refine pu_ial (pu_f6_1 hq0) rfl H.1 ?_
          replace H := H.2
          refine pu_goto pu_t82_45 ?_
          exact pu_iretI pu_rt82 H
/-- LightAlong$Table.change(III)V -/
theorem pu_e83 {X : px_X} {q0 : Nat} {x1 : Int32} {x2 : Int32} {x3 : Int32} {D : pu_D} {P : pu_D → Prop} (hq0 : pu_cl q0 = 6)
    (H : pu_I X 81 [.ref q0, .int x1] D (fun y1 D2 => if y1 = 0 then (P D2) else (if x2 < 0 then (P D2) else (if x2 < 4 then ((px_in ((x1 * 4) + x2) (pu_ln (pu_rf q0 1)) = true) ∧ P (pu_wi D2 (pu_rf q0 1) ((x1 * 4) + x2).toNatClampNeg x3)) else (P D2))))) :
    pu_V X 83 [.ref q0, .int x1, .int x2, .int x3] D P := by
  refine pu_ent (E := [.ref q0, .int x1, .int x2, .int x3]) pu_n83.1 pu_n83.2 pu_t83_0 rfl ?_
  refine pu_aload_n rfl ?_
  refine pu_iload_n rfl ?_
  refine pu_cv (vs := [.int x1]) (rest := []) pu_g81 ⟨hq0, by decide⟩ rfl rfl rfl rfl rfl (pu_CI (pu_I_imp H (fun y1 D2 H => ?_)))
  refine pu_eq0 pu_t83_28 (fun h3 => ?_) (fun h3 => ?_)
  · replace H := pu_t h3 H
    exact pu_vret pu_rt83 H
  · replace H := pu_f h3 H
    refine pu_iload_n rfl ?_
    refine pu_lt0 pu_t83_28 (fun h4 => ?_) (fun h4 => ?_)
    · replace H := pu_t h4 H
      exact pu_vret pu_rt83 H
    · replace H := pu_f h4 H
      refine pu_iload_n rfl ?_
      refine pu_iconst ?_
      refine pu_ge_ pu_t83_28 (fun h5 => ?_) (fun h5 => ?_)
      · replace H := pu_f h5 H
        exact pu_vret pu_rt83 H
      · replace H := pu_t h5 H
        refine pu_aload_n rfl ?_
        refine pu_getR pu_kr6_1 hq0 rfl ?_
        refine pu_iload_n rfl ?_
        refine pu_iconst ?_
        refine pu_imul ?_
        refine pu_iload_n rfl ?_
        refine pu_iadd ?_
        refine pu_iload_n rfl ?_
        refine pu_ias (pu_f6_1 hq0) rfl H.1 ?_
        replace H := H.2
        exact pu_vret pu_rt83 H
/-- LightAlong$Table.add(IIII)I -/
theorem pu_e84 {X : px_X} {q0 : Nat} {x1 : Int32} {x2 : Int32} {x3 : Int32} {x4 : Int32} {D : pu_D} {P : Int32 → pu_D → Prop} (hq0 : pu_cl q0 = 6)
    (H : pu_I X 80 [.ref q0] D (fun y1 D2 => if y1 = 0 then (pu_V X 83 [.ref q0, .int (D2.1 q0 2), .int 0, .int x1] (pu_wi D2 q0 2 ((D2.1 q0 2) + 1)) (fun D5 => pu_V X 83 [.ref q0, .int (D2.1 q0 2), .int 1, .int x2] D5 (fun D7 => pu_V X 83 [.ref q0, .int (D2.1 q0 2), .int 2, .int x3] D7 (fun D9 => pu_V X 83 [.ref q0, .int (D2.1 q0 2), .int 3, .int x4] D9 (fun D11 => P (D2.1 q0 2) D11))))) else (P (-1) D2))) :
    pu_I X 84 [.ref q0, .int x1, .int x2, .int x3, .int x4] D P := by
  refine pu_ent (E := [.ref q0, .int x1, .int x2, .int x3, .int x4, .null]) pu_n84.1 pu_n84.2 pu_t84_0 rfl ?_
  refine pu_aload_n rfl ?_
  refine pu_cv (vs := []) (rest := []) pu_g80 ⟨hq0, by decide⟩ rfl rfl rfl rfl rfl (pu_CI (pu_I_imp H (fun y1 D2 H => ?_)))
  refine pu_eq0 pu_t84_9 (fun h3 => ?_) (fun h3 => ?_)
  · replace H := pu_t h3 H
    refine pu_aload_n rfl ?_
    refine pu_getI pu_k6_2 hq0 ?_
    refine pu_istore (L' := [.ref q0, .int x1, .int x2, .int x3, .int x4, .int (D2.1 q0 2)]) (Or.inr rfl) rfl ?_
    refine pu_aload_n rfl ?_
    refine pu_dup rfl ?_
    refine pu_getI pu_k6_2 hq0 ?_
    refine pu_iconst ?_
    refine pu_iadd ?_
    refine pu_putI pu_p6_2 hq0 ?_
    refine pu_aload_n rfl ?_
    refine pu_iload rfl ?_
    refine pu_iconst ?_
    refine pu_iload_n rfl ?_
    refine pu_cv (vs := [.int (D2.1 q0 2), .int 0, .int x1]) (rest := []) pu_g83 ⟨hq0, by decide⟩ rfl rfl rfl rfl rfl (pu_CV (pu_V_imp H (fun D5 H => ?_)))
    refine pu_aload_n rfl ?_
    refine pu_iload rfl ?_
    refine pu_iconst ?_
    refine pu_iload_n rfl ?_
    refine pu_cv (vs := [.int (D2.1 q0 2), .int 1, .int x2]) (rest := []) pu_g83 ⟨hq0, by decide⟩ rfl rfl rfl rfl rfl (pu_CV (pu_V_imp H (fun D7 H => ?_)))
    refine pu_aload_n rfl ?_
    refine pu_iload rfl ?_
    refine pu_iconst ?_
    refine pu_iload_n rfl ?_
    refine pu_cv (vs := [.int (D2.1 q0 2), .int 2, .int x3]) (rest := []) pu_g83 ⟨hq0, by decide⟩ rfl rfl rfl rfl rfl (pu_CV (pu_V_imp H (fun D9 H => ?_)))
    refine pu_aload_n rfl ?_
    refine pu_iload rfl ?_
    refine pu_iconst ?_
    refine pu_iload rfl ?_
    refine pu_cv (vs := [.int (D2.1 q0 2), .int 3, .int x4]) (rest := []) pu_g83 ⟨hq0, by decide⟩ rfl rfl rfl rfl rfl (pu_CV (pu_V_imp H (fun D11 H => ?_)))
    refine pu_iload rfl ?_
    exact pu_iretI pu_rt84 H
  · replace H := pu_f h3 H
    refine pu_iconst ?_
    exact pu_iretI pu_rt84 H
/-- LightAlong$Table.become(LLightAlong$Table;)V -/
theorem pu_e85 {X : px_X} {q0 : Nat} {q1 : Nat} {D : pu_D} {P : pu_D → Prop} (hq0 : pu_cl q0 = 6) (hq1 : pu_cl q1 = 6)
    (H : (pu_cpk (pu_rf q1 1) (pu_rf q0 1) 0 0 (if (Int32.ofNat (pu_ln (pu_rf q1 1))) < (Int32.ofNat (pu_ln (pu_rf q0 1))) then (Int32.ofNat (pu_ln (pu_rf q1 1))) else (Int32.ofNat (pu_ln (pu_rf q0 1))))) ∧ P (pu_wi (pu_cpI D (pu_rf q1 1) (pu_rf q0 1) 0 0 (if (Int32.ofNat (pu_ln (pu_rf q1 1))) < (Int32.ofNat (pu_ln (pu_rf q0 1))) then (Int32.ofNat (pu_ln (pu_rf q1 1))) else (Int32.ofNat (pu_ln (pu_rf q0 1))))) q0 2 ((pu_cpI D (pu_rf q1 1) (pu_rf q0 1) 0 0 (if (Int32.ofNat (pu_ln (pu_rf q1 1))) < (Int32.ofNat (pu_ln (pu_rf q0 1))) then (Int32.ofNat (pu_ln (pu_rf q1 1))) else (Int32.ofNat (pu_ln (pu_rf q0 1))))).1 q1 2))) :
    pu_V X 85 [.ref q0, .ref q1] D P := by
  refine pu_ent (E := [.ref q0, .ref q1, .null]) pu_n85.1 pu_n85.2 pu_t85_0 rfl ?_
  refine pu_aload_n rfl ?_
  refine pu_getR pu_kr6_1 hq0 rfl ?_
  refine pu_alen (by decide) (pu_f6_1 hq0) rfl ?_
  refine pu_aload_n rfl ?_
  refine pu_getR pu_kr6_1 hq1 rfl ?_
  refine pu_alen (by decide) (pu_f6_1 hq1) rfl ?_
  refine pu_mmin rfl ?_
  refine pu_istore_n (L' := [.ref q0, .ref q1, .int (if (Int32.ofNat (pu_ln (pu_rf q1 1))) < (Int32.ofNat (pu_ln (pu_rf q0 1))) then (Int32.ofNat (pu_ln (pu_rf q1 1))) else (Int32.ofNat (pu_ln (pu_rf q0 1))))]) (Or.inr rfl) rfl ?_
  refine pu_aload_n rfl ?_
  refine pu_getR pu_kr6_1 hq1 rfl ?_
  refine pu_iconst ?_
  refine pu_aload_n rfl ?_
  refine pu_getR pu_kr6_1 hq0 rfl ?_
  refine pu_iconst ?_
  refine pu_iload_n rfl ?_
  refine pu_acpI (pu_f6_1 hq1) (pu_f6_1 hq0) rfl H.1 ?_
  replace H := H.2
  refine pu_aload_n rfl ?_
  refine pu_aload_n rfl ?_
  refine pu_getI pu_k6_2 hq1 ?_
  refine pu_putI pu_p6_2 hq0 ?_
  exact pu_vret pu_rt85 H
/-- LightAlong.row(III)I -/
theorem pu_e87 {X : px_X} {x1 : Int32} {x2 : Int32} {x3 : Int32} {D : pu_D} {P : Int32 → pu_D → Prop} 
    (H : pu_I X 138 [.int x1] D (fun y1 D2 => if y1 = 0 then (pu_I X 130 [.ref 0, .int (-1)] D2 (fun y19 D20 => P y19 D20)) else (if x3 < 0 then (pu_I X 130 [.ref 0, .int (-4)] D2 (fun y17 D18 => P y17 D18)) else (if x2 < 0 then (pu_I X 130 [.ref 0, .int (-6)] D2 (fun y6 D7 => P y6 D7)) else (if 3 < x2 then (pu_I X 130 [.ref 0, .int (-6)] D2 (fun y15 D16 => P y15 D16)) else (if 120 < x3 then (pu_I X 130 [.ref 0, .int (-7)] D2 (fun y13 D14 => P y13 D14)) else ((px_in x1 8 = true) ∧ pu_V X 35 [.ref (pu_rf 49 x1.toNatClampNeg), .int x2, .int x3] D2 (fun D12 => P 1 D12)))))))) :
    pu_I X 87 [.ref 0, .int x1, .int x2, .int x3] D P := by
  refine pu_ent (E := [.ref 0, .int x1, .int x2, .int x3]) pu_n87.1 pu_n87.2 pu_t87_0 rfl ?_
  refine pu_iload_n rfl ?_
  refine pu_cs (vs := [.int x1]) (rest := []) pu_g138 rfl rfl rfl rfl rfl (pu_CI (pu_I_imp H (fun y1 D2 H => ?_)))
  refine pu_ne0 pu_t87_13 (fun h3 => ?_) (fun h3 => ?_)
  · replace H := pu_f h3 H
    refine pu_iload_n rfl ?_
    refine pu_ge0 pu_t87_24 (fun h4 => ?_) (fun h4 => ?_)
    · replace H := pu_f h4 H
      refine pu_iload_n rfl ?_
      refine pu_lt0 pu_t87_33 (fun h5 => ?_) (fun h5 => ?_)
      · replace H := pu_t h5 H
        refine pu_aload_n rfl ?_
        refine pu_bipush ?_
        refine pu_cv (vs := [.int (-6)]) (rest := []) pu_g130 ⟨pu_c0, by decide⟩ rfl rfl rfl rfl rfl (pu_CI (pu_I_imp H (fun y6 D7 H => ?_)))
        exact pu_iretI pu_rt87 H
      · replace H := pu_f h5 H
        refine pu_iload_n rfl ?_
        refine pu_iconst ?_
        refine pu_le_ pu_t87_40 (fun h8 => ?_) (fun h8 => ?_)
        · replace H := pu_f h8 H
          refine pu_iload_n rfl ?_
          refine pu_bipush ?_
          refine pu_le_ pu_t87_53 (fun h9 => ?_) (fun h9 => ?_)
          · replace H := pu_f h9 H
            refine pu_aload_n rfl ?_
            refine pu_getR pu_kr7_4 pu_c0 pu_r0_4 ?_
            refine pu_iload_n rfl ?_
            have h10 := H.1
            refine pu_aal h10 ?_
            replace H := H.2
            refine pu_iload_n rfl ?_
            refine pu_iload_n rfl ?_
            refine pu_cv (vs := [.int x2, .int x3]) (rest := []) pu_g35 ⟨(pu_sh h10), by decide⟩ rfl rfl rfl rfl rfl (pu_CV (pu_V_imp H (fun D12 H => ?_)))
            refine pu_iconst ?_
            exact pu_iretI pu_rt87 H
          · replace H := pu_t h9 H
            refine pu_aload_n rfl ?_
            refine pu_bipush ?_
            refine pu_cv (vs := [.int (-7)]) (rest := []) pu_g130 ⟨pu_c0, by decide⟩ rfl rfl rfl rfl rfl (pu_CI (pu_I_imp H (fun y13 D14 H => ?_)))
            exact pu_iretI pu_rt87 H
        · replace H := pu_t h8 H
          refine pu_aload_n rfl ?_
          refine pu_bipush ?_
          refine pu_cv (vs := [.int (-6)]) (rest := []) pu_g130 ⟨pu_c0, by decide⟩ rfl rfl rfl rfl rfl (pu_CI (pu_I_imp H (fun y15 D16 H => ?_)))
          exact pu_iretI pu_rt87 H
    · replace H := pu_t h4 H
      refine pu_aload_n rfl ?_
      refine pu_bipush ?_
      refine pu_cv (vs := [.int (-4)]) (rest := []) pu_g130 ⟨pu_c0, by decide⟩ rfl rfl rfl rfl rfl (pu_CI (pu_I_imp H (fun y17 D18 H => ?_)))
      exact pu_iretI pu_rt87 H
  · replace H := pu_t h3 H
    refine pu_aload_n rfl ?_
    refine pu_iconst ?_
    refine pu_cv (vs := [.int (-1)]) (rest := []) pu_g130 ⟨pu_c0, by decide⟩ rfl rfl rfl rfl rfl (pu_CI (pu_I_imp H (fun y19 D20 H => ?_)))
    exact pu_iretI pu_rt87 H
/-- LightAlong.set(IIJ)I -/
theorem pu_e88 {X : px_X} {x1 : Int32} {x2 : Int32} {x3 : Int64} {D : pu_D} {P : Int32 → pu_D → Prop} 
    (H : pu_I X 132 [.ref 0, .int x1] D (fun y1 D2 => if y1 = 0 then ((px_in x1 8 = true) ∧ pu_I X 37 [.ref (pu_rf 49 x1.toNatClampNeg), .int x2] D2 (fun y5 D6 => if y5 = 0 then (pu_I X 130 [.ref 0, .int (-5)] D6 (fun y11 D12 => P y11 D12)) else ((px_in x1 8 = true) ∧ pu_V X 41 [.ref (pu_rf 49 x1.toNatClampNeg), .int x2, .long x3] D6 (fun D10 => P 1 D10)))) else (pu_I X 130 [.ref 0, .int y1] D2 (fun y13 D14 => P y13 D14)))) :
    pu_I X 88 [.ref 0, .int x1, .int x2, .long x3] D P := by
  refine pu_ent (E := [.ref 0, .int x1, .int x2, .long x3, .null, .null]) pu_n88.1 pu_n88.2 pu_t88_0 rfl ?_
  refine pu_aload_n rfl ?_
  refine pu_iload_n rfl ?_
  refine pu_cv (vs := [.int x1]) (rest := []) pu_g132 ⟨pu_c0, by decide⟩ rfl rfl rfl rfl rfl (pu_CI (pu_I_imp H (fun y1 D2 H => ?_)))
  refine pu_istore (L' := [.ref 0, .int x1, .int x2, .long x3, .null, .int y1]) (Or.inr rfl) rfl ?_
  refine pu_iload rfl ?_
  refine pu_eq0 pu_t88_19 (fun h3 => ?_) (fun h3 => ?_)
  · replace H := pu_t h3 H
    refine pu_aload_n rfl ?_
    refine pu_getR pu_kr7_4 pu_c0 pu_r0_4 ?_
    refine pu_iload_n rfl ?_
    have h4 := H.1
    refine pu_aal h4 ?_
    replace H := H.2
    refine pu_iload_n rfl ?_
    refine pu_cv (vs := [.int x2]) (rest := []) pu_g37 ⟨(pu_sh h4), by decide⟩ rfl rfl rfl rfl rfl (pu_CI (pu_I_imp H (fun y5 D6 H => ?_)))
    refine pu_ne0 pu_t88_39 (fun h7 => ?_) (fun h7 => ?_)
    · replace H := pu_f h7 H
      refine pu_aload_n rfl ?_
      refine pu_getR pu_kr7_4 pu_c0 pu_r0_4 ?_
      refine pu_iload_n rfl ?_
      have h8 := H.1
      refine pu_aal h8 ?_
      replace H := H.2
      refine pu_iload_n rfl ?_
      refine pu_lload_n rfl ?_
      refine pu_cv (vs := [.int x2, .long x3]) (rest := []) pu_g41 ⟨(pu_sh h8), by decide⟩ rfl rfl rfl rfl rfl (pu_CV (pu_V_imp H (fun D10 H => ?_)))
      refine pu_iconst ?_
      exact pu_iretI pu_rt88 H
    · replace H := pu_t h7 H
      refine pu_aload_n rfl ?_
      refine pu_bipush ?_
      refine pu_cv (vs := [.int (-5)]) (rest := []) pu_g130 ⟨pu_c0, by decide⟩ rfl rfl rfl rfl rfl (pu_CI (pu_I_imp H (fun y11 D12 H => ?_)))
      exact pu_iretI pu_rt88 H
  · replace H := pu_f h3 H
    refine pu_aload_n rfl ?_
    refine pu_iload rfl ?_
    refine pu_cv (vs := [.int y1]) (rest := []) pu_g130 ⟨pu_c0, by decide⟩ rfl rfl rfl rfl rfl (pu_CI (pu_I_imp H (fun y13 D14 H => ?_)))
    exact pu_iretI pu_rt88 H
/-- LightAlong.copy(IIIII)I -/
theorem pu_e89 {X : px_X} {x1 : Int32} {x2 : Int32} {x3 : Int32} {x4 : Int32} {x5 : Int32} {D : pu_D} {P : Int32 → pu_D → Prop} 
    (H : pu_I X 138 [.int x1] D (fun y1 D2 => if y1 = 0 then (pu_I X 130 [.ref 0, .int (-1)] D2 (fun y4 D5 => P y4 D5)) else (pu_I X 138 [.int x2] D2 (fun y6 D7 => if y6 = 0 then (pu_I X 130 [.ref 0, .int (-1)] D7 (fun y99 D100 => P y99 D100)) else ((px_in x1 8 = true) ∧ (px_in x2 8 = true) ∧ pu_I X 33 [.ref (pu_rf 49 x1.toNatClampNeg)] D7 (fun y11 D12 => if y11 = 0 then (pu_I X 33 [.ref (pu_rf 49 x2.toNatClampNeg)] D12 (fun y16 D17 => if y16 = 0 then (pu_I X 32 [.ref (pu_rf 49 x1.toNatClampNeg)] D17 (fun y19 D20 => if y19 = 0 then (pu_I X 32 [.ref (pu_rf 49 x1.toNatClampNeg)] D20 (fun y22 D23 => if y22 = 0 then (pu_I X 130 [.ref 0, .int (-3)] D23 (fun y25 D26 => P y25 D26)) else (pu_I X 32 [.ref (pu_rf 49 x2.toNatClampNeg)] D23 (fun y27 D28 => if y27 = 0 then (pu_I X 130 [.ref 0, .int (-3)] D28 (fun y43 D44 => P y43 D44)) else (if x5 < 0 then (pu_I X 130 [.ref 0, .int (-4)] D28 (fun y41 D42 => P y41 D42)) else (pu_I X 38 [.ref (pu_rf 49 x1.toNatClampNeg), .int x3, .int x5] D28 (fun y31 D32 => if y31 = 0 then (pu_I X 130 [.ref 0, .int (-5)] D32 (fun y34 D35 => P y34 D35)) else (pu_I X 38 [.ref (pu_rf 49 x2.toNatClampNeg), .int x4, .int x5] D32 (fun y36 D37 => if y36 = 0 then (pu_I X 130 [.ref 0, .int (-5)] D37 (fun y39 D40 => P y39 D40)) else ((pu_cpk (pu_rf (pu_rf 49 x1.toNatClampNeg) 0) (pu_rf (pu_rf 49 x2.toNatClampNeg) 0) x3 x4 x5) ∧ P 1 (pu_cpL D37 (pu_rf (pu_rf 49 x1.toNatClampNeg) 0) (pu_rf (pu_rf 49 x2.toNatClampNeg) 0) x3 x4 x5))))))))))) else (pu_I X 32 [.ref (pu_rf 49 x2.toNatClampNeg)] D20 (fun y45 D46 => if y45 = 0 then (pu_I X 32 [.ref (pu_rf 49 x1.toNatClampNeg)] D46 (fun y48 D49 => if y48 = 0 then (pu_I X 130 [.ref 0, .int (-3)] D49 (fun y51 D52 => P y51 D52)) else (pu_I X 32 [.ref (pu_rf 49 x2.toNatClampNeg)] D49 (fun y53 D54 => if y53 = 0 then (pu_I X 130 [.ref 0, .int (-3)] D54 (fun y69 D70 => P y69 D70)) else (if x5 < 0 then (pu_I X 130 [.ref 0, .int (-4)] D54 (fun y67 D68 => P y67 D68)) else (pu_I X 38 [.ref (pu_rf 49 x1.toNatClampNeg), .int x3, .int x5] D54 (fun y57 D58 => if y57 = 0 then (pu_I X 130 [.ref 0, .int (-5)] D58 (fun y60 D61 => P y60 D61)) else (pu_I X 38 [.ref (pu_rf 49 x2.toNatClampNeg), .int x4, .int x5] D58 (fun y62 D63 => if y62 = 0 then (pu_I X 130 [.ref 0, .int (-5)] D63 (fun y65 D66 => P y65 D66)) else ((pu_cpk (pu_rf (pu_rf 49 x1.toNatClampNeg) 0) (pu_rf (pu_rf 49 x2.toNatClampNeg) 0) x3 x4 x5) ∧ P 1 (pu_cpL D63 (pu_rf (pu_rf 49 x1.toNatClampNeg) 0) (pu_rf (pu_rf 49 x2.toNatClampNeg) 0) x3 x4 x5))))))))))) else (if (D46.1 (pu_rf 49 x1.toNatClampNeg) 1) = (D46.1 (pu_rf 49 x2.toNatClampNeg) 1) then (pu_I X 32 [.ref (pu_rf 49 x1.toNatClampNeg)] D46 (fun y72 D73 => if y72 = 0 then (pu_I X 130 [.ref 0, .int (-3)] D73 (fun y75 D76 => P y75 D76)) else (pu_I X 32 [.ref (pu_rf 49 x2.toNatClampNeg)] D73 (fun y77 D78 => if y77 = 0 then (pu_I X 130 [.ref 0, .int (-3)] D78 (fun y93 D94 => P y93 D94)) else (if x5 < 0 then (pu_I X 130 [.ref 0, .int (-4)] D78 (fun y91 D92 => P y91 D92)) else (pu_I X 38 [.ref (pu_rf 49 x1.toNatClampNeg), .int x3, .int x5] D78 (fun y81 D82 => if y81 = 0 then (pu_I X 130 [.ref 0, .int (-5)] D82 (fun y84 D85 => P y84 D85)) else (pu_I X 38 [.ref (pu_rf 49 x2.toNatClampNeg), .int x4, .int x5] D82 (fun y86 D87 => if y86 = 0 then (pu_I X 130 [.ref 0, .int (-5)] D87 (fun y89 D90 => P y89 D90)) else ((pu_cpk (pu_rf (pu_rf 49 x1.toNatClampNeg) 0) (pu_rf (pu_rf 49 x2.toNatClampNeg) 0) x3 x4 x5) ∧ P 1 (pu_cpL D87 (pu_rf (pu_rf 49 x1.toNatClampNeg) 0) (pu_rf (pu_rf 49 x2.toNatClampNeg) 0) x3 x4 x5))))))))))) else (pu_I X 130 [.ref 0, .int (-2)] D46 (fun y95 D96 => P y95 D96))))))) else (pu_I X 130 [.ref 0, .int (-2)] D17 (fun y97 D98 => P y97 D98)))) else (pu_I X 130 [.ref 0, .int (-2)] D12 (fun y14 D15 => P y14 D15)))))))) :
    pu_I X 89 [.ref 0, .int x1, .int x2, .int x3, .int x4, .int x5] D P := by
  refine pu_ent (E := [.ref 0, .int x1, .int x2, .int x3, .int x4, .int x5, .null, .null]) pu_n89.1 pu_n89.2 pu_t89_0 rfl ?_
  refine pu_iload_n rfl ?_
  refine pu_cs (vs := [.int x1]) (rest := []) pu_g138 rfl rfl rfl rfl rfl (pu_CI (pu_I_imp H (fun y1 D2 H => ?_)))
  refine pu_eq0 pu_t89_14 (fun h3 => ?_) (fun h3 => ?_)
  · replace H := pu_t h3 H
    refine pu_aload_n rfl ?_
    refine pu_iconst ?_
    refine pu_cv (vs := [.int (-1)]) (rest := []) pu_g130 ⟨pu_c0, by decide⟩ rfl rfl rfl rfl rfl (pu_CI (pu_I_imp H (fun y4 D5 H => ?_)))
    exact pu_iretI pu_rt89 H
  · replace H := pu_f h3 H
    refine pu_iload_n rfl ?_
    refine pu_cs (vs := [.int x2]) (rest := []) pu_g138 rfl rfl rfl rfl rfl (pu_CI (pu_I_imp H (fun y6 D7 H => ?_)))
    refine pu_ne0 pu_t89_20 (fun h8 => ?_) (fun h8 => ?_)
    · replace H := pu_f h8 H
      refine pu_aload_n rfl ?_
      refine pu_getR pu_kr7_4 pu_c0 pu_r0_4 ?_
      refine pu_iload_n rfl ?_
      have h9 := H.1
      refine pu_aal h9 ?_
      replace H := H.2
      refine pu_astore (L' := [.ref 0, .int x1, .int x2, .int x3, .int x4, .int x5, .ref (pu_rf 49 x1.toNatClampNeg), .null]) (Or.inr rfl) rfl ?_
      refine pu_aload_n rfl ?_
      refine pu_getR pu_kr7_4 pu_c0 pu_r0_4 ?_
      refine pu_iload_n rfl ?_
      have h10 := H.1
      refine pu_aal h10 ?_
      replace H := H.2
      refine pu_astore (L' := [.ref 0, .int x1, .int x2, .int x3, .int x4, .int x5, .ref (pu_rf 49 x1.toNatClampNeg), .ref (pu_rf 49 x2.toNatClampNeg)]) (Or.inr rfl) rfl ?_
      refine pu_aload rfl ?_
      refine pu_cv (vs := []) (rest := []) pu_g33 ⟨(pu_sh h9), by decide⟩ rfl rfl rfl rfl rfl (pu_CI (pu_I_imp H (fun y11 D12 H => ?_)))
      refine pu_ne0 pu_t89_52 (fun h13 => ?_) (fun h13 => ?_)
      · replace H := pu_f h13 H
        refine pu_aload_n rfl ?_
        refine pu_bipush ?_
        refine pu_cv (vs := [.int (-2)]) (rest := []) pu_g130 ⟨pu_c0, by decide⟩ rfl rfl rfl rfl rfl (pu_CI (pu_I_imp H (fun y14 D15 H => ?_)))
        exact pu_iretI pu_rt89 H
      · replace H := pu_t h13 H
        refine pu_aload rfl ?_
        refine pu_cv (vs := []) (rest := []) pu_g33 ⟨(pu_sh h10), by decide⟩ rfl rfl rfl rfl rfl (pu_CI (pu_I_imp H (fun y16 D17 H => ?_)))
        refine pu_eq0 pu_t89_59 (fun h18 => ?_) (fun h18 => ?_)
        · replace H := pu_t h18 H
          refine pu_aload rfl ?_
          refine pu_cv (vs := []) (rest := []) pu_g32 ⟨(pu_sh h9), by decide⟩ rfl rfl rfl rfl rfl (pu_CI (pu_I_imp H (fun y19 D20 H => ?_)))
          refine pu_eq0 pu_t89_95 (fun h21 => ?_) (fun h21 => ?_)
          · replace H := pu_t h21 H
            refine pu_aload rfl ?_
            refine pu_cv (vs := []) (rest := []) pu_g32 ⟨(pu_sh h9), by decide⟩ rfl rfl rfl rfl rfl (pu_CI (pu_I_imp H (fun y22 D23 H => ?_)))
            refine pu_eq0 pu_t89_111 (fun h24 => ?_) (fun h24 => ?_)
            · replace H := pu_t h24 H
              refine pu_aload_n rfl ?_
              refine pu_bipush ?_
              refine pu_cv (vs := [.int (-3)]) (rest := []) pu_g130 ⟨pu_c0, by decide⟩ rfl rfl rfl rfl rfl (pu_CI (pu_I_imp H (fun y25 D26 H => ?_)))
              exact pu_iretI pu_rt89 H
            · replace H := pu_f h24 H
              refine pu_aload rfl ?_
              refine pu_cv (vs := []) (rest := []) pu_g32 ⟨(pu_sh h10), by decide⟩ rfl rfl rfl rfl rfl (pu_CI (pu_I_imp H (fun y27 D28 H => ?_)))
              refine pu_ne0 pu_t89_118 (fun h29 => ?_) (fun h29 => ?_)
              · replace H := pu_f h29 H
                refine pu_iload rfl ?_
                refine pu_ge0 pu_t89_130 (fun h30 => ?_) (fun h30 => ?_)
                · replace H := pu_f h30 H
                  refine pu_aload rfl ?_
                  refine pu_iload_n rfl ?_
                  refine pu_iload rfl ?_
                  refine pu_cv (vs := [.int x3, .int x5]) (rest := []) pu_g38 ⟨(pu_sh h9), by decide⟩ rfl rfl rfl rfl rfl (pu_CI (pu_I_imp H (fun y31 D32 H => ?_)))
                  refine pu_eq0 pu_t89_153 (fun h33 => ?_) (fun h33 => ?_)
                  · replace H := pu_t h33 H
                    refine pu_aload_n rfl ?_
                    refine pu_bipush ?_
                    refine pu_cv (vs := [.int (-5)]) (rest := []) pu_g130 ⟨pu_c0, by decide⟩ rfl rfl rfl rfl rfl (pu_CI (pu_I_imp H (fun y34 D35 H => ?_)))
                    exact pu_iretI pu_rt89 H
                  · replace H := pu_f h33 H
                    refine pu_aload rfl ?_
                    refine pu_iload rfl ?_
                    refine pu_iload rfl ?_
                    refine pu_cv (vs := [.int x4, .int x5]) (rest := []) pu_g38 ⟨(pu_sh h10), by decide⟩ rfl rfl rfl rfl rfl (pu_CI (pu_I_imp H (fun y36 D37 H => ?_)))
                    refine pu_ne0 pu_t89_160 (fun h38 => ?_) (fun h38 => ?_)
                    · replace H := pu_f h38 H
                      refine pu_aload rfl ?_
                      refine pu_getR pu_kr3_0 (pu_sh h9) rfl ?_
                      refine pu_iload_n rfl ?_
                      refine pu_aload rfl ?_
                      refine pu_getR pu_kr3_0 (pu_sh h10) rfl ?_
                      refine pu_iload rfl ?_
                      refine pu_iload rfl ?_
                      refine pu_acpL (pu_f3_0 (pu_sh h9)) (pu_f3_0 (pu_sh h10)) rfl H.1 ?_
                      replace H := H.2
                      refine pu_iconst ?_
                      exact pu_iretI pu_rt89 H
                    · replace H := pu_t h38 H
                      refine pu_aload_n rfl ?_
                      refine pu_bipush ?_
                      refine pu_cv (vs := [.int (-5)]) (rest := []) pu_g130 ⟨pu_c0, by decide⟩ rfl rfl rfl rfl rfl (pu_CI (pu_I_imp H (fun y39 D40 H => ?_)))
                      exact pu_iretI pu_rt89 H
                · replace H := pu_t h30 H
                  refine pu_aload_n rfl ?_
                  refine pu_bipush ?_
                  refine pu_cv (vs := [.int (-4)]) (rest := []) pu_g130 ⟨pu_c0, by decide⟩ rfl rfl rfl rfl rfl (pu_CI (pu_I_imp H (fun y41 D42 H => ?_)))
                  exact pu_iretI pu_rt89 H
              · replace H := pu_t h29 H
                refine pu_aload_n rfl ?_
                refine pu_bipush ?_
                refine pu_cv (vs := [.int (-3)]) (rest := []) pu_g130 ⟨pu_c0, by decide⟩ rfl rfl rfl rfl rfl (pu_CI (pu_I_imp H (fun y43 D44 H => ?_)))
                exact pu_iretI pu_rt89 H
          · replace H := pu_f h21 H
            refine pu_aload rfl ?_
            refine pu_cv (vs := []) (rest := []) pu_g32 ⟨(pu_sh h10), by decide⟩ rfl rfl rfl rfl rfl (pu_CI (pu_I_imp H (fun y45 D46 H => ?_)))
            refine pu_eq0 pu_t89_95 (fun h47 => ?_) (fun h47 => ?_)
            · replace H := pu_t h47 H
              refine pu_aload rfl ?_
              refine pu_cv (vs := []) (rest := []) pu_g32 ⟨(pu_sh h9), by decide⟩ rfl rfl rfl rfl rfl (pu_CI (pu_I_imp H (fun y48 D49 H => ?_)))
              refine pu_eq0 pu_t89_111 (fun h50 => ?_) (fun h50 => ?_)
              · replace H := pu_t h50 H
                refine pu_aload_n rfl ?_
                refine pu_bipush ?_
                refine pu_cv (vs := [.int (-3)]) (rest := []) pu_g130 ⟨pu_c0, by decide⟩ rfl rfl rfl rfl rfl (pu_CI (pu_I_imp H (fun y51 D52 H => ?_)))
                exact pu_iretI pu_rt89 H
              · replace H := pu_f h50 H
                refine pu_aload rfl ?_
                refine pu_cv (vs := []) (rest := []) pu_g32 ⟨(pu_sh h10), by decide⟩ rfl rfl rfl rfl rfl (pu_CI (pu_I_imp H (fun y53 D54 H => ?_)))
                refine pu_ne0 pu_t89_118 (fun h55 => ?_) (fun h55 => ?_)
                · replace H := pu_f h55 H
                  refine pu_iload rfl ?_
                  refine pu_ge0 pu_t89_130 (fun h56 => ?_) (fun h56 => ?_)
                  · replace H := pu_f h56 H
                    refine pu_aload rfl ?_
                    refine pu_iload_n rfl ?_
                    refine pu_iload rfl ?_
                    refine pu_cv (vs := [.int x3, .int x5]) (rest := []) pu_g38 ⟨(pu_sh h9), by decide⟩ rfl rfl rfl rfl rfl (pu_CI (pu_I_imp H (fun y57 D58 H => ?_)))
                    refine pu_eq0 pu_t89_153 (fun h59 => ?_) (fun h59 => ?_)
                    · replace H := pu_t h59 H
                      refine pu_aload_n rfl ?_
                      refine pu_bipush ?_
                      refine pu_cv (vs := [.int (-5)]) (rest := []) pu_g130 ⟨pu_c0, by decide⟩ rfl rfl rfl rfl rfl (pu_CI (pu_I_imp H (fun y60 D61 H => ?_)))
                      exact pu_iretI pu_rt89 H
                    · replace H := pu_f h59 H
                      refine pu_aload rfl ?_
                      refine pu_iload rfl ?_
                      refine pu_iload rfl ?_
                      refine pu_cv (vs := [.int x4, .int x5]) (rest := []) pu_g38 ⟨(pu_sh h10), by decide⟩ rfl rfl rfl rfl rfl (pu_CI (pu_I_imp H (fun y62 D63 H => ?_)))
                      refine pu_ne0 pu_t89_160 (fun h64 => ?_) (fun h64 => ?_)
                      · replace H := pu_f h64 H
                        refine pu_aload rfl ?_
                        refine pu_getR pu_kr3_0 (pu_sh h9) rfl ?_
                        refine pu_iload_n rfl ?_
                        refine pu_aload rfl ?_
                        refine pu_getR pu_kr3_0 (pu_sh h10) rfl ?_
                        refine pu_iload rfl ?_
                        refine pu_iload rfl ?_
                        refine pu_acpL (pu_f3_0 (pu_sh h9)) (pu_f3_0 (pu_sh h10)) rfl H.1 ?_
                        replace H := H.2
                        refine pu_iconst ?_
                        exact pu_iretI pu_rt89 H
                      · replace H := pu_t h64 H
                        refine pu_aload_n rfl ?_
                        refine pu_bipush ?_
                        refine pu_cv (vs := [.int (-5)]) (rest := []) pu_g130 ⟨pu_c0, by decide⟩ rfl rfl rfl rfl rfl (pu_CI (pu_I_imp H (fun y65 D66 H => ?_)))
                        exact pu_iretI pu_rt89 H
                  · replace H := pu_t h56 H
                    refine pu_aload_n rfl ?_
                    refine pu_bipush ?_
                    refine pu_cv (vs := [.int (-4)]) (rest := []) pu_g130 ⟨pu_c0, by decide⟩ rfl rfl rfl rfl rfl (pu_CI (pu_I_imp H (fun y67 D68 H => ?_)))
                    exact pu_iretI pu_rt89 H
                · replace H := pu_t h55 H
                  refine pu_aload_n rfl ?_
                  refine pu_bipush ?_
                  refine pu_cv (vs := [.int (-3)]) (rest := []) pu_g130 ⟨pu_c0, by decide⟩ rfl rfl rfl rfl rfl (pu_CI (pu_I_imp H (fun y69 D70 H => ?_)))
                  exact pu_iretI pu_rt89 H
            · replace H := pu_f h47 H
              refine pu_aload rfl ?_
              refine pu_getI pu_k3_1 (pu_sh h9) ?_
              refine pu_aload rfl ?_
              refine pu_getI pu_k3_1 (pu_sh h10) ?_
              refine pu_eq_ pu_t89_95 (fun h71 => ?_) (fun h71 => ?_)
              · replace H := pu_t h71 H
                refine pu_aload rfl ?_
                refine pu_cv (vs := []) (rest := []) pu_g32 ⟨(pu_sh h9), by decide⟩ rfl rfl rfl rfl rfl (pu_CI (pu_I_imp H (fun y72 D73 H => ?_)))
                refine pu_eq0 pu_t89_111 (fun h74 => ?_) (fun h74 => ?_)
                · replace H := pu_t h74 H
                  refine pu_aload_n rfl ?_
                  refine pu_bipush ?_
                  refine pu_cv (vs := [.int (-3)]) (rest := []) pu_g130 ⟨pu_c0, by decide⟩ rfl rfl rfl rfl rfl (pu_CI (pu_I_imp H (fun y75 D76 H => ?_)))
                  exact pu_iretI pu_rt89 H
                · replace H := pu_f h74 H
                  refine pu_aload rfl ?_
                  refine pu_cv (vs := []) (rest := []) pu_g32 ⟨(pu_sh h10), by decide⟩ rfl rfl rfl rfl rfl (pu_CI (pu_I_imp H (fun y77 D78 H => ?_)))
                  refine pu_ne0 pu_t89_118 (fun h79 => ?_) (fun h79 => ?_)
                  · replace H := pu_f h79 H
                    refine pu_iload rfl ?_
                    refine pu_ge0 pu_t89_130 (fun h80 => ?_) (fun h80 => ?_)
                    · replace H := pu_f h80 H
                      refine pu_aload rfl ?_
                      refine pu_iload_n rfl ?_
                      refine pu_iload rfl ?_
                      refine pu_cv (vs := [.int x3, .int x5]) (rest := []) pu_g38 ⟨(pu_sh h9), by decide⟩ rfl rfl rfl rfl rfl (pu_CI (pu_I_imp H (fun y81 D82 H => ?_)))
                      refine pu_eq0 pu_t89_153 (fun h83 => ?_) (fun h83 => ?_)
                      · replace H := pu_t h83 H
                        refine pu_aload_n rfl ?_
                        refine pu_bipush ?_
                        refine pu_cv (vs := [.int (-5)]) (rest := []) pu_g130 ⟨pu_c0, by decide⟩ rfl rfl rfl rfl rfl (pu_CI (pu_I_imp H (fun y84 D85 H => ?_)))
                        exact pu_iretI pu_rt89 H
                      · replace H := pu_f h83 H
                        refine pu_aload rfl ?_
                        refine pu_iload rfl ?_
                        refine pu_iload rfl ?_
                        refine pu_cv (vs := [.int x4, .int x5]) (rest := []) pu_g38 ⟨(pu_sh h10), by decide⟩ rfl rfl rfl rfl rfl (pu_CI (pu_I_imp H (fun y86 D87 H => ?_)))
                        refine pu_ne0 pu_t89_160 (fun h88 => ?_) (fun h88 => ?_)
                        · replace H := pu_f h88 H
                          refine pu_aload rfl ?_
                          refine pu_getR pu_kr3_0 (pu_sh h9) rfl ?_
                          refine pu_iload_n rfl ?_
                          refine pu_aload rfl ?_
                          refine pu_getR pu_kr3_0 (pu_sh h10) rfl ?_
                          refine pu_iload rfl ?_
                          refine pu_iload rfl ?_
                          refine pu_acpL (pu_f3_0 (pu_sh h9)) (pu_f3_0 (pu_sh h10)) rfl H.1 ?_
                          replace H := H.2
                          refine pu_iconst ?_
                          exact pu_iretI pu_rt89 H
                        · replace H := pu_t h88 H
                          refine pu_aload_n rfl ?_
                          refine pu_bipush ?_
                          refine pu_cv (vs := [.int (-5)]) (rest := []) pu_g130 ⟨pu_c0, by decide⟩ rfl rfl rfl rfl rfl (pu_CI (pu_I_imp H (fun y89 D90 H => ?_)))
                          exact pu_iretI pu_rt89 H
                    · replace H := pu_t h80 H
                      refine pu_aload_n rfl ?_
                      refine pu_bipush ?_
                      refine pu_cv (vs := [.int (-4)]) (rest := []) pu_g130 ⟨pu_c0, by decide⟩ rfl rfl rfl rfl rfl (pu_CI (pu_I_imp H (fun y91 D92 H => ?_)))
                      exact pu_iretI pu_rt89 H
                  · replace H := pu_t h79 H
                    refine pu_aload_n rfl ?_
                    refine pu_bipush ?_
                    refine pu_cv (vs := [.int (-3)]) (rest := []) pu_g130 ⟨pu_c0, by decide⟩ rfl rfl rfl rfl rfl (pu_CI (pu_I_imp H (fun y93 D94 H => ?_)))
                    exact pu_iretI pu_rt89 H
              · replace H := pu_f h71 H
                refine pu_aload_n rfl ?_
                refine pu_bipush ?_
                refine pu_cv (vs := [.int (-2)]) (rest := []) pu_g130 ⟨pu_c0, by decide⟩ rfl rfl rfl rfl rfl (pu_CI (pu_I_imp H (fun y95 D96 H => ?_)))
                exact pu_iretI pu_rt89 H
        · replace H := pu_f h18 H
          refine pu_aload_n rfl ?_
          refine pu_bipush ?_
          refine pu_cv (vs := [.int (-2)]) (rest := []) pu_g130 ⟨pu_c0, by decide⟩ rfl rfl rfl rfl rfl (pu_CI (pu_I_imp H (fun y97 D98 H => ?_)))
          exact pu_iretI pu_rt89 H
    · replace H := pu_t h8 H
      refine pu_aload_n rfl ?_
      refine pu_iconst ?_
      refine pu_cv (vs := [.int (-1)]) (rest := []) pu_g130 ⟨pu_c0, by decide⟩ rfl rfl rfl rfl rfl (pu_CI (pu_I_imp H (fun y99 D100 H => ?_)))
      exact pu_iretI pu_rt89 H
/-- LightAlong.element(II)J -/
theorem pu_e90 {X : px_X} {x1 : Int32} {x2 : Int32} {D : pu_D} {P : Int64 → pu_D → Prop} 
    (H : pu_I X 138 [.int x1] D (fun y1 D2 => if y1 = 0 then (P (Int64.ofNat 0) D2) else ((px_in x1 8 = true) ∧ pu_I X 32 [.ref (pu_rf 49 x1.toNatClampNeg)] D2 (fun y5 D6 => if y5 = 0 then (P (Int64.ofNat 0) D6) else ((px_in x1 8 = true) ∧ pu_J X 39 [.ref (pu_rf 49 x1.toNatClampNeg), .int x2] D6 (fun y9 D10 => P y9 D10)))))) :
    pu_J X 90 [.ref 0, .int x1, .int x2] D P := by
  refine pu_ent (E := [.ref 0, .int x1, .int x2]) pu_n90.1 pu_n90.2 pu_t90_0 rfl ?_
  refine pu_iload_n rfl ?_
  refine pu_cs (vs := [.int x1]) (rest := []) pu_g138 rfl rfl rfl rfl rfl (pu_CI (pu_I_imp H (fun y1 D2 H => ?_)))
  refine pu_eq0 pu_t90_19 (fun h3 => ?_) (fun h3 => ?_)
  · replace H := pu_t h3 H
    refine pu_lconst ?_
    exact pu_lret pu_rt90 H
  · replace H := pu_f h3 H
    refine pu_aload_n rfl ?_
    refine pu_getR pu_kr7_4 pu_c0 pu_r0_4 ?_
    refine pu_iload_n rfl ?_
    have h4 := H.1
    refine pu_aal h4 ?_
    replace H := H.2
    refine pu_cv (vs := []) (rest := []) pu_g32 ⟨(pu_sh h4), by decide⟩ rfl rfl rfl rfl rfl (pu_CI (pu_I_imp H (fun y5 D6 H => ?_)))
    refine pu_ne0 pu_t90_21 (fun h7 => ?_) (fun h7 => ?_)
    · replace H := pu_f h7 H
      refine pu_aload_n rfl ?_
      refine pu_getR pu_kr7_4 pu_c0 pu_r0_4 ?_
      refine pu_iload_n rfl ?_
      have h8 := H.1
      refine pu_aal h8 ?_
      replace H := H.2
      refine pu_iload_n rfl ?_
      refine pu_cv (vs := [.int x2]) (rest := []) pu_g39 ⟨(pu_sh h8), by decide⟩ rfl rfl rfl rfl rfl (pu_CJ (pu_J_imp H (fun y9 D10 H => ?_)))
      exact pu_lret pu_rt90 H
    · replace H := pu_t h7 H
      refine pu_lconst ?_
      exact pu_lret pu_rt90 H
/-- LightAlong.laying(III)I -/
theorem pu_e91 {X : px_X} {x1 : Int32} {x2 : Int32} {x3 : Int32} {D : pu_D} {P : Int32 → pu_D → Prop} 
    (H : pu_I X 138 [.int x1] D (fun y1 D2 => if y1 = 0 then (pu_I X 130 [.ref 0, .int (-1)] D2 (fun y4 D5 => P y4 D5)) else (if x2 < (-1) then (pu_I X 130 [.ref 0, .int (-1)] D2 (fun y7 D8 => P y7 D8)) else (if 6 < x2 then (pu_I X 130 [.ref 0, .int (-1)] D2 (fun y24 D25 => P y24 D25)) else (if x2 = (-1) then ((px_in x1 8 = true) ∧ pu_V X 34 [.ref (pu_rf 49 x1.toNatClampNeg)] D2 (fun D23 => P 0 D23)) else (pu_I X 146 [.int x2, .int x3] D2 (fun y11 D12 => if y11 = 0 then (pu_I X 130 [.ref 0, .int (-6)] D12 (fun y19 D20 => P y19 D20)) else ((px_in x1 8 = true) ∧ pu_I X 55 [.ref 1] D12 (fun y15 D16 => pu_V X 36 [.ref (pu_rf 49 x1.toNatClampNeg), .int x2, .int x3, .int y15] D16 (fun D18 => P 1 D18)))))))))) :
    pu_I X 91 [.ref 0, .int x1, .int x2, .int x3] D P := by
  refine pu_ent (E := [.ref 0, .int x1, .int x2, .int x3]) pu_n91.1 pu_n91.2 pu_t91_0 rfl ?_
  refine pu_iload_n rfl ?_
  refine pu_cs (vs := [.int x1]) (rest := []) pu_g138 rfl rfl rfl rfl rfl (pu_CI (pu_I_imp H (fun y1 D2 H => ?_)))
  refine pu_eq0 pu_t91_18 (fun h3 => ?_) (fun h3 => ?_)
  · replace H := pu_t h3 H
    refine pu_aload_n rfl ?_
    refine pu_iconst ?_
    refine pu_cv (vs := [.int (-1)]) (rest := []) pu_g130 ⟨pu_c0, by decide⟩ rfl rfl rfl rfl rfl (pu_CI (pu_I_imp H (fun y4 D5 H => ?_)))
    exact pu_iretI pu_rt91 H
  · replace H := pu_f h3 H
    refine pu_iload_n rfl ?_
    refine pu_iconst ?_
    refine pu_lt_ pu_t91_18 (fun h6 => ?_) (fun h6 => ?_)
    · replace H := pu_t h6 H
      refine pu_aload_n rfl ?_
      refine pu_iconst ?_
      refine pu_cv (vs := [.int (-1)]) (rest := []) pu_g130 ⟨pu_c0, by decide⟩ rfl rfl rfl rfl rfl (pu_CI (pu_I_imp H (fun y7 D8 H => ?_)))
      exact pu_iretI pu_rt91 H
    · replace H := pu_f h6 H
      refine pu_iload_n rfl ?_
      refine pu_bipush ?_
      refine pu_le_ pu_t91_24 (fun h9 => ?_) (fun h9 => ?_)
      · replace H := pu_f h9 H
        refine pu_iload_n rfl ?_
        refine pu_iconst ?_
        refine pu_ne_ pu_t91_40 (fun h10 => ?_) (fun h10 => ?_)
        · replace H := pu_f h10 H
          refine pu_iload_n rfl ?_
          refine pu_iload_n rfl ?_
          refine pu_cs (vs := [.int x2, .int x3]) (rest := []) pu_g146 rfl rfl rfl rfl rfl (pu_CI (pu_I_imp H (fun y11 D12 H => ?_)))
          refine pu_ne0 pu_t91_55 (fun h13 => ?_) (fun h13 => ?_)
          · replace H := pu_f h13 H
            refine pu_aload_n rfl ?_
            refine pu_getR pu_kr7_4 pu_c0 pu_r0_4 ?_
            refine pu_iload_n rfl ?_
            have h14 := H.1
            refine pu_aal h14 ?_
            replace H := H.2
            refine pu_iload_n rfl ?_
            refine pu_iload_n rfl ?_
            refine pu_aload_n rfl ?_
            refine pu_getR pu_kr7_0 pu_c0 pu_r0_0 ?_
            refine pu_cv (vs := []) (rest := [.int x3, .int x2, .ref (pu_rf 49 x1.toNatClampNeg)]) pu_g55 ⟨pu_c1, by decide⟩ rfl rfl rfl rfl rfl (pu_CI (pu_I_imp H (fun y15 D16 H => ?_)))
            refine pu_cv (vs := [.int x2, .int x3, .int y15]) (rest := []) pu_g36 ⟨(pu_sh h14), by decide⟩ rfl rfl rfl rfl rfl (pu_CV (pu_V_imp H (fun D18 H => ?_)))
            refine pu_iconst ?_
            exact pu_iretI pu_rt91 H
          · replace H := pu_t h13 H
            refine pu_aload_n rfl ?_
            refine pu_bipush ?_
            refine pu_cv (vs := [.int (-6)]) (rest := []) pu_g130 ⟨pu_c0, by decide⟩ rfl rfl rfl rfl rfl (pu_CI (pu_I_imp H (fun y19 D20 H => ?_)))
            exact pu_iretI pu_rt91 H
        · replace H := pu_t h10 H
          refine pu_aload_n rfl ?_
          refine pu_getR pu_kr7_4 pu_c0 pu_r0_4 ?_
          refine pu_iload_n rfl ?_
          have h21 := H.1
          refine pu_aal h21 ?_
          replace H := H.2
          refine pu_cv (vs := []) (rest := []) pu_g34 ⟨(pu_sh h21), by decide⟩ rfl rfl rfl rfl rfl (pu_CV (pu_V_imp H (fun D23 H => ?_)))
          refine pu_iconst ?_
          exact pu_iretI pu_rt91 H
      · replace H := pu_t h9 H
        refine pu_aload_n rfl ?_
        refine pu_iconst ?_
        refine pu_cv (vs := [.int (-1)]) (rest := []) pu_g130 ⟨pu_c0, by decide⟩ rfl rfl rfl rfl rfl (pu_CI (pu_I_imp H (fun y24 D25 H => ?_)))
        exact pu_iretI pu_rt91 H
/-- LightAlong.holds(I)I -/
theorem pu_e92 {X : px_X} {x1 : Int32} {D : pu_D} {P : Int32 → pu_D → Prop} 
    (H : pu_I X 138 [.int x1] D (fun y1 D2 => if y1 = 0 then (P (-1) D2) else ((px_in x1 8 = true) ∧ P (D2.1 (pu_rf 49 x1.toNatClampNeg) 1) D2))) :
    pu_I X 92 [.ref 0, .int x1] D P := by
  refine pu_ent (E := [.ref 0, .int x1]) pu_n92.1 pu_n92.2 pu_t92_0 rfl ?_
  refine pu_iload_n rfl ?_
  refine pu_cs (vs := [.int x1]) (rest := []) pu_g138 rfl rfl rfl rfl rfl (pu_CI (pu_I_imp H (fun y1 D2 H => ?_)))
  refine pu_eq0 pu_t92_19 (fun h3 => ?_) (fun h3 => ?_)
  · replace H := pu_t h3 H
    refine pu_iconst ?_
    exact pu_iretI pu_rt92 H
  · replace H := pu_f h3 H
    refine pu_aload_n rfl ?_
    refine pu_getR pu_kr7_4 pu_c0 pu_r0_4 ?_
    refine pu_iload_n rfl ?_
    have h4 := H.1
    refine pu_aal h4 ?_
    replace H := H.2
    refine pu_getI pu_k3_1 (pu_sh h4) ?_
    refine pu_goto pu_t92_20 ?_
    exact pu_iretI pu_rt92 H
/-- LightAlong.says(II)I -/
theorem pu_e93 {X : px_X} {x1 : Int32} {x2 : Int32} {D : pu_D} {P : Int32 → pu_D → Prop} 
    (H : if x2 < 0 then (pu_I X 130 [.ref 0, .int (-1)] D (fun y2 D3 => P y2 D3)) else (if 6 < x2 then (pu_I X 130 [.ref 0, .int (-1)] D (fun y25 D26 => P y25 D26)) else (pu_I X 133 [.ref 0, .int x1] D (fun y5 D6 => if y5 = 0 then ((px_in x1 8 = true) ∧ pu_I X 43 [.ref (pu_rf 49 x1.toNatClampNeg), .int x2] D6 (fun y9 D10 => if y9 = 0 then (pu_I X 130 [.ref 0, .int (-2)] D10 (fun y21 D22 => P y21 D22)) else (if x2 = 0 then (pu_I X 57 [.ref 1, .ref (pu_rf 49 x1.toNatClampNeg)] D10 (fun y13 D14 => pu_I X 247 [.int y13] D14 (fun y15 D16 => P y15 D16))) else if x2 = 2 then (pu_I X 57 [.ref 1, .ref (pu_rf 49 x1.toNatClampNeg)] D10 (fun y18 D19 => P y18 D19)) else if x2 = 5 then (P (D10.1 (pu_rf 49 x1.toNatClampNeg) 4) D10) else (P (D10.1 (pu_rf 49 x1.toNatClampNeg) 3) D10)))) else (pu_I X 130 [.ref 0, .int y5] D6 (fun y23 D24 => P y23 D24)))))) :
    pu_I X 93 [.ref 0, .int x1, .int x2] D P := by
  refine pu_ent (E := [.ref 0, .int x1, .int x2, .null, .null]) pu_n93.1 pu_n93.2 pu_t93_0 rfl ?_
  refine pu_iload_n rfl ?_
  refine pu_lt0 pu_t93_10 (fun h1 => ?_) (fun h1 => ?_)
  · replace H := pu_t h1 H
    refine pu_aload_n rfl ?_
    refine pu_iconst ?_
    refine pu_cv (vs := [.int (-1)]) (rest := []) pu_g130 ⟨pu_c0, by decide⟩ rfl rfl rfl rfl rfl (pu_CI (pu_I_imp H (fun y2 D3 H => ?_)))
    exact pu_iretI pu_rt93 H
  · replace H := pu_f h1 H
    refine pu_iload_n rfl ?_
    refine pu_bipush ?_
    refine pu_le_ pu_t93_16 (fun h4 => ?_) (fun h4 => ?_)
    · replace H := pu_f h4 H
      refine pu_aload_n rfl ?_
      refine pu_iload_n rfl ?_
      refine pu_cv (vs := [.int x1]) (rest := []) pu_g133 ⟨pu_c0, by decide⟩ rfl rfl rfl rfl rfl (pu_CI (pu_I_imp H (fun y5 D6 H => ?_)))
      refine pu_istore_n (L' := [.ref 0, .int x1, .int x2, .int y5, .null]) (Or.inr rfl) rfl ?_
      refine pu_iload_n rfl ?_
      refine pu_eq0 pu_t93_32 (fun h7 => ?_) (fun h7 => ?_)
      · replace H := pu_t h7 H
        refine pu_aload_n rfl ?_
        refine pu_getR pu_kr7_4 pu_c0 pu_r0_4 ?_
        refine pu_iload_n rfl ?_
        have h8 := H.1
        refine pu_aal h8 ?_
        replace H := H.2
        refine pu_astore (L' := [.ref 0, .int x1, .int x2, .int y5, .ref (pu_rf 49 x1.toNatClampNeg)]) (Or.inr rfl) rfl ?_
        refine pu_aload rfl ?_
        refine pu_iload_n rfl ?_
        refine pu_cv (vs := [.int x2]) (rest := []) pu_g43 ⟨(pu_sh h8), by decide⟩ rfl rfl rfl rfl rfl (pu_CI (pu_I_imp H (fun y9 D10 H => ?_)))
        refine pu_ne0 pu_t93_56 (fun h11 => ?_) (fun h11 => ?_)
        · replace H := pu_f h11 H
          refine pu_iload_n rfl ?_
          by_cases h12 : x2 = 0
          · replace H := pu_t h12 H
            refine pu_lswC 0 (35) h12 (by decide +kernel) pu_t93_92 ?_
            refine pu_aload_n rfl ?_
            refine pu_getR pu_kr7_0 pu_c0 pu_r0_0 ?_
            refine pu_aload rfl ?_
            refine pu_cv (vs := [.ref (pu_rf 49 x1.toNatClampNeg)]) (rest := []) pu_g57 ⟨pu_c1, by decide⟩ rfl rfl rfl rfl rfl (pu_CI (pu_I_imp H (fun y13 D14 H => ?_)))
            refine pu_cs (vs := [.int y13]) (rest := []) pu_g247 rfl rfl rfl rfl rfl (pu_CI (pu_I_imp H (fun y15 D16 H => ?_)))
            exact pu_iretI pu_rt93 H
          replace H := pu_f h12 H
          by_cases h17 : x2 = 2
          · replace H := pu_t h17 H
            refine pu_lswC 2 (48) h17 (by decide +kernel) pu_t93_105 ?_
            refine pu_aload_n rfl ?_
            refine pu_getR pu_kr7_0 pu_c0 pu_r0_0 ?_
            refine pu_aload rfl ?_
            refine pu_cv (vs := [.ref (pu_rf 49 x1.toNatClampNeg)]) (rest := []) pu_g57 ⟨pu_c1, by decide⟩ rfl rfl rfl rfl rfl (pu_CI (pu_I_imp H (fun y18 D19 H => ?_)))
            exact pu_iretI pu_rt93 H
          replace H := pu_f h17 H
          by_cases h20 : x2 = 5
          · replace H := pu_t h20 H
            refine pu_lswC 5 (58) h20 (by decide +kernel) pu_t93_115 ?_
            refine pu_aload rfl ?_
            refine pu_getI pu_k3_4 (pu_sh h8) ?_
            exact pu_iretI pu_rt93 H
          replace H := pu_f h20 H
          refine pu_lswD [0, 2, 5] (by simp only [List.mem_cons, List.not_mem_nil, or_false, not_or]; exact ⟨h12, h17, h20⟩) (by decide +kernel) pu_t93_121 ?_
          refine pu_aload rfl ?_
          refine pu_getI pu_k3_3 (pu_sh h8) ?_
          exact pu_iretI pu_rt93 H
        · replace H := pu_t h11 H
          refine pu_aload_n rfl ?_
          refine pu_bipush ?_
          refine pu_cv (vs := [.int (-2)]) (rest := []) pu_g130 ⟨pu_c0, by decide⟩ rfl rfl rfl rfl rfl (pu_CI (pu_I_imp H (fun y21 D22 H => ?_)))
          exact pu_iretI pu_rt93 H
      · replace H := pu_f h7 H
        refine pu_aload_n rfl ?_
        refine pu_iload_n rfl ?_
        refine pu_cv (vs := [.int y5]) (rest := []) pu_g130 ⟨pu_c0, by decide⟩ rfl rfl rfl rfl rfl (pu_CI (pu_I_imp H (fun y23 D24 H => ?_)))
        exact pu_iretI pu_rt93 H
    · replace H := pu_t h4 H
      refine pu_aload_n rfl ?_
      refine pu_iconst ?_
      refine pu_cv (vs := [.int (-1)]) (rest := []) pu_g130 ⟨pu_c0, by decide⟩ rfl rfl rfl rfl rfl (pu_CI (pu_I_imp H (fun y25 D26 H => ?_)))
      exact pu_iretI pu_rt93 H
/-- LightAlong.sort(IIII)I -/
theorem pu_e94 {X : px_X} {x1 : Int32} {x2 : Int32} {x3 : Int32} {x4 : Int32} {D : pu_D} {P : Int32 → pu_D → Prop} 
    (H : pu_I X 145 [.int 4, .int 0, .int x1] D (fun y1 D2 => if y1 = 0 then (pu_I X 130 [.ref 0, .int (-6)] D2 (fun y4 D5 => P y4 D5)) else (pu_I X 145 [.int 4, .int 1, .int x2] D2 (fun y6 D7 => if y6 = 0 then (pu_I X 130 [.ref 0, .int (-6)] D7 (fun y26 D27 => P y26 D27)) else (pu_I X 145 [.int 4, .int 2, .int x3] D7 (fun y9 D10 => if y9 = 0 then (pu_I X 130 [.ref 0, .int (-6)] D10 (fun y12 D13 => P y12 D13)) else (pu_I X 145 [.int 4, .int 3, .int x4] D10 (fun y14 D15 => if y14 = 0 then (pu_I X 130 [.ref 0, .int (-6)] D15 (fun y24 D25 => P y24 D25)) else (pu_I X 80 [.ref 3] D15 (fun y17 D18 => if y17 = 0 then (pu_I X 84 [.ref 3, .int x1, .int x2, .int x3, .int x4] D18 (fun y20 D21 => P y20 D21)) else (pu_I X 130 [.ref 0, .int (-7)] D18 (fun y22 D23 => P y22 D23)))))))))))) :
    pu_I X 94 [.ref 0, .int x1, .int x2, .int x3, .int x4] D P := by
  refine pu_ent (E := [.ref 0, .int x1, .int x2, .int x3, .int x4]) pu_n94.1 pu_n94.2 pu_t94_0 rfl ?_
  refine pu_iconst ?_
  refine pu_iconst ?_
  refine pu_iload_n rfl ?_
  refine pu_cs (vs := [.int 4, .int 0, .int x1]) (rest := []) pu_g145 rfl rfl rfl rfl rfl (pu_CI (pu_I_imp H (fun y1 D2 H => ?_)))
  refine pu_eq0 pu_t94_18 (fun h3 => ?_) (fun h3 => ?_)
  · replace H := pu_t h3 H
    refine pu_aload_n rfl ?_
    refine pu_bipush ?_
    refine pu_cv (vs := [.int (-6)]) (rest := []) pu_g130 ⟨pu_c0, by decide⟩ rfl rfl rfl rfl rfl (pu_CI (pu_I_imp H (fun y4 D5 H => ?_)))
    exact pu_iretI pu_rt94 H
  · replace H := pu_f h3 H
    refine pu_iconst ?_
    refine pu_iconst ?_
    refine pu_iload_n rfl ?_
    refine pu_cs (vs := [.int 4, .int 1, .int x2]) (rest := []) pu_g145 rfl rfl rfl rfl rfl (pu_CI (pu_I_imp H (fun y6 D7 H => ?_)))
    refine pu_ne0 pu_t94_25 (fun h8 => ?_) (fun h8 => ?_)
    · replace H := pu_f h8 H
      refine pu_iconst ?_
      refine pu_iconst ?_
      refine pu_iload_n rfl ?_
      refine pu_cs (vs := [.int 4, .int 2, .int x3]) (rest := []) pu_g145 rfl rfl rfl rfl rfl (pu_CI (pu_I_imp H (fun y9 D10 H => ?_)))
      refine pu_eq0 pu_t94_44 (fun h11 => ?_) (fun h11 => ?_)
      · replace H := pu_t h11 H
        refine pu_aload_n rfl ?_
        refine pu_bipush ?_
        refine pu_cv (vs := [.int (-6)]) (rest := []) pu_g130 ⟨pu_c0, by decide⟩ rfl rfl rfl rfl rfl (pu_CI (pu_I_imp H (fun y12 D13 H => ?_)))
        exact pu_iretI pu_rt94 H
      · replace H := pu_f h11 H
        refine pu_iconst ?_
        refine pu_iconst ?_
        refine pu_iload rfl ?_
        refine pu_cs (vs := [.int 4, .int 3, .int x4]) (rest := []) pu_g145 rfl rfl rfl rfl rfl (pu_CI (pu_I_imp H (fun y14 D15 H => ?_)))
        refine pu_ne0 pu_t94_51 (fun h16 => ?_) (fun h16 => ?_)
        · replace H := pu_f h16 H
          refine pu_aload_n rfl ?_
          refine pu_getR pu_kr7_0 pu_c0 pu_r0_0 ?_
          refine pu_getR pu_kr4_1 pu_c1 pu_r1_1 ?_
          refine pu_cv (vs := []) (rest := []) pu_g80 ⟨pu_c3, by decide⟩ rfl rfl rfl rfl rfl (pu_CI (pu_I_imp H (fun y17 D18 H => ?_)))
          refine pu_eq0 pu_t94_71 (fun h19 => ?_) (fun h19 => ?_)
          · replace H := pu_t h19 H
            refine pu_aload_n rfl ?_
            refine pu_getR pu_kr7_0 pu_c0 pu_r0_0 ?_
            refine pu_getR pu_kr4_1 pu_c1 pu_r1_1 ?_
            refine pu_iload_n rfl ?_
            refine pu_iload_n rfl ?_
            refine pu_iload_n rfl ?_
            refine pu_iload rfl ?_
            refine pu_cv (vs := [.int x1, .int x2, .int x3, .int x4]) (rest := []) pu_g84 ⟨pu_c3, by decide⟩ rfl rfl rfl rfl rfl (pu_CI (pu_I_imp H (fun y20 D21 H => ?_)))
            exact pu_iretI pu_rt94 H
          · replace H := pu_f h19 H
            refine pu_aload_n rfl ?_
            refine pu_bipush ?_
            refine pu_cv (vs := [.int (-7)]) (rest := []) pu_g130 ⟨pu_c0, by decide⟩ rfl rfl rfl rfl rfl (pu_CI (pu_I_imp H (fun y22 D23 H => ?_)))
            exact pu_iretI pu_rt94 H
        · replace H := pu_t h16 H
          refine pu_aload_n rfl ?_
          refine pu_bipush ?_
          refine pu_cv (vs := [.int (-6)]) (rest := []) pu_g130 ⟨pu_c0, by decide⟩ rfl rfl rfl rfl rfl (pu_CI (pu_I_imp H (fun y24 D25 H => ?_)))
          exact pu_iretI pu_rt94 H
    · replace H := pu_t h8 H
      refine pu_aload_n rfl ?_
      refine pu_bipush ?_
      refine pu_cv (vs := [.int (-6)]) (rest := []) pu_g130 ⟨pu_c0, by decide⟩ rfl rfl rfl rfl rfl (pu_CI (pu_I_imp H (fun y26 D27 H => ?_)))
      exact pu_iretI pu_rt94 H
/-- LightAlong.place(II)I -/
theorem pu_e95 {X : px_X} {x1 : Int32} {x2 : Int32} {D : pu_D} {P : Int32 → pu_D → Prop} 
    (H : pu_I X 139 [.int x1] D (fun y1 D2 => if y1 = 0 then (pu_I X 130 [.ref 0, .int (-1)] D2 (fun y16 D17 => P y16 D17)) else (pu_I X 145 [.int 5, .int 1, .int x2] D2 (fun y4 D5 => if y4 = 0 then (pu_I X 130 [.ref 0, .int (-6)] D5 (fun y14 D15 => P y14 D15)) else (pu_I X 80 [.ref 5] D5 (fun y7 D8 => if y7 = 0 then (pu_I X 84 [.ref 5, .int x1, .int x2, .int (-1), .int 0] D8 (fun y10 D11 => P y10 D11)) else (pu_I X 130 [.ref 0, .int (-7)] D8 (fun y12 D13 => P y12 D13)))))))) :
    pu_I X 95 [.ref 0, .int x1, .int x2] D P := by
  refine pu_ent (E := [.ref 0, .int x1, .int x2]) pu_n95.1 pu_n95.2 pu_t95_0 rfl ?_
  refine pu_iload_n rfl ?_
  refine pu_cs (vs := [.int x1]) (rest := []) pu_g139 rfl rfl rfl rfl rfl (pu_CI (pu_I_imp H (fun y1 D2 H => ?_)))
  refine pu_ne0 pu_t95_13 (fun h3 => ?_) (fun h3 => ?_)
  · replace H := pu_f h3 H
    refine pu_iconst ?_
    refine pu_iconst ?_
    refine pu_iload_n rfl ?_
    refine pu_cs (vs := [.int 5, .int 1, .int x2]) (rest := []) pu_g145 rfl rfl rfl rfl rfl (pu_CI (pu_I_imp H (fun y4 D5 H => ?_)))
    refine pu_ne0 pu_t95_29 (fun h6 => ?_) (fun h6 => ?_)
    · replace H := pu_f h6 H
      refine pu_aload_n rfl ?_
      refine pu_getR pu_kr7_0 pu_c0 pu_r0_0 ?_
      refine pu_getR pu_kr4_2 pu_c1 pu_r1_2 ?_
      refine pu_cv (vs := []) (rest := []) pu_g80 ⟨pu_c5, by decide⟩ rfl rfl rfl rfl rfl (pu_CI (pu_I_imp H (fun y7 D8 H => ?_)))
      refine pu_eq0 pu_t95_49 (fun h9 => ?_) (fun h9 => ?_)
      · replace H := pu_t h9 H
        refine pu_aload_n rfl ?_
        refine pu_getR pu_kr7_0 pu_c0 pu_r0_0 ?_
        refine pu_getR pu_kr4_2 pu_c1 pu_r1_2 ?_
        refine pu_iload_n rfl ?_
        refine pu_iload_n rfl ?_
        refine pu_iconst ?_
        refine pu_iconst ?_
        refine pu_cv (vs := [.int x1, .int x2, .int (-1), .int 0]) (rest := []) pu_g84 ⟨pu_c5, by decide⟩ rfl rfl rfl rfl rfl (pu_CI (pu_I_imp H (fun y10 D11 H => ?_)))
        exact pu_iretI pu_rt95 H
      · replace H := pu_f h9 H
        refine pu_aload_n rfl ?_
        refine pu_bipush ?_
        refine pu_cv (vs := [.int (-7)]) (rest := []) pu_g130 ⟨pu_c0, by decide⟩ rfl rfl rfl rfl rfl (pu_CI (pu_I_imp H (fun y12 D13 H => ?_)))
        exact pu_iretI pu_rt95 H
    · replace H := pu_t h6 H
      refine pu_aload_n rfl ?_
      refine pu_bipush ?_
      refine pu_cv (vs := [.int (-6)]) (rest := []) pu_g130 ⟨pu_c0, by decide⟩ rfl rfl rfl rfl rfl (pu_CI (pu_I_imp H (fun y14 D15 H => ?_)))
      exact pu_iretI pu_rt95 H
  · replace H := pu_t h3 H
    refine pu_aload_n rfl ?_
    refine pu_iconst ?_
    refine pu_cv (vs := [.int (-1)]) (rest := []) pu_g130 ⟨pu_c0, by decide⟩ rfl rfl rfl rfl rfl (pu_CI (pu_I_imp H (fun y16 D17 H => ?_)))
    exact pu_iretI pu_rt95 H
/-- LightAlong.stand(II)I -/
theorem pu_e96 {X : px_X} {x1 : Int32} {x2 : Int32} {D : pu_D} {P : Int32 → pu_D → Prop} 
    (H : if x1 < 0 then (pu_I X 130 [.ref 0, .int (-1)] D (fun y2 D3 => P y2 D3)) else (if 2 < x1 then (pu_I X 130 [.ref 0, .int (-1)] D (fun y5 D6 => P y5 D6)) else (pu_I X 139 [.int x2] D (fun y7 D8 => if y7 = 0 then (pu_I X 130 [.ref 0, .int (-1)] D8 (fun y33 D34 => P y33 D34)) else (if x1 = 0 then (pu_I X 80 [.ref 7] D8 (fun y26 D27 => if y26 = 0 then (pu_I X 84 [.ref 7, .int x2, .int 0, .int 0, .int 0] D27 (fun y29 D30 => P (y29 + 1) D30)) else (pu_I X 130 [.ref 0, .int (-7)] D27 (fun y31 D32 => P y31 D32)))) else (if x1 = 1 then (pu_I X 80 [.ref 9] D8 (fun y19 D20 => if y19 = 0 then (pu_I X 84 [.ref 9, .int x2, .int 0, .int 0, .int 0] D20 (fun y22 D23 => P (y22 + 1) D23)) else (pu_I X 130 [.ref 0, .int (-7)] D20 (fun y24 D25 => P y24 D25)))) else (pu_I X 80 [.ref 15] D8 (fun y12 D13 => if y12 = 0 then (pu_I X 84 [.ref 15, .int x2, .int 0, .int 0, .int 0] D13 (fun y15 D16 => P (y15 + 1) D16)) else (pu_I X 130 [.ref 0, .int (-7)] D13 (fun y17 D18 => P y17 D18)))))))))) :
    pu_I X 96 [.ref 0, .int x1, .int x2] D P := by
  refine pu_ent (E := [.ref 0, .int x1, .int x2, .null]) pu_n96.1 pu_n96.2 pu_t96_0 rfl ?_
  refine pu_iload_n rfl ?_
  refine pu_lt0 pu_t96_16 (fun h1 => ?_) (fun h1 => ?_)
  · replace H := pu_t h1 H
    refine pu_aload_n rfl ?_
    refine pu_iconst ?_
    refine pu_cv (vs := [.int (-1)]) (rest := []) pu_g130 ⟨pu_c0, by decide⟩ rfl rfl rfl rfl rfl (pu_CI (pu_I_imp H (fun y2 D3 H => ?_)))
    exact pu_iretI pu_rt96 H
  · replace H := pu_f h1 H
    refine pu_iload_n rfl ?_
    refine pu_iconst ?_
    refine pu_gt_ pu_t96_16 (fun h4 => ?_) (fun h4 => ?_)
    · replace H := pu_t h4 H
      refine pu_aload_n rfl ?_
      refine pu_iconst ?_
      refine pu_cv (vs := [.int (-1)]) (rest := []) pu_g130 ⟨pu_c0, by decide⟩ rfl rfl rfl rfl rfl (pu_CI (pu_I_imp H (fun y5 D6 H => ?_)))
      exact pu_iretI pu_rt96 H
    · replace H := pu_f h4 H
      refine pu_iload_n rfl ?_
      refine pu_cs (vs := [.int x2]) (rest := []) pu_g139 rfl rfl rfl rfl rfl (pu_CI (pu_I_imp H (fun y7 D8 H => ?_)))
      refine pu_ne0 pu_t96_22 (fun h9 => ?_) (fun h9 => ?_)
      · replace H := pu_f h9 H
        refine pu_iload_n rfl ?_
        refine pu_ne0 pu_t96_36 (fun h10 => ?_) (fun h10 => ?_)
        · replace H := pu_f h10 H
          refine pu_iload_n rfl ?_
          refine pu_iconst ?_
          refine pu_ne_ pu_t96_51 (fun h11 => ?_) (fun h11 => ?_)
          · replace H := pu_f h11 H
            refine pu_aload_n rfl ?_
            refine pu_getR pu_kr7_0 pu_c0 pu_r0_0 ?_
            refine pu_getR pu_kr4_7 pu_c1 pu_r1_7 ?_
            refine pu_astore_n (L' := [.ref 0, .int x1, .int x2, .ref 15]) (Or.inr rfl) rfl ?_
            refine pu_aload_n rfl ?_
            refine pu_cv (vs := []) (rest := []) pu_g80 ⟨pu_c15, by decide⟩ rfl rfl rfl rfl rfl (pu_CI (pu_I_imp H (fun y12 D13 H => ?_)))
            refine pu_eq0 pu_t96_73 (fun h14 => ?_) (fun h14 => ?_)
            · replace H := pu_t h14 H
              refine pu_aload_n rfl ?_
              refine pu_iload_n rfl ?_
              refine pu_iconst ?_
              refine pu_iconst ?_
              refine pu_iconst ?_
              refine pu_cv (vs := [.int x2, .int 0, .int 0, .int 0]) (rest := []) pu_g84 ⟨pu_c15, by decide⟩ rfl rfl rfl rfl rfl (pu_CI (pu_I_imp H (fun y15 D16 H => ?_)))
              refine pu_iconst ?_
              refine pu_iadd ?_
              exact pu_iretI pu_rt96 H
            · replace H := pu_f h14 H
              refine pu_aload_n rfl ?_
              refine pu_bipush ?_
              refine pu_cv (vs := [.int (-7)]) (rest := []) pu_g130 ⟨pu_c0, by decide⟩ rfl rfl rfl rfl rfl (pu_CI (pu_I_imp H (fun y17 D18 H => ?_)))
              exact pu_iretI pu_rt96 H
          · replace H := pu_t h11 H
            refine pu_aload_n rfl ?_
            refine pu_getR pu_kr7_0 pu_c0 pu_r0_0 ?_
            refine pu_getR pu_kr4_4 pu_c1 pu_r1_4 ?_
            refine pu_goto pu_t96_58 ?_
            refine pu_astore_n (L' := [.ref 0, .int x1, .int x2, .ref 9]) (Or.inr rfl) rfl ?_
            refine pu_aload_n rfl ?_
            refine pu_cv (vs := []) (rest := []) pu_g80 ⟨pu_c9, by decide⟩ rfl rfl rfl rfl rfl (pu_CI (pu_I_imp H (fun y19 D20 H => ?_)))
            refine pu_eq0 pu_t96_73 (fun h21 => ?_) (fun h21 => ?_)
            · replace H := pu_t h21 H
              refine pu_aload_n rfl ?_
              refine pu_iload_n rfl ?_
              refine pu_iconst ?_
              refine pu_iconst ?_
              refine pu_iconst ?_
              refine pu_cv (vs := [.int x2, .int 0, .int 0, .int 0]) (rest := []) pu_g84 ⟨pu_c9, by decide⟩ rfl rfl rfl rfl rfl (pu_CI (pu_I_imp H (fun y22 D23 H => ?_)))
              refine pu_iconst ?_
              refine pu_iadd ?_
              exact pu_iretI pu_rt96 H
            · replace H := pu_f h21 H
              refine pu_aload_n rfl ?_
              refine pu_bipush ?_
              refine pu_cv (vs := [.int (-7)]) (rest := []) pu_g130 ⟨pu_c0, by decide⟩ rfl rfl rfl rfl rfl (pu_CI (pu_I_imp H (fun y24 D25 H => ?_)))
              exact pu_iretI pu_rt96 H
        · replace H := pu_t h10 H
          refine pu_aload_n rfl ?_
          refine pu_getR pu_kr7_0 pu_c0 pu_r0_0 ?_
          refine pu_getR pu_kr4_3 pu_c1 pu_r1_3 ?_
          refine pu_goto pu_t96_58 ?_
          refine pu_astore_n (L' := [.ref 0, .int x1, .int x2, .ref 7]) (Or.inr rfl) rfl ?_
          refine pu_aload_n rfl ?_
          refine pu_cv (vs := []) (rest := []) pu_g80 ⟨pu_c7, by decide⟩ rfl rfl rfl rfl rfl (pu_CI (pu_I_imp H (fun y26 D27 H => ?_)))
          refine pu_eq0 pu_t96_73 (fun h28 => ?_) (fun h28 => ?_)
          · replace H := pu_t h28 H
            refine pu_aload_n rfl ?_
            refine pu_iload_n rfl ?_
            refine pu_iconst ?_
            refine pu_iconst ?_
            refine pu_iconst ?_
            refine pu_cv (vs := [.int x2, .int 0, .int 0, .int 0]) (rest := []) pu_g84 ⟨pu_c7, by decide⟩ rfl rfl rfl rfl rfl (pu_CI (pu_I_imp H (fun y29 D30 H => ?_)))
            refine pu_iconst ?_
            refine pu_iadd ?_
            exact pu_iretI pu_rt96 H
          · replace H := pu_f h28 H
            refine pu_aload_n rfl ?_
            refine pu_bipush ?_
            refine pu_cv (vs := [.int (-7)]) (rest := []) pu_g130 ⟨pu_c0, by decide⟩ rfl rfl rfl rfl rfl (pu_CI (pu_I_imp H (fun y31 D32 H => ?_)))
            exact pu_iretI pu_rt96 H
      · replace H := pu_t h9 H
        refine pu_aload_n rfl ?_
        refine pu_iconst ?_
        refine pu_cv (vs := [.int (-1)]) (rest := []) pu_g130 ⟨pu_c0, by decide⟩ rfl rfl rfl rfl rfl (pu_CI (pu_I_imp H (fun y33 D34 H => ?_)))
        exact pu_iretI pu_rt96 H
/-- LightAlong.window(II)I -/
theorem pu_e97 {X : px_X} {x1 : Int32} {x2 : Int32} {D : pu_D} {P : Int32 → pu_D → Prop} 
    (H : pu_I X 139 [.int x1] D (fun y1 D2 => if y1 = 0 then (pu_I X 130 [.ref 0, .int (-1)] D2 (fun y16 D17 => P y16 D17)) else (pu_I X 145 [.int 8, .int 1, .int x2] D2 (fun y4 D5 => if y4 = 0 then (pu_I X 130 [.ref 0, .int (-6)] D5 (fun y14 D15 => P y14 D15)) else (pu_I X 80 [.ref 11] D5 (fun y7 D8 => if y7 = 0 then (pu_I X 84 [.ref 11, .int x1, .int x2, .int 0, .int 0] D8 (fun y10 D11 => P (y10 + 1) D11)) else (pu_I X 130 [.ref 0, .int (-7)] D8 (fun y12 D13 => P y12 D13)))))))) :
    pu_I X 97 [.ref 0, .int x1, .int x2] D P := by
  refine pu_ent (E := [.ref 0, .int x1, .int x2]) pu_n97.1 pu_n97.2 pu_t97_0 rfl ?_
  refine pu_iload_n rfl ?_
  refine pu_cs (vs := [.int x1]) (rest := []) pu_g139 rfl rfl rfl rfl rfl (pu_CI (pu_I_imp H (fun y1 D2 H => ?_)))
  refine pu_ne0 pu_t97_13 (fun h3 => ?_) (fun h3 => ?_)
  · replace H := pu_f h3 H
    refine pu_bipush ?_
    refine pu_iconst ?_
    refine pu_iload_n rfl ?_
    refine pu_cs (vs := [.int 8, .int 1, .int x2]) (rest := []) pu_g145 rfl rfl rfl rfl rfl (pu_CI (pu_I_imp H (fun y4 D5 H => ?_)))
    refine pu_ne0 pu_t97_30 (fun h6 => ?_) (fun h6 => ?_)
    · replace H := pu_f h6 H
      refine pu_aload_n rfl ?_
      refine pu_getR pu_kr7_0 pu_c0 pu_r0_0 ?_
      refine pu_getR pu_kr4_5 pu_c1 pu_r1_5 ?_
      refine pu_cv (vs := []) (rest := []) pu_g80 ⟨pu_c11, by decide⟩ rfl rfl rfl rfl rfl (pu_CI (pu_I_imp H (fun y7 D8 H => ?_)))
      refine pu_eq0 pu_t97_50 (fun h9 => ?_) (fun h9 => ?_)
      · replace H := pu_t h9 H
        refine pu_aload_n rfl ?_
        refine pu_getR pu_kr7_0 pu_c0 pu_r0_0 ?_
        refine pu_getR pu_kr4_5 pu_c1 pu_r1_5 ?_
        refine pu_iload_n rfl ?_
        refine pu_iload_n rfl ?_
        refine pu_iconst ?_
        refine pu_iconst ?_
        refine pu_cv (vs := [.int x1, .int x2, .int 0, .int 0]) (rest := []) pu_g84 ⟨pu_c11, by decide⟩ rfl rfl rfl rfl rfl (pu_CI (pu_I_imp H (fun y10 D11 H => ?_)))
        refine pu_iconst ?_
        refine pu_iadd ?_
        exact pu_iretI pu_rt97 H
      · replace H := pu_f h9 H
        refine pu_aload_n rfl ?_
        refine pu_bipush ?_
        refine pu_cv (vs := [.int (-7)]) (rest := []) pu_g130 ⟨pu_c0, by decide⟩ rfl rfl rfl rfl rfl (pu_CI (pu_I_imp H (fun y12 D13 H => ?_)))
        exact pu_iretI pu_rt97 H
    · replace H := pu_t h6 H
      refine pu_aload_n rfl ?_
      refine pu_bipush ?_
      refine pu_cv (vs := [.int (-6)]) (rest := []) pu_g130 ⟨pu_c0, by decide⟩ rfl rfl rfl rfl rfl (pu_CI (pu_I_imp H (fun y14 D15 H => ?_)))
      exact pu_iretI pu_rt97 H
  · replace H := pu_t h3 H
    refine pu_aload_n rfl ?_
    refine pu_iconst ?_
    refine pu_cv (vs := [.int (-1)]) (rest := []) pu_g130 ⟨pu_c0, by decide⟩ rfl rfl rfl rfl rfl (pu_CI (pu_I_imp H (fun y16 D17 H => ?_)))
    exact pu_iretI pu_rt97 H
/-- LightAlong.shop(III)I -/
theorem pu_e98 {X : px_X} {x1 : Int32} {x2 : Int32} {x3 : Int32} {D : pu_D} {P : Int32 → pu_D → Prop} 
    (H : pu_I X 139 [.int x1] D (fun y1 D2 => if y1 = 0 then (pu_I X 130 [.ref 0, .int (-1)] D2 (fun y21 D22 => P y21 D22)) else (pu_I X 145 [.int 9, .int 1, .int x2] D2 (fun y4 D5 => if y4 = 0 then (pu_I X 130 [.ref 0, .int (-6)] D5 (fun y7 D8 => P y7 D8)) else (pu_I X 145 [.int 9, .int 2, .int x3] D5 (fun y9 D10 => if y9 = 0 then (pu_I X 130 [.ref 0, .int (-6)] D10 (fun y19 D20 => P y19 D20)) else (pu_I X 80 [.ref 13] D10 (fun y12 D13 => if y12 = 0 then (pu_I X 84 [.ref 13, .int x1, .int x2, .int x3, .int 0] D13 (fun y15 D16 => P y15 D16)) else (pu_I X 130 [.ref 0, .int (-7)] D13 (fun y17 D18 => P y17 D18)))))))))) :
    pu_I X 98 [.ref 0, .int x1, .int x2, .int x3] D P := by
  refine pu_ent (E := [.ref 0, .int x1, .int x2, .int x3]) pu_n98.1 pu_n98.2 pu_t98_0 rfl ?_
  refine pu_iload_n rfl ?_
  refine pu_cs (vs := [.int x1]) (rest := []) pu_g139 rfl rfl rfl rfl rfl (pu_CI (pu_I_imp H (fun y1 D2 H => ?_)))
  refine pu_ne0 pu_t98_13 (fun h3 => ?_) (fun h3 => ?_)
  · replace H := pu_f h3 H
    refine pu_bipush ?_
    refine pu_iconst ?_
    refine pu_iload_n rfl ?_
    refine pu_cs (vs := [.int 9, .int 1, .int x2]) (rest := []) pu_g145 rfl rfl rfl rfl rfl (pu_CI (pu_I_imp H (fun y4 D5 H => ?_)))
    refine pu_eq0 pu_t98_33 (fun h6 => ?_) (fun h6 => ?_)
    · replace H := pu_t h6 H
      refine pu_aload_n rfl ?_
      refine pu_bipush ?_
      refine pu_cv (vs := [.int (-6)]) (rest := []) pu_g130 ⟨pu_c0, by decide⟩ rfl rfl rfl rfl rfl (pu_CI (pu_I_imp H (fun y7 D8 H => ?_)))
      exact pu_iretI pu_rt98 H
    · replace H := pu_f h6 H
      refine pu_bipush ?_
      refine pu_iconst ?_
      refine pu_iload_n rfl ?_
      refine pu_cs (vs := [.int 9, .int 2, .int x3]) (rest := []) pu_g145 rfl rfl rfl rfl rfl (pu_CI (pu_I_imp H (fun y9 D10 H => ?_)))
      refine pu_ne0 pu_t98_40 (fun h11 => ?_) (fun h11 => ?_)
      · replace H := pu_f h11 H
        refine pu_aload_n rfl ?_
        refine pu_getR pu_kr7_0 pu_c0 pu_r0_0 ?_
        refine pu_getR pu_kr4_6 pu_c1 pu_r1_6 ?_
        refine pu_cv (vs := []) (rest := []) pu_g80 ⟨pu_c13, by decide⟩ rfl rfl rfl rfl rfl (pu_CI (pu_I_imp H (fun y12 D13 H => ?_)))
        refine pu_eq0 pu_t98_60 (fun h14 => ?_) (fun h14 => ?_)
        · replace H := pu_t h14 H
          refine pu_aload_n rfl ?_
          refine pu_getR pu_kr7_0 pu_c0 pu_r0_0 ?_
          refine pu_getR pu_kr4_6 pu_c1 pu_r1_6 ?_
          refine pu_iload_n rfl ?_
          refine pu_iload_n rfl ?_
          refine pu_iload_n rfl ?_
          refine pu_iconst ?_
          refine pu_cv (vs := [.int x1, .int x2, .int x3, .int 0]) (rest := []) pu_g84 ⟨pu_c13, by decide⟩ rfl rfl rfl rfl rfl (pu_CI (pu_I_imp H (fun y15 D16 H => ?_)))
          exact pu_iretI pu_rt98 H
        · replace H := pu_f h14 H
          refine pu_aload_n rfl ?_
          refine pu_bipush ?_
          refine pu_cv (vs := [.int (-7)]) (rest := []) pu_g130 ⟨pu_c0, by decide⟩ rfl rfl rfl rfl rfl (pu_CI (pu_I_imp H (fun y17 D18 H => ?_)))
          exact pu_iretI pu_rt98 H
      · replace H := pu_t h11 H
        refine pu_aload_n rfl ?_
        refine pu_bipush ?_
        refine pu_cv (vs := [.int (-6)]) (rest := []) pu_g130 ⟨pu_c0, by decide⟩ rfl rfl rfl rfl rfl (pu_CI (pu_I_imp H (fun y19 D20 H => ?_)))
        exact pu_iretI pu_rt98 H
  · replace H := pu_t h3 H
    refine pu_aload_n rfl ?_
    refine pu_iconst ?_
    refine pu_cv (vs := [.int (-1)]) (rest := []) pu_g130 ⟨pu_c0, by decide⟩ rfl rfl rfl rfl rfl (pu_CI (pu_I_imp H (fun y21 D22 H => ?_)))
    exact pu_iretI pu_rt98 H
/-- LightAlong.ask(II)I -/
theorem pu_e99 {X : px_X} {x1 : Int32} {x2 : Int32} {D : pu_D} {P : Int32 → pu_D → Prop} 
    (H : if x1 < 0 then (pu_I X 130 [.ref 0, .int (-6)] D (fun y2 D3 => P y2 D3)) else (if 3 < x1 then (pu_I X 130 [.ref 0, .int (-6)] D (fun y5 D6 => P y5 D6)) else (pu_I X 145 [.int x1, .int 0, .int x2] D (fun y7 D8 => if y7 = 0 then (pu_I X 130 [.ref 0, .int (-6)] D8 (fun y10 D11 => P y10 D11)) else ((px_in x1 4 = true) ∧ (px_in x1 4 = true) ∧ P (D8.1 2 x1.toNatClampNeg) (pu_wi D8 2 x1.toNatClampNeg x2)))))) :
    pu_I X 99 [.ref 0, .int x1, .int x2] D P := by
  refine pu_ent (E := [.ref 0, .int x1, .int x2, .null]) pu_n99.1 pu_n99.2 pu_t99_0 rfl ?_
  refine pu_iload_n rfl ?_
  refine pu_lt0 pu_t99_18 (fun h1 => ?_) (fun h1 => ?_)
  · replace H := pu_t h1 H
    refine pu_aload_n rfl ?_
    refine pu_bipush ?_
    refine pu_cv (vs := [.int (-6)]) (rest := []) pu_g130 ⟨pu_c0, by decide⟩ rfl rfl rfl rfl rfl (pu_CI (pu_I_imp H (fun y2 D3 H => ?_)))
    exact pu_iretI pu_rt99 H
  · replace H := pu_f h1 H
    refine pu_iload_n rfl ?_
    refine pu_iconst ?_
    refine pu_gt_ pu_t99_18 (fun h4 => ?_) (fun h4 => ?_)
    · replace H := pu_t h4 H
      refine pu_aload_n rfl ?_
      refine pu_bipush ?_
      refine pu_cv (vs := [.int (-6)]) (rest := []) pu_g130 ⟨pu_c0, by decide⟩ rfl rfl rfl rfl rfl (pu_CI (pu_I_imp H (fun y5 D6 H => ?_)))
      exact pu_iretI pu_rt99 H
    · replace H := pu_f h4 H
      refine pu_iload_n rfl ?_
      refine pu_iconst ?_
      refine pu_iload_n rfl ?_
      refine pu_cs (vs := [.int x1, .int 0, .int x2]) (rest := []) pu_g145 rfl rfl rfl rfl rfl (pu_CI (pu_I_imp H (fun y7 D8 H => ?_)))
      refine pu_ne0 pu_t99_25 (fun h9 => ?_) (fun h9 => ?_)
      · replace H := pu_f h9 H
        refine pu_aload_n rfl ?_
        refine pu_getR pu_kr7_0 pu_c0 pu_r0_0 ?_
        refine pu_getR pu_kr4_0 pu_c1 pu_r1_0 ?_
        refine pu_iload_n rfl ?_
        refine pu_ial pu_c2 pu_ln2 H.1 ?_
        replace H := H.2
        refine pu_istore_n (L' := [.ref 0, .int x1, .int x2, .int (D8.1 2 x1.toNatClampNeg)]) (Or.inr rfl) rfl ?_
        refine pu_aload_n rfl ?_
        refine pu_getR pu_kr7_0 pu_c0 pu_r0_0 ?_
        refine pu_getR pu_kr4_0 pu_c1 pu_r1_0 ?_
        refine pu_iload_n rfl ?_
        refine pu_iload_n rfl ?_
        refine pu_ias pu_c2 pu_ln2 H.1 ?_
        replace H := H.2
        refine pu_iload_n rfl ?_
        exact pu_iretI pu_rt99 H
      · replace H := pu_t h9 H
        refine pu_aload_n rfl ?_
        refine pu_bipush ?_
        refine pu_cv (vs := [.int (-6)]) (rest := []) pu_g130 ⟨pu_c0, by decide⟩ rfl rfl rfl rfl rfl (pu_CI (pu_I_imp H (fun y10 D11 H => ?_)))
        exact pu_iretI pu_rt99 H
/-- LightAlong.street(I)I -/
theorem pu_e100 {X : px_X} {x1 : Int32} {D : pu_D} {P : Int32 → pu_D → Prop} 
    (H : pu_I X 132 [.ref 0, .int x1] D (fun y1 D2 => if y1 = 0 then (pu_V X 46 [.ref 17, .ref 1] D2 (fun D5 => (px_in x1 8 = true) ∧ pu_I X 73 [.ref 50, .ref (pu_rf 49 x1.toNatClampNeg), .ref 17] D5 (fun y7 D8 => if ((pu_wi D8 0 10 y7).1 0 10) = (-1) then (pu_V X 46 [.ref 1, .ref 17] (pu_wi D8 0 10 y7) (fun D11 => P (D11.1 50 2) D11)) else (pu_I X 130 [.ref 0, .int (-6)] (pu_wi D8 0 10 y7) (fun y12 D13 => P y12 D13))))) else (pu_I X 130 [.ref 0, .int y1] D2 (fun y14 D15 => P y14 D15)))) :
    pu_I X 100 [.ref 0, .int x1] D P := by
  refine pu_ent (E := [.ref 0, .int x1, .null]) pu_n100.1 pu_n100.2 pu_t100_0 rfl ?_
  refine pu_aload_n rfl ?_
  refine pu_iload_n rfl ?_
  refine pu_cv (vs := [.int x1]) (rest := []) pu_g132 ⟨pu_c0, by decide⟩ rfl rfl rfl rfl rfl (pu_CI (pu_I_imp H (fun y1 D2 H => ?_)))
  refine pu_istore_n (L' := [.ref 0, .int x1, .int y1]) (Or.inr rfl) rfl ?_
  refine pu_iload_n rfl ?_
  refine pu_eq0 pu_t100_16 (fun h3 => ?_) (fun h3 => ?_)
  · replace H := pu_t h3 H
    refine pu_aload_n rfl ?_
    refine pu_getR pu_kr7_1 pu_c0 pu_r0_1 ?_
    refine pu_aload_n rfl ?_
    refine pu_getR pu_kr7_0 pu_c0 pu_r0_0 ?_
    refine pu_cv (vs := [.ref 1]) (rest := []) pu_g46 ⟨pu_c17, by decide⟩ rfl rfl rfl rfl rfl (pu_CV (pu_V_imp H (fun D5 H => ?_)))
    refine pu_aload_n rfl ?_
    refine pu_aload_n rfl ?_
    refine pu_getR pu_kr7_5 pu_c0 pu_r0_5 ?_
    refine pu_aload_n rfl ?_
    refine pu_getR pu_kr7_4 pu_c0 pu_r0_4 ?_
    refine pu_iload_n rfl ?_
    have h6 := H.1
    refine pu_aal h6 ?_
    replace H := H.2
    refine pu_aload_n rfl ?_
    refine pu_getR pu_kr7_1 pu_c0 pu_r0_1 ?_
    refine pu_cv (vs := [.ref (pu_rf 49 x1.toNatClampNeg), .ref 17]) (rest := [.ref 0]) pu_g73 ⟨pu_c50, by decide⟩ rfl rfl rfl rfl rfl (pu_CI (pu_I_imp H (fun y7 D8 H => ?_)))
    refine pu_putI pu_p7_10 pu_c0 ?_
    refine pu_aload_n rfl ?_
    refine pu_getI pu_k7_10 pu_c0 ?_
    refine pu_iconst ?_
    refine pu_eq_ pu_t100_63 (fun h9 => ?_) (fun h9 => ?_)
    · replace H := pu_t h9 H
      refine pu_aload_n rfl ?_
      refine pu_getR pu_kr7_0 pu_c0 pu_r0_0 ?_
      refine pu_aload_n rfl ?_
      refine pu_getR pu_kr7_1 pu_c0 pu_r0_1 ?_
      refine pu_cv (vs := [.ref 17]) (rest := []) pu_g46 ⟨pu_c1, by decide⟩ rfl rfl rfl rfl rfl (pu_CV (pu_V_imp H (fun D11 H => ?_)))
      refine pu_aload_n rfl ?_
      refine pu_getR pu_kr7_5 pu_c0 pu_r0_5 ?_
      refine pu_getI pu_k5_2 pu_c50 ?_
      exact pu_iretI pu_rt100 H
    · replace H := pu_f h9 H
      refine pu_aload_n rfl ?_
      refine pu_bipush ?_
      refine pu_cv (vs := [.int (-6)]) (rest := []) pu_g130 ⟨pu_c0, by decide⟩ rfl rfl rfl rfl rfl (pu_CI (pu_I_imp H (fun y12 D13 H => ?_)))
      exact pu_iretI pu_rt100 H
  · replace H := pu_f h3 H
    refine pu_aload_n rfl ?_
    refine pu_iload_n rfl ?_
    refine pu_cv (vs := [.int y1]) (rest := []) pu_g130 ⟨pu_c0, by decide⟩ rfl rfl rfl rfl rfl (pu_CI (pu_I_imp H (fun y14 D15 H => ?_)))
    exact pu_iretI pu_rt100 H
/-- LightAlong.fault()I -/
theorem pu_e101 {X : px_X}  {D : pu_D} {P : Int32 → pu_D → Prop} 
    (H : P (D.1 0 10) D) :
    pu_I X 101 [.ref 0] D P := by
  refine pu_ent (E := [.ref 0]) pu_n101.1 pu_n101.2 pu_t101_0 rfl ?_
  refine pu_aload_n rfl ?_
  refine pu_getI pu_k7_10 pu_c0 ?_
  exact pu_iretI pu_rt101 H
/-- LightAlong.sortOf(II)I -/
theorem pu_e102 {X : px_X} {x1 : Int32} {x2 : Int32} {D : pu_D} {P : Int32 → pu_D → Prop} 
    (H : pu_I X 81 [.ref 3, .int x1] D (fun y1 D2 => if y1 = 0 then (pu_I X 130 [.ref 0, .int (-5)] D2 (fun y4 D5 => P y4 D5)) else (if x2 < 0 then (pu_I X 130 [.ref 0, .int (-5)] D2 (fun y7 D8 => P y7 D8)) else (if 3 < x2 then (pu_I X 130 [.ref 0, .int (-5)] D2 (fun y12 D13 => P y12 D13)) else (pu_I X 82 [.ref 3, .int x1, .int x2] D2 (fun y10 D11 => P y10 D11)))))) :
    pu_I X 102 [.ref 0, .int x1, .int x2] D P := by
  refine pu_ent (E := [.ref 0, .int x1, .int x2]) pu_n102.1 pu_n102.2 pu_t102_0 rfl ?_
  refine pu_aload_n rfl ?_
  refine pu_getR pu_kr7_0 pu_c0 pu_r0_0 ?_
  refine pu_getR pu_kr4_1 pu_c1 pu_r1_1 ?_
  refine pu_iload_n rfl ?_
  refine pu_cv (vs := [.int x1]) (rest := []) pu_g81 ⟨pu_c3, by decide⟩ rfl rfl rfl rfl rfl (pu_CI (pu_I_imp H (fun y1 D2 H => ?_)))
  refine pu_eq0 pu_t102_23 (fun h3 => ?_) (fun h3 => ?_)
  · replace H := pu_t h3 H
    refine pu_aload_n rfl ?_
    refine pu_bipush ?_
    refine pu_cv (vs := [.int (-5)]) (rest := []) pu_g130 ⟨pu_c0, by decide⟩ rfl rfl rfl rfl rfl (pu_CI (pu_I_imp H (fun y4 D5 H => ?_)))
    exact pu_iretI pu_rt102 H
  · replace H := pu_f h3 H
    refine pu_iload_n rfl ?_
    refine pu_lt0 pu_t102_23 (fun h6 => ?_) (fun h6 => ?_)
    · replace H := pu_t h6 H
      refine pu_aload_n rfl ?_
      refine pu_bipush ?_
      refine pu_cv (vs := [.int (-5)]) (rest := []) pu_g130 ⟨pu_c0, by decide⟩ rfl rfl rfl rfl rfl (pu_CI (pu_I_imp H (fun y7 D8 H => ?_)))
      exact pu_iretI pu_rt102 H
    · replace H := pu_f h6 H
      refine pu_iload_n rfl ?_
      refine pu_iconst ?_
      refine pu_le_ pu_t102_30 (fun h9 => ?_) (fun h9 => ?_)
      · replace H := pu_f h9 H
        refine pu_aload_n rfl ?_
        refine pu_getR pu_kr7_0 pu_c0 pu_r0_0 ?_
        refine pu_getR pu_kr4_1 pu_c1 pu_r1_1 ?_
        refine pu_iload_n rfl ?_
        refine pu_iload_n rfl ?_
        refine pu_cv (vs := [.int x1, .int x2]) (rest := []) pu_g82 ⟨pu_c3, by decide⟩ rfl rfl rfl rfl rfl (pu_CI (pu_I_imp H (fun y10 D11 H => ?_)))
        exact pu_iretI pu_rt102 H
      · replace H := pu_t h9 H
        refine pu_aload_n rfl ?_
        refine pu_bipush ?_
        refine pu_cv (vs := [.int (-5)]) (rest := []) pu_g130 ⟨pu_c0, by decide⟩ rfl rfl rfl rfl rfl (pu_CI (pu_I_imp H (fun y12 D13 H => ?_)))
        exact pu_iretI pu_rt102 H
/-- LightAlong.placeOf(II)I -/
theorem pu_e103 {X : px_X} {x1 : Int32} {x2 : Int32} {D : pu_D} {P : Int32 → pu_D → Prop} 
    (H : pu_I X 81 [.ref 5, .int x1] D (fun y1 D2 => if y1 = 0 then (pu_I X 130 [.ref 0, .int (-5)] D2 (fun y4 D5 => P y4 D5)) else (if x2 < 0 then (pu_I X 130 [.ref 0, .int (-5)] D2 (fun y7 D8 => P y7 D8)) else (if 3 < x2 then (pu_I X 130 [.ref 0, .int (-5)] D2 (fun y12 D13 => P y12 D13)) else (pu_I X 82 [.ref 5, .int x1, .int x2] D2 (fun y10 D11 => P y10 D11)))))) :
    pu_I X 103 [.ref 0, .int x1, .int x2] D P := by
  refine pu_ent (E := [.ref 0, .int x1, .int x2]) pu_n103.1 pu_n103.2 pu_t103_0 rfl ?_
  refine pu_aload_n rfl ?_
  refine pu_getR pu_kr7_0 pu_c0 pu_r0_0 ?_
  refine pu_getR pu_kr4_2 pu_c1 pu_r1_2 ?_
  refine pu_iload_n rfl ?_
  refine pu_cv (vs := [.int x1]) (rest := []) pu_g81 ⟨pu_c5, by decide⟩ rfl rfl rfl rfl rfl (pu_CI (pu_I_imp H (fun y1 D2 H => ?_)))
  refine pu_eq0 pu_t103_23 (fun h3 => ?_) (fun h3 => ?_)
  · replace H := pu_t h3 H
    refine pu_aload_n rfl ?_
    refine pu_bipush ?_
    refine pu_cv (vs := [.int (-5)]) (rest := []) pu_g130 ⟨pu_c0, by decide⟩ rfl rfl rfl rfl rfl (pu_CI (pu_I_imp H (fun y4 D5 H => ?_)))
    exact pu_iretI pu_rt103 H
  · replace H := pu_f h3 H
    refine pu_iload_n rfl ?_
    refine pu_lt0 pu_t103_23 (fun h6 => ?_) (fun h6 => ?_)
    · replace H := pu_t h6 H
      refine pu_aload_n rfl ?_
      refine pu_bipush ?_
      refine pu_cv (vs := [.int (-5)]) (rest := []) pu_g130 ⟨pu_c0, by decide⟩ rfl rfl rfl rfl rfl (pu_CI (pu_I_imp H (fun y7 D8 H => ?_)))
      exact pu_iretI pu_rt103 H
    · replace H := pu_f h6 H
      refine pu_iload_n rfl ?_
      refine pu_iconst ?_
      refine pu_le_ pu_t103_30 (fun h9 => ?_) (fun h9 => ?_)
      · replace H := pu_f h9 H
        refine pu_aload_n rfl ?_
        refine pu_getR pu_kr7_0 pu_c0 pu_r0_0 ?_
        refine pu_getR pu_kr4_2 pu_c1 pu_r1_2 ?_
        refine pu_iload_n rfl ?_
        refine pu_iload_n rfl ?_
        refine pu_cv (vs := [.int x1, .int x2]) (rest := []) pu_g82 ⟨pu_c5, by decide⟩ rfl rfl rfl rfl rfl (pu_CI (pu_I_imp H (fun y10 D11 H => ?_)))
        exact pu_iretI pu_rt103 H
      · replace H := pu_t h9 H
        refine pu_aload_n rfl ?_
        refine pu_bipush ?_
        refine pu_cv (vs := [.int (-5)]) (rest := []) pu_g130 ⟨pu_c0, by decide⟩ rfl rfl rfl rfl rfl (pu_CI (pu_I_imp H (fun y12 D13 H => ?_)))
        exact pu_iretI pu_rt103 H
/-- LightAlong.lamp(II)I -/
theorem pu_e104 {X : px_X} {x1 : Int32} {x2 : Int32} {D : pu_D} {P : Int32 → pu_D → Prop} 
    (H : pu_I X 81 [.ref 5, .int x1] D (fun y1 D2 => if y1 = 0 then (pu_I X 131 [.ref 0, .int (-1)] D2 (fun y4 D5 => P y4 D5)) else (if x2 = (-1) then (pu_I X 82 [.ref 5, .int x1, .int 2] D2 (fun y7 D8 => pu_V X 54 [.ref 1, .int x1, .int x2] D8 (fun D10 => P y7 D10))) else (pu_I X 81 [.ref 3, .int x2] D2 (fun y11 D12 => if y11 = 0 then (pu_I X 131 [.ref 0, .int (-1)] D12 (fun y14 D15 => P y14 D15)) else (pu_I X 82 [.ref 5, .int x1, .int 2] D12 (fun y16 D17 => pu_V X 54 [.ref 1, .int x1, .int x2] D17 (fun D19 => P y16 D19)))))))) :
    pu_I X 104 [.ref 0, .int x1, .int x2] D P := by
  refine pu_ent (E := [.ref 0, .int x1, .int x2, .null, .null]) pu_n104.1 pu_n104.2 pu_t104_0 rfl ?_
  refine pu_aload_n rfl ?_
  refine pu_getR pu_kr7_0 pu_c0 pu_r0_0 ?_
  refine pu_getR pu_kr4_2 pu_c1 pu_r1_2 ?_
  refine pu_iload_n rfl ?_
  refine pu_cv (vs := [.int x1]) (rest := []) pu_g81 ⟨pu_c5, by decide⟩ rfl rfl rfl rfl rfl (pu_CI (pu_I_imp H (fun y1 D2 H => ?_)))
  refine pu_eq0 pu_t104_37 (fun h3 => ?_) (fun h3 => ?_)
  · replace H := pu_t h3 H
    refine pu_iconst ?_
    refine pu_istore_n (L' := [.ref 0, .int x1, .int x2, .int 0, .null]) (Or.inr rfl) rfl ?_
    refine pu_iload_n rfl ?_
    refine pu_ifF (by decide) ?_
    refine pu_aload_n rfl ?_
    refine pu_iconst ?_
    refine pu_cv (vs := [.int (-1)]) (rest := []) pu_g131 ⟨pu_c0, by decide⟩ rfl rfl rfl rfl rfl (pu_CI (pu_I_imp H (fun y4 D5 H => ?_)))
    exact pu_iretI pu_rt104 H
  · replace H := pu_f h3 H
    refine pu_iload_n rfl ?_
    refine pu_iconst ?_
    refine pu_eq_ pu_t104_33 (fun h6 => ?_) (fun h6 => ?_)
    · replace H := pu_t h6 H
      refine pu_iconst ?_
      refine pu_goto pu_t104_38 ?_
      refine pu_istore_n (L' := [.ref 0, .int x1, .int x2, .int 1, .null]) (Or.inr rfl) rfl ?_
      refine pu_iload_n rfl ?_
      refine pu_ifT (by decide) pu_t104_49 ?_
      refine pu_aload_n rfl ?_
      refine pu_getR pu_kr7_0 pu_c0 pu_r0_0 ?_
      refine pu_getR pu_kr4_2 pu_c1 pu_r1_2 ?_
      refine pu_iload_n rfl ?_
      refine pu_iconst ?_
      refine pu_cv (vs := [.int x1, .int 2]) (rest := []) pu_g82 ⟨pu_c5, by decide⟩ rfl rfl rfl rfl rfl (pu_CI (pu_I_imp H (fun y7 D8 H => ?_)))
      refine pu_istore (L' := [.ref 0, .int x1, .int x2, .int 1, .int y7]) (Or.inr rfl) rfl ?_
      refine pu_aload_n rfl ?_
      refine pu_getR pu_kr7_0 pu_c0 pu_r0_0 ?_
      refine pu_iload_n rfl ?_
      refine pu_iload_n rfl ?_
      refine pu_cv (vs := [.int x1, .int x2]) (rest := []) pu_g54 ⟨pu_c1, by decide⟩ rfl rfl rfl rfl rfl (pu_CV (pu_V_imp H (fun D10 H => ?_)))
      refine pu_iload rfl ?_
      exact pu_iretI pu_rt104 H
    · replace H := pu_f h6 H
      refine pu_aload_n rfl ?_
      refine pu_getR pu_kr7_0 pu_c0 pu_r0_0 ?_
      refine pu_getR pu_kr4_1 pu_c1 pu_r1_1 ?_
      refine pu_iload_n rfl ?_
      refine pu_cv (vs := [.int x2]) (rest := []) pu_g81 ⟨pu_c3, by decide⟩ rfl rfl rfl rfl rfl (pu_CI (pu_I_imp H (fun y11 D12 H => ?_)))
      refine pu_eq0 pu_t104_37 (fun h13 => ?_) (fun h13 => ?_)
      · replace H := pu_t h13 H
        refine pu_iconst ?_
        refine pu_istore_n (L' := [.ref 0, .int x1, .int x2, .int 0, .null]) (Or.inr rfl) rfl ?_
        refine pu_iload_n rfl ?_
        refine pu_ifF (by decide) ?_
        refine pu_aload_n rfl ?_
        refine pu_iconst ?_
        refine pu_cv (vs := [.int (-1)]) (rest := []) pu_g131 ⟨pu_c0, by decide⟩ rfl rfl rfl rfl rfl (pu_CI (pu_I_imp H (fun y14 D15 H => ?_)))
        exact pu_iretI pu_rt104 H
      · replace H := pu_f h13 H
        refine pu_iconst ?_
        refine pu_goto pu_t104_38 ?_
        refine pu_istore_n (L' := [.ref 0, .int x1, .int x2, .int 1, .null]) (Or.inr rfl) rfl ?_
        refine pu_iload_n rfl ?_
        refine pu_ifT (by decide) pu_t104_49 ?_
        refine pu_aload_n rfl ?_
        refine pu_getR pu_kr7_0 pu_c0 pu_r0_0 ?_
        refine pu_getR pu_kr4_2 pu_c1 pu_r1_2 ?_
        refine pu_iload_n rfl ?_
        refine pu_iconst ?_
        refine pu_cv (vs := [.int x1, .int 2]) (rest := []) pu_g82 ⟨pu_c5, by decide⟩ rfl rfl rfl rfl rfl (pu_CI (pu_I_imp H (fun y16 D17 H => ?_)))
        refine pu_istore (L' := [.ref 0, .int x1, .int x2, .int 1, .int y16]) (Or.inr rfl) rfl ?_
        refine pu_aload_n rfl ?_
        refine pu_getR pu_kr7_0 pu_c0 pu_r0_0 ?_
        refine pu_iload_n rfl ?_
        refine pu_iload_n rfl ?_
        refine pu_cv (vs := [.int x1, .int x2]) (rest := []) pu_g54 ⟨pu_c1, by decide⟩ rfl rfl rfl rfl rfl (pu_CV (pu_V_imp H (fun D19 H => ?_)))
        refine pu_iload rfl ?_
        exact pu_iretI pu_rt104 H
/-- LightAlong.out(IZ)I -/
theorem pu_e105 {X : px_X} {x1 : Int32} {x2 : Int32} {D : pu_D} {P : Int32 → pu_D → Prop} 
    (H : pu_I X 81 [.ref 5, .int x1] D (fun y1 D2 => if y1 = 0 then (pu_I X 130 [.ref 0, .int (-1)] D2 (fun y18 D19 => P y18 D19)) else (pu_I X 52 [.ref 1, .int x1] D2 (fun y4 D5 => if y4 = 0 then (pu_I X 130 [.ref 0, .int (-6)] D5 (fun y16 D17 => P y16 D17)) else (pu_I X 53 [.ref 1, .int x1] D5 (fun y7 D8 => if x2 = 0 then (pu_V X 83 [.ref 5, .int x1, .int 3, .int 0] D8 (fun D11 => if y7 = x2 then (P 0 D11) else (P 1 D11))) else (pu_V X 83 [.ref 5, .int x1, .int 3, .int 1] D8 (fun D14 => if y7 = x2 then (P 0 D14) else (P 1 D14))))))))) :
    pu_I X 105 [.ref 0, .int x1, .int x2] D P := by
  refine pu_ent (E := [.ref 0, .int x1, .int x2, .null]) pu_n105.1 pu_n105.2 pu_t105_0 rfl ?_
  refine pu_aload_n rfl ?_
  refine pu_getR pu_kr7_0 pu_c0 pu_r0_0 ?_
  refine pu_getR pu_kr4_2 pu_c1 pu_r1_2 ?_
  refine pu_iload_n rfl ?_
  refine pu_cv (vs := [.int x1]) (rest := []) pu_g81 ⟨pu_c5, by decide⟩ rfl rfl rfl rfl rfl (pu_CI (pu_I_imp H (fun y1 D2 H => ?_)))
  refine pu_ne0 pu_t105_20 (fun h3 => ?_) (fun h3 => ?_)
  · replace H := pu_f h3 H
    refine pu_aload_n rfl ?_
    refine pu_getR pu_kr7_0 pu_c0 pu_r0_0 ?_
    refine pu_iload_n rfl ?_
    refine pu_cv (vs := [.int x1]) (rest := []) pu_g52 ⟨pu_c1, by decide⟩ rfl rfl rfl rfl rfl (pu_CI (pu_I_imp H (fun y4 D5 H => ?_)))
    refine pu_ne0 pu_t105_38 (fun h6 => ?_) (fun h6 => ?_)
    · replace H := pu_f h6 H
      refine pu_aload_n rfl ?_
      refine pu_getR pu_kr7_0 pu_c0 pu_r0_0 ?_
      refine pu_iload_n rfl ?_
      refine pu_cv (vs := [.int x1]) (rest := []) pu_g53 ⟨pu_c1, by decide⟩ rfl rfl rfl rfl rfl (pu_CI (pu_I_imp H (fun y7 D8 H => ?_)))
      refine pu_istore_n (L' := [.ref 0, .int x1, .int x2, .int y7]) (Or.inr rfl) rfl ?_
      refine pu_aload_n rfl ?_
      refine pu_getR pu_kr7_0 pu_c0 pu_r0_0 ?_
      refine pu_getR pu_kr4_2 pu_c1 pu_r1_2 ?_
      refine pu_iload_n rfl ?_
      refine pu_iconst ?_
      refine pu_iload_n rfl ?_
      refine pu_eq0 pu_t105_64 (fun h9 => ?_) (fun h9 => ?_)
      · replace H := pu_t h9 H
        refine pu_iconst ?_
        refine pu_cv (vs := [.int x1, .int 3, .int 0]) (rest := []) pu_g83 ⟨pu_c5, by decide⟩ rfl rfl rfl rfl rfl (pu_CV (pu_V_imp H (fun D11 H => ?_)))
        refine pu_iload_n rfl ?_
        refine pu_iload_n rfl ?_
        refine pu_ne_ pu_t105_77 (fun h12 => ?_) (fun h12 => ?_)
        · replace H := pu_f h12 H
          refine pu_iconst ?_
          exact pu_iretI pu_rt105 H
        · replace H := pu_t h12 H
          refine pu_iconst ?_
          refine pu_goto pu_t105_78 ?_
          exact pu_iretI pu_rt105 H
      · replace H := pu_f h9 H
        refine pu_iconst ?_
        refine pu_goto pu_t105_65 ?_
        refine pu_cv (vs := [.int x1, .int 3, .int 1]) (rest := []) pu_g83 ⟨pu_c5, by decide⟩ rfl rfl rfl rfl rfl (pu_CV (pu_V_imp H (fun D14 H => ?_)))
        refine pu_iload_n rfl ?_
        refine pu_iload_n rfl ?_
        refine pu_ne_ pu_t105_77 (fun h15 => ?_) (fun h15 => ?_)
        · replace H := pu_f h15 H
          refine pu_iconst ?_
          exact pu_iretI pu_rt105 H
        · replace H := pu_t h15 H
          refine pu_iconst ?_
          refine pu_goto pu_t105_78 ?_
          exact pu_iretI pu_rt105 H
    · replace H := pu_t h6 H
      refine pu_aload_n rfl ?_
      refine pu_bipush ?_
      refine pu_cv (vs := [.int (-6)]) (rest := []) pu_g130 ⟨pu_c0, by decide⟩ rfl rfl rfl rfl rfl (pu_CI (pu_I_imp H (fun y16 D17 H => ?_)))
      exact pu_iretI pu_rt105 H
  · replace H := pu_t h3 H
    refine pu_aload_n rfl ?_
    refine pu_iconst ?_
    refine pu_cv (vs := [.int (-1)]) (rest := []) pu_g130 ⟨pu_c0, by decide⟩ rfl rfl rfl rfl rfl (pu_CI (pu_I_imp H (fun y18 D19 H => ?_)))
    exact pu_iretI pu_rt105 H
/-- LightAlong.light(IIII)I -/
theorem pu_e106 {X : px_X} {x1 : Int32} {x2 : Int32} {x3 : Int32} {x4 : Int32} {D : pu_D} {P : Int32 → pu_D → Prop} 
    (H : pu_I X 139 [.int x2] D (fun y1 D2 => pu_I X 140 [.int x3] D2 (fun y3 D4 => if y3 = 0 then (pu_I X 134 [.ref 0, .int x1, .int y1, .int 0] D4 (fun y6 D7 => if y6 = 0 then ((px_in x1 8 = true) ∧ pu_I X 136 [.ref 0, .ref (pu_rf 49 x1.toNatClampNeg), .int x2, .int x3, .int x4] D7 (fun y10 D11 => P y10 D11)) else (pu_I X 130 [.ref 0, .int y6] D7 (fun y12 D13 => P y12 D13)))) else (pu_I X 141 [.int x4] D4 (fun y14 D15 => if y14 = 0 then (pu_I X 134 [.ref 0, .int x1, .int y1, .int 0] D15 (fun y17 D18 => if y17 = 0 then ((px_in x1 8 = true) ∧ pu_I X 136 [.ref 0, .ref (pu_rf 49 x1.toNatClampNeg), .int x2, .int x3, .int x4] D18 (fun y21 D22 => P y21 D22)) else (pu_I X 130 [.ref 0, .int y17] D18 (fun y23 D24 => P y23 D24)))) else (pu_I X 134 [.ref 0, .int x1, .int y1, .int 1] D15 (fun y25 D26 => if y25 = 0 then ((px_in x1 8 = true) ∧ pu_I X 136 [.ref 0, .ref (pu_rf 49 x1.toNatClampNeg), .int x2, .int x3, .int x4] D26 (fun y29 D30 => P y29 D30)) else (pu_I X 130 [.ref 0, .int y25] D26 (fun y31 D32 => P y31 D32))))))))) :
    pu_I X 106 [.ref 0, .int x1, .int x2, .int x3, .int x4] D P := by
  refine pu_ent (E := [.ref 0, .int x1, .int x2, .int x3, .int x4, .null]) pu_n106.1 pu_n106.2 pu_t106_0 rfl ?_
  refine pu_aload_n rfl ?_
  refine pu_iload_n rfl ?_
  refine pu_iload_n rfl ?_
  refine pu_cs (vs := [.int x2]) (rest := [.int x1, .ref 0]) pu_g139 rfl rfl rfl rfl rfl (pu_CI (pu_I_imp H (fun y1 D2 H => ?_)))
  refine pu_iload_n rfl ?_
  refine pu_cs (vs := [.int x3]) (rest := [.int y1, .int x1, .ref 0]) pu_g140 rfl rfl rfl rfl rfl (pu_CI (pu_I_imp H (fun y3 D4 H => ?_)))
  refine pu_eq0 pu_t106_25 (fun h5 => ?_) (fun h5 => ?_)
  · replace H := pu_t h5 H
    refine pu_iconst ?_
    refine pu_cv (vs := [.int x1, .int y1, .int 0]) (rest := []) pu_g134 ⟨pu_c0, by decide⟩ rfl rfl rfl rfl rfl (pu_CI (pu_I_imp H (fun y6 D7 H => ?_)))
    refine pu_istore (L' := [.ref 0, .int x1, .int x2, .int x3, .int x4, .int y6]) (Or.inr rfl) rfl ?_
    refine pu_iload rfl ?_
    refine pu_eq0 pu_t106_43 (fun h8 => ?_) (fun h8 => ?_)
    · replace H := pu_t h8 H
      refine pu_aload_n rfl ?_
      refine pu_aload_n rfl ?_
      refine pu_getR pu_kr7_4 pu_c0 pu_r0_4 ?_
      refine pu_iload_n rfl ?_
      have h9 := H.1
      refine pu_aal h9 ?_
      replace H := H.2
      refine pu_iload_n rfl ?_
      refine pu_iload_n rfl ?_
      refine pu_iload rfl ?_
      refine pu_cv (vs := [.ref (pu_rf 49 x1.toNatClampNeg), .int x2, .int x3, .int x4]) (rest := []) pu_g136 ⟨pu_c0, by decide⟩ rfl rfl rfl rfl rfl (pu_CI (pu_I_imp H (fun y10 D11 H => ?_)))
      exact pu_iretI pu_rt106 H
    · replace H := pu_f h8 H
      refine pu_aload_n rfl ?_
      refine pu_iload rfl ?_
      refine pu_cv (vs := [.int y6]) (rest := []) pu_g130 ⟨pu_c0, by decide⟩ rfl rfl rfl rfl rfl (pu_CI (pu_I_imp H (fun y12 D13 H => ?_)))
      exact pu_iretI pu_rt106 H
  · replace H := pu_f h5 H
    refine pu_iload rfl ?_
    refine pu_cs (vs := [.int x4]) (rest := [.int y1, .int x1, .ref 0]) pu_g141 rfl rfl rfl rfl rfl (pu_CI (pu_I_imp H (fun y14 D15 H => ?_)))
    refine pu_eq0 pu_t106_25 (fun h16 => ?_) (fun h16 => ?_)
    · replace H := pu_t h16 H
      refine pu_iconst ?_
      refine pu_cv (vs := [.int x1, .int y1, .int 0]) (rest := []) pu_g134 ⟨pu_c0, by decide⟩ rfl rfl rfl rfl rfl (pu_CI (pu_I_imp H (fun y17 D18 H => ?_)))
      refine pu_istore (L' := [.ref 0, .int x1, .int x2, .int x3, .int x4, .int y17]) (Or.inr rfl) rfl ?_
      refine pu_iload rfl ?_
      refine pu_eq0 pu_t106_43 (fun h19 => ?_) (fun h19 => ?_)
      · replace H := pu_t h19 H
        refine pu_aload_n rfl ?_
        refine pu_aload_n rfl ?_
        refine pu_getR pu_kr7_4 pu_c0 pu_r0_4 ?_
        refine pu_iload_n rfl ?_
        have h20 := H.1
        refine pu_aal h20 ?_
        replace H := H.2
        refine pu_iload_n rfl ?_
        refine pu_iload_n rfl ?_
        refine pu_iload rfl ?_
        refine pu_cv (vs := [.ref (pu_rf 49 x1.toNatClampNeg), .int x2, .int x3, .int x4]) (rest := []) pu_g136 ⟨pu_c0, by decide⟩ rfl rfl rfl rfl rfl (pu_CI (pu_I_imp H (fun y21 D22 H => ?_)))
        exact pu_iretI pu_rt106 H
      · replace H := pu_f h19 H
        refine pu_aload_n rfl ?_
        refine pu_iload rfl ?_
        refine pu_cv (vs := [.int y17]) (rest := []) pu_g130 ⟨pu_c0, by decide⟩ rfl rfl rfl rfl rfl (pu_CI (pu_I_imp H (fun y23 D24 H => ?_)))
        exact pu_iretI pu_rt106 H
    · replace H := pu_f h16 H
      refine pu_iconst ?_
      refine pu_goto pu_t106_26 ?_
      refine pu_cv (vs := [.int x1, .int y1, .int 1]) (rest := []) pu_g134 ⟨pu_c0, by decide⟩ rfl rfl rfl rfl rfl (pu_CI (pu_I_imp H (fun y25 D26 H => ?_)))
      refine pu_istore (L' := [.ref 0, .int x1, .int x2, .int x3, .int x4, .int y25]) (Or.inr rfl) rfl ?_
      refine pu_iload rfl ?_
      refine pu_eq0 pu_t106_43 (fun h27 => ?_) (fun h27 => ?_)
      · replace H := pu_t h27 H
        refine pu_aload_n rfl ?_
        refine pu_aload_n rfl ?_
        refine pu_getR pu_kr7_4 pu_c0 pu_r0_4 ?_
        refine pu_iload_n rfl ?_
        have h28 := H.1
        refine pu_aal h28 ?_
        replace H := H.2
        refine pu_iload_n rfl ?_
        refine pu_iload_n rfl ?_
        refine pu_iload rfl ?_
        refine pu_cv (vs := [.ref (pu_rf 49 x1.toNatClampNeg), .int x2, .int x3, .int x4]) (rest := []) pu_g136 ⟨pu_c0, by decide⟩ rfl rfl rfl rfl rfl (pu_CI (pu_I_imp H (fun y29 D30 H => ?_)))
        exact pu_iretI pu_rt106 H
      · replace H := pu_f h27 H
        refine pu_aload_n rfl ?_
        refine pu_iload rfl ?_
        refine pu_cv (vs := [.int y25]) (rest := []) pu_g130 ⟨pu_c0, by decide⟩ rfl rfl rfl rfl rfl (pu_CI (pu_I_imp H (fun y31 D32 H => ?_)))
        exact pu_iretI pu_rt106 H
/-- LightAlong.face(IIII)I -/
theorem pu_e107 {X : px_X} {x1 : Int32} {x2 : Int32} {x3 : Int32} {x4 : Int32} {D : pu_D} {P : Int32 → pu_D → Prop} 
    (H : pu_I X 139 [.int x2] D (fun y1 D2 => pu_I X 140 [.int x3] D2 (fun y3 D4 => if y3 = 0 then (pu_I X 134 [.ref 0, .int x1, .int y1, .int 0] D4 (fun y6 D7 => if y6 = 0 then ((px_in x1 8 = true) ∧ pu_I X 57 [.ref 1, .ref (pu_rf 49 x1.toNatClampNeg)] D7 (fun y10 D11 => pu_I X 44 [.ref (pu_rf 49 x1.toNatClampNeg), .int x4] D11 (fun y12 D13 => pu_I X 65 [.ref 1, .int y10, .int y12, .int x2, .int x3] D13 (fun y14 D15 => P y14 D15)))) else (pu_I X 130 [.ref 0, .int y6] D7 (fun y16 D17 => P y16 D17)))) else (pu_I X 141 [.int x4] D4 (fun y18 D19 => if y18 = 0 then (pu_I X 134 [.ref 0, .int x1, .int y1, .int 0] D19 (fun y21 D22 => if y21 = 0 then ((px_in x1 8 = true) ∧ pu_I X 57 [.ref 1, .ref (pu_rf 49 x1.toNatClampNeg)] D22 (fun y25 D26 => pu_I X 44 [.ref (pu_rf 49 x1.toNatClampNeg), .int x4] D26 (fun y27 D28 => pu_I X 65 [.ref 1, .int y25, .int y27, .int x2, .int x3] D28 (fun y29 D30 => P y29 D30)))) else (pu_I X 130 [.ref 0, .int y21] D22 (fun y31 D32 => P y31 D32)))) else (pu_I X 134 [.ref 0, .int x1, .int y1, .int 1] D19 (fun y33 D34 => if y33 = 0 then ((px_in x1 8 = true) ∧ pu_I X 57 [.ref 1, .ref (pu_rf 49 x1.toNatClampNeg)] D34 (fun y37 D38 => pu_I X 44 [.ref (pu_rf 49 x1.toNatClampNeg), .int x4] D38 (fun y39 D40 => pu_I X 65 [.ref 1, .int y37, .int y39, .int x2, .int x3] D40 (fun y41 D42 => P y41 D42)))) else (pu_I X 130 [.ref 0, .int y33] D34 (fun y43 D44 => P y43 D44))))))))) :
    pu_I X 107 [.ref 0, .int x1, .int x2, .int x3, .int x4] D P := by
  refine pu_ent (E := [.ref 0, .int x1, .int x2, .int x3, .int x4, .null, .null]) pu_n107.1 pu_n107.2 pu_t107_0 rfl ?_
  refine pu_aload_n rfl ?_
  refine pu_iload_n rfl ?_
  refine pu_iload_n rfl ?_
  refine pu_cs (vs := [.int x2]) (rest := [.int x1, .ref 0]) pu_g139 rfl rfl rfl rfl rfl (pu_CI (pu_I_imp H (fun y1 D2 H => ?_)))
  refine pu_iload_n rfl ?_
  refine pu_cs (vs := [.int x3]) (rest := [.int y1, .int x1, .ref 0]) pu_g140 rfl rfl rfl rfl rfl (pu_CI (pu_I_imp H (fun y3 D4 H => ?_)))
  refine pu_eq0 pu_t107_25 (fun h5 => ?_) (fun h5 => ?_)
  · replace H := pu_t h5 H
    refine pu_iconst ?_
    refine pu_cv (vs := [.int x1, .int y1, .int 0]) (rest := []) pu_g134 ⟨pu_c0, by decide⟩ rfl rfl rfl rfl rfl (pu_CI (pu_I_imp H (fun y6 D7 H => ?_)))
    refine pu_istore (L' := [.ref 0, .int x1, .int x2, .int x3, .int x4, .int y6, .null]) (Or.inr rfl) rfl ?_
    refine pu_iload rfl ?_
    refine pu_eq0 pu_t107_43 (fun h8 => ?_) (fun h8 => ?_)
    · replace H := pu_t h8 H
      refine pu_aload_n rfl ?_
      refine pu_getR pu_kr7_4 pu_c0 pu_r0_4 ?_
      refine pu_iload_n rfl ?_
      have h9 := H.1
      refine pu_aal h9 ?_
      replace H := H.2
      refine pu_astore (L' := [.ref 0, .int x1, .int x2, .int x3, .int x4, .int y6, .ref (pu_rf 49 x1.toNatClampNeg)]) (Or.inr rfl) rfl ?_
      refine pu_aload_n rfl ?_
      refine pu_getR pu_kr7_0 pu_c0 pu_r0_0 ?_
      refine pu_aload_n rfl ?_
      refine pu_getR pu_kr7_0 pu_c0 pu_r0_0 ?_
      refine pu_aload rfl ?_
      refine pu_cv (vs := [.ref (pu_rf 49 x1.toNatClampNeg)]) (rest := [.ref 1]) pu_g57 ⟨pu_c1, by decide⟩ rfl rfl rfl rfl rfl (pu_CI (pu_I_imp H (fun y10 D11 H => ?_)))
      refine pu_aload rfl ?_
      refine pu_iload rfl ?_
      refine pu_cv (vs := [.int x4]) (rest := [.int y10, .ref 1]) pu_g44 ⟨(pu_sh h9), by decide⟩ rfl rfl rfl rfl rfl (pu_CI (pu_I_imp H (fun y12 D13 H => ?_)))
      refine pu_iload_n rfl ?_
      refine pu_iload_n rfl ?_
      refine pu_cv (vs := [.int y10, .int y12, .int x2, .int x3]) (rest := []) pu_g65 ⟨pu_c1, by decide⟩ rfl rfl rfl rfl rfl (pu_CI (pu_I_imp H (fun y14 D15 H => ?_)))
      exact pu_iretI pu_rt107 H
    · replace H := pu_f h8 H
      refine pu_aload_n rfl ?_
      refine pu_iload rfl ?_
      refine pu_cv (vs := [.int y6]) (rest := []) pu_g130 ⟨pu_c0, by decide⟩ rfl rfl rfl rfl rfl (pu_CI (pu_I_imp H (fun y16 D17 H => ?_)))
      exact pu_iretI pu_rt107 H
  · replace H := pu_f h5 H
    refine pu_iload rfl ?_
    refine pu_cs (vs := [.int x4]) (rest := [.int y1, .int x1, .ref 0]) pu_g141 rfl rfl rfl rfl rfl (pu_CI (pu_I_imp H (fun y18 D19 H => ?_)))
    refine pu_eq0 pu_t107_25 (fun h20 => ?_) (fun h20 => ?_)
    · replace H := pu_t h20 H
      refine pu_iconst ?_
      refine pu_cv (vs := [.int x1, .int y1, .int 0]) (rest := []) pu_g134 ⟨pu_c0, by decide⟩ rfl rfl rfl rfl rfl (pu_CI (pu_I_imp H (fun y21 D22 H => ?_)))
      refine pu_istore (L' := [.ref 0, .int x1, .int x2, .int x3, .int x4, .int y21, .null]) (Or.inr rfl) rfl ?_
      refine pu_iload rfl ?_
      refine pu_eq0 pu_t107_43 (fun h23 => ?_) (fun h23 => ?_)
      · replace H := pu_t h23 H
        refine pu_aload_n rfl ?_
        refine pu_getR pu_kr7_4 pu_c0 pu_r0_4 ?_
        refine pu_iload_n rfl ?_
        have h24 := H.1
        refine pu_aal h24 ?_
        replace H := H.2
        refine pu_astore (L' := [.ref 0, .int x1, .int x2, .int x3, .int x4, .int y21, .ref (pu_rf 49 x1.toNatClampNeg)]) (Or.inr rfl) rfl ?_
        refine pu_aload_n rfl ?_
        refine pu_getR pu_kr7_0 pu_c0 pu_r0_0 ?_
        refine pu_aload_n rfl ?_
        refine pu_getR pu_kr7_0 pu_c0 pu_r0_0 ?_
        refine pu_aload rfl ?_
        refine pu_cv (vs := [.ref (pu_rf 49 x1.toNatClampNeg)]) (rest := [.ref 1]) pu_g57 ⟨pu_c1, by decide⟩ rfl rfl rfl rfl rfl (pu_CI (pu_I_imp H (fun y25 D26 H => ?_)))
        refine pu_aload rfl ?_
        refine pu_iload rfl ?_
        refine pu_cv (vs := [.int x4]) (rest := [.int y25, .ref 1]) pu_g44 ⟨(pu_sh h24), by decide⟩ rfl rfl rfl rfl rfl (pu_CI (pu_I_imp H (fun y27 D28 H => ?_)))
        refine pu_iload_n rfl ?_
        refine pu_iload_n rfl ?_
        refine pu_cv (vs := [.int y25, .int y27, .int x2, .int x3]) (rest := []) pu_g65 ⟨pu_c1, by decide⟩ rfl rfl rfl rfl rfl (pu_CI (pu_I_imp H (fun y29 D30 H => ?_)))
        exact pu_iretI pu_rt107 H
      · replace H := pu_f h23 H
        refine pu_aload_n rfl ?_
        refine pu_iload rfl ?_
        refine pu_cv (vs := [.int y21]) (rest := []) pu_g130 ⟨pu_c0, by decide⟩ rfl rfl rfl rfl rfl (pu_CI (pu_I_imp H (fun y31 D32 H => ?_)))
        exact pu_iretI pu_rt107 H
    · replace H := pu_f h20 H
      refine pu_iconst ?_
      refine pu_goto pu_t107_26 ?_
      refine pu_cv (vs := [.int x1, .int y1, .int 1]) (rest := []) pu_g134 ⟨pu_c0, by decide⟩ rfl rfl rfl rfl rfl (pu_CI (pu_I_imp H (fun y33 D34 H => ?_)))
      refine pu_istore (L' := [.ref 0, .int x1, .int x2, .int x3, .int x4, .int y33, .null]) (Or.inr rfl) rfl ?_
      refine pu_iload rfl ?_
      refine pu_eq0 pu_t107_43 (fun h35 => ?_) (fun h35 => ?_)
      · replace H := pu_t h35 H
        refine pu_aload_n rfl ?_
        refine pu_getR pu_kr7_4 pu_c0 pu_r0_4 ?_
        refine pu_iload_n rfl ?_
        have h36 := H.1
        refine pu_aal h36 ?_
        replace H := H.2
        refine pu_astore (L' := [.ref 0, .int x1, .int x2, .int x3, .int x4, .int y33, .ref (pu_rf 49 x1.toNatClampNeg)]) (Or.inr rfl) rfl ?_
        refine pu_aload_n rfl ?_
        refine pu_getR pu_kr7_0 pu_c0 pu_r0_0 ?_
        refine pu_aload_n rfl ?_
        refine pu_getR pu_kr7_0 pu_c0 pu_r0_0 ?_
        refine pu_aload rfl ?_
        refine pu_cv (vs := [.ref (pu_rf 49 x1.toNatClampNeg)]) (rest := [.ref 1]) pu_g57 ⟨pu_c1, by decide⟩ rfl rfl rfl rfl rfl (pu_CI (pu_I_imp H (fun y37 D38 H => ?_)))
        refine pu_aload rfl ?_
        refine pu_iload rfl ?_
        refine pu_cv (vs := [.int x4]) (rest := [.int y37, .ref 1]) pu_g44 ⟨(pu_sh h36), by decide⟩ rfl rfl rfl rfl rfl (pu_CI (pu_I_imp H (fun y39 D40 H => ?_)))
        refine pu_iload_n rfl ?_
        refine pu_iload_n rfl ?_
        refine pu_cv (vs := [.int y37, .int y39, .int x2, .int x3]) (rest := []) pu_g65 ⟨pu_c1, by decide⟩ rfl rfl rfl rfl rfl (pu_CI (pu_I_imp H (fun y41 D42 H => ?_)))
        exact pu_iretI pu_rt107 H
      · replace H := pu_f h35 H
        refine pu_aload_n rfl ?_
        refine pu_iload rfl ?_
        refine pu_cv (vs := [.int y33]) (rest := []) pu_g130 ⟨pu_c0, by decide⟩ rfl rfl rfl rfl rfl (pu_CI (pu_I_imp H (fun y43 D44 H => ?_)))
        exact pu_iretI pu_rt107 H
/-- LightAlong.faulty(III)I -/
theorem pu_e108 {X : px_X} {x1 : Int32} {x2 : Int32} {x3 : Int32} {D : pu_D} {P : Int32 → pu_D → Prop} 
    (H : pu_I X 140 [.int x2] D (fun y1 D2 => if y1 = 0 then (pu_I X 134 [.ref 0, .int x1, .int 1, .int 0] D2 (fun y4 D5 => if y4 = 0 then ((px_in x1 8 = true) ∧ pu_I X 137 [.ref 0, .ref (pu_rf 49 x1.toNatClampNeg), .int x2, .int x3] D5 (fun y8 D9 => P y8 D9)) else (pu_I X 130 [.ref 0, .int y4] D5 (fun y10 D11 => P y10 D11)))) else (pu_I X 141 [.int x3] D2 (fun y12 D13 => if y12 = 0 then (pu_I X 134 [.ref 0, .int x1, .int 1, .int 0] D13 (fun y15 D16 => if y15 = 0 then ((px_in x1 8 = true) ∧ pu_I X 137 [.ref 0, .ref (pu_rf 49 x1.toNatClampNeg), .int x2, .int x3] D16 (fun y19 D20 => P y19 D20)) else (pu_I X 130 [.ref 0, .int y15] D16 (fun y21 D22 => P y21 D22)))) else (pu_I X 134 [.ref 0, .int x1, .int 1, .int 1] D13 (fun y23 D24 => if y23 = 0 then ((px_in x1 8 = true) ∧ pu_I X 137 [.ref 0, .ref (pu_rf 49 x1.toNatClampNeg), .int x2, .int x3] D24 (fun y27 D28 => P y27 D28)) else (pu_I X 130 [.ref 0, .int y23] D24 (fun y29 D30 => P y29 D30)))))))) :
    pu_I X 108 [.ref 0, .int x1, .int x2, .int x3] D P := by
  refine pu_ent (E := [.ref 0, .int x1, .int x2, .int x3, .null]) pu_n108.1 pu_n108.2 pu_t108_0 rfl ?_
  refine pu_aload_n rfl ?_
  refine pu_iload_n rfl ?_
  refine pu_iconst ?_
  refine pu_iload_n rfl ?_
  refine pu_cs (vs := [.int x2]) (rest := [.int 1, .int x1, .ref 0]) pu_g140 rfl rfl rfl rfl rfl (pu_CI (pu_I_imp H (fun y1 D2 H => ?_)))
  refine pu_eq0 pu_t108_21 (fun h3 => ?_) (fun h3 => ?_)
  · replace H := pu_t h3 H
    refine pu_iconst ?_
    refine pu_cv (vs := [.int x1, .int 1, .int 0]) (rest := []) pu_g134 ⟨pu_c0, by decide⟩ rfl rfl rfl rfl rfl (pu_CI (pu_I_imp H (fun y4 D5 H => ?_)))
    refine pu_istore (L' := [.ref 0, .int x1, .int x2, .int x3, .int y4]) (Or.inr rfl) rfl ?_
    refine pu_iload rfl ?_
    refine pu_eq0 pu_t108_39 (fun h6 => ?_) (fun h6 => ?_)
    · replace H := pu_t h6 H
      refine pu_aload_n rfl ?_
      refine pu_aload_n rfl ?_
      refine pu_getR pu_kr7_4 pu_c0 pu_r0_4 ?_
      refine pu_iload_n rfl ?_
      have h7 := H.1
      refine pu_aal h7 ?_
      replace H := H.2
      refine pu_iload_n rfl ?_
      refine pu_iload_n rfl ?_
      refine pu_cv (vs := [.ref (pu_rf 49 x1.toNatClampNeg), .int x2, .int x3]) (rest := []) pu_g137 ⟨pu_c0, by decide⟩ rfl rfl rfl rfl rfl (pu_CI (pu_I_imp H (fun y8 D9 H => ?_)))
      exact pu_iretI pu_rt108 H
    · replace H := pu_f h6 H
      refine pu_aload_n rfl ?_
      refine pu_iload rfl ?_
      refine pu_cv (vs := [.int y4]) (rest := []) pu_g130 ⟨pu_c0, by decide⟩ rfl rfl rfl rfl rfl (pu_CI (pu_I_imp H (fun y10 D11 H => ?_)))
      exact pu_iretI pu_rt108 H
  · replace H := pu_f h3 H
    refine pu_iload_n rfl ?_
    refine pu_cs (vs := [.int x3]) (rest := [.int 1, .int x1, .ref 0]) pu_g141 rfl rfl rfl rfl rfl (pu_CI (pu_I_imp H (fun y12 D13 H => ?_)))
    refine pu_eq0 pu_t108_21 (fun h14 => ?_) (fun h14 => ?_)
    · replace H := pu_t h14 H
      refine pu_iconst ?_
      refine pu_cv (vs := [.int x1, .int 1, .int 0]) (rest := []) pu_g134 ⟨pu_c0, by decide⟩ rfl rfl rfl rfl rfl (pu_CI (pu_I_imp H (fun y15 D16 H => ?_)))
      refine pu_istore (L' := [.ref 0, .int x1, .int x2, .int x3, .int y15]) (Or.inr rfl) rfl ?_
      refine pu_iload rfl ?_
      refine pu_eq0 pu_t108_39 (fun h17 => ?_) (fun h17 => ?_)
      · replace H := pu_t h17 H
        refine pu_aload_n rfl ?_
        refine pu_aload_n rfl ?_
        refine pu_getR pu_kr7_4 pu_c0 pu_r0_4 ?_
        refine pu_iload_n rfl ?_
        have h18 := H.1
        refine pu_aal h18 ?_
        replace H := H.2
        refine pu_iload_n rfl ?_
        refine pu_iload_n rfl ?_
        refine pu_cv (vs := [.ref (pu_rf 49 x1.toNatClampNeg), .int x2, .int x3]) (rest := []) pu_g137 ⟨pu_c0, by decide⟩ rfl rfl rfl rfl rfl (pu_CI (pu_I_imp H (fun y19 D20 H => ?_)))
        exact pu_iretI pu_rt108 H
      · replace H := pu_f h17 H
        refine pu_aload_n rfl ?_
        refine pu_iload rfl ?_
        refine pu_cv (vs := [.int y15]) (rest := []) pu_g130 ⟨pu_c0, by decide⟩ rfl rfl rfl rfl rfl (pu_CI (pu_I_imp H (fun y21 D22 H => ?_)))
        exact pu_iretI pu_rt108 H
    · replace H := pu_f h14 H
      refine pu_iconst ?_
      refine pu_goto pu_t108_22 ?_
      refine pu_cv (vs := [.int x1, .int 1, .int 1]) (rest := []) pu_g134 ⟨pu_c0, by decide⟩ rfl rfl rfl rfl rfl (pu_CI (pu_I_imp H (fun y23 D24 H => ?_)))
      refine pu_istore (L' := [.ref 0, .int x1, .int x2, .int x3, .int y23]) (Or.inr rfl) rfl ?_
      refine pu_iload rfl ?_
      refine pu_eq0 pu_t108_39 (fun h25 => ?_) (fun h25 => ?_)
      · replace H := pu_t h25 H
        refine pu_aload_n rfl ?_
        refine pu_aload_n rfl ?_
        refine pu_getR pu_kr7_4 pu_c0 pu_r0_4 ?_
        refine pu_iload_n rfl ?_
        have h26 := H.1
        refine pu_aal h26 ?_
        replace H := H.2
        refine pu_iload_n rfl ?_
        refine pu_iload_n rfl ?_
        refine pu_cv (vs := [.ref (pu_rf 49 x1.toNatClampNeg), .int x2, .int x3]) (rest := []) pu_g137 ⟨pu_c0, by decide⟩ rfl rfl rfl rfl rfl (pu_CI (pu_I_imp H (fun y27 D28 H => ?_)))
        exact pu_iretI pu_rt108 H
      · replace H := pu_f h25 H
        refine pu_aload_n rfl ?_
        refine pu_iload rfl ?_
        refine pu_cv (vs := [.int y23]) (rest := []) pu_g130 ⟨pu_c0, by decide⟩ rfl rfl rfl rfl rfl (pu_CI (pu_I_imp H (fun y29 D30 H => ?_)))
        exact pu_iretI pu_rt108 H
/-- LightAlong.dark(III)I -/
theorem pu_e109 {X : px_X} {x1 : Int32} {x2 : Int32} {x3 : Int32} {D : pu_D} {P : Int32 → pu_D → Prop} 
    (H : pu_I X 140 [.int x2] D (fun y1 D2 => if y1 = 0 then (pu_I X 134 [.ref 0, .int x1, .int 1, .int 0] D2 (fun y4 D5 => if y4 = 0 then ((px_in x1 8 = true) ∧ pu_I X 137 [.ref 0, .ref (pu_rf 49 x1.toNatClampNeg), .int x2, .int x3] D5 (fun y8 D9 => if y8 = 0 then (P (-1) D9) else (pu_I X 24 [.ref 52, .ref 1, .int y8] D9 (fun y11 D12 => P y11 D12)))) else (pu_I X 131 [.ref 0, .int y4] D5 (fun y13 D14 => P y13 D14)))) else (pu_I X 141 [.int x3] D2 (fun y15 D16 => if y15 = 0 then (pu_I X 134 [.ref 0, .int x1, .int 1, .int 0] D16 (fun y18 D19 => if y18 = 0 then ((px_in x1 8 = true) ∧ pu_I X 137 [.ref 0, .ref (pu_rf 49 x1.toNatClampNeg), .int x2, .int x3] D19 (fun y22 D23 => if y22 = 0 then (P (-1) D23) else (pu_I X 24 [.ref 52, .ref 1, .int y22] D23 (fun y25 D26 => P y25 D26)))) else (pu_I X 131 [.ref 0, .int y18] D19 (fun y27 D28 => P y27 D28)))) else (pu_I X 134 [.ref 0, .int x1, .int 1, .int 1] D16 (fun y29 D30 => if y29 = 0 then ((px_in x1 8 = true) ∧ pu_I X 137 [.ref 0, .ref (pu_rf 49 x1.toNatClampNeg), .int x2, .int x3] D30 (fun y33 D34 => if y33 = 0 then (P (-1) D34) else (pu_I X 24 [.ref 52, .ref 1, .int y33] D34 (fun y36 D37 => P y36 D37)))) else (pu_I X 131 [.ref 0, .int y29] D30 (fun y38 D39 => P y38 D39)))))))) :
    pu_I X 109 [.ref 0, .int x1, .int x2, .int x3] D P := by
  refine pu_ent (E := [.ref 0, .int x1, .int x2, .int x3, .null, .null]) pu_n109.1 pu_n109.2 pu_t109_0 rfl ?_
  refine pu_aload_n rfl ?_
  refine pu_iload_n rfl ?_
  refine pu_iconst ?_
  refine pu_iload_n rfl ?_
  refine pu_cs (vs := [.int x2]) (rest := [.int 1, .int x1, .ref 0]) pu_g140 rfl rfl rfl rfl rfl (pu_CI (pu_I_imp H (fun y1 D2 H => ?_)))
  refine pu_eq0 pu_t109_21 (fun h3 => ?_) (fun h3 => ?_)
  · replace H := pu_t h3 H
    refine pu_iconst ?_
    refine pu_cv (vs := [.int x1, .int 1, .int 0]) (rest := []) pu_g134 ⟨pu_c0, by decide⟩ rfl rfl rfl rfl rfl (pu_CI (pu_I_imp H (fun y4 D5 H => ?_)))
    refine pu_istore (L' := [.ref 0, .int x1, .int x2, .int x3, .int y4, .null]) (Or.inr rfl) rfl ?_
    refine pu_iload rfl ?_
    refine pu_eq0 pu_t109_39 (fun h6 => ?_) (fun h6 => ?_)
    · replace H := pu_t h6 H
      refine pu_aload_n rfl ?_
      refine pu_aload_n rfl ?_
      refine pu_getR pu_kr7_4 pu_c0 pu_r0_4 ?_
      refine pu_iload_n rfl ?_
      have h7 := H.1
      refine pu_aal h7 ?_
      replace H := H.2
      refine pu_iload_n rfl ?_
      refine pu_iload_n rfl ?_
      refine pu_cv (vs := [.ref (pu_rf 49 x1.toNatClampNeg), .int x2, .int x3]) (rest := []) pu_g137 ⟨pu_c0, by decide⟩ rfl rfl rfl rfl rfl (pu_CI (pu_I_imp H (fun y8 D9 H => ?_)))
      refine pu_istore (L' := [.ref 0, .int x1, .int x2, .int x3, .int y4, .int y8]) (Or.inr rfl) rfl ?_
      refine pu_iload rfl ?_
      refine pu_ne0 pu_t109_62 (fun h10 => ?_) (fun h10 => ?_)
      · replace H := pu_f h10 H
        refine pu_aload_n rfl ?_
        refine pu_getR pu_kr7_6 pu_c0 pu_r0_6 ?_
        refine pu_aload_n rfl ?_
        refine pu_getR pu_kr7_0 pu_c0 pu_r0_0 ?_
        refine pu_iload rfl ?_
        refine pu_cv (vs := [.ref 1, .int y8]) (rest := []) pu_g24 ⟨pu_c52, by decide⟩ rfl rfl rfl rfl rfl (pu_CI (pu_I_imp H (fun y11 D12 H => ?_)))
        exact pu_iretI pu_rt109 H
      · replace H := pu_t h10 H
        refine pu_iconst ?_
        refine pu_goto pu_t109_75 ?_
        exact pu_iretI pu_rt109 H
    · replace H := pu_f h6 H
      refine pu_aload_n rfl ?_
      refine pu_iload rfl ?_
      refine pu_cv (vs := [.int y4]) (rest := []) pu_g131 ⟨pu_c0, by decide⟩ rfl rfl rfl rfl rfl (pu_CI (pu_I_imp H (fun y13 D14 H => ?_)))
      exact pu_iretI pu_rt109 H
  · replace H := pu_f h3 H
    refine pu_iload_n rfl ?_
    refine pu_cs (vs := [.int x3]) (rest := [.int 1, .int x1, .ref 0]) pu_g141 rfl rfl rfl rfl rfl (pu_CI (pu_I_imp H (fun y15 D16 H => ?_)))
    refine pu_eq0 pu_t109_21 (fun h17 => ?_) (fun h17 => ?_)
    · replace H := pu_t h17 H
      refine pu_iconst ?_
      refine pu_cv (vs := [.int x1, .int 1, .int 0]) (rest := []) pu_g134 ⟨pu_c0, by decide⟩ rfl rfl rfl rfl rfl (pu_CI (pu_I_imp H (fun y18 D19 H => ?_)))
      refine pu_istore (L' := [.ref 0, .int x1, .int x2, .int x3, .int y18, .null]) (Or.inr rfl) rfl ?_
      refine pu_iload rfl ?_
      refine pu_eq0 pu_t109_39 (fun h20 => ?_) (fun h20 => ?_)
      · replace H := pu_t h20 H
        refine pu_aload_n rfl ?_
        refine pu_aload_n rfl ?_
        refine pu_getR pu_kr7_4 pu_c0 pu_r0_4 ?_
        refine pu_iload_n rfl ?_
        have h21 := H.1
        refine pu_aal h21 ?_
        replace H := H.2
        refine pu_iload_n rfl ?_
        refine pu_iload_n rfl ?_
        refine pu_cv (vs := [.ref (pu_rf 49 x1.toNatClampNeg), .int x2, .int x3]) (rest := []) pu_g137 ⟨pu_c0, by decide⟩ rfl rfl rfl rfl rfl (pu_CI (pu_I_imp H (fun y22 D23 H => ?_)))
        refine pu_istore (L' := [.ref 0, .int x1, .int x2, .int x3, .int y18, .int y22]) (Or.inr rfl) rfl ?_
        refine pu_iload rfl ?_
        refine pu_ne0 pu_t109_62 (fun h24 => ?_) (fun h24 => ?_)
        · replace H := pu_f h24 H
          refine pu_aload_n rfl ?_
          refine pu_getR pu_kr7_6 pu_c0 pu_r0_6 ?_
          refine pu_aload_n rfl ?_
          refine pu_getR pu_kr7_0 pu_c0 pu_r0_0 ?_
          refine pu_iload rfl ?_
          refine pu_cv (vs := [.ref 1, .int y22]) (rest := []) pu_g24 ⟨pu_c52, by decide⟩ rfl rfl rfl rfl rfl (pu_CI (pu_I_imp H (fun y25 D26 H => ?_)))
          exact pu_iretI pu_rt109 H
        · replace H := pu_t h24 H
          refine pu_iconst ?_
          refine pu_goto pu_t109_75 ?_
          exact pu_iretI pu_rt109 H
      · replace H := pu_f h20 H
        refine pu_aload_n rfl ?_
        refine pu_iload rfl ?_
        refine pu_cv (vs := [.int y18]) (rest := []) pu_g131 ⟨pu_c0, by decide⟩ rfl rfl rfl rfl rfl (pu_CI (pu_I_imp H (fun y27 D28 H => ?_)))
        exact pu_iretI pu_rt109 H
    · replace H := pu_f h17 H
      refine pu_iconst ?_
      refine pu_goto pu_t109_22 ?_
      refine pu_cv (vs := [.int x1, .int 1, .int 1]) (rest := []) pu_g134 ⟨pu_c0, by decide⟩ rfl rfl rfl rfl rfl (pu_CI (pu_I_imp H (fun y29 D30 H => ?_)))
      refine pu_istore (L' := [.ref 0, .int x1, .int x2, .int x3, .int y29, .null]) (Or.inr rfl) rfl ?_
      refine pu_iload rfl ?_
      refine pu_eq0 pu_t109_39 (fun h31 => ?_) (fun h31 => ?_)
      · replace H := pu_t h31 H
        refine pu_aload_n rfl ?_
        refine pu_aload_n rfl ?_
        refine pu_getR pu_kr7_4 pu_c0 pu_r0_4 ?_
        refine pu_iload_n rfl ?_
        have h32 := H.1
        refine pu_aal h32 ?_
        replace H := H.2
        refine pu_iload_n rfl ?_
        refine pu_iload_n rfl ?_
        refine pu_cv (vs := [.ref (pu_rf 49 x1.toNatClampNeg), .int x2, .int x3]) (rest := []) pu_g137 ⟨pu_c0, by decide⟩ rfl rfl rfl rfl rfl (pu_CI (pu_I_imp H (fun y33 D34 H => ?_)))
        refine pu_istore (L' := [.ref 0, .int x1, .int x2, .int x3, .int y29, .int y33]) (Or.inr rfl) rfl ?_
        refine pu_iload rfl ?_
        refine pu_ne0 pu_t109_62 (fun h35 => ?_) (fun h35 => ?_)
        · replace H := pu_f h35 H
          refine pu_aload_n rfl ?_
          refine pu_getR pu_kr7_6 pu_c0 pu_r0_6 ?_
          refine pu_aload_n rfl ?_
          refine pu_getR pu_kr7_0 pu_c0 pu_r0_0 ?_
          refine pu_iload rfl ?_
          refine pu_cv (vs := [.ref 1, .int y33]) (rest := []) pu_g24 ⟨pu_c52, by decide⟩ rfl rfl rfl rfl rfl (pu_CI (pu_I_imp H (fun y36 D37 H => ?_)))
          exact pu_iretI pu_rt109 H
        · replace H := pu_t h35 H
          refine pu_iconst ?_
          refine pu_goto pu_t109_75 ?_
          exact pu_iretI pu_rt109 H
      · replace H := pu_f h31 H
        refine pu_aload_n rfl ?_
        refine pu_iload rfl ?_
        refine pu_cv (vs := [.int y29]) (rest := []) pu_g131 ⟨pu_c0, by decide⟩ rfl rfl rfl rfl rfl (pu_CI (pu_I_imp H (fun y38 D39 H => ?_)))
        exact pu_iretI pu_rt109 H
/-- LightAlong.coin(II)I -/
theorem pu_e110 {X : px_X} {x1 : Int32} {x2 : Int32} {D : pu_D} {P : Int32 → pu_D → Prop} 
    (H : pu_I X 81 [.ref 3, .int x2] D (fun y1 D2 => if y1 = 0 then (pu_I X 130 [.ref 0, .int (-1)] D2 (fun y4 D5 => P y4 D5)) else (pu_I X 51 [.ref 1, .int x1] D2 (fun y6 D7 => if y6 = 0 then (pu_I X 130 [.ref 0, .int (-1)] D7 (fun y11 D12 => P y11 D12)) else (pu_I X 69 [.ref 1, .int x1, .int x2] D7 (fun y9 D10 => P y9 D10)))))) :
    pu_I X 110 [.ref 0, .int x1, .int x2] D P := by
  refine pu_ent (E := [.ref 0, .int x1, .int x2]) pu_n110.1 pu_n110.2 pu_t110_0 rfl ?_
  refine pu_aload_n rfl ?_
  refine pu_getR pu_kr7_0 pu_c0 pu_r0_0 ?_
  refine pu_getR pu_kr4_1 pu_c1 pu_r1_1 ?_
  refine pu_iload_n rfl ?_
  refine pu_cv (vs := [.int x2]) (rest := []) pu_g81 ⟨pu_c3, by decide⟩ rfl rfl rfl rfl rfl (pu_CI (pu_I_imp H (fun y1 D2 H => ?_)))
  refine pu_eq0 pu_t110_25 (fun h3 => ?_) (fun h3 => ?_)
  · replace H := pu_t h3 H
    refine pu_aload_n rfl ?_
    refine pu_iconst ?_
    refine pu_cv (vs := [.int (-1)]) (rest := []) pu_g130 ⟨pu_c0, by decide⟩ rfl rfl rfl rfl rfl (pu_CI (pu_I_imp H (fun y4 D5 H => ?_)))
    exact pu_iretI pu_rt110 H
  · replace H := pu_f h3 H
    refine pu_aload_n rfl ?_
    refine pu_getR pu_kr7_0 pu_c0 pu_r0_0 ?_
    refine pu_iload_n rfl ?_
    refine pu_cv (vs := [.int x1]) (rest := []) pu_g51 ⟨pu_c1, by decide⟩ rfl rfl rfl rfl rfl (pu_CI (pu_I_imp H (fun y6 D7 H => ?_)))
    refine pu_ne0 pu_t110_31 (fun h8 => ?_) (fun h8 => ?_)
    · replace H := pu_f h8 H
      refine pu_aload_n rfl ?_
      refine pu_getR pu_kr7_0 pu_c0 pu_r0_0 ?_
      refine pu_iload_n rfl ?_
      refine pu_iload_n rfl ?_
      refine pu_cv (vs := [.int x1, .int x2]) (rest := []) pu_g69 ⟨pu_c1, by decide⟩ rfl rfl rfl rfl rfl (pu_CI (pu_I_imp H (fun y9 D10 H => ?_)))
      exact pu_iretI pu_rt110 H
    · replace H := pu_t h8 H
      refine pu_aload_n rfl ?_
      refine pu_iconst ?_
      refine pu_cv (vs := [.int (-1)]) (rest := []) pu_g130 ⟨pu_c0, by decide⟩ rfl rfl rfl rfl rfl (pu_CI (pu_I_imp H (fun y11 D12 H => ?_)))
      exact pu_iretI pu_rt110 H
/-- LightAlong.cheapest(II)I -/
theorem pu_e111 {X : px_X} {x1 : Int32} {x2 : Int32} {D : pu_D} {P : Int32 → pu_D → Prop} 
    (H : pu_I X 135 [.ref 0, .int x1, .int x2, .int 0] D (fun y1 D2 => P y1 D2)) :
    pu_I X 111 [.ref 0, .int x1, .int x2] D P := by
  refine pu_ent (E := [.ref 0, .int x1, .int x2]) pu_n111.1 pu_n111.2 pu_t111_0 rfl ?_
  refine pu_aload_n rfl ?_
  refine pu_iload_n rfl ?_
  refine pu_iload_n rfl ?_
  refine pu_iconst ?_
  refine pu_cv (vs := [.int x1, .int x2, .int 0]) (rest := []) pu_g135 ⟨pu_c0, by decide⟩ rfl rfl rfl rfl rfl (pu_CI (pu_I_imp H (fun y1 D2 H => ?_)))
  exact pu_iretI pu_rt111 H
/-- LightAlong.fewest(II)I -/
theorem pu_e112 {X : px_X} {x1 : Int32} {x2 : Int32} {D : pu_D} {P : Int32 → pu_D → Prop} 
    (H : pu_I X 135 [.ref 0, .int x1, .int x2, .int 1] D (fun y1 D2 => P y1 D2)) :
    pu_I X 112 [.ref 0, .int x1, .int x2] D P := by
  refine pu_ent (E := [.ref 0, .int x1, .int x2]) pu_n112.1 pu_n112.2 pu_t112_0 rfl ?_
  refine pu_aload_n rfl ?_
  refine pu_iload_n rfl ?_
  refine pu_iload_n rfl ?_
  refine pu_iconst ?_
  refine pu_cv (vs := [.int x1, .int x2, .int 1]) (rest := []) pu_g135 ⟨pu_c0, by decide⟩ rfl rfl rfl rfl rfl (pu_CI (pu_I_imp H (fun y1 D2 H => ?_)))
  exact pu_iretI pu_rt112 H
/-- LightAlong.firm(II)I -/
theorem pu_e113 {X : px_X} {x1 : Int32} {x2 : Int32} {D : pu_D} {P : Int32 → pu_D → Prop} 
    (H : pu_I X 135 [.ref 0, .int x1, .int x2, .int 2] D (fun y1 D2 => P y1 D2)) :
    pu_I X 113 [.ref 0, .int x1, .int x2] D P := by
  refine pu_ent (E := [.ref 0, .int x1, .int x2]) pu_n113.1 pu_n113.2 pu_t113_0 rfl ?_
  refine pu_aload_n rfl ?_
  refine pu_iload_n rfl ?_
  refine pu_iload_n rfl ?_
  refine pu_iconst ?_
  refine pu_cv (vs := [.int x1, .int x2, .int 2]) (rest := []) pu_g135 ⟨pu_c0, by decide⟩ rfl rfl rfl rfl rfl (pu_CI (pu_I_imp H (fun y1 D2 H => ?_)))
  exact pu_iretI pu_rt113 H
/-- LightAlong.bound(II)I -/
theorem pu_e114 {X : px_X} {x1 : Int32} {x2 : Int32} {D : pu_D} {P : Int32 → pu_D → Prop} 
    (H : pu_I X 81 [.ref 3, .int x1] D (fun y1 D2 => if y1 = 0 then (pu_I X 131 [.ref 0, .int (-1)] D2 (fun y13 D14 => P y13 D14)) else (pu_I X 140 [.int x2] D2 (fun y4 D5 => if y4 = 0 then (pu_I X 131 [.ref 0, .int (-6)] D5 (fun y11 D12 => P y11 D12)) else (pu_V X 9 [.ref 56, .ref 1, .int x1, .int x2] D5 (fun D8 => pu_I X 16 [.ref 56] D8 (fun y9 D10 => P y9 D10))))))) :
    pu_I X 114 [.ref 0, .int x1, .int x2] D P := by
  refine pu_ent (E := [.ref 0, .int x1, .int x2]) pu_n114.1 pu_n114.2 pu_t114_0 rfl ?_
  refine pu_aload_n rfl ?_
  refine pu_getR pu_kr7_0 pu_c0 pu_r0_0 ?_
  refine pu_getR pu_kr4_1 pu_c1 pu_r1_1 ?_
  refine pu_iload_n rfl ?_
  refine pu_cv (vs := [.int x1]) (rest := []) pu_g81 ⟨pu_c3, by decide⟩ rfl rfl rfl rfl rfl (pu_CI (pu_I_imp H (fun y1 D2 H => ?_)))
  refine pu_ne0 pu_t114_20 (fun h3 => ?_) (fun h3 => ?_)
  · replace H := pu_f h3 H
    refine pu_iload_n rfl ?_
    refine pu_cs (vs := [.int x2]) (rest := []) pu_g140 rfl rfl rfl rfl rfl (pu_CI (pu_I_imp H (fun y4 D5 H => ?_)))
    refine pu_ne0 pu_t114_34 (fun h6 => ?_) (fun h6 => ?_)
    · replace H := pu_f h6 H
      refine pu_aload_n rfl ?_
      refine pu_getR pu_kr7_7 pu_c0 pu_r0_7 ?_
      refine pu_aload_n rfl ?_
      refine pu_getR pu_kr7_0 pu_c0 pu_r0_0 ?_
      refine pu_iload_n rfl ?_
      refine pu_iload_n rfl ?_
      refine pu_cv (vs := [.ref 1, .int x1, .int x2]) (rest := []) pu_g9 ⟨pu_c56, by decide⟩ rfl rfl rfl rfl rfl (pu_CV (pu_V_imp H (fun D8 H => ?_)))
      refine pu_aload_n rfl ?_
      refine pu_getR pu_kr7_7 pu_c0 pu_r0_7 ?_
      refine pu_cv (vs := []) (rest := []) pu_g16 ⟨pu_c56, by decide⟩ rfl rfl rfl rfl rfl (pu_CI (pu_I_imp H (fun y9 D10 H => ?_)))
      exact pu_iretI pu_rt114 H
    · replace H := pu_t h6 H
      refine pu_aload_n rfl ?_
      refine pu_bipush ?_
      refine pu_cv (vs := [.int (-6)]) (rest := []) pu_g131 ⟨pu_c0, by decide⟩ rfl rfl rfl rfl rfl (pu_CI (pu_I_imp H (fun y11 D12 H => ?_)))
      exact pu_iretI pu_rt114 H
  · replace H := pu_t h3 H
    refine pu_aload_n rfl ?_
    refine pu_iconst ?_
    refine pu_cv (vs := [.int (-1)]) (rest := []) pu_g131 ⟨pu_c0, by decide⟩ rfl rfl rfl rfl rfl (pu_CI (pu_I_imp H (fun y13 D14 H => ?_)))
    exact pu_iretI pu_rt114 H
/-- LightAlong.which(I)I -/
def pu_h115_21 (X : px_X) (x1 : Int32) (x2 : Int32) (x3 : Int32) (x4 : Int32) (D : pu_D) (P : Int32 → pu_D → Prop) : Prop := ∀ z5 : Value, z5.category = 1 → ∀ z6 : Value, z6.category = 1 → pu_W X 115 (0, 0) px_c115_21 [.ref 0, .int x1, .int x2, .int x3, .int x4, z5, z6] [] D (pu_qi P)
theorem pu_u115_21 {X : px_X} {x1 : Int32} {x2 : Int32} {x3 : Int32} {x4 : Int32} {D : pu_D} {P : Int32 → pu_D → Prop} 
    (H : if x4 < (D.1 3 2) then (pu_V X 9 [.ref 56, .ref 1, .int x4, .int x1] D (fun D11 => pu_I X 10 [.ref 56, .ref 1, .int 0] D11 (fun y12 D13 => if y12 = (-1) then (pu_h115_21 X x1 x2 x3 (x4 + 1) D13 P) else (pu_I X 69 [.ref 1, .int y12, .int x4] D13 (fun y15 D16 => if x2 = (-1) then (pu_h115_21 X x1 x4 y15 (x4 + 1) D16 P) else (if y15 < x3 then (pu_h115_21 X x1 x4 y15 (x4 + 1) D16 P) else (pu_h115_21 X x1 x2 x3 (x4 + 1) D16 P))))))) else (if x2 = (-1) then (pu_I X 130 [.ref 0, .int (-5)] D (fun y8 D9 => P y8 D9)) else (P x2 D))) :
    pu_h115_21 X x1 x2 x3 x4 D P := by
  intro z5 hz5 z6 hz6
  refine pu_iload rfl ?_
  refine pu_aload_n rfl ?_
  refine pu_getR pu_kr7_0 pu_c0 pu_r0_0 ?_
  refine pu_getR pu_kr4_1 pu_c1 pu_r1_1 ?_
  refine pu_getI pu_k6_2 pu_c3 ?_
  refine pu_ge_ pu_t115_109 (fun h6 => ?_) (fun h6 => ?_)
  · replace H := pu_f h6 H
    refine pu_iload_n rfl ?_
    refine pu_iconst ?_
    refine pu_ne_ pu_t115_123 (fun h7 => ?_) (fun h7 => ?_)
    · replace H := pu_f h7 H
      refine pu_iload_n rfl ?_
      exact pu_iretI pu_rt115 H
    · replace H := pu_t h7 H
      refine pu_aload_n rfl ?_
      refine pu_bipush ?_
      refine pu_cv (vs := [.int (-5)]) (rest := []) pu_g130 ⟨pu_c0, by decide⟩ rfl rfl rfl rfl rfl (pu_CI (pu_I_imp H (fun y8 D9 H => ?_)))
      refine pu_goto pu_t115_124 ?_
      exact pu_iretI pu_rt115 H
  · replace H := pu_t h6 H
    refine pu_aload_n rfl ?_
    refine pu_getR pu_kr7_7 pu_c0 pu_r0_7 ?_
    refine pu_aload_n rfl ?_
    refine pu_getR pu_kr7_0 pu_c0 pu_r0_0 ?_
    refine pu_iload rfl ?_
    refine pu_iload_n rfl ?_
    refine pu_cv (vs := [.ref 1, .int x4, .int x1]) (rest := []) pu_g9 ⟨pu_c56, by decide⟩ rfl rfl rfl rfl rfl (pu_CV (pu_V_imp H (fun D11 H => ?_)))
    refine pu_aload_n rfl ?_
    refine pu_getR pu_kr7_7 pu_c0 pu_r0_7 ?_
    refine pu_aload_n rfl ?_
    refine pu_getR pu_kr7_0 pu_c0 pu_r0_0 ?_
    refine pu_iconst ?_
    refine pu_cv (vs := [.ref 1, .int 0]) (rest := []) pu_g10 ⟨pu_c56, by decide⟩ rfl rfl rfl rfl rfl (pu_CI (pu_I_imp H (fun y12 D13 H => ?_)))
    refine pu_istore (L' := [.ref 0, .int x1, .int x2, .int x3, .int x4, .int y12, z6]) (Or.inr rfl) rfl ?_
    refine pu_iload rfl ?_
    refine pu_iconst ?_
    refine pu_ne_ pu_t115_73 (fun h14 => ?_) (fun h14 => ?_)
    · replace H := pu_f h14 H
      refine pu_aload_n rfl ?_
      refine pu_getR pu_kr7_0 pu_c0 pu_r0_0 ?_
      refine pu_iload rfl ?_
      refine pu_iload rfl ?_
      refine pu_cv (vs := [.int y12, .int x4]) (rest := []) pu_g69 ⟨pu_c1, by decide⟩ rfl rfl rfl rfl rfl (pu_CI (pu_I_imp H (fun y15 D16 H => ?_)))
      refine pu_istore (L' := [.ref 0, .int x1, .int x2, .int x3, .int x4, .int y12, .int y15]) (Or.inr rfl) rfl ?_
      refine pu_iload_n rfl ?_
      refine pu_iconst ?_
      refine pu_eq_ pu_t115_97 (fun h17 => ?_) (fun h17 => ?_)
      · replace H := pu_t h17 H
        refine pu_iload rfl ?_
        refine pu_istore_n (L' := [.ref 0, .int x1, .int x4, .int x3, .int x4, .int y12, .int y15]) (Or.inr rfl) rfl ?_
        refine pu_iload rfl ?_
        refine pu_istore_n (L' := [.ref 0, .int x1, .int x4, .int y15, .int x4, .int y12, .int y15]) (Or.inr rfl) rfl ?_
        refine pu_iinc (L' := [.ref 0, .int x1, .int x4, .int y15, .int (x4 + 1), .int y12, .int y15]) rfl (Or.inr rfl) rfl ?_
        refine pu_goto pu_t115_21 ?_
        exact H _ rfl _ rfl
      · replace H := pu_f h17 H
        refine pu_iload rfl ?_
        refine pu_iload_n rfl ?_
        refine pu_ge_ pu_t115_103 (fun h18 => ?_) (fun h18 => ?_)
        · replace H := pu_f h18 H
          refine pu_iinc (L' := [.ref 0, .int x1, .int x2, .int x3, .int (x4 + 1), .int y12, .int y15]) rfl (Or.inr rfl) rfl ?_
          refine pu_goto pu_t115_21 ?_
          exact H _ rfl _ rfl
        · replace H := pu_t h18 H
          refine pu_iload rfl ?_
          refine pu_istore_n (L' := [.ref 0, .int x1, .int x4, .int x3, .int x4, .int y12, .int y15]) (Or.inr rfl) rfl ?_
          refine pu_iload rfl ?_
          refine pu_istore_n (L' := [.ref 0, .int x1, .int x4, .int y15, .int x4, .int y12, .int y15]) (Or.inr rfl) rfl ?_
          refine pu_iinc (L' := [.ref 0, .int x1, .int x4, .int y15, .int (x4 + 1), .int y12, .int y15]) rfl (Or.inr rfl) rfl ?_
          refine pu_goto pu_t115_21 ?_
          exact H _ rfl _ rfl
    · replace H := pu_t h14 H
      refine pu_goto pu_t115_103 ?_
      refine pu_iinc (L' := [.ref 0, .int x1, .int x2, .int x3, .int (x4 + 1), .int y12, z6]) rfl (Or.inr rfl) rfl ?_
      refine pu_goto pu_t115_21 ?_
      exact H _ rfl _ hz6
theorem pu_e115 {X : px_X} {x1 : Int32} {D : pu_D} {P : Int32 → pu_D → Prop} 
    (H : pu_I X 140 [.int x1] D (fun y1 D2 => if y1 = 0 then (pu_I X 130 [.ref 0, .int (-6)] D2 (fun y4 D5 => P y4 D5)) else (pu_h115_21 X x1 (-1) 0 0 D2 P))) :
    pu_I X 115 [.ref 0, .int x1] D P := by
  refine pu_ent (E := [.ref 0, .int x1, .null, .null, .null, .null, .null]) pu_n115.1 pu_n115.2 pu_t115_0 rfl ?_
  refine pu_iload_n rfl ?_
  refine pu_cs (vs := [.int x1]) (rest := []) pu_g140 rfl rfl rfl rfl rfl (pu_CI (pu_I_imp H (fun y1 D2 H => ?_)))
  refine pu_ne0 pu_t115_14 (fun h3 => ?_) (fun h3 => ?_)
  · replace H := pu_f h3 H
    refine pu_iconst ?_
    refine pu_istore_n (L' := [.ref 0, .int x1, .int (-1), .null, .null, .null, .null]) (Or.inr rfl) rfl ?_
    refine pu_iconst ?_
    refine pu_istore_n (L' := [.ref 0, .int x1, .int (-1), .int 0, .null, .null, .null]) (Or.inr rfl) rfl ?_
    refine pu_iconst ?_
    refine pu_istore (L' := [.ref 0, .int x1, .int (-1), .int 0, .int 0, .null, .null]) (Or.inr rfl) rfl ?_
    exact H _ rfl _ rfl
  · replace H := pu_t h3 H
    refine pu_aload_n rfl ?_
    refine pu_bipush ?_
    refine pu_cv (vs := [.int (-6)]) (rest := []) pu_g130 ⟨pu_c0, by decide⟩ rfl rfl rfl rfl rfl (pu_CI (pu_I_imp H (fun y4 D5 H => ?_)))
    exact pu_iretI pu_rt115 H
/-- LightAlong.reach(I)I -/
def pu_h116_24 (X : px_X) (x1 : Int32) (x2 : Int32) (x3 : Int32) (D : pu_D) (P : Int32 → pu_D → Prop) : Prop := pu_W X 116 (0, 0) px_c116_24 [.ref 0, .int x1, .int x2, .int x3] [] D (pu_qi P)
theorem pu_u116_24 {X : px_X} {x1 : Int32} {x2 : Int32} {x3 : Int32} {D : pu_D} {P : Int32 → pu_D → Prop} 
    (H : if x3 < 60 then (pu_I X 60 [.ref 1, .int x1, .int (x3 * x3)] D (fun y7 D8 => if y7 < (D8.1 2 (Int32.toNatClampNeg 0)) then (pu_h116_24 X x1 x2 (x3 + 1) D8 P) else (pu_h116_24 X x1 x3 (x3 + 1) D8 P))) else (P x2 D)) :
    pu_h116_24 X x1 x2 x3 D P := by
  refine pu_iload_n rfl ?_
  refine pu_bipush ?_
  refine pu_ge_ pu_t116_61 (fun h6 => ?_) (fun h6 => ?_)
  · replace H := pu_f h6 H
    refine pu_iload_n rfl ?_
    exact pu_iretI pu_rt116 H
  · replace H := pu_t h6 H
    refine pu_aload_n rfl ?_
    refine pu_getR pu_kr7_0 pu_c0 pu_r0_0 ?_
    refine pu_iload_n rfl ?_
    refine pu_iload_n rfl ?_
    refine pu_iload_n rfl ?_
    refine pu_imul ?_
    refine pu_cv (vs := [.int x1, .int (x3 * x3)]) (rest := []) pu_g60 ⟨pu_c1, by decide⟩ rfl rfl rfl rfl rfl (pu_CI (pu_I_imp H (fun y7 D8 H => ?_)))
    refine pu_aload_n rfl ?_
    refine pu_getR pu_kr7_0 pu_c0 pu_r0_0 ?_
    refine pu_getR pu_kr4_0 pu_c1 pu_r1_0 ?_
    refine pu_iconst ?_
    refine pu_ial pu_c2 pu_ln2 (by decide) ?_
    refine pu_lt_ pu_t116_55 (fun h9 => ?_) (fun h9 => ?_)
    · replace H := pu_t h9 H
      refine pu_iinc (L' := [.ref 0, .int x1, .int x2, .int (x3 + 1)]) rfl (Or.inr rfl) rfl ?_
      refine pu_goto pu_t116_24 ?_
      exact H 
    · replace H := pu_f h9 H
      refine pu_iload_n rfl ?_
      refine pu_istore_n (L' := [.ref 0, .int x1, .int x3, .int x3]) (Or.inr rfl) rfl ?_
      refine pu_iinc (L' := [.ref 0, .int x1, .int x3, .int (x3 + 1)]) rfl (Or.inr rfl) rfl ?_
      refine pu_goto pu_t116_24 ?_
      exact H 
theorem pu_e116 {X : px_X} {x1 : Int32} {D : pu_D} {P : Int32 → pu_D → Prop} 
    (H : pu_I X 81 [.ref 3, .int x1] D (fun y1 D2 => if y1 = 0 then (pu_I X 131 [.ref 0, .int (-1)] D2 (fun y4 D5 => P y4 D5)) else (pu_h116_24 X x1 (-1) 0 D2 P))) :
    pu_I X 116 [.ref 0, .int x1] D P := by
  refine pu_ent (E := [.ref 0, .int x1, .null, .null]) pu_n116.1 pu_n116.2 pu_t116_0 rfl ?_
  refine pu_aload_n rfl ?_
  refine pu_getR pu_kr7_0 pu_c0 pu_r0_0 ?_
  refine pu_getR pu_kr4_1 pu_c1 pu_r1_1 ?_
  refine pu_iload_n rfl ?_
  refine pu_cv (vs := [.int x1]) (rest := []) pu_g81 ⟨pu_c3, by decide⟩ rfl rfl rfl rfl rfl (pu_CI (pu_I_imp H (fun y1 D2 H => ?_)))
  refine pu_ne0 pu_t116_20 (fun h3 => ?_) (fun h3 => ?_)
  · replace H := pu_f h3 H
    refine pu_iconst ?_
    refine pu_istore_n (L' := [.ref 0, .int x1, .int (-1), .null]) (Or.inr rfl) rfl ?_
    refine pu_iconst ?_
    refine pu_istore_n (L' := [.ref 0, .int x1, .int (-1), .int 0]) (Or.inr rfl) rfl ?_
    exact H 
  · replace H := pu_t h3 H
    refine pu_aload_n rfl ?_
    refine pu_iconst ?_
    refine pu_cv (vs := [.int (-1)]) (rest := []) pu_g131 ⟨pu_c0, by decide⟩ rfl rfl rfl rfl rfl (pu_CI (pu_I_imp H (fun y4 D5 H => ?_)))
    exact pu_iretI pu_rt116 H
/-- LightAlong.worst()I -/
def pu_h117_6 (X : px_X) (x1 : Int32) (x2 : Int32) (x3 : Int32) (D : pu_D) (P : Int32 → pu_D → Prop) : Prop := ∀ z4 : Value, z4.category = 1 → pu_W X 117 (0, 0) px_c117_6 [.ref 0, .int x1, .int x2, .int x3, z4] [] D (pu_qi P)
theorem pu_u117_6 {X : px_X} {x1 : Int32} {x2 : Int32} {x3 : Int32} {D : pu_D} {P : Int32 → pu_D → Prop} 
    (H : if x3 < 6 then (pu_I X 56 [.ref 1] D (fun y2 D3 => pu_V X 21 [.ref 52, .ref 1, .int y2, .int 0, .int x3] D3 (fun D5 => pu_V X 22 [.ref 52, .ref 1, .int 0] D5 (fun D7 => pu_I X 25 [.ref 52] D7 (fun y8 D9 => if x3 = 0 then (pu_h117_6 X x3 y8 (x3 + 1) D9 P) else (if y8 < x2 then (pu_h117_6 X x3 y8 (x3 + 1) D9 P) else (pu_h117_6 X x1 x2 (x3 + 1) D9 P))))))) else (P x1 D)) :
    pu_h117_6 X x1 x2 x3 D P := by
  intro z4 hz4
  refine pu_iload_n rfl ?_
  refine pu_bipush ?_
  refine pu_ge_ pu_t117_74 (fun h1 => ?_) (fun h1 => ?_)
  · replace H := pu_f h1 H
    refine pu_iload_n rfl ?_
    exact pu_iretI pu_rt117 H
  · replace H := pu_t h1 H
    refine pu_aload_n rfl ?_
    refine pu_getR pu_kr7_6 pu_c0 pu_r0_6 ?_
    refine pu_aload_n rfl ?_
    refine pu_getR pu_kr7_0 pu_c0 pu_r0_0 ?_
    refine pu_aload_n rfl ?_
    refine pu_getR pu_kr7_0 pu_c0 pu_r0_0 ?_
    refine pu_cv (vs := []) (rest := [.ref 1, .ref 52]) pu_g56 ⟨pu_c1, by decide⟩ rfl rfl rfl rfl rfl (pu_CI (pu_I_imp H (fun y2 D3 H => ?_)))
    refine pu_iconst ?_
    refine pu_iload_n rfl ?_
    refine pu_cv (vs := [.ref 1, .int y2, .int 0, .int x3]) (rest := []) pu_g21 ⟨pu_c52, by decide⟩ rfl rfl rfl rfl rfl (pu_CV (pu_V_imp H (fun D5 H => ?_)))
    refine pu_aload_n rfl ?_
    refine pu_getR pu_kr7_6 pu_c0 pu_r0_6 ?_
    refine pu_aload_n rfl ?_
    refine pu_getR pu_kr7_0 pu_c0 pu_r0_0 ?_
    refine pu_iconst ?_
    refine pu_cv (vs := [.ref 1, .int 0]) (rest := []) pu_g22 ⟨pu_c52, by decide⟩ rfl rfl rfl rfl rfl (pu_CV (pu_V_imp H (fun D7 H => ?_)))
    refine pu_aload_n rfl ?_
    refine pu_getR pu_kr7_6 pu_c0 pu_r0_6 ?_
    refine pu_cv (vs := []) (rest := []) pu_g25 ⟨pu_c52, by decide⟩ rfl rfl rfl rfl rfl (pu_CI (pu_I_imp H (fun y8 D9 H => ?_)))
    refine pu_istore (L' := [.ref 0, .int x1, .int x2, .int x3, .int y8]) (Or.inr rfl) rfl ?_
    refine pu_iload_n rfl ?_
    refine pu_eq0 pu_t117_63 (fun h10 => ?_) (fun h10 => ?_)
    · replace H := pu_t h10 H
      refine pu_iload_n rfl ?_
      refine pu_istore_n (L' := [.ref 0, .int x3, .int x2, .int x3, .int y8]) (Or.inr rfl) rfl ?_
      refine pu_iload rfl ?_
      refine pu_istore_n (L' := [.ref 0, .int x3, .int y8, .int x3, .int y8]) (Or.inr rfl) rfl ?_
      refine pu_iinc (L' := [.ref 0, .int x3, .int y8, .int (x3 + 1), .int y8]) rfl (Or.inr rfl) rfl ?_
      refine pu_goto pu_t117_6 ?_
      exact H _ rfl
    · replace H := pu_f h10 H
      refine pu_iload rfl ?_
      refine pu_iload_n rfl ?_
      refine pu_ge_ pu_t117_68 (fun h11 => ?_) (fun h11 => ?_)
      · replace H := pu_f h11 H
        refine pu_iinc (L' := [.ref 0, .int x1, .int x2, .int (x3 + 1), .int y8]) rfl (Or.inr rfl) rfl ?_
        refine pu_goto pu_t117_6 ?_
        exact H _ rfl
      · replace H := pu_t h11 H
        refine pu_iload_n rfl ?_
        refine pu_istore_n (L' := [.ref 0, .int x3, .int x2, .int x3, .int y8]) (Or.inr rfl) rfl ?_
        refine pu_iload rfl ?_
        refine pu_istore_n (L' := [.ref 0, .int x3, .int y8, .int x3, .int y8]) (Or.inr rfl) rfl ?_
        refine pu_iinc (L' := [.ref 0, .int x3, .int y8, .int (x3 + 1), .int y8]) rfl (Or.inr rfl) rfl ?_
        refine pu_goto pu_t117_6 ?_
        exact H _ rfl
theorem pu_e117 {X : px_X}  {D : pu_D} {P : Int32 → pu_D → Prop} 
    (H : pu_h117_6 X 0 0 0 D P) :
    pu_I X 117 [.ref 0] D P := by
  refine pu_ent (E := [.ref 0, .null, .null, .null, .null]) pu_n117.1 pu_n117.2 pu_t117_0 rfl ?_
  refine pu_iconst ?_
  refine pu_istore_n (L' := [.ref 0, .int 0, .null, .null, .null]) (Or.inr rfl) rfl ?_
  refine pu_iconst ?_
  refine pu_istore_n (L' := [.ref 0, .int 0, .int 0, .null, .null]) (Or.inr rfl) rfl ?_
  refine pu_iconst ?_
  refine pu_istore_n (L' := [.ref 0, .int 0, .int 0, .int 0, .null]) (Or.inr rfl) rfl ?_
  exact H _ rfl
/-- LightAlong.shade(III)I -/
theorem pu_e118 {X : px_X} {x1 : Int32} {x2 : Int32} {x3 : Int32} {D : pu_D} {P : Int32 → pu_D → Prop} 
    (H : pu_I X 139 [.int x2] D (fun y1 D2 => pu_I X 140 [.int x3] D2 (fun y3 D4 => pu_I X 134 [.ref 0, .int x1, .int y1, .int y3] D4 (fun y5 D6 => if y5 = 0 then ((px_in x1 8 = true) ∧ pu_I X 57 [.ref 1, .ref (pu_rf 49 x1.toNatClampNeg)] D6 (fun y9 D10 => pu_I X 44 [.ref (pu_rf 49 x1.toNatClampNeg), .int 0] D10 (fun y11 D12 => pu_I X 66 [.ref 1, .int y9, .int y11, .int x2, .int x3] D12 (fun y13 D14 => P y13 D14)))) else (pu_I X 131 [.ref 0, .int y5] D6 (fun y15 D16 => P y15 D16)))))) :
    pu_I X 118 [.ref 0, .int x1, .int x2, .int x3] D P := by
  refine pu_ent (E := [.ref 0, .int x1, .int x2, .int x3, .null, .null]) pu_n118.1 pu_n118.2 pu_t118_0 rfl ?_
  refine pu_aload_n rfl ?_
  refine pu_iload_n rfl ?_
  refine pu_iload_n rfl ?_
  refine pu_cs (vs := [.int x2]) (rest := [.int x1, .ref 0]) pu_g139 rfl rfl rfl rfl rfl (pu_CI (pu_I_imp H (fun y1 D2 H => ?_)))
  refine pu_iload_n rfl ?_
  refine pu_cs (vs := [.int x3]) (rest := [.int y1, .int x1, .ref 0]) pu_g140 rfl rfl rfl rfl rfl (pu_CI (pu_I_imp H (fun y3 D4 H => ?_)))
  refine pu_cv (vs := [.int x1, .int y1, .int y3]) (rest := []) pu_g134 ⟨pu_c0, by decide⟩ rfl rfl rfl rfl rfl (pu_CI (pu_I_imp H (fun y5 D6 H => ?_)))
  refine pu_istore (L' := [.ref 0, .int x1, .int x2, .int x3, .int y5, .null]) (Or.inr rfl) rfl ?_
  refine pu_iload rfl ?_
  refine pu_eq0 pu_t118_27 (fun h7 => ?_) (fun h7 => ?_)
  · replace H := pu_t h7 H
    refine pu_aload_n rfl ?_
    refine pu_getR pu_kr7_4 pu_c0 pu_r0_4 ?_
    refine pu_iload_n rfl ?_
    have h8 := H.1
    refine pu_aal h8 ?_
    replace H := H.2
    refine pu_astore (L' := [.ref 0, .int x1, .int x2, .int x3, .int y5, .ref (pu_rf 49 x1.toNatClampNeg)]) (Or.inr rfl) rfl ?_
    refine pu_aload_n rfl ?_
    refine pu_getR pu_kr7_0 pu_c0 pu_r0_0 ?_
    refine pu_aload_n rfl ?_
    refine pu_getR pu_kr7_0 pu_c0 pu_r0_0 ?_
    refine pu_aload rfl ?_
    refine pu_cv (vs := [.ref (pu_rf 49 x1.toNatClampNeg)]) (rest := [.ref 1]) pu_g57 ⟨pu_c1, by decide⟩ rfl rfl rfl rfl rfl (pu_CI (pu_I_imp H (fun y9 D10 H => ?_)))
    refine pu_aload rfl ?_
    refine pu_iconst ?_
    refine pu_cv (vs := [.int 0]) (rest := [.int y9, .ref 1]) pu_g44 ⟨(pu_sh h8), by decide⟩ rfl rfl rfl rfl rfl (pu_CI (pu_I_imp H (fun y11 D12 H => ?_)))
    refine pu_iload_n rfl ?_
    refine pu_iload_n rfl ?_
    refine pu_cv (vs := [.int y9, .int y11, .int x2, .int x3]) (rest := []) pu_g66 ⟨pu_c1, by decide⟩ rfl rfl rfl rfl rfl (pu_CI (pu_I_imp H (fun y13 D14 H => ?_)))
    exact pu_iretI pu_rt118 H
  · replace H := pu_f h7 H
    refine pu_aload_n rfl ?_
    refine pu_iload rfl ?_
    refine pu_cv (vs := [.int y5]) (rest := []) pu_g131 ⟨pu_c0, by decide⟩ rfl rfl rfl rfl rfl (pu_CI (pu_I_imp H (fun y15 D16 H => ?_)))
    exact pu_iretI pu_rt118 H
/-- LightAlong.spill(II)I -/
def pu_h119_59 (X : px_X) (x1 : Int32) (x2 : Int32) (x3 : Int32) (x4 : Int32) (x5 : Int32) (x6 : Int32) (D : pu_D) (P : Int32 → pu_D → Prop) : Prop := ∀ z7 : Value, z7.category = 1 → ∀ z8 : Value, z8.category = 1 → pu_W X 119 (0, 0) px_c119_59 [.ref 0, .int x1, .int x2, .int x3, .int x4, .int x5, .int x6, z7, z8] [] D (pu_qi P)
theorem pu_u119_59 {X : px_X} {x1 : Int32} {x2 : Int32} {x3 : Int32} {x4 : Int32} {x5 : Int32} {x6 : Int32} {D : pu_D} {P : Int32 → pu_D → Prop} 
    (H : if x6 < 120 then (pu_I X 67 [.ref 1, .int x1, .int x6, .int 0] D (fun y14 D15 => if y14 = 0 then (pu_h119_59 X x1 x2 x3 x4 x5 (x6 + 1) D15 P) else (pu_I X 64 [.ref 1, .int x3, .int 0, .int x6, .int x2] D15 (fun y17 D18 => pu_I X 68 [.ref 1, .int x6, .int 0] D18 (fun y19 D20 => if (y17 + y19) < x4 then (pu_h119_59 X x1 x2 x3 x4 x5 (x6 + 1) D20 P) else (if ((y17 + y19) - y14) < x4 then (pu_h119_59 X x1 x2 x3 x4 (x5 + 1) (x6 + 1) D20 P) else (pu_h119_59 X x1 x2 x3 x4 x5 (x6 + 1) D20 P))))))) else (P x5 D)) :
    pu_h119_59 X x1 x2 x3 x4 x5 x6 D P := by
  intro z7 hz7 z8 hz8
  refine pu_iload rfl ?_
  refine pu_bipush ?_
  refine pu_ge_ pu_t119_138 (fun h13 => ?_) (fun h13 => ?_)
  · replace H := pu_f h13 H
    refine pu_iload rfl ?_
    exact pu_iretI pu_rt119 H
  · replace H := pu_t h13 H
    refine pu_aload_n rfl ?_
    refine pu_getR pu_kr7_0 pu_c0 pu_r0_0 ?_
    refine pu_iload_n rfl ?_
    refine pu_iload rfl ?_
    refine pu_iconst ?_
    refine pu_cv (vs := [.int x1, .int x6, .int 0]) (rest := []) pu_g67 ⟨pu_c1, by decide⟩ rfl rfl rfl rfl rfl (pu_CI (pu_I_imp H (fun y14 D15 H => ?_)))
    refine pu_istore (L' := [.ref 0, .int x1, .int x2, .int x3, .int x4, .int x5, .int x6, .int y14, z8]) (Or.inr rfl) rfl ?_
    refine pu_iload rfl ?_
    refine pu_ne0 pu_t119_87 (fun h16 => ?_) (fun h16 => ?_)
    · replace H := pu_f h16 H
      refine pu_aload_n rfl ?_
      refine pu_getR pu_kr7_0 pu_c0 pu_r0_0 ?_
      refine pu_iload_n rfl ?_
      refine pu_iconst ?_
      refine pu_iload rfl ?_
      refine pu_iload_n rfl ?_
      refine pu_cv (vs := [.int x3, .int 0, .int x6, .int x2]) (rest := []) pu_g64 ⟨pu_c1, by decide⟩ rfl rfl rfl rfl rfl (pu_CI (pu_I_imp H (fun y17 D18 H => ?_)))
      refine pu_aload_n rfl ?_
      refine pu_getR pu_kr7_0 pu_c0 pu_r0_0 ?_
      refine pu_iload rfl ?_
      refine pu_iconst ?_
      refine pu_cv (vs := [.int x6, .int 0]) (rest := [.int y17]) pu_g68 ⟨pu_c1, by decide⟩ rfl rfl rfl rfl rfl (pu_CI (pu_I_imp H (fun y19 D20 H => ?_)))
      refine pu_iadd ?_
      refine pu_istore (L' := [.ref 0, .int x1, .int x2, .int x3, .int x4, .int x5, .int x6, .int y14, .int (y17 + y19)]) (Or.inr rfl) rfl ?_
      refine pu_iload rfl ?_
      refine pu_iload rfl ?_
      refine pu_lt_ pu_t119_132 (fun h21 => ?_) (fun h21 => ?_)
      · replace H := pu_t h21 H
        refine pu_iinc (L' := [.ref 0, .int x1, .int x2, .int x3, .int x4, .int x5, .int (x6 + 1), .int y14, .int (y17 + y19)]) rfl (Or.inr rfl) rfl ?_
        refine pu_goto pu_t119_59 ?_
        exact H _ rfl _ rfl
      · replace H := pu_f h21 H
        refine pu_iload rfl ?_
        refine pu_iload rfl ?_
        refine pu_isub ?_
        refine pu_iload rfl ?_
        refine pu_ge_ pu_t119_132 (fun h22 => ?_) (fun h22 => ?_)
        · replace H := pu_f h22 H
          refine pu_iinc (L' := [.ref 0, .int x1, .int x2, .int x3, .int x4, .int x5, .int (x6 + 1), .int y14, .int (y17 + y19)]) rfl (Or.inr rfl) rfl ?_
          refine pu_goto pu_t119_59 ?_
          exact H _ rfl _ rfl
        · replace H := pu_t h22 H
          refine pu_iinc (L' := [.ref 0, .int x1, .int x2, .int x3, .int x4, .int (x5 + 1), .int x6, .int y14, .int (y17 + y19)]) rfl (Or.inr rfl) rfl ?_
          refine pu_iinc (L' := [.ref 0, .int x1, .int x2, .int x3, .int x4, .int (x5 + 1), .int (x6 + 1), .int y14, .int (y17 + y19)]) rfl (Or.inr rfl) rfl ?_
          refine pu_goto pu_t119_59 ?_
          exact H _ rfl _ rfl
    · replace H := pu_t h16 H
      refine pu_goto pu_t119_132 ?_
      refine pu_iinc (L' := [.ref 0, .int x1, .int x2, .int x3, .int x4, .int x5, .int (x6 + 1), .int y14, z8]) rfl (Or.inr rfl) rfl ?_
      refine pu_goto pu_t119_59 ?_
      exact H _ rfl _ hz8
theorem pu_e119 {X : px_X} {x1 : Int32} {x2 : Int32} {D : pu_D} {P : Int32 → pu_D → Prop} 
    (H : pu_I X 81 [.ref 13, .int x1] D (fun y1 D2 => if y1 = 0 then (pu_I X 130 [.ref 0, .int (-1)] D2 (fun y11 D12 => P y11 D12)) else (pu_I X 140 [.int x2] D2 (fun y4 D5 => if y4 = 0 then (pu_I X 130 [.ref 0, .int (-6)] D5 (fun y9 D10 => P y9 D10)) else (pu_I X 56 [.ref 1] D5 (fun y7 D8 => pu_h119_59 X x1 x2 y7 (D8.1 2 (Int32.toNatClampNeg 0)) 0 0 D8 P)))))) :
    pu_I X 119 [.ref 0, .int x1, .int x2] D P := by
  refine pu_ent (E := [.ref 0, .int x1, .int x2, .null, .null, .null, .null, .null, .null]) pu_n119.1 pu_n119.2 pu_t119_0 rfl ?_
  refine pu_aload_n rfl ?_
  refine pu_getR pu_kr7_0 pu_c0 pu_r0_0 ?_
  refine pu_getR pu_kr4_6 pu_c1 pu_r1_6 ?_
  refine pu_iload_n rfl ?_
  refine pu_cv (vs := [.int x1]) (rest := []) pu_g81 ⟨pu_c13, by decide⟩ rfl rfl rfl rfl rfl (pu_CI (pu_I_imp H (fun y1 D2 H => ?_)))
  refine pu_ne0 pu_t119_20 (fun h3 => ?_) (fun h3 => ?_)
  · replace H := pu_f h3 H
    refine pu_iload_n rfl ?_
    refine pu_cs (vs := [.int x2]) (rest := []) pu_g140 rfl rfl rfl rfl rfl (pu_CI (pu_I_imp H (fun y4 D5 H => ?_)))
    refine pu_ne0 pu_t119_34 (fun h6 => ?_) (fun h6 => ?_)
    · replace H := pu_f h6 H
      refine pu_aload_n rfl ?_
      refine pu_getR pu_kr7_0 pu_c0 pu_r0_0 ?_
      refine pu_cv (vs := []) (rest := []) pu_g56 ⟨pu_c1, by decide⟩ rfl rfl rfl rfl rfl (pu_CI (pu_I_imp H (fun y7 D8 H => ?_)))
      refine pu_istore_n (L' := [.ref 0, .int x1, .int x2, .int y7, .null, .null, .null, .null, .null]) (Or.inr rfl) rfl ?_
      refine pu_aload_n rfl ?_
      refine pu_getR pu_kr7_0 pu_c0 pu_r0_0 ?_
      refine pu_getR pu_kr4_0 pu_c1 pu_r1_0 ?_
      refine pu_iconst ?_
      refine pu_ial pu_c2 pu_ln2 (by decide) ?_
      refine pu_istore (L' := [.ref 0, .int x1, .int x2, .int y7, .int (D8.1 2 (Int32.toNatClampNeg 0)), .null, .null, .null, .null]) (Or.inr rfl) rfl ?_
      refine pu_iconst ?_
      refine pu_istore (L' := [.ref 0, .int x1, .int x2, .int y7, .int (D8.1 2 (Int32.toNatClampNeg 0)), .int 0, .null, .null, .null]) (Or.inr rfl) rfl ?_
      refine pu_iconst ?_
      refine pu_istore (L' := [.ref 0, .int x1, .int x2, .int y7, .int (D8.1 2 (Int32.toNatClampNeg 0)), .int 0, .int 0, .null, .null]) (Or.inr rfl) rfl ?_
      exact H _ rfl _ rfl
    · replace H := pu_t h6 H
      refine pu_aload_n rfl ?_
      refine pu_bipush ?_
      refine pu_cv (vs := [.int (-6)]) (rest := []) pu_g130 ⟨pu_c0, by decide⟩ rfl rfl rfl rfl rfl (pu_CI (pu_I_imp H (fun y9 D10 H => ?_)))
      exact pu_iretI pu_rt119 H
  · replace H := pu_t h3 H
    refine pu_aload_n rfl ?_
    refine pu_iconst ?_
    refine pu_cv (vs := [.int (-1)]) (rest := []) pu_g130 ⟨pu_c0, by decide⟩ rfl rfl rfl rfl rfl (pu_CI (pu_I_imp H (fun y11 D12 H => ?_)))
    exact pu_iretI pu_rt119 H
/-- LightAlong.dim(I)I -/
def pu_h120_39 (X : px_X) (x2 : Int32) (x3 : Int32) (D : pu_D) (P : Int32 → pu_D → Prop) : Prop := ∀ z1 : Value, z1.category = 1 → pu_W X 120 (0, 0) px_c120_39 [.ref 0, z1, .int x2, .int x3] [] D (pu_qi P)
theorem pu_u120_39 {X : px_X} {x2 : Int32} {x3 : Int32} {D : pu_D} {P : Int32 → pu_D → Prop} 
    (H : if x3 < 0 then (P x2 D) else (pu_V X 22 [.ref 52, .ref 1, .int x3] D (fun D12 => pu_I X 23 [.ref 52, .ref 1] D12 (fun y13 D14 => if y13 = 0 then (pu_h120_39 X x3 (x3 + (-1)) D14 P) else (P x2 D14))))) :
    pu_h120_39 X x2 x3 D P := by
  intro z1 hz1
  refine pu_iload_n rfl ?_
  refine pu_lt0 pu_t120_80 (fun h10 => ?_) (fun h10 => ?_)
  · replace H := pu_t h10 H
    refine pu_iload_n rfl ?_
    exact pu_iretI pu_rt120 H
  · replace H := pu_f h10 H
    refine pu_aload_n rfl ?_
    refine pu_getR pu_kr7_6 pu_c0 pu_r0_6 ?_
    refine pu_aload_n rfl ?_
    refine pu_getR pu_kr7_0 pu_c0 pu_r0_0 ?_
    refine pu_iload_n rfl ?_
    refine pu_cv (vs := [.ref 1, .int x3]) (rest := []) pu_g22 ⟨pu_c52, by decide⟩ rfl rfl rfl rfl rfl (pu_CV (pu_V_imp H (fun D12 H => ?_)))
    refine pu_aload_n rfl ?_
    refine pu_getR pu_kr7_6 pu_c0 pu_r0_6 ?_
    refine pu_aload_n rfl ?_
    refine pu_getR pu_kr7_0 pu_c0 pu_r0_0 ?_
    refine pu_cv (vs := [.ref 1]) (rest := []) pu_g23 ⟨pu_c52, by decide⟩ rfl rfl rfl rfl rfl (pu_CI (pu_I_imp H (fun y13 D14 H => ?_)))
    refine pu_eq0 pu_t120_72 (fun h15 => ?_) (fun h15 => ?_)
    · replace H := pu_t h15 H
      refine pu_iload_n rfl ?_
      refine pu_istore_n (L' := [.ref 0, z1, .int x3, .int x3]) (Or.inr hz1) rfl ?_
      refine pu_iinc (L' := [.ref 0, z1, .int x3, .int (x3 + (-1))]) rfl (Or.inr rfl) rfl ?_
      refine pu_goto pu_t120_39 ?_
      exact H _ hz1
    · replace H := pu_f h15 H
      refine pu_goto pu_t120_80 ?_
      refine pu_iload_n rfl ?_
      exact pu_iretI pu_rt120 H
theorem pu_e120 {X : px_X} {x1 : Int32} {D : pu_D} {P : Int32 → pu_D → Prop} 
    (H : pu_I X 140 [.int x1] D (fun y1 D2 => if y1 = 0 then (pu_I X 131 [.ref 0, .int (-6)] D2 (fun y8 D9 => P y8 D9)) else (pu_I X 56 [.ref 1] D2 (fun y4 D5 => pu_V X 21 [.ref 52, .ref 1, .int y4, .int 1, .int x1] D5 (fun D7 => pu_h120_39 X (-1) 11 D7 P))))) :
    pu_I X 120 [.ref 0, .int x1] D P := by
  refine pu_ent (E := [.ref 0, .int x1, .null, .null]) pu_n120.1 pu_n120.2 pu_t120_0 rfl ?_
  refine pu_iload_n rfl ?_
  refine pu_cs (vs := [.int x1]) (rest := []) pu_g140 rfl rfl rfl rfl rfl (pu_CI (pu_I_imp H (fun y1 D2 H => ?_)))
  refine pu_ne0 pu_t120_14 (fun h3 => ?_) (fun h3 => ?_)
  · replace H := pu_f h3 H
    refine pu_aload_n rfl ?_
    refine pu_getR pu_kr7_6 pu_c0 pu_r0_6 ?_
    refine pu_aload_n rfl ?_
    refine pu_getR pu_kr7_0 pu_c0 pu_r0_0 ?_
    refine pu_aload_n rfl ?_
    refine pu_getR pu_kr7_0 pu_c0 pu_r0_0 ?_
    refine pu_cv (vs := []) (rest := [.ref 1, .ref 52]) pu_g56 ⟨pu_c1, by decide⟩ rfl rfl rfl rfl rfl (pu_CI (pu_I_imp H (fun y4 D5 H => ?_)))
    refine pu_iconst ?_
    refine pu_iload_n rfl ?_
    refine pu_cv (vs := [.ref 1, .int y4, .int 1, .int x1]) (rest := []) pu_g21 ⟨pu_c52, by decide⟩ rfl rfl rfl rfl rfl (pu_CV (pu_V_imp H (fun D7 H => ?_)))
    refine pu_iconst ?_
    refine pu_istore_n (L' := [.ref 0, .int x1, .int (-1), .null]) (Or.inr rfl) rfl ?_
    refine pu_bipush ?_
    refine pu_istore_n (L' := [.ref 0, .int x1, .int (-1), .int 11]) (Or.inr rfl) rfl ?_
    exact H _ rfl
  · replace H := pu_t h3 H
    refine pu_aload_n rfl ?_
    refine pu_bipush ?_
    refine pu_cv (vs := [.int (-6)]) (rest := []) pu_g131 ⟨pu_c0, by decide⟩ rfl rfl rfl rfl rfl (pu_CI (pu_I_imp H (fun y8 D9 H => ?_)))
    exact pu_iretI pu_rt120 H
/-- LightAlong.bulbs(IZ)I -/
theorem pu_e121 {X : px_X} {x1 : Int32} {x2 : Int32} {D : pu_D} {P : Int32 → pu_D → Prop} 
    (H : if x1 < 1 then (pu_I X 130 [.ref 0, .int (-6)] D (fun y2 D3 => P y2 D3)) else (if 240 < x1 then (pu_I X 130 [.ref 0, .int (-6)] D (fun y10 D11 => P y10 D11)) else (if x2 = 0 then (pu_I X 70 [.ref 1, .int x1] D (fun y6 D7 => P y6 D7)) else (pu_I X 71 [.ref 1, .int x1] D (fun y8 D9 => P y8 D9))))) :
    pu_I X 121 [.ref 0, .int x1, .int x2] D P := by
  refine pu_ent (E := [.ref 0, .int x1, .int x2]) pu_n121.1 pu_n121.2 pu_t121_0 rfl ?_
  refine pu_iload_n rfl ?_
  refine pu_iconst ?_
  refine pu_lt_ pu_t121_12 (fun h1 => ?_) (fun h1 => ?_)
  · replace H := pu_t h1 H
    refine pu_aload_n rfl ?_
    refine pu_bipush ?_
    refine pu_cv (vs := [.int (-6)]) (rest := []) pu_g130 ⟨pu_c0, by decide⟩ rfl rfl rfl rfl rfl (pu_CI (pu_I_imp H (fun y2 D3 H => ?_)))
    exact pu_iretI pu_rt121 H
  · replace H := pu_f h1 H
    refine pu_iload_n rfl ?_
    refine pu_sipush ?_
    refine pu_le_ pu_t121_19 (fun h4 => ?_) (fun h4 => ?_)
    · replace H := pu_f h4 H
      refine pu_iload_n rfl ?_
      refine pu_eq0 pu_t121_34 (fun h5 => ?_) (fun h5 => ?_)
      · replace H := pu_t h5 H
        refine pu_aload_n rfl ?_
        refine pu_getR pu_kr7_0 pu_c0 pu_r0_0 ?_
        refine pu_iload_n rfl ?_
        refine pu_cv (vs := [.int x1]) (rest := []) pu_g70 ⟨pu_c1, by decide⟩ rfl rfl rfl rfl rfl (pu_CI (pu_I_imp H (fun y6 D7 H => ?_)))
        exact pu_iretI pu_rt121 H
      · replace H := pu_f h5 H
        refine pu_aload_n rfl ?_
        refine pu_getR pu_kr7_0 pu_c0 pu_r0_0 ?_
        refine pu_iload_n rfl ?_
        refine pu_cv (vs := [.int x1]) (rest := []) pu_g71 ⟨pu_c1, by decide⟩ rfl rfl rfl rfl rfl (pu_CI (pu_I_imp H (fun y8 D9 H => ?_)))
        refine pu_goto pu_t121_42 ?_
        exact pu_iretI pu_rt121 H
    · replace H := pu_t h4 H
      refine pu_aload_n rfl ?_
      refine pu_bipush ?_
      refine pu_cv (vs := [.int (-6)]) (rest := []) pu_g130 ⟨pu_c0, by decide⟩ rfl rfl rfl rfl rfl (pu_CI (pu_I_imp H (fun y10 D11 H => ?_)))
      exact pu_iretI pu_rt121 H
/-- LightAlong.moved(II)I -/
def pu_h122_36 (X : px_X) (x1 : Int32) (x2 : Int32) (x3 : Int32) (x4 : Int32) (D : pu_D) (P : Int32 → pu_D → Prop) : Prop := ∀ z5 : Value, z5.category = 1 → pu_W X 122 (0, 0) px_c122_36 [.ref 0, .int x1, .int x2, .int x3, .int x4, z5] [] D (pu_qi P)
theorem pu_u122_36 {X : px_X} {x1 : Int32} {x2 : Int32} {x3 : Int32} {x4 : Int32} {D : pu_D} {P : Int32 → pu_D → Prop} 
    (H : if x4 < (D.1 5 2) then (pu_I X 142 [.int x1, .int x4] D (fun y12 D13 => if y12 = 0 then (pu_I X 82 [.ref 5, .int x4, .int 2] D13 (fun y15 D16 => if y15 = (-1) then (pu_h122_36 X x1 x2 x3 (x4 + 1) D16 P) else (pu_h122_36 X x1 x2 (x3 + 1) (x4 + 1) D16 P))) else (pu_I X 82 [.ref 5, .int x4, .int 2] D13 (fun y18 D19 => if y18 = x2 then (pu_h122_36 X x1 x2 x3 (x4 + 1) D19 P) else (pu_h122_36 X x1 x2 (x3 + 1) (x4 + 1) D19 P))))) else (P x3 D)) :
    pu_h122_36 X x1 x2 x3 x4 D P := by
  intro z5 hz5
  refine pu_iload rfl ?_
  refine pu_aload_n rfl ?_
  refine pu_getR pu_kr7_0 pu_c0 pu_r0_0 ?_
  refine pu_getR pu_kr4_2 pu_c1 pu_r1_2 ?_
  refine pu_getI pu_k6_2 pu_c5 ?_
  refine pu_ge_ pu_t122_94 (fun h11 => ?_) (fun h11 => ?_)
  · replace H := pu_f h11 H
    refine pu_iload_n rfl ?_
    exact pu_iretI pu_rt122 H
  · replace H := pu_t h11 H
    refine pu_iload_n rfl ?_
    refine pu_iload rfl ?_
    refine pu_cs (vs := [.int x1, .int x4]) (rest := []) pu_g142 rfl rfl rfl rfl rfl (pu_CI (pu_I_imp H (fun y12 D13 H => ?_)))
    refine pu_eq0 pu_t122_64 (fun h14 => ?_) (fun h14 => ?_)
    · replace H := pu_t h14 H
      refine pu_iconst ?_
      refine pu_istore (L' := [.ref 0, .int x1, .int x2, .int x3, .int x4, .int (-1)]) (Or.inr rfl) rfl ?_
      refine pu_aload_n rfl ?_
      refine pu_getR pu_kr7_0 pu_c0 pu_r0_0 ?_
      refine pu_getR pu_kr4_2 pu_c1 pu_r1_2 ?_
      refine pu_iload rfl ?_
      refine pu_iconst ?_
      refine pu_cv (vs := [.int x4, .int 2]) (rest := []) pu_g82 ⟨pu_c5, by decide⟩ rfl rfl rfl rfl rfl (pu_CI (pu_I_imp H (fun y15 D16 H => ?_)))
      refine pu_iload rfl ?_
      refine pu_eq_ pu_t122_88 (fun h17 => ?_) (fun h17 => ?_)
      · replace H := pu_t h17 H
        refine pu_iinc (L' := [.ref 0, .int x1, .int x2, .int x3, .int (x4 + 1), .int (-1)]) rfl (Or.inr rfl) rfl ?_
        refine pu_goto pu_t122_36 ?_
        exact H _ rfl
      · replace H := pu_f h17 H
        refine pu_iinc (L' := [.ref 0, .int x1, .int x2, .int (x3 + 1), .int x4, .int (-1)]) rfl (Or.inr rfl) rfl ?_
        refine pu_iinc (L' := [.ref 0, .int x1, .int x2, .int (x3 + 1), .int (x4 + 1), .int (-1)]) rfl (Or.inr rfl) rfl ?_
        refine pu_goto pu_t122_36 ?_
        exact H _ rfl
    · replace H := pu_f h14 H
      refine pu_iload_n rfl ?_
      refine pu_goto pu_t122_65 ?_
      refine pu_istore (L' := [.ref 0, .int x1, .int x2, .int x3, .int x4, .int x2]) (Or.inr rfl) rfl ?_
      refine pu_aload_n rfl ?_
      refine pu_getR pu_kr7_0 pu_c0 pu_r0_0 ?_
      refine pu_getR pu_kr4_2 pu_c1 pu_r1_2 ?_
      refine pu_iload rfl ?_
      refine pu_iconst ?_
      refine pu_cv (vs := [.int x4, .int 2]) (rest := []) pu_g82 ⟨pu_c5, by decide⟩ rfl rfl rfl rfl rfl (pu_CI (pu_I_imp H (fun y18 D19 H => ?_)))
      refine pu_iload rfl ?_
      refine pu_eq_ pu_t122_88 (fun h20 => ?_) (fun h20 => ?_)
      · replace H := pu_t h20 H
        refine pu_iinc (L' := [.ref 0, .int x1, .int x2, .int x3, .int (x4 + 1), .int x2]) rfl (Or.inr rfl) rfl ?_
        refine pu_goto pu_t122_36 ?_
        exact H _ rfl
      · replace H := pu_f h20 H
        refine pu_iinc (L' := [.ref 0, .int x1, .int x2, .int (x3 + 1), .int x4, .int x2]) rfl (Or.inr rfl) rfl ?_
        refine pu_iinc (L' := [.ref 0, .int x1, .int x2, .int (x3 + 1), .int (x4 + 1), .int x2]) rfl (Or.inr rfl) rfl ?_
        refine pu_goto pu_t122_36 ?_
        exact H _ rfl
theorem pu_e122 {X : px_X} {x1 : Int32} {x2 : Int32} {D : pu_D} {P : Int32 → pu_D → Prop} 
    (H : pu_I X 81 [.ref 3, .int x2] D (fun y1 D2 => if y1 = 0 then (pu_I X 130 [.ref 0, .int (-1)] D2 (fun y4 D5 => P y4 D5)) else (pu_I X 51 [.ref 1, .int x1] D2 (fun y6 D7 => if y6 = 0 then (pu_I X 130 [.ref 0, .int (-1)] D7 (fun y9 D10 => P y9 D10)) else (pu_h122_36 X x1 x2 0 0 D7 P))))) :
    pu_I X 122 [.ref 0, .int x1, .int x2] D P := by
  refine pu_ent (E := [.ref 0, .int x1, .int x2, .null, .null, .null]) pu_n122.1 pu_n122.2 pu_t122_0 rfl ?_
  refine pu_aload_n rfl ?_
  refine pu_getR pu_kr7_0 pu_c0 pu_r0_0 ?_
  refine pu_getR pu_kr4_1 pu_c1 pu_r1_1 ?_
  refine pu_iload_n rfl ?_
  refine pu_cv (vs := [.int x2]) (rest := []) pu_g81 ⟨pu_c3, by decide⟩ rfl rfl rfl rfl rfl (pu_CI (pu_I_imp H (fun y1 D2 H => ?_)))
  refine pu_eq0 pu_t122_25 (fun h3 => ?_) (fun h3 => ?_)
  · replace H := pu_t h3 H
    refine pu_aload_n rfl ?_
    refine pu_iconst ?_
    refine pu_cv (vs := [.int (-1)]) (rest := []) pu_g130 ⟨pu_c0, by decide⟩ rfl rfl rfl rfl rfl (pu_CI (pu_I_imp H (fun y4 D5 H => ?_)))
    exact pu_iretI pu_rt122 H
  · replace H := pu_f h3 H
    refine pu_aload_n rfl ?_
    refine pu_getR pu_kr7_0 pu_c0 pu_r0_0 ?_
    refine pu_iload_n rfl ?_
    refine pu_cv (vs := [.int x1]) (rest := []) pu_g51 ⟨pu_c1, by decide⟩ rfl rfl rfl rfl rfl (pu_CI (pu_I_imp H (fun y6 D7 H => ?_)))
    refine pu_ne0 pu_t122_31 (fun h8 => ?_) (fun h8 => ?_)
    · replace H := pu_f h8 H
      refine pu_iconst ?_
      refine pu_istore_n (L' := [.ref 0, .int x1, .int x2, .int 0, .null, .null]) (Or.inr rfl) rfl ?_
      refine pu_iconst ?_
      refine pu_istore (L' := [.ref 0, .int x1, .int x2, .int 0, .int 0, .null]) (Or.inr rfl) rfl ?_
      exact H _ rfl
    · replace H := pu_t h8 H
      refine pu_aload_n rfl ?_
      refine pu_iconst ?_
      refine pu_cv (vs := [.int (-1)]) (rest := []) pu_g130 ⟨pu_c0, by decide⟩ rfl rfl rfl rfl rfl (pu_CI (pu_I_imp H (fun y9 D10 H => ?_)))
      exact pu_iretI pu_rt122 H
/-- LightAlong.lay(II)I -/
def pu_h123_33 (X : px_X) (x1 : Int32) (x2 : Int32) (x3 : Int32) (D : pu_D) (P : Int32 → pu_D → Prop) : Prop := pu_W X 123 (0, 0) px_c123_33 [.ref 0, .int x1, .int x2, .int x3] [] D (pu_qi P)
theorem pu_u123_33 {X : px_X} {x1 : Int32} {x2 : Int32} {x3 : Int32} {D : pu_D} {P : Int32 → pu_D → Prop} 
    (H : if x3 < (D.1 5 2) then (pu_I X 142 [.int x1, .int x3] D (fun y14 D15 => if y14 = 0 then (pu_V X 54 [.ref 1, .int x3, .int (-1)] D15 (fun D18 => pu_h123_33 X x1 x2 (x3 + 1) D18 P)) else (pu_V X 54 [.ref 1, .int x3, .int x2] D15 (fun D20 => pu_h123_33 X x1 x2 (x3 + 1) D20 P)))) else (pu_I X 69 [.ref 1, .int x1, .int x2] D (fun y12 D13 => P y12 D13))) :
    pu_h123_33 X x1 x2 x3 D P := by
  refine pu_iload_n rfl ?_
  refine pu_aload_n rfl ?_
  refine pu_getR pu_kr7_0 pu_c0 pu_r0_0 ?_
  refine pu_getR pu_kr4_2 pu_c1 pu_r1_2 ?_
  refine pu_getI pu_k6_2 pu_c5 ?_
  refine pu_ge_ pu_t123_74 (fun h11 => ?_) (fun h11 => ?_)
  · replace H := pu_f h11 H
    refine pu_aload_n rfl ?_
    refine pu_getR pu_kr7_0 pu_c0 pu_r0_0 ?_
    refine pu_iload_n rfl ?_
    refine pu_iload_n rfl ?_
    refine pu_cv (vs := [.int x1, .int x2]) (rest := []) pu_g69 ⟨pu_c1, by decide⟩ rfl rfl rfl rfl rfl (pu_CI (pu_I_imp H (fun y12 D13 H => ?_)))
    exact pu_iretI pu_rt123 H
  · replace H := pu_t h11 H
    refine pu_aload_n rfl ?_
    refine pu_getR pu_kr7_0 pu_c0 pu_r0_0 ?_
    refine pu_iload_n rfl ?_
    refine pu_iload_n rfl ?_
    refine pu_iload_n rfl ?_
    refine pu_cs (vs := [.int x1, .int x3]) (rest := [.int x3, .ref 1]) pu_g142 rfl rfl rfl rfl rfl (pu_CI (pu_I_imp H (fun y14 D15 H => ?_)))
    refine pu_eq0 pu_t123_64 (fun h16 => ?_) (fun h16 => ?_)
    · replace H := pu_t h16 H
      refine pu_iconst ?_
      refine pu_cv (vs := [.int x3, .int (-1)]) (rest := []) pu_g54 ⟨pu_c1, by decide⟩ rfl rfl rfl rfl rfl (pu_CV (pu_V_imp H (fun D18 H => ?_)))
      refine pu_iinc (L' := [.ref 0, .int x1, .int x2, .int (x3 + 1)]) rfl (Or.inr rfl) rfl ?_
      refine pu_goto pu_t123_33 ?_
      exact H 
    · replace H := pu_f h16 H
      refine pu_iload_n rfl ?_
      refine pu_goto pu_t123_65 ?_
      refine pu_cv (vs := [.int x3, .int x2]) (rest := []) pu_g54 ⟨pu_c1, by decide⟩ rfl rfl rfl rfl rfl (pu_CV (pu_V_imp H (fun D20 H => ?_)))
      refine pu_iinc (L' := [.ref 0, .int x1, .int x2, .int (x3 + 1)]) rfl (Or.inr rfl) rfl ?_
      refine pu_goto pu_t123_33 ?_
      exact H 
theorem pu_e123 {X : px_X} {x1 : Int32} {x2 : Int32} {D : pu_D} {P : Int32 → pu_D → Prop} 
    (H : pu_I X 81 [.ref 3, .int x2] D (fun y1 D2 => if y1 = 0 then (pu_I X 130 [.ref 0, .int (-1)] D2 (fun y4 D5 => P y4 D5)) else (pu_I X 51 [.ref 1, .int x1] D2 (fun y6 D7 => if y6 = 0 then (pu_I X 130 [.ref 0, .int (-1)] D7 (fun y9 D10 => P y9 D10)) else (pu_h123_33 X x1 x2 0 D7 P))))) :
    pu_I X 123 [.ref 0, .int x1, .int x2] D P := by
  refine pu_ent (E := [.ref 0, .int x1, .int x2, .null]) pu_n123.1 pu_n123.2 pu_t123_0 rfl ?_
  refine pu_aload_n rfl ?_
  refine pu_getR pu_kr7_0 pu_c0 pu_r0_0 ?_
  refine pu_getR pu_kr4_1 pu_c1 pu_r1_1 ?_
  refine pu_iload_n rfl ?_
  refine pu_cv (vs := [.int x2]) (rest := []) pu_g81 ⟨pu_c3, by decide⟩ rfl rfl rfl rfl rfl (pu_CI (pu_I_imp H (fun y1 D2 H => ?_)))
  refine pu_eq0 pu_t123_25 (fun h3 => ?_) (fun h3 => ?_)
  · replace H := pu_t h3 H
    refine pu_aload_n rfl ?_
    refine pu_iconst ?_
    refine pu_cv (vs := [.int (-1)]) (rest := []) pu_g130 ⟨pu_c0, by decide⟩ rfl rfl rfl rfl rfl (pu_CI (pu_I_imp H (fun y4 D5 H => ?_)))
    exact pu_iretI pu_rt123 H
  · replace H := pu_f h3 H
    refine pu_aload_n rfl ?_
    refine pu_getR pu_kr7_0 pu_c0 pu_r0_0 ?_
    refine pu_iload_n rfl ?_
    refine pu_cv (vs := [.int x1]) (rest := []) pu_g51 ⟨pu_c1, by decide⟩ rfl rfl rfl rfl rfl (pu_CI (pu_I_imp H (fun y6 D7 H => ?_)))
    refine pu_ne0 pu_t123_31 (fun h8 => ?_) (fun h8 => ?_)
    · replace H := pu_f h8 H
      refine pu_iconst ?_
      refine pu_istore_n (L' := [.ref 0, .int x1, .int x2, .int 0]) (Or.inr rfl) rfl ?_
      exact H 
    · replace H := pu_t h8 H
      refine pu_aload_n rfl ?_
      refine pu_iconst ?_
      refine pu_cv (vs := [.int (-1)]) (rest := []) pu_g130 ⟨pu_c0, by decide⟩ rfl rfl rfl rfl rfl (pu_CI (pu_I_imp H (fun y9 D10 H => ?_)))
      exact pu_iretI pu_rt123 H
/-- LightAlong.judge(III)I -/
def pu_h124_99 (X : px_X) (x3 : Int32) (q4 : Nat) (q5 : Nat) (x6 : Int32) (D : pu_D) (P : Int32 → pu_D → Prop) : Prop := ∀ z1 : Value, z1.category = 1 → ∀ z2 : Value, z2.category = 1 → pu_W X 124 (0, 0) px_c124_99 [.ref 0, z1, z2, .int x3, .ref q4, .ref q5, .int x6] [] D (pu_qi P)
theorem pu_u124_99 {X : px_X} {x3 : Int32} {q4 : Nat} {q5 : Nat} {x6 : Int32} {D : pu_D} {P : Int32 → pu_D → Prop} (hq4 : pu_cl q4 = 3) (hq5 : pu_cl q5 = 3)
    (H : if x6 < 120 then (pu_I X 136 [.ref 0, .ref q4, .int x6, .int x3, .int 0] D (fun y39 D40 => pu_I X 40 [.ref q5, .int x6] D40 (fun y41 D42 => if y39 = y41 then (pu_h124_99 X x3 q4 q5 (x6 + 1) D42 P) else (P x6 D42)))) else (P (-1) D)) :
    pu_h124_99 X x3 q4 q5 x6 D P := by
  intro z1 hz1 z2 hz2
  refine pu_iload rfl ?_
  refine pu_bipush ?_
  refine pu_ge_ pu_t124_135 (fun h38 => ?_) (fun h38 => ?_)
  · replace H := pu_f h38 H
    refine pu_iconst ?_
    exact pu_iretI pu_rt124 H
  · replace H := pu_t h38 H
    refine pu_aload_n rfl ?_
    refine pu_aload rfl ?_
    refine pu_iload rfl ?_
    refine pu_iload_n rfl ?_
    refine pu_iconst ?_
    refine pu_cv (vs := [.ref q4, .int x6, .int x3, .int 0]) (rest := []) pu_g136 ⟨pu_c0, by decide⟩ rfl rfl rfl rfl rfl (pu_CI (pu_I_imp H (fun y39 D40 H => ?_)))
    refine pu_aload rfl ?_
    refine pu_iload rfl ?_
    refine pu_cv (vs := [.int x6]) (rest := [.int y39]) pu_g40 ⟨hq5, by decide⟩ rfl rfl rfl rfl rfl (pu_CI (pu_I_imp H (fun y41 D42 H => ?_)))
    refine pu_eq_ pu_t124_129 (fun h43 => ?_) (fun h43 => ?_)
    · replace H := pu_t h43 H
      refine pu_iinc (L' := [.ref 0, z1, z2, .int x3, .ref q4, .ref q5, .int (x6 + 1)]) rfl (Or.inr rfl) rfl ?_
      refine pu_goto pu_t124_99 ?_
      exact H _ hz1 _ hz2
    · replace H := pu_f h43 H
      refine pu_iload rfl ?_
      exact pu_iretI pu_rt124 H
theorem pu_e124 {X : px_X} {x1 : Int32} {x2 : Int32} {x3 : Int32} {D : pu_D} {P : Int32 → pu_D → Prop} 
    (H : pu_I X 138 [.int x1] D (fun y1 D2 => if y1 = 0 then (pu_I X 131 [.ref 0, .int (-1)] D2 (fun y4 D5 => P y4 D5)) else (pu_I X 138 [.int x2] D2 (fun y6 D7 => if y6 = 0 then (pu_I X 131 [.ref 0, .int (-1)] D7 (fun y36 D37 => P y36 D37)) else ((px_in x1 8 = true) ∧ (px_in x2 8 = true) ∧ pu_I X 32 [.ref (pu_rf 49 x1.toNatClampNeg)] D7 (fun y11 D12 => if y11 = 0 then (pu_I X 33 [.ref (pu_rf 49 x2.toNatClampNeg)] D12 (fun y16 D17 => if y16 = 0 then (pu_I X 33 [.ref (pu_rf 49 x1.toNatClampNeg)] D17 (fun y19 D20 => if y19 = 0 then (pu_I X 131 [.ref 0, .int (-3)] D20 (fun y22 D23 => P y22 D23)) else (pu_I X 32 [.ref (pu_rf 49 x2.toNatClampNeg)] D20 (fun y24 D25 => if y24 = 0 then (pu_I X 131 [.ref 0, .int (-3)] D25 (fun y32 D33 => P y32 D33)) else (pu_I X 140 [.int x3] D25 (fun y27 D28 => if y27 = 0 then (pu_I X 131 [.ref 0, .int (-6)] D28 (fun y30 D31 => P y30 D31)) else (pu_h124_99 X x3 (pu_rf 49 x1.toNatClampNeg) (pu_rf 49 x2.toNatClampNeg) 0 D28 P))))))) else (pu_I X 131 [.ref 0, .int (-2)] D17 (fun y34 D35 => P y34 D35)))) else (pu_I X 131 [.ref 0, .int (-2)] D12 (fun y14 D15 => P y14 D15)))))))) :
    pu_I X 124 [.ref 0, .int x1, .int x2, .int x3] D P := by
  refine pu_ent (E := [.ref 0, .int x1, .int x2, .int x3, .null, .null, .null]) pu_n124.1 pu_n124.2 pu_t124_0 rfl ?_
  refine pu_iload_n rfl ?_
  refine pu_cs (vs := [.int x1]) (rest := []) pu_g138 rfl rfl rfl rfl rfl (pu_CI (pu_I_imp H (fun y1 D2 H => ?_)))
  refine pu_eq0 pu_t124_14 (fun h3 => ?_) (fun h3 => ?_)
  · replace H := pu_t h3 H
    refine pu_aload_n rfl ?_
    refine pu_iconst ?_
    refine pu_cv (vs := [.int (-1)]) (rest := []) pu_g131 ⟨pu_c0, by decide⟩ rfl rfl rfl rfl rfl (pu_CI (pu_I_imp H (fun y4 D5 H => ?_)))
    exact pu_iretI pu_rt124 H
  · replace H := pu_f h3 H
    refine pu_iload_n rfl ?_
    refine pu_cs (vs := [.int x2]) (rest := []) pu_g138 rfl rfl rfl rfl rfl (pu_CI (pu_I_imp H (fun y6 D7 H => ?_)))
    refine pu_ne0 pu_t124_20 (fun h8 => ?_) (fun h8 => ?_)
    · replace H := pu_f h8 H
      refine pu_aload_n rfl ?_
      refine pu_getR pu_kr7_4 pu_c0 pu_r0_4 ?_
      refine pu_iload_n rfl ?_
      have h9 := H.1
      refine pu_aal h9 ?_
      replace H := H.2
      refine pu_astore (L' := [.ref 0, .int x1, .int x2, .int x3, .ref (pu_rf 49 x1.toNatClampNeg), .null, .null]) (Or.inr rfl) rfl ?_
      refine pu_aload_n rfl ?_
      refine pu_getR pu_kr7_4 pu_c0 pu_r0_4 ?_
      refine pu_iload_n rfl ?_
      have h10 := H.1
      refine pu_aal h10 ?_
      replace H := H.2
      refine pu_astore (L' := [.ref 0, .int x1, .int x2, .int x3, .ref (pu_rf 49 x1.toNatClampNeg), .ref (pu_rf 49 x2.toNatClampNeg), .null]) (Or.inr rfl) rfl ?_
      refine pu_aload rfl ?_
      refine pu_cv (vs := []) (rest := []) pu_g32 ⟨(pu_sh h9), by decide⟩ rfl rfl rfl rfl rfl (pu_CI (pu_I_imp H (fun y11 D12 H => ?_)))
      refine pu_ne0 pu_t124_52 (fun h13 => ?_) (fun h13 => ?_)
      · replace H := pu_f h13 H
        refine pu_aload_n rfl ?_
        refine pu_bipush ?_
        refine pu_cv (vs := [.int (-2)]) (rest := []) pu_g131 ⟨pu_c0, by decide⟩ rfl rfl rfl rfl rfl (pu_CI (pu_I_imp H (fun y14 D15 H => ?_)))
        exact pu_iretI pu_rt124 H
      · replace H := pu_t h13 H
        refine pu_aload rfl ?_
        refine pu_cv (vs := []) (rest := []) pu_g33 ⟨(pu_sh h10), by decide⟩ rfl rfl rfl rfl rfl (pu_CI (pu_I_imp H (fun y16 D17 H => ?_)))
        refine pu_eq0 pu_t124_59 (fun h18 => ?_) (fun h18 => ?_)
        · replace H := pu_t h18 H
          refine pu_aload rfl ?_
          refine pu_cv (vs := []) (rest := []) pu_g33 ⟨(pu_sh h9), by decide⟩ rfl rfl rfl rfl rfl (pu_CI (pu_I_imp H (fun y19 D20 H => ?_)))
          refine pu_eq0 pu_t124_75 (fun h21 => ?_) (fun h21 => ?_)
          · replace H := pu_t h21 H
            refine pu_aload_n rfl ?_
            refine pu_bipush ?_
            refine pu_cv (vs := [.int (-3)]) (rest := []) pu_g131 ⟨pu_c0, by decide⟩ rfl rfl rfl rfl rfl (pu_CI (pu_I_imp H (fun y22 D23 H => ?_)))
            exact pu_iretI pu_rt124 H
          · replace H := pu_f h21 H
            refine pu_aload rfl ?_
            refine pu_cv (vs := []) (rest := []) pu_g32 ⟨(pu_sh h10), by decide⟩ rfl rfl rfl rfl rfl (pu_CI (pu_I_imp H (fun y24 D25 H => ?_)))
            refine pu_ne0 pu_t124_82 (fun h26 => ?_) (fun h26 => ?_)
            · replace H := pu_f h26 H
              refine pu_iload_n rfl ?_
              refine pu_cs (vs := [.int x3]) (rest := []) pu_g140 rfl rfl rfl rfl rfl (pu_CI (pu_I_imp H (fun y27 D28 H => ?_)))
              refine pu_ne0 pu_t124_96 (fun h29 => ?_) (fun h29 => ?_)
              · replace H := pu_f h29 H
                refine pu_iconst ?_
                refine pu_istore (L' := [.ref 0, .int x1, .int x2, .int x3, .ref (pu_rf 49 x1.toNatClampNeg), .ref (pu_rf 49 x2.toNatClampNeg), .int 0]) (Or.inr rfl) rfl ?_
                exact H _ rfl _ rfl
              · replace H := pu_t h29 H
                refine pu_aload_n rfl ?_
                refine pu_bipush ?_
                refine pu_cv (vs := [.int (-6)]) (rest := []) pu_g131 ⟨pu_c0, by decide⟩ rfl rfl rfl rfl rfl (pu_CI (pu_I_imp H (fun y30 D31 H => ?_)))
                exact pu_iretI pu_rt124 H
            · replace H := pu_t h26 H
              refine pu_aload_n rfl ?_
              refine pu_bipush ?_
              refine pu_cv (vs := [.int (-3)]) (rest := []) pu_g131 ⟨pu_c0, by decide⟩ rfl rfl rfl rfl rfl (pu_CI (pu_I_imp H (fun y32 D33 H => ?_)))
              exact pu_iretI pu_rt124 H
        · replace H := pu_f h18 H
          refine pu_aload_n rfl ?_
          refine pu_bipush ?_
          refine pu_cv (vs := [.int (-2)]) (rest := []) pu_g131 ⟨pu_c0, by decide⟩ rfl rfl rfl rfl rfl (pu_CI (pu_I_imp H (fun y34 D35 H => ?_)))
          exact pu_iretI pu_rt124 H
    · replace H := pu_t h8 H
      refine pu_aload_n rfl ?_
      refine pu_iconst ?_
      refine pu_cv (vs := [.int (-1)]) (rest := []) pu_g131 ⟨pu_c0, by decide⟩ rfl rfl rfl rfl rfl (pu_CI (pu_I_imp H (fun y36 D37 H => ?_)))
      exact pu_iretI pu_rt124 H
/-- LightAlong.act(III)I -/
theorem pu_e125 {X : px_X} {x1 : Int32} {x2 : Int32} {x3 : Int32} {D : pu_D} {P : Int32 → pu_D → Prop} 
    (H : pu_V X 1 [.ref 66] D (fun D2 => pu_I X 138 [.int x1] D2 (fun y3 D4 => if y3 = 0 then (P 0 D4) else ((px_in x1 8 = true) ∧ pu_I X 33 [.ref (pu_rf 49 x1.toNatClampNeg)] D4 (fun y7 D8 => if y7 = 0 then (P 0 D8) else ((px_in x1 8 = true) ∧ (px_in x1 8 = true) ∧ pu_V X 2 [.ref 66, .int (D8.1 (pu_rf 49 x1.toNatClampNeg) 1), .int x1, .int (D8.1 (pu_rf 49 x1.toNatClampNeg) 3)] D8 (fun D13 => if x2 = 0 then (pu_I X 5 [.ref 66, .int x3] D13 (fun y15 D16 => P y15 D16)) else if x2 = 1 then (pu_I X 6 [.ref 66, .int x3] D13 (fun y18 D19 => P y18 D19)) else if x2 = 2 then (pu_I X 7 [.ref 66, .int x3] D13 (fun y21 D22 => P y21 D22)) else (P 0 D13)))))))) :
    pu_I X 125 [.ref 0, .int x1, .int x2, .int x3] D P := by
  refine pu_ent (E := [.ref 0, .int x1, .int x2, .int x3]) pu_n125.1 pu_n125.2 pu_t125_0 rfl ?_
  refine pu_aload_n rfl ?_
  refine pu_getR pu_kr7_8 pu_c0 pu_r0_8 ?_
  refine pu_cv (vs := []) (rest := []) pu_g1 ⟨pu_c66, by decide⟩ rfl rfl rfl rfl rfl (pu_CV (pu_V_imp H (fun D2 H => ?_)))
  refine pu_iload_n rfl ?_
  refine pu_cs (vs := [.int x1]) (rest := []) pu_g138 rfl rfl rfl rfl rfl (pu_CI (pu_I_imp H (fun y3 D4 H => ?_)))
  refine pu_eq0 pu_t125_26 (fun h5 => ?_) (fun h5 => ?_)
  · replace H := pu_t h5 H
    refine pu_iconst ?_
    exact pu_iretI pu_rt125 H
  · replace H := pu_f h5 H
    refine pu_aload_n rfl ?_
    refine pu_getR pu_kr7_4 pu_c0 pu_r0_4 ?_
    refine pu_iload_n rfl ?_
    have h6 := H.1
    refine pu_aal h6 ?_
    replace H := H.2
    refine pu_cv (vs := []) (rest := []) pu_g33 ⟨(pu_sh h6), by decide⟩ rfl rfl rfl rfl rfl (pu_CI (pu_I_imp H (fun y7 D8 H => ?_)))
    refine pu_ne0 pu_t125_28 (fun h9 => ?_) (fun h9 => ?_)
    · replace H := pu_f h9 H
      refine pu_aload_n rfl ?_
      refine pu_getR pu_kr7_8 pu_c0 pu_r0_8 ?_
      refine pu_aload_n rfl ?_
      refine pu_getR pu_kr7_4 pu_c0 pu_r0_4 ?_
      refine pu_iload_n rfl ?_
      have h10 := H.1
      refine pu_aal h10 ?_
      replace H := H.2
      refine pu_getI pu_k3_1 (pu_sh h10) ?_
      refine pu_iload_n rfl ?_
      refine pu_aload_n rfl ?_
      refine pu_getR pu_kr7_4 pu_c0 pu_r0_4 ?_
      refine pu_iload_n rfl ?_
      have h11 := H.1
      refine pu_aal h11 ?_
      replace H := H.2
      refine pu_getI pu_k3_3 (pu_sh h11) ?_
      refine pu_cv (vs := [.int (D8.1 (pu_rf 49 x1.toNatClampNeg) 1), .int x1, .int (D8.1 (pu_rf 49 x1.toNatClampNeg) 3)]) (rest := []) pu_g2 ⟨pu_c66, by decide⟩ rfl rfl rfl rfl rfl (pu_CV (pu_V_imp H (fun D13 H => ?_)))
      refine pu_iload_n rfl ?_
      by_cases h14 : x2 = 0
      · replace H := pu_t h14 H
        refine pu_tswC 0 (25) h14 (by decide +kernel) pu_t125_80 ?_
        refine pu_aload_n rfl ?_
        refine pu_getR pu_kr7_8 pu_c0 pu_r0_8 ?_
        refine pu_iload_n rfl ?_
        refine pu_cv (vs := [.int x3]) (rest := []) pu_g5 ⟨pu_c66, by decide⟩ rfl rfl rfl rfl rfl (pu_CI (pu_I_imp H (fun y15 D16 H => ?_)))
        exact pu_iretI pu_rt125 H
      replace H := pu_f h14 H
      by_cases h17 : x2 = 1
      · replace H := pu_t h17 H
        refine pu_tswC 1 (34) h17 (by decide +kernel) pu_t125_89 ?_
        refine pu_aload_n rfl ?_
        refine pu_getR pu_kr7_8 pu_c0 pu_r0_8 ?_
        refine pu_iload_n rfl ?_
        refine pu_cv (vs := [.int x3]) (rest := []) pu_g6 ⟨pu_c66, by decide⟩ rfl rfl rfl rfl rfl (pu_CI (pu_I_imp H (fun y18 D19 H => ?_)))
        exact pu_iretI pu_rt125 H
      replace H := pu_f h17 H
      by_cases h20 : x2 = 2
      · replace H := pu_t h20 H
        refine pu_tswC 2 (43) h20 (by decide +kernel) pu_t125_98 ?_
        refine pu_aload_n rfl ?_
        refine pu_getR pu_kr7_8 pu_c0 pu_r0_8 ?_
        refine pu_iload_n rfl ?_
        refine pu_cv (vs := [.int x3]) (rest := []) pu_g7 ⟨pu_c66, by decide⟩ rfl rfl rfl rfl rfl (pu_CI (pu_I_imp H (fun y21 D22 H => ?_)))
        exact pu_iretI pu_rt125 H
      replace H := pu_f h20 H
      refine pu_tswD [0, 1, 2] (by simp only [List.mem_cons, List.not_mem_nil, or_false, not_or]; exact ⟨h14, h17, h20⟩) (by decide +kernel) pu_t125_107 ?_
      refine pu_iconst ?_
      exact pu_iretI pu_rt125 H
    · replace H := pu_t h9 H
      refine pu_iconst ?_
      exact pu_iretI pu_rt125 H
/-- LightAlong.trace(I)I -/
theorem pu_e126 {X : px_X} {x1 : Int32} {D : pu_D} {P : Int32 → pu_D → Prop} 
    (H : pu_I X 3 [.ref 66, .int x1] D (fun y1 D2 => P y1 D2)) :
    pu_I X 126 [.ref 0, .int x1] D P := by
  refine pu_ent (E := [.ref 0, .int x1]) pu_n126.1 pu_n126.2 pu_t126_0 rfl ?_
  refine pu_aload_n rfl ?_
  refine pu_getR pu_kr7_8 pu_c0 pu_r0_8 ?_
  refine pu_iload_n rfl ?_
  refine pu_cv (vs := [.int x1]) (rest := []) pu_g3 ⟨pu_c66, by decide⟩ rfl rfl rfl rfl rfl (pu_CI (pu_I_imp H (fun y1 D2 H => ?_)))
  exact pu_iretI pu_rt126 H
/-- LightAlong.image()I -/
theorem pu_e127 {X : px_X}  {D : pu_D} {P : Int32 → pu_D → Prop} 
    (H : pu_V X 46 [.ref 33, .ref 1] D (fun D2 => P ((pu_wi D2 0 3 1).1 5 2) (pu_wi D2 0 3 1))) :
    pu_I X 127 [.ref 0] D P := by
  refine pu_ent (E := [.ref 0]) pu_n127.1 pu_n127.2 pu_t127_0 rfl ?_
  refine pu_aload_n rfl ?_
  refine pu_getR pu_kr7_2 pu_c0 pu_r0_2 ?_
  refine pu_aload_n rfl ?_
  refine pu_getR pu_kr7_0 pu_c0 pu_r0_0 ?_
  refine pu_cv (vs := [.ref 1]) (rest := []) pu_g46 ⟨pu_c33, by decide⟩ rfl rfl rfl rfl rfl (pu_CV (pu_V_imp H (fun D2 H => ?_)))
  refine pu_aload_n rfl ?_
  refine pu_iconst ?_
  refine pu_putZ pu_p7_3 pu_c0 (by decide) ?_
  refine pu_aload_n rfl ?_
  refine pu_getR pu_kr7_0 pu_c0 pu_r0_0 ?_
  refine pu_getR pu_kr4_2 pu_c1 pu_r1_2 ?_
  refine pu_getI pu_k6_2 pu_c5 ?_
  exact pu_iretI pu_rt127 H
/-- LightAlong.restore()I -/
theorem pu_e128 {X : px_X}  {D : pu_D} {P : Int32 → pu_D → Prop} 
    (H : if (D.1 0 3) = 0 then (pu_I X 130 [.ref 0, .int (-6)] D (fun y4 D5 => P y4 D5)) else (pu_V X 46 [.ref 1, .ref 33] D (fun D3 => P (D3.1 5 2) D3))) :
    pu_I X 128 [.ref 0] D P := by
  refine pu_ent (E := [.ref 0]) pu_n128.1 pu_n128.2 pu_t128_0 rfl ?_
  refine pu_aload_n rfl ?_
  refine pu_getI pu_k7_3 pu_c0 ?_
  refine pu_ne0 pu_t128_14 (fun h1 => ?_) (fun h1 => ?_)
  · replace H := pu_f h1 H
    refine pu_aload_n rfl ?_
    refine pu_getR pu_kr7_0 pu_c0 pu_r0_0 ?_
    refine pu_aload_n rfl ?_
    refine pu_getR pu_kr7_2 pu_c0 pu_r0_2 ?_
    refine pu_cv (vs := [.ref 33]) (rest := []) pu_g46 ⟨pu_c1, by decide⟩ rfl rfl rfl rfl rfl (pu_CV (pu_V_imp H (fun D3 H => ?_)))
    refine pu_aload_n rfl ?_
    refine pu_getR pu_kr7_0 pu_c0 pu_r0_0 ?_
    refine pu_getR pu_kr4_2 pu_c1 pu_r1_2 ?_
    refine pu_getI pu_k6_2 pu_c5 ?_
    exact pu_iretI pu_rt128 H
  · replace H := pu_t h1 H
    refine pu_aload_n rfl ?_
    refine pu_bipush ?_
    refine pu_cv (vs := [.int (-6)]) (rest := []) pu_g130 ⟨pu_c0, by decide⟩ rfl rfl rfl rfl rfl (pu_CI (pu_I_imp H (fun y4 D5 H => ?_)))
    exact pu_iretI pu_rt128 H
/-- LightAlong.status(I)I -/
theorem pu_e129 {X : px_X} {x1 : Int32} {D : pu_D} {P : Int32 → pu_D → Prop} 
    (H : if x1 = 0 then (P (D.1 3 2) D) else if x1 = 1 then (P (D.1 5 2) D) else if x1 = 2 then (pu_I X 55 [.ref 1] D (fun y4 D5 => pu_I X 247 [.int y4] D5 (fun y6 D7 => P y6 D7))) else if x1 = 3 then (pu_I X 55 [.ref 1] D (fun y9 D10 => pu_I X 56 [.ref 1] D10 (fun y11 D12 => pu_I X 247 [.int (y9 &&& (y11 ^^^ (-1)))] D12 (fun y13 D14 => P y13 D14)))) else if x1 = 4 then (P (D.1 7 2) D) else if x1 = 5 then (P (D.1 9 2) D) else if x1 = 6 then (P (D.1 11 2) D) else if x1 = 7 then (P (D.1 13 2) D) else if x1 = 8 then (P (D.1 15 2) D) else if x1 = 9 then (P (D.1 66 1) D) else (if 10 < x1 then (if x1 < 18 then ((px_in (x1 - 10) 8 = true) ∧ P (D.1 68 (x1 - 10).toNatClampNeg) D) else (P (-1) D)) else (P (-1) D))) :
    pu_I X 129 [.ref 0, .int x1] D P := by
  refine pu_ent (E := [.ref 0, .int x1]) pu_n129.1 pu_n129.2 pu_t129_0 rfl ?_
  refine pu_iload_n rfl ?_
  by_cases h1 : x1 = 0
  · replace H := pu_t h1 H
    refine pu_tswC 0 (55) h1 (by decide +kernel) pu_t129_56 ?_
    refine pu_aload_n rfl ?_
    refine pu_getR pu_kr7_0 pu_c0 pu_r0_0 ?_
    refine pu_getR pu_kr4_1 pu_c1 pu_r1_1 ?_
    refine pu_getI pu_k6_2 pu_c3 ?_
    exact pu_iretI pu_rt129 H
  replace H := pu_f h1 H
  by_cases h2 : x1 = 1
  · replace H := pu_t h2 H
    refine pu_tswC 1 (66) h2 (by decide +kernel) pu_t129_67 ?_
    refine pu_aload_n rfl ?_
    refine pu_getR pu_kr7_0 pu_c0 pu_r0_0 ?_
    refine pu_getR pu_kr4_2 pu_c1 pu_r1_2 ?_
    refine pu_getI pu_k6_2 pu_c5 ?_
    exact pu_iretI pu_rt129 H
  replace H := pu_f h2 H
  by_cases h3 : x1 = 2
  · replace H := pu_t h3 H
    refine pu_tswC 2 (77) h3 (by decide +kernel) pu_t129_78 ?_
    refine pu_aload_n rfl ?_
    refine pu_getR pu_kr7_0 pu_c0 pu_r0_0 ?_
    refine pu_cv (vs := []) (rest := []) pu_g55 ⟨pu_c1, by decide⟩ rfl rfl rfl rfl rfl (pu_CI (pu_I_imp H (fun y4 D5 H => ?_)))
    refine pu_cs (vs := [.int y4]) (rest := []) pu_g247 rfl rfl rfl rfl rfl (pu_CI (pu_I_imp H (fun y6 D7 H => ?_)))
    exact pu_iretI pu_rt129 H
  replace H := pu_f h3 H
  by_cases h8 : x1 = 3
  · replace H := pu_t h8 H
    refine pu_tswC 3 (88) h8 (by decide +kernel) pu_t129_89 ?_
    refine pu_aload_n rfl ?_
    refine pu_getR pu_kr7_0 pu_c0 pu_r0_0 ?_
    refine pu_cv (vs := []) (rest := []) pu_g55 ⟨pu_c1, by decide⟩ rfl rfl rfl rfl rfl (pu_CI (pu_I_imp H (fun y9 D10 H => ?_)))
    refine pu_aload_n rfl ?_
    refine pu_getR pu_kr7_0 pu_c0 pu_r0_0 ?_
    refine pu_cv (vs := []) (rest := [.int y9]) pu_g56 ⟨pu_c1, by decide⟩ rfl rfl rfl rfl rfl (pu_CI (pu_I_imp H (fun y11 D12 H => ?_)))
    refine pu_iconst ?_
    refine pu_ixor ?_
    refine pu_iand ?_
    refine pu_cs (vs := [.int (y9 &&& (y11 ^^^ (-1)))]) (rest := []) pu_g247 rfl rfl rfl rfl rfl (pu_CI (pu_I_imp H (fun y13 D14 H => ?_)))
    exact pu_iretI pu_rt129 H
  replace H := pu_f h8 H
  by_cases h15 : x1 = 4
  · replace H := pu_t h15 H
    refine pu_tswC 4 (109) h15 (by decide +kernel) pu_t129_110 ?_
    refine pu_aload_n rfl ?_
    refine pu_getR pu_kr7_0 pu_c0 pu_r0_0 ?_
    refine pu_getR pu_kr4_3 pu_c1 pu_r1_3 ?_
    refine pu_getI pu_k6_2 pu_c7 ?_
    exact pu_iretI pu_rt129 H
  replace H := pu_f h15 H
  by_cases h16 : x1 = 5
  · replace H := pu_t h16 H
    refine pu_tswC 5 (120) h16 (by decide +kernel) pu_t129_121 ?_
    refine pu_aload_n rfl ?_
    refine pu_getR pu_kr7_0 pu_c0 pu_r0_0 ?_
    refine pu_getR pu_kr4_4 pu_c1 pu_r1_4 ?_
    refine pu_getI pu_k6_2 pu_c9 ?_
    exact pu_iretI pu_rt129 H
  replace H := pu_f h16 H
  by_cases h17 : x1 = 6
  · replace H := pu_t h17 H
    refine pu_tswC 6 (131) h17 (by decide +kernel) pu_t129_132 ?_
    refine pu_aload_n rfl ?_
    refine pu_getR pu_kr7_0 pu_c0 pu_r0_0 ?_
    refine pu_getR pu_kr4_5 pu_c1 pu_r1_5 ?_
    refine pu_getI pu_k6_2 pu_c11 ?_
    exact pu_iretI pu_rt129 H
  replace H := pu_f h17 H
  by_cases h18 : x1 = 7
  · replace H := pu_t h18 H
    refine pu_tswC 7 (142) h18 (by decide +kernel) pu_t129_143 ?_
    refine pu_aload_n rfl ?_
    refine pu_getR pu_kr7_0 pu_c0 pu_r0_0 ?_
    refine pu_getR pu_kr4_6 pu_c1 pu_r1_6 ?_
    refine pu_getI pu_k6_2 pu_c13 ?_
    exact pu_iretI pu_rt129 H
  replace H := pu_f h18 H
  by_cases h19 : x1 = 8
  · replace H := pu_t h19 H
    refine pu_tswC 8 (153) h19 (by decide +kernel) pu_t129_154 ?_
    refine pu_aload_n rfl ?_
    refine pu_getR pu_kr7_0 pu_c0 pu_r0_0 ?_
    refine pu_getR pu_kr4_7 pu_c1 pu_r1_7 ?_
    refine pu_getI pu_k6_2 pu_c15 ?_
    exact pu_iretI pu_rt129 H
  replace H := pu_f h19 H
  by_cases h20 : x1 = 9
  · replace H := pu_t h20 H
    refine pu_tswC 9 (164) h20 (by decide +kernel) pu_t129_165 ?_
    refine pu_aload_n rfl ?_
    refine pu_getR pu_kr7_8 pu_c0 pu_r0_8 ?_
    refine pu_getI pu_k0_1 pu_c66 ?_
    exact pu_iretI pu_rt129 H
  replace H := pu_f h20 H
  refine pu_tswD [0, 1, 2, 3, 4, 5, 6, 7, 8, 9] (by simp only [List.mem_cons, List.not_mem_nil, or_false, not_or]; exact ⟨h1, h2, h3, h8, h15, h16, h17, h18, h19, h20⟩) (by decide +kernel) pu_t129_173 ?_
  refine pu_iload_n rfl ?_
  refine pu_bipush ?_
  refine pu_le_ pu_t129_197 (fun h21 => ?_) (fun h21 => ?_)
  · replace H := pu_f h21 H
    refine pu_iconst ?_
    exact pu_iretI pu_rt129 H
  · replace H := pu_t h21 H
    refine pu_iload_n rfl ?_
    refine pu_bipush ?_
    refine pu_ge_ pu_t129_197 (fun h22 => ?_) (fun h22 => ?_)
    · replace H := pu_f h22 H
      refine pu_iconst ?_
      exact pu_iretI pu_rt129 H
    · replace H := pu_t h22 H
      refine pu_aload_n rfl ?_
      refine pu_getR pu_kr7_9 pu_c0 pu_r0_9 ?_
      refine pu_iload_n rfl ?_
      refine pu_bipush ?_
      refine pu_isub ?_
      refine pu_ial pu_c68 pu_ln68 H.1 ?_
      replace H := H.2
      refine pu_goto pu_t129_198 ?_
      exact pu_iretI pu_rt129 H
/-- LightAlong.refuse(I)I -/
theorem pu_e130 {X : px_X} {x1 : Int32} {D : pu_D} {P : Int32 → pu_D → Prop} 
    (H : if (-1) < x1 then (P x1 D) else (if x1 < (-7) then (P x1 D) else ((px_in (-x1) 8 = true) ∧ (px_in (-x1) 8 = true) ∧ P x1 (pu_wi D 68 (-x1).toNatClampNeg ((D.1 68 (-x1).toNatClampNeg) + 1))))) :
    pu_I X 130 [.ref 0, .int x1] D P := by
  refine pu_ent (E := [.ref 0, .int x1]) pu_n130.1 pu_n130.2 pu_t130_0 rfl ?_
  refine pu_iload_n rfl ?_
  refine pu_iconst ?_
  refine pu_gt_ pu_t130_22 (fun h1 => ?_) (fun h1 => ?_)
  · replace H := pu_t h1 H
    refine pu_iload_n rfl ?_
    exact pu_iretI pu_rt130 H
  · replace H := pu_f h1 H
    refine pu_iload_n rfl ?_
    refine pu_bipush ?_
    refine pu_lt_ pu_t130_22 (fun h2 => ?_) (fun h2 => ?_)
    · replace H := pu_t h2 H
      refine pu_iload_n rfl ?_
      exact pu_iretI pu_rt130 H
    · replace H := pu_f h2 H
      refine pu_aload_n rfl ?_
      refine pu_getR pu_kr7_9 pu_c0 pu_r0_9 ?_
      refine pu_iload_n rfl ?_
      refine pu_ineg ?_
      refine pu_dup2 rfl rfl ?_
      refine pu_ial pu_c68 pu_ln68 H.1 ?_
      replace H := H.2
      refine pu_iconst ?_
      refine pu_iadd ?_
      refine pu_ias pu_c68 pu_ln68 H.1 ?_
      replace H := H.2
      refine pu_iload_n rfl ?_
      exact pu_iretI pu_rt130 H
/-- LightAlong.refuseApart(I)I -/
theorem pu_e131 {X : px_X} {x1 : Int32} {D : pu_D} {P : Int32 → pu_D → Prop} 
    (H : pu_I X 130 [.ref 0, .int x1] D (fun y1 D2 => P (y1 - 10) D2)) :
    pu_I X 131 [.ref 0, .int x1] D P := by
  refine pu_ent (E := [.ref 0, .int x1]) pu_n131.1 pu_n131.2 pu_t131_0 rfl ?_
  refine pu_aload_n rfl ?_
  refine pu_iload_n rfl ?_
  refine pu_cv (vs := [.int x1]) (rest := []) pu_g130 ⟨pu_c0, by decide⟩ rfl rfl rfl rfl rfl (pu_CI (pu_I_imp H (fun y1 D2 H => ?_)))
  refine pu_bipush ?_
  refine pu_isub ?_
  exact pu_iretI pu_rt131 H
/-- LightAlong.hindranceOfRow(I)I -/
theorem pu_e132 {X : px_X} {x1 : Int32} {D : pu_D} {P : Int32 → pu_D → Prop} 
    (H : pu_I X 138 [.int x1] D (fun y1 D2 => if y1 = 0 then (P (-1) D2) else ((px_in x1 8 = true) ∧ pu_I X 33 [.ref (pu_rf 49 x1.toNatClampNeg)] D2 (fun y5 D6 => if y5 = 0 then ((px_in x1 8 = true) ∧ pu_I X 32 [.ref (pu_rf 49 x1.toNatClampNeg)] D6 (fun y9 D10 => if y9 = 0 then (P (-3) D10) else (P 0 D10))) else (P (-2) D6))))) :
    pu_I X 132 [.ref 0, .int x1] D P := by
  refine pu_ent (E := [.ref 0, .int x1]) pu_n132.1 pu_n132.2 pu_t132_0 rfl ?_
  refine pu_iload_n rfl ?_
  refine pu_cs (vs := [.int x1]) (rest := []) pu_g138 rfl rfl rfl rfl rfl (pu_CI (pu_I_imp H (fun y1 D2 H => ?_)))
  refine pu_ne0 pu_t132_9 (fun h3 => ?_) (fun h3 => ?_)
  · replace H := pu_f h3 H
    refine pu_aload_n rfl ?_
    refine pu_getR pu_kr7_4 pu_c0 pu_r0_4 ?_
    refine pu_iload_n rfl ?_
    have h4 := H.1
    refine pu_aal h4 ?_
    replace H := H.2
    refine pu_cv (vs := []) (rest := []) pu_g33 ⟨(pu_sh h4), by decide⟩ rfl rfl rfl rfl rfl (pu_CI (pu_I_imp H (fun y5 D6 H => ?_)))
    refine pu_eq0 pu_t132_24 (fun h7 => ?_) (fun h7 => ?_)
    · replace H := pu_t h7 H
      refine pu_aload_n rfl ?_
      refine pu_getR pu_kr7_4 pu_c0 pu_r0_4 ?_
      refine pu_iload_n rfl ?_
      have h8 := H.1
      refine pu_aal h8 ?_
      replace H := H.2
      refine pu_cv (vs := []) (rest := []) pu_g32 ⟨(pu_sh h8), by decide⟩ rfl rfl rfl rfl rfl (pu_CI (pu_I_imp H (fun y9 D10 H => ?_)))
      refine pu_eq0 pu_t132_40 (fun h11 => ?_) (fun h11 => ?_)
      · replace H := pu_t h11 H
        refine pu_bipush ?_
        exact pu_iretI pu_rt132 H
      · replace H := pu_f h11 H
        refine pu_iconst ?_
        refine pu_goto pu_t132_42 ?_
        exact pu_iretI pu_rt132 H
    · replace H := pu_f h7 H
      refine pu_bipush ?_
      exact pu_iretI pu_rt132 H
  · replace H := pu_t h3 H
    refine pu_iconst ?_
    exact pu_iretI pu_rt132 H
/-- LightAlong.hindranceOfLaying(I)I -/
theorem pu_e133 {X : px_X} {x1 : Int32} {D : pu_D} {P : Int32 → pu_D → Prop} 
    (H : pu_I X 138 [.int x1] D (fun y1 D2 => if y1 = 0 then (P (-1) D2) else ((px_in x1 8 = true) ∧ pu_I X 32 [.ref (pu_rf 49 x1.toNatClampNeg)] D2 (fun y5 D6 => if y5 = 0 then ((px_in x1 8 = true) ∧ pu_I X 33 [.ref (pu_rf 49 x1.toNatClampNeg)] D6 (fun y9 D10 => if y9 = 0 then (P (-3) D10) else (P 0 D10))) else (P (-2) D6))))) :
    pu_I X 133 [.ref 0, .int x1] D P := by
  refine pu_ent (E := [.ref 0, .int x1]) pu_n133.1 pu_n133.2 pu_t133_0 rfl ?_
  refine pu_iload_n rfl ?_
  refine pu_cs (vs := [.int x1]) (rest := []) pu_g138 rfl rfl rfl rfl rfl (pu_CI (pu_I_imp H (fun y1 D2 H => ?_)))
  refine pu_ne0 pu_t133_9 (fun h3 => ?_) (fun h3 => ?_)
  · replace H := pu_f h3 H
    refine pu_aload_n rfl ?_
    refine pu_getR pu_kr7_4 pu_c0 pu_r0_4 ?_
    refine pu_iload_n rfl ?_
    have h4 := H.1
    refine pu_aal h4 ?_
    replace H := H.2
    refine pu_cv (vs := []) (rest := []) pu_g32 ⟨(pu_sh h4), by decide⟩ rfl rfl rfl rfl rfl (pu_CI (pu_I_imp H (fun y5 D6 H => ?_)))
    refine pu_eq0 pu_t133_24 (fun h7 => ?_) (fun h7 => ?_)
    · replace H := pu_t h7 H
      refine pu_aload_n rfl ?_
      refine pu_getR pu_kr7_4 pu_c0 pu_r0_4 ?_
      refine pu_iload_n rfl ?_
      have h8 := H.1
      refine pu_aal h8 ?_
      replace H := H.2
      refine pu_cv (vs := []) (rest := []) pu_g33 ⟨(pu_sh h8), by decide⟩ rfl rfl rfl rfl rfl (pu_CI (pu_I_imp H (fun y9 D10 H => ?_)))
      refine pu_eq0 pu_t133_40 (fun h11 => ?_) (fun h11 => ?_)
      · replace H := pu_t h11 H
        refine pu_bipush ?_
        exact pu_iretI pu_rt133 H
      · replace H := pu_f h11 H
        refine pu_iconst ?_
        refine pu_goto pu_t133_42 ?_
        exact pu_iretI pu_rt133 H
    · replace H := pu_f h7 H
      refine pu_bipush ?_
      exact pu_iretI pu_rt133 H
  · replace H := pu_t h3 H
    refine pu_iconst ?_
    exact pu_iretI pu_rt133 H
/-- LightAlong.hindranceOfLight(IZZ)I -/
theorem pu_e134 {X : px_X} {x1 : Int32} {x2 : Int32} {x3 : Int32} {D : pu_D} {P : Int32 → pu_D → Prop} 
    (H : if x2 = 0 then (P (-1) D) else (pu_I X 133 [.ref 0, .int x1] D (fun y2 D3 => if y2 = 0 then (if x3 = 0 then (P (-6) D3) else (P 0 D3)) else (P y2 D3)))) :
    pu_I X 134 [.ref 0, .int x1, .int x2, .int x3] D P := by
  refine pu_ent (E := [.ref 0, .int x1, .int x2, .int x3, .null]) pu_n134.1 pu_n134.2 pu_t134_0 rfl ?_
  refine pu_iload_n rfl ?_
  refine pu_ne0 pu_t134_6 (fun h1 => ?_) (fun h1 => ?_)
  · replace H := pu_f h1 H
    refine pu_aload_n rfl ?_
    refine pu_iload_n rfl ?_
    refine pu_cv (vs := [.int x1]) (rest := []) pu_g133 ⟨pu_c0, by decide⟩ rfl rfl rfl rfl rfl (pu_CI (pu_I_imp H (fun y2 D3 H => ?_)))
    refine pu_istore (L' := [.ref 0, .int x1, .int x2, .int x3, .int y2]) (Or.inr rfl) rfl ?_
    refine pu_iload rfl ?_
    refine pu_eq0 pu_t134_21 (fun h4 => ?_) (fun h4 => ?_)
    · replace H := pu_t h4 H
      refine pu_iload_n rfl ?_
      refine pu_eq0 pu_t134_29 (fun h5 => ?_) (fun h5 => ?_)
      · replace H := pu_t h5 H
        refine pu_bipush ?_
        exact pu_iretI pu_rt134 H
      · replace H := pu_f h5 H
        refine pu_iconst ?_
        refine pu_goto pu_t134_31 ?_
        exact pu_iretI pu_rt134 H
    · replace H := pu_f h4 H
      refine pu_iload rfl ?_
      exact pu_iretI pu_rt134 H
  · replace H := pu_t h1 H
    refine pu_iconst ?_
    exact pu_iretI pu_rt134 H
/-- LightAlong.chosen(III)I -/
theorem pu_e135 {X : px_X} {x1 : Int32} {x2 : Int32} {x3 : Int32} {D : pu_D} {P : Int32 → pu_D → Prop} 
    (H : pu_I X 81 [.ref 3, .int x1] D (fun y1 D2 => if y1 = 0 then (pu_I X 130 [.ref 0, .int (-1)] D2 (fun y16 D17 => P y16 D17)) else (pu_I X 140 [.int x2] D2 (fun y4 D5 => if y4 = 0 then (pu_I X 130 [.ref 0, .int (-6)] D5 (fun y14 D15 => P y14 D15)) else (pu_V X 9 [.ref 56, .ref 1, .int x1, .int x2] D5 (fun D8 => pu_I X 10 [.ref 56, .ref 1, .int x3] D8 (fun y9 D10 => if y9 = (-1) then (pu_I X 130 [.ref 0, .int (-5)] D10 (fun y12 D13 => P y12 D13)) else (P y9 D10)))))))) :
    pu_I X 135 [.ref 0, .int x1, .int x2, .int x3] D P := by
  refine pu_ent (E := [.ref 0, .int x1, .int x2, .int x3, .null]) pu_n135.1 pu_n135.2 pu_t135_0 rfl ?_
  refine pu_aload_n rfl ?_
  refine pu_getR pu_kr7_0 pu_c0 pu_r0_0 ?_
  refine pu_getR pu_kr4_1 pu_c1 pu_r1_1 ?_
  refine pu_iload_n rfl ?_
  refine pu_cv (vs := [.int x1]) (rest := []) pu_g81 ⟨pu_c3, by decide⟩ rfl rfl rfl rfl rfl (pu_CI (pu_I_imp H (fun y1 D2 H => ?_)))
  refine pu_ne0 pu_t135_20 (fun h3 => ?_) (fun h3 => ?_)
  · replace H := pu_f h3 H
    refine pu_iload_n rfl ?_
    refine pu_cs (vs := [.int x2]) (rest := []) pu_g140 rfl rfl rfl rfl rfl (pu_CI (pu_I_imp H (fun y4 D5 H => ?_)))
    refine pu_ne0 pu_t135_34 (fun h6 => ?_) (fun h6 => ?_)
    · replace H := pu_f h6 H
      refine pu_aload_n rfl ?_
      refine pu_getR pu_kr7_7 pu_c0 pu_r0_7 ?_
      refine pu_aload_n rfl ?_
      refine pu_getR pu_kr7_0 pu_c0 pu_r0_0 ?_
      refine pu_iload_n rfl ?_
      refine pu_iload_n rfl ?_
      refine pu_cv (vs := [.ref 1, .int x1, .int x2]) (rest := []) pu_g9 ⟨pu_c56, by decide⟩ rfl rfl rfl rfl rfl (pu_CV (pu_V_imp H (fun D8 H => ?_)))
      refine pu_aload_n rfl ?_
      refine pu_getR pu_kr7_7 pu_c0 pu_r0_7 ?_
      refine pu_aload_n rfl ?_
      refine pu_getR pu_kr7_0 pu_c0 pu_r0_0 ?_
      refine pu_iload_n rfl ?_
      refine pu_cv (vs := [.ref 1, .int x3]) (rest := []) pu_g10 ⟨pu_c56, by decide⟩ rfl rfl rfl rfl rfl (pu_CI (pu_I_imp H (fun y9 D10 H => ?_)))
      refine pu_istore (L' := [.ref 0, .int x1, .int x2, .int x3, .int y9]) (Or.inr rfl) rfl ?_
      refine pu_iload rfl ?_
      refine pu_iconst ?_
      refine pu_ne_ pu_t135_76 (fun h11 => ?_) (fun h11 => ?_)
      · replace H := pu_f h11 H
        refine pu_iload rfl ?_
        exact pu_iretI pu_rt135 H
      · replace H := pu_t h11 H
        refine pu_aload_n rfl ?_
        refine pu_bipush ?_
        refine pu_cv (vs := [.int (-5)]) (rest := []) pu_g130 ⟨pu_c0, by decide⟩ rfl rfl rfl rfl rfl (pu_CI (pu_I_imp H (fun y12 D13 H => ?_)))
        refine pu_goto pu_t135_78 ?_
        exact pu_iretI pu_rt135 H
    · replace H := pu_t h6 H
      refine pu_aload_n rfl ?_
      refine pu_bipush ?_
      refine pu_cv (vs := [.int (-6)]) (rest := []) pu_g130 ⟨pu_c0, by decide⟩ rfl rfl rfl rfl rfl (pu_CI (pu_I_imp H (fun y14 D15 H => ?_)))
      exact pu_iretI pu_rt135 H
  · replace H := pu_t h3 H
    refine pu_aload_n rfl ?_
    refine pu_iconst ?_
    refine pu_cv (vs := [.int (-1)]) (rest := []) pu_g130 ⟨pu_c0, by decide⟩ rfl rfl rfl rfl rfl (pu_CI (pu_I_imp H (fun y16 D17 H => ?_)))
    exact pu_iretI pu_rt135 H
/-- LightAlong.lightAt(LLightAlong$Shelf;III)I -/
theorem pu_e136 {X : px_X} {q1 : Nat} {x2 : Int32} {x3 : Int32} {x4 : Int32} {D : pu_D} {P : Int32 → pu_D → Prop} (hq1 : pu_cl q1 = 3)
    (H : pu_I X 57 [.ref 1, .ref q1] D (fun y1 D2 => pu_I X 44 [.ref q1, .int x4] D2 (fun y3 D4 => pu_I X 64 [.ref 1, .int y1, .int y3, .int x2, .int x3] D4 (fun y5 D6 => pu_I X 68 [.ref 1, .int x2, .int x4] D6 (fun y7 D8 => P (y5 + y7) D8))))) :
    pu_I X 136 [.ref 0, .ref q1, .int x2, .int x3, .int x4] D P := by
  refine pu_ent (E := [.ref 0, .ref q1, .int x2, .int x3, .int x4, .null]) pu_n136.1 pu_n136.2 pu_t136_0 rfl ?_
  refine pu_aload_n rfl ?_
  refine pu_getR pu_kr7_0 pu_c0 pu_r0_0 ?_
  refine pu_aload_n rfl ?_
  refine pu_getR pu_kr7_0 pu_c0 pu_r0_0 ?_
  refine pu_aload_n rfl ?_
  refine pu_cv (vs := [.ref q1]) (rest := [.ref 1]) pu_g57 ⟨pu_c1, by decide⟩ rfl rfl rfl rfl rfl (pu_CI (pu_I_imp H (fun y1 D2 H => ?_)))
  refine pu_aload_n rfl ?_
  refine pu_iload rfl ?_
  refine pu_cv (vs := [.int x4]) (rest := [.int y1, .ref 1]) pu_g44 ⟨hq1, by decide⟩ rfl rfl rfl rfl rfl (pu_CI (pu_I_imp H (fun y3 D4 H => ?_)))
  refine pu_iload_n rfl ?_
  refine pu_iload_n rfl ?_
  refine pu_cv (vs := [.int y1, .int y3, .int x2, .int x3]) (rest := []) pu_g64 ⟨pu_c1, by decide⟩ rfl rfl rfl rfl rfl (pu_CI (pu_I_imp H (fun y5 D6 H => ?_)))
  refine pu_istore (L' := [.ref 0, .ref q1, .int x2, .int x3, .int x4, .int y5]) (Or.inr rfl) rfl ?_
  refine pu_iload rfl ?_
  refine pu_aload_n rfl ?_
  refine pu_getR pu_kr7_0 pu_c0 pu_r0_0 ?_
  refine pu_iload_n rfl ?_
  refine pu_iload rfl ?_
  refine pu_cv (vs := [.int x2, .int x4]) (rest := [.int y5]) pu_g68 ⟨pu_c1, by decide⟩ rfl rfl rfl rfl rfl (pu_CI (pu_I_imp H (fun y7 D8 H => ?_)))
  refine pu_iadd ?_
  exact pu_iretI pu_rt136 H
/-- LightAlong.brokenRule(LLightAlong$Shelf;II)I -/
theorem pu_e137 {X : px_X} {q1 : Nat} {x2 : Int32} {x3 : Int32} {D : pu_D} {P : Int32 → pu_D → Prop} (hq1 : pu_cl q1 = 3)
    (H : pu_I X 57 [.ref 1, .ref q1] D (fun y1 D2 => pu_I X 44 [.ref q1, .int x3] D2 (fun y3 D4 => pu_V X 21 [.ref 52, .ref 1, .int y1, .int y3, .int x2] D4 (fun D6 => pu_V X 22 [.ref 52, .ref 1, .int x3] D6 (fun D8 => pu_I X 23 [.ref 52, .ref 1] D8 (fun y9 D10 => P y9 D10)))))) :
    pu_I X 137 [.ref 0, .ref q1, .int x2, .int x3] D P := by
  refine pu_ent (E := [.ref 0, .ref q1, .int x2, .int x3]) pu_n137.1 pu_n137.2 pu_t137_0 rfl ?_
  refine pu_aload_n rfl ?_
  refine pu_getR pu_kr7_6 pu_c0 pu_r0_6 ?_
  refine pu_aload_n rfl ?_
  refine pu_getR pu_kr7_0 pu_c0 pu_r0_0 ?_
  refine pu_aload_n rfl ?_
  refine pu_getR pu_kr7_0 pu_c0 pu_r0_0 ?_
  refine pu_aload_n rfl ?_
  refine pu_cv (vs := [.ref q1]) (rest := [.ref 1, .ref 52]) pu_g57 ⟨pu_c1, by decide⟩ rfl rfl rfl rfl rfl (pu_CI (pu_I_imp H (fun y1 D2 H => ?_)))
  refine pu_aload_n rfl ?_
  refine pu_iload_n rfl ?_
  refine pu_cv (vs := [.int x3]) (rest := [.int y1, .ref 1, .ref 52]) pu_g44 ⟨hq1, by decide⟩ rfl rfl rfl rfl rfl (pu_CI (pu_I_imp H (fun y3 D4 H => ?_)))
  refine pu_iload_n rfl ?_
  refine pu_cv (vs := [.ref 1, .int y1, .int y3, .int x2]) (rest := []) pu_g21 ⟨pu_c52, by decide⟩ rfl rfl rfl rfl rfl (pu_CV (pu_V_imp H (fun D6 H => ?_)))
  refine pu_aload_n rfl ?_
  refine pu_getR pu_kr7_6 pu_c0 pu_r0_6 ?_
  refine pu_aload_n rfl ?_
  refine pu_getR pu_kr7_0 pu_c0 pu_r0_0 ?_
  refine pu_iload_n rfl ?_
  refine pu_cv (vs := [.ref 1, .int x3]) (rest := []) pu_g22 ⟨pu_c52, by decide⟩ rfl rfl rfl rfl rfl (pu_CV (pu_V_imp H (fun D8 H => ?_)))
  refine pu_aload_n rfl ?_
  refine pu_getR pu_kr7_6 pu_c0 pu_r0_6 ?_
  refine pu_aload_n rfl ?_
  refine pu_getR pu_kr7_0 pu_c0 pu_r0_0 ?_
  refine pu_cv (vs := [.ref 1]) (rest := []) pu_g23 ⟨pu_c52, by decide⟩ rfl rfl rfl rfl rfl (pu_CI (pu_I_imp H (fun y9 D10 H => ?_)))
  exact pu_iretI pu_rt137 H
/-- LightAlong.isShelf(I)Z -/
theorem pu_e138 {X : px_X} {x0 : Int32} {D : pu_D} {P : Int32 → pu_D → Prop} 
    (H : if x0 < 0 then (P 0 D) else (if x0 < 8 then (P 1 D) else (P 0 D))) :
    pu_I X 138 [.int x0] D P := by
  refine pu_ent (E := [.int x0]) pu_n138.1 pu_n138.2 pu_t138_0 rfl ?_
  refine pu_iload_n rfl ?_
  refine pu_lt0 pu_t138_14 (fun h1 => ?_) (fun h1 => ?_)
  · replace H := pu_t h1 H
    refine pu_iconst ?_
    exact pu_iretZ pu_rt138 (by decide) H
  · replace H := pu_f h1 H
    refine pu_iload_n rfl ?_
    refine pu_bipush ?_
    refine pu_ge_ pu_t138_14 (fun h2 => ?_) (fun h2 => ?_)
    · replace H := pu_f h2 H
      refine pu_iconst ?_
      exact pu_iretZ pu_rt138 (by decide) H
    · replace H := pu_t h2 H
      refine pu_iconst ?_
      refine pu_goto pu_t138_15 ?_
      exact pu_iretZ pu_rt138 (by decide) H
/-- LightAlong.isPoint(I)Z -/
theorem pu_e139 {X : px_X} {x0 : Int32} {D : pu_D} {P : Int32 → pu_D → Prop} 
    (H : if x0 < 0 then (P 0 D) else (if x0 < 120 then (P 1 D) else (P 0 D))) :
    pu_I X 139 [.int x0] D P := by
  refine pu_ent (E := [.int x0]) pu_n139.1 pu_n139.2 pu_t139_0 rfl ?_
  refine pu_iload_n rfl ?_
  refine pu_lt0 pu_t139_14 (fun h1 => ?_) (fun h1 => ?_)
  · replace H := pu_t h1 H
    refine pu_iconst ?_
    exact pu_iretZ pu_rt139 (by decide) H
  · replace H := pu_f h1 H
    refine pu_iload_n rfl ?_
    refine pu_bipush ?_
    refine pu_ge_ pu_t139_14 (fun h2 => ?_) (fun h2 => ?_)
    · replace H := pu_f h2 H
      refine pu_iconst ?_
      exact pu_iretZ pu_rt139 (by decide) H
    · replace H := pu_t h2 H
      refine pu_iconst ?_
      refine pu_goto pu_t139_15 ?_
      exact pu_iretZ pu_rt139 (by decide) H
/-- LightAlong.isMonth(I)Z -/
theorem pu_e140 {X : px_X} {x0 : Int32} {D : pu_D} {P : Int32 → pu_D → Prop} 
    (H : if x0 < 0 then (P 0 D) else (if x0 < 12 then (P 1 D) else (P 0 D))) :
    pu_I X 140 [.int x0] D P := by
  refine pu_ent (E := [.int x0]) pu_n140.1 pu_n140.2 pu_t140_0 rfl ?_
  refine pu_iload_n rfl ?_
  refine pu_lt0 pu_t140_14 (fun h1 => ?_) (fun h1 => ?_)
  · replace H := pu_t h1 H
    refine pu_iconst ?_
    exact pu_iretZ pu_rt140 (by decide) H
  · replace H := pu_f h1 H
    refine pu_iload_n rfl ?_
    refine pu_bipush ?_
    refine pu_ge_ pu_t140_14 (fun h2 => ?_) (fun h2 => ?_)
    · replace H := pu_f h2 H
      refine pu_iconst ?_
      exact pu_iretZ pu_rt140 (by decide) H
    · replace H := pu_t h2 H
      refine pu_iconst ?_
      refine pu_goto pu_t140_15 ?_
      exact pu_iretZ pu_rt140 (by decide) H
/-- LightAlong.isHour(I)Z -/
theorem pu_e141 {X : px_X} {x0 : Int32} {D : pu_D} {P : Int32 → pu_D → Prop} 
    (H : if x0 < 0 then (P 0 D) else (if x0 < 12 then (P 1 D) else (P 0 D))) :
    pu_I X 141 [.int x0] D P := by
  refine pu_ent (E := [.int x0]) pu_n141.1 pu_n141.2 pu_t141_0 rfl ?_
  refine pu_iload_n rfl ?_
  refine pu_lt0 pu_t141_14 (fun h1 => ?_) (fun h1 => ?_)
  · replace H := pu_t h1 H
    refine pu_iconst ?_
    exact pu_iretZ pu_rt141 (by decide) H
  · replace H := pu_f h1 H
    refine pu_iload_n rfl ?_
    refine pu_bipush ?_
    refine pu_ge_ pu_t141_14 (fun h2 => ?_) (fun h2 => ?_)
    · replace H := pu_f h2 H
      refine pu_iconst ?_
      exact pu_iretZ pu_rt141 (by decide) H
    · replace H := pu_t h2 H
      refine pu_iconst ?_
      refine pu_goto pu_t141_15 ?_
      exact pu_iretZ pu_rt141 (by decide) H
/-- LightAlong.isIn(II)Z -/
theorem pu_e142 {X : px_X} {x0 : Int32} {x1 : Int32} {D : pu_D} {P : Int32 → pu_D → Prop} 
    (H : if ((x0 >>> (x1 &&& 31)) &&& 1) = 0 then (P 0 D) else (P 1 D)) :
    pu_I X 142 [.int x0, .int x1] D P := by
  refine pu_ent (E := [.int x0, .int x1]) pu_n142.1 pu_n142.2 pu_t142_0 rfl ?_
  refine pu_iload_n rfl ?_
  refine pu_iload_n rfl ?_
  refine pu_ishr ?_
  refine pu_iconst ?_
  refine pu_iand ?_
  refine pu_eq0 pu_t142_12 (fun h1 => ?_) (fun h1 => ?_)
  · replace H := pu_t h1 H
    refine pu_iconst ?_
    exact pu_iretZ pu_rt142 (by decide) H
  · replace H := pu_f h1 H
    refine pu_iconst ?_
    refine pu_goto pu_t142_13 ?_
    exact pu_iretZ pu_rt142 (by decide) H
/-- LightAlong.yardOf(I)I -/
theorem pu_e143 {X : px_X} {x0 : Int32} {D : pu_D} {P : Int32 → pu_D → Prop} 
    (H : P (x0 >>> (1 &&& 31)) D) :
    pu_I X 143 [.int x0] D P := by
  refine pu_ent (E := [.int x0]) pu_n143.1 pu_n143.2 pu_t143_0 rfl ?_
  refine pu_iload_n rfl ?_
  refine pu_iconst ?_
  refine pu_ishr ?_
  exact pu_iretI pu_rt143 H
/-- LightAlong.sideOf(I)I -/
theorem pu_e144 {X : px_X} {x0 : Int32} {D : pu_D} {P : Int32 → pu_D → Prop} 
    (H : P (x0 &&& 1) D) :
    pu_I X 144 [.int x0] D P := by
  refine pu_ent (E := [.int x0]) pu_n144.1 pu_n144.2 pu_t144_0 rfl ?_
  refine pu_iload_n rfl ?_
  refine pu_iconst ?_
  refine pu_iand ?_
  exact pu_iretI pu_rt144 H
/-- LightAlong.mayBe(III)Z -/
theorem pu_e145 {X : px_X} {x0 : Int32} {x1 : Int32} {x2 : Int32} {D : pu_D} {P : Int32 → pu_D → Prop} 
    (H : if ((x0 * 4) + x1) < 0 then (P 0 D) else (if ((x0 * 4) + x1) < 44 then (if ((x0 * 4) + x1) < 44 then ((px_in ((x0 * 4) + x1) 44 = true) ∧ if x2 < (pu_sa 0 ((x0 * 4) + x1).toNatClampNeg) then (P 0 D) else ((px_in ((x0 * 4) + x1) 44 = true) ∧ if (pu_sa 1 ((x0 * 4) + x1).toNatClampNeg) < x2 then (P 0 D) else (P 1 D))) else (P 0 D)) else (P 0 D))) :
    pu_I X 145 [.int x0, .int x1, .int x2] D P := by
  refine pu_ent (E := [.int x0, .int x1, .int x2, .null]) pu_n145.1 pu_n145.2 pu_t145_0 rfl ?_
  refine pu_iload_n rfl ?_
  refine pu_iconst ?_
  refine pu_imul ?_
  refine pu_iload_n rfl ?_
  refine pu_iadd ?_
  refine pu_istore_n (L' := [.int x0, .int x1, .int x2, .int ((x0 * 4) + x1)]) (Or.inr rfl) rfl ?_
  refine pu_iload_n rfl ?_
  refine pu_lt0 pu_t145_26 (fun h1 => ?_) (fun h1 => ?_)
  · replace H := pu_t h1 H
    refine pu_iconst ?_
    exact pu_iretZ pu_rt145 (by decide) H
  · replace H := pu_f h1 H
    refine pu_iload_n rfl ?_
    refine pu_gsA (by decide) rfl ?_
    refine pu_alenA (y := 44) (by decide) (by decide +kernel) ?_
    refine pu_ge_ pu_t145_26 (fun h2 => ?_) (fun h2 => ?_)
    · replace H := pu_f h2 H
      refine pu_iconst ?_
      exact pu_iretZ pu_rt145 (by decide) H
    · replace H := pu_t h2 H
      refine pu_iload_n rfl ?_
      refine pu_gsA (by decide) rfl ?_
      refine pu_alenA (y := 44) (by decide) (by decide +kernel) ?_
      refine pu_lt_ pu_t145_28 (fun h3 => ?_) (fun h3 => ?_)
      · replace H := pu_t h3 H
        refine pu_iload_n rfl ?_
        refine pu_gsA (by decide) rfl ?_
        refine pu_iload_n rfl ?_
        refine pu_ialA (m := 44) (by decide) (by decide +kernel) H.1 ?_
        replace H := H.2
        refine pu_lt_ pu_t145_50 (fun h4 => ?_) (fun h4 => ?_)
        · replace H := pu_t h4 H
          refine pu_iconst ?_
          exact pu_iretZ pu_rt145 (by decide) H
        · replace H := pu_f h4 H
          refine pu_iload_n rfl ?_
          refine pu_gsA (by decide) rfl ?_
          refine pu_iload_n rfl ?_
          refine pu_ialA (m := 44) (by decide) (by decide +kernel) H.1 ?_
          replace H := H.2
          refine pu_gt_ pu_t145_50 (fun h5 => ?_) (fun h5 => ?_)
          · replace H := pu_t h5 H
            refine pu_iconst ?_
            exact pu_iretZ pu_rt145 (by decide) H
          · replace H := pu_f h5 H
            refine pu_iconst ?_
            refine pu_goto pu_t145_51 ?_
            exact pu_iretZ pu_rt145 (by decide) H
      · replace H := pu_f h3 H
        refine pu_iconst ?_
        exact pu_iretZ pu_rt145 (by decide) H
/-- LightAlong.mayBeBy(II)Z -/
theorem pu_e146 {X : px_X} {x0 : Int32} {x1 : Int32} {D : pu_D} {P : Int32 → pu_D → Prop} 
    (H : if x0 = 1 then (if x1 = 0 then (P 1 D) else (if x1 = 1 then (P 1 D) else (P 0 D))) else if x0 = 3 then (if x1 = 0 then (P 1 D) else (if x1 = 1 then (P 1 D) else (P 0 D))) else if x0 = 4 then (pu_I X 141 [.int x1] D (fun y8 D9 => (y8 &&& 1 = y8) ∧ P y8 D9)) else if x0 = 6 then (if x1 < 0 then (P 0 D) else (if x1 < 512 then (P 1 D) else (P 0 D))) else (P 1 D)) :
    pu_I X 146 [.int x0, .int x1] D P := by
  refine pu_ent (E := [.int x0, .int x1]) pu_n146.1 pu_n146.2 pu_t146_0 rfl ?_
  refine pu_iload_n rfl ?_
  by_cases h1 : x0 = 1
  · replace H := pu_t h1 H
    refine pu_tswC 1 (39) h1 (by decide +kernel) pu_t146_40 ?_
    refine pu_iload_n rfl ?_
    refine pu_eq0 pu_t146_49 (fun h2 => ?_) (fun h2 => ?_)
    · replace H := pu_t h2 H
      refine pu_iconst ?_
      refine pu_goto pu_t146_54 ?_
      exact pu_iretZ pu_rt146 (by decide) H
    · replace H := pu_f h2 H
      refine pu_iload_n rfl ?_
      refine pu_iconst ?_
      refine pu_ne_ pu_t146_53 (fun h3 => ?_) (fun h3 => ?_)
      · replace H := pu_f h3 H
        refine pu_iconst ?_
        exact pu_iretZ pu_rt146 (by decide) H
      · replace H := pu_t h3 H
        refine pu_iconst ?_
        refine pu_goto pu_t146_54 ?_
        exact pu_iretZ pu_rt146 (by decide) H
  replace H := pu_f h1 H
  by_cases h4 : x0 = 3
  · replace H := pu_t h4 H
    refine pu_tswC 3 (39) h4 (by decide +kernel) pu_t146_40 ?_
    refine pu_iload_n rfl ?_
    refine pu_eq0 pu_t146_49 (fun h5 => ?_) (fun h5 => ?_)
    · replace H := pu_t h5 H
      refine pu_iconst ?_
      refine pu_goto pu_t146_54 ?_
      exact pu_iretZ pu_rt146 (by decide) H
    · replace H := pu_f h5 H
      refine pu_iload_n rfl ?_
      refine pu_iconst ?_
      refine pu_ne_ pu_t146_53 (fun h6 => ?_) (fun h6 => ?_)
      · replace H := pu_f h6 H
        refine pu_iconst ?_
        exact pu_iretZ pu_rt146 (by decide) H
      · replace H := pu_t h6 H
        refine pu_iconst ?_
        refine pu_goto pu_t146_54 ?_
        exact pu_iretZ pu_rt146 (by decide) H
  replace H := pu_f h4 H
  by_cases h7 : x0 = 4
  · replace H := pu_t h7 H
    refine pu_tswC 4 (54) h7 (by decide +kernel) pu_t146_55 ?_
    refine pu_iload_n rfl ?_
    refine pu_cs (vs := [.int x1]) (rest := []) pu_g141 rfl rfl rfl rfl rfl (pu_CI (pu_I_imp H (fun y8 D9 H => ?_)))
    exact pu_iretZ pu_rt146 H.1 H.2
  replace H := pu_f h7 H
  by_cases h10 : x0 = 6
  · replace H := pu_t h10 H
    refine pu_tswC 6 (59) h10 (by decide +kernel) pu_t146_60 ?_
    refine pu_iload_n rfl ?_
    refine pu_lt0 pu_t146_75 (fun h11 => ?_) (fun h11 => ?_)
    · replace H := pu_t h11 H
      refine pu_iconst ?_
      exact pu_iretZ pu_rt146 (by decide) H
    · replace H := pu_f h11 H
      refine pu_iload_n rfl ?_
      refine pu_sipush ?_
      refine pu_ge_ pu_t146_75 (fun h12 => ?_) (fun h12 => ?_)
      · replace H := pu_f h12 H
        refine pu_iconst ?_
        exact pu_iretZ pu_rt146 (by decide) H
      · replace H := pu_t h12 H
        refine pu_iconst ?_
        refine pu_goto pu_t146_76 ?_
        exact pu_iretZ pu_rt146 (by decide) H
  replace H := pu_f h10 H
  refine pu_tswD [1, 3, 4, 6] (by simp only [List.mem_cons, List.not_mem_nil, or_false, not_or]; exact ⟨h1, h4, h7, h10⟩) (by decide +kernel) pu_t146_77 ?_
  refine pu_iconst ?_
  exact pu_iretZ pu_rt146 (by decide) H
/-- LightAlong.wordOf(I)Ljava/lang/String; -/
theorem pu_e147 {X : px_X} {x0 : Int32} {D : pu_D} {P : Nat → pu_D → Prop} 
    (H : if x0 = 0 then (P 1000 D) else if x0 = 1 then (P 1001 D) else if x0 = 2 then (P 1002 D) else if x0 = 3 then (P 1003 D) else if x0 = 4 then (P 1004 D) else if x0 = 5 then (P 1005 D) else if x0 = 6 then (P 1006 D) else if x0 = 7 then (P 1007 D) else if x0 = 8 then (P 1008 D) else if x0 = 9 then (P 1009 D) else (P 1010 D)) :
    pu_R X 147 [.int x0] D P := by
  refine pu_ent (E := [.int x0]) pu_n147.1 pu_n147.2 pu_t147_0 rfl ?_
  refine pu_iload_n rfl ?_
  by_cases h1 : x0 = 0
  · replace H := pu_t h1 H
    refine pu_tswC 0 (55) h1 (by decide +kernel) pu_t147_56 ?_
    refine pu_ldcR_w (by decide) ?_
    exact pu_aret (by decide +kernel) H
  replace H := pu_f h1 H
  by_cases h2 : x0 = 1
  · replace H := pu_t h2 H
    refine pu_tswC 1 (59) h2 (by decide +kernel) pu_t147_60 ?_
    refine pu_ldcR_w (by decide) ?_
    exact pu_aret (by decide +kernel) H
  replace H := pu_f h2 H
  by_cases h3 : x0 = 2
  · replace H := pu_t h3 H
    refine pu_tswC 2 (63) h3 (by decide +kernel) pu_t147_64 ?_
    refine pu_ldcR_w (by decide) ?_
    exact pu_aret (by decide +kernel) H
  replace H := pu_f h3 H
  by_cases h4 : x0 = 3
  · replace H := pu_t h4 H
    refine pu_tswC 3 (67) h4 (by decide +kernel) pu_t147_68 ?_
    refine pu_ldcR_w (by decide) ?_
    exact pu_aret (by decide +kernel) H
  replace H := pu_f h4 H
  by_cases h5 : x0 = 4
  · replace H := pu_t h5 H
    refine pu_tswC 4 (71) h5 (by decide +kernel) pu_t147_72 ?_
    refine pu_ldcR_w (by decide) ?_
    exact pu_aret (by decide +kernel) H
  replace H := pu_f h5 H
  by_cases h6 : x0 = 5
  · replace H := pu_t h6 H
    refine pu_tswC 5 (75) h6 (by decide +kernel) pu_t147_76 ?_
    refine pu_ldcR_w (by decide) ?_
    exact pu_aret (by decide +kernel) H
  replace H := pu_f h6 H
  by_cases h7 : x0 = 6
  · replace H := pu_t h7 H
    refine pu_tswC 6 (79) h7 (by decide +kernel) pu_t147_80 ?_
    refine pu_ldcR_w (by decide) ?_
    exact pu_aret (by decide +kernel) H
  replace H := pu_f h7 H
  by_cases h8 : x0 = 7
  · replace H := pu_t h8 H
    refine pu_tswC 7 (83) h8 (by decide +kernel) pu_t147_84 ?_
    refine pu_ldcR_w (by decide) ?_
    exact pu_aret (by decide +kernel) H
  replace H := pu_f h8 H
  by_cases h9 : x0 = 8
  · replace H := pu_t h9 H
    refine pu_tswC 8 (87) h9 (by decide +kernel) pu_t147_88 ?_
    refine pu_ldcR_w (by decide) ?_
    exact pu_aret (by decide +kernel) H
  replace H := pu_f h9 H
  by_cases h10 : x0 = 9
  · replace H := pu_t h10 H
    refine pu_tswC 9 (91) h10 (by decide +kernel) pu_t147_92 ?_
    refine pu_ldcR_w (by decide) ?_
    exact pu_aret (by decide +kernel) H
  replace H := pu_f h10 H
  refine pu_tswD [0, 1, 2, 3, 4, 5, 6, 7, 8, 9] (by simp only [List.mem_cons, List.not_mem_nil, or_false, not_or]; exact ⟨h1, h2, h3, h4, h5, h6, h7, h8, h9, h10⟩) (by decide +kernel) pu_t147_96 ?_
  refine pu_ldcR_w (by decide) ?_
  exact pu_aret (by decide +kernel) H
