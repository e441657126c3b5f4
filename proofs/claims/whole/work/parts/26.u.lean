/-! WHAT MUST HOLD AHEAD OF EACH METHOD, by program. -/
/-- LightAlongModel.burns(III)I -/
def pu_h202_14 (X : px_X) (x1 : Int32) (x2 : Int32) (x3 : Int32) (x4 : Int32) (x5 : Int32) (x6 : Int32) (x7 : Int32) (D : pu_D) (P : Int32 → pu_D → Prop) : Prop := ∀ z8 : Value, z8.category = 1 → ∀ z9 : Value, z9.category = 1 → pu_W X 202 (0, 0) px_c202_14 [.ref 85, .int x1, .int x2, .int x3, .int x4, .int x5, .int x6, .int x7, z8, z9] [] D (pu_qi P)
def pu_h202_103 (X : px_X) (x1 : Int32) (x2 : Int32) (x3 : Int32) (x4 : Int32) (x5 : Int32) (x6 : Int32) (x7 : Int32) (x8 : Int32) (D : pu_D) (P : Int32 → pu_D → Prop) : Prop := ∀ z9 : Value, z9.category = 1 → pu_W X 202 (0, 0) px_c202_103 [.ref 85, .int x1, .int x2, .int x3, .int x4, .int x5, .int x6, .int x7, .int x8, z9] [] D (pu_qi P)
def pu_h202_38 (X : px_X) (x1 : Int32) (x2 : Int32) (x3 : Int32) (x4 : Int32) (x5 : Int32) (x6 : Int32) (x7 : Int32) (x8 : Int32) (x9 : Int32) (D : pu_D) (P : Int32 → pu_D → Prop) : Prop := pu_W X 202 (0, 0) px_c202_38 [.ref 85, .int x1, .int x2, .int x3, .int x4, .int x5, .int x6, .int x7, .int x8, .int x9] [] D (pu_qi P)
def pu_h202_156 (X : px_X) (x1 : Int32) (x2 : Int32) (x3 : Int32) (x4 : Int32) (x5 : Int32) (x6 : Int32) (x7 : Int32) (x8 : Int32) (x9 : Int32) (D : pu_D) (P : Int32 → pu_D → Prop) : Prop := pu_W X 202 (0, 0) px_c202_156 [.ref 85, .int x1, .int x2, .int x3, .int x4, .int x5, .int x6, .int x7, .int x8, .int x9] [] D (pu_qi P)
def pu_h202_88 (X : px_X) (x1 : Int32) (x2 : Int32) (x3 : Int32) (x4 : Int32) (x5 : Int32) (x6 : Int32) (x7 : Int32) (x8 : Int32) (x9 : Int32) (D : pu_D) (P : Int32 → pu_D → Prop) : Prop := pu_W X 202 (0, 0) px_c202_88 [.ref 85, .int x1, .int x2, .int x3, .int x4, .int x5, .int x6, .int x7, .int x8, .int x9] [] D (pu_qi P)
def pu_h202_84 (X : px_X) (x1 : Int32) (x2 : Int32) (x3 : Int32) (x4 : Int32) (x5 : Int32) (x6 : Int32) (x7 : Int32) (x9 : Int32) (D : pu_D) (P : Int32 → pu_D → Prop) : Prop := ∀ z8 : Value, z8.category = 1 → pu_W X 202 (0, 0) px_c202_84 [.ref 85, .int x1, .int x2, .int x3, .int x4, .int x5, .int x6, .int x7, z8, .int x9] [] D (pu_qi P)
def pu_h202_178 (X : px_X) (x1 : Int32) (x2 : Int32) (x3 : Int32) (x4 : Int32) (x5 : Int32) (x6 : Int32) (x7 : Int32) (x8 : Int32) (x9 : Int32) (D : pu_D) (P : Int32 → pu_D → Prop) : Prop := pu_W X 202 (0, 0) px_c202_178 [.ref 85, .int x1, .int x2, .int x3, .int x4, .int x5, .int x6, .int x7, .int x8, .int x9] [] D (pu_qi P)
def pu_h202_201 (X : px_X) (x1 : Int32) (x2 : Int32) (x3 : Int32) (x4 : Int32) (x5 : Int32) (x6 : Int32) (x7 : Int32) (x8 : Int32) (x9 : Int32) (D : pu_D) (P : Int32 → pu_D → Prop) : Prop := pu_W X 202 (0, 0) px_c202_201 [.ref 85, .int x1, .int x2, .int x3, .int x4, .int x5, .int x6, .int x7, .int x8, .int x9] [] D (pu_qi P)
def pu_h202_243 (X : px_X) (x1 : Int32) (x2 : Int32) (x3 : Int32) (x4 : Int32) (x5 : Int32) (x6 : Int32) (x7 : Int32) (x8 : Int32) (x9 : Int32) (D : pu_D) (P : Int32 → pu_D → Prop) : Prop := pu_W X 202 (0, 0) px_c202_243 [.ref 85, .int x1, .int x2, .int x3, .int x4, .int x5, .int x6, .int x7, .int x8, .int x9] [] D (pu_qi P)
theorem pu_u202_14 {X : px_X} {x1 : Int32} {x2 : Int32} {x3 : Int32} {x4 : Int32} {x5 : Int32} {x6 : Int32} {x7 : Int32} {D : pu_D} {P : Int32 → pu_D → Prop} 
    (H : if x7 < (D.1 85 1) then (if x1 = 3 then (pu_h202_38 X x1 x2 x3 x4 x5 x6 x7 (-1) 0 D P) else (pu_h202_103 X x1 x2 x3 x4 x5 x6 x7 x7 D P)) else (P x4 D)) :
    pu_h202_14 X x1 x2 x3 x4 x5 x6 x7 D P := by
  intro z8 hz8 z9 hz9
  refine pu_iload rfl ?_
  refine pu_aload_n rfl ?_
  refine pu_getI pu_k8_1 pu_c85 ?_
  refine pu_ge_ pu_t202_263 (fun h1 => ?_) (fun h1 => ?_)
  · replace H := pu_f h1 H
    refine pu_iload rfl ?_
    exact pu_iretI pu_rt202 H
  · replace H := pu_t h1 H
    refine pu_iload rfl ?_
    refine pu_istore (L' := [.ref 85, .int x1, .int x2, .int x3, .int x4, .int x5, .int x6, .int x7, .int x7, z9]) (Or.inr rfl) rfl ?_
    refine pu_iload_n rfl ?_
    refine pu_iconst ?_
    refine pu_ne_ pu_t202_103 (fun h2 => ?_) (fun h2 => ?_)
    · replace H := pu_f h2 H
      exact H _ hz9
    · replace H := pu_t h2 H
      refine pu_iconst ?_
      refine pu_istore (L' := [.ref 85, .int x1, .int x2, .int x3, .int x4, .int x5, .int x6, .int x7, .int (-1), z9]) (Or.inr rfl) rfl ?_
      refine pu_iconst ?_
      refine pu_istore (L' := [.ref 85, .int x1, .int x2, .int x3, .int x4, .int x5, .int x6, .int x7, .int (-1), .int 0]) (Or.inr rfl) rfl ?_
      exact H 
theorem pu_u202_103 {X : px_X} {x1 : Int32} {x2 : Int32} {x3 : Int32} {x4 : Int32} {x5 : Int32} {x6 : Int32} {x7 : Int32} {x8 : Int32} {D : pu_D} {P : Int32 → pu_D → Prop} 
    (H : (px_in x8 9 = true) ∧ if (D.1 93 x8.toNatClampNeg) = (-1) then (pu_h202_14 X x1 x2 x3 x4 x5 x6 (x7 + 1) D P) else ((px_in x8 9 = true) ∧ if (D.1 94 x8.toNatClampNeg) = 1 then (pu_h202_14 X x1 x2 x3 x4 x5 x6 (x7 + 1) D P) else (if x1 = 1 then ((px_in x8 9 = true) ∧ if ((D.1 91 x8.toNatClampNeg) - (D.1 91 x8.toNatClampNeg) / 2 * 2) = x2 then (pu_h202_156 X x1 x2 x3 x4 x5 x6 x7 x8 1 D P) else (pu_h202_156 X x1 x2 x3 x4 x5 x6 x7 x8 0 D P)) else (pu_h202_156 X x1 x2 x3 x4 x5 x6 x7 x8 1 D P)))) :
    pu_h202_103 X x1 x2 x3 x4 x5 x6 x7 x8 D P := by
  intro z9 hz9
  refine pu_aload_n rfl ?_
  refine pu_getR pu_kr8_19 pu_c85 pu_r85_19 ?_
  refine pu_iload rfl ?_
  refine pu_ial pu_c93 pu_ln93 H.1 ?_
  replace H := H.2
  refine pu_iconst ?_
  refine pu_eq_ pu_t202_257 (fun h3 => ?_) (fun h3 => ?_)
  · replace H := pu_t h3 H
    refine pu_iinc (L' := [.ref 85, .int x1, .int x2, .int x3, .int x4, .int x5, .int x6, .int (x7 + 1), .int x8, z9]) rfl (Or.inr rfl) rfl ?_
    refine pu_goto pu_t202_14 ?_
    exact H _ rfl _ hz9
  · replace H := pu_f h3 H
    refine pu_aload_n rfl ?_
    refine pu_getR pu_kr8_20 pu_c85 pu_r85_20 ?_
    refine pu_iload rfl ?_
    refine pu_ial pu_c94 pu_ln94 H.1 ?_
    replace H := H.2
    refine pu_iconst ?_
    refine pu_ne_ pu_t202_128 (fun h4 => ?_) (fun h4 => ?_)
    · replace H := pu_f h4 H
      refine pu_iconst ?_
      refine pu_istore (L' := [.ref 85, .int x1, .int x2, .int x3, .int x4, .int x5, .int x6, .int x7, .int x8, .int 1]) (Or.inr rfl) rfl ?_
      refine pu_iload_n rfl ?_
      refine pu_iconst ?_
      refine pu_ne_ pu_t202_156 (fun h5 => ?_) (fun h5 => ?_)
      · replace H := pu_f h5 H
        exact H 
      · replace H := pu_t h5 H
        refine pu_aload_n rfl ?_
        refine pu_getR pu_kr8_17 pu_c85 pu_r85_17 ?_
        refine pu_iload rfl ?_
        refine pu_ial pu_c91 pu_ln91 H.1 ?_
        replace H := H.2
        refine pu_iconst ?_
        refine pu_irem (by decide) ?_
        refine pu_iload_n rfl ?_
        refine pu_ne_ pu_t202_153 (fun h6 => ?_) (fun h6 => ?_)
        · replace H := pu_f h6 H
          refine pu_iconst ?_
          refine pu_istore (L' := [.ref 85, .int x1, .int x2, .int x3, .int x4, .int x5, .int x6, .int x7, .int x8, .int 0]) (Or.inr rfl) rfl ?_
          exact H 
        · replace H := pu_t h6 H
          refine pu_iconst ?_
          refine pu_goto pu_t202_154 ?_
          refine pu_istore (L' := [.ref 85, .int x1, .int x2, .int x3, .int x4, .int x5, .int x6, .int x7, .int x8, .int 1]) (Or.inr rfl) rfl ?_
          exact H 
    · replace H := pu_t h4 H
      refine pu_goto pu_t202_257 ?_
      refine pu_iinc (L' := [.ref 85, .int x1, .int x2, .int x3, .int x4, .int x5, .int x6, .int (x7 + 1), .int x8, z9]) rfl (Or.inr rfl) rfl ?_
      refine pu_goto pu_t202_14 ?_
      exact H _ rfl _ hz9
theorem pu_u202_38 {X : px_X} {x1 : Int32} {x2 : Int32} {x3 : Int32} {x4 : Int32} {x5 : Int32} {x6 : Int32} {x7 : Int32} {x8 : Int32} {x9 : Int32} {D : pu_D} {P : Int32 → pu_D → Prop} 
    (H : if x9 < (D.1 85 1) then (if ((x6 >>> (x9 &&& 31)) &&& 1) = 0 then (if x8 = (-1) then (pu_h202_84 X x1 x2 x3 x4 x5 x6 x7 x9 D P) else ((px_in x9 9 = true) ∧ (px_in x8 9 = true) ∧ if ((D.1 91 x9.toNatClampNeg) / 2) < ((D.1 91 x8.toNatClampNeg) / 2) then (pu_h202_84 X x1 x2 x3 x4 x5 x6 x7 x9 D P) else (pu_h202_88 X x1 x2 x3 x4 x5 x6 x7 x8 x9 D P))) else (pu_h202_88 X x1 x2 x3 x4 x5 x6 x7 x8 x9 D P)) else (pu_h202_103 X x1 x2 x3 x4 x5 (x6 ||| (1 <<< (x8 &&& 31))) x7 x8 D P)) :
    pu_h202_38 X x1 x2 x3 x4 x5 x6 x7 x8 x9 D P := by
  refine pu_iload rfl ?_
  refine pu_aload_n rfl ?_
  refine pu_getI pu_k8_1 pu_c85 ?_
  refine pu_ge_ pu_t202_94 (fun h7 => ?_) (fun h7 => ?_)
  · replace H := pu_f h7 H
    refine pu_iload rfl ?_
    refine pu_iconst ?_
    refine pu_iload rfl ?_
    refine pu_ishl ?_
    refine pu_ior ?_
    refine pu_istore (L' := [.ref 85, .int x1, .int x2, .int x3, .int x4, .int x5, .int (x6 ||| (1 <<< (x8 &&& 31))), .int x7, .int x8, .int x9]) (Or.inr rfl) rfl ?_
    exact H _ rfl
  · replace H := pu_t h7 H
    refine pu_iload rfl ?_
    refine pu_iload rfl ?_
    refine pu_ishr ?_
    refine pu_iconst ?_
    refine pu_iand ?_
    refine pu_ne0 pu_t202_88 (fun h8 => ?_) (fun h8 => ?_)
    · replace H := pu_f h8 H
      exact H 
    · replace H := pu_t h8 H
      refine pu_iload rfl ?_
      refine pu_iconst ?_
      refine pu_eq_ pu_t202_84 (fun h9 => ?_) (fun h9 => ?_)
      · replace H := pu_t h9 H
        exact H _ rfl
      · replace H := pu_f h9 H
        refine pu_aload_n rfl ?_
        refine pu_getR pu_kr8_17 pu_c85 pu_r85_17 ?_
        refine pu_iload rfl ?_
        refine pu_ial pu_c91 pu_ln91 H.1 ?_
        replace H := H.2
        refine pu_iconst ?_
        refine pu_idiv (by decide) ?_
        refine pu_aload_n rfl ?_
        refine pu_getR pu_kr8_17 pu_c85 pu_r85_17 ?_
        refine pu_iload rfl ?_
        refine pu_ial pu_c91 pu_ln91 H.1 ?_
        replace H := H.2
        refine pu_iconst ?_
        refine pu_idiv (by decide) ?_
        refine pu_ge_ pu_t202_88 (fun h10 => ?_) (fun h10 => ?_)
        · replace H := pu_f h10 H
          exact H 
        · replace H := pu_t h10 H
          exact H _ rfl
theorem pu_u202_156 {X : px_X} {x1 : Int32} {x2 : Int32} {x3 : Int32} {x4 : Int32} {x5 : Int32} {x6 : Int32} {x7 : Int32} {x8 : Int32} {x9 : Int32} {D : pu_D} {P : Int32 → pu_D → Prop} 
    (H : if x1 = 5 then (if ((x3 >>> (x8 &&& 31)) &&& 1) = 1 then (pu_h202_178 X x1 x2 x3 x4 x5 x6 x7 x8 1 D P) else (pu_h202_178 X x1 x2 x3 x4 x5 x6 x7 x8 0 D P)) else (pu_h202_178 X x1 x2 x3 x4 x5 x6 x7 x8 x9 D P)) :
    pu_h202_156 X x1 x2 x3 x4 x5 x6 x7 x8 x9 D P := by
  refine pu_iload_n rfl ?_
  refine pu_iconst ?_
  refine pu_ne_ pu_t202_178 (fun h11 => ?_) (fun h11 => ?_)
  · replace H := pu_f h11 H
    exact H 
  · replace H := pu_t h11 H
    refine pu_iload_n rfl ?_
    refine pu_iload rfl ?_
    refine pu_ishr ?_
    refine pu_iconst ?_
    refine pu_iand ?_
    refine pu_iconst ?_
    refine pu_ne_ pu_t202_175 (fun h12 => ?_) (fun h12 => ?_)
    · replace H := pu_f h12 H
      refine pu_iconst ?_
      refine pu_istore (L' := [.ref 85, .int x1, .int x2, .int x3, .int x4, .int x5, .int x6, .int x7, .int x8, .int 0]) (Or.inr rfl) rfl ?_
      exact H 
    · replace H := pu_t h12 H
      refine pu_iconst ?_
      refine pu_goto pu_t202_176 ?_
      refine pu_istore (L' := [.ref 85, .int x1, .int x2, .int x3, .int x4, .int x5, .int x6, .int x7, .int x8, .int 1]) (Or.inr rfl) rfl ?_
      exact H 
theorem pu_u202_88 {X : px_X} {x1 : Int32} {x2 : Int32} {x3 : Int32} {x4 : Int32} {x5 : Int32} {x6 : Int32} {x7 : Int32} {x8 : Int32} {x9 : Int32} {D : pu_D} {P : Int32 → pu_D → Prop} 
    (H : pu_h202_38 X x1 x2 x3 x4 x5 x6 x7 x8 (x9 + 1) D P) :
    pu_h202_88 X x1 x2 x3 x4 x5 x6 x7 x8 x9 D P := by
  refine pu_iinc (L' := [.ref 85, .int x1, .int x2, .int x3, .int x4, .int x5, .int x6, .int x7, .int x8, .int (x9 + 1)]) rfl (Or.inr rfl) rfl ?_
  refine pu_goto pu_t202_38 ?_
  exact H 
theorem pu_u202_84 {X : px_X} {x1 : Int32} {x2 : Int32} {x3 : Int32} {x4 : Int32} {x5 : Int32} {x6 : Int32} {x7 : Int32} {x9 : Int32} {D : pu_D} {P : Int32 → pu_D → Prop} 
    (H : pu_h202_88 X x1 x2 x3 x4 x5 x6 x7 x9 x9 D P) :
    pu_h202_84 X x1 x2 x3 x4 x5 x6 x7 x9 D P := by
  intro z8 hz8
  refine pu_iload rfl ?_
  refine pu_istore (L' := [.ref 85, .int x1, .int x2, .int x3, .int x4, .int x5, .int x6, .int x7, .int x9, .int x9]) (Or.inr rfl) rfl ?_
  exact H 
theorem pu_u202_178 {X : px_X} {x1 : Int32} {x2 : Int32} {x3 : Int32} {x4 : Int32} {x5 : Int32} {x6 : Int32} {x7 : Int32} {x8 : Int32} {x9 : Int32} {D : pu_D} {P : Int32 → pu_D → Prop} 
    (H : if x1 = 6 then (if ((x2 >>> (x8 &&& 31)) &&& 1) = 1 then (pu_h202_201 X x1 x2 x3 x4 x5 x6 x7 x8 1 D P) else (pu_h202_201 X x1 x2 x3 x4 x5 x6 x7 x8 0 D P)) else (pu_h202_201 X x1 x2 x3 x4 x5 x6 x7 x8 x9 D P)) :
    pu_h202_178 X x1 x2 x3 x4 x5 x6 x7 x8 x9 D P := by
  refine pu_iload_n rfl ?_
  refine pu_bipush ?_
  refine pu_ne_ pu_t202_201 (fun h13 => ?_) (fun h13 => ?_)
  · replace H := pu_f h13 H
    exact H 
  · replace H := pu_t h13 H
    refine pu_iload_n rfl ?_
    refine pu_iload rfl ?_
    refine pu_ishr ?_
    refine pu_iconst ?_
    refine pu_iand ?_
    refine pu_iconst ?_
    refine pu_ne_ pu_t202_198 (fun h14 => ?_) (fun h14 => ?_)
    · replace H := pu_f h14 H
      refine pu_iconst ?_
      refine pu_istore (L' := [.ref 85, .int x1, .int x2, .int x3, .int x4, .int x5, .int x6, .int x7, .int x8, .int 0]) (Or.inr rfl) rfl ?_
      exact H 
    · replace H := pu_t h14 H
      refine pu_iconst ?_
      refine pu_goto pu_t202_199 ?_
      refine pu_istore (L' := [.ref 85, .int x1, .int x2, .int x3, .int x4, .int x5, .int x6, .int x7, .int x8, .int 1]) (Or.inr rfl) rfl ?_
      exact H 
theorem pu_u202_201 {X : px_X} {x1 : Int32} {x2 : Int32} {x3 : Int32} {x4 : Int32} {x5 : Int32} {x6 : Int32} {x7 : Int32} {x8 : Int32} {x9 : Int32} {D : pu_D} {P : Int32 → pu_D → Prop} 
    (H : if x1 = 3 then ((px_in x8 9 = true) ∧ if ((D.1 91 x8.toNatClampNeg) - (D.1 91 x8.toNatClampNeg) / 2 * 2) = x5 then (pu_h202_243 X x1 x2 x3 x4 x5 x6 x7 x8 0 D P) else ((px_in x8 9 = true) ∧ pu_h202_243 X x1 x2 x3 x4 ((D.1 91 x8.toNatClampNeg) - (D.1 91 x8.toNatClampNeg) / 2 * 2) x6 x7 x8 1 D P)) else (pu_h202_243 X x1 x2 x3 x4 x5 x6 x7 x8 x9 D P)) :
    pu_h202_201 X x1 x2 x3 x4 x5 x6 x7 x8 x9 D P := by
  refine pu_iload_n rfl ?_
  refine pu_iconst ?_
  refine pu_ne_ pu_t202_243 (fun h15 => ?_) (fun h15 => ?_)
  · replace H := pu_f h15 H
    exact H 
  · replace H := pu_t h15 H
    refine pu_aload_n rfl ?_
    refine pu_getR pu_kr8_17 pu_c85 pu_r85_17 ?_
    refine pu_iload rfl ?_
    refine pu_ial pu_c91 pu_ln91 H.1 ?_
    replace H := H.2
    refine pu_iconst ?_
    refine pu_irem (by decide) ?_
    refine pu_iload rfl ?_
    refine pu_eq_ pu_t202_224 (fun h16 => ?_) (fun h16 => ?_)
    · replace H := pu_t h16 H
      refine pu_iconst ?_
      refine pu_istore (L' := [.ref 85, .int x1, .int x2, .int x3, .int x4, .int x5, .int x6, .int x7, .int x8, .int 0]) (Or.inr rfl) rfl ?_
      refine pu_iload rfl ?_
      refine pu_ifT (by decide) pu_t202_243 ?_
      exact H 
    · replace H := pu_f h16 H
      refine pu_iconst ?_
      refine pu_goto pu_t202_225 ?_
      refine pu_istore (L' := [.ref 85, .int x1, .int x2, .int x3, .int x4, .int x5, .int x6, .int x7, .int x8, .int 1]) (Or.inr rfl) rfl ?_
      refine pu_iload rfl ?_
      refine pu_ifF (by decide) ?_
      refine pu_aload_n rfl ?_
      refine pu_getR pu_kr8_17 pu_c85 pu_r85_17 ?_
      refine pu_iload rfl ?_
      refine pu_ial pu_c91 pu_ln91 H.1 ?_
      replace H := H.2
      refine pu_iconst ?_
      refine pu_irem (by decide) ?_
      refine pu_istore (L' := [.ref 85, .int x1, .int x2, .int x3, .int x4, .int ((D.1 91 x8.toNatClampNeg) - (D.1 91 x8.toNatClampNeg) / 2 * 2), .int x6, .int x7, .int x8, .int 1]) (Or.inr rfl) rfl ?_
      exact H 
theorem pu_u202_243 {X : px_X} {x1 : Int32} {x2 : Int32} {x3 : Int32} {x4 : Int32} {x5 : Int32} {x6 : Int32} {x7 : Int32} {x8 : Int32} {x9 : Int32} {D : pu_D} {P : Int32 → pu_D → Prop} 
    (H : if x9 = 0 then (pu_h202_14 X x1 x2 x3 x4 x5 x6 (x7 + 1) D P) else (pu_h202_14 X x1 x2 x3 (x4 ||| (1 <<< (x8 &&& 31))) x5 x6 (x7 + 1) D P)) :
    pu_h202_243 X x1 x2 x3 x4 x5 x6 x7 x8 x9 D P := by
  refine pu_iload rfl ?_
  refine pu_eq0 pu_t202_257 (fun h17 => ?_) (fun h17 => ?_)
  · replace H := pu_t h17 H
    refine pu_iinc (L' := [.ref 85, .int x1, .int x2, .int x3, .int x4, .int x5, .int x6, .int (x7 + 1), .int x8, .int x9]) rfl (Or.inr rfl) rfl ?_
    refine pu_goto pu_t202_14 ?_
    exact H _ rfl _ rfl
  · replace H := pu_f h17 H
    refine pu_iload rfl ?_
    refine pu_iconst ?_
    refine pu_iload rfl ?_
    refine pu_ishl ?_
    refine pu_ior ?_
    refine pu_istore (L' := [.ref 85, .int x1, .int x2, .int x3, .int (x4 ||| (1 <<< (x8 &&& 31))), .int x5, .int x6, .int x7, .int x8, .int x9]) (Or.inr rfl) rfl ?_
    refine pu_iinc (L' := [.ref 85, .int x1, .int x2, .int x3, .int (x4 ||| (1 <<< (x8 &&& 31))), .int x5, .int x6, .int (x7 + 1), .int x8, .int x9]) rfl (Or.inr rfl) rfl ?_
    refine pu_goto pu_t202_14 ?_
    exact H _ rfl _ rfl
theorem pu_e202 {X : px_X} {x1 : Int32} {x2 : Int32} {x3 : Int32} {D : pu_D} {P : Int32 → pu_D → Prop} 
    (H : pu_h202_14 X x1 x2 x3 0 (1 - x2) 0 0 D P) :
    pu_I X 202 [.ref 85, .int x1, .int x2, .int x3] D P := by
  refine pu_ent (E := [.ref 85, .int x1, .int x2, .int x3, .null, .null, .null, .null, .null, .null]) pu_n202.1 pu_n202.2 pu_t202_0 rfl ?_
  refine pu_iconst ?_
  refine pu_istore (L' := [.ref 85, .int x1, .int x2, .int x3, .int 0, .null, .null, .null, .null, .null]) (Or.inr rfl) rfl ?_
  refine pu_iconst ?_
  refine pu_iload_n rfl ?_
  refine pu_isub ?_
  refine pu_istore (L' := [.ref 85, .int x1, .int x2, .int x3, .int 0, .int (1 - x2), .null, .null, .null, .null]) (Or.inr rfl) rfl ?_
  refine pu_iconst ?_
  refine pu_istore (L' := [.ref 85, .int x1, .int x2, .int x3, .int 0, .int (1 - x2), .int 0, .null, .null, .null]) (Or.inr rfl) rfl ?_
  refine pu_iconst ?_
  refine pu_istore (L' := [.ref 85, .int x1, .int x2, .int x3, .int 0, .int (1 - x2), .int 0, .int 0, .null, .null]) (Or.inr rfl) rfl ?_
  exact H _ rfl _ rfl
/-- LightAlongModel.shopsAt(II)I -/
def pu_h203_5 (X : px_X) (x1 : Int32) (x2 : Int32) (x3 : Int32) (x4 : Int32) (D : pu_D) (P : Int32 → pu_D → Prop) : Prop := pu_W X 203 (0, 0) px_c203_5 [.ref 85, .int x1, .int x2, .int x3, .int x4] [] D (pu_qi P)
theorem pu_u203_5 {X : px_X} {x1 : Int32} {x2 : Int32} {x3 : Int32} {x4 : Int32} {D : pu_D} {P : Int32 → pu_D → Prop} 
    (H : if x4 < (D.1 85 5) then ((px_in x4 8 = true) ∧ if x2 < (D.1 101 x4.toNatClampNeg) then (pu_I X 204 [.ref 85, .int x4, .int x1] D (fun y3 D4 => pu_h203_5 X x1 x2 (x3 + y3) (x4 + 1) D4 P)) else (pu_h203_5 X x1 x2 x3 (x4 + 1) D P)) else (P x3 D)) :
    pu_h203_5 X x1 x2 x3 x4 D P := by
  refine pu_iload rfl ?_
  refine pu_aload_n rfl ?_
  refine pu_getI pu_k8_5 pu_c85 ?_
  refine pu_ge_ pu_t203_41 (fun h1 => ?_) (fun h1 => ?_)
  · replace H := pu_f h1 H
    refine pu_iload_n rfl ?_
    exact pu_iretI pu_rt203 H
  · replace H := pu_t h1 H
    refine pu_iload_n rfl ?_
    refine pu_aload_n rfl ?_
    refine pu_getR pu_kr8_27 pu_c85 pu_r85_27 ?_
    refine pu_iload rfl ?_
    refine pu_ial pu_c101 pu_ln101 H.1 ?_
    replace H := H.2
    refine pu_ge_ pu_t203_35 (fun h2 => ?_) (fun h2 => ?_)
    · replace H := pu_f h2 H
      refine pu_iinc (L' := [.ref 85, .int x1, .int x2, .int x3, .int (x4 + 1)]) rfl (Or.inr rfl) rfl ?_
      refine pu_goto pu_t203_5 ?_
      exact H 
    · replace H := pu_t h2 H
      refine pu_iload_n rfl ?_
      refine pu_aload_n rfl ?_
      refine pu_iload rfl ?_
      refine pu_iload_n rfl ?_
      refine pu_cv (vs := [.int x4, .int x1]) (rest := [.int x3]) pu_g204 ⟨pu_c85, by decide⟩ rfl rfl rfl rfl rfl (pu_CI (pu_I_imp H (fun y3 D4 H => ?_)))
      refine pu_iadd ?_
      refine pu_istore_n (L' := [.ref 85, .int x1, .int x2, .int (x3 + y3), .int x4]) (Or.inr rfl) rfl ?_
      refine pu_iinc (L' := [.ref 85, .int x1, .int x2, .int (x3 + y3), .int (x4 + 1)]) rfl (Or.inr rfl) rfl ?_
      refine pu_goto pu_t203_5 ?_
      exact H 
theorem pu_e203 {X : px_X} {x1 : Int32} {x2 : Int32} {D : pu_D} {P : Int32 → pu_D → Prop} 
    (H : pu_h203_5 X x1 x2 0 0 D P) :
    pu_I X 203 [.ref 85, .int x1, .int x2] D P := by
  refine pu_ent (E := [.ref 85, .int x1, .int x2, .null, .null]) pu_n203.1 pu_n203.2 pu_t203_0 rfl ?_
  refine pu_iconst ?_
  refine pu_istore_n (L' := [.ref 85, .int x1, .int x2, .int 0, .null]) (Or.inr rfl) rfl ?_
  refine pu_iconst ?_
  refine pu_istore (L' := [.ref 85, .int x1, .int x2, .int 0, .int 0]) (Or.inr rfl) rfl ?_
  exact H 
/-- LightAlongModel.shopAt(II)I -/
theorem pu_e204 {X : px_X} {x1 : Int32} {x2 : Int32} {D : pu_D} {P : Int32 → pu_D → Prop} 
    (H : (px_in x1 8 = true) ∧ if (((D.1 99 x1.toNatClampNeg) / 2) - (x2 / 2)) < 0 then ((px_in x1 8 = true) ∧ if ((D.1 99 x1.toNatClampNeg) - (D.1 99 x1.toNatClampNeg) / 2 * 2) = (x2 - x2 / 2 * 2) then (if 2 < (-(((D.1 99 x1.toNatClampNeg) / 2) - (x2 / 2))) then (P 0 D) else (if (-(((D.1 99 x1.toNatClampNeg) / 2) - (x2 / 2))) = 0 then ((px_in x1 8 = true) ∧ P (D.1 100 x1.toNatClampNeg) D) else (if (-(((D.1 99 x1.toNatClampNeg) / 2) - (x2 / 2))) = 1 then ((px_in x1 8 = true) ∧ P ((D.1 100 x1.toNatClampNeg) / 2) D) else ((px_in x1 8 = true) ∧ P ((D.1 100 x1.toNatClampNeg) / 4) D)))) else (P 0 D)) else ((px_in x1 8 = true) ∧ if ((D.1 99 x1.toNatClampNeg) - (D.1 99 x1.toNatClampNeg) / 2 * 2) = (x2 - x2 / 2 * 2) then (if 2 < (((D.1 99 x1.toNatClampNeg) / 2) - (x2 / 2)) then (P 0 D) else (if (((D.1 99 x1.toNatClampNeg) / 2) - (x2 / 2)) = 0 then ((px_in x1 8 = true) ∧ P (D.1 100 x1.toNatClampNeg) D) else (if (((D.1 99 x1.toNatClampNeg) / 2) - (x2 / 2)) = 1 then ((px_in x1 8 = true) ∧ P ((D.1 100 x1.toNatClampNeg) / 2) D) else ((px_in x1 8 = true) ∧ P ((D.1 100 x1.toNatClampNeg) / 4) D)))) else (P 0 D))) :
    pu_I X 204 [.ref 85, .int x1, .int x2] D P := by
  refine pu_ent (E := [.ref 85, .int x1, .int x2, .null]) pu_n204.1 pu_n204.2 pu_t204_0 rfl ?_
  refine pu_aload_n rfl ?_
  refine pu_getR pu_kr8_25 pu_c85 pu_r85_25 ?_
  refine pu_iload_n rfl ?_
  refine pu_ial pu_c99 pu_ln99 H.1 ?_
  replace H := H.2
  refine pu_iconst ?_
  refine pu_idiv (by decide) ?_
  refine pu_iload_n rfl ?_
  refine pu_iconst ?_
  refine pu_idiv (by decide) ?_
  refine pu_isub ?_
  refine pu_istore_n (L' := [.ref 85, .int x1, .int x2, .int (((D.1 99 x1.toNatClampNeg) / 2) - (x2 / 2))]) (Or.inr rfl) rfl ?_
  refine pu_iload_n rfl ?_
  refine pu_ge0 pu_t204_22 (fun h1 => ?_) (fun h1 => ?_)
  · replace H := pu_f h1 H
    refine pu_iload_n rfl ?_
    refine pu_istore_n (L' := [.ref 85, .int x1, .int x2, .int (((D.1 99 x1.toNatClampNeg) / 2) - (x2 / 2))]) (Or.inr rfl) rfl ?_
    refine pu_aload_n rfl ?_
    refine pu_getR pu_kr8_25 pu_c85 pu_r85_25 ?_
    refine pu_iload_n rfl ?_
    refine pu_ial pu_c99 pu_ln99 H.1 ?_
    replace H := H.2
    refine pu_iconst ?_
    refine pu_irem (by decide) ?_
    refine pu_iload_n rfl ?_
    refine pu_iconst ?_
    refine pu_irem (by decide) ?_
    refine pu_ne_ pu_t204_43 (fun h2 => ?_) (fun h2 => ?_)
    · replace H := pu_f h2 H
      refine pu_iconst ?_
      exact pu_iretI pu_rt204 H
    · replace H := pu_t h2 H
      refine pu_iload_n rfl ?_
      refine pu_iconst ?_
      refine pu_le_ pu_t204_45 (fun h3 => ?_) (fun h3 => ?_)
      · replace H := pu_f h3 H
        refine pu_iload_n rfl ?_
        refine pu_ne0 pu_t204_58 (fun h4 => ?_) (fun h4 => ?_)
        · replace H := pu_f h4 H
          refine pu_iload_n rfl ?_
          refine pu_iconst ?_
          refine pu_ne_ pu_t204_74 (fun h5 => ?_) (fun h5 => ?_)
          · replace H := pu_f h5 H
            refine pu_aload_n rfl ?_
            refine pu_getR pu_kr8_26 pu_c85 pu_r85_26 ?_
            refine pu_iload_n rfl ?_
            refine pu_ial pu_c100 pu_ln100 H.1 ?_
            replace H := H.2
            refine pu_iconst ?_
            refine pu_idiv (by decide) ?_
            exact pu_iretI pu_rt204 H
          · replace H := pu_t h5 H
            refine pu_aload_n rfl ?_
            refine pu_getR pu_kr8_26 pu_c85 pu_r85_26 ?_
            refine pu_iload_n rfl ?_
            refine pu_ial pu_c100 pu_ln100 H.1 ?_
            replace H := H.2
            refine pu_iconst ?_
            refine pu_idiv (by decide) ?_
            refine pu_goto pu_t204_82 ?_
            exact pu_iretI pu_rt204 H
        · replace H := pu_t h4 H
          refine pu_aload_n rfl ?_
          refine pu_getR pu_kr8_26 pu_c85 pu_r85_26 ?_
          refine pu_iload_n rfl ?_
          refine pu_ial pu_c100 pu_ln100 H.1 ?_
          replace H := H.2
          refine pu_goto pu_t204_82 ?_
          exact pu_iretI pu_rt204 H
      · replace H := pu_t h3 H
        refine pu_iconst ?_
        exact pu_iretI pu_rt204 H
  · replace H := pu_t h1 H
    refine pu_iload_n rfl ?_
    refine pu_ineg ?_
    refine pu_goto pu_t204_23 ?_
    refine pu_istore_n (L' := [.ref 85, .int x1, .int x2, .int (-(((D.1 99 x1.toNatClampNeg) / 2) - (x2 / 2)))]) (Or.inr rfl) rfl ?_
    refine pu_aload_n rfl ?_
    refine pu_getR pu_kr8_25 pu_c85 pu_r85_25 ?_
    refine pu_iload_n rfl ?_
    refine pu_ial pu_c99 pu_ln99 H.1 ?_
    replace H := H.2
    refine pu_iconst ?_
    refine pu_irem (by decide) ?_
    refine pu_iload_n rfl ?_
    refine pu_iconst ?_
    refine pu_irem (by decide) ?_
    refine pu_ne_ pu_t204_43 (fun h6 => ?_) (fun h6 => ?_)
    · replace H := pu_f h6 H
      refine pu_iconst ?_
      exact pu_iretI pu_rt204 H
    · replace H := pu_t h6 H
      refine pu_iload_n rfl ?_
      refine pu_iconst ?_
      refine pu_le_ pu_t204_45 (fun h7 => ?_) (fun h7 => ?_)
      · replace H := pu_f h7 H
        refine pu_iload_n rfl ?_
        refine pu_ne0 pu_t204_58 (fun h8 => ?_) (fun h8 => ?_)
        · replace H := pu_f h8 H
          refine pu_iload_n rfl ?_
          refine pu_iconst ?_
          refine pu_ne_ pu_t204_74 (fun h9 => ?_) (fun h9 => ?_)
          · replace H := pu_f h9 H
            refine pu_aload_n rfl ?_
            refine pu_getR pu_kr8_26 pu_c85 pu_r85_26 ?_
            refine pu_iload_n rfl ?_
            refine pu_ial pu_c100 pu_ln100 H.1 ?_
            replace H := H.2
            refine pu_iconst ?_
            refine pu_idiv (by decide) ?_
            exact pu_iretI pu_rt204 H
          · replace H := pu_t h9 H
            refine pu_aload_n rfl ?_
            refine pu_getR pu_kr8_26 pu_c85 pu_r85_26 ?_
            refine pu_iload_n rfl ?_
            refine pu_ial pu_c100 pu_ln100 H.1 ?_
            replace H := H.2
            refine pu_iconst ?_
            refine pu_idiv (by decide) ?_
            refine pu_goto pu_t204_82 ?_
            exact pu_iretI pu_rt204 H
        · replace H := pu_t h8 H
          refine pu_aload_n rfl ?_
          refine pu_getR pu_kr8_26 pu_c85 pu_r85_26 ?_
          refine pu_iload_n rfl ?_
          refine pu_ial pu_c100 pu_ln100 H.1 ?_
          replace H := H.2
          refine pu_goto pu_t204_82 ?_
          exact pu_iretI pu_rt204 H
      · replace H := pu_t h7 H
        refine pu_iconst ?_
        exact pu_iretI pu_rt204 H
/-- LightAlongModel.of(IIIZ)I -/
theorem pu_e205 {X : px_X} {x1 : Int32} {x2 : Int32} {x3 : Int32} {x4 : Int32} {D : pu_D} {P : Int32 → pu_D → Prop} 
    (H : (px_in x1 9 = true) ∧ pu_I X 201 [.ref 85, .int (D.1 93 x1.toNatClampNeg), .int x1, .int x2, .int x3] D (fun y1 D2 => if x4 = 0 then (P y1 D2) else (P (y1 / 2) D2))) :
    pu_I X 205 [.ref 85, .int x1, .int x2, .int x3, .int x4] D P := by
  refine pu_ent (E := [.ref 85, .int x1, .int x2, .int x3, .int x4, .null]) pu_n205.1 pu_n205.2 pu_t205_0 rfl ?_
  refine pu_aload_n rfl ?_
  refine pu_aload_n rfl ?_
  refine pu_getR pu_kr8_19 pu_c85 pu_r85_19 ?_
  refine pu_iload_n rfl ?_
  refine pu_ial pu_c93 pu_ln93 H.1 ?_
  replace H := H.2
  refine pu_iload_n rfl ?_
  refine pu_iload_n rfl ?_
  refine pu_iload_n rfl ?_
  refine pu_cv (vs := [.int (D.1 93 x1.toNatClampNeg), .int x1, .int x2, .int x3]) (rest := []) pu_g201 ⟨pu_c85, by decide⟩ rfl rfl rfl rfl rfl (pu_CI (pu_I_imp H (fun y1 D2 H => ?_)))
  refine pu_istore (L' := [.ref 85, .int x1, .int x2, .int x3, .int x4, .int y1]) (Or.inr rfl) rfl ?_
  refine pu_iload rfl ?_
  refine pu_eq0 pu_t205_27 (fun h3 => ?_) (fun h3 => ?_)
  · replace H := pu_t h3 H
    refine pu_iload rfl ?_
    exact pu_iretI pu_rt205 H
  · replace H := pu_f h3 H
    refine pu_iload rfl ?_
    refine pu_iconst ?_
    refine pu_idiv (by decide) ?_
    refine pu_goto pu_t205_29 ?_
    exact pu_iretI pu_rt205 H
/-- LightAlongModel.lightOf(IIIIII)I -/
def pu_h206_22 (X : px_X) (x1 : Int32) (x2 : Int32) (x4 : Int32) (x5 : Int32) (x6 : Int32) (x7 : Int32) (x8 : Int32) (x9 : Int32) (D : pu_D) (P : Int32 → pu_D → Prop) : Prop := ∀ z3 : Value, z3.category = 1 → pu_W X 206 (0, 0) px_c206_22 [.ref 85, .int x1, .int x2, z3, .int x4, .int x5, .int x6, .int x7, .int x8, .int x9] [] D (pu_qi P)
theorem pu_u206_22 {X : px_X} {x1 : Int32} {x2 : Int32} {x4 : Int32} {x5 : Int32} {x6 : Int32} {x7 : Int32} {x8 : Int32} {x9 : Int32} {D : pu_D} {P : Int32 → pu_D → Prop} 
    (H : if x9 < (D.1 85 1) then (if ((x7 >>> (x9 &&& 31)) &&& 1) = 1 then (if x1 = 4 then (if x6 < x2 then (pu_I X 205 [.ref 85, .int x9, .int x4, .int x5, .int 0] D (fun y11 D12 => pu_h206_22 X x1 x2 x4 x5 x6 x7 (x8 + y11) (x9 + 1) D12 P)) else (pu_I X 205 [.ref 85, .int x9, .int x4, .int x5, .int 1] D (fun y13 D14 => pu_h206_22 X x1 x2 x4 x5 x6 x7 (x8 + y13) (x9 + 1) D14 P))) else (pu_I X 205 [.ref 85, .int x9, .int x4, .int x5, .int 0] D (fun y8 D9 => pu_h206_22 X x1 x2 x4 x5 x6 x7 (x8 + y8) (x9 + 1) D9 P))) else (pu_h206_22 X x1 x2 x4 x5 x6 x7 x8 (x9 + 1) D P)) else (P x8 D)) :
    pu_h206_22 X x1 x2 x4 x5 x6 x7 x8 x9 D P := by
  intro z3 hz3
  refine pu_iload rfl ?_
  refine pu_aload_n rfl ?_
  refine pu_getI pu_k8_1 pu_c85 ?_
  refine pu_ge_ pu_t206_79 (fun h5 => ?_) (fun h5 => ?_)
  · replace H := pu_f h5 H
    refine pu_iload rfl ?_
    exact pu_iretI pu_rt206 H
  · replace H := pu_t h5 H
    refine pu_iload rfl ?_
    refine pu_iload rfl ?_
    refine pu_ishr ?_
    refine pu_iconst ?_
    refine pu_iand ?_
    refine pu_iconst ?_
    refine pu_ne_ pu_t206_73 (fun h6 => ?_) (fun h6 => ?_)
    · replace H := pu_f h6 H
      refine pu_iinc (L' := [.ref 85, .int x1, .int x2, z3, .int x4, .int x5, .int x6, .int x7, .int x8, .int (x9 + 1)]) rfl (Or.inr rfl) rfl ?_
      refine pu_goto pu_t206_22 ?_
      exact H _ hz3
    · replace H := pu_t h6 H
      refine pu_iload rfl ?_
      refine pu_aload_n rfl ?_
      refine pu_iload rfl ?_
      refine pu_iload rfl ?_
      refine pu_iload rfl ?_
      refine pu_iload_n rfl ?_
      refine pu_iconst ?_
      refine pu_ne_ pu_t206_66 (fun h7 => ?_) (fun h7 => ?_)
      · replace H := pu_f h7 H
        refine pu_iconst ?_
        refine pu_cv (vs := [.int x9, .int x4, .int x5, .int 0]) (rest := [.int x8]) pu_g205 ⟨pu_c85, by decide⟩ rfl rfl rfl rfl rfl (pu_CI (pu_I_imp H (fun y8 D9 H => ?_)))
        refine pu_iadd ?_
        refine pu_istore (L' := [.ref 85, .int x1, .int x2, z3, .int x4, .int x5, .int x6, .int x7, .int (x8 + y8), .int x9]) (Or.inr rfl) rfl ?_
        refine pu_iinc (L' := [.ref 85, .int x1, .int x2, z3, .int x4, .int x5, .int x6, .int x7, .int (x8 + y8), .int (x9 + 1)]) rfl (Or.inr rfl) rfl ?_
        refine pu_goto pu_t206_22 ?_
        exact H _ hz3
      · replace H := pu_t h7 H
        refine pu_iload rfl ?_
        refine pu_iload_n rfl ?_
        refine pu_lt_ pu_t206_66 (fun h10 => ?_) (fun h10 => ?_)
        · replace H := pu_t h10 H
          refine pu_iconst ?_
          refine pu_cv (vs := [.int x9, .int x4, .int x5, .int 0]) (rest := [.int x8]) pu_g205 ⟨pu_c85, by decide⟩ rfl rfl rfl rfl rfl (pu_CI (pu_I_imp H (fun y11 D12 H => ?_)))
          refine pu_iadd ?_
          refine pu_istore (L' := [.ref 85, .int x1, .int x2, z3, .int x4, .int x5, .int x6, .int x7, .int (x8 + y11), .int x9]) (Or.inr rfl) rfl ?_
          refine pu_iinc (L' := [.ref 85, .int x1, .int x2, z3, .int x4, .int x5, .int x6, .int x7, .int (x8 + y11), .int (x9 + 1)]) rfl (Or.inr rfl) rfl ?_
          refine pu_goto pu_t206_22 ?_
          exact H _ hz3
        · replace H := pu_f h10 H
          refine pu_iconst ?_
          refine pu_goto pu_t206_67 ?_
          refine pu_cv (vs := [.int x9, .int x4, .int x5, .int 1]) (rest := [.int x8]) pu_g205 ⟨pu_c85, by decide⟩ rfl rfl rfl rfl rfl (pu_CI (pu_I_imp H (fun y13 D14 H => ?_)))
          refine pu_iadd ?_
          refine pu_istore (L' := [.ref 85, .int x1, .int x2, z3, .int x4, .int x5, .int x6, .int x7, .int (x8 + y13), .int x9]) (Or.inr rfl) rfl ?_
          refine pu_iinc (L' := [.ref 85, .int x1, .int x2, z3, .int x4, .int x5, .int x6, .int x7, .int (x8 + y13), .int (x9 + 1)]) rfl (Or.inr rfl) rfl ?_
          refine pu_goto pu_t206_22 ?_
          exact H _ hz3
theorem pu_e206 {X : px_X} {x1 : Int32} {x2 : Int32} {x3 : Int32} {x4 : Int32} {x5 : Int32} {x6 : Int32} {D : pu_D} {P : Int32 → pu_D → Prop} 
    (H : pu_I X 202 [.ref 85, .int x1, .int x2, .int x3] D (fun y1 D2 => pu_I X 203 [.ref 85, .int x4, .int x6] D2 (fun y3 D4 => pu_h206_22 X x1 x2 x4 x5 x6 y1 y3 0 D4 P))) :
    pu_I X 206 [.ref 85, .int x1, .int x2, .int x3, .int x4, .int x5, .int x6] D P := by
  refine pu_ent (E := [.ref 85, .int x1, .int x2, .int x3, .int x4, .int x5, .int x6, .null, .null, .null]) pu_n206.1 pu_n206.2 pu_t206_0 rfl ?_
  refine pu_aload_n rfl ?_
  refine pu_iload_n rfl ?_
  refine pu_iload_n rfl ?_
  refine pu_iload_n rfl ?_
  refine pu_cv (vs := [.int x1, .int x2, .int x3]) (rest := []) pu_g202 ⟨pu_c85, by decide⟩ rfl rfl rfl rfl rfl (pu_CI (pu_I_imp H (fun y1 D2 H => ?_)))
  refine pu_istore (L' := [.ref 85, .int x1, .int x2, .int x3, .int x4, .int x5, .int x6, .int y1, .null, .null]) (Or.inr rfl) rfl ?_
  refine pu_aload_n rfl ?_
  refine pu_iload rfl ?_
  refine pu_iload rfl ?_
  refine pu_cv (vs := [.int x4, .int x6]) (rest := []) pu_g203 ⟨pu_c85, by decide⟩ rfl rfl rfl rfl rfl (pu_CI (pu_I_imp H (fun y3 D4 H => ?_)))
  refine pu_istore (L' := [.ref 85, .int x1, .int x2, .int x3, .int x4, .int x5, .int x6, .int y1, .int y3, .null]) (Or.inr rfl) rfl ?_
  refine pu_iconst ?_
  refine pu_istore (L' := [.ref 85, .int x1, .int x2, .int x3, .int x4, .int x5, .int x6, .int y1, .int y3, .int 0]) (Or.inr rfl) rfl ?_
  exact H _ rfl
/-- LightAlongModel.lightBy(IIII)I -/
theorem pu_e207 {X : px_X} {x1 : Int32} {x2 : Int32} {x3 : Int32} {x4 : Int32} {D : pu_D} {P : Int32 → pu_D → Prop} 
    (H : (px_in x1 8 = true) ∧ (px_in x1 8 = true) ∧ (px_in x1 8 = true) ∧ pu_I X 206 [.ref 85, .int (D.1 106 x1.toNatClampNeg), .int (D.1 107 x1.toNatClampNeg), .int (D.1 105 x1.toNatClampNeg), .int x2, .int x3, .int x4] D (fun y1 D2 => P y1 D2)) :
    pu_I X 207 [.ref 85, .int x1, .int x2, .int x3, .int x4] D P := by
  refine pu_ent (E := [.ref 85, .int x1, .int x2, .int x3, .int x4]) pu_n207.1 pu_n207.2 pu_t207_0 rfl ?_
  refine pu_aload_n rfl ?_
  refine pu_aload_n rfl ?_
  refine pu_getR pu_kr8_32 pu_c85 pu_r85_32 ?_
  refine pu_iload_n rfl ?_
  refine pu_ial pu_c106 pu_ln106 H.1 ?_
  replace H := H.2
  refine pu_aload_n rfl ?_
  refine pu_getR pu_kr8_33 pu_c85 pu_r85_33 ?_
  refine pu_iload_n rfl ?_
  refine pu_ial pu_c107 pu_ln107 H.1 ?_
  replace H := H.2
  refine pu_aload_n rfl ?_
  refine pu_getR pu_kr8_31 pu_c85 pu_r85_31 ?_
  refine pu_iload_n rfl ?_
  refine pu_ial pu_c105 pu_ln105 H.1 ?_
  replace H := H.2
  refine pu_iload_n rfl ?_
  refine pu_iload_n rfl ?_
  refine pu_iload rfl ?_
  refine pu_cv (vs := [.int (D.1 106 x1.toNatClampNeg), .int (D.1 107 x1.toNatClampNeg), .int (D.1 105 x1.toNatClampNeg), .int x2, .int x3, .int x4]) (rest := []) pu_g206 ⟨pu_c85, by decide⟩ rfl rfl rfl rfl rfl (pu_CI (pu_I_imp H (fun y1 D2 H => ?_)))
  exact pu_iretI pu_rt207 H
/-- LightAlongModel.light(IIII)I -/
theorem pu_e208 {X : px_X} {x1 : Int32} {x2 : Int32} {x3 : Int32} {x4 : Int32} {D : pu_D} {P : Int32 → pu_D → Prop} 
    (H : pu_I X 151 [.ref 85, .int x1] D (fun y1 D2 => if y1 = 0 then (pu_I X 149 [.ref 85, .int (-1)] D2 (fun y4 D5 => P y4 D5)) else (pu_I X 152 [.ref 85, .int x2] D2 (fun y6 D7 => if y6 = 0 then (pu_I X 149 [.ref 85, .int (-1)] D7 (fun y26 D27 => P y26 D27)) else (pu_I X 166 [.ref 85, .int x1, .int 2] D7 (fun y9 D10 => if y9 = 0 then (pu_I X 156 [.ref 85, .int x3] D10 (fun y12 D13 => if y12 = 0 then (pu_I X 149 [.ref 85, .int (-6)] D13 (fun y15 D16 => P y15 D16)) else (pu_I X 156 [.ref 85, .int x4] D13 (fun y17 D18 => if y17 = 0 then (pu_I X 149 [.ref 85, .int (-6)] D18 (fun y22 D23 => P y22 D23)) else (pu_I X 207 [.ref 85, .int x1, .int x2, .int x3, .int x4] D18 (fun y20 D21 => P y20 D21)))))) else (pu_I X 149 [.ref 85, .int y9] D10 (fun y24 D25 => P y24 D25)))))))) :
    pu_I X 208 [.ref 85, .int x1, .int x2, .int x3, .int x4] D P := by
  refine pu_ent (E := [.ref 85, .int x1, .int x2, .int x3, .int x4, .null]) pu_n208.1 pu_n208.2 pu_t208_0 rfl ?_
  refine pu_aload_n rfl ?_
  refine pu_iload_n rfl ?_
  refine pu_cv (vs := [.int x1]) (rest := []) pu_g151 ⟨pu_c85, by decide⟩ rfl rfl rfl rfl rfl (pu_CI (pu_I_imp H (fun y1 D2 H => ?_)))
  refine pu_eq0 pu_t208_16 (fun h3 => ?_) (fun h3 => ?_)
  · replace H := pu_t h3 H
    refine pu_aload_n rfl ?_
    refine pu_iconst ?_
    refine pu_cv (vs := [.int (-1)]) (rest := []) pu_g149 ⟨pu_c85, by decide⟩ rfl rfl rfl rfl rfl (pu_CI (pu_I_imp H (fun y4 D5 H => ?_)))
    exact pu_iretI pu_rt208 H
  · replace H := pu_f h3 H
    refine pu_aload_n rfl ?_
    refine pu_iload_n rfl ?_
    refine pu_cv (vs := [.int x2]) (rest := []) pu_g152 ⟨pu_c85, by decide⟩ rfl rfl rfl rfl rfl (pu_CI (pu_I_imp H (fun y6 D7 H => ?_)))
    refine pu_ne0 pu_t208_22 (fun h8 => ?_) (fun h8 => ?_)
    · replace H := pu_f h8 H
      refine pu_aload_n rfl ?_
      refine pu_iload_n rfl ?_
      refine pu_iconst ?_
      refine pu_cv (vs := [.int x1, .int 2]) (rest := []) pu_g166 ⟨pu_c85, by decide⟩ rfl rfl rfl rfl rfl (pu_CI (pu_I_imp H (fun y9 D10 H => ?_)))
      refine pu_istore (L' := [.ref 85, .int x1, .int x2, .int x3, .int x4, .int y9]) (Or.inr rfl) rfl ?_
      refine pu_iload rfl ?_
      refine pu_eq0 pu_t208_42 (fun h11 => ?_) (fun h11 => ?_)
      · replace H := pu_t h11 H
        refine pu_aload_n rfl ?_
        refine pu_iload_n rfl ?_
        refine pu_cv (vs := [.int x3]) (rest := []) pu_g156 ⟨pu_c85, by decide⟩ rfl rfl rfl rfl rfl (pu_CI (pu_I_imp H (fun y12 D13 H => ?_)))
        refine pu_eq0 pu_t208_59 (fun h14 => ?_) (fun h14 => ?_)
        · replace H := pu_t h14 H
          refine pu_aload_n rfl ?_
          refine pu_bipush ?_
          refine pu_cv (vs := [.int (-6)]) (rest := []) pu_g149 ⟨pu_c85, by decide⟩ rfl rfl rfl rfl rfl (pu_CI (pu_I_imp H (fun y15 D16 H => ?_)))
          exact pu_iretI pu_rt208 H
        · replace H := pu_f h14 H
          refine pu_aload_n rfl ?_
          refine pu_iload rfl ?_
          refine pu_cv (vs := [.int x4]) (rest := []) pu_g156 ⟨pu_c85, by decide⟩ rfl rfl rfl rfl rfl (pu_CI (pu_I_imp H (fun y17 D18 H => ?_)))
          refine pu_ne0 pu_t208_66 (fun h19 => ?_) (fun h19 => ?_)
          · replace H := pu_f h19 H
            refine pu_aload_n rfl ?_
            refine pu_iload_n rfl ?_
            refine pu_iload_n rfl ?_
            refine pu_iload_n rfl ?_
            refine pu_iload rfl ?_
            refine pu_cv (vs := [.int x1, .int x2, .int x3, .int x4]) (rest := []) pu_g207 ⟨pu_c85, by decide⟩ rfl rfl rfl rfl rfl (pu_CI (pu_I_imp H (fun y20 D21 H => ?_)))
            exact pu_iretI pu_rt208 H
          · replace H := pu_t h19 H
            refine pu_aload_n rfl ?_
            refine pu_bipush ?_
            refine pu_cv (vs := [.int (-6)]) (rest := []) pu_g149 ⟨pu_c85, by decide⟩ rfl rfl rfl rfl rfl (pu_CI (pu_I_imp H (fun y22 D23 H => ?_)))
            exact pu_iretI pu_rt208 H
      · replace H := pu_f h11 H
        refine pu_aload_n rfl ?_
        refine pu_iload rfl ?_
        refine pu_cv (vs := [.int y9]) (rest := []) pu_g149 ⟨pu_c85, by decide⟩ rfl rfl rfl rfl rfl (pu_CI (pu_I_imp H (fun y24 D25 H => ?_)))
        exact pu_iretI pu_rt208 H
    · replace H := pu_t h8 H
      refine pu_aload_n rfl ?_
      refine pu_iconst ?_
      refine pu_cv (vs := [.int (-1)]) (rest := []) pu_g149 ⟨pu_c85, by decide⟩ rfl rfl rfl rfl rfl (pu_CI (pu_I_imp H (fun y26 D27 H => ?_)))
      exact pu_iretI pu_rt208 H
/-- LightAlongModel.face(IIII)I -/
def pu_h209_96 (X : px_X) (x1 : Int32) (x2 : Int32) (x3 : Int32) (x4 : Int32) (x6 : Int32) (x7 : Int32) (x8 : Int32) (D : pu_D) (P : Int32 → pu_D → Prop) : Prop := ∀ z5 : Value, z5.category = 1 → pu_W X 209 (0, 0) px_c209_96 [.ref 85, .int x1, .int x2, .int x3, .int x4, z5, .int x6, .int x7, .int x8] [] D (pu_qi P)
theorem pu_u209_96 {X : px_X} {x1 : Int32} {x2 : Int32} {x3 : Int32} {x4 : Int32} {x6 : Int32} {x7 : Int32} {x8 : Int32} {D : pu_D} {P : Int32 → pu_D → Prop} 
    (H : if x8 < (D.1 85 1) then (if ((x6 >>> (x8 &&& 31)) &&& 1) = 1 then ((px_in x8 9 = true) ∧ if (x2 / 2) < ((D.1 91 x8.toNatClampNeg) / 2) then ((px_in x1 8 = true) ∧ if (D.1 106 x1.toNatClampNeg) = 4 then ((px_in x1 8 = true) ∧ if x4 < (D.1 107 x1.toNatClampNeg) then (pu_I X 205 [.ref 85, .int x8, .int x2, .int x3, .int 0] D (fun y35 D36 => pu_h209_96 X x1 x2 x3 x4 x6 (x7 + (y35 / 2)) (x8 + 1) D36 P)) else (pu_I X 205 [.ref 85, .int x8, .int x2, .int x3, .int 1] D (fun y37 D38 => pu_h209_96 X x1 x2 x3 x4 x6 (x7 + (y37 / 2)) (x8 + 1) D38 P))) else (pu_I X 205 [.ref 85, .int x8, .int x2, .int x3, .int 0] D (fun y32 D33 => pu_h209_96 X x1 x2 x3 x4 x6 (x7 + (y32 / 2)) (x8 + 1) D33 P))) else (pu_h209_96 X x1 x2 x3 x4 x6 x7 (x8 + 1) D P)) else (pu_h209_96 X x1 x2 x3 x4 x6 x7 (x8 + 1) D P)) else (P x7 D)) :
    pu_h209_96 X x1 x2 x3 x4 x6 x7 x8 D P := by
  intro z5 hz5
  refine pu_iload rfl ?_
  refine pu_aload_n rfl ?_
  refine pu_getI pu_k8_1 pu_c85 ?_
  refine pu_ge_ pu_t209_178 (fun h28 => ?_) (fun h28 => ?_)
  · replace H := pu_f h28 H
    refine pu_iload rfl ?_
    exact pu_iretI pu_rt209 H
  · replace H := pu_t h28 H
    refine pu_iload rfl ?_
    refine pu_iload rfl ?_
    refine pu_ishr ?_
    refine pu_iconst ?_
    refine pu_iand ?_
    refine pu_iconst ?_
    refine pu_ne_ pu_t209_172 (fun h29 => ?_) (fun h29 => ?_)
    · replace H := pu_f h29 H
      refine pu_iinc (L' := [.ref 85, .int x1, .int x2, .int x3, .int x4, z5, .int x6, .int x7, .int (x8 + 1)]) rfl (Or.inr rfl) rfl ?_
      refine pu_goto pu_t209_96 ?_
      exact H _ hz5
    · replace H := pu_t h29 H
      refine pu_aload_n rfl ?_
      refine pu_getR pu_kr8_17 pu_c85 pu_r85_17 ?_
      refine pu_iload rfl ?_
      refine pu_ial pu_c91 pu_ln91 H.1 ?_
      replace H := H.2
      refine pu_iconst ?_
      refine pu_idiv (by decide) ?_
      refine pu_iload_n rfl ?_
      refine pu_iconst ?_
      refine pu_idiv (by decide) ?_
      refine pu_le_ pu_t209_172 (fun h30 => ?_) (fun h30 => ?_)
      · replace H := pu_f h30 H
        refine pu_iinc (L' := [.ref 85, .int x1, .int x2, .int x3, .int x4, z5, .int x6, .int x7, .int (x8 + 1)]) rfl (Or.inr rfl) rfl ?_
        refine pu_goto pu_t209_96 ?_
        exact H _ hz5
      · replace H := pu_t h30 H
        refine pu_iload rfl ?_
        refine pu_aload_n rfl ?_
        refine pu_iload rfl ?_
        refine pu_iload_n rfl ?_
        refine pu_iload_n rfl ?_
        refine pu_aload_n rfl ?_
        refine pu_getR pu_kr8_32 pu_c85 pu_r85_32 ?_
        refine pu_iload_n rfl ?_
        refine pu_ial pu_c106 pu_ln106 H.1 ?_
        replace H := H.2
        refine pu_iconst ?_
        refine pu_ne_ pu_t209_163 (fun h31 => ?_) (fun h31 => ?_)
        · replace H := pu_f h31 H
          refine pu_iconst ?_
          refine pu_cv (vs := [.int x8, .int x2, .int x3, .int 0]) (rest := [.int x7]) pu_g205 ⟨pu_c85, by decide⟩ rfl rfl rfl rfl rfl (pu_CI (pu_I_imp H (fun y32 D33 H => ?_)))
          refine pu_iconst ?_
          refine pu_idiv (by decide) ?_
          refine pu_iadd ?_
          refine pu_istore (L' := [.ref 85, .int x1, .int x2, .int x3, .int x4, z5, .int x6, .int (x7 + (y32 / 2)), .int x8]) (Or.inr rfl) rfl ?_
          refine pu_iinc (L' := [.ref 85, .int x1, .int x2, .int x3, .int x4, z5, .int x6, .int (x7 + (y32 / 2)), .int (x8 + 1)]) rfl (Or.inr rfl) rfl ?_
          refine pu_goto pu_t209_96 ?_
          exact H _ hz5
        · replace H := pu_t h31 H
          refine pu_iload rfl ?_
          refine pu_aload_n rfl ?_
          refine pu_getR pu_kr8_33 pu_c85 pu_r85_33 ?_
          refine pu_iload_n rfl ?_
          refine pu_ial pu_c107 pu_ln107 H.1 ?_
          replace H := H.2
          refine pu_lt_ pu_t209_163 (fun h34 => ?_) (fun h34 => ?_)
          · replace H := pu_t h34 H
            refine pu_iconst ?_
            refine pu_cv (vs := [.int x8, .int x2, .int x3, .int 0]) (rest := [.int x7]) pu_g205 ⟨pu_c85, by decide⟩ rfl rfl rfl rfl rfl (pu_CI (pu_I_imp H (fun y35 D36 H => ?_)))
            refine pu_iconst ?_
            refine pu_idiv (by decide) ?_
            refine pu_iadd ?_
            refine pu_istore (L' := [.ref 85, .int x1, .int x2, .int x3, .int x4, z5, .int x6, .int (x7 + (y35 / 2)), .int x8]) (Or.inr rfl) rfl ?_
            refine pu_iinc (L' := [.ref 85, .int x1, .int x2, .int x3, .int x4, z5, .int x6, .int (x7 + (y35 / 2)), .int (x8 + 1)]) rfl (Or.inr rfl) rfl ?_
            refine pu_goto pu_t209_96 ?_
            exact H _ hz5
          · replace H := pu_f h34 H
            refine pu_iconst ?_
            refine pu_goto pu_t209_164 ?_
            refine pu_cv (vs := [.int x8, .int x2, .int x3, .int 1]) (rest := [.int x7]) pu_g205 ⟨pu_c85, by decide⟩ rfl rfl rfl rfl rfl (pu_CI (pu_I_imp H (fun y37 D38 H => ?_)))
            refine pu_iconst ?_
            refine pu_idiv (by decide) ?_
            refine pu_iadd ?_
            refine pu_istore (L' := [.ref 85, .int x1, .int x2, .int x3, .int x4, z5, .int x6, .int (x7 + (y37 / 2)), .int x8]) (Or.inr rfl) rfl ?_
            refine pu_iinc (L' := [.ref 85, .int x1, .int x2, .int x3, .int x4, z5, .int x6, .int (x7 + (y37 / 2)), .int (x8 + 1)]) rfl (Or.inr rfl) rfl ?_
            refine pu_goto pu_t209_96 ?_
            exact H _ hz5
theorem pu_e209 {X : px_X} {x1 : Int32} {x2 : Int32} {x3 : Int32} {x4 : Int32} {D : pu_D} {P : Int32 → pu_D → Prop} 
    (H : pu_I X 151 [.ref 85, .int x1] D (fun y1 D2 => if y1 = 0 then (pu_I X 149 [.ref 85, .int (-1)] D2 (fun y4 D5 => P y4 D5)) else (pu_I X 152 [.ref 85, .int x2] D2 (fun y6 D7 => if y6 = 0 then (pu_I X 149 [.ref 85, .int (-1)] D7 (fun y26 D27 => P y26 D27)) else (pu_I X 166 [.ref 85, .int x1, .int 2] D7 (fun y9 D10 => if y9 = 0 then (pu_I X 156 [.ref 85, .int x3] D10 (fun y12 D13 => if y12 = 0 then (pu_I X 149 [.ref 85, .int (-6)] D13 (fun y15 D16 => P y15 D16)) else (pu_I X 156 [.ref 85, .int x4] D13 (fun y17 D18 => if y17 = 0 then (pu_I X 149 [.ref 85, .int (-6)] D18 (fun y22 D23 => P y22 D23)) else ((px_in x1 8 = true) ∧ (px_in x1 8 = true) ∧ (px_in x1 8 = true) ∧ pu_I X 202 [.ref 85, .int (D18.1 106 x1.toNatClampNeg), .int (D18.1 107 x1.toNatClampNeg), .int (D18.1 105 x1.toNatClampNeg)] D18 (fun y20 D21 => pu_h209_96 X x1 x2 x3 x4 y20 0 0 D21 P)))))) else (pu_I X 149 [.ref 85, .int y9] D10 (fun y24 D25 => P y24 D25)))))))) :
    pu_I X 209 [.ref 85, .int x1, .int x2, .int x3, .int x4] D P := by
  refine pu_ent (E := [.ref 85, .int x1, .int x2, .int x3, .int x4, .null, .null, .null, .null]) pu_n209.1 pu_n209.2 pu_t209_0 rfl ?_
  refine pu_aload_n rfl ?_
  refine pu_iload_n rfl ?_
  refine pu_cv (vs := [.int x1]) (rest := []) pu_g151 ⟨pu_c85, by decide⟩ rfl rfl rfl rfl rfl (pu_CI (pu_I_imp H (fun y1 D2 H => ?_)))
  refine pu_eq0 pu_t209_16 (fun h3 => ?_) (fun h3 => ?_)
  · replace H := pu_t h3 H
    refine pu_aload_n rfl ?_
    refine pu_iconst ?_
    refine pu_cv (vs := [.int (-1)]) (rest := []) pu_g149 ⟨pu_c85, by decide⟩ rfl rfl rfl rfl rfl (pu_CI (pu_I_imp H (fun y4 D5 H => ?_)))
    exact pu_iretI pu_rt209 H
  · replace H := pu_f h3 H
    refine pu_aload_n rfl ?_
    refine pu_iload_n rfl ?_
    refine pu_cv (vs := [.int x2]) (rest := []) pu_g152 ⟨pu_c85, by decide⟩ rfl rfl rfl rfl rfl (pu_CI (pu_I_imp H (fun y6 D7 H => ?_)))
    refine pu_ne0 pu_t209_22 (fun h8 => ?_) (fun h8 => ?_)
    · replace H := pu_f h8 H
      refine pu_aload_n rfl ?_
      refine pu_iload_n rfl ?_
      refine pu_iconst ?_
      refine pu_cv (vs := [.int x1, .int 2]) (rest := []) pu_g166 ⟨pu_c85, by decide⟩ rfl rfl rfl rfl rfl (pu_CI (pu_I_imp H (fun y9 D10 H => ?_)))
      refine pu_istore (L' := [.ref 85, .int x1, .int x2, .int x3, .int x4, .int y9, .null, .null, .null]) (Or.inr rfl) rfl ?_
      refine pu_iload rfl ?_
      refine pu_eq0 pu_t209_42 (fun h11 => ?_) (fun h11 => ?_)
      · replace H := pu_t h11 H
        refine pu_aload_n rfl ?_
        refine pu_iload_n rfl ?_
        refine pu_cv (vs := [.int x3]) (rest := []) pu_g156 ⟨pu_c85, by decide⟩ rfl rfl rfl rfl rfl (pu_CI (pu_I_imp H (fun y12 D13 H => ?_)))
        refine pu_eq0 pu_t209_59 (fun h14 => ?_) (fun h14 => ?_)
        · replace H := pu_t h14 H
          refine pu_aload_n rfl ?_
          refine pu_bipush ?_
          refine pu_cv (vs := [.int (-6)]) (rest := []) pu_g149 ⟨pu_c85, by decide⟩ rfl rfl rfl rfl rfl (pu_CI (pu_I_imp H (fun y15 D16 H => ?_)))
          exact pu_iretI pu_rt209 H
        · replace H := pu_f h14 H
          refine pu_aload_n rfl ?_
          refine pu_iload rfl ?_
          refine pu_cv (vs := [.int x4]) (rest := []) pu_g156 ⟨pu_c85, by decide⟩ rfl rfl rfl rfl rfl (pu_CI (pu_I_imp H (fun y17 D18 H => ?_)))
          refine pu_ne0 pu_t209_66 (fun h19 => ?_) (fun h19 => ?_)
          · replace H := pu_f h19 H
            refine pu_aload_n rfl ?_
            refine pu_aload_n rfl ?_
            refine pu_getR pu_kr8_32 pu_c85 pu_r85_32 ?_
            refine pu_iload_n rfl ?_
            refine pu_ial pu_c106 pu_ln106 H.1 ?_
            replace H := H.2
            refine pu_aload_n rfl ?_
            refine pu_getR pu_kr8_33 pu_c85 pu_r85_33 ?_
            refine pu_iload_n rfl ?_
            refine pu_ial pu_c107 pu_ln107 H.1 ?_
            replace H := H.2
            refine pu_aload_n rfl ?_
            refine pu_getR pu_kr8_31 pu_c85 pu_r85_31 ?_
            refine pu_iload_n rfl ?_
            refine pu_ial pu_c105 pu_ln105 H.1 ?_
            replace H := H.2
            refine pu_cv (vs := [.int (D18.1 106 x1.toNatClampNeg), .int (D18.1 107 x1.toNatClampNeg), .int (D18.1 105 x1.toNatClampNeg)]) (rest := []) pu_g202 ⟨pu_c85, by decide⟩ rfl rfl rfl rfl rfl (pu_CI (pu_I_imp H (fun y20 D21 H => ?_)))
            refine pu_istore (L' := [.ref 85, .int x1, .int x2, .int x3, .int x4, .int y9, .int y20, .null, .null]) (Or.inr rfl) rfl ?_
            refine pu_iconst ?_
            refine pu_istore (L' := [.ref 85, .int x1, .int x2, .int x3, .int x4, .int y9, .int y20, .int 0, .null]) (Or.inr rfl) rfl ?_
            refine pu_iconst ?_
            refine pu_istore (L' := [.ref 85, .int x1, .int x2, .int x3, .int x4, .int y9, .int y20, .int 0, .int 0]) (Or.inr rfl) rfl ?_
            exact H _ rfl
          · replace H := pu_t h19 H
            refine pu_aload_n rfl ?_
            refine pu_bipush ?_
            refine pu_cv (vs := [.int (-6)]) (rest := []) pu_g149 ⟨pu_c85, by decide⟩ rfl rfl rfl rfl rfl (pu_CI (pu_I_imp H (fun y22 D23 H => ?_)))
            exact pu_iretI pu_rt209 H
      · replace H := pu_f h11 H
        refine pu_aload_n rfl ?_
        refine pu_iload rfl ?_
        refine pu_cv (vs := [.int y9]) (rest := []) pu_g149 ⟨pu_c85, by decide⟩ rfl rfl rfl rfl rfl (pu_CI (pu_I_imp H (fun y24 D25 H => ?_)))
        exact pu_iretI pu_rt209 H
    · replace H := pu_t h8 H
      refine pu_aload_n rfl ?_
      refine pu_iconst ?_
      refine pu_cv (vs := [.int (-1)]) (rest := []) pu_g149 ⟨pu_c85, by decide⟩ rfl rfl rfl rfl rfl (pu_CI (pu_I_imp H (fun y26 D27 H => ?_)))
      exact pu_iretI pu_rt209 H
/-- LightAlongModel.isPool(I)Z -/
def pu_h210_2 (X : px_X) (x1 : Int32) (x2 : Int32) (D : pu_D) (P : Int32 → pu_D → Prop) : Prop := pu_W X 210 (0, 0) px_c210_2 [.ref 85, .int x1, .int x2] [] D (pu_qi P)
theorem pu_u210_2 {X : px_X} {x1 : Int32} {x2 : Int32} {D : pu_D} {P : Int32 → pu_D → Prop} 
    (H : if x2 < (D.1 85 6) then ((px_in x2 6 = true) ∧ if (D.1 102 x2.toNatClampNeg) = x1 then (P 1 D) else (pu_h210_2 X x1 (x2 + 1) D P)) else (P 0 D)) :
    pu_h210_2 X x1 x2 D P := by
  refine pu_iload_n rfl ?_
  refine pu_aload_n rfl ?_
  refine pu_getI pu_k8_6 pu_c85 ?_
  refine pu_ge_ pu_t210_28 (fun h1 => ?_) (fun h1 => ?_)
  · replace H := pu_f h1 H
    refine pu_iconst ?_
    exact pu_iretZ pu_rt210 (by decide) H
  · replace H := pu_t h1 H
    refine pu_aload_n rfl ?_
    refine pu_getR pu_kr8_28 pu_c85 pu_r85_28 ?_
    refine pu_iload_n rfl ?_
    refine pu_ial pu_c102 pu_ln102 H.1 ?_
    replace H := H.2
    refine pu_iload_n rfl ?_
    refine pu_ne_ pu_t210_22 (fun h2 => ?_) (fun h2 => ?_)
    · replace H := pu_f h2 H
      refine pu_iinc (L' := [.ref 85, .int x1, .int (x2 + 1)]) rfl (Or.inr rfl) rfl ?_
      refine pu_goto pu_t210_2 ?_
      exact H 
    · replace H := pu_t h2 H
      refine pu_iconst ?_
      exact pu_iretZ pu_rt210 (by decide) H
theorem pu_e210 {X : px_X} {x1 : Int32} {D : pu_D} {P : Int32 → pu_D → Prop} 
    (H : pu_h210_2 X x1 0 D P) :
    pu_I X 210 [.ref 85, .int x1] D P := by
  refine pu_ent (E := [.ref 85, .int x1, .null]) pu_n210.1 pu_n210.2 pu_t210_0 rfl ?_
  refine pu_iconst ?_
  refine pu_istore_n (L' := [.ref 85, .int x1, .int 0]) (Or.inr rfl) rfl ?_
  exact H 
/-- LightAlongModel.judged()I -/
def pu_h211_19 (X : px_X) (x1 : Int32) (x2 : Int32) (x3 : Int32) (x4 : Int32) (D : pu_D) (P : Int32 → pu_D → Prop) : Prop := pu_W X 211 (0, 0) px_c211_19 [.ref 85, .int x1, .int x2, .int x3, .int x4] [] D (pu_qi P)
def pu_h211_115 (X : px_X) (x1 : Int32) (x2 : Int32) (x3 : Int32) (x4 : Int32) (D : pu_D) (P : Int32 → pu_D → Prop) : Prop := pu_W X 211 (0, 0) px_c211_115 [.ref 85, .int x1, .int x2, .int x3, .int x4] [] D (pu_qi P)
def pu_h211_188 (X : px_X) (x1 : Int32) (x4 : Int32) (D : pu_D) (P : Int32 → pu_D → Prop) : Prop := ∀ z2 : Value, z2.category = 1 → ∀ z3 : Value, z3.category = 1 → pu_W X 211 (0, 0) px_c211_188 [.ref 85, .int x1, z2, z3, .int x4] [] D (pu_qi P)
theorem pu_u211_19 {X : px_X} {x1 : Int32} {x2 : Int32} {x3 : Int32} {x4 : Int32} {D : pu_D} {P : Int32 → pu_D → Prop} 
    (H : if x4 < x1 then (pu_I X 210 [.ref 85, .int x4] D (fun y2 D3 => if y2 = 0 then ((px_in x4 120 = true) ∧ if (D3.1 113 x4.toNatClampNeg) < (D3.1 85 7) then (P 1 (pu_wi D3 85 45 x4)) else (if x2 = (-1) then ((px_in x4 120 = true) ∧ if x3 < (D3.1 113 x4.toNatClampNeg) then ((px_in x4 120 = true) ∧ pu_h211_19 X x1 x4 (D3.1 113 x4.toNatClampNeg) (x4 + 1) D3 P) else (pu_h211_19 X x1 x4 x3 (x4 + 1) D3 P)) else ((px_in x4 120 = true) ∧ (px_in x2 120 = true) ∧ if (D3.1 113 x4.toNatClampNeg) < (D3.1 113 x2.toNatClampNeg) then ((px_in x4 120 = true) ∧ if x3 < (D3.1 113 x4.toNatClampNeg) then ((px_in x4 120 = true) ∧ pu_h211_19 X x1 x4 (D3.1 113 x4.toNatClampNeg) (x4 + 1) D3 P) else (pu_h211_19 X x1 x4 x3 (x4 + 1) D3 P)) else ((px_in x4 120 = true) ∧ if x3 < (D3.1 113 x4.toNatClampNeg) then ((px_in x4 120 = true) ∧ pu_h211_19 X x1 x2 (D3.1 113 x4.toNatClampNeg) (x4 + 1) D3 P) else (pu_h211_19 X x1 x2 x3 (x4 + 1) D3 P))))) else (pu_h211_19 X x1 x2 x3 (x4 + 1) D3 P))) else (pu_h211_115 X x1 x2 x3 0 D P)) :
    pu_h211_19 X x1 x2 x3 x4 D P := by
  refine pu_iload rfl ?_
  refine pu_iload_n rfl ?_
  refine pu_ge_ pu_t211_112 (fun h1 => ?_) (fun h1 => ?_)
  · replace H := pu_f h1 H
    refine pu_iconst ?_
    refine pu_istore (L' := [.ref 85, .int x1, .int x2, .int x3, .int 0]) (Or.inr rfl) rfl ?_
    exact H 
  · replace H := pu_t h1 H
    refine pu_aload_n rfl ?_
    refine pu_iload rfl ?_
    refine pu_cv (vs := [.int x4]) (rest := []) pu_g210 ⟨pu_c85, by decide⟩ rfl rfl rfl rfl rfl (pu_CI (pu_I_imp H (fun y2 D3 H => ?_)))
    refine pu_eq0 pu_t211_37 (fun h4 => ?_) (fun h4 => ?_)
    · replace H := pu_t h4 H
      refine pu_aload_n rfl ?_
      refine pu_getR pu_kr8_44 pu_c85 pu_r85_44 ?_
      refine pu_iload rfl ?_
      refine pu_ial pu_c113 pu_ln113 H.1 ?_
      replace H := H.2
      refine pu_aload_n rfl ?_
      refine pu_getI pu_k8_7 pu_c85 ?_
      refine pu_ge_ pu_t211_59 (fun h5 => ?_) (fun h5 => ?_)
      · replace H := pu_f h5 H
        refine pu_iload_n rfl ?_
        refine pu_iconst ?_
        refine pu_eq_ pu_t211_80 (fun h6 => ?_) (fun h6 => ?_)
        · replace H := pu_t h6 H
          refine pu_iload rfl ?_
          refine pu_istore_n (L' := [.ref 85, .int x1, .int x4, .int x3, .int x4]) (Or.inr rfl) rfl ?_
          refine pu_aload_n rfl ?_
          refine pu_getR pu_kr8_44 pu_c85 pu_r85_44 ?_
          refine pu_iload rfl ?_
          refine pu_ial pu_c113 pu_ln113 H.1 ?_
          replace H := H.2
          refine pu_iload_n rfl ?_
          refine pu_le_ pu_t211_104 (fun h7 => ?_) (fun h7 => ?_)
          · replace H := pu_f h7 H
            refine pu_iload_n rfl ?_
            refine pu_istore_n (L' := [.ref 85, .int x1, .int x4, .int x3, .int x4]) (Or.inr rfl) rfl ?_
            refine pu_iinc (L' := [.ref 85, .int x1, .int x4, .int x3, .int (x4 + 1)]) rfl (Or.inr rfl) rfl ?_
            refine pu_goto pu_t211_19 ?_
            exact H 
          · replace H := pu_t h7 H
            refine pu_aload_n rfl ?_
            refine pu_getR pu_kr8_44 pu_c85 pu_r85_44 ?_
            refine pu_iload rfl ?_
            refine pu_ial pu_c113 pu_ln113 H.1 ?_
            replace H := H.2
            refine pu_goto pu_t211_105 ?_
            refine pu_istore_n (L' := [.ref 85, .int x1, .int x4, .int (D3.1 113 x4.toNatClampNeg), .int x4]) (Or.inr rfl) rfl ?_
            refine pu_iinc (L' := [.ref 85, .int x1, .int x4, .int (D3.1 113 x4.toNatClampNeg), .int (x4 + 1)]) rfl (Or.inr rfl) rfl ?_
            refine pu_goto pu_t211_19 ?_
            exact H 
        · replace H := pu_f h6 H
          refine pu_aload_n rfl ?_
          refine pu_getR pu_kr8_44 pu_c85 pu_r85_44 ?_
          refine pu_iload rfl ?_
          refine pu_ial pu_c113 pu_ln113 H.1 ?_
          replace H := H.2
          refine pu_aload_n rfl ?_
          refine pu_getR pu_kr8_44 pu_c85 pu_r85_44 ?_
          refine pu_iload_n rfl ?_
          refine pu_ial pu_c113 pu_ln113 H.1 ?_
          replace H := H.2
          refine pu_ge_ pu_t211_83 (fun h8 => ?_) (fun h8 => ?_)
          · replace H := pu_f h8 H
            refine pu_aload_n rfl ?_
            refine pu_getR pu_kr8_44 pu_c85 pu_r85_44 ?_
            refine pu_iload rfl ?_
            refine pu_ial pu_c113 pu_ln113 H.1 ?_
            replace H := H.2
            refine pu_iload_n rfl ?_
            refine pu_le_ pu_t211_104 (fun h9 => ?_) (fun h9 => ?_)
            · replace H := pu_f h9 H
              refine pu_iload_n rfl ?_
              refine pu_istore_n (L' := [.ref 85, .int x1, .int x2, .int x3, .int x4]) (Or.inr rfl) rfl ?_
              refine pu_iinc (L' := [.ref 85, .int x1, .int x2, .int x3, .int (x4 + 1)]) rfl (Or.inr rfl) rfl ?_
              refine pu_goto pu_t211_19 ?_
              exact H 
            · replace H := pu_t h9 H
              refine pu_aload_n rfl ?_
              refine pu_getR pu_kr8_44 pu_c85 pu_r85_44 ?_
              refine pu_iload rfl ?_
              refine pu_ial pu_c113 pu_ln113 H.1 ?_
              replace H := H.2
              refine pu_goto pu_t211_105 ?_
              refine pu_istore_n (L' := [.ref 85, .int x1, .int x2, .int (D3.1 113 x4.toNatClampNeg), .int x4]) (Or.inr rfl) rfl ?_
              refine pu_iinc (L' := [.ref 85, .int x1, .int x2, .int (D3.1 113 x4.toNatClampNeg), .int (x4 + 1)]) rfl (Or.inr rfl) rfl ?_
              refine pu_goto pu_t211_19 ?_
              exact H 
          · replace H := pu_t h8 H
            refine pu_iload rfl ?_
            refine pu_istore_n (L' := [.ref 85, .int x1, .int x4, .int x3, .int x4]) (Or.inr rfl) rfl ?_
            refine pu_aload_n rfl ?_
            refine pu_getR pu_kr8_44 pu_c85 pu_r85_44 ?_
            refine pu_iload rfl ?_
            refine pu_ial pu_c113 pu_ln113 H.1 ?_
            replace H := H.2
            refine pu_iload_n rfl ?_
            refine pu_le_ pu_t211_104 (fun h10 => ?_) (fun h10 => ?_)
            · replace H := pu_f h10 H
              refine pu_iload_n rfl ?_
              refine pu_istore_n (L' := [.ref 85, .int x1, .int x4, .int x3, .int x4]) (Or.inr rfl) rfl ?_
              refine pu_iinc (L' := [.ref 85, .int x1, .int x4, .int x3, .int (x4 + 1)]) rfl (Or.inr rfl) rfl ?_
              refine pu_goto pu_t211_19 ?_
              exact H 
            · replace H := pu_t h10 H
              refine pu_aload_n rfl ?_
              refine pu_getR pu_kr8_44 pu_c85 pu_r85_44 ?_
              refine pu_iload rfl ?_
              refine pu_ial pu_c113 pu_ln113 H.1 ?_
              replace H := H.2
              refine pu_goto pu_t211_105 ?_
              refine pu_istore_n (L' := [.ref 85, .int x1, .int x4, .int (D3.1 113 x4.toNatClampNeg), .int x4]) (Or.inr rfl) rfl ?_
              refine pu_iinc (L' := [.ref 85, .int x1, .int x4, .int (D3.1 113 x4.toNatClampNeg), .int (x4 + 1)]) rfl (Or.inr rfl) rfl ?_
              refine pu_goto pu_t211_19 ?_
              exact H 
      · replace H := pu_t h5 H
        refine pu_aload_n rfl ?_
        refine pu_iload rfl ?_
        refine pu_putI pu_p8_45 pu_c85 ?_
        refine pu_iconst ?_
        exact pu_iretI pu_rt211 H
    · replace H := pu_f h4 H
      refine pu_goto pu_t211_106 ?_
      refine pu_iinc (L' := [.ref 85, .int x1, .int x2, .int x3, .int (x4 + 1)]) rfl (Or.inr rfl) rfl ?_
      refine pu_goto pu_t211_19 ?_
      exact H 
theorem pu_u211_115 {X : px_X} {x1 : Int32} {x2 : Int32} {x3 : Int32} {x4 : Int32} {D : pu_D} {P : Int32 → pu_D → Prop} 
    (H : if x4 < x1 then (pu_I X 210 [.ref 85, .int x4] D (fun y14 D15 => if y14 = 0 then (pu_h211_115 X x1 x2 x3 (x4 + 1) D15 P) else ((px_in x4 120 = true) ∧ if 5 < (D15.1 113 x4.toNatClampNeg) then (P 2 (pu_wi D15 85 45 x4)) else (pu_h211_115 X x1 x2 x3 (x4 + 1) D15 P)))) else (if x2 = (-1) then (pu_h211_188 X x1 0 D P) else ((px_in x2 120 = true) ∧ if ((D.1 85 8) * (D.1 113 x2.toNatClampNeg)) < x3 then (P 3 (pu_wi D 85 45 x2)) else (pu_h211_188 X x1 0 D P)))) :
    pu_h211_115 X x1 x2 x3 x4 D P := by
  refine pu_iload rfl ?_
  refine pu_iload_n rfl ?_
  refine pu_ge_ pu_t211_158 (fun h11 => ?_) (fun h11 => ?_)
  · replace H := pu_f h11 H
    refine pu_iload_n rfl ?_
    refine pu_iconst ?_
    refine pu_eq_ pu_t211_185 (fun h12 => ?_) (fun h12 => ?_)
    · replace H := pu_t h12 H
      refine pu_iconst ?_
      refine pu_istore (L' := [.ref 85, .int x1, .int x2, .int x3, .int 0]) (Or.inr rfl) rfl ?_
      exact H _ rfl _ rfl
    · replace H := pu_f h12 H
      refine pu_aload_n rfl ?_
      refine pu_getI pu_k8_8 pu_c85 ?_
      refine pu_aload_n rfl ?_
      refine pu_getR pu_kr8_44 pu_c85 pu_r85_44 ?_
      refine pu_iload_n rfl ?_
      refine pu_ial pu_c113 pu_ln113 H.1 ?_
      replace H := H.2
      refine pu_imul ?_
      refine pu_iload_n rfl ?_
      refine pu_ge_ pu_t211_185 (fun h13 => ?_) (fun h13 => ?_)
      · replace H := pu_f h13 H
        refine pu_iconst ?_
        refine pu_istore (L' := [.ref 85, .int x1, .int x2, .int x3, .int 0]) (Or.inr rfl) rfl ?_
        exact H _ rfl _ rfl
      · replace H := pu_t h13 H
        refine pu_aload_n rfl ?_
        refine pu_iload_n rfl ?_
        refine pu_putI pu_p8_45 pu_c85 ?_
        refine pu_iconst ?_
        exact pu_iretI pu_rt211 H
  · replace H := pu_t h11 H
    refine pu_aload_n rfl ?_
    refine pu_iload rfl ?_
    refine pu_cv (vs := [.int x4]) (rest := []) pu_g210 ⟨pu_c85, by decide⟩ rfl rfl rfl rfl rfl (pu_CI (pu_I_imp H (fun y14 D15 H => ?_)))
    refine pu_eq0 pu_t211_152 (fun h16 => ?_) (fun h16 => ?_)
    · replace H := pu_t h16 H
      refine pu_iinc (L' := [.ref 85, .int x1, .int x2, .int x3, .int (x4 + 1)]) rfl (Or.inr rfl) rfl ?_
      refine pu_goto pu_t211_115 ?_
      exact H 
    · replace H := pu_f h16 H
      refine pu_aload_n rfl ?_
      refine pu_getR pu_kr8_44 pu_c85 pu_r85_44 ?_
      refine pu_iload rfl ?_
      refine pu_ial pu_c113 pu_ln113 H.1 ?_
      replace H := H.2
      refine pu_iconst ?_
      refine pu_gt_ pu_t211_144 (fun h17 => ?_) (fun h17 => ?_)
      · replace H := pu_t h17 H
        refine pu_aload_n rfl ?_
        refine pu_iload rfl ?_
        refine pu_putI pu_p8_45 pu_c85 ?_
        refine pu_iconst ?_
        exact pu_iretI pu_rt211 H
      · replace H := pu_f h17 H
        refine pu_goto pu_t211_152 ?_
        refine pu_iinc (L' := [.ref 85, .int x1, .int x2, .int x3, .int (x4 + 1)]) rfl (Or.inr rfl) rfl ?_
        refine pu_goto pu_t211_115 ?_
        exact H 
theorem pu_u211_188 {X : px_X} {x1 : Int32} {x4 : Int32} {D : pu_D} {P : Int32 → pu_D → Prop} 
    (H : if x4 < (D.1 85 4) then ((px_in x4 12 = true) ∧ if (D.1 97 x4.toNatClampNeg) < x1 then ((px_in x4 12 = true) ∧ (px_in (D.1 97 x4.toNatClampNeg) 120 = true) ∧ (px_in x4 12 = true) ∧ if (D.1 98 x4.toNatClampNeg) < (D.1 113 (D.1 97 x4.toNatClampNeg).toNatClampNeg) then ((px_in x4 12 = true) ∧ P 4 (pu_wi D 85 45 (D.1 97 x4.toNatClampNeg))) else (pu_h211_188 X x1 (x4 + 1) D P)) else (pu_h211_188 X x1 (x4 + 1) D P)) else (P 0 D)) :
    pu_h211_188 X x1 x4 D P := by
  intro z2 hz2 z3 hz3
  refine pu_iload rfl ?_
  refine pu_aload_n rfl ?_
  refine pu_getI pu_k8_4 pu_c85 ?_
  refine pu_ge_ pu_t211_252 (fun h18 => ?_) (fun h18 => ?_)
  · replace H := pu_f h18 H
    refine pu_iconst ?_
    exact pu_iretI pu_rt211 H
  · replace H := pu_t h18 H
    refine pu_aload_n rfl ?_
    refine pu_getR pu_kr8_23 pu_c85 pu_r85_23 ?_
    refine pu_iload rfl ?_
    refine pu_ial pu_c97 pu_ln97 H.1 ?_
    replace H := H.2
    refine pu_iload_n rfl ?_
    refine pu_ge_ pu_t211_246 (fun h19 => ?_) (fun h19 => ?_)
    · replace H := pu_f h19 H
      refine pu_iinc (L' := [.ref 85, .int x1, z2, z3, .int (x4 + 1)]) rfl (Or.inr hz3) rfl ?_
      refine pu_goto pu_t211_188 ?_
      exact H _ hz2 _ hz3
    · replace H := pu_t h19 H
      refine pu_aload_n rfl ?_
      refine pu_getR pu_kr8_44 pu_c85 pu_r85_44 ?_
      refine pu_aload_n rfl ?_
      refine pu_getR pu_kr8_23 pu_c85 pu_r85_23 ?_
      refine pu_iload rfl ?_
      refine pu_ial pu_c97 pu_ln97 H.1 ?_
      replace H := H.2
      refine pu_ial pu_c113 pu_ln113 H.1 ?_
      replace H := H.2
      refine pu_aload_n rfl ?_
      refine pu_getR pu_kr8_24 pu_c85 pu_r85_24 ?_
      refine pu_iload rfl ?_
      refine pu_ial pu_c98 pu_ln98 H.1 ?_
      replace H := H.2
      refine pu_gt_ pu_t211_233 (fun h20 => ?_) (fun h20 => ?_)
      · replace H := pu_t h20 H
        refine pu_aload_n rfl ?_
        refine pu_aload_n rfl ?_
        refine pu_getR pu_kr8_23 pu_c85 pu_r85_23 ?_
        refine pu_iload rfl ?_
        refine pu_ial pu_c97 pu_ln97 H.1 ?_
        replace H := H.2
        refine pu_putI pu_p8_45 pu_c85 ?_
        refine pu_iconst ?_
        exact pu_iretI pu_rt211 H
      · replace H := pu_f h20 H
        refine pu_goto pu_t211_246 ?_
        refine pu_iinc (L' := [.ref 85, .int x1, z2, z3, .int (x4 + 1)]) rfl (Or.inr hz3) rfl ?_
        refine pu_goto pu_t211_188 ?_
        exact H _ hz2 _ hz3
theorem pu_e211 {X : px_X}  {D : pu_D} {P : Int32 → pu_D → Prop} 
    (H : pu_h211_19 X (2 * (D.1 85 10)) (-1) 0 0 (pu_wi D 85 45 (-1)) P) :
    pu_I X 211 [.ref 85] D P := by
  refine pu_ent (E := [.ref 85, .null, .null, .null, .null]) pu_n211.1 pu_n211.2 pu_t211_0 rfl ?_
  refine pu_iconst ?_
  refine pu_aload_n rfl ?_
  refine pu_getI pu_k8_10 pu_c85 ?_
  refine pu_imul ?_
  refine pu_istore_n (L' := [.ref 85, .int (2 * (D.1 85 10)), .null, .null, .null]) (Or.inr rfl) rfl ?_
  refine pu_iconst ?_
  refine pu_istore_n (L' := [.ref 85, .int (2 * (D.1 85 10)), .int (-1), .null, .null]) (Or.inr rfl) rfl ?_
  refine pu_iconst ?_
  refine pu_istore_n (L' := [.ref 85, .int (2 * (D.1 85 10)), .int (-1), .int 0, .null]) (Or.inr rfl) rfl ?_
  refine pu_aload_n rfl ?_
  refine pu_iconst ?_
  refine pu_putI pu_p8_45 pu_c85 ?_
  refine pu_iconst ?_
  refine pu_istore (L' := [.ref 85, .int (2 * (D.1 85 10)), .int (-1), .int 0, .int 0]) (Or.inr rfl) rfl ?_
  exact H 
/-- LightAlongModel.lights(IIIII)V -/
def pu_h212_3 (X : px_X) (x1 : Int32) (x2 : Int32) (x3 : Int32) (x4 : Int32) (x5 : Int32) (x6 : Int32) (D : pu_D) (P : pu_D → Prop) : Prop := pu_W X 212 (0, 0) px_c212_3 [.ref 85, .int x1, .int x2, .int x3, .int x4, .int x5, .int x6] [] D (pu_qv P)
theorem pu_u212_3 {X : px_X} {x1 : Int32} {x2 : Int32} {x3 : Int32} {x4 : Int32} {x5 : Int32} {x6 : Int32} {D : pu_D} {P : pu_D → Prop} 
    (H : if x6 < (2 * (D.1 85 10)) then (pu_I X 206 [.ref 85, .int x1, .int x2, .int x3, .int x6, .int x4, .int x5] D (fun y2 D3 => (px_in x6 120 = true) ∧ pu_h212_3 X x1 x2 x3 x4 x5 (x6 + 1) (pu_wi D3 113 x6.toNatClampNeg y2) P)) else (P D)) :
    pu_h212_3 X x1 x2 x3 x4 x5 x6 D P := by
  refine pu_iload rfl ?_
  refine pu_iconst ?_
  refine pu_aload_n rfl ?_
  refine pu_getI pu_k8_10 pu_c85 ?_
  refine pu_imul ?_
  refine pu_ge_ pu_t212_40 (fun h1 => ?_) (fun h1 => ?_)
  · replace H := pu_f h1 H
    exact pu_vret pu_rt212 H
  · replace H := pu_t h1 H
    refine pu_aload_n rfl ?_
    refine pu_getR pu_kr8_44 pu_c85 pu_r85_44 ?_
    refine pu_iload rfl ?_
    refine pu_aload_n rfl ?_
    refine pu_iload_n rfl ?_
    refine pu_iload_n rfl ?_
    refine pu_iload_n rfl ?_
    refine pu_iload rfl ?_
    refine pu_iload rfl ?_
    refine pu_iload rfl ?_
    refine pu_cv (vs := [.int x1, .int x2, .int x3, .int x6, .int x4, .int x5]) (rest := [.int x6, .ref 113]) pu_g206 ⟨pu_c85, by decide⟩ rfl rfl rfl rfl rfl (pu_CI (pu_I_imp H (fun y2 D3 H => ?_)))
    refine pu_ias pu_c113 pu_ln113 H.1 ?_
    replace H := H.2
    refine pu_iinc (L' := [.ref 85, .int x1, .int x2, .int x3, .int x4, .int x5, .int (x6 + 1)]) rfl (Or.inr rfl) rfl ?_
    refine pu_goto pu_t212_3 ?_
    exact H 
theorem pu_e212 {X : px_X} {x1 : Int32} {x2 : Int32} {x3 : Int32} {x4 : Int32} {x5 : Int32} {D : pu_D} {P : pu_D → Prop} 
    (H : pu_h212_3 X x1 x2 x3 x4 x5 0 D P) :
    pu_V X 212 [.ref 85, .int x1, .int x2, .int x3, .int x4, .int x5] D P := by
  refine pu_ent (E := [.ref 85, .int x1, .int x2, .int x3, .int x4, .int x5, .null]) pu_n212.1 pu_n212.2 pu_t212_0 rfl ?_
  refine pu_iconst ?_
  refine pu_istore (L' := [.ref 85, .int x1, .int x2, .int x3, .int x4, .int x5, .int 0]) (Or.inr rfl) rfl ?_
  exact H 
/-- LightAlongModel.faulty(III)I -/
theorem pu_e213 {X : px_X} {x1 : Int32} {x2 : Int32} {x3 : Int32} {D : pu_D} {P : Int32 → pu_D → Prop} 
    (H : pu_I X 166 [.ref 85, .int x1, .int 2] D (fun y1 D2 => if y1 = 0 then (pu_I X 156 [.ref 85, .int x2] D2 (fun y4 D5 => if y4 = 0 then (pu_I X 149 [.ref 85, .int (-6)] D5 (fun y7 D8 => P y7 D8)) else (pu_I X 156 [.ref 85, .int x3] D5 (fun y9 D10 => if y9 = 0 then (pu_I X 149 [.ref 85, .int (-6)] D10 (fun y16 D17 => P y16 D17)) else ((px_in x1 8 = true) ∧ (px_in x1 8 = true) ∧ (px_in x1 8 = true) ∧ pu_V X 212 [.ref 85, .int (D10.1 106 x1.toNatClampNeg), .int (D10.1 107 x1.toNatClampNeg), .int (D10.1 105 x1.toNatClampNeg), .int x2, .int x3] D10 (fun D13 => pu_I X 211 [.ref 85] D13 (fun y14 D15 => P y14 D15))))))) else (pu_I X 149 [.ref 85, .int y1] D2 (fun y18 D19 => P y18 D19)))) :
    pu_I X 213 [.ref 85, .int x1, .int x2, .int x3] D P := by
  refine pu_ent (E := [.ref 85, .int x1, .int x2, .int x3, .null]) pu_n213.1 pu_n213.2 pu_t213_0 rfl ?_
  refine pu_aload_n rfl ?_
  refine pu_iload_n rfl ?_
  refine pu_iconst ?_
  refine pu_cv (vs := [.int x1, .int 2]) (rest := []) pu_g166 ⟨pu_c85, by decide⟩ rfl rfl rfl rfl rfl (pu_CI (pu_I_imp H (fun y1 D2 H => ?_)))
  refine pu_istore (L' := [.ref 85, .int x1, .int x2, .int x3, .int y1]) (Or.inr rfl) rfl ?_
  refine pu_iload rfl ?_
  refine pu_eq0 pu_t213_20 (fun h3 => ?_) (fun h3 => ?_)
  · replace H := pu_t h3 H
    refine pu_aload_n rfl ?_
    refine pu_iload_n rfl ?_
    refine pu_cv (vs := [.int x2]) (rest := []) pu_g156 ⟨pu_c85, by decide⟩ rfl rfl rfl rfl rfl (pu_CI (pu_I_imp H (fun y4 D5 H => ?_)))
    refine pu_eq0 pu_t213_36 (fun h6 => ?_) (fun h6 => ?_)
    · replace H := pu_t h6 H
      refine pu_aload_n rfl ?_
      refine pu_bipush ?_
      refine pu_cv (vs := [.int (-6)]) (rest := []) pu_g149 ⟨pu_c85, by decide⟩ rfl rfl rfl rfl rfl (pu_CI (pu_I_imp H (fun y7 D8 H => ?_)))
      exact pu_iretI pu_rt213 H
    · replace H := pu_f h6 H
      refine pu_aload_n rfl ?_
      refine pu_iload_n rfl ?_
      refine pu_cv (vs := [.int x3]) (rest := []) pu_g156 ⟨pu_c85, by decide⟩ rfl rfl rfl rfl rfl (pu_CI (pu_I_imp H (fun y9 D10 H => ?_)))
      refine pu_ne0 pu_t213_43 (fun h11 => ?_) (fun h11 => ?_)
      · replace H := pu_f h11 H
        refine pu_aload_n rfl ?_
        refine pu_aload_n rfl ?_
        refine pu_getR pu_kr8_32 pu_c85 pu_r85_32 ?_
        refine pu_iload_n rfl ?_
        refine pu_ial pu_c106 pu_ln106 H.1 ?_
        replace H := H.2
        refine pu_aload_n rfl ?_
        refine pu_getR pu_kr8_33 pu_c85 pu_r85_33 ?_
        refine pu_iload_n rfl ?_
        refine pu_ial pu_c107 pu_ln107 H.1 ?_
        replace H := H.2
        refine pu_aload_n rfl ?_
        refine pu_getR pu_kr8_31 pu_c85 pu_r85_31 ?_
        refine pu_iload_n rfl ?_
        refine pu_ial pu_c105 pu_ln105 H.1 ?_
        replace H := H.2
        refine pu_iload_n rfl ?_
        refine pu_iload_n rfl ?_
        refine pu_cv (vs := [.int (D10.1 106 x1.toNatClampNeg), .int (D10.1 107 x1.toNatClampNeg), .int (D10.1 105 x1.toNatClampNeg), .int x2, .int x3]) (rest := []) pu_g212 ⟨pu_c85, by decide⟩ rfl rfl rfl rfl rfl (pu_CV (pu_V_imp H (fun D13 H => ?_)))
        refine pu_aload_n rfl ?_
        refine pu_cv (vs := []) (rest := []) pu_g211 ⟨pu_c85, by decide⟩ rfl rfl rfl rfl rfl (pu_CI (pu_I_imp H (fun y14 D15 H => ?_)))
        exact pu_iretI pu_rt213 H
      · replace H := pu_t h11 H
        refine pu_aload_n rfl ?_
        refine pu_bipush ?_
        refine pu_cv (vs := [.int (-6)]) (rest := []) pu_g149 ⟨pu_c85, by decide⟩ rfl rfl rfl rfl rfl (pu_CI (pu_I_imp H (fun y16 D17 H => ?_)))
        exact pu_iretI pu_rt213 H
  · replace H := pu_f h3 H
    refine pu_aload_n rfl ?_
    refine pu_iload rfl ?_
    refine pu_cv (vs := [.int y1]) (rest := []) pu_g149 ⟨pu_c85, by decide⟩ rfl rfl rfl rfl rfl (pu_CI (pu_I_imp H (fun y18 D19 H => ?_)))
    exact pu_iretI pu_rt213 H
/-- LightAlongModel.dark(III)I -/
theorem pu_e214 {X : px_X} {x1 : Int32} {x2 : Int32} {x3 : Int32} {D : pu_D} {P : Int32 → pu_D → Prop} 
    (H : pu_I X 166 [.ref 85, .int x1, .int 2] D (fun y1 D2 => if y1 = 0 then (pu_I X 156 [.ref 85, .int x2] D2 (fun y4 D5 => if y4 = 0 then (pu_I X 150 [.ref 85, .int (-6)] D5 (fun y7 D8 => P y7 D8)) else (pu_I X 156 [.ref 85, .int x3] D5 (fun y9 D10 => if y9 = 0 then (pu_I X 150 [.ref 85, .int (-6)] D10 (fun y16 D17 => P y16 D17)) else ((px_in x1 8 = true) ∧ (px_in x1 8 = true) ∧ (px_in x1 8 = true) ∧ pu_V X 212 [.ref 85, .int (D10.1 106 x1.toNatClampNeg), .int (D10.1 107 x1.toNatClampNeg), .int (D10.1 105 x1.toNatClampNeg), .int x2, .int x3] D10 (fun D13 => pu_I X 211 [.ref 85] D13 (fun y14 D15 => P (D15.1 85 45) D15))))))) else (pu_I X 150 [.ref 85, .int y1] D2 (fun y18 D19 => P y18 D19)))) :
    pu_I X 214 [.ref 85, .int x1, .int x2, .int x3] D P := by
  refine pu_ent (E := [.ref 85, .int x1, .int x2, .int x3, .null]) pu_n214.1 pu_n214.2 pu_t214_0 rfl ?_
  refine pu_aload_n rfl ?_
  refine pu_iload_n rfl ?_
  refine pu_iconst ?_
  refine pu_cv (vs := [.int x1, .int 2]) (rest := []) pu_g166 ⟨pu_c85, by decide⟩ rfl rfl rfl rfl rfl (pu_CI (pu_I_imp H (fun y1 D2 H => ?_)))
  refine pu_istore (L' := [.ref 85, .int x1, .int x2, .int x3, .int y1]) (Or.inr rfl) rfl ?_
  refine pu_iload rfl ?_
  refine pu_eq0 pu_t214_20 (fun h3 => ?_) (fun h3 => ?_)
  · replace H := pu_t h3 H
    refine pu_aload_n rfl ?_
    refine pu_iload_n rfl ?_
    refine pu_cv (vs := [.int x2]) (rest := []) pu_g156 ⟨pu_c85, by decide⟩ rfl rfl rfl rfl rfl (pu_CI (pu_I_imp H (fun y4 D5 H => ?_)))
    refine pu_eq0 pu_t214_36 (fun h6 => ?_) (fun h6 => ?_)
    · replace H := pu_t h6 H
      refine pu_aload_n rfl ?_
      refine pu_bipush ?_
      refine pu_cv (vs := [.int (-6)]) (rest := []) pu_g150 ⟨pu_c85, by decide⟩ rfl rfl rfl rfl rfl (pu_CI (pu_I_imp H (fun y7 D8 H => ?_)))
      exact pu_iretI pu_rt214 H
    · replace H := pu_f h6 H
      refine pu_aload_n rfl ?_
      refine pu_iload_n rfl ?_
      refine pu_cv (vs := [.int x3]) (rest := []) pu_g156 ⟨pu_c85, by decide⟩ rfl rfl rfl rfl rfl (pu_CI (pu_I_imp H (fun y9 D10 H => ?_)))
      refine pu_ne0 pu_t214_43 (fun h11 => ?_) (fun h11 => ?_)
      · replace H := pu_f h11 H
        refine pu_aload_n rfl ?_
        refine pu_aload_n rfl ?_
        refine pu_getR pu_kr8_32 pu_c85 pu_r85_32 ?_
        refine pu_iload_n rfl ?_
        refine pu_ial pu_c106 pu_ln106 H.1 ?_
        replace H := H.2
        refine pu_aload_n rfl ?_
        refine pu_getR pu_kr8_33 pu_c85 pu_r85_33 ?_
        refine pu_iload_n rfl ?_
        refine pu_ial pu_c107 pu_ln107 H.1 ?_
        replace H := H.2
        refine pu_aload_n rfl ?_
        refine pu_getR pu_kr8_31 pu_c85 pu_r85_31 ?_
        refine pu_iload_n rfl ?_
        refine pu_ial pu_c105 pu_ln105 H.1 ?_
        replace H := H.2
        refine pu_iload_n rfl ?_
        refine pu_iload_n rfl ?_
        refine pu_cv (vs := [.int (D10.1 106 x1.toNatClampNeg), .int (D10.1 107 x1.toNatClampNeg), .int (D10.1 105 x1.toNatClampNeg), .int x2, .int x3]) (rest := []) pu_g212 ⟨pu_c85, by decide⟩ rfl rfl rfl rfl rfl (pu_CV (pu_V_imp H (fun D13 H => ?_)))
        refine pu_aload_n rfl ?_
        refine pu_cv (vs := []) (rest := []) pu_g211 ⟨pu_c85, by decide⟩ rfl rfl rfl rfl rfl (pu_CI (pu_I_imp H (fun y14 D15 H => ?_)))
        refine pu_pop rfl ?_
        refine pu_aload_n rfl ?_
        refine pu_getI pu_k8_45 pu_c85 ?_
        exact pu_iretI pu_rt214 H
      · replace H := pu_t h11 H
        refine pu_aload_n rfl ?_
        refine pu_bipush ?_
        refine pu_cv (vs := [.int (-6)]) (rest := []) pu_g150 ⟨pu_c85, by decide⟩ rfl rfl rfl rfl rfl (pu_CI (pu_I_imp H (fun y16 D17 H => ?_)))
        exact pu_iretI pu_rt214 H
  · replace H := pu_f h3 H
    refine pu_aload_n rfl ?_
    refine pu_iload rfl ?_
    refine pu_cv (vs := [.int y1]) (rest := []) pu_g150 ⟨pu_c85, by decide⟩ rfl rfl rfl rfl rfl (pu_CI (pu_I_imp H (fun y18 D19 H => ?_)))
    exact pu_iretI pu_rt214 H
/-- LightAlongModel.coinOf(II)I -/
def pu_h215_5 (X : px_X) (x1 : Int32) (x2 : Int32) (x3 : Int32) (x4 : Int32) (D : pu_D) (P : Int32 → pu_D → Prop) : Prop := pu_W X 215 (0, 0) px_c215_5 [.ref 85, .int x1, .int x2, .int x3, .int x4] [] D (pu_qi P)
theorem pu_u215_5 {X : px_X} {x1 : Int32} {x2 : Int32} {x3 : Int32} {x4 : Int32} {D : pu_D} {P : Int32 → pu_D → Prop} 
    (H : if x4 < (D.1 85 1) then (if ((x1 >>> (x4 &&& 31)) &&& 1) = 1 then ((px_in x2 6 = true) ∧ (px_in x4 9 = true) ∧ pu_h215_5 X x1 x2 (x3 + ((D.1 89 x2.toNatClampNeg) + (D.1 92 x4.toNatClampNeg))) (x4 + 1) D P) else (pu_h215_5 X x1 x2 x3 (x4 + 1) D P)) else (P x3 D)) :
    pu_h215_5 X x1 x2 x3 x4 D P := by
  refine pu_iload rfl ?_
  refine pu_aload_n rfl ?_
  refine pu_getI pu_k8_1 pu_c85 ?_
  refine pu_ge_ pu_t215_47 (fun h1 => ?_) (fun h1 => ?_)
  · replace H := pu_f h1 H
    refine pu_iload_n rfl ?_
    exact pu_iretI pu_rt215 H
  · replace H := pu_t h1 H
    refine pu_iload_n rfl ?_
    refine pu_iload rfl ?_
    refine pu_ishr ?_
    refine pu_iconst ?_
    refine pu_iand ?_
    refine pu_iconst ?_
    refine pu_ne_ pu_t215_41 (fun h2 => ?_) (fun h2 => ?_)
    · replace H := pu_f h2 H
      refine pu_iinc (L' := [.ref 85, .int x1, .int x2, .int x3, .int (x4 + 1)]) rfl (Or.inr rfl) rfl ?_
      refine pu_goto pu_t215_5 ?_
      exact H 
    · replace H := pu_t h2 H
      refine pu_iload_n rfl ?_
      refine pu_aload_n rfl ?_
      refine pu_getR pu_kr8_15 pu_c85 pu_r85_15 ?_
      refine pu_iload_n rfl ?_
      refine pu_ial pu_c89 pu_ln89 H.1 ?_
      replace H := H.2
      refine pu_aload_n rfl ?_
      refine pu_getR pu_kr8_18 pu_c85 pu_r85_18 ?_
      refine pu_iload rfl ?_
      refine pu_ial pu_c92 pu_ln92 H.1 ?_
      replace H := H.2
      refine pu_iadd ?_
      refine pu_iadd ?_
      refine pu_istore_n (L' := [.ref 85, .int x1, .int x2, .int (x3 + ((D.1 89 x2.toNatClampNeg) + (D.1 92 x4.toNatClampNeg))), .int x4]) (Or.inr rfl) rfl ?_
      refine pu_iinc (L' := [.ref 85, .int x1, .int x2, .int (x3 + ((D.1 89 x2.toNatClampNeg) + (D.1 92 x4.toNatClampNeg))), .int (x4 + 1)]) rfl (Or.inr rfl) rfl ?_
      refine pu_goto pu_t215_5 ?_
      exact H 
theorem pu_e215 {X : px_X} {x1 : Int32} {x2 : Int32} {D : pu_D} {P : Int32 → pu_D → Prop} 
    (H : pu_h215_5 X x1 x2 0 0 D P) :
    pu_I X 215 [.ref 85, .int x1, .int x2] D P := by
  refine pu_ent (E := [.ref 85, .int x1, .int x2, .null, .null]) pu_n215.1 pu_n215.2 pu_t215_0 rfl ?_
  refine pu_iconst ?_
  refine pu_istore_n (L' := [.ref 85, .int x1, .int x2, .int 0, .null]) (Or.inr rfl) rfl ?_
  refine pu_iconst ?_
  refine pu_istore (L' := [.ref 85, .int x1, .int x2, .int 0, .int 0]) (Or.inr rfl) rfl ?_
  exact H 
/-- LightAlongModel.coin(II)I -/
theorem pu_e216 {X : px_X} {x1 : Int32} {x2 : Int32} {D : pu_D} {P : Int32 → pu_D → Prop} 
    (H : pu_I X 153 [.ref 85, .int x2] D (fun y1 D2 => if y1 = 0 then (pu_I X 149 [.ref 85, .int (-1)] D2 (fun y4 D5 => P y4 D5)) else (pu_I X 155 [.ref 85, .int x1] D2 (fun y6 D7 => if y6 = 0 then (pu_I X 149 [.ref 85, .int (-1)] D7 (fun y9 D10 => P y9 D10)) else (pu_I X 215 [.ref 85, .int x1, .int x2] D7 (fun y11 D12 => P y11 D12)))))) :
    pu_I X 216 [.ref 85, .int x1, .int x2] D P := by
  refine pu_ent (E := [.ref 85, .int x1, .int x2]) pu_n216.1 pu_n216.2 pu_t216_0 rfl ?_
  refine pu_aload_n rfl ?_
  refine pu_iload_n rfl ?_
  refine pu_cv (vs := [.int x2]) (rest := []) pu_g153 ⟨pu_c85, by decide⟩ rfl rfl rfl rfl rfl (pu_CI (pu_I_imp H (fun y1 D2 H => ?_)))
  refine pu_eq0 pu_t216_25 (fun h3 => ?_) (fun h3 => ?_)
  · replace H := pu_t h3 H
    refine pu_aload_n rfl ?_
    refine pu_iconst ?_
    refine pu_cv (vs := [.int (-1)]) (rest := []) pu_g149 ⟨pu_c85, by decide⟩ rfl rfl rfl rfl rfl (pu_CI (pu_I_imp H (fun y4 D5 H => ?_)))
    exact pu_iretI pu_rt216 H
  · replace H := pu_f h3 H
    refine pu_aload_n rfl ?_
    refine pu_iload_n rfl ?_
    refine pu_cv (vs := [.int x1]) (rest := []) pu_g155 ⟨pu_c85, by decide⟩ rfl rfl rfl rfl rfl (pu_CI (pu_I_imp H (fun y6 D7 H => ?_)))
    refine pu_eq0 pu_t216_25 (fun h8 => ?_) (fun h8 => ?_)
    · replace H := pu_t h8 H
      refine pu_aload_n rfl ?_
      refine pu_iconst ?_
      refine pu_cv (vs := [.int (-1)]) (rest := []) pu_g149 ⟨pu_c85, by decide⟩ rfl rfl rfl rfl rfl (pu_CI (pu_I_imp H (fun y9 D10 H => ?_)))
      exact pu_iretI pu_rt216 H
    · replace H := pu_f h8 H
      refine pu_aload_n rfl ?_
      refine pu_iload_n rfl ?_
      refine pu_iload_n rfl ?_
      refine pu_cv (vs := [.int x1, .int x2]) (rest := []) pu_g215 ⟨pu_c85, by decide⟩ rfl rfl rfl rfl rfl (pu_CI (pu_I_imp H (fun y11 D12 H => ?_)))
      refine pu_goto pu_t216_30 ?_
      exact pu_iretI pu_rt216 H
/-- LightAlongModel.singles(II)V -/
def pu_h217_2 (X : px_X) (x1 : Int32) (x2 : Int32) (x3 : Int32) (D : pu_D) (P : pu_D → Prop) : Prop := ∀ z4 : Value, z4.category = 1 → pu_W X 217 (0, 0) px_c217_2 [.ref 85, .int x1, .int x2, .int x3, z4] [] D (pu_qv P)
def pu_h217_15 (X : px_X) (x1 : Int32) (x2 : Int32) (x3 : Int32) (x4 : Int32) (D : pu_D) (P : pu_D → Prop) : Prop := pu_W X 217 (0, 0) px_c217_15 [.ref 85, .int x1, .int x2, .int x3, .int x4] [] D (pu_qv P)
theorem pu_u217_2 {X : px_X} {x1 : Int32} {x2 : Int32} {x3 : Int32} {D : pu_D} {P : pu_D → Prop} 
    (H : if x3 < (2 * (D.1 85 10)) then (pu_h217_15 X x1 x2 x3 0 D P) else (P D)) :
    pu_h217_2 X x1 x2 x3 D P := by
  intro z4 hz4
  refine pu_iload_n rfl ?_
  refine pu_iconst ?_
  refine pu_aload_n rfl ?_
  refine pu_getI pu_k8_10 pu_c85 ?_
  refine pu_imul ?_
  refine pu_ge_ pu_t217_69 (fun h1 => ?_) (fun h1 => ?_)
  · replace H := pu_f h1 H
    exact pu_vret pu_rt217 H
  · replace H := pu_t h1 H
    refine pu_iconst ?_
    refine pu_istore (L' := [.ref 85, .int x1, .int x2, .int x3, .int 0]) (Or.inr rfl) rfl ?_
    exact H 
theorem pu_u217_15 {X : px_X} {x1 : Int32} {x2 : Int32} {x3 : Int32} {x4 : Int32} {D : pu_D} {P : pu_D → Prop} 
    (H : if x4 < (D.1 85 1) then (pu_I X 201 [.ref 85, .int x1, .int x4, .int x3, .int x2] D (fun y5 D6 => (px_in ((120 * x4) + x3) 1080 = true) ∧ pu_h217_15 X x1 x2 x3 (x4 + 1) (pu_wi D6 114 ((120 * x4) + x3).toNatClampNeg y5) P)) else (pu_I X 203 [.ref 85, .int x3, .int 0] D (fun y3 D4 => (px_in x3 120 = true) ∧ pu_h217_2 X x1 x2 (x3 + 1) (pu_wi D4 115 x3.toNatClampNeg y3) P))) :
    pu_h217_15 X x1 x2 x3 x4 D P := by
  refine pu_iload rfl ?_
  refine pu_aload_n rfl ?_
  refine pu_getI pu_k8_1 pu_c85 ?_
  refine pu_ge_ pu_t217_51 (fun h2 => ?_) (fun h2 => ?_)
  · replace H := pu_f h2 H
    refine pu_aload_n rfl ?_
    refine pu_getR pu_kr8_47 pu_c85 pu_r85_47 ?_
    refine pu_iload_n rfl ?_
    refine pu_aload_n rfl ?_
    refine pu_iload_n rfl ?_
    refine pu_iconst ?_
    refine pu_cv (vs := [.int x3, .int 0]) (rest := [.int x3, .ref 115]) pu_g203 ⟨pu_c85, by decide⟩ rfl rfl rfl rfl rfl (pu_CI (pu_I_imp H (fun y3 D4 H => ?_)))
    refine pu_ias pu_c115 pu_ln115 H.1 ?_
    replace H := H.2
    refine pu_iinc (L' := [.ref 85, .int x1, .int x2, .int (x3 + 1), .int x4]) rfl (Or.inr rfl) rfl ?_
    refine pu_goto pu_t217_2 ?_
    exact H _ rfl
  · replace H := pu_t h2 H
    refine pu_aload_n rfl ?_
    refine pu_getR pu_kr8_46 pu_c85 pu_r85_46 ?_
    refine pu_bipush ?_
    refine pu_iload rfl ?_
    refine pu_imul ?_
    refine pu_iload_n rfl ?_
    refine pu_iadd ?_
    refine pu_aload_n rfl ?_
    refine pu_iload_n rfl ?_
    refine pu_iload rfl ?_
    refine pu_iload_n rfl ?_
    refine pu_iload_n rfl ?_
    refine pu_cv (vs := [.int x1, .int x4, .int x3, .int x2]) (rest := [.int ((120 * x4) + x3), .ref 114]) pu_g201 ⟨pu_c85, by decide⟩ rfl rfl rfl rfl rfl (pu_CI (pu_I_imp H (fun y5 D6 H => ?_)))
    refine pu_ias pu_c114 pu_ln114 H.1 ?_
    replace H := H.2
    refine pu_iinc (L' := [.ref 85, .int x1, .int x2, .int x3, .int (x4 + 1)]) rfl (Or.inr rfl) rfl ?_
    refine pu_goto pu_t217_15 ?_
    exact H 
theorem pu_e217 {X : px_X} {x1 : Int32} {x2 : Int32} {D : pu_D} {P : pu_D → Prop} 
    (H : pu_h217_2 X x1 x2 0 D P) :
    pu_V X 217 [.ref 85, .int x1, .int x2] D P := by
  refine pu_ent (E := [.ref 85, .int x1, .int x2, .null, .null]) pu_n217.1 pu_n217.2 pu_t217_0 rfl ?_
  refine pu_iconst ?_
  refine pu_istore_n (L' := [.ref 85, .int x1, .int x2, .int 0, .null]) (Or.inr rfl) rfl ?_
  exact H _ rfl
/-- LightAlongModel.faultyBy(I)I -/
def pu_h218_2 (X : px_X) (x1 : Int32) (x2 : Int32) (D : pu_D) (P : Int32 → pu_D → Prop) : Prop := ∀ z3 : Value, z3.category = 1 → pu_W X 218 (0, 0) px_c218_2 [.ref 85, .int x1, .int x2, z3] [] D (pu_qi P)
def pu_h218_26 (X : px_X) (x1 : Int32) (x2 : Int32) (x3 : Int32) (D : pu_D) (P : Int32 → pu_D → Prop) : Prop := pu_W X 218 (0, 0) px_c218_26 [.ref 85, .int x1, .int x2, .int x3] [] D (pu_qi P)
theorem pu_u218_2 {X : px_X} {x1 : Int32} {x2 : Int32} {D : pu_D} {P : Int32 → pu_D → Prop} 
    (H : if x2 < (2 * (D.1 85 10)) then ((px_in x2 120 = true) ∧ (px_in x2 120 = true) ∧ pu_h218_26 X x1 x2 0 (pu_wi D 113 x2.toNatClampNeg (D.1 115 x2.toNatClampNeg)) P) else (pu_I X 211 [.ref 85] D (fun y2 D3 => P y2 D3))) :
    pu_h218_2 X x1 x2 D P := by
  intro z3 hz3
  refine pu_iload_n rfl ?_
  refine pu_iconst ?_
  refine pu_aload_n rfl ?_
  refine pu_getI pu_k8_10 pu_c85 ?_
  refine pu_imul ?_
  refine pu_ge_ pu_t218_75 (fun h1 => ?_) (fun h1 => ?_)
  · replace H := pu_f h1 H
    refine pu_aload_n rfl ?_
    refine pu_cv (vs := []) (rest := []) pu_g211 ⟨pu_c85, by decide⟩ rfl rfl rfl rfl rfl (pu_CI (pu_I_imp H (fun y2 D3 H => ?_)))
    exact pu_iretI pu_rt218 H
  · replace H := pu_t h1 H
    refine pu_aload_n rfl ?_
    refine pu_getR pu_kr8_44 pu_c85 pu_r85_44 ?_
    refine pu_iload_n rfl ?_
    refine pu_aload_n rfl ?_
    refine pu_getR pu_kr8_47 pu_c85 pu_r85_47 ?_
    refine pu_iload_n rfl ?_
    refine pu_ial pu_c115 pu_ln115 H.1 ?_
    replace H := H.2
    refine pu_ias pu_c113 pu_ln113 H.1 ?_
    replace H := H.2
    refine pu_iconst ?_
    refine pu_istore_n (L' := [.ref 85, .int x1, .int x2, .int 0]) (Or.inr rfl) rfl ?_
    exact H 
theorem pu_u218_26 {X : px_X} {x1 : Int32} {x2 : Int32} {x3 : Int32} {D : pu_D} {P : Int32 → pu_D → Prop} 
    (H : if x3 < (D.1 85 1) then (if ((x1 >>> (x3 &&& 31)) &&& 1) = 1 then ((px_in x2 120 = true) ∧ (px_in ((120 * x3) + x2) 1080 = true) ∧ (px_in x2 120 = true) ∧ pu_h218_26 X x1 x2 (x3 + 1) (pu_wi D 113 x2.toNatClampNeg ((D.1 113 x2.toNatClampNeg) + (D.1 114 ((120 * x3) + x2).toNatClampNeg))) P) else (pu_h218_26 X x1 x2 (x3 + 1) D P)) else (pu_h218_2 X x1 (x2 + 1) D P)) :
    pu_h218_26 X x1 x2 x3 D P := by
  refine pu_iload_n rfl ?_
  refine pu_aload_n rfl ?_
  refine pu_getI pu_k8_1 pu_c85 ?_
  refine pu_ge_ pu_t218_69 (fun h4 => ?_) (fun h4 => ?_)
  · replace H := pu_f h4 H
    refine pu_iinc (L' := [.ref 85, .int x1, .int (x2 + 1), .int x3]) rfl (Or.inr rfl) rfl ?_
    refine pu_goto pu_t218_2 ?_
    exact H _ rfl
  · replace H := pu_t h4 H
    refine pu_iload_n rfl ?_
    refine pu_iload_n rfl ?_
    refine pu_ishr ?_
    refine pu_iconst ?_
    refine pu_iand ?_
    refine pu_iconst ?_
    refine pu_ne_ pu_t218_63 (fun h5 => ?_) (fun h5 => ?_)
    · replace H := pu_f h5 H
      refine pu_iinc (L' := [.ref 85, .int x1, .int x2, .int (x3 + 1)]) rfl (Or.inr rfl) rfl ?_
      refine pu_goto pu_t218_26 ?_
      exact H 
    · replace H := pu_t h5 H
      refine pu_aload_n rfl ?_
      refine pu_getR pu_kr8_44 pu_c85 pu_r85_44 ?_
      refine pu_iload_n rfl ?_
      refine pu_dup2 rfl rfl ?_
      refine pu_ial pu_c113 pu_ln113 H.1 ?_
      replace H := H.2
      refine pu_aload_n rfl ?_
      refine pu_getR pu_kr8_46 pu_c85 pu_r85_46 ?_
      refine pu_bipush ?_
      refine pu_iload_n rfl ?_
      refine pu_imul ?_
      refine pu_iload_n rfl ?_
      refine pu_iadd ?_
      refine pu_ial pu_c114 pu_ln114 H.1 ?_
      replace H := H.2
      refine pu_iadd ?_
      refine pu_ias pu_c113 pu_ln113 H.1 ?_
      replace H := H.2
      refine pu_iinc (L' := [.ref 85, .int x1, .int x2, .int (x3 + 1)]) rfl (Or.inr rfl) rfl ?_
      refine pu_goto pu_t218_26 ?_
      exact H 
theorem pu_e218 {X : px_X} {x1 : Int32} {D : pu_D} {P : Int32 → pu_D → Prop} 
    (H : pu_h218_2 X x1 0 D P) :
    pu_I X 218 [.ref 85, .int x1] D P := by
  refine pu_ent (E := [.ref 85, .int x1, .null, .null]) pu_n218.1 pu_n218.2 pu_t218_0 rfl ?_
  refine pu_iconst ?_
  refine pu_istore_n (L' := [.ref 85, .int x1, .int 0, .null]) (Or.inr rfl) rfl ?_
  exact H _ rfl
/-- LightAlongModel.isFirm(I)Z -/
def pu_h219_2 (X : px_X) (x1 : Int32) (x2 : Int32) (D : pu_D) (P : Int32 → pu_D → Prop) : Prop := ∀ z3 : Value, z3.category = 1 → pu_W X 219 (0, 0) px_c219_2 [.ref 85, .int x1, .int x2, z3] [] D (pu_qi P)
theorem pu_u219_2 {X : px_X} {x1 : Int32} {x2 : Int32} {D : pu_D} {P : Int32 → pu_D → Prop} 
    (H : if x2 < (D.1 85 1) then (if ((x1 >>> (x2 &&& 31)) &&& 1) = 0 then (pu_h219_2 X x1 (x2 + 1) D P) else (pu_I X 218 [.ref 85, .int (x1 &&& ((1 <<< (x2 &&& 31)) ^^^ (-1)))] D (fun y3 D4 => if y3 = 1 then (P 0 D4) else (if y3 = 2 then (P 0 D4) else (pu_h219_2 X x1 (x2 + 1) D4 P))))) else (P 1 D)) :
    pu_h219_2 X x1 x2 D P := by
  intro z3 hz3
  refine pu_iload_n rfl ?_
  refine pu_aload_n rfl ?_
  refine pu_getI pu_k8_1 pu_c85 ?_
  refine pu_ge_ pu_t219_51 (fun h1 => ?_) (fun h1 => ?_)
  · replace H := pu_f h1 H
    refine pu_iconst ?_
    exact pu_iretZ pu_rt219 (by decide) H
  · replace H := pu_t h1 H
    refine pu_iload_n rfl ?_
    refine pu_iload_n rfl ?_
    refine pu_ishr ?_
    refine pu_iconst ?_
    refine pu_iand ?_
    refine pu_ne0 pu_t219_21 (fun h2 => ?_) (fun h2 => ?_)
    · replace H := pu_f h2 H
      refine pu_aload_n rfl ?_
      refine pu_iload_n rfl ?_
      refine pu_iconst ?_
      refine pu_iload_n rfl ?_
      refine pu_ishl ?_
      refine pu_iconst ?_
      refine pu_ixor ?_
      refine pu_iand ?_
      refine pu_cv (vs := [.int (x1 &&& ((1 <<< (x2 &&& 31)) ^^^ (-1)))]) (rest := []) pu_g218 ⟨pu_c85, by decide⟩ rfl rfl rfl rfl rfl (pu_CI (pu_I_imp H (fun y3 D4 H => ?_)))
      refine pu_istore_n (L' := [.ref 85, .int x1, .int x2, .int y3]) (Or.inr rfl) rfl ?_
      refine pu_iload_n rfl ?_
      refine pu_iconst ?_
      refine pu_eq_ pu_t219_43 (fun h5 => ?_) (fun h5 => ?_)
      · replace H := pu_t h5 H
        refine pu_iconst ?_
        exact pu_iretZ pu_rt219 (by decide) H
      · replace H := pu_f h5 H
        refine pu_iload_n rfl ?_
        refine pu_iconst ?_
        refine pu_ne_ pu_t219_45 (fun h6 => ?_) (fun h6 => ?_)
        · replace H := pu_f h6 H
          refine pu_iinc (L' := [.ref 85, .int x1, .int (x2 + 1), .int y3]) rfl (Or.inr rfl) rfl ?_
          refine pu_goto pu_t219_2 ?_
          exact H _ rfl
        · replace H := pu_t h6 H
          refine pu_iconst ?_
          exact pu_iretZ pu_rt219 (by decide) H
    · replace H := pu_t h2 H
      refine pu_goto pu_t219_45 ?_
      refine pu_iinc (L' := [.ref 85, .int x1, .int (x2 + 1), z3]) rfl (Or.inr rfl) rfl ?_
      refine pu_goto pu_t219_2 ?_
      exact H _ hz3
theorem pu_e219 {X : px_X} {x1 : Int32} {D : pu_D} {P : Int32 → pu_D → Prop} 
    (H : pu_h219_2 X x1 0 D P) :
    pu_I X 219 [.ref 85, .int x1] D P := by
  refine pu_ent (E := [.ref 85, .int x1, .null, .null]) pu_n219.1 pu_n219.2 pu_t219_0 rfl ?_
  refine pu_iconst ?_
  refine pu_istore_n (L' := [.ref 85, .int x1, .int 0, .null]) (Or.inr rfl) rfl ?_
  exact H _ rfl
/-- LightAlongModel.chosen(III)I -/
def pu_h220_12 (X : px_X) (x1 : Int32) (x3 : Int32) (x4 : Int32) (x5 : Int32) (D : pu_D) (P : Int32 → pu_D → Prop) : Prop := ∀ z2 : Value, z2.category = 1 → ∀ z6 : Value, z6.category = 1 → ∀ z7 : Value, z7.category = 1 → ∀ z8 : Value, z8.category = 1 → ∀ z9 : Value, z9.category = 1 → ∀ z10 : Value, z10.category = 1 → pu_W X 220 (0, 0) px_c220_12 [.ref 85, .int x1, z2, .int x3, .int x4, .int x5, z6, z7, z8, z9, z10] [] D (pu_qi P)
theorem pu_u220_12 {X : px_X} {x1 : Int32} {x3 : Int32} {x4 : Int32} {x5 : Int32} {D : pu_D} {P : Int32 → pu_D → Prop} 
    (H : if x5 < (1 <<< ((D.1 85 1) &&& 31)) then (if x4 = (-1) then (pu_I X 218 [.ref 85, .int x5] D (fun y5 D6 => if y5 = 0 then (if x3 = 2 then (pu_I X 219 [.ref 85, .int x5] D6 (fun y9 D10 => if y9 = 0 then (pu_h220_12 X x1 x3 x4 (x5 + 1) D10 P) else (pu_h220_12 X x1 x3 x5 (x5 + 1) D10 P))) else (pu_h220_12 X x1 x3 x5 (x5 + 1) D6 P)) else (pu_h220_12 X x1 x3 x4 (x5 + 1) D6 P))) else (pu_I X 165 [.ref 85, .int x5] D (fun y12 D13 => pu_I X 165 [.ref 85, .int x4] D13 (fun y14 D15 => pu_I X 215 [.ref 85, .int x5, .int x1] D15 (fun y16 D17 => pu_I X 215 [.ref 85, .int x4, .int x1] D17 (fun y18 D19 => if x3 = 1 then (if y12 < y14 then (pu_I X 218 [.ref 85, .int x5] D19 (fun y30 D31 => if y30 = 0 then (if x3 = 2 then (pu_I X 219 [.ref 85, .int x5] D31 (fun y34 D35 => if y34 = 0 then (pu_h220_12 X x1 x3 x4 (x5 + 1) D35 P) else (pu_h220_12 X x1 x3 x5 (x5 + 1) D35 P))) else (pu_h220_12 X x1 x3 x5 (x5 + 1) D31 P)) else (pu_h220_12 X x1 x3 x4 (x5 + 1) D31 P))) else (if y12 = y14 then (if y16 < y18 then (pu_I X 218 [.ref 85, .int x5] D19 (fun y39 D40 => if y39 = 0 then (if x3 = 2 then (pu_I X 219 [.ref 85, .int x5] D40 (fun y43 D44 => if y43 = 0 then (pu_h220_12 X x1 x3 x4 (x5 + 1) D44 P) else (pu_h220_12 X x1 x3 x5 (x5 + 1) D44 P))) else (pu_h220_12 X x1 x3 x5 (x5 + 1) D40 P)) else (pu_h220_12 X x1 x3 x4 (x5 + 1) D40 P))) else (pu_h220_12 X x1 x3 x4 (x5 + 1) D19 P)) else (pu_h220_12 X x1 x3 x4 (x5 + 1) D19 P))) else (if y16 < y18 then (pu_I X 218 [.ref 85, .int x5] D19 (fun y22 D23 => if y22 = 0 then (if x3 = 2 then (pu_I X 219 [.ref 85, .int x5] D23 (fun y26 D27 => if y26 = 0 then (pu_h220_12 X x1 x3 x4 (x5 + 1) D27 P) else (pu_h220_12 X x1 x3 x5 (x5 + 1) D27 P))) else (pu_h220_12 X x1 x3 x5 (x5 + 1) D23 P)) else (pu_h220_12 X x1 x3 x4 (x5 + 1) D23 P))) else (pu_h220_12 X x1 x3 x4 (x5 + 1) D19 P)))))))) else (P x4 D)) :
    pu_h220_12 X x1 x3 x4 x5 D P := by
  intro z2 hz2 z6 hz6 z7 hz7 z8 hz8 z9 hz9 z10 hz10
  refine pu_iload rfl ?_
  refine pu_iconst ?_
  refine pu_aload_n rfl ?_
  refine pu_getI pu_k8_1 pu_c85 ?_
  refine pu_ishl ?_
  refine pu_ge_ pu_t220_155 (fun h3 => ?_) (fun h3 => ?_)
  · replace H := pu_f h3 H
    refine pu_iload rfl ?_
    exact pu_iretI pu_rt220 H
  · replace H := pu_t h3 H
    refine pu_iload rfl ?_
    refine pu_iconst ?_
    refine pu_eq_ pu_t220_119 (fun h4 => ?_) (fun h4 => ?_)
    · replace H := pu_t h4 H
      refine pu_aload_n rfl ?_
      refine pu_iload rfl ?_
      refine pu_cv (vs := [.int x5]) (rest := []) pu_g218 ⟨pu_c85, by decide⟩ rfl rfl rfl rfl rfl (pu_CI (pu_I_imp H (fun y5 D6 H => ?_)))
      refine pu_ne0 pu_t220_149 (fun h7 => ?_) (fun h7 => ?_)
      · replace H := pu_f h7 H
        refine pu_iinc (L' := [.ref 85, .int x1, z2, .int x3, .int x4, .int (x5 + 1), z6, z7, z8, z9, z10]) rfl (Or.inr rfl) rfl ?_
        refine pu_goto pu_t220_12 ?_
        exact H _ hz2 _ hz6 _ hz7 _ hz8 _ hz9 _ hz10
      · replace H := pu_t h7 H
        refine pu_iload_n rfl ?_
        refine pu_iconst ?_
        refine pu_ne_ pu_t220_145 (fun h8 => ?_) (fun h8 => ?_)
        · replace H := pu_f h8 H
          refine pu_iload rfl ?_
          refine pu_istore (L' := [.ref 85, .int x1, z2, .int x3, .int x5, .int x5, z6, z7, z8, z9, z10]) (Or.inr rfl) rfl ?_
          refine pu_iinc (L' := [.ref 85, .int x1, z2, .int x3, .int x5, .int (x5 + 1), z6, z7, z8, z9, z10]) rfl (Or.inr rfl) rfl ?_
          refine pu_goto pu_t220_12 ?_
          exact H _ hz2 _ hz6 _ hz7 _ hz8 _ hz9 _ hz10
        · replace H := pu_t h8 H
          refine pu_aload_n rfl ?_
          refine pu_iload rfl ?_
          refine pu_cv (vs := [.int x5]) (rest := []) pu_g219 ⟨pu_c85, by decide⟩ rfl rfl rfl rfl rfl (pu_CI (pu_I_imp H (fun y9 D10 H => ?_)))
          refine pu_ne0 pu_t220_145 (fun h11 => ?_) (fun h11 => ?_)
          · replace H := pu_f h11 H
            refine pu_iload rfl ?_
            refine pu_istore (L' := [.ref 85, .int x1, z2, .int x3, .int x5, .int x5, z6, z7, z8, z9, z10]) (Or.inr rfl) rfl ?_
            refine pu_iinc (L' := [.ref 85, .int x1, z2, .int x3, .int x5, .int (x5 + 1), z6, z7, z8, z9, z10]) rfl (Or.inr rfl) rfl ?_
            refine pu_goto pu_t220_12 ?_
            exact H _ hz2 _ hz6 _ hz7 _ hz8 _ hz9 _ hz10
          · replace H := pu_t h11 H
            refine pu_goto pu_t220_149 ?_
            refine pu_iinc (L' := [.ref 85, .int x1, z2, .int x3, .int x4, .int (x5 + 1), z6, z7, z8, z9, z10]) rfl (Or.inr rfl) rfl ?_
            refine pu_goto pu_t220_12 ?_
            exact H _ hz2 _ hz6 _ hz7 _ hz8 _ hz9 _ hz10
    · replace H := pu_f h4 H
      refine pu_aload_n rfl ?_
      refine pu_iload rfl ?_
      refine pu_cv (vs := [.int x5]) (rest := []) pu_g165 ⟨pu_c85, by decide⟩ rfl rfl rfl rfl rfl (pu_CI (pu_I_imp H (fun y12 D13 H => ?_)))
      refine pu_istore (L' := [.ref 85, .int x1, z2, .int x3, .int x4, .int x5, .int y12, z7, z8, z9, z10]) (Or.inr rfl) rfl ?_
      refine pu_aload_n rfl ?_
      refine pu_iload rfl ?_
      refine pu_cv (vs := [.int x4]) (rest := []) pu_g165 ⟨pu_c85, by decide⟩ rfl rfl rfl rfl rfl (pu_CI (pu_I_imp H (fun y14 D15 H => ?_)))
      refine pu_istore (L' := [.ref 85, .int x1, z2, .int x3, .int x4, .int x5, .int y12, .int y14, z8, z9, z10]) (Or.inr rfl) rfl ?_
      refine pu_aload_n rfl ?_
      refine pu_iload rfl ?_
      refine pu_iload_n rfl ?_
      refine pu_cv (vs := [.int x5, .int x1]) (rest := []) pu_g215 ⟨pu_c85, by decide⟩ rfl rfl rfl rfl rfl (pu_CI (pu_I_imp H (fun y16 D17 H => ?_)))
      refine pu_istore (L' := [.ref 85, .int x1, z2, .int x3, .int x4, .int x5, .int y12, .int y14, .int y16, z9, z10]) (Or.inr rfl) rfl ?_
      refine pu_aload_n rfl ?_
      refine pu_iload rfl ?_
      refine pu_iload_n rfl ?_
      refine pu_cv (vs := [.int x4, .int x1]) (rest := []) pu_g215 ⟨pu_c85, by decide⟩ rfl rfl rfl rfl rfl (pu_CI (pu_I_imp H (fun y18 D19 H => ?_)))
      refine pu_istore (L' := [.ref 85, .int x1, z2, .int x3, .int x4, .int x5, .int y12, .int y14, .int y16, .int y18, z10]) (Or.inr rfl) rfl ?_
      refine pu_iload_n rfl ?_
      refine pu_iconst ?_
      refine pu_ne_ pu_t220_97 (fun h20 => ?_) (fun h20 => ?_)
      · replace H := pu_f h20 H
        refine pu_iload rfl ?_
        refine pu_iload rfl ?_
        refine pu_ge_ pu_t220_108 (fun h21 => ?_) (fun h21 => ?_)
        · replace H := pu_f h21 H
          refine pu_iconst ?_
          refine pu_istore (L' := [.ref 85, .int x1, z2, .int x3, .int x4, .int x5, .int y12, .int y14, .int y16, .int y18, .int 0]) (Or.inr rfl) rfl ?_
          refine pu_iload rfl ?_
          refine pu_ifF (by decide) ?_
          refine pu_goto pu_t220_149 ?_
          refine pu_iinc (L' := [.ref 85, .int x1, z2, .int x3, .int x4, .int (x5 + 1), .int y12, .int y14, .int y16, .int y18, .int 0]) rfl (Or.inr rfl) rfl ?_
          refine pu_goto pu_t220_12 ?_
          exact H _ hz2 _ rfl _ rfl _ rfl _ rfl _ rfl
        · replace H := pu_t h21 H
          refine pu_iconst ?_
          refine pu_goto pu_t220_109 ?_
          refine pu_istore (L' := [.ref 85, .int x1, z2, .int x3, .int x4, .int x5, .int y12, .int y14, .int y16, .int y18, .int 1]) (Or.inr rfl) rfl ?_
          refine pu_iload rfl ?_
          refine pu_ifT (by decide) pu_t220_119 ?_
          refine pu_aload_n rfl ?_
          refine pu_iload rfl ?_
          refine pu_cv (vs := [.int x5]) (rest := []) pu_g218 ⟨pu_c85, by decide⟩ rfl rfl rfl rfl rfl (pu_CI (pu_I_imp H (fun y22 D23 H => ?_)))
          refine pu_ne0 pu_t220_149 (fun h24 => ?_) (fun h24 => ?_)
          · replace H := pu_f h24 H
            refine pu_iinc (L' := [.ref 85, .int x1, z2, .int x3, .int x4, .int (x5 + 1), .int y12, .int y14, .int y16, .int y18, .int 1]) rfl (Or.inr rfl) rfl ?_
            refine pu_goto pu_t220_12 ?_
            exact H _ hz2 _ rfl _ rfl _ rfl _ rfl _ rfl
          · replace H := pu_t h24 H
            refine pu_iload_n rfl ?_
            refine pu_iconst ?_
            refine pu_ne_ pu_t220_145 (fun h25 => ?_) (fun h25 => ?_)
            · replace H := pu_f h25 H
              refine pu_iload rfl ?_
              refine pu_istore (L' := [.ref 85, .int x1, z2, .int x3, .int x5, .int x5, .int y12, .int y14, .int y16, .int y18, .int 1]) (Or.inr rfl) rfl ?_
              refine pu_iinc (L' := [.ref 85, .int x1, z2, .int x3, .int x5, .int (x5 + 1), .int y12, .int y14, .int y16, .int y18, .int 1]) rfl (Or.inr rfl) rfl ?_
              refine pu_goto pu_t220_12 ?_
              exact H _ hz2 _ rfl _ rfl _ rfl _ rfl _ rfl
            · replace H := pu_t h25 H
              refine pu_aload_n rfl ?_
              refine pu_iload rfl ?_
              refine pu_cv (vs := [.int x5]) (rest := []) pu_g219 ⟨pu_c85, by decide⟩ rfl rfl rfl rfl rfl (pu_CI (pu_I_imp H (fun y26 D27 H => ?_)))
              refine pu_ne0 pu_t220_145 (fun h28 => ?_) (fun h28 => ?_)
              · replace H := pu_f h28 H
                refine pu_iload rfl ?_
                refine pu_istore (L' := [.ref 85, .int x1, z2, .int x3, .int x5, .int x5, .int y12, .int y14, .int y16, .int y18, .int 1]) (Or.inr rfl) rfl ?_
                refine pu_iinc (L' := [.ref 85, .int x1, z2, .int x3, .int x5, .int (x5 + 1), .int y12, .int y14, .int y16, .int y18, .int 1]) rfl (Or.inr rfl) rfl ?_
                refine pu_goto pu_t220_12 ?_
                exact H _ hz2 _ rfl _ rfl _ rfl _ rfl _ rfl
              · replace H := pu_t h28 H
                refine pu_goto pu_t220_149 ?_
                refine pu_iinc (L' := [.ref 85, .int x1, z2, .int x3, .int x4, .int (x5 + 1), .int y12, .int y14, .int y16, .int y18, .int 1]) rfl (Or.inr rfl) rfl ?_
                refine pu_goto pu_t220_12 ?_
                exact H _ hz2 _ rfl _ rfl _ rfl _ rfl _ rfl
      · replace H := pu_t h20 H
        refine pu_iload rfl ?_
        refine pu_iload rfl ?_
        refine pu_lt_ pu_t220_89 (fun h29 => ?_) (fun h29 => ?_)
        · replace H := pu_t h29 H
          refine pu_iconst ?_
          refine pu_goto pu_t220_109 ?_
          refine pu_istore (L' := [.ref 85, .int x1, z2, .int x3, .int x4, .int x5, .int y12, .int y14, .int y16, .int y18, .int 1]) (Or.inr rfl) rfl ?_
          refine pu_iload rfl ?_
          refine pu_ifT (by decide) pu_t220_119 ?_
          refine pu_aload_n rfl ?_
          refine pu_iload rfl ?_
          refine pu_cv (vs := [.int x5]) (rest := []) pu_g218 ⟨pu_c85, by decide⟩ rfl rfl rfl rfl rfl (pu_CI (pu_I_imp H (fun y30 D31 H => ?_)))
          refine pu_ne0 pu_t220_149 (fun h32 => ?_) (fun h32 => ?_)
          · replace H := pu_f h32 H
            refine pu_iinc (L' := [.ref 85, .int x1, z2, .int x3, .int x4, .int (x5 + 1), .int y12, .int y14, .int y16, .int y18, .int 1]) rfl (Or.inr rfl) rfl ?_
            refine pu_goto pu_t220_12 ?_
            exact H _ hz2 _ rfl _ rfl _ rfl _ rfl _ rfl
          · replace H := pu_t h32 H
            refine pu_iload_n rfl ?_
            refine pu_iconst ?_
            refine pu_ne_ pu_t220_145 (fun h33 => ?_) (fun h33 => ?_)
            · replace H := pu_f h33 H
              refine pu_iload rfl ?_
              refine pu_istore (L' := [.ref 85, .int x1, z2, .int x3, .int x5, .int x5, .int y12, .int y14, .int y16, .int y18, .int 1]) (Or.inr rfl) rfl ?_
              refine pu_iinc (L' := [.ref 85, .int x1, z2, .int x3, .int x5, .int (x5 + 1), .int y12, .int y14, .int y16, .int y18, .int 1]) rfl (Or.inr rfl) rfl ?_
              refine pu_goto pu_t220_12 ?_
              exact H _ hz2 _ rfl _ rfl _ rfl _ rfl _ rfl
            · replace H := pu_t h33 H
              refine pu_aload_n rfl ?_
              refine pu_iload rfl ?_
              refine pu_cv (vs := [.int x5]) (rest := []) pu_g219 ⟨pu_c85, by decide⟩ rfl rfl rfl rfl rfl (pu_CI (pu_I_imp H (fun y34 D35 H => ?_)))
              refine pu_ne0 pu_t220_145 (fun h36 => ?_) (fun h36 => ?_)
              · replace H := pu_f h36 H
                refine pu_iload rfl ?_
                refine pu_istore (L' := [.ref 85, .int x1, z2, .int x3, .int x5, .int x5, .int y12, .int y14, .int y16, .int y18, .int 1]) (Or.inr rfl) rfl ?_
                refine pu_iinc (L' := [.ref 85, .int x1, z2, .int x3, .int x5, .int (x5 + 1), .int y12, .int y14, .int y16, .int y18, .int 1]) rfl (Or.inr rfl) rfl ?_
                refine pu_goto pu_t220_12 ?_
                exact H _ hz2 _ rfl _ rfl _ rfl _ rfl _ rfl
              · replace H := pu_t h36 H
                refine pu_goto pu_t220_149 ?_
                refine pu_iinc (L' := [.ref 85, .int x1, z2, .int x3, .int x4, .int (x5 + 1), .int y12, .int y14, .int y16, .int y18, .int 1]) rfl (Or.inr rfl) rfl ?_
                refine pu_goto pu_t220_12 ?_
                exact H _ hz2 _ rfl _ rfl _ rfl _ rfl _ rfl
        · replace H := pu_f h29 H
          refine pu_iload rfl ?_
          refine pu_iload rfl ?_
          refine pu_ne_ pu_t220_93 (fun h37 => ?_) (fun h37 => ?_)
          · replace H := pu_f h37 H
            refine pu_iconst ?_
            refine pu_goto pu_t220_109 ?_
            refine pu_istore (L' := [.ref 85, .int x1, z2, .int x3, .int x4, .int x5, .int y12, .int y14, .int y16, .int y18, .int 0]) (Or.inr rfl) rfl ?_
            refine pu_iload rfl ?_
            refine pu_ifF (by decide) ?_
            refine pu_goto pu_t220_149 ?_
            refine pu_iinc (L' := [.ref 85, .int x1, z2, .int x3, .int x4, .int (x5 + 1), .int y12, .int y14, .int y16, .int y18, .int 0]) rfl (Or.inr rfl) rfl ?_
            refine pu_goto pu_t220_12 ?_
            exact H _ hz2 _ rfl _ rfl _ rfl _ rfl _ rfl
          · replace H := pu_t h37 H
            refine pu_iload rfl ?_
            refine pu_iload rfl ?_
            refine pu_ge_ pu_t220_93 (fun h38 => ?_) (fun h38 => ?_)
            · replace H := pu_f h38 H
              refine pu_iconst ?_
              refine pu_goto pu_t220_109 ?_
              refine pu_istore (L' := [.ref 85, .int x1, z2, .int x3, .int x4, .int x5, .int y12, .int y14, .int y16, .int y18, .int 0]) (Or.inr rfl) rfl ?_
              refine pu_iload rfl ?_
              refine pu_ifF (by decide) ?_
              refine pu_goto pu_t220_149 ?_
              refine pu_iinc (L' := [.ref 85, .int x1, z2, .int x3, .int x4, .int (x5 + 1), .int y12, .int y14, .int y16, .int y18, .int 0]) rfl (Or.inr rfl) rfl ?_
              refine pu_goto pu_t220_12 ?_
              exact H _ hz2 _ rfl _ rfl _ rfl _ rfl _ rfl
            · replace H := pu_t h38 H
              refine pu_iconst ?_
              refine pu_goto pu_t220_109 ?_
              refine pu_istore (L' := [.ref 85, .int x1, z2, .int x3, .int x4, .int x5, .int y12, .int y14, .int y16, .int y18, .int 1]) (Or.inr rfl) rfl ?_
              refine pu_iload rfl ?_
              refine pu_ifT (by decide) pu_t220_119 ?_
              refine pu_aload_n rfl ?_
              refine pu_iload rfl ?_
              refine pu_cv (vs := [.int x5]) (rest := []) pu_g218 ⟨pu_c85, by decide⟩ rfl rfl rfl rfl rfl (pu_CI (pu_I_imp H (fun y39 D40 H => ?_)))
              refine pu_ne0 pu_t220_149 (fun h41 => ?_) (fun h41 => ?_)
              · replace H := pu_f h41 H
                refine pu_iinc (L' := [.ref 85, .int x1, z2, .int x3, .int x4, .int (x5 + 1), .int y12, .int y14, .int y16, .int y18, .int 1]) rfl (Or.inr rfl) rfl ?_
                refine pu_goto pu_t220_12 ?_
                exact H _ hz2 _ rfl _ rfl _ rfl _ rfl _ rfl
              · replace H := pu_t h41 H
                refine pu_iload_n rfl ?_
                refine pu_iconst ?_
                refine pu_ne_ pu_t220_145 (fun h42 => ?_) (fun h42 => ?_)
                · replace H := pu_f h42 H
                  refine pu_iload rfl ?_
                  refine pu_istore (L' := [.ref 85, .int x1, z2, .int x3, .int x5, .int x5, .int y12, .int y14, .int y16, .int y18, .int 1]) (Or.inr rfl) rfl ?_
                  refine pu_iinc (L' := [.ref 85, .int x1, z2, .int x3, .int x5, .int (x5 + 1), .int y12, .int y14, .int y16, .int y18, .int 1]) rfl (Or.inr rfl) rfl ?_
                  refine pu_goto pu_t220_12 ?_
                  exact H _ hz2 _ rfl _ rfl _ rfl _ rfl _ rfl
                · replace H := pu_t h42 H
                  refine pu_aload_n rfl ?_
                  refine pu_iload rfl ?_
                  refine pu_cv (vs := [.int x5]) (rest := []) pu_g219 ⟨pu_c85, by decide⟩ rfl rfl rfl rfl rfl (pu_CI (pu_I_imp H (fun y43 D44 H => ?_)))
                  refine pu_ne0 pu_t220_145 (fun h45 => ?_) (fun h45 => ?_)
                  · replace H := pu_f h45 H
                    refine pu_iload rfl ?_
                    refine pu_istore (L' := [.ref 85, .int x1, z2, .int x3, .int x5, .int x5, .int y12, .int y14, .int y16, .int y18, .int 1]) (Or.inr rfl) rfl ?_
                    refine pu_iinc (L' := [.ref 85, .int x1, z2, .int x3, .int x5, .int (x5 + 1), .int y12, .int y14, .int y16, .int y18, .int 1]) rfl (Or.inr rfl) rfl ?_
                    refine pu_goto pu_t220_12 ?_
                    exact H _ hz2 _ rfl _ rfl _ rfl _ rfl _ rfl
                  · replace H := pu_t h45 H
                    refine pu_goto pu_t220_149 ?_
                    refine pu_iinc (L' := [.ref 85, .int x1, z2, .int x3, .int x4, .int (x5 + 1), .int y12, .int y14, .int y16, .int y18, .int 1]) rfl (Or.inr rfl) rfl ?_
                    refine pu_goto pu_t220_12 ?_
                    exact H _ hz2 _ rfl _ rfl _ rfl _ rfl _ rfl
theorem pu_e220 {X : px_X} {x1 : Int32} {x2 : Int32} {x3 : Int32} {D : pu_D} {P : Int32 → pu_D → Prop} 
    (H : pu_V X 217 [.ref 85, .int x1, .int x2] D (fun D2 => pu_h220_12 X x1 x3 (-1) 0 D2 P)) :
    pu_I X 220 [.ref 85, .int x1, .int x2, .int x3] D P := by
  refine pu_ent (E := [.ref 85, .int x1, .int x2, .int x3, .null, .null, .null, .null, .null, .null, .null]) pu_n220.1 pu_n220.2 pu_t220_0 rfl ?_
  refine pu_aload_n rfl ?_
  refine pu_iload_n rfl ?_
  refine pu_iload_n rfl ?_
  refine pu_cv (vs := [.int x1, .int x2]) (rest := []) pu_g217 ⟨pu_c85, by decide⟩ rfl rfl rfl rfl rfl (pu_CV (pu_V_imp H (fun D2 H => ?_)))
  refine pu_iconst ?_
  refine pu_istore (L' := [.ref 85, .int x1, .int x2, .int x3, .int (-1), .null, .null, .null, .null, .null, .null]) (Or.inr rfl) rfl ?_
  refine pu_iconst ?_
  refine pu_istore (L' := [.ref 85, .int x1, .int x2, .int x3, .int (-1), .int 0, .null, .null, .null, .null, .null]) (Or.inr rfl) rfl ?_
  exact H _ rfl _ rfl _ rfl _ rfl _ rfl _ rfl
/-- LightAlongModel.told(III)I -/
theorem pu_e221 {X : px_X} {x1 : Int32} {x2 : Int32} {x3 : Int32} {D : pu_D} {P : Int32 → pu_D → Prop} 
    (H : pu_I X 153 [.ref 85, .int x1] D (fun y1 D2 => if y1 = 0 then (pu_I X 149 [.ref 85, .int (-1)] D2 (fun y14 D15 => P y14 D15)) else (pu_I X 156 [.ref 85, .int x2] D2 (fun y4 D5 => if y4 = 0 then (pu_I X 149 [.ref 85, .int (-6)] D5 (fun y12 D13 => P y12 D13)) else (pu_I X 220 [.ref 85, .int x1, .int x2, .int x3] D5 (fun y7 D8 => if y7 = (-1) then (pu_I X 149 [.ref 85, .int (-5)] D8 (fun y10 D11 => P y10 D11)) else (P y7 D8))))))) :
    pu_I X 221 [.ref 85, .int x1, .int x2, .int x3] D P := by
  refine pu_ent (E := [.ref 85, .int x1, .int x2, .int x3, .null]) pu_n221.1 pu_n221.2 pu_t221_0 rfl ?_
  refine pu_aload_n rfl ?_
  refine pu_iload_n rfl ?_
  refine pu_cv (vs := [.int x1]) (rest := []) pu_g153 ⟨pu_c85, by decide⟩ rfl rfl rfl rfl rfl (pu_CI (pu_I_imp H (fun y1 D2 H => ?_)))
  refine pu_ne0 pu_t221_14 (fun h3 => ?_) (fun h3 => ?_)
  · replace H := pu_f h3 H
    refine pu_aload_n rfl ?_
    refine pu_iload_n rfl ?_
    refine pu_cv (vs := [.int x2]) (rest := []) pu_g156 ⟨pu_c85, by decide⟩ rfl rfl rfl rfl rfl (pu_CI (pu_I_imp H (fun y4 D5 H => ?_)))
    refine pu_ne0 pu_t221_29 (fun h6 => ?_) (fun h6 => ?_)
    · replace H := pu_f h6 H
      refine pu_aload_n rfl ?_
      refine pu_iload_n rfl ?_
      refine pu_iload_n rfl ?_
      refine pu_iload_n rfl ?_
      refine pu_cv (vs := [.int x1, .int x2, .int x3]) (rest := []) pu_g220 ⟨pu_c85, by decide⟩ rfl rfl rfl rfl rfl (pu_CI (pu_I_imp H (fun y7 D8 H => ?_)))
      refine pu_istore (L' := [.ref 85, .int x1, .int x2, .int x3, .int y7]) (Or.inr rfl) rfl ?_
      refine pu_iload rfl ?_
      refine pu_iconst ?_
      refine pu_ne_ pu_t221_53 (fun h9 => ?_) (fun h9 => ?_)
      · replace H := pu_f h9 H
        refine pu_iload rfl ?_
        exact pu_iretI pu_rt221 H
      · replace H := pu_t h9 H
        refine pu_aload_n rfl ?_
        refine pu_bipush ?_
        refine pu_cv (vs := [.int (-5)]) (rest := []) pu_g149 ⟨pu_c85, by decide⟩ rfl rfl rfl rfl rfl (pu_CI (pu_I_imp H (fun y10 D11 H => ?_)))
        refine pu_goto pu_t221_55 ?_
        exact pu_iretI pu_rt221 H
    · replace H := pu_t h6 H
      refine pu_aload_n rfl ?_
      refine pu_bipush ?_
      refine pu_cv (vs := [.int (-6)]) (rest := []) pu_g149 ⟨pu_c85, by decide⟩ rfl rfl rfl rfl rfl (pu_CI (pu_I_imp H (fun y12 D13 H => ?_)))
      exact pu_iretI pu_rt221 H
  · replace H := pu_t h3 H
    refine pu_aload_n rfl ?_
    refine pu_iconst ?_
    refine pu_cv (vs := [.int (-1)]) (rest := []) pu_g149 ⟨pu_c85, by decide⟩ rfl rfl rfl rfl rfl (pu_CI (pu_I_imp H (fun y14 D15 H => ?_)))
    exact pu_iretI pu_rt221 H
/-- LightAlongModel.cheapest(II)I -/
theorem pu_e222 {X : px_X} {x1 : Int32} {x2 : Int32} {D : pu_D} {P : Int32 → pu_D → Prop} 
    (H : pu_I X 221 [.ref 85, .int x1, .int x2, .int 0] D (fun y1 D2 => P y1 D2)) :
    pu_I X 222 [.ref 85, .int x1, .int x2] D P := by
  refine pu_ent (E := [.ref 85, .int x1, .int x2]) pu_n222.1 pu_n222.2 pu_t222_0 rfl ?_
  refine pu_aload_n rfl ?_
  refine pu_iload_n rfl ?_
  refine pu_iload_n rfl ?_
  refine pu_iconst ?_
  refine pu_cv (vs := [.int x1, .int x2, .int 0]) (rest := []) pu_g221 ⟨pu_c85, by decide⟩ rfl rfl rfl rfl rfl (pu_CI (pu_I_imp H (fun y1 D2 H => ?_)))
  exact pu_iretI pu_rt222 H
/-- LightAlongModel.fewest(II)I -/
theorem pu_e223 {X : px_X} {x1 : Int32} {x2 : Int32} {D : pu_D} {P : Int32 → pu_D → Prop} 
    (H : pu_I X 221 [.ref 85, .int x1, .int x2, .int 1] D (fun y1 D2 => P y1 D2)) :
    pu_I X 223 [.ref 85, .int x1, .int x2] D P := by
  refine pu_ent (E := [.ref 85, .int x1, .int x2]) pu_n223.1 pu_n223.2 pu_t223_0 rfl ?_
  refine pu_aload_n rfl ?_
  refine pu_iload_n rfl ?_
  refine pu_iload_n rfl ?_
  refine pu_iconst ?_
  refine pu_cv (vs := [.int x1, .int x2, .int 1]) (rest := []) pu_g221 ⟨pu_c85, by decide⟩ rfl rfl rfl rfl rfl (pu_CI (pu_I_imp H (fun y1 D2 H => ?_)))
  exact pu_iretI pu_rt223 H
/-- LightAlongModel.firm(II)I -/
theorem pu_e224 {X : px_X} {x1 : Int32} {x2 : Int32} {D : pu_D} {P : Int32 → pu_D → Prop} 
    (H : pu_I X 221 [.ref 85, .int x1, .int x2, .int 2] D (fun y1 D2 => P y1 D2)) :
    pu_I X 224 [.ref 85, .int x1, .int x2] D P := by
  refine pu_ent (E := [.ref 85, .int x1, .int x2]) pu_n224.1 pu_n224.2 pu_t224_0 rfl ?_
  refine pu_aload_n rfl ?_
  refine pu_iload_n rfl ?_
  refine pu_iload_n rfl ?_
  refine pu_iconst ?_
  refine pu_cv (vs := [.int x1, .int x2, .int 2]) (rest := []) pu_g221 ⟨pu_c85, by decide⟩ rfl rfl rfl rfl rfl (pu_CI (pu_I_imp H (fun y1 D2 H => ?_)))
  exact pu_iretI pu_rt224 H
/-- LightAlongModel.bound(II)I -/
def pu_h225_40 (X : px_X) (x3 : Int32) (x4 : Int32) (D : pu_D) (P : Int32 → pu_D → Prop) : Prop := ∀ z1 : Value, z1.category = 1 → ∀ z2 : Value, z2.category = 1 → ∀ z5 : Value, z5.category = 1 → ∀ z6 : Value, z6.category = 1 → ∀ z7 : Value, z7.category = 1 → ∀ z8 : Value, z8.category = 1 → ∀ z9 : Value, z9.category = 1 → pu_W X 225 (0, 0) px_c225_40 [.ref 85, z1, z2, .int x3, .int x4, z5, z6, z7, z8, z9] [] D (pu_qi P)
def pu_h225_78 (X : px_X) (x3 : Int32) (x4 : Int32) (x5 : Int32) (x6 : Int32) (x7 : Int32) (D : pu_D) (P : Int32 → pu_D → Prop) : Prop := ∀ z1 : Value, z1.category = 1 → ∀ z2 : Value, z2.category = 1 → ∀ z8 : Value, z8.category = 1 → ∀ z9 : Value, z9.category = 1 → pu_W X 225 (0, 0) px_c225_78 [.ref 85, z1, z2, .int x3, .int x4, .int x5, .int x6, .int x7, z8, z9] [] D (pu_qi P)
def pu_h225_93 (X : px_X) (x3 : Int32) (x4 : Int32) (x5 : Int32) (x6 : Int32) (x7 : Int32) (x8 : Int32) (x9 : Int32) (D : pu_D) (P : Int32 → pu_D → Prop) : Prop := ∀ z1 : Value, z1.category = 1 → ∀ z2 : Value, z2.category = 1 → pu_W X 225 (0, 0) px_c225_93 [.ref 85, z1, z2, .int x3, .int x4, .int x5, .int x6, .int x7, .int x8, .int x9] [] D (pu_qi P)
theorem pu_u225_40 {X : px_X} {x3 : Int32} {x4 : Int32} {D : pu_D} {P : Int32 → pu_D → Prop} 
    (H : if x4 < (2 * (D.1 85 10)) then (pu_I X 210 [.ref 85, .int x4] D (fun y14 D15 => if y14 = 0 then ((px_in x4 120 = true) ∧ pu_h225_78 X x3 x4 0 0 (D15.1 115 x4.toNatClampNeg) D15 P) else (pu_h225_40 X x3 (x4 + 1) D15 P))) else (P x3 D)) :
    pu_h225_40 X x3 x4 D P := by
  intro z1 hz1 z2 hz2 z5 hz5 z6 hz6 z7 hz7 z8 hz8 z9 hz9
  refine pu_iload rfl ?_
  refine pu_iconst ?_
  refine pu_aload_n rfl ?_
  refine pu_getI pu_k8_10 pu_c85 ?_
  refine pu_imul ?_
  refine pu_ge_ pu_t225_217 (fun h13 => ?_) (fun h13 => ?_)
  · replace H := pu_f h13 H
    refine pu_iload_n rfl ?_
    exact pu_iretI pu_rt225 H
  · replace H := pu_t h13 H
    refine pu_aload_n rfl ?_
    refine pu_iload rfl ?_
    refine pu_cv (vs := [.int x4]) (rest := []) pu_g210 ⟨pu_c85, by decide⟩ rfl rfl rfl rfl rfl (pu_CI (pu_I_imp H (fun y14 D15 H => ?_)))
    refine pu_eq0 pu_t225_63 (fun h16 => ?_) (fun h16 => ?_)
    · replace H := pu_t h16 H
      refine pu_iconst ?_
      refine pu_istore (L' := [.ref 85, z1, z2, .int x3, .int x4, .int 0, z6, z7, z8, z9]) (Or.inr rfl) rfl ?_
      refine pu_iconst ?_
      refine pu_istore (L' := [.ref 85, z1, z2, .int x3, .int x4, .int 0, .int 0, z7, z8, z9]) (Or.inr rfl) rfl ?_
      refine pu_aload_n rfl ?_
      refine pu_getR pu_kr8_47 pu_c85 pu_r85_47 ?_
      refine pu_iload rfl ?_
      refine pu_ial pu_c115 pu_ln115 H.1 ?_
      replace H := H.2
      refine pu_istore (L' := [.ref 85, z1, z2, .int x3, .int x4, .int 0, .int 0, .int (D15.1 115 x4.toNatClampNeg), z8, z9]) (Or.inr rfl) rfl ?_
      exact H _ hz1 _ hz2 _ hz8 _ hz9
    · replace H := pu_f h16 H
      refine pu_goto pu_t225_211 ?_
      refine pu_iinc (L' := [.ref 85, z1, z2, .int x3, .int (x4 + 1), z5, z6, z7, z8, z9]) rfl (Or.inr rfl) rfl ?_
      refine pu_goto pu_t225_40 ?_
      exact H _ hz1 _ hz2 _ hz5 _ hz6 _ hz7 _ hz8 _ hz9
theorem pu_u225_78 {X : px_X} {x3 : Int32} {x4 : Int32} {x5 : Int32} {x6 : Int32} {x7 : Int32} {D : pu_D} {P : Int32 → pu_D → Prop} 
    (H : if x7 < (D.1 85 7) then (pu_h225_93 X x3 x4 x5 x6 x7 (-1) 0 D P) else (if x3 < x6 then (pu_h225_40 X x6 (x4 + 1) D P) else (pu_h225_40 X x3 (x4 + 1) D P))) :
    pu_h225_78 X x3 x4 x5 x6 x7 D P := by
  intro z1 hz1 z2 hz2 z8 hz8 z9 hz9
  refine pu_iload rfl ?_
  refine pu_aload_n rfl ?_
  refine pu_getI pu_k8_7 pu_c85 ?_
  refine pu_ge_ pu_t225_198 (fun h17 => ?_) (fun h17 => ?_)
  · replace H := pu_f h17 H
    refine pu_iload rfl ?_
    refine pu_iload_n rfl ?_
    refine pu_le_ pu_t225_209 (fun h18 => ?_) (fun h18 => ?_)
    · replace H := pu_f h18 H
      refine pu_iload_n rfl ?_
      refine pu_istore_n (L' := [.ref 85, z1, z2, .int x3, .int x4, .int x5, .int x6, .int x7, z8, z9]) (Or.inr hz2) rfl ?_
      refine pu_iinc (L' := [.ref 85, z1, z2, .int x3, .int (x4 + 1), .int x5, .int x6, .int x7, z8, z9]) rfl (Or.inr rfl) rfl ?_
      refine pu_goto pu_t225_40 ?_
      exact H _ hz1 _ hz2 _ rfl _ rfl _ rfl _ hz8 _ hz9
    · replace H := pu_t h18 H
      refine pu_iload rfl ?_
      refine pu_goto pu_t225_210 ?_
      refine pu_istore_n (L' := [.ref 85, z1, z2, .int x6, .int x4, .int x5, .int x6, .int x7, z8, z9]) (Or.inr hz2) rfl ?_
      refine pu_iinc (L' := [.ref 85, z1, z2, .int x6, .int (x4 + 1), .int x5, .int x6, .int x7, z8, z9]) rfl (Or.inr rfl) rfl ?_
      refine pu_goto pu_t225_40 ?_
      exact H _ hz1 _ hz2 _ rfl _ rfl _ rfl _ hz8 _ hz9
  · replace H := pu_t h17 H
    refine pu_iconst ?_
    refine pu_istore (L' := [.ref 85, z1, z2, .int x3, .int x4, .int x5, .int x6, .int x7, .int (-1), z9]) (Or.inr rfl) rfl ?_
    refine pu_iconst ?_
    refine pu_istore (L' := [.ref 85, z1, z2, .int x3, .int x4, .int x5, .int x6, .int x7, .int (-1), .int 0]) (Or.inr rfl) rfl ?_
    exact H _ hz1 _ hz2
theorem pu_u225_93 {X : px_X} {x3 : Int32} {x4 : Int32} {x5 : Int32} {x6 : Int32} {x7 : Int32} {x8 : Int32} {x9 : Int32} {D : pu_D} {P : Int32 → pu_D → Prop} 
    (H : if x9 < (D.1 85 1) then (if ((x5 >>> (x9 &&& 31)) &&& 1) = 0 then (if x8 = (-1) then (pu_h225_93 X x3 x4 x5 x6 x7 x9 (x9 + 1) D P) else ((px_in ((120 * x9) + x4) 1080 = true) ∧ (px_in ((120 * x8) + x4) 1080 = true) ∧ if (D.1 114 ((120 * x8) + x4).toNatClampNeg) < (D.1 114 ((120 * x9) + x4).toNatClampNeg) then (pu_h225_93 X x3 x4 x5 x6 x7 x9 (x9 + 1) D P) else (pu_h225_93 X x3 x4 x5 x6 x7 x8 (x9 + 1) D P))) else (pu_h225_93 X x3 x4 x5 x6 x7 x8 (x9 + 1) D P)) else (if x8 = (-1) then (P (-1) D) else ((px_in ((120 * x8) + x4) 1080 = true) ∧ pu_h225_78 X x3 x4 (x5 ||| (1 <<< (x8 &&& 31))) (x6 + 1) (x7 + (D.1 114 ((120 * x8) + x4).toNatClampNeg)) D P))) :
    pu_h225_93 X x3 x4 x5 x6 x7 x8 x9 D P := by
  intro z1 hz1 z2 hz2
  refine pu_iload rfl ?_
  refine pu_aload_n rfl ?_
  refine pu_getI pu_k8_1 pu_c85 ?_
  refine pu_ge_ pu_t225_157 (fun h19 => ?_) (fun h19 => ?_)
  · replace H := pu_f h19 H
    refine pu_iload rfl ?_
    refine pu_iconst ?_
    refine pu_ne_ pu_t225_165 (fun h20 => ?_) (fun h20 => ?_)
    · replace H := pu_f h20 H
      refine pu_iload rfl ?_
      refine pu_iconst ?_
      refine pu_iload rfl ?_
      refine pu_ishl ?_
      refine pu_ior ?_
      refine pu_istore (L' := [.ref 85, z1, z2, .int x3, .int x4, .int (x5 ||| (1 <<< (x8 &&& 31))), .int x6, .int x7, .int x8, .int x9]) (Or.inr rfl) rfl ?_
      refine pu_iload rfl ?_
      refine pu_aload_n rfl ?_
      refine pu_getR pu_kr8_46 pu_c85 pu_r85_46 ?_
      refine pu_bipush ?_
      refine pu_iload rfl ?_
      refine pu_imul ?_
      refine pu_iload rfl ?_
      refine pu_iadd ?_
      refine pu_ial pu_c114 pu_ln114 H.1 ?_
      replace H := H.2
      refine pu_iadd ?_
      refine pu_istore (L' := [.ref 85, z1, z2, .int x3, .int x4, .int (x5 ||| (1 <<< (x8 &&& 31))), .int x6, .int (x7 + (D.1 114 ((120 * x8) + x4).toNatClampNeg)), .int x8, .int x9]) (Or.inr rfl) rfl ?_
      refine pu_iinc (L' := [.ref 85, z1, z2, .int x3, .int x4, .int (x5 ||| (1 <<< (x8 &&& 31))), .int (x6 + 1), .int (x7 + (D.1 114 ((120 * x8) + x4).toNatClampNeg)), .int x8, .int x9]) rfl (Or.inr rfl) rfl ?_
      refine pu_goto pu_t225_78 ?_
      exact H _ hz1 _ hz2 _ rfl _ rfl
    · replace H := pu_t h20 H
      refine pu_iconst ?_
      exact pu_iretI pu_rt225 H
  · replace H := pu_t h19 H
    refine pu_iload rfl ?_
    refine pu_iload rfl ?_
    refine pu_ishr ?_
    refine pu_iconst ?_
    refine pu_iand ?_
    refine pu_ne0 pu_t225_151 (fun h21 => ?_) (fun h21 => ?_)
    · replace H := pu_f h21 H
      refine pu_iinc (L' := [.ref 85, z1, z2, .int x3, .int x4, .int x5, .int x6, .int x7, .int x8, .int (x9 + 1)]) rfl (Or.inr rfl) rfl ?_
      refine pu_goto pu_t225_93 ?_
      exact H _ hz1 _ hz2
    · replace H := pu_t h21 H
      refine pu_iload rfl ?_
      refine pu_iconst ?_
      refine pu_eq_ pu_t225_147 (fun h22 => ?_) (fun h22 => ?_)
      · replace H := pu_t h22 H
        refine pu_iload rfl ?_
        refine pu_istore (L' := [.ref 85, z1, z2, .int x3, .int x4, .int x5, .int x6, .int x7, .int x9, .int x9]) (Or.inr rfl) rfl ?_
        refine pu_iinc (L' := [.ref 85, z1, z2, .int x3, .int x4, .int x5, .int x6, .int x7, .int x9, .int (x9 + 1)]) rfl (Or.inr rfl) rfl ?_
        refine pu_goto pu_t225_93 ?_
        exact H _ hz1 _ hz2
      · replace H := pu_f h22 H
        refine pu_aload_n rfl ?_
        refine pu_getR pu_kr8_46 pu_c85 pu_r85_46 ?_
        refine pu_bipush ?_
        refine pu_iload rfl ?_
        refine pu_imul ?_
        refine pu_iload rfl ?_
        refine pu_iadd ?_
        refine pu_ial pu_c114 pu_ln114 H.1 ?_
        replace H := H.2
        refine pu_aload_n rfl ?_
        refine pu_getR pu_kr8_46 pu_c85 pu_r85_46 ?_
        refine pu_bipush ?_
        refine pu_iload rfl ?_
        refine pu_imul ?_
        refine pu_iload rfl ?_
        refine pu_iadd ?_
        refine pu_ial pu_c114 pu_ln114 H.1 ?_
        replace H := H.2
        refine pu_le_ pu_t225_151 (fun h23 => ?_) (fun h23 => ?_)
        · replace H := pu_f h23 H
          refine pu_iinc (L' := [.ref 85, z1, z2, .int x3, .int x4, .int x5, .int x6, .int x7, .int x8, .int (x9 + 1)]) rfl (Or.inr rfl) rfl ?_
          refine pu_goto pu_t225_93 ?_
          exact H _ hz1 _ hz2
        · replace H := pu_t h23 H
          refine pu_iload rfl ?_
          refine pu_istore (L' := [.ref 85, z1, z2, .int x3, .int x4, .int x5, .int x6, .int x7, .int x9, .int x9]) (Or.inr rfl) rfl ?_
          refine pu_iinc (L' := [.ref 85, z1, z2, .int x3, .int x4, .int x5, .int x6, .int x7, .int x9, .int (x9 + 1)]) rfl (Or.inr rfl) rfl ?_
          refine pu_goto pu_t225_93 ?_
          exact H _ hz1 _ hz2
theorem pu_e225 {X : px_X} {x1 : Int32} {x2 : Int32} {D : pu_D} {P : Int32 → pu_D → Prop} 
    (H : pu_I X 153 [.ref 85, .int x1] D (fun y1 D2 => if y1 = 0 then (pu_I X 150 [.ref 85, .int (-1)] D2 (fun y11 D12 => P y11 D12)) else (pu_I X 156 [.ref 85, .int x2] D2 (fun y4 D5 => if y4 = 0 then (pu_I X 150 [.ref 85, .int (-6)] D5 (fun y9 D10 => P y9 D10)) else (pu_V X 217 [.ref 85, .int x1, .int x2] D5 (fun D8 => pu_h225_40 X 0 0 D8 P)))))) :
    pu_I X 225 [.ref 85, .int x1, .int x2] D P := by
  refine pu_ent (E := [.ref 85, .int x1, .int x2, .null, .null, .null, .null, .null, .null, .null]) pu_n225.1 pu_n225.2 pu_t225_0 rfl ?_
  refine pu_aload_n rfl ?_
  refine pu_iload_n rfl ?_
  refine pu_cv (vs := [.int x1]) (rest := []) pu_g153 ⟨pu_c85, by decide⟩ rfl rfl rfl rfl rfl (pu_CI (pu_I_imp H (fun y1 D2 H => ?_)))
  refine pu_ne0 pu_t225_14 (fun h3 => ?_) (fun h3 => ?_)
  · replace H := pu_f h3 H
    refine pu_aload_n rfl ?_
    refine pu_iload_n rfl ?_
    refine pu_cv (vs := [.int x2]) (rest := []) pu_g156 ⟨pu_c85, by decide⟩ rfl rfl rfl rfl rfl (pu_CI (pu_I_imp H (fun y4 D5 H => ?_)))
    refine pu_ne0 pu_t225_29 (fun h6 => ?_) (fun h6 => ?_)
    · replace H := pu_f h6 H
      refine pu_aload_n rfl ?_
      refine pu_iload_n rfl ?_
      refine pu_iload_n rfl ?_
      refine pu_cv (vs := [.int x1, .int x2]) (rest := []) pu_g217 ⟨pu_c85, by decide⟩ rfl rfl rfl rfl rfl (pu_CV (pu_V_imp H (fun D8 H => ?_)))
      refine pu_iconst ?_
      refine pu_istore_n (L' := [.ref 85, .int x1, .int x2, .int 0, .null, .null, .null, .null, .null, .null]) (Or.inr rfl) rfl ?_
      refine pu_iconst ?_
      refine pu_istore (L' := [.ref 85, .int x1, .int x2, .int 0, .int 0, .null, .null, .null, .null, .null]) (Or.inr rfl) rfl ?_
      exact H _ rfl _ rfl _ rfl _ rfl _ rfl _ rfl _ rfl
    · replace H := pu_t h6 H
      refine pu_aload_n rfl ?_
      refine pu_bipush ?_
      refine pu_cv (vs := [.int (-6)]) (rest := []) pu_g150 ⟨pu_c85, by decide⟩ rfl rfl rfl rfl rfl (pu_CI (pu_I_imp H (fun y9 D10 H => ?_)))
      exact pu_iretI pu_rt225 H
  · replace H := pu_t h3 H
    refine pu_aload_n rfl ?_
    refine pu_iconst ?_
    refine pu_cv (vs := [.int (-1)]) (rest := []) pu_g150 ⟨pu_c85, by decide⟩ rfl rfl rfl rfl rfl (pu_CI (pu_I_imp H (fun y11 D12 H => ?_)))
    exact pu_iretI pu_rt225 H
/-- LightAlongModel.which(I)I -/
def pu_h226_22 (X : px_X) (x1 : Int32) (x2 : Int32) (x3 : Int32) (x4 : Int32) (D : pu_D) (P : Int32 → pu_D → Prop) : Prop := ∀ z5 : Value, z5.category = 1 → ∀ z6 : Value, z6.category = 1 → pu_W X 226 (0, 0) px_c226_22 [.ref 85, .int x1, .int x2, .int x3, .int x4, z5, z6] [] D (pu_qi P)
theorem pu_u226_22 {X : px_X} {x1 : Int32} {x2 : Int32} {x3 : Int32} {x4 : Int32} {D : pu_D} {P : Int32 → pu_D → Prop} 
    (H : if x4 < (D.1 85 0) then (pu_I X 220 [.ref 85, .int x4, .int x1, .int 0] D (fun y10 D11 => if y10 = (-1) then (pu_h226_22 X x1 x2 x3 (x4 + 1) D11 P) else (pu_I X 215 [.ref 85, .int y10, .int x4] D11 (fun y13 D14 => if x2 = (-1) then (pu_h226_22 X x1 x4 y13 (x4 + 1) D14 P) else (if y13 < x3 then (pu_h226_22 X x1 x4 y13 (x4 + 1) D14 P) else (pu_h226_22 X x1 x2 x3 (x4 + 1) D14 P)))))) else (if x2 = (-1) then (pu_I X 149 [.ref 85, .int (-5)] D (fun y8 D9 => P y8 D9)) else (P x2 D))) :
    pu_h226_22 X x1 x2 x3 x4 D P := by
  intro z5 hz5 z6 hz6
  refine pu_iload rfl ?_
  refine pu_aload_n rfl ?_
  refine pu_getI pu_k8_0 pu_c85 ?_
  refine pu_ge_ pu_t226_86 (fun h6 => ?_) (fun h6 => ?_)
  · replace H := pu_f h6 H
    refine pu_iload_n rfl ?_
    refine pu_iconst ?_
    refine pu_ne_ pu_t226_100 (fun h7 => ?_) (fun h7 => ?_)
    · replace H := pu_f h7 H
      refine pu_iload_n rfl ?_
      exact pu_iretI pu_rt226 H
    · replace H := pu_t h7 H
      refine pu_aload_n rfl ?_
      refine pu_bipush ?_
      refine pu_cv (vs := [.int (-5)]) (rest := []) pu_g149 ⟨pu_c85, by decide⟩ rfl rfl rfl rfl rfl (pu_CI (pu_I_imp H (fun y8 D9 H => ?_)))
      refine pu_goto pu_t226_101 ?_
      exact pu_iretI pu_rt226 H
  · replace H := pu_t h6 H
    refine pu_aload_n rfl ?_
    refine pu_iload rfl ?_
    refine pu_iload_n rfl ?_
    refine pu_iconst ?_
    refine pu_cv (vs := [.int x4, .int x1, .int 0]) (rest := []) pu_g220 ⟨pu_c85, by decide⟩ rfl rfl rfl rfl rfl (pu_CI (pu_I_imp H (fun y10 D11 H => ?_)))
    refine pu_istore (L' := [.ref 85, .int x1, .int x2, .int x3, .int x4, .int y10, z6]) (Or.inr rfl) rfl ?_
    refine pu_iload rfl ?_
    refine pu_iconst ?_
    refine pu_ne_ pu_t226_50 (fun h12 => ?_) (fun h12 => ?_)
    · replace H := pu_f h12 H
      refine pu_aload_n rfl ?_
      refine pu_iload rfl ?_
      refine pu_iload rfl ?_
      refine pu_cv (vs := [.int y10, .int x4]) (rest := []) pu_g215 ⟨pu_c85, by decide⟩ rfl rfl rfl rfl rfl (pu_CI (pu_I_imp H (fun y13 D14 H => ?_)))
      refine pu_istore (L' := [.ref 85, .int x1, .int x2, .int x3, .int x4, .int y10, .int y13]) (Or.inr rfl) rfl ?_
      refine pu_iload_n rfl ?_
      refine pu_iconst ?_
      refine pu_eq_ pu_t226_74 (fun h15 => ?_) (fun h15 => ?_)
      · replace H := pu_t h15 H
        refine pu_iload rfl ?_
        refine pu_istore_n (L' := [.ref 85, .int x1, .int x4, .int x3, .int x4, .int y10, .int y13]) (Or.inr rfl) rfl ?_
        refine pu_iload rfl ?_
        refine pu_istore_n (L' := [.ref 85, .int x1, .int x4, .int y13, .int x4, .int y10, .int y13]) (Or.inr rfl) rfl ?_
        refine pu_iinc (L' := [.ref 85, .int x1, .int x4, .int y13, .int (x4 + 1), .int y10, .int y13]) rfl (Or.inr rfl) rfl ?_
        refine pu_goto pu_t226_22 ?_
        exact H _ rfl _ rfl
      · replace H := pu_f h15 H
        refine pu_iload rfl ?_
        refine pu_iload_n rfl ?_
        refine pu_lt_ pu_t226_74 (fun h16 => ?_) (fun h16 => ?_)
        · replace H := pu_t h16 H
          refine pu_iload rfl ?_
          refine pu_istore_n (L' := [.ref 85, .int x1, .int x4, .int x3, .int x4, .int y10, .int y13]) (Or.inr rfl) rfl ?_
          refine pu_iload rfl ?_
          refine pu_istore_n (L' := [.ref 85, .int x1, .int x4, .int y13, .int x4, .int y10, .int y13]) (Or.inr rfl) rfl ?_
          refine pu_iinc (L' := [.ref 85, .int x1, .int x4, .int y13, .int (x4 + 1), .int y10, .int y13]) rfl (Or.inr rfl) rfl ?_
          refine pu_goto pu_t226_22 ?_
          exact H _ rfl _ rfl
        · replace H := pu_f h16 H
          refine pu_goto pu_t226_80 ?_
          refine pu_iinc (L' := [.ref 85, .int x1, .int x2, .int x3, .int (x4 + 1), .int y10, .int y13]) rfl (Or.inr rfl) rfl ?_
          refine pu_goto pu_t226_22 ?_
          exact H _ rfl _ rfl
    · replace H := pu_t h12 H
      refine pu_goto pu_t226_80 ?_
      refine pu_iinc (L' := [.ref 85, .int x1, .int x2, .int x3, .int (x4 + 1), .int y10, z6]) rfl (Or.inr rfl) rfl ?_
      refine pu_goto pu_t226_22 ?_
      exact H _ rfl _ hz6
theorem pu_e226 {X : px_X} {x1 : Int32} {D : pu_D} {P : Int32 → pu_D → Prop} 
    (H : pu_I X 156 [.ref 85, .int x1] D (fun y1 D2 => if y1 = 0 then (pu_I X 149 [.ref 85, .int (-6)] D2 (fun y4 D5 => P y4 D5)) else (pu_h226_22 X x1 (-1) 0 0 D2 P))) :
    pu_I X 226 [.ref 85, .int x1] D P := by
  refine pu_ent (E := [.ref 85, .int x1, .null, .null, .null, .null, .null]) pu_n226.1 pu_n226.2 pu_t226_0 rfl ?_
  refine pu_aload_n rfl ?_
  refine pu_iload_n rfl ?_
  refine pu_cv (vs := [.int x1]) (rest := []) pu_g156 ⟨pu_c85, by decide⟩ rfl rfl rfl rfl rfl (pu_CI (pu_I_imp H (fun y1 D2 H => ?_)))
  refine pu_ne0 pu_t226_15 (fun h3 => ?_) (fun h3 => ?_)
  · replace H := pu_f h3 H
    refine pu_iconst ?_
    refine pu_istore_n (L' := [.ref 85, .int x1, .int (-1), .null, .null, .null, .null]) (Or.inr rfl) rfl ?_
    refine pu_iconst ?_
    refine pu_istore_n (L' := [.ref 85, .int x1, .int (-1), .int 0, .null, .null, .null]) (Or.inr rfl) rfl ?_
    refine pu_iconst ?_
    refine pu_istore (L' := [.ref 85, .int x1, .int (-1), .int 0, .int 0, .null, .null]) (Or.inr rfl) rfl ?_
    exact H _ rfl _ rfl
  · replace H := pu_t h3 H
    refine pu_aload_n rfl ?_
    refine pu_bipush ?_
    refine pu_cv (vs := [.int (-6)]) (rest := []) pu_g149 ⟨pu_c85, by decide⟩ rfl rfl rfl rfl rfl (pu_CI (pu_I_imp H (fun y4 D5 H => ?_)))
    exact pu_iretI pu_rt226 H
/-- LightAlongModel.reach(I)I -/
def pu_h227_18 (X : px_X) (x1 : Int32) (x2 : Int32) (x3 : Int32) (D : pu_D) (P : Int32 → pu_D → Prop) : Prop := pu_W X 227 (0, 0) px_c227_18 [.ref 85, .int x1, .int x2, .int x3] [] D (pu_qi P)
theorem pu_u227_18 {X : px_X} {x1 : Int32} {x2 : Int32} {x3 : Int32} {D : pu_D} {P : Int32 → pu_D → Prop} 
    (H : if x3 < 60 then ((px_in x1 6 = true) ∧ (px_in x1 6 = true) ∧ (px_in x1 6 = true) ∧ (¬ (((D.1 87 x1.toNatClampNeg) * (D.1 87 x1.toNatClampNeg)) + (x3 * x3)) = 0) ∧ if ((1000 * (D.1 88 x1.toNatClampNeg)) / (((D.1 87 x1.toNatClampNeg) * (D.1 87 x1.toNatClampNeg)) + (x3 * x3))) < (D.1 85 7) then (pu_h227_18 X x1 x2 (x3 + 1) D P) else (pu_h227_18 X x1 x3 (x3 + 1) D P)) else (P x2 D)) :
    pu_h227_18 X x1 x2 x3 D P := by
  refine pu_iload_n rfl ?_
  refine pu_bipush ?_
  refine pu_ge_ pu_t227_67 (fun h6 => ?_) (fun h6 => ?_)
  · replace H := pu_f h6 H
    refine pu_iload_n rfl ?_
    exact pu_iretI pu_rt227 H
  · replace H := pu_t h6 H
    refine pu_sipush ?_
    refine pu_aload_n rfl ?_
    refine pu_getR pu_kr8_14 pu_c85 pu_r85_14 ?_
    refine pu_iload_n rfl ?_
    refine pu_ial pu_c88 pu_ln88 H.1 ?_
    replace H := H.2
    refine pu_imul ?_
    refine pu_aload_n rfl ?_
    refine pu_getR pu_kr8_13 pu_c85 pu_r85_13 ?_
    refine pu_iload_n rfl ?_
    refine pu_ial pu_c87 pu_ln87 H.1 ?_
    replace H := H.2
    refine pu_aload_n rfl ?_
    refine pu_getR pu_kr8_13 pu_c85 pu_r85_13 ?_
    refine pu_iload_n rfl ?_
    refine pu_ial pu_c87 pu_ln87 H.1 ?_
    replace H := H.2
    refine pu_imul ?_
    refine pu_iload_n rfl ?_
    refine pu_iload_n rfl ?_
    refine pu_imul ?_
    refine pu_iadd ?_
    refine pu_idiv H.1 ?_
    replace H := H.2
    refine pu_aload_n rfl ?_
    refine pu_getI pu_k8_7 pu_c85 ?_
    refine pu_lt_ pu_t227_61 (fun h7 => ?_) (fun h7 => ?_)
    · replace H := pu_t h7 H
      refine pu_iinc (L' := [.ref 85, .int x1, .int x2, .int (x3 + 1)]) rfl (Or.inr rfl) rfl ?_
      refine pu_goto pu_t227_18 ?_
      exact H 
    · replace H := pu_f h7 H
      refine pu_iload_n rfl ?_
      refine pu_istore_n (L' := [.ref 85, .int x1, .int x3, .int x3]) (Or.inr rfl) rfl ?_
      refine pu_iinc (L' := [.ref 85, .int x1, .int x3, .int (x3 + 1)]) rfl (Or.inr rfl) rfl ?_
      refine pu_goto pu_t227_18 ?_
      exact H 
theorem pu_e227 {X : px_X} {x1 : Int32} {D : pu_D} {P : Int32 → pu_D → Prop} 
    (H : pu_I X 153 [.ref 85, .int x1] D (fun y1 D2 => if y1 = 0 then (pu_I X 150 [.ref 85, .int (-1)] D2 (fun y4 D5 => P y4 D5)) else (pu_h227_18 X x1 (-1) 0 D2 P))) :
    pu_I X 227 [.ref 85, .int x1] D P := by
  refine pu_ent (E := [.ref 85, .int x1, .null, .null]) pu_n227.1 pu_n227.2 pu_t227_0 rfl ?_
  refine pu_aload_n rfl ?_
  refine pu_iload_n rfl ?_
  refine pu_cv (vs := [.int x1]) (rest := []) pu_g153 ⟨pu_c85, by decide⟩ rfl rfl rfl rfl rfl (pu_CI (pu_I_imp H (fun y1 D2 H => ?_)))
  refine pu_ne0 pu_t227_14 (fun h3 => ?_) (fun h3 => ?_)
  · replace H := pu_f h3 H
    refine pu_iconst ?_
    refine pu_istore_n (L' := [.ref 85, .int x1, .int (-1), .null]) (Or.inr rfl) rfl ?_
    refine pu_iconst ?_
    refine pu_istore_n (L' := [.ref 85, .int x1, .int (-1), .int 0]) (Or.inr rfl) rfl ?_
    exact H 
  · replace H := pu_t h3 H
    refine pu_aload_n rfl ?_
    refine pu_iconst ?_
    refine pu_cv (vs := [.int (-1)]) (rest := []) pu_g150 ⟨pu_c85, by decide⟩ rfl rfl rfl rfl rfl (pu_CI (pu_I_imp H (fun y4 D5 H => ?_)))
    exact pu_iretI pu_rt227 H
/-- LightAlongModel.worst()I -/
def pu_h228_6 (X : px_X) (x1 : Int32) (x2 : Int32) (x3 : Int32) (D : pu_D) (P : Int32 → pu_D → Prop) : Prop := ∀ z4 : Value, z4.category = 1 → ∀ z5 : Value, z5.category = 1 → pu_W X 228 (0, 0) px_c228_6 [.ref 85, .int x1, .int x2, .int x3, z4, z5] [] D (pu_qi P)
def pu_h228_27 (X : px_X) (x1 : Int32) (x2 : Int32) (x3 : Int32) (x4 : Int32) (x5 : Int32) (D : pu_D) (P : Int32 → pu_D → Prop) : Prop := pu_W X 228 (0, 0) px_c228_27 [.ref 85, .int x1, .int x2, .int x3, .int x4, .int x5] [] D (pu_qi P)
theorem pu_u228_6 {X : px_X} {x1 : Int32} {x2 : Int32} {x3 : Int32} {D : pu_D} {P : Int32 → pu_D → Prop} 
    (H : if x3 < 12 then (pu_V X 212 [.ref 85, .int 0, .int 0, .int 0, .int x3, .int 0] D (fun D3 => pu_h228_27 X x1 x2 x3 (-1) 0 D3 P)) else (P x1 D)) :
    pu_h228_6 X x1 x2 x3 D P := by
  intro z4 hz4 z5 hz5
  refine pu_iload_n rfl ?_
  refine pu_bipush ?_
  refine pu_ge_ pu_t228_111 (fun h1 => ?_) (fun h1 => ?_)
  · replace H := pu_f h1 H
    refine pu_iload_n rfl ?_
    exact pu_iretI pu_rt228 H
  · replace H := pu_t h1 H
    refine pu_aload_n rfl ?_
    refine pu_iconst ?_
    refine pu_iconst ?_
    refine pu_iconst ?_
    refine pu_iload_n rfl ?_
    refine pu_iconst ?_
    refine pu_cv (vs := [.int 0, .int 0, .int 0, .int x3, .int 0]) (rest := []) pu_g212 ⟨pu_c85, by decide⟩ rfl rfl rfl rfl rfl (pu_CV (pu_V_imp H (fun D3 H => ?_)))
    refine pu_iconst ?_
    refine pu_istore (L' := [.ref 85, .int x1, .int x2, .int x3, .int (-1), z5]) (Or.inr rfl) rfl ?_
    refine pu_iconst ?_
    refine pu_istore (L' := [.ref 85, .int x1, .int x2, .int x3, .int (-1), .int 0]) (Or.inr rfl) rfl ?_
    exact H 
theorem pu_u228_27 {X : px_X} {x1 : Int32} {x2 : Int32} {x3 : Int32} {x4 : Int32} {x5 : Int32} {D : pu_D} {P : Int32 → pu_D → Prop} 
    (H : if x5 < (2 * (D.1 85 10)) then (pu_I X 210 [.ref 85, .int x5] D (fun y8 D9 => if y8 = 0 then (if x4 = (-1) then ((px_in x5 120 = true) ∧ pu_h228_27 X x1 x2 x3 (D9.1 113 x5.toNatClampNeg) (x5 + 1) D9 P) else ((px_in x5 120 = true) ∧ if (D9.1 113 x5.toNatClampNeg) < x4 then ((px_in x5 120 = true) ∧ pu_h228_27 X x1 x2 x3 (D9.1 113 x5.toNatClampNeg) (x5 + 1) D9 P) else (pu_h228_27 X x1 x2 x3 x4 (x5 + 1) D9 P))) else (pu_h228_27 X x1 x2 x3 x4 (x5 + 1) D9 P))) else (if x4 = (-1) then (pu_h228_6 X x1 x2 (x3 + 1) D P) else (if x2 = (-1) then (pu_h228_6 X x3 x4 (x3 + 1) D P) else (if x4 < x2 then (pu_h228_6 X x3 x4 (x3 + 1) D P) else (pu_h228_6 X x1 x2 (x3 + 1) D P))))) :
    pu_h228_27 X x1 x2 x3 x4 x5 D P := by
  refine pu_iload rfl ?_
  refine pu_iconst ?_
  refine pu_aload_n rfl ?_
  refine pu_getI pu_k8_10 pu_c85 ?_
  refine pu_imul ?_
  refine pu_ge_ pu_t228_80 (fun h4 => ?_) (fun h4 => ?_)
  · replace H := pu_f h4 H
    refine pu_iload rfl ?_
    refine pu_iconst ?_
    refine pu_eq_ pu_t228_105 (fun h5 => ?_) (fun h5 => ?_)
    · replace H := pu_t h5 H
      refine pu_iinc (L' := [.ref 85, .int x1, .int x2, .int (x3 + 1), .int x4, .int x5]) rfl (Or.inr rfl) rfl ?_
      refine pu_goto pu_t228_6 ?_
      exact H _ rfl _ rfl
    · replace H := pu_f h5 H
      refine pu_iload_n rfl ?_
      refine pu_iconst ?_
      refine pu_eq_ pu_t228_100 (fun h6 => ?_) (fun h6 => ?_)
      · replace H := pu_t h6 H
        refine pu_iload rfl ?_
        refine pu_istore_n (L' := [.ref 85, .int x1, .int x4, .int x3, .int x4, .int x5]) (Or.inr rfl) rfl ?_
        refine pu_iload_n rfl ?_
        refine pu_istore_n (L' := [.ref 85, .int x3, .int x4, .int x3, .int x4, .int x5]) (Or.inr rfl) rfl ?_
        refine pu_iinc (L' := [.ref 85, .int x3, .int x4, .int (x3 + 1), .int x4, .int x5]) rfl (Or.inr rfl) rfl ?_
        refine pu_goto pu_t228_6 ?_
        exact H _ rfl _ rfl
      · replace H := pu_f h6 H
        refine pu_iload rfl ?_
        refine pu_iload_n rfl ?_
        refine pu_lt_ pu_t228_100 (fun h7 => ?_) (fun h7 => ?_)
        · replace H := pu_t h7 H
          refine pu_iload rfl ?_
          refine pu_istore_n (L' := [.ref 85, .int x1, .int x4, .int x3, .int x4, .int x5]) (Or.inr rfl) rfl ?_
          refine pu_iload_n rfl ?_
          refine pu_istore_n (L' := [.ref 85, .int x3, .int x4, .int x3, .int x4, .int x5]) (Or.inr rfl) rfl ?_
          refine pu_iinc (L' := [.ref 85, .int x3, .int x4, .int (x3 + 1), .int x4, .int x5]) rfl (Or.inr rfl) rfl ?_
          refine pu_goto pu_t228_6 ?_
          exact H _ rfl _ rfl
        · replace H := pu_f h7 H
          refine pu_goto pu_t228_105 ?_
          refine pu_iinc (L' := [.ref 85, .int x1, .int x2, .int (x3 + 1), .int x4, .int x5]) rfl (Or.inr rfl) rfl ?_
          refine pu_goto pu_t228_6 ?_
          exact H _ rfl _ rfl
  · replace H := pu_t h4 H
    refine pu_aload_n rfl ?_
    refine pu_iload rfl ?_
    refine pu_cv (vs := [.int x5]) (rest := []) pu_g210 ⟨pu_c85, by decide⟩ rfl rfl rfl rfl rfl (pu_CI (pu_I_imp H (fun y8 D9 H => ?_)))
    refine pu_ne0 pu_t228_74 (fun h10 => ?_) (fun h10 => ?_)
    · replace H := pu_f h10 H
      refine pu_iinc (L' := [.ref 85, .int x1, .int x2, .int x3, .int x4, .int (x5 + 1)]) rfl (Or.inr rfl) rfl ?_
      refine pu_goto pu_t228_27 ?_
      exact H 
    · replace H := pu_t h10 H
      refine pu_iload rfl ?_
      refine pu_iconst ?_
      refine pu_eq_ pu_t228_65 (fun h11 => ?_) (fun h11 => ?_)
      · replace H := pu_t h11 H
        refine pu_aload_n rfl ?_
        refine pu_getR pu_kr8_44 pu_c85 pu_r85_44 ?_
        refine pu_iload rfl ?_
        refine pu_ial pu_c113 pu_ln113 H.1 ?_
        replace H := H.2
        refine pu_istore (L' := [.ref 85, .int x1, .int x2, .int x3, .int (D9.1 113 x5.toNatClampNeg), .int x5]) (Or.inr rfl) rfl ?_
        refine pu_iinc (L' := [.ref 85, .int x1, .int x2, .int x3, .int (D9.1 113 x5.toNatClampNeg), .int (x5 + 1)]) rfl (Or.inr rfl) rfl ?_
        refine pu_goto pu_t228_27 ?_
        exact H 
      · replace H := pu_f h11 H
        refine pu_aload_n rfl ?_
        refine pu_getR pu_kr8_44 pu_c85 pu_r85_44 ?_
        refine pu_iload rfl ?_
        refine pu_ial pu_c113 pu_ln113 H.1 ?_
        replace H := H.2
        refine pu_iload rfl ?_
        refine pu_ge_ pu_t228_74 (fun h12 => ?_) (fun h12 => ?_)
        · replace H := pu_f h12 H
          refine pu_iinc (L' := [.ref 85, .int x1, .int x2, .int x3, .int x4, .int (x5 + 1)]) rfl (Or.inr rfl) rfl ?_
          refine pu_goto pu_t228_27 ?_
          exact H 
        · replace H := pu_t h12 H
          refine pu_aload_n rfl ?_
          refine pu_getR pu_kr8_44 pu_c85 pu_r85_44 ?_
          refine pu_iload rfl ?_
          refine pu_ial pu_c113 pu_ln113 H.1 ?_
          replace H := H.2
          refine pu_istore (L' := [.ref 85, .int x1, .int x2, .int x3, .int (D9.1 113 x5.toNatClampNeg), .int x5]) (Or.inr rfl) rfl ?_
          refine pu_iinc (L' := [.ref 85, .int x1, .int x2, .int x3, .int (D9.1 113 x5.toNatClampNeg), .int (x5 + 1)]) rfl (Or.inr rfl) rfl ?_
          refine pu_goto pu_t228_27 ?_
          exact H 
theorem pu_e228 {X : px_X}  {D : pu_D} {P : Int32 → pu_D → Prop} 
    (H : pu_h228_6 X 0 (-1) 0 D P) :
    pu_I X 228 [.ref 85] D P := by
  refine pu_ent (E := [.ref 85, .null, .null, .null, .null, .null]) pu_n228.1 pu_n228.2 pu_t228_0 rfl ?_
  refine pu_iconst ?_
  refine pu_istore_n (L' := [.ref 85, .int 0, .null, .null, .null, .null]) (Or.inr rfl) rfl ?_
  refine pu_iconst ?_
  refine pu_istore_n (L' := [.ref 85, .int 0, .int (-1), .null, .null, .null]) (Or.inr rfl) rfl ?_
  refine pu_iconst ?_
  refine pu_istore_n (L' := [.ref 85, .int 0, .int (-1), .int 0, .null, .null]) (Or.inr rfl) rfl ?_
  exact H _ rfl _ rfl
/-- LightAlongModel.shade(III)I -/
def pu_h229_90 (X : px_X) (x1 : Int32) (x2 : Int32) (x3 : Int32) (x5 : Int32) (x6 : Int32) (x7 : Int32) (x8 : Int32) (D : pu_D) (P : Int32 → pu_D → Prop) : Prop := ∀ z4 : Value, z4.category = 1 → ∀ z9 : Value, z9.category = 1 → pu_W X 229 (0, 0) px_c229_90 [.ref 85, .int x1, .int x2, .int x3, z4, .int x5, .int x6, .int x7, .int x8, z9] [] D (pu_qi P)
theorem pu_u229_90 {X : px_X} {x1 : Int32} {x2 : Int32} {x3 : Int32} {x5 : Int32} {x6 : Int32} {x7 : Int32} {x8 : Int32} {D : pu_D} {P : Int32 → pu_D → Prop} 
    (H : if x8 < (D.1 85 1) then (if ((x5 >>> (x8 &&& 31)) &&& 1) = 0 then (pu_h229_90 X x1 x2 x3 x5 x6 x7 (x8 + 1) D P) else ((px_in x1 8 = true) ∧ if (D.1 106 x1.toNatClampNeg) = 4 then ((px_in x1 8 = true) ∧ if (D.1 107 x1.toNatClampNeg) = 0 then (pu_I X 205 [.ref 85, .int x8, .int x2, .int x3, .int 1] D (fun y33 D34 => if x7 < y33 then (pu_h229_90 X x1 x2 x3 x5 x8 y33 (x8 + 1) D34 P) else (pu_h229_90 X x1 x2 x3 x5 x6 x7 (x8 + 1) D34 P))) else (pu_I X 205 [.ref 85, .int x8, .int x2, .int x3, .int 0] D (fun y30 D31 => if x7 < y30 then (pu_h229_90 X x1 x2 x3 x5 x8 y30 (x8 + 1) D31 P) else (pu_h229_90 X x1 x2 x3 x5 x6 x7 (x8 + 1) D31 P)))) else (pu_I X 205 [.ref 85, .int x8, .int x2, .int x3, .int 0] D (fun y26 D27 => if x7 < y26 then (pu_h229_90 X x1 x2 x3 x5 x8 y26 (x8 + 1) D27 P) else (pu_h229_90 X x1 x2 x3 x5 x6 x7 (x8 + 1) D27 P))))) else (P x6 D)) :
    pu_h229_90 X x1 x2 x3 x5 x6 x7 x8 D P := by
  intro z4 hz4 z9 hz9
  refine pu_iload rfl ?_
  refine pu_aload_n rfl ?_
  refine pu_getI pu_k8_1 pu_c85 ?_
  refine pu_ge_ pu_t229_170 (fun h23 => ?_) (fun h23 => ?_)
  · replace H := pu_f h23 H
    refine pu_iload rfl ?_
    exact pu_iretI pu_rt229 H
  · replace H := pu_t h23 H
    refine pu_iload rfl ?_
    refine pu_iload rfl ?_
    refine pu_ishr ?_
    refine pu_iconst ?_
    refine pu_iand ?_
    refine pu_ne0 pu_t229_112 (fun h24 => ?_) (fun h24 => ?_)
    · replace H := pu_f h24 H
      refine pu_aload_n rfl ?_
      refine pu_iload rfl ?_
      refine pu_iload_n rfl ?_
      refine pu_iload_n rfl ?_
      refine pu_aload_n rfl ?_
      refine pu_getR pu_kr8_32 pu_c85 pu_r85_32 ?_
      refine pu_iload_n rfl ?_
      refine pu_ial pu_c106 pu_ln106 H.1 ?_
      replace H := H.2
      refine pu_iconst ?_
      refine pu_ne_ pu_t229_140 (fun h25 => ?_) (fun h25 => ?_)
      · replace H := pu_f h25 H
        refine pu_iconst ?_
        refine pu_cv (vs := [.int x8, .int x2, .int x3, .int 0]) (rest := []) pu_g205 ⟨pu_c85, by decide⟩ rfl rfl rfl rfl rfl (pu_CI (pu_I_imp H (fun y26 D27 H => ?_)))
        refine pu_istore (L' := [.ref 85, .int x1, .int x2, .int x3, z4, .int x5, .int x6, .int x7, .int x8, .int y26]) (Or.inr rfl) rfl ?_
        refine pu_iload rfl ?_
        refine pu_iload rfl ?_
        refine pu_gt_ pu_t229_156 (fun h28 => ?_) (fun h28 => ?_)
        · replace H := pu_t h28 H
          refine pu_iload rfl ?_
          refine pu_istore (L' := [.ref 85, .int x1, .int x2, .int x3, z4, .int x5, .int x6, .int y26, .int x8, .int y26]) (Or.inr rfl) rfl ?_
          refine pu_iload rfl ?_
          refine pu_istore (L' := [.ref 85, .int x1, .int x2, .int x3, z4, .int x5, .int x8, .int y26, .int x8, .int y26]) (Or.inr rfl) rfl ?_
          refine pu_iinc (L' := [.ref 85, .int x1, .int x2, .int x3, z4, .int x5, .int x8, .int y26, .int (x8 + 1), .int y26]) rfl (Or.inr rfl) rfl ?_
          refine pu_goto pu_t229_90 ?_
          exact H _ hz4 _ rfl
        · replace H := pu_f h28 H
          refine pu_goto pu_t229_164 ?_
          refine pu_iinc (L' := [.ref 85, .int x1, .int x2, .int x3, z4, .int x5, .int x6, .int x7, .int (x8 + 1), .int y26]) rfl (Or.inr rfl) rfl ?_
          refine pu_goto pu_t229_90 ?_
          exact H _ hz4 _ rfl
      · replace H := pu_t h25 H
        refine pu_aload_n rfl ?_
        refine pu_getR pu_kr8_33 pu_c85 pu_r85_33 ?_
        refine pu_iload_n rfl ?_
        refine pu_ial pu_c107 pu_ln107 H.1 ?_
        replace H := H.2
        refine pu_ne0 pu_t229_140 (fun h29 => ?_) (fun h29 => ?_)
        · replace H := pu_f h29 H
          refine pu_iconst ?_
          refine pu_cv (vs := [.int x8, .int x2, .int x3, .int 0]) (rest := []) pu_g205 ⟨pu_c85, by decide⟩ rfl rfl rfl rfl rfl (pu_CI (pu_I_imp H (fun y30 D31 H => ?_)))
          refine pu_istore (L' := [.ref 85, .int x1, .int x2, .int x3, z4, .int x5, .int x6, .int x7, .int x8, .int y30]) (Or.inr rfl) rfl ?_
          refine pu_iload rfl ?_
          refine pu_iload rfl ?_
          refine pu_gt_ pu_t229_156 (fun h32 => ?_) (fun h32 => ?_)
          · replace H := pu_t h32 H
            refine pu_iload rfl ?_
            refine pu_istore (L' := [.ref 85, .int x1, .int x2, .int x3, z4, .int x5, .int x6, .int y30, .int x8, .int y30]) (Or.inr rfl) rfl ?_
            refine pu_iload rfl ?_
            refine pu_istore (L' := [.ref 85, .int x1, .int x2, .int x3, z4, .int x5, .int x8, .int y30, .int x8, .int y30]) (Or.inr rfl) rfl ?_
            refine pu_iinc (L' := [.ref 85, .int x1, .int x2, .int x3, z4, .int x5, .int x8, .int y30, .int (x8 + 1), .int y30]) rfl (Or.inr rfl) rfl ?_
            refine pu_goto pu_t229_90 ?_
            exact H _ hz4 _ rfl
          · replace H := pu_f h32 H
            refine pu_goto pu_t229_164 ?_
            refine pu_iinc (L' := [.ref 85, .int x1, .int x2, .int x3, z4, .int x5, .int x6, .int x7, .int (x8 + 1), .int y30]) rfl (Or.inr rfl) rfl ?_
            refine pu_goto pu_t229_90 ?_
            exact H _ hz4 _ rfl
        · replace H := pu_t h29 H
          refine pu_iconst ?_
          refine pu_goto pu_t229_141 ?_
          refine pu_cv (vs := [.int x8, .int x2, .int x3, .int 1]) (rest := []) pu_g205 ⟨pu_c85, by decide⟩ rfl rfl rfl rfl rfl (pu_CI (pu_I_imp H (fun y33 D34 H => ?_)))
          refine pu_istore (L' := [.ref 85, .int x1, .int x2, .int x3, z4, .int x5, .int x6, .int x7, .int x8, .int y33]) (Or.inr rfl) rfl ?_
          refine pu_iload rfl ?_
          refine pu_iload rfl ?_
          refine pu_gt_ pu_t229_156 (fun h35 => ?_) (fun h35 => ?_)
          · replace H := pu_t h35 H
            refine pu_iload rfl ?_
            refine pu_istore (L' := [.ref 85, .int x1, .int x2, .int x3, z4, .int x5, .int x6, .int y33, .int x8, .int y33]) (Or.inr rfl) rfl ?_
            refine pu_iload rfl ?_
            refine pu_istore (L' := [.ref 85, .int x1, .int x2, .int x3, z4, .int x5, .int x8, .int y33, .int x8, .int y33]) (Or.inr rfl) rfl ?_
            refine pu_iinc (L' := [.ref 85, .int x1, .int x2, .int x3, z4, .int x5, .int x8, .int y33, .int (x8 + 1), .int y33]) rfl (Or.inr rfl) rfl ?_
            refine pu_goto pu_t229_90 ?_
            exact H _ hz4 _ rfl
          · replace H := pu_f h35 H
            refine pu_goto pu_t229_164 ?_
            refine pu_iinc (L' := [.ref 85, .int x1, .int x2, .int x3, z4, .int x5, .int x6, .int x7, .int (x8 + 1), .int y33]) rfl (Or.inr rfl) rfl ?_
            refine pu_goto pu_t229_90 ?_
            exact H _ hz4 _ rfl
    · replace H := pu_t h24 H
      refine pu_goto pu_t229_164 ?_
      refine pu_iinc (L' := [.ref 85, .int x1, .int x2, .int x3, z4, .int x5, .int x6, .int x7, .int (x8 + 1), z9]) rfl (Or.inr rfl) rfl ?_
      refine pu_goto pu_t229_90 ?_
      exact H _ hz4 _ hz9
theorem pu_e229 {X : px_X} {x1 : Int32} {x2 : Int32} {x3 : Int32} {D : pu_D} {P : Int32 → pu_D → Prop} 
    (H : pu_I X 151 [.ref 85, .int x1] D (fun y1 D2 => if y1 = 0 then (pu_I X 150 [.ref 85, .int (-1)] D2 (fun y4 D5 => P y4 D5)) else (pu_I X 152 [.ref 85, .int x2] D2 (fun y6 D7 => if y6 = 0 then (pu_I X 150 [.ref 85, .int (-1)] D7 (fun y21 D22 => P y21 D22)) else (pu_I X 166 [.ref 85, .int x1, .int 2] D7 (fun y9 D10 => if y9 = 0 then (pu_I X 156 [.ref 85, .int x3] D10 (fun y12 D13 => if y12 = 0 then (pu_I X 150 [.ref 85, .int (-6)] D13 (fun y17 D18 => P y17 D18)) else ((px_in x1 8 = true) ∧ (px_in x1 8 = true) ∧ (px_in x1 8 = true) ∧ pu_I X 202 [.ref 85, .int (D13.1 106 x1.toNatClampNeg), .int (D13.1 107 x1.toNatClampNeg), .int (D13.1 105 x1.toNatClampNeg)] D13 (fun y15 D16 => pu_h229_90 X x1 x2 x3 y15 (-1) 0 0 D16 P)))) else (pu_I X 150 [.ref 85, .int y9] D10 (fun y19 D20 => P y19 D20)))))))) :
    pu_I X 229 [.ref 85, .int x1, .int x2, .int x3] D P := by
  refine pu_ent (E := [.ref 85, .int x1, .int x2, .int x3, .null, .null, .null, .null, .null, .null]) pu_n229.1 pu_n229.2 pu_t229_0 rfl ?_
  refine pu_aload_n rfl ?_
  refine pu_iload_n rfl ?_
  refine pu_cv (vs := [.int x1]) (rest := []) pu_g151 ⟨pu_c85, by decide⟩ rfl rfl rfl rfl rfl (pu_CI (pu_I_imp H (fun y1 D2 H => ?_)))
  refine pu_eq0 pu_t229_16 (fun h3 => ?_) (fun h3 => ?_)
  · replace H := pu_t h3 H
    refine pu_aload_n rfl ?_
    refine pu_iconst ?_
    refine pu_cv (vs := [.int (-1)]) (rest := []) pu_g150 ⟨pu_c85, by decide⟩ rfl rfl rfl rfl rfl (pu_CI (pu_I_imp H (fun y4 D5 H => ?_)))
    exact pu_iretI pu_rt229 H
  · replace H := pu_f h3 H
    refine pu_aload_n rfl ?_
    refine pu_iload_n rfl ?_
    refine pu_cv (vs := [.int x2]) (rest := []) pu_g152 ⟨pu_c85, by decide⟩ rfl rfl rfl rfl rfl (pu_CI (pu_I_imp H (fun y6 D7 H => ?_)))
    refine pu_ne0 pu_t229_22 (fun h8 => ?_) (fun h8 => ?_)
    · replace H := pu_f h8 H
      refine pu_aload_n rfl ?_
      refine pu_iload_n rfl ?_
      refine pu_iconst ?_
      refine pu_cv (vs := [.int x1, .int 2]) (rest := []) pu_g166 ⟨pu_c85, by decide⟩ rfl rfl rfl rfl rfl (pu_CI (pu_I_imp H (fun y9 D10 H => ?_)))
      refine pu_istore (L' := [.ref 85, .int x1, .int x2, .int x3, .int y9, .null, .null, .null, .null, .null]) (Or.inr rfl) rfl ?_
      refine pu_iload rfl ?_
      refine pu_eq0 pu_t229_42 (fun h11 => ?_) (fun h11 => ?_)
      · replace H := pu_t h11 H
        refine pu_aload_n rfl ?_
        refine pu_iload_n rfl ?_
        refine pu_cv (vs := [.int x3]) (rest := []) pu_g156 ⟨pu_c85, by decide⟩ rfl rfl rfl rfl rfl (pu_CI (pu_I_imp H (fun y12 D13 H => ?_)))
        refine pu_ne0 pu_t229_57 (fun h14 => ?_) (fun h14 => ?_)
        · replace H := pu_f h14 H
          refine pu_aload_n rfl ?_
          refine pu_aload_n rfl ?_
          refine pu_getR pu_kr8_32 pu_c85 pu_r85_32 ?_
          refine pu_iload_n rfl ?_
          refine pu_ial pu_c106 pu_ln106 H.1 ?_
          replace H := H.2
          refine pu_aload_n rfl ?_
          refine pu_getR pu_kr8_33 pu_c85 pu_r85_33 ?_
          refine pu_iload_n rfl ?_
          refine pu_ial pu_c107 pu_ln107 H.1 ?_
          replace H := H.2
          refine pu_aload_n rfl ?_
          refine pu_getR pu_kr8_31 pu_c85 pu_r85_31 ?_
          refine pu_iload_n rfl ?_
          refine pu_ial pu_c105 pu_ln105 H.1 ?_
          replace H := H.2
          refine pu_cv (vs := [.int (D13.1 106 x1.toNatClampNeg), .int (D13.1 107 x1.toNatClampNeg), .int (D13.1 105 x1.toNatClampNeg)]) (rest := []) pu_g202 ⟨pu_c85, by decide⟩ rfl rfl rfl rfl rfl (pu_CI (pu_I_imp H (fun y15 D16 H => ?_)))
          refine pu_istore (L' := [.ref 85, .int x1, .int x2, .int x3, .int y9, .int y15, .null, .null, .null, .null]) (Or.inr rfl) rfl ?_
          refine pu_iconst ?_
          refine pu_istore (L' := [.ref 85, .int x1, .int x2, .int x3, .int y9, .int y15, .int (-1), .null, .null, .null]) (Or.inr rfl) rfl ?_
          refine pu_iconst ?_
          refine pu_istore (L' := [.ref 85, .int x1, .int x2, .int x3, .int y9, .int y15, .int (-1), .int 0, .null, .null]) (Or.inr rfl) rfl ?_
          refine pu_iconst ?_
          refine pu_istore (L' := [.ref 85, .int x1, .int x2, .int x3, .int y9, .int y15, .int (-1), .int 0, .int 0, .null]) (Or.inr rfl) rfl ?_
          exact H _ rfl _ rfl
        · replace H := pu_t h14 H
          refine pu_aload_n rfl ?_
          refine pu_bipush ?_
          refine pu_cv (vs := [.int (-6)]) (rest := []) pu_g150 ⟨pu_c85, by decide⟩ rfl rfl rfl rfl rfl (pu_CI (pu_I_imp H (fun y17 D18 H => ?_)))
          exact pu_iretI pu_rt229 H
      · replace H := pu_f h11 H
        refine pu_aload_n rfl ?_
        refine pu_iload rfl ?_
        refine pu_cv (vs := [.int y9]) (rest := []) pu_g150 ⟨pu_c85, by decide⟩ rfl rfl rfl rfl rfl (pu_CI (pu_I_imp H (fun y19 D20 H => ?_)))
        exact pu_iretI pu_rt229 H
    · replace H := pu_t h8 H
      refine pu_aload_n rfl ?_
      refine pu_iconst ?_
      refine pu_cv (vs := [.int (-1)]) (rest := []) pu_g150 ⟨pu_c85, by decide⟩ rfl rfl rfl rfl rfl (pu_CI (pu_I_imp H (fun y21 D22 H => ?_)))
      exact pu_iretI pu_rt229 H
/-- LightAlongModel.spill(II)I -/
def pu_h230_49 (X : px_X) (x1 : Int32) (x2 : Int32) (x3 : Int32) (x4 : Int32) (D : pu_D) (P : Int32 → pu_D → Prop) : Prop := ∀ z5 : Value, z5.category = 1 → pu_W X 230 (0, 0) px_c230_49 [.ref 85, .int x1, .int x2, .int x3, .int x4, z5] [] D (pu_qi P)
theorem pu_u230_49 {X : px_X} {x1 : Int32} {x2 : Int32} {x3 : Int32} {x4 : Int32} {D : pu_D} {P : Int32 → pu_D → Prop} 
    (H : if x4 < 120 then (pu_I X 206 [.ref 85, .int 0, .int 0, .int 0, .int x4, .int x2, .int 0] D (fun y14 D15 => if y14 < (D15.1 85 7) then (pu_h230_49 X x1 x2 x3 (x4 + 1) D15 P) else (pu_I X 204 [.ref 85, .int x1, .int x4] D15 (fun y17 D18 => if (y14 - y17) < (D18.1 85 7) then (pu_h230_49 X x1 x2 (x3 + 1) (x4 + 1) D18 P) else (pu_h230_49 X x1 x2 x3 (x4 + 1) D18 P))))) else (P x3 D)) :
    pu_h230_49 X x1 x2 x3 x4 D P := by
  intro z5 hz5
  refine pu_iload rfl ?_
  refine pu_bipush ?_
  refine pu_ge_ pu_t230_104 (fun h13 => ?_) (fun h13 => ?_)
  · replace H := pu_f h13 H
    refine pu_iload_n rfl ?_
    exact pu_iretI pu_rt230 H
  · replace H := pu_t h13 H
    refine pu_aload_n rfl ?_
    refine pu_iconst ?_
    refine pu_iconst ?_
    refine pu_iconst ?_
    refine pu_iload rfl ?_
    refine pu_iload_n rfl ?_
    refine pu_iconst ?_
    refine pu_cv (vs := [.int 0, .int 0, .int 0, .int x4, .int x2, .int 0]) (rest := []) pu_g206 ⟨pu_c85, by decide⟩ rfl rfl rfl rfl rfl (pu_CI (pu_I_imp H (fun y14 D15 H => ?_)))
    refine pu_istore (L' := [.ref 85, .int x1, .int x2, .int x3, .int x4, .int y14]) (Or.inr rfl) rfl ?_
    refine pu_iload rfl ?_
    refine pu_aload_n rfl ?_
    refine pu_getI pu_k8_7 pu_c85 ?_
    refine pu_lt_ pu_t230_98 (fun h16 => ?_) (fun h16 => ?_)
    · replace H := pu_t h16 H
      refine pu_iinc (L' := [.ref 85, .int x1, .int x2, .int x3, .int (x4 + 1), .int y14]) rfl (Or.inr rfl) rfl ?_
      refine pu_goto pu_t230_49 ?_
      exact H _ rfl
    · replace H := pu_f h16 H
      refine pu_iload rfl ?_
      refine pu_aload_n rfl ?_
      refine pu_iload_n rfl ?_
      refine pu_iload rfl ?_
      refine pu_cv (vs := [.int x1, .int x4]) (rest := [.int y14]) pu_g204 ⟨pu_c85, by decide⟩ rfl rfl rfl rfl rfl (pu_CI (pu_I_imp H (fun y17 D18 H => ?_)))
      refine pu_isub ?_
      refine pu_aload_n rfl ?_
      refine pu_getI pu_k8_7 pu_c85 ?_
      refine pu_ge_ pu_t230_98 (fun h19 => ?_) (fun h19 => ?_)
      · replace H := pu_f h19 H
        refine pu_iinc (L' := [.ref 85, .int x1, .int x2, .int x3, .int (x4 + 1), .int y14]) rfl (Or.inr rfl) rfl ?_
        refine pu_goto pu_t230_49 ?_
        exact H _ rfl
      · replace H := pu_t h19 H
        refine pu_iinc (L' := [.ref 85, .int x1, .int x2, .int (x3 + 1), .int x4, .int y14]) rfl (Or.inr rfl) rfl ?_
        refine pu_iinc (L' := [.ref 85, .int x1, .int x2, .int (x3 + 1), .int (x4 + 1), .int y14]) rfl (Or.inr rfl) rfl ?_
        refine pu_goto pu_t230_49 ?_
        exact H _ rfl
theorem pu_e230 {X : px_X} {x1 : Int32} {x2 : Int32} {D : pu_D} {P : Int32 → pu_D → Prop} 
    (H : if x1 < 0 then (pu_I X 149 [.ref 85, .int (-1)] D (fun y2 D3 => P y2 D3)) else (if x1 < (D.1 85 5) then (pu_I X 156 [.ref 85, .int x2] D (fun y5 D6 => if y5 = 0 then (pu_I X 149 [.ref 85, .int (-6)] D6 (fun y9 D10 => P y9 D10)) else ((px_in x1 8 = true) ∧ if (D6.1 101 x1.toNatClampNeg) = 0 then (P 0 D6) else (pu_h230_49 X x1 x2 0 0 D6 P)))) else (pu_I X 149 [.ref 85, .int (-1)] D (fun y11 D12 => P y11 D12)))) :
    pu_I X 230 [.ref 85, .int x1, .int x2] D P := by
  refine pu_ent (E := [.ref 85, .int x1, .int x2, .null, .null, .null]) pu_n230.1 pu_n230.2 pu_t230_0 rfl ?_
  refine pu_iload_n rfl ?_
  refine pu_lt0 pu_t230_12 (fun h1 => ?_) (fun h1 => ?_)
  · replace H := pu_t h1 H
    refine pu_aload_n rfl ?_
    refine pu_iconst ?_
    refine pu_cv (vs := [.int (-1)]) (rest := []) pu_g149 ⟨pu_c85, by decide⟩ rfl rfl rfl rfl rfl (pu_CI (pu_I_imp H (fun y2 D3 H => ?_)))
    exact pu_iretI pu_rt230 H
  · replace H := pu_f h1 H
    refine pu_iload_n rfl ?_
    refine pu_aload_n rfl ?_
    refine pu_getI pu_k8_5 pu_c85 ?_
    refine pu_lt_ pu_t230_18 (fun h4 => ?_) (fun h4 => ?_)
    · replace H := pu_t h4 H
      refine pu_aload_n rfl ?_
      refine pu_iload_n rfl ?_
      refine pu_cv (vs := [.int x2]) (rest := []) pu_g156 ⟨pu_c85, by decide⟩ rfl rfl rfl rfl rfl (pu_CI (pu_I_imp H (fun y5 D6 H => ?_)))
      refine pu_ne0 pu_t230_33 (fun h7 => ?_) (fun h7 => ?_)
      · replace H := pu_f h7 H
        refine pu_aload_n rfl ?_
        refine pu_getR pu_kr8_27 pu_c85 pu_r85_27 ?_
        refine pu_iload_n rfl ?_
        refine pu_ial pu_c101 pu_ln101 H.1 ?_
        replace H := H.2
        refine pu_ne0 pu_t230_44 (fun h8 => ?_) (fun h8 => ?_)
        · replace H := pu_f h8 H
          refine pu_iconst ?_
          refine pu_istore_n (L' := [.ref 85, .int x1, .int x2, .int 0, .null, .null]) (Or.inr rfl) rfl ?_
          refine pu_iconst ?_
          refine pu_istore (L' := [.ref 85, .int x1, .int x2, .int 0, .int 0, .null]) (Or.inr rfl) rfl ?_
          exact H _ rfl
        · replace H := pu_t h8 H
          refine pu_iconst ?_
          exact pu_iretI pu_rt230 H
      · replace H := pu_t h7 H
        refine pu_aload_n rfl ?_
        refine pu_bipush ?_
        refine pu_cv (vs := [.int (-6)]) (rest := []) pu_g149 ⟨pu_c85, by decide⟩ rfl rfl rfl rfl rfl (pu_CI (pu_I_imp H (fun y9 D10 H => ?_)))
        exact pu_iretI pu_rt230 H
    · replace H := pu_f h4 H
      refine pu_aload_n rfl ?_
      refine pu_iconst ?_
      refine pu_cv (vs := [.int (-1)]) (rest := []) pu_g149 ⟨pu_c85, by decide⟩ rfl rfl rfl rfl rfl (pu_CI (pu_I_imp H (fun y11 D12 H => ?_)))
      exact pu_iretI pu_rt230 H
/-- LightAlongModel.dim(I)I -/
def pu_h231_20 (X : px_X) (x1 : Int32) (x2 : Int32) (x3 : Int32) (D : pu_D) (P : Int32 → pu_D → Prop) : Prop := pu_W X 231 (0, 0) px_c231_20 [.ref 85, .int x1, .int x2, .int x3] [] D (pu_qi P)
theorem pu_u231_20 {X : px_X} {x1 : Int32} {x2 : Int32} {x3 : Int32} {D : pu_D} {P : Int32 → pu_D → Prop} 
    (H : if x3 < 0 then (P x2 D) else (pu_V X 212 [.ref 85, .int 4, .int 0, .int 0, .int x1, .int x3] D (fun D8 => pu_I X 211 [.ref 85] D8 (fun y9 D10 => if y9 = 0 then (pu_h231_20 X x1 x3 (x3 + (-1)) D10 P) else (P x2 D10))))) :
    pu_h231_20 X x1 x2 x3 D P := by
  refine pu_iload_n rfl ?_
  refine pu_lt0 pu_t231_50 (fun h6 => ?_) (fun h6 => ?_)
  · replace H := pu_t h6 H
    refine pu_iload_n rfl ?_
    exact pu_iretI pu_rt231 H
  · replace H := pu_f h6 H
    refine pu_aload_n rfl ?_
    refine pu_iconst ?_
    refine pu_iconst ?_
    refine pu_iconst ?_
    refine pu_iload_n rfl ?_
    refine pu_iload_n rfl ?_
    refine pu_cv (vs := [.int 4, .int 0, .int 0, .int x1, .int x3]) (rest := []) pu_g212 ⟨pu_c85, by decide⟩ rfl rfl rfl rfl rfl (pu_CV (pu_V_imp H (fun D8 H => ?_)))
    refine pu_aload_n rfl ?_
    refine pu_cv (vs := []) (rest := []) pu_g211 ⟨pu_c85, by decide⟩ rfl rfl rfl rfl rfl (pu_CI (pu_I_imp H (fun y9 D10 H => ?_)))
    refine pu_eq0 pu_t231_42 (fun h11 => ?_) (fun h11 => ?_)
    · replace H := pu_t h11 H
      refine pu_iload_n rfl ?_
      refine pu_istore_n (L' := [.ref 85, .int x1, .int x3, .int x3]) (Or.inr rfl) rfl ?_
      refine pu_iinc (L' := [.ref 85, .int x1, .int x3, .int (x3 + (-1))]) rfl (Or.inr rfl) rfl ?_
      refine pu_goto pu_t231_20 ?_
      exact H 
    · replace H := pu_f h11 H
      refine pu_iload_n rfl ?_
      exact pu_iretI pu_rt231 H
theorem pu_e231 {X : px_X} {x1 : Int32} {D : pu_D} {P : Int32 → pu_D → Prop} 
    (H : pu_I X 156 [.ref 85, .int x1] D (fun y1 D2 => if y1 = 0 then (pu_I X 150 [.ref 85, .int (-6)] D2 (fun y4 D5 => P y4 D5)) else (pu_h231_20 X x1 (-1) 11 D2 P))) :
    pu_I X 231 [.ref 85, .int x1] D P := by
  refine pu_ent (E := [.ref 85, .int x1, .null, .null]) pu_n231.1 pu_n231.2 pu_t231_0 rfl ?_
  refine pu_aload_n rfl ?_
  refine pu_iload_n rfl ?_
  refine pu_cv (vs := [.int x1]) (rest := []) pu_g156 ⟨pu_c85, by decide⟩ rfl rfl rfl rfl rfl (pu_CI (pu_I_imp H (fun y1 D2 H => ?_)))
  refine pu_ne0 pu_t231_15 (fun h3 => ?_) (fun h3 => ?_)
  · replace H := pu_f h3 H
    refine pu_iconst ?_
    refine pu_istore_n (L' := [.ref 85, .int x1, .int (-1), .null]) (Or.inr rfl) rfl ?_
    refine pu_bipush ?_
    refine pu_istore_n (L' := [.ref 85, .int x1, .int (-1), .int 11]) (Or.inr rfl) rfl ?_
    exact H 
  · replace H := pu_t h3 H
    refine pu_aload_n rfl ?_
    refine pu_bipush ?_
    refine pu_cv (vs := [.int (-6)]) (rest := []) pu_g150 ⟨pu_c85, by decide⟩ rfl rfl rfl rfl rfl (pu_CI (pu_I_imp H (fun y4 D5 H => ?_)))
    exact pu_iretI pu_rt231 H
/-- LightAlongModel.bulbs(IZ)I -/
def pu_h232_30 (X : px_X) (x1 : Int32) (x2 : Int32) (x3 : Int32) (x4 : Int32) (x5 : Int32) (x6 : Int32) (D : pu_D) (P : Int32 → pu_D → Prop) : Prop := ∀ z7 : Value, z7.category = 1 → pu_W X 232 (0, 0) px_c232_30 [.ref 85, .int x1, .int x2, .int x3, .int x4, .int x5, .int x6, z7] [] D (pu_qi P)
theorem pu_u232_30 {X : px_X} {x1 : Int32} {x2 : Int32} {x3 : Int32} {x4 : Int32} {x5 : Int32} {x6 : Int32} {D : pu_D} {P : Int32 → pu_D → Prop} 
    (H : if x6 < (D.1 85 1) then ((px_in x6 9 = true) ∧ if (D.1 93 x6.toNatClampNeg) = (-1) then (pu_h232_30 X x1 x2 x3 x4 x5 (x6 + 1) D P) else ((px_in x6 9 = true) ∧ (px_in (D.1 93 x6.toNatClampNeg) 6 = true) ∧ (¬ (D.1 90 (D.1 93 x6.toNatClampNeg).toNatClampNeg) = 0) ∧ (px_in x6 9 = true) ∧ (px_in (D.1 93 x6.toNatClampNeg) 6 = true) ∧ (px_in x6 9 = true) ∧ (px_in (D.1 93 x6.toNatClampNeg) 6 = true) ∧ if x4 = (-1) then (pu_h232_30 X x1 x2 (x3 + ((x1 / (D.1 90 (D.1 93 x6.toNatClampNeg).toNatClampNeg)) * ((D.1 89 (D.1 93 x6.toNatClampNeg).toNatClampNeg) + 30))) (D.1 90 (D.1 93 x6.toNatClampNeg).toNatClampNeg) (x5 + (D.1 89 (D.1 93 x6.toNatClampNeg).toNatClampNeg)) (x6 + 1) D P) else (if (D.1 90 (D.1 93 x6.toNatClampNeg).toNatClampNeg) < x4 then (pu_h232_30 X x1 x2 (x3 + ((x1 / (D.1 90 (D.1 93 x6.toNatClampNeg).toNatClampNeg)) * ((D.1 89 (D.1 93 x6.toNatClampNeg).toNatClampNeg) + 30))) (D.1 90 (D.1 93 x6.toNatClampNeg).toNatClampNeg) (x5 + (D.1 89 (D.1 93 x6.toNatClampNeg).toNatClampNeg)) (x6 + 1) D P) else (pu_h232_30 X x1 x2 (x3 + ((x1 / (D.1 90 (D.1 93 x6.toNatClampNeg).toNatClampNeg)) * ((D.1 89 (D.1 93 x6.toNatClampNeg).toNatClampNeg) + 30))) x4 (x5 + (D.1 89 (D.1 93 x6.toNatClampNeg).toNatClampNeg)) (x6 + 1) D P)))) else (if x2 = 0 then (P x3 D) else (if x4 = (-1) then (P 0 D) else ((¬ x4 = 0) ∧ P ((x1 / x4) * (x5 + 50)) D)))) :
    pu_h232_30 X x1 x2 x3 x4 x5 x6 D P := by
  intro z7 hz7
  refine pu_iload rfl ?_
  refine pu_aload_n rfl ?_
  refine pu_getI pu_k8_1 pu_c85 ?_
  refine pu_ge_ pu_t232_135 (fun h7 => ?_) (fun h7 => ?_)
  · replace H := pu_f h7 H
    refine pu_iload_n rfl ?_
    refine pu_ne0 pu_t232_141 (fun h8 => ?_) (fun h8 => ?_)
    · replace H := pu_f h8 H
      refine pu_iload rfl ?_
      refine pu_iconst ?_
      refine pu_ne_ pu_t232_151 (fun h9 => ?_) (fun h9 => ?_)
      · replace H := pu_f h9 H
        refine pu_iload_n rfl ?_
        refine pu_iload rfl ?_
        refine pu_idiv H.1 ?_
        replace H := H.2
        refine pu_iload rfl ?_
        refine pu_bipush ?_
        refine pu_iadd ?_
        refine pu_imul ?_
        exact pu_iretI pu_rt232 H
      · replace H := pu_t h9 H
        refine pu_iconst ?_
        refine pu_goto pu_t232_161 ?_
        exact pu_iretI pu_rt232 H
    · replace H := pu_t h8 H
      refine pu_iload_n rfl ?_
      exact pu_iretI pu_rt232 H
  · replace H := pu_t h7 H
    refine pu_aload_n rfl ?_
    refine pu_getR pu_kr8_19 pu_c85 pu_r85_19 ?_
    refine pu_iload rfl ?_
    refine pu_ial pu_c93 pu_ln93 H.1 ?_
    replace H := H.2
    refine pu_iconst ?_
    refine pu_ne_ pu_t232_53 (fun h10 => ?_) (fun h10 => ?_)
    · replace H := pu_f h10 H
      refine pu_aload_n rfl ?_
      refine pu_getR pu_kr8_16 pu_c85 pu_r85_16 ?_
      refine pu_aload_n rfl ?_
      refine pu_getR pu_kr8_19 pu_c85 pu_r85_19 ?_
      refine pu_iload rfl ?_
      refine pu_ial pu_c93 pu_ln93 H.1 ?_
      replace H := H.2
      refine pu_ial pu_c90 pu_ln90 H.1 ?_
      replace H := H.2
      refine pu_istore (L' := [.ref 85, .int x1, .int x2, .int x3, .int x4, .int x5, .int x6, .int (D.1 90 (D.1 93 x6.toNatClampNeg).toNatClampNeg)]) (Or.inr rfl) rfl ?_
      refine pu_iload_n rfl ?_
      refine pu_iload_n rfl ?_
      refine pu_iload rfl ?_
      refine pu_idiv H.1 ?_
      replace H := H.2
      refine pu_aload_n rfl ?_
      refine pu_getR pu_kr8_15 pu_c85 pu_r85_15 ?_
      refine pu_aload_n rfl ?_
      refine pu_getR pu_kr8_19 pu_c85 pu_r85_19 ?_
      refine pu_iload rfl ?_
      refine pu_ial pu_c93 pu_ln93 H.1 ?_
      replace H := H.2
      refine pu_ial pu_c89 pu_ln89 H.1 ?_
      replace H := H.2
      refine pu_bipush ?_
      refine pu_iadd ?_
      refine pu_imul ?_
      refine pu_iadd ?_
      refine pu_istore_n (L' := [.ref 85, .int x1, .int x2, .int (x3 + ((x1 / (D.1 90 (D.1 93 x6.toNatClampNeg).toNatClampNeg)) * ((D.1 89 (D.1 93 x6.toNatClampNeg).toNatClampNeg) + 30))), .int x4, .int x5, .int x6, .int (D.1 90 (D.1 93 x6.toNatClampNeg).toNatClampNeg)]) (Or.inr rfl) rfl ?_
      refine pu_iload rfl ?_
      refine pu_aload_n rfl ?_
      refine pu_getR pu_kr8_15 pu_c85 pu_r85_15 ?_
      refine pu_aload_n rfl ?_
      refine pu_getR pu_kr8_19 pu_c85 pu_r85_19 ?_
      refine pu_iload rfl ?_
      refine pu_ial pu_c93 pu_ln93 H.1 ?_
      replace H := H.2
      refine pu_ial pu_c89 pu_ln89 H.1 ?_
      replace H := H.2
      refine pu_iadd ?_
      refine pu_istore (L' := [.ref 85, .int x1, .int x2, .int (x3 + ((x1 / (D.1 90 (D.1 93 x6.toNatClampNeg).toNatClampNeg)) * ((D.1 89 (D.1 93 x6.toNatClampNeg).toNatClampNeg) + 30))), .int x4, .int (x5 + (D.1 89 (D.1 93 x6.toNatClampNeg).toNatClampNeg)), .int x6, .int (D.1 90 (D.1 93 x6.toNatClampNeg).toNatClampNeg)]) (Or.inr rfl) rfl ?_
      refine pu_iload rfl ?_
      refine pu_iconst ?_
      refine pu_eq_ pu_t232_120 (fun h11 => ?_) (fun h11 => ?_)
      · replace H := pu_t h11 H
        refine pu_iload rfl ?_
        refine pu_goto pu_t232_127 ?_
        refine pu_istore (L' := [.ref 85, .int x1, .int x2, .int (x3 + ((x1 / (D.1 90 (D.1 93 x6.toNatClampNeg).toNatClampNeg)) * ((D.1 89 (D.1 93 x6.toNatClampNeg).toNatClampNeg) + 30))), .int (D.1 90 (D.1 93 x6.toNatClampNeg).toNatClampNeg), .int (x5 + (D.1 89 (D.1 93 x6.toNatClampNeg).toNatClampNeg)), .int x6, .int (D.1 90 (D.1 93 x6.toNatClampNeg).toNatClampNeg)]) (Or.inr rfl) rfl ?_
        refine pu_iinc (L' := [.ref 85, .int x1, .int x2, .int (x3 + ((x1 / (D.1 90 (D.1 93 x6.toNatClampNeg).toNatClampNeg)) * ((D.1 89 (D.1 93 x6.toNatClampNeg).toNatClampNeg) + 30))), .int (D.1 90 (D.1 93 x6.toNatClampNeg).toNatClampNeg), .int (x5 + (D.1 89 (D.1 93 x6.toNatClampNeg).toNatClampNeg)), .int (x6 + 1), .int (D.1 90 (D.1 93 x6.toNatClampNeg).toNatClampNeg)]) rfl (Or.inr rfl) rfl ?_
        refine pu_goto pu_t232_30 ?_
        exact H _ rfl
      · replace H := pu_f h11 H
        refine pu_iload rfl ?_
        refine pu_iload rfl ?_
        refine pu_ge_ pu_t232_125 (fun h12 => ?_) (fun h12 => ?_)
        · replace H := pu_f h12 H
          refine pu_iload rfl ?_
          refine pu_istore (L' := [.ref 85, .int x1, .int x2, .int (x3 + ((x1 / (D.1 90 (D.1 93 x6.toNatClampNeg).toNatClampNeg)) * ((D.1 89 (D.1 93 x6.toNatClampNeg).toNatClampNeg) + 30))), .int x4, .int (x5 + (D.1 89 (D.1 93 x6.toNatClampNeg).toNatClampNeg)), .int x6, .int (D.1 90 (D.1 93 x6.toNatClampNeg).toNatClampNeg)]) (Or.inr rfl) rfl ?_
          refine pu_iinc (L' := [.ref 85, .int x1, .int x2, .int (x3 + ((x1 / (D.1 90 (D.1 93 x6.toNatClampNeg).toNatClampNeg)) * ((D.1 89 (D.1 93 x6.toNatClampNeg).toNatClampNeg) + 30))), .int x4, .int (x5 + (D.1 89 (D.1 93 x6.toNatClampNeg).toNatClampNeg)), .int (x6 + 1), .int (D.1 90 (D.1 93 x6.toNatClampNeg).toNatClampNeg)]) rfl (Or.inr rfl) rfl ?_
          refine pu_goto pu_t232_30 ?_
          exact H _ rfl
        · replace H := pu_t h12 H
          refine pu_iload rfl ?_
          refine pu_goto pu_t232_127 ?_
          refine pu_istore (L' := [.ref 85, .int x1, .int x2, .int (x3 + ((x1 / (D.1 90 (D.1 93 x6.toNatClampNeg).toNatClampNeg)) * ((D.1 89 (D.1 93 x6.toNatClampNeg).toNatClampNeg) + 30))), .int (D.1 90 (D.1 93 x6.toNatClampNeg).toNatClampNeg), .int (x5 + (D.1 89 (D.1 93 x6.toNatClampNeg).toNatClampNeg)), .int x6, .int (D.1 90 (D.1 93 x6.toNatClampNeg).toNatClampNeg)]) (Or.inr rfl) rfl ?_
          refine pu_iinc (L' := [.ref 85, .int x1, .int x2, .int (x3 + ((x1 / (D.1 90 (D.1 93 x6.toNatClampNeg).toNatClampNeg)) * ((D.1 89 (D.1 93 x6.toNatClampNeg).toNatClampNeg) + 30))), .int (D.1 90 (D.1 93 x6.toNatClampNeg).toNatClampNeg), .int (x5 + (D.1 89 (D.1 93 x6.toNatClampNeg).toNatClampNeg)), .int (x6 + 1), .int (D.1 90 (D.1 93 x6.toNatClampNeg).toNatClampNeg)]) rfl (Or.inr rfl) rfl ?_
          refine pu_goto pu_t232_30 ?_
          exact H _ rfl
    · replace H := pu_t h10 H
      refine pu_goto pu_t232_129 ?_
      refine pu_iinc (L' := [.ref 85, .int x1, .int x2, .int x3, .int x4, .int x5, .int (x6 + 1), z7]) rfl (Or.inr rfl) rfl ?_
      refine pu_goto pu_t232_30 ?_
      exact H _ hz7
theorem pu_e232 {X : px_X} {x1 : Int32} {x2 : Int32} {D : pu_D} {P : Int32 → pu_D → Prop} 
    (H : if x1 < 1 then (pu_I X 149 [.ref 85, .int (-6)] D (fun y2 D3 => P y2 D3)) else (if 240 < x1 then (pu_I X 149 [.ref 85, .int (-6)] D (fun y5 D6 => P y5 D6)) else (pu_h232_30 X x1 x2 0 (-1) 0 0 D P))) :
    pu_I X 232 [.ref 85, .int x1, .int x2] D P := by
  refine pu_ent (E := [.ref 85, .int x1, .int x2, .null, .null, .null, .null, .null]) pu_n232.1 pu_n232.2 pu_t232_0 rfl ?_
  refine pu_iload_n rfl ?_
  refine pu_iconst ?_
  refine pu_lt_ pu_t232_12 (fun h1 => ?_) (fun h1 => ?_)
  · replace H := pu_t h1 H
    refine pu_aload_n rfl ?_
    refine pu_bipush ?_
    refine pu_cv (vs := [.int (-6)]) (rest := []) pu_g149 ⟨pu_c85, by decide⟩ rfl rfl rfl rfl rfl (pu_CI (pu_I_imp H (fun y2 D3 H => ?_)))
    exact pu_iretI pu_rt232 H
  · replace H := pu_f h1 H
    refine pu_iload_n rfl ?_
    refine pu_sipush ?_
    refine pu_le_ pu_t232_19 (fun h4 => ?_) (fun h4 => ?_)
    · replace H := pu_f h4 H
      refine pu_iconst ?_
      refine pu_istore_n (L' := [.ref 85, .int x1, .int x2, .int 0, .null, .null, .null, .null]) (Or.inr rfl) rfl ?_
      refine pu_iconst ?_
      refine pu_istore (L' := [.ref 85, .int x1, .int x2, .int 0, .int (-1), .null, .null, .null]) (Or.inr rfl) rfl ?_
      refine pu_iconst ?_
      refine pu_istore (L' := [.ref 85, .int x1, .int x2, .int 0, .int (-1), .int 0, .null, .null]) (Or.inr rfl) rfl ?_
      refine pu_iconst ?_
      refine pu_istore (L' := [.ref 85, .int x1, .int x2, .int 0, .int (-1), .int 0, .int 0, .null]) (Or.inr rfl) rfl ?_
      exact H _ rfl
    · replace H := pu_t h4 H
      refine pu_aload_n rfl ?_
      refine pu_bipush ?_
      refine pu_cv (vs := [.int (-6)]) (rest := []) pu_g149 ⟨pu_c85, by decide⟩ rfl rfl rfl rfl rfl (pu_CI (pu_I_imp H (fun y5 D6 H => ?_)))
      exact pu_iretI pu_rt232 H
/-- LightAlongModel.moved(II)I -/
def pu_h233_27 (X : px_X) (x1 : Int32) (x2 : Int32) (x3 : Int32) (x4 : Int32) (D : pu_D) (P : Int32 → pu_D → Prop) : Prop := pu_W X 233 (0, 0) px_c233_27 [.ref 85, .int x1, .int x2, .int x3, .int x4] [] D (pu_qi P)
theorem pu_u233_27 {X : px_X} {x1 : Int32} {x2 : Int32} {x3 : Int32} {x4 : Int32} {D : pu_D} {P : Int32 → pu_D → Prop} 
    (H : if x4 < (D.1 85 1) then ((px_in x4 9 = true) ∧ if ((x1 >>> (x4 &&& 31)) &&& 1) = 1 then (if (D.1 93 x4.toNatClampNeg) = x2 then (pu_h233_27 X x1 x2 x3 (x4 + 1) D P) else (pu_h233_27 X x1 x2 (x3 + 1) (x4 + 1) D P)) else (if (D.1 93 x4.toNatClampNeg) = (-1) then (pu_h233_27 X x1 x2 x3 (x4 + 1) D P) else (pu_h233_27 X x1 x2 (x3 + 1) (x4 + 1) D P))) else (P x3 D)) :
    pu_h233_27 X x1 x2 x3 x4 D P := by
  refine pu_iload rfl ?_
  refine pu_aload_n rfl ?_
  refine pu_getI pu_k8_1 pu_c85 ?_
  refine pu_ge_ pu_t233_70 (fun h11 => ?_) (fun h11 => ?_)
  · replace H := pu_f h11 H
    refine pu_iload_n rfl ?_
    exact pu_iretI pu_rt233 H
  · replace H := pu_t h11 H
    refine pu_aload_n rfl ?_
    refine pu_getR pu_kr8_19 pu_c85 pu_r85_19 ?_
    refine pu_iload rfl ?_
    refine pu_ial pu_c93 pu_ln93 H.1 ?_
    replace H := H.2
    refine pu_iload_n rfl ?_
    refine pu_iload rfl ?_
    refine pu_ishr ?_
    refine pu_iconst ?_
    refine pu_iand ?_
    refine pu_iconst ?_
    refine pu_ne_ pu_t233_57 (fun h12 => ?_) (fun h12 => ?_)
    · replace H := pu_f h12 H
      refine pu_iconst ?_
      refine pu_eq_ pu_t233_64 (fun h13 => ?_) (fun h13 => ?_)
      · replace H := pu_t h13 H
        refine pu_iinc (L' := [.ref 85, .int x1, .int x2, .int x3, .int (x4 + 1)]) rfl (Or.inr rfl) rfl ?_
        refine pu_goto pu_t233_27 ?_
        exact H 
      · replace H := pu_f h13 H
        refine pu_iinc (L' := [.ref 85, .int x1, .int x2, .int (x3 + 1), .int x4]) rfl (Or.inr rfl) rfl ?_
        refine pu_iinc (L' := [.ref 85, .int x1, .int x2, .int (x3 + 1), .int (x4 + 1)]) rfl (Or.inr rfl) rfl ?_
        refine pu_goto pu_t233_27 ?_
        exact H 
    · replace H := pu_t h12 H
      refine pu_iload_n rfl ?_
      refine pu_goto pu_t233_58 ?_
      refine pu_eq_ pu_t233_64 (fun h14 => ?_) (fun h14 => ?_)
      · replace H := pu_t h14 H
        refine pu_iinc (L' := [.ref 85, .int x1, .int x2, .int x3, .int (x4 + 1)]) rfl (Or.inr rfl) rfl ?_
        refine pu_goto pu_t233_27 ?_
        exact H 
      · replace H := pu_f h14 H
        refine pu_iinc (L' := [.ref 85, .int x1, .int x2, .int (x3 + 1), .int x4]) rfl (Or.inr rfl) rfl ?_
        refine pu_iinc (L' := [.ref 85, .int x1, .int x2, .int (x3 + 1), .int (x4 + 1)]) rfl (Or.inr rfl) rfl ?_
        refine pu_goto pu_t233_27 ?_
        exact H 
theorem pu_e233 {X : px_X} {x1 : Int32} {x2 : Int32} {D : pu_D} {P : Int32 → pu_D → Prop} 
    (H : pu_I X 153 [.ref 85, .int x2] D (fun y1 D2 => if y1 = 0 then (pu_I X 149 [.ref 85, .int (-1)] D2 (fun y4 D5 => P y4 D5)) else (pu_I X 155 [.ref 85, .int x1] D2 (fun y6 D7 => if y6 = 0 then (pu_I X 149 [.ref 85, .int (-1)] D7 (fun y9 D10 => P y9 D10)) else (pu_h233_27 X x1 x2 0 0 D7 P))))) :
    pu_I X 233 [.ref 85, .int x1, .int x2] D P := by
  refine pu_ent (E := [.ref 85, .int x1, .int x2, .null, .null]) pu_n233.1 pu_n233.2 pu_t233_0 rfl ?_
  refine pu_aload_n rfl ?_
  refine pu_iload_n rfl ?_
  refine pu_cv (vs := [.int x2]) (rest := []) pu_g153 ⟨pu_c85, by decide⟩ rfl rfl rfl rfl rfl (pu_CI (pu_I_imp H (fun y1 D2 H => ?_)))
  refine pu_eq0 pu_t233_16 (fun h3 => ?_) (fun h3 => ?_)
  · replace H := pu_t h3 H
    refine pu_aload_n rfl ?_
    refine pu_iconst ?_
    refine pu_cv (vs := [.int (-1)]) (rest := []) pu_g149 ⟨pu_c85, by decide⟩ rfl rfl rfl rfl rfl (pu_CI (pu_I_imp H (fun y4 D5 H => ?_)))
    exact pu_iretI pu_rt233 H
  · replace H := pu_f h3 H
    refine pu_aload_n rfl ?_
    refine pu_iload_n rfl ?_
    refine pu_cv (vs := [.int x1]) (rest := []) pu_g155 ⟨pu_c85, by decide⟩ rfl rfl rfl rfl rfl (pu_CI (pu_I_imp H (fun y6 D7 H => ?_)))
    refine pu_ne0 pu_t233_22 (fun h8 => ?_) (fun h8 => ?_)
    · replace H := pu_f h8 H
      refine pu_iconst ?_
      refine pu_istore_n (L' := [.ref 85, .int x1, .int x2, .int 0, .null]) (Or.inr rfl) rfl ?_
      refine pu_iconst ?_
      refine pu_istore (L' := [.ref 85, .int x1, .int x2, .int 0, .int 0]) (Or.inr rfl) rfl ?_
      exact H 
    · replace H := pu_t h8 H
      refine pu_aload_n rfl ?_
      refine pu_iconst ?_
      refine pu_cv (vs := [.int (-1)]) (rest := []) pu_g149 ⟨pu_c85, by decide⟩ rfl rfl rfl rfl rfl (pu_CI (pu_I_imp H (fun y9 D10 H => ?_)))
      exact pu_iretI pu_rt233 H
/-- LightAlongModel.lay(II)I -/
def pu_h234_24 (X : px_X) (x1 : Int32) (x2 : Int32) (x3 : Int32) (D : pu_D) (P : Int32 → pu_D → Prop) : Prop := pu_W X 234 (0, 0) px_c234_24 [.ref 85, .int x1, .int x2, .int x3] [] D (pu_qi P)
theorem pu_u234_24 {X : px_X} {x1 : Int32} {x2 : Int32} {x3 : Int32} {D : pu_D} {P : Int32 → pu_D → Prop} 
    (H : if x3 < (D.1 85 1) then (if ((x1 >>> (x3 &&& 31)) &&& 1) = 1 then ((px_in x3 9 = true) ∧ (px_in x3 9 = true) ∧ pu_h234_24 X x1 x2 (x3 + 1) (pu_wi (pu_wi D 93 x3.toNatClampNeg x2) 94 x3.toNatClampNeg 0) P) else ((px_in x3 9 = true) ∧ (px_in x3 9 = true) ∧ pu_h234_24 X x1 x2 (x3 + 1) (pu_wi (pu_wi D 93 x3.toNatClampNeg (-1)) 94 x3.toNatClampNeg 0) P)) else (pu_I X 215 [.ref 85, .int x1, .int x2] D (fun y12 D13 => P y12 D13))) :
    pu_h234_24 X x1 x2 x3 D P := by
  refine pu_iload_n rfl ?_
  refine pu_aload_n rfl ?_
  refine pu_getI pu_k8_1 pu_c85 ?_
  refine pu_ge_ pu_t234_65 (fun h11 => ?_) (fun h11 => ?_)
  · replace H := pu_f h11 H
    refine pu_aload_n rfl ?_
    refine pu_iload_n rfl ?_
    refine pu_iload_n rfl ?_
    refine pu_cv (vs := [.int x1, .int x2]) (rest := []) pu_g215 ⟨pu_c85, by decide⟩ rfl rfl rfl rfl rfl (pu_CI (pu_I_imp H (fun y12 D13 H => ?_)))
    exact pu_iretI pu_rt234 H
  · replace H := pu_t h11 H
    refine pu_aload_n rfl ?_
    refine pu_getR pu_kr8_19 pu_c85 pu_r85_19 ?_
    refine pu_iload_n rfl ?_
    refine pu_iload_n rfl ?_
    refine pu_iload_n rfl ?_
    refine pu_ishr ?_
    refine pu_iconst ?_
    refine pu_iand ?_
    refine pu_iconst ?_
    refine pu_ne_ pu_t234_50 (fun h14 => ?_) (fun h14 => ?_)
    · replace H := pu_f h14 H
      refine pu_iconst ?_
      refine pu_ias pu_c93 pu_ln93 H.1 ?_
      replace H := H.2
      refine pu_aload_n rfl ?_
      refine pu_getR pu_kr8_20 pu_c85 pu_r85_20 ?_
      refine pu_iload_n rfl ?_
      refine pu_iconst ?_
      refine pu_ias pu_c94 pu_ln94 H.1 ?_
      replace H := H.2
      refine pu_iinc (L' := [.ref 85, .int x1, .int x2, .int (x3 + 1)]) rfl (Or.inr rfl) rfl ?_
      refine pu_goto pu_t234_24 ?_
      exact H 
    · replace H := pu_t h14 H
      refine pu_iload_n rfl ?_
      refine pu_goto pu_t234_51 ?_
      refine pu_ias pu_c93 pu_ln93 H.1 ?_
      replace H := H.2
      refine pu_aload_n rfl ?_
      refine pu_getR pu_kr8_20 pu_c85 pu_r85_20 ?_
      refine pu_iload_n rfl ?_
      refine pu_iconst ?_
      refine pu_ias pu_c94 pu_ln94 H.1 ?_
      replace H := H.2
      refine pu_iinc (L' := [.ref 85, .int x1, .int x2, .int (x3 + 1)]) rfl (Or.inr rfl) rfl ?_
      refine pu_goto pu_t234_24 ?_
      exact H 
theorem pu_e234 {X : px_X} {x1 : Int32} {x2 : Int32} {D : pu_D} {P : Int32 → pu_D → Prop} 
    (H : pu_I X 153 [.ref 85, .int x2] D (fun y1 D2 => if y1 = 0 then (pu_I X 149 [.ref 85, .int (-1)] D2 (fun y4 D5 => P y4 D5)) else (pu_I X 155 [.ref 85, .int x1] D2 (fun y6 D7 => if y6 = 0 then (pu_I X 149 [.ref 85, .int (-1)] D7 (fun y9 D10 => P y9 D10)) else (pu_h234_24 X x1 x2 0 D7 P))))) :
    pu_I X 234 [.ref 85, .int x1, .int x2] D P := by
  refine pu_ent (E := [.ref 85, .int x1, .int x2, .null]) pu_n234.1 pu_n234.2 pu_t234_0 rfl ?_
  refine pu_aload_n rfl ?_
  refine pu_iload_n rfl ?_
  refine pu_cv (vs := [.int x2]) (rest := []) pu_g153 ⟨pu_c85, by decide⟩ rfl rfl rfl rfl rfl (pu_CI (pu_I_imp H (fun y1 D2 H => ?_)))
  refine pu_eq0 pu_t234_16 (fun h3 => ?_) (fun h3 => ?_)
  · replace H := pu_t h3 H
    refine pu_aload_n rfl ?_
    refine pu_iconst ?_
    refine pu_cv (vs := [.int (-1)]) (rest := []) pu_g149 ⟨pu_c85, by decide⟩ rfl rfl rfl rfl rfl (pu_CI (pu_I_imp H (fun y4 D5 H => ?_)))
    exact pu_iretI pu_rt234 H
  · replace H := pu_f h3 H
    refine pu_aload_n rfl ?_
    refine pu_iload_n rfl ?_
    refine pu_cv (vs := [.int x1]) (rest := []) pu_g155 ⟨pu_c85, by decide⟩ rfl rfl rfl rfl rfl (pu_CI (pu_I_imp H (fun y6 D7 H => ?_)))
    refine pu_ne0 pu_t234_22 (fun h8 => ?_) (fun h8 => ?_)
    · replace H := pu_f h8 H
      refine pu_iconst ?_
      refine pu_istore_n (L' := [.ref 85, .int x1, .int x2, .int 0]) (Or.inr rfl) rfl ?_
      exact H 
    · replace H := pu_t h8 H
      refine pu_aload_n rfl ?_
      refine pu_iconst ?_
      refine pu_cv (vs := [.int (-1)]) (rest := []) pu_g149 ⟨pu_c85, by decide⟩ rfl rfl rfl rfl rfl (pu_CI (pu_I_imp H (fun y9 D10 H => ?_)))
      exact pu_iretI pu_rt234 H
/-- LightAlongModel.judge(III)I -/
def pu_h235_92 (X : px_X) (x1 : Int32) (x2 : Int32) (x3 : Int32) (x4 : Int32) (D : pu_D) (P : Int32 → pu_D → Prop) : Prop := ∀ z5 : Value, z5.category = 1 → pu_W X 235 (0, 0) px_c235_92 [.ref 85, .int x1, .int x2, .int x3, .int x4, z5] [] D (pu_qi P)
theorem pu_u235_92 {X : px_X} {x1 : Int32} {x2 : Int32} {x3 : Int32} {x4 : Int32} {D : pu_D} {P : Int32 → pu_D → Prop} 
    (H : if x4 < 120 then ((px_in x2 8 = true) ∧ if x4 < (D.1 105 x2.toNatClampNeg) then (pu_I X 167 [.ref 85, .int x2, .int x4] D (fun y33 D34 => pu_I X 207 [.ref 85, .int x1, .int x4, .int x3, .int 0] D34 (fun y35 D36 => if y33 = y35 then (pu_h235_92 X x1 x2 x3 (x4 + 1) D36 P) else (P x4 D36)))) else (pu_I X 207 [.ref 85, .int x1, .int x4, .int x3, .int 0] D (fun y30 D31 => if 0 = y30 then (pu_h235_92 X x1 x2 x3 (x4 + 1) D31 P) else (P x4 D31)))) else (P (-1) D)) :
    pu_h235_92 X x1 x2 x3 x4 D P := by
  intro z5 hz5
  refine pu_iload rfl ?_
  refine pu_bipush ?_
  refine pu_ge_ pu_t235_146 (fun h28 => ?_) (fun h28 => ?_)
  · replace H := pu_f h28 H
    refine pu_iconst ?_
    exact pu_iretI pu_rt235 H
  · replace H := pu_t h28 H
    refine pu_iload rfl ?_
    refine pu_aload_n rfl ?_
    refine pu_getR pu_kr8_31 pu_c85 pu_r85_31 ?_
    refine pu_iload_n rfl ?_
    refine pu_ial pu_c105 pu_ln105 H.1 ?_
    replace H := H.2
    refine pu_ge_ pu_t235_120 (fun h29 => ?_) (fun h29 => ?_)
    · replace H := pu_f h29 H
      refine pu_iconst ?_
      refine pu_istore (L' := [.ref 85, .int x1, .int x2, .int x3, .int x4, .int 0]) (Or.inr rfl) rfl ?_
      refine pu_iload rfl ?_
      refine pu_aload_n rfl ?_
      refine pu_iload_n rfl ?_
      refine pu_iload rfl ?_
      refine pu_iload_n rfl ?_
      refine pu_iconst ?_
      refine pu_cv (vs := [.int x1, .int x4, .int x3, .int 0]) (rest := [.int 0]) pu_g207 ⟨pu_c85, by decide⟩ rfl rfl rfl rfl rfl (pu_CI (pu_I_imp H (fun y30 D31 H => ?_)))
      refine pu_eq_ pu_t235_140 (fun h32 => ?_) (fun h32 => ?_)
      · replace H := pu_t h32 H
        refine pu_iinc (L' := [.ref 85, .int x1, .int x2, .int x3, .int (x4 + 1), .int 0]) rfl (Or.inr rfl) rfl ?_
        refine pu_goto pu_t235_92 ?_
        exact H _ rfl
      · replace H := pu_f h32 H
        refine pu_iload rfl ?_
        exact pu_iretI pu_rt235 H
    · replace H := pu_t h29 H
      refine pu_aload_n rfl ?_
      refine pu_iload_n rfl ?_
      refine pu_iload rfl ?_
      refine pu_cv (vs := [.int x2, .int x4]) (rest := []) pu_g167 ⟨pu_c85, by decide⟩ rfl rfl rfl rfl rfl (pu_CI (pu_I_imp H (fun y33 D34 H => ?_)))
      refine pu_goto pu_t235_121 ?_
      refine pu_istore (L' := [.ref 85, .int x1, .int x2, .int x3, .int x4, .int y33]) (Or.inr rfl) rfl ?_
      refine pu_iload rfl ?_
      refine pu_aload_n rfl ?_
      refine pu_iload_n rfl ?_
      refine pu_iload rfl ?_
      refine pu_iload_n rfl ?_
      refine pu_iconst ?_
      refine pu_cv (vs := [.int x1, .int x4, .int x3, .int 0]) (rest := [.int y33]) pu_g207 ⟨pu_c85, by decide⟩ rfl rfl rfl rfl rfl (pu_CI (pu_I_imp H (fun y35 D36 H => ?_)))
      refine pu_eq_ pu_t235_140 (fun h37 => ?_) (fun h37 => ?_)
      · replace H := pu_t h37 H
        refine pu_iinc (L' := [.ref 85, .int x1, .int x2, .int x3, .int (x4 + 1), .int y33]) rfl (Or.inr rfl) rfl ?_
        refine pu_goto pu_t235_92 ?_
        exact H _ rfl
      · replace H := pu_f h37 H
        refine pu_iload rfl ?_
        exact pu_iretI pu_rt235 H
theorem pu_e235 {X : px_X} {x1 : Int32} {x2 : Int32} {x3 : Int32} {D : pu_D} {P : Int32 → pu_D → Prop} 
    (H : pu_I X 151 [.ref 85, .int x1] D (fun y1 D2 => if y1 = 0 then (pu_I X 150 [.ref 85, .int (-1)] D2 (fun y4 D5 => P y4 D5)) else (pu_I X 151 [.ref 85, .int x2] D2 (fun y6 D7 => if y6 = 0 then (pu_I X 150 [.ref 85, .int (-1)] D7 (fun y26 D27 => P y26 D27)) else ((px_in x1 8 = true) ∧ if (D7.1 103 x1.toNatClampNeg) = 1 then (pu_I X 150 [.ref 85, .int (-2)] D7 (fun y10 D11 => P y10 D11)) else ((px_in x2 8 = true) ∧ if (D7.1 103 x2.toNatClampNeg) = 2 then (pu_I X 150 [.ref 85, .int (-2)] D7 (fun y24 D25 => P y24 D25)) else ((px_in x1 8 = true) ∧ if (D7.1 103 x1.toNatClampNeg) = 0 then (pu_I X 150 [.ref 85, .int (-3)] D7 (fun y14 D15 => P y14 D15)) else ((px_in x2 8 = true) ∧ if (D7.1 103 x2.toNatClampNeg) = 0 then (pu_I X 150 [.ref 85, .int (-3)] D7 (fun y22 D23 => P y22 D23)) else (pu_I X 156 [.ref 85, .int x3] D7 (fun y17 D18 => if y17 = 0 then (pu_I X 150 [.ref 85, .int (-6)] D18 (fun y20 D21 => P y20 D21)) else (pu_h235_92 X x1 x2 x3 0 D18 P))))))))))) :
    pu_I X 235 [.ref 85, .int x1, .int x2, .int x3] D P := by
  refine pu_ent (E := [.ref 85, .int x1, .int x2, .int x3, .null, .null]) pu_n235.1 pu_n235.2 pu_t235_0 rfl ?_
  refine pu_aload_n rfl ?_
  refine pu_iload_n rfl ?_
  refine pu_cv (vs := [.int x1]) (rest := []) pu_g151 ⟨pu_c85, by decide⟩ rfl rfl rfl rfl rfl (pu_CI (pu_I_imp H (fun y1 D2 H => ?_)))
  refine pu_eq0 pu_t235_16 (fun h3 => ?_) (fun h3 => ?_)
  · replace H := pu_t h3 H
    refine pu_aload_n rfl ?_
    refine pu_iconst ?_
    refine pu_cv (vs := [.int (-1)]) (rest := []) pu_g150 ⟨pu_c85, by decide⟩ rfl rfl rfl rfl rfl (pu_CI (pu_I_imp H (fun y4 D5 H => ?_)))
    exact pu_iretI pu_rt235 H
  · replace H := pu_f h3 H
    refine pu_aload_n rfl ?_
    refine pu_iload_n rfl ?_
    refine pu_cv (vs := [.int x2]) (rest := []) pu_g151 ⟨pu_c85, by decide⟩ rfl rfl rfl rfl rfl (pu_CI (pu_I_imp H (fun y6 D7 H => ?_)))
    refine pu_ne0 pu_t235_22 (fun h8 => ?_) (fun h8 => ?_)
    · replace H := pu_f h8 H
      refine pu_aload_n rfl ?_
      refine pu_getR pu_kr8_29 pu_c85 pu_r85_29 ?_
      refine pu_iload_n rfl ?_
      refine pu_ial pu_c103 pu_ln103 H.1 ?_
      replace H := H.2
      refine pu_iconst ?_
      refine pu_eq_ pu_t235_42 (fun h9 => ?_) (fun h9 => ?_)
      · replace H := pu_t h9 H
        refine pu_aload_n rfl ?_
        refine pu_bipush ?_
        refine pu_cv (vs := [.int (-2)]) (rest := []) pu_g150 ⟨pu_c85, by decide⟩ rfl rfl rfl rfl rfl (pu_CI (pu_I_imp H (fun y10 D11 H => ?_)))
        exact pu_iretI pu_rt235 H
      · replace H := pu_f h9 H
        refine pu_aload_n rfl ?_
        refine pu_getR pu_kr8_29 pu_c85 pu_r85_29 ?_
        refine pu_iload_n rfl ?_
        refine pu_ial pu_c103 pu_ln103 H.1 ?_
        replace H := H.2
        refine pu_iconst ?_
        refine pu_ne_ pu_t235_49 (fun h12 => ?_) (fun h12 => ?_)
        · replace H := pu_f h12 H
          refine pu_aload_n rfl ?_
          refine pu_getR pu_kr8_29 pu_c85 pu_r85_29 ?_
          refine pu_iload_n rfl ?_
          refine pu_ial pu_c103 pu_ln103 H.1 ?_
          replace H := H.2
          refine pu_eq0 pu_t235_67 (fun h13 => ?_) (fun h13 => ?_)
          · replace H := pu_t h13 H
            refine pu_aload_n rfl ?_
            refine pu_bipush ?_
            refine pu_cv (vs := [.int (-3)]) (rest := []) pu_g150 ⟨pu_c85, by decide⟩ rfl rfl rfl rfl rfl (pu_CI (pu_I_imp H (fun y14 D15 H => ?_)))
            exact pu_iretI pu_rt235 H
          · replace H := pu_f h13 H
            refine pu_aload_n rfl ?_
            refine pu_getR pu_kr8_29 pu_c85 pu_r85_29 ?_
            refine pu_iload_n rfl ?_
            refine pu_ial pu_c103 pu_ln103 H.1 ?_
            replace H := H.2
            refine pu_ne0 pu_t235_74 (fun h16 => ?_) (fun h16 => ?_)
            · replace H := pu_f h16 H
              refine pu_aload_n rfl ?_
              refine pu_iload_n rfl ?_
              refine pu_cv (vs := [.int x3]) (rest := []) pu_g156 ⟨pu_c85, by decide⟩ rfl rfl rfl rfl rfl (pu_CI (pu_I_imp H (fun y17 D18 H => ?_)))
              refine pu_ne0 pu_t235_89 (fun h19 => ?_) (fun h19 => ?_)
              · replace H := pu_f h19 H
                refine pu_iconst ?_
                refine pu_istore (L' := [.ref 85, .int x1, .int x2, .int x3, .int 0, .null]) (Or.inr rfl) rfl ?_
                exact H _ rfl
              · replace H := pu_t h19 H
                refine pu_aload_n rfl ?_
                refine pu_bipush ?_
                refine pu_cv (vs := [.int (-6)]) (rest := []) pu_g150 ⟨pu_c85, by decide⟩ rfl rfl rfl rfl rfl (pu_CI (pu_I_imp H (fun y20 D21 H => ?_)))
                exact pu_iretI pu_rt235 H
            · replace H := pu_t h16 H
              refine pu_aload_n rfl ?_
              refine pu_bipush ?_
              refine pu_cv (vs := [.int (-3)]) (rest := []) pu_g150 ⟨pu_c85, by decide⟩ rfl rfl rfl rfl rfl (pu_CI (pu_I_imp H (fun y22 D23 H => ?_)))
              exact pu_iretI pu_rt235 H
        · replace H := pu_t h12 H
          refine pu_aload_n rfl ?_
          refine pu_bipush ?_
          refine pu_cv (vs := [.int (-2)]) (rest := []) pu_g150 ⟨pu_c85, by decide⟩ rfl rfl rfl rfl rfl (pu_CI (pu_I_imp H (fun y24 D25 H => ?_)))
          exact pu_iretI pu_rt235 H
    · replace H := pu_t h8 H
      refine pu_aload_n rfl ?_
      refine pu_iconst ?_
      refine pu_cv (vs := [.int (-1)]) (rest := []) pu_g150 ⟨pu_c85, by decide⟩ rfl rfl rfl rfl rfl (pu_CI (pu_I_imp H (fun y26 D27 H => ?_)))
      exact pu_iretI pu_rt235 H
/-- LightAlongModel.body(I)V -/
theorem pu_e236 {X : px_X} {x1 : Int32} {D : pu_D} {P : pu_D → Prop} 
    (H : if (D.1 85 49) < 20 then ((px_in (D.1 85 49) 20 = true) ∧ P (pu_wi (pu_wi D 116 (D.1 85 49).toNatClampNeg x1) 85 49 (((pu_wi D 116 (D.1 85 49).toNatClampNeg x1).1 85 49) + 1))) else (P (pu_wi D 85 49 ((D.1 85 49) + 1)))) :
    pu_V X 236 [.ref 85, .int x1] D P := by
  refine pu_ent (E := [.ref 85, .int x1]) pu_n236.1 pu_n236.2 pu_t236_0 rfl ?_
  refine pu_aload_n rfl ?_
  refine pu_getI pu_k8_49 pu_c85 ?_
  refine pu_bipush ?_
  refine pu_ge_ pu_t236_19 (fun h1 => ?_) (fun h1 => ?_)
  · replace H := pu_f h1 H
    refine pu_aload_n rfl ?_
    refine pu_dup rfl ?_
    refine pu_getI pu_k8_49 pu_c85 ?_
    refine pu_iconst ?_
    refine pu_iadd ?_
    refine pu_putI pu_p8_49 pu_c85 ?_
    exact pu_vret pu_rt236 H
  · replace H := pu_t h1 H
    refine pu_aload_n rfl ?_
    refine pu_getR pu_kr8_48 pu_c85 pu_r85_48 ?_
    refine pu_aload_n rfl ?_
    refine pu_getI pu_k8_49 pu_c85 ?_
    refine pu_iload_n rfl ?_
    refine pu_ias pu_c116 pu_ln116 H.1 ?_
    replace H := H.2
    refine pu_aload_n rfl ?_
    refine pu_dup rfl ?_
    refine pu_getI pu_k8_49 pu_c85 ?_
    refine pu_iconst ?_
    refine pu_iadd ?_
    refine pu_putI pu_p8_49 pu_c85 ?_
    exact pu_vret pu_rt236 H
/-- LightAlongModel.burning(II)I -/
def pu_h237_18 (X : px_X) (x1 : Int32) (x2 : Int32) (x3 : Int32) (D : pu_D) (P : Int32 → pu_D → Prop) : Prop := ∀ z4 : Value, z4.category = 1 → pu_W X 237 (0, 0) px_c237_18 [.ref 85, .int x1, .int x2, .int x3, z4] [] D (pu_qi P)
def pu_h237_29 (X : px_X) (x1 : Int32) (x2 : Int32) (x3 : Int32) (D : pu_D) (P : Int32 → pu_D → Prop) : Prop := ∀ z4 : Value, z4.category = 1 → pu_W X 237 (0, 0) px_c237_29 [.ref 85, .int x1, .int x2, .int x3, z4] [] D (pu_qi P)
def pu_h237_40 (X : px_X) (x1 : Int32) (x2 : Int32) (x3 : Int32) (D : pu_D) (P : Int32 → pu_D → Prop) : Prop := ∀ z4 : Value, z4.category = 1 → pu_W X 237 (0, 0) px_c237_40 [.ref 85, .int x1, .int x2, .int x3, z4] [] D (pu_qi P)
theorem pu_u237_18 {X : px_X} {x1 : Int32} {x2 : Int32} {x3 : Int32} {D : pu_D} {P : Int32 → pu_D → Prop} 
    (H : if x3 = 3 then (pu_V X 236 [.ref 85, .int 41] D (fun D6 => pu_h237_29 X x1 x2 x3 D6 P)) else (pu_h237_29 X x1 x2 x3 D P)) :
    pu_h237_18 X x1 x2 x3 D P := by
  intro z4 hz4
  refine pu_iload_n rfl ?_
  refine pu_iconst ?_
  refine pu_ne_ pu_t237_29 (fun h4 => ?_) (fun h4 => ?_)
  · replace H := pu_f h4 H
    exact H _ hz4
  · replace H := pu_t h4 H
    refine pu_aload_n rfl ?_
    refine pu_bipush ?_
    refine pu_cv (vs := [.int 41]) (rest := []) pu_g236 ⟨pu_c85, by decide⟩ rfl rfl rfl rfl rfl (pu_CV (pu_V_imp H (fun D6 H => ?_)))
    exact H _ hz4
theorem pu_u237_29 {X : px_X} {x1 : Int32} {x2 : Int32} {x3 : Int32} {D : pu_D} {P : Int32 → pu_D → Prop} 
    (H : if x3 = 5 then (pu_V X 236 [.ref 85, .int 60] D (fun D9 => pu_h237_40 X x1 x2 x3 D9 P)) else (pu_h237_40 X x1 x2 x3 D P)) :
    pu_h237_29 X x1 x2 x3 D P := by
  intro z4 hz4
  refine pu_iload_n rfl ?_
  refine pu_iconst ?_
  refine pu_ne_ pu_t237_40 (fun h7 => ?_) (fun h7 => ?_)
  · replace H := pu_f h7 H
    exact H _ hz4
  · replace H := pu_t h7 H
    refine pu_aload_n rfl ?_
    refine pu_bipush ?_
    refine pu_cv (vs := [.int 60]) (rest := []) pu_g236 ⟨pu_c85, by decide⟩ rfl rfl rfl rfl rfl (pu_CV (pu_V_imp H (fun D9 H => ?_)))
    exact H _ hz4
theorem pu_u237_40 {X : px_X} {x1 : Int32} {x2 : Int32} {x3 : Int32} {D : pu_D} {P : Int32 → pu_D → Prop} 
    (H : pu_V X 236 [.ref 85, .int 10] D (fun D11 => if x3 = 1 then ((px_in x1 8 = true) ∧ P ((x2 + x1) + (D11.1 107 x1.toNatClampNeg)) D11) else (if x3 = 3 then (P ((x2 + x1) - x1) D11) else (if x3 = 5 then (P ((x2 + x1) ^^^ 5) D11) else (P (x2 + x1) D11))))) :
    pu_h237_40 X x1 x2 x3 D P := by
  intro z4 hz4
  refine pu_aload_n rfl ?_
  refine pu_bipush ?_
  refine pu_cv (vs := [.int 10]) (rest := []) pu_g236 ⟨pu_c85, by decide⟩ rfl rfl rfl rfl rfl (pu_CV (pu_V_imp H (fun D11 H => ?_)))
  refine pu_iload_n rfl ?_
  refine pu_iload_n rfl ?_
  refine pu_iadd ?_
  refine pu_istore (L' := [.ref 85, .int x1, .int x2, .int x3, .int (x2 + x1)]) (Or.inr rfl) rfl ?_
  refine pu_iload_n rfl ?_
  refine pu_iconst ?_
  refine pu_ne_ pu_t237_68 (fun h12 => ?_) (fun h12 => ?_)
  · replace H := pu_f h12 H
    refine pu_iload_n rfl ?_
    refine pu_iconst ?_
    refine pu_ne_ pu_t237_80 (fun h13 => ?_) (fun h13 => ?_)
    · replace H := pu_f h13 H
      refine pu_iload_n rfl ?_
      refine pu_iconst ?_
      refine pu_ne_ pu_t237_92 (fun h14 => ?_) (fun h14 => ?_)
      · replace H := pu_f h14 H
        refine pu_iload rfl ?_
        exact pu_iretI pu_rt237 H
      · replace H := pu_t h14 H
        refine pu_iload rfl ?_
        refine pu_iconst ?_
        refine pu_ixor ?_
        refine pu_goto pu_t237_94 ?_
        exact pu_iretI pu_rt237 H
    · replace H := pu_t h13 H
      refine pu_iload rfl ?_
      refine pu_iload_n rfl ?_
      refine pu_isub ?_
      refine pu_goto pu_t237_94 ?_
      exact pu_iretI pu_rt237 H
  · replace H := pu_t h12 H
    refine pu_iload rfl ?_
    refine pu_aload_n rfl ?_
    refine pu_getR pu_kr8_33 pu_c85 pu_r85_33 ?_
    refine pu_iload_n rfl ?_
    refine pu_ial pu_c107 pu_ln107 H.1 ?_
    replace H := H.2
    refine pu_iadd ?_
    refine pu_goto pu_t237_94 ?_
    exact pu_iretI pu_rt237 H
theorem pu_e237 {X : px_X} {x1 : Int32} {x2 : Int32} {D : pu_D} {P : Int32 → pu_D → Prop} 
    (H : (px_in x1 8 = true) ∧ if (D.1 106 x1.toNatClampNeg) = 1 then (pu_V X 236 [.ref 85, .int 20] D (fun D3 => pu_h237_18 X x1 x2 (D.1 106 x1.toNatClampNeg) D3 P)) else (pu_h237_18 X x1 x2 (D.1 106 x1.toNatClampNeg) D P)) :
    pu_I X 237 [.ref 85, .int x1, .int x2] D P := by
  refine pu_ent (E := [.ref 85, .int x1, .int x2, .null, .null]) pu_n237.1 pu_n237.2 pu_t237_0 rfl ?_
  refine pu_aload_n rfl ?_
  refine pu_getR pu_kr8_32 pu_c85 pu_r85_32 ?_
  refine pu_iload_n rfl ?_
  refine pu_ial pu_c106 pu_ln106 H.1 ?_
  replace H := H.2
  refine pu_istore_n (L' := [.ref 85, .int x1, .int x2, .int (D.1 106 x1.toNatClampNeg), .null]) (Or.inr rfl) rfl ?_
  refine pu_iload_n rfl ?_
  refine pu_iconst ?_
  refine pu_ne_ pu_t237_18 (fun h1 => ?_) (fun h1 => ?_)
  · replace H := pu_f h1 H
    exact H _ rfl
  · replace H := pu_t h1 H
    refine pu_aload_n rfl ?_
    refine pu_bipush ?_
    refine pu_cv (vs := [.int 20]) (rest := []) pu_g236 ⟨pu_c85, by decide⟩ rfl rfl rfl rfl rfl (pu_CV (pu_V_imp H (fun D3 H => ?_)))
    exact H _ rfl
/-- LightAlongModel.falling(II)I -/
def pu_h238_26 (X : px_X) (x1 : Int32) (x3 : Int32) (x4 : Int32) (D : pu_D) (P : Int32 → pu_D → Prop) : Prop := ∀ z2 : Value, z2.category = 1 → ∀ z5 : Value, z5.category = 1 → ∀ z6 : Value, z6.category = 1 → pu_W X 238 (0, 0) px_c238_26 [.ref 85, .int x1, z2, .int x3, .int x4, z5, z6] [] D (pu_qi P)
def pu_h238_41 (X : px_X) (x1 : Int32) (x3 : Int32) (x4 : Int32) (D : pu_D) (P : Int32 → pu_D → Prop) : Prop := ∀ z2 : Value, z2.category = 1 → ∀ z5 : Value, z5.category = 1 → ∀ z6 : Value, z6.category = 1 → pu_W X 238 (0, 0) px_c238_41 [.ref 85, .int x1, z2, .int x3, .int x4, z5, z6] [] D (pu_qi P)
def pu_h238_59 (X : px_X) (x1 : Int32) (x3 : Int32) (x4 : Int32) (x5 : Int32) (D : pu_D) (P : Int32 → pu_D → Prop) : Prop := ∀ z2 : Value, z2.category = 1 → ∀ z6 : Value, z6.category = 1 → pu_W X 238 (0, 0) px_c238_59 [.ref 85, .int x1, z2, .int x3, .int x4, .int x5, z6] [] D (pu_qi P)
def pu_h238_71 (X : px_X) (x1 : Int32) (x3 : Int32) (x4 : Int32) (x5 : Int32) (D : pu_D) (P : Int32 → pu_D → Prop) : Prop := ∀ z2 : Value, z2.category = 1 → ∀ z6 : Value, z6.category = 1 → pu_W X 238 (0, 0) px_c238_71 [.ref 85, .int x1, z2, .int x3, .int x4, .int x5, z6] [] D (pu_qi P)
theorem pu_u238_26 {X : px_X} {x1 : Int32} {x3 : Int32} {x4 : Int32} {D : pu_D} {P : Int32 → pu_D → Prop} 
    (H : if x3 = 2 then (pu_h238_41 X x1 x3 x4 D P) else (if x3 = 3 then (pu_h238_41 X x1 x3 x4 D P) else (if x3 = 5 then (pu_h238_41 X x1 x3 x4 D P) else (pu_h238_59 X x1 x3 x4 0 D P)))) :
    pu_h238_26 X x1 x3 x4 D P := by
  intro z2 hz2 z5 hz5 z6 hz6
  refine pu_iload_n rfl ?_
  refine pu_iconst ?_
  refine pu_eq_ pu_t238_41 (fun h4 => ?_) (fun h4 => ?_)
  · replace H := pu_t h4 H
    exact H _ hz2 _ hz5 _ hz6
  · replace H := pu_f h4 H
    refine pu_iload_n rfl ?_
    refine pu_iconst ?_
    refine pu_eq_ pu_t238_41 (fun h5 => ?_) (fun h5 => ?_)
    · replace H := pu_t h5 H
      exact H _ hz2 _ hz5 _ hz6
    · replace H := pu_f h5 H
      refine pu_iload_n rfl ?_
      refine pu_iconst ?_
      refine pu_ne_ pu_t238_45 (fun h6 => ?_) (fun h6 => ?_)
      · replace H := pu_f h6 H
        refine pu_iconst ?_
        refine pu_istore (L' := [.ref 85, .int x1, z2, .int x3, .int x4, .int 0, z6]) (Or.inr rfl) rfl ?_
        refine pu_iload rfl ?_
        refine pu_ifT (by decide) pu_t238_59 ?_
        exact H _ hz2 _ hz6
      · replace H := pu_t h6 H
        exact H _ hz2 _ hz5 _ hz6
theorem pu_u238_41 {X : px_X} {x1 : Int32} {x3 : Int32} {x4 : Int32} {D : pu_D} {P : Int32 → pu_D → Prop} 
    (H : pu_V X 236 [.ref 85, .int 30] D (fun D8 => pu_h238_59 X x1 x3 x4 1 D8 P)) :
    pu_h238_41 X x1 x3 x4 D P := by
  intro z2 hz2 z5 hz5 z6 hz6
  refine pu_iconst ?_
  refine pu_goto pu_t238_46 ?_
  refine pu_istore (L' := [.ref 85, .int x1, z2, .int x3, .int x4, .int 1, z6]) (Or.inr rfl) rfl ?_
  refine pu_iload rfl ?_
  refine pu_ifF (by decide) ?_
  refine pu_aload_n rfl ?_
  refine pu_bipush ?_
  refine pu_cv (vs := [.int 30]) (rest := []) pu_g236 ⟨pu_c85, by decide⟩ rfl rfl rfl rfl rfl (pu_CV (pu_V_imp H (fun D8 H => ?_)))
  exact H _ hz2 _ hz6
theorem pu_u238_59 {X : px_X} {x1 : Int32} {x3 : Int32} {x4 : Int32} {x5 : Int32} {D : pu_D} {P : Int32 → pu_D → Prop} 
    (H : if x3 = 6 then (pu_V X 236 [.ref 85, .int 70] D (fun D11 => pu_h238_71 X x1 x3 x4 x5 D11 P)) else (pu_h238_71 X x1 x3 x4 x5 D P)) :
    pu_h238_59 X x1 x3 x4 x5 D P := by
  intro z2 hz2 z6 hz6
  refine pu_iload_n rfl ?_
  refine pu_bipush ?_
  refine pu_ne_ pu_t238_71 (fun h9 => ?_) (fun h9 => ?_)
  · replace H := pu_f h9 H
    exact H _ hz2 _ hz6
  · replace H := pu_t h9 H
    refine pu_aload_n rfl ?_
    refine pu_bipush ?_
    refine pu_cv (vs := [.int 70]) (rest := []) pu_g236 ⟨pu_c85, by decide⟩ rfl rfl rfl rfl rfl (pu_CV (pu_V_imp H (fun D11 H => ?_)))
    exact H _ hz2 _ hz6
theorem pu_u238_71 {X : px_X} {x1 : Int32} {x3 : Int32} {x4 : Int32} {x5 : Int32} {D : pu_D} {P : Int32 → pu_D → Prop} 
    (H : pu_V X 236 [.ref 85, .int 11] D (fun D13 => pu_I X 237 [.ref 85, .int x1, .int x4] D13 (fun y14 D15 => if x5 = 0 then (if x3 = 6 then (P ((y14 * 2) * 2) D15) else (P (y14 * 2) D15)) else (P ((y14 * 2) * 3) D15)))) :
    pu_h238_71 X x1 x3 x4 x5 D P := by
  intro z2 hz2 z6 hz6
  refine pu_aload_n rfl ?_
  refine pu_bipush ?_
  refine pu_cv (vs := [.int 11]) (rest := []) pu_g236 ⟨pu_c85, by decide⟩ rfl rfl rfl rfl rfl (pu_CV (pu_V_imp H (fun D13 H => ?_)))
  refine pu_aload_n rfl ?_
  refine pu_iload_n rfl ?_
  refine pu_iload rfl ?_
  refine pu_cv (vs := [.int x1, .int x4]) (rest := []) pu_g237 ⟨pu_c85, by decide⟩ rfl rfl rfl rfl rfl (pu_CI (pu_I_imp H (fun y14 D15 H => ?_)))
  refine pu_iconst ?_
  refine pu_imul ?_
  refine pu_istore (L' := [.ref 85, .int x1, z2, .int x3, .int x4, .int x5, .int (y14 * 2)]) (Or.inr rfl) rfl ?_
  refine pu_iload rfl ?_
  refine pu_eq0 pu_t238_100 (fun h16 => ?_) (fun h16 => ?_)
  · replace H := pu_t h16 H
    refine pu_iload_n rfl ?_
    refine pu_bipush ?_
    refine pu_ne_ pu_t238_113 (fun h17 => ?_) (fun h17 => ?_)
    · replace H := pu_f h17 H
      refine pu_iload rfl ?_
      exact pu_iretI pu_rt238 H
    · replace H := pu_t h17 H
      refine pu_iload rfl ?_
      refine pu_iconst ?_
      refine pu_imul ?_
      refine pu_goto pu_t238_115 ?_
      exact pu_iretI pu_rt238 H
  · replace H := pu_f h16 H
    refine pu_iload rfl ?_
    refine pu_iconst ?_
    refine pu_imul ?_
    refine pu_goto pu_t238_115 ?_
    exact pu_iretI pu_rt238 H
theorem pu_e238 {X : px_X} {x1 : Int32} {x2 : Int32} {D : pu_D} {P : Int32 → pu_D → Prop} 
    (H : (px_in x1 8 = true) ∧ if (D.1 106 x1.toNatClampNeg) = 3 then (pu_V X 236 [.ref 85, .int 40] D (fun D3 => pu_h238_26 X x1 (D.1 106 x1.toNatClampNeg) (x2 + 1) D3 P)) else (pu_h238_26 X x1 (D.1 106 x1.toNatClampNeg) x2 D P)) :
    pu_I X 238 [.ref 85, .int x1, .int x2] D P := by
  refine pu_ent (E := [.ref 85, .int x1, .int x2, .null, .null, .null, .null]) pu_n238.1 pu_n238.2 pu_t238_0 rfl ?_
  refine pu_aload_n rfl ?_
  refine pu_getR pu_kr8_32 pu_c85 pu_r85_32 ?_
  refine pu_iload_n rfl ?_
  refine pu_ial pu_c106 pu_ln106 H.1 ?_
  replace H := H.2
  refine pu_istore_n (L' := [.ref 85, .int x1, .int x2, .int (D.1 106 x1.toNatClampNeg), .null, .null, .null]) (Or.inr rfl) rfl ?_
  refine pu_iload_n rfl ?_
  refine pu_istore (L' := [.ref 85, .int x1, .int x2, .int (D.1 106 x1.toNatClampNeg), .int x2, .null, .null]) (Or.inr rfl) rfl ?_
  refine pu_iload_n rfl ?_
  refine pu_iconst ?_
  refine pu_ne_ pu_t238_26 (fun h1 => ?_) (fun h1 => ?_)
  · replace H := pu_f h1 H
    exact H _ rfl _ rfl _ rfl
  · replace H := pu_t h1 H
    refine pu_aload_n rfl ?_
    refine pu_bipush ?_
    refine pu_cv (vs := [.int 40]) (rest := []) pu_g236 ⟨pu_c85, by decide⟩ rfl rfl rfl rfl rfl (pu_CV (pu_V_imp H (fun D3 H => ?_)))
    refine pu_iload_n rfl ?_
    refine pu_iconst ?_
    refine pu_iadd ?_
    refine pu_istore (L' := [.ref 85, .int x1, .int x2, .int (D.1 106 x1.toNatClampNeg), .int (x2 + 1), .null, .null]) (Or.inr rfl) rfl ?_
    exact H _ rfl _ rfl _ rfl
/-- LightAlongModel.costing(II)I -/
theorem pu_e239 {X : px_X} {x1 : Int32} {x2 : Int32} {D : pu_D} {P : Int32 → pu_D → Prop} 
    (H : (px_in x1 8 = true) ∧ if (D.1 106 x1.toNatClampNeg) = 4 then (pu_V X 236 [.ref 85, .int 50] D (fun D20 => if (D.1 106 x1.toNatClampNeg) = 6 then (pu_V X 236 [.ref 85, .int 71] D20 (fun D30 => (px_in x1 8 = true) ∧ pu_V X 236 [.ref 85, .int 12] D30 (fun D32 => pu_I X 238 [.ref 85, .int x1, .int (x2 - (D30.1 107 x1.toNatClampNeg))] D32 (fun y33 D34 => (px_in x1 8 = true) ∧ pu_I X 237 [.ref 85, .int x1, .int ((x2 - (D30.1 107 x1.toNatClampNeg)) - (D34.1 107 x1.toNatClampNeg))] D34 (fun y35 D36 => if (D.1 106 x1.toNatClampNeg) = 4 then (P (-(y33 ^^^ y35)) D36) else (P (y33 ^^^ y35) D36)))))) else (pu_V X 236 [.ref 85, .int 12] D20 (fun D23 => pu_I X 238 [.ref 85, .int x1, .int x2] D23 (fun y24 D25 => (px_in x1 8 = true) ∧ pu_I X 237 [.ref 85, .int x1, .int (x2 - (D25.1 107 x1.toNatClampNeg))] D25 (fun y26 D27 => if (D.1 106 x1.toNatClampNeg) = 4 then (P (-(y24 ^^^ y26)) D27) else (P (y24 ^^^ y26) D27))))))) else (if (D.1 106 x1.toNatClampNeg) = 6 then (pu_V X 236 [.ref 85, .int 71] D (fun D11 => (px_in x1 8 = true) ∧ pu_V X 236 [.ref 85, .int 12] D11 (fun D13 => pu_I X 238 [.ref 85, .int x1, .int (x2 - (D11.1 107 x1.toNatClampNeg))] D13 (fun y14 D15 => (px_in x1 8 = true) ∧ pu_I X 237 [.ref 85, .int x1, .int ((x2 - (D11.1 107 x1.toNatClampNeg)) - (D15.1 107 x1.toNatClampNeg))] D15 (fun y16 D17 => if (D.1 106 x1.toNatClampNeg) = 4 then (P (-(y14 ^^^ y16)) D17) else (P (y14 ^^^ y16) D17)))))) else (pu_V X 236 [.ref 85, .int 12] D (fun D4 => pu_I X 238 [.ref 85, .int x1, .int x2] D4 (fun y5 D6 => (px_in x1 8 = true) ∧ pu_I X 237 [.ref 85, .int x1, .int (x2 - (D6.1 107 x1.toNatClampNeg))] D6 (fun y7 D8 => if (D.1 106 x1.toNatClampNeg) = 4 then (P (-(y5 ^^^ y7)) D8) else (P (y5 ^^^ y7) D8))))))) :
    pu_I X 239 [.ref 85, .int x1, .int x2] D P := by
  refine pu_ent (E := [.ref 85, .int x1, .int x2, .null, .null, .null]) pu_n239.1 pu_n239.2 pu_t239_0 rfl ?_
  refine pu_aload_n rfl ?_
  refine pu_getR pu_kr8_32 pu_c85 pu_r85_32 ?_
  refine pu_iload_n rfl ?_
  refine pu_ial pu_c106 pu_ln106 H.1 ?_
  replace H := H.2
  refine pu_istore_n (L' := [.ref 85, .int x1, .int x2, .int (D.1 106 x1.toNatClampNeg), .null, .null]) (Or.inr rfl) rfl ?_
  refine pu_iload_n rfl ?_
  refine pu_istore (L' := [.ref 85, .int x1, .int x2, .int (D.1 106 x1.toNatClampNeg), .int x2, .null]) (Or.inr rfl) rfl ?_
  refine pu_iload_n rfl ?_
  refine pu_iconst ?_
  refine pu_ne_ pu_t239_21 (fun h1 => ?_) (fun h1 => ?_)
  · replace H := pu_f h1 H
    refine pu_iload_n rfl ?_
    refine pu_bipush ?_
    refine pu_ne_ pu_t239_43 (fun h2 => ?_) (fun h2 => ?_)
    · replace H := pu_f h2 H
      refine pu_aload_n rfl ?_
      refine pu_bipush ?_
      refine pu_cv (vs := [.int 12]) (rest := []) pu_g236 ⟨pu_c85, by decide⟩ rfl rfl rfl rfl rfl (pu_CV (pu_V_imp H (fun D4 H => ?_)))
      refine pu_aload_n rfl ?_
      refine pu_iload_n rfl ?_
      refine pu_iload rfl ?_
      refine pu_cv (vs := [.int x1, .int x2]) (rest := []) pu_g238 ⟨pu_c85, by decide⟩ rfl rfl rfl rfl rfl (pu_CI (pu_I_imp H (fun y5 D6 H => ?_)))
      refine pu_istore (L' := [.ref 85, .int x1, .int x2, .int (D.1 106 x1.toNatClampNeg), .int x2, .int y5]) (Or.inr rfl) rfl ?_
      refine pu_iload rfl ?_
      refine pu_aload_n rfl ?_
      refine pu_iload_n rfl ?_
      refine pu_iload rfl ?_
      refine pu_aload_n rfl ?_
      refine pu_getR pu_kr8_33 pu_c85 pu_r85_33 ?_
      refine pu_iload_n rfl ?_
      refine pu_ial pu_c107 pu_ln107 H.1 ?_
      replace H := H.2
      refine pu_isub ?_
      refine pu_cv (vs := [.int x1, .int (x2 - (D6.1 107 x1.toNatClampNeg))]) (rest := [.int y5]) pu_g237 ⟨pu_c85, by decide⟩ rfl rfl rfl rfl rfl (pu_CI (pu_I_imp H (fun y7 D8 H => ?_)))
      refine pu_ixor ?_
      refine pu_istore (L' := [.ref 85, .int x1, .int x2, .int (D.1 106 x1.toNatClampNeg), .int x2, .int (y5 ^^^ y7)]) (Or.inr rfl) rfl ?_
      refine pu_iload_n rfl ?_
      refine pu_iconst ?_
      refine pu_ne_ pu_t239_88 (fun h9 => ?_) (fun h9 => ?_)
      · replace H := pu_f h9 H
        refine pu_iload rfl ?_
        exact pu_iretI pu_rt239 H
      · replace H := pu_t h9 H
        refine pu_iload rfl ?_
        refine pu_ineg ?_
        refine pu_goto pu_t239_90 ?_
        exact pu_iretI pu_rt239 H
    · replace H := pu_t h2 H
      refine pu_aload_n rfl ?_
      refine pu_bipush ?_
      refine pu_cv (vs := [.int 71]) (rest := []) pu_g236 ⟨pu_c85, by decide⟩ rfl rfl rfl rfl rfl (pu_CV (pu_V_imp H (fun D11 H => ?_)))
      refine pu_iload_n rfl ?_
      refine pu_aload_n rfl ?_
      refine pu_getR pu_kr8_33 pu_c85 pu_r85_33 ?_
      refine pu_iload_n rfl ?_
      refine pu_ial pu_c107 pu_ln107 H.1 ?_
      replace H := H.2
      refine pu_isub ?_
      refine pu_istore (L' := [.ref 85, .int x1, .int x2, .int (D.1 106 x1.toNatClampNeg), .int (x2 - (D11.1 107 x1.toNatClampNeg)), .null]) (Or.inr rfl) rfl ?_
      refine pu_aload_n rfl ?_
      refine pu_bipush ?_
      refine pu_cv (vs := [.int 12]) (rest := []) pu_g236 ⟨pu_c85, by decide⟩ rfl rfl rfl rfl rfl (pu_CV (pu_V_imp H (fun D13 H => ?_)))
      refine pu_aload_n rfl ?_
      refine pu_iload_n rfl ?_
      refine pu_iload rfl ?_
      refine pu_cv (vs := [.int x1, .int (x2 - (D11.1 107 x1.toNatClampNeg))]) (rest := []) pu_g238 ⟨pu_c85, by decide⟩ rfl rfl rfl rfl rfl (pu_CI (pu_I_imp H (fun y14 D15 H => ?_)))
      refine pu_istore (L' := [.ref 85, .int x1, .int x2, .int (D.1 106 x1.toNatClampNeg), .int (x2 - (D11.1 107 x1.toNatClampNeg)), .int y14]) (Or.inr rfl) rfl ?_
      refine pu_iload rfl ?_
      refine pu_aload_n rfl ?_
      refine pu_iload_n rfl ?_
      refine pu_iload rfl ?_
      refine pu_aload_n rfl ?_
      refine pu_getR pu_kr8_33 pu_c85 pu_r85_33 ?_
      refine pu_iload_n rfl ?_
      refine pu_ial pu_c107 pu_ln107 H.1 ?_
      replace H := H.2
      refine pu_isub ?_
      refine pu_cv (vs := [.int x1, .int ((x2 - (D11.1 107 x1.toNatClampNeg)) - (D15.1 107 x1.toNatClampNeg))]) (rest := [.int y14]) pu_g237 ⟨pu_c85, by decide⟩ rfl rfl rfl rfl rfl (pu_CI (pu_I_imp H (fun y16 D17 H => ?_)))
      refine pu_ixor ?_
      refine pu_istore (L' := [.ref 85, .int x1, .int x2, .int (D.1 106 x1.toNatClampNeg), .int (x2 - (D11.1 107 x1.toNatClampNeg)), .int (y14 ^^^ y16)]) (Or.inr rfl) rfl ?_
      refine pu_iload_n rfl ?_
      refine pu_iconst ?_
      refine pu_ne_ pu_t239_88 (fun h18 => ?_) (fun h18 => ?_)
      · replace H := pu_f h18 H
        refine pu_iload rfl ?_
        exact pu_iretI pu_rt239 H
      · replace H := pu_t h18 H
        refine pu_iload rfl ?_
        refine pu_ineg ?_
        refine pu_goto pu_t239_90 ?_
        exact pu_iretI pu_rt239 H
  · replace H := pu_t h1 H
    refine pu_aload_n rfl ?_
    refine pu_bipush ?_
    refine pu_cv (vs := [.int 50]) (rest := []) pu_g236 ⟨pu_c85, by decide⟩ rfl rfl rfl rfl rfl (pu_CV (pu_V_imp H (fun D20 H => ?_)))
    refine pu_iload_n rfl ?_
    refine pu_bipush ?_
    refine pu_ne_ pu_t239_43 (fun h21 => ?_) (fun h21 => ?_)
    · replace H := pu_f h21 H
      refine pu_aload_n rfl ?_
      refine pu_bipush ?_
      refine pu_cv (vs := [.int 12]) (rest := []) pu_g236 ⟨pu_c85, by decide⟩ rfl rfl rfl rfl rfl (pu_CV (pu_V_imp H (fun D23 H => ?_)))
      refine pu_aload_n rfl ?_
      refine pu_iload_n rfl ?_
      refine pu_iload rfl ?_
      refine pu_cv (vs := [.int x1, .int x2]) (rest := []) pu_g238 ⟨pu_c85, by decide⟩ rfl rfl rfl rfl rfl (pu_CI (pu_I_imp H (fun y24 D25 H => ?_)))
      refine pu_istore (L' := [.ref 85, .int x1, .int x2, .int (D.1 106 x1.toNatClampNeg), .int x2, .int y24]) (Or.inr rfl) rfl ?_
      refine pu_iload rfl ?_
      refine pu_aload_n rfl ?_
      refine pu_iload_n rfl ?_
      refine pu_iload rfl ?_
      refine pu_aload_n rfl ?_
      refine pu_getR pu_kr8_33 pu_c85 pu_r85_33 ?_
      refine pu_iload_n rfl ?_
      refine pu_ial pu_c107 pu_ln107 H.1 ?_
      replace H := H.2
      refine pu_isub ?_
      refine pu_cv (vs := [.int x1, .int (x2 - (D25.1 107 x1.toNatClampNeg))]) (rest := [.int y24]) pu_g237 ⟨pu_c85, by decide⟩ rfl rfl rfl rfl rfl (pu_CI (pu_I_imp H (fun y26 D27 H => ?_)))
      refine pu_ixor ?_
      refine pu_istore (L' := [.ref 85, .int x1, .int x2, .int (D.1 106 x1.toNatClampNeg), .int x2, .int (y24 ^^^ y26)]) (Or.inr rfl) rfl ?_
      refine pu_iload_n rfl ?_
      refine pu_iconst ?_
      refine pu_ne_ pu_t239_88 (fun h28 => ?_) (fun h28 => ?_)
      · replace H := pu_f h28 H
        refine pu_iload rfl ?_
        exact pu_iretI pu_rt239 H
      · replace H := pu_t h28 H
        refine pu_iload rfl ?_
        refine pu_ineg ?_
        refine pu_goto pu_t239_90 ?_
        exact pu_iretI pu_rt239 H
    · replace H := pu_t h21 H
      refine pu_aload_n rfl ?_
      refine pu_bipush ?_
      refine pu_cv (vs := [.int 71]) (rest := []) pu_g236 ⟨pu_c85, by decide⟩ rfl rfl rfl rfl rfl (pu_CV (pu_V_imp H (fun D30 H => ?_)))
      refine pu_iload_n rfl ?_
      refine pu_aload_n rfl ?_
      refine pu_getR pu_kr8_33 pu_c85 pu_r85_33 ?_
      refine pu_iload_n rfl ?_
      refine pu_ial pu_c107 pu_ln107 H.1 ?_
      replace H := H.2
      refine pu_isub ?_
      refine pu_istore (L' := [.ref 85, .int x1, .int x2, .int (D.1 106 x1.toNatClampNeg), .int (x2 - (D30.1 107 x1.toNatClampNeg)), .null]) (Or.inr rfl) rfl ?_
      refine pu_aload_n rfl ?_
      refine pu_bipush ?_
      refine pu_cv (vs := [.int 12]) (rest := []) pu_g236 ⟨pu_c85, by decide⟩ rfl rfl rfl rfl rfl (pu_CV (pu_V_imp H (fun D32 H => ?_)))
      refine pu_aload_n rfl ?_
      refine pu_iload_n rfl ?_
      refine pu_iload rfl ?_
      refine pu_cv (vs := [.int x1, .int (x2 - (D30.1 107 x1.toNatClampNeg))]) (rest := []) pu_g238 ⟨pu_c85, by decide⟩ rfl rfl rfl rfl rfl (pu_CI (pu_I_imp H (fun y33 D34 H => ?_)))
      refine pu_istore (L' := [.ref 85, .int x1, .int x2, .int (D.1 106 x1.toNatClampNeg), .int (x2 - (D30.1 107 x1.toNatClampNeg)), .int y33]) (Or.inr rfl) rfl ?_
      refine pu_iload rfl ?_
      refine pu_aload_n rfl ?_
      refine pu_iload_n rfl ?_
      refine pu_iload rfl ?_
      refine pu_aload_n rfl ?_
      refine pu_getR pu_kr8_33 pu_c85 pu_r85_33 ?_
      refine pu_iload_n rfl ?_
      refine pu_ial pu_c107 pu_ln107 H.1 ?_
      replace H := H.2
      refine pu_isub ?_
      refine pu_cv (vs := [.int x1, .int ((x2 - (D30.1 107 x1.toNatClampNeg)) - (D34.1 107 x1.toNatClampNeg))]) (rest := [.int y33]) pu_g237 ⟨pu_c85, by decide⟩ rfl rfl rfl rfl rfl (pu_CI (pu_I_imp H (fun y35 D36 H => ?_)))
      refine pu_ixor ?_
      refine pu_istore (L' := [.ref 85, .int x1, .int x2, .int (D.1 106 x1.toNatClampNeg), .int (x2 - (D30.1 107 x1.toNatClampNeg)), .int (y33 ^^^ y35)]) (Or.inr rfl) rfl ?_
      refine pu_iload_n rfl ?_
      refine pu_iconst ?_
      refine pu_ne_ pu_t239_88 (fun h37 => ?_) (fun h37 => ?_)
      · replace H := pu_f h37 H
        refine pu_iload rfl ?_
        exact pu_iretI pu_rt239 H
      · replace H := pu_t h37 H
        refine pu_iload rfl ?_
        refine pu_ineg ?_
        refine pu_goto pu_t239_90 ?_
        exact pu_iretI pu_rt239 H
/-- LightAlongModel.act(III)I -/
theorem pu_e240 {X : px_X} {x1 : Int32} {x2 : Int32} {x3 : Int32} {D : pu_D} {P : Int32 → pu_D → Prop} 
    (H : pu_I X 151 [.ref 85, .int x1] (pu_wi D 85 49 0) (fun y1 D2 => if y1 = 0 then (P 0 D2) else ((px_in x1 8 = true) ∧ if (D2.1 103 x1.toNatClampNeg) = 2 then (if x2 < 0 then (P 0 D2) else (if 2 < x2 then (P 0 D2) else (if x2 = 0 then (pu_I X 237 [.ref 85, .int x1, .int x3] D2 (fun y13 D14 => P y13 D14)) else (if x2 = 1 then (pu_I X 238 [.ref 85, .int x1, .int x3] D2 (fun y11 D12 => P y11 D12)) else (pu_I X 239 [.ref 85, .int x1, .int x3] D2 (fun y9 D10 => P y9 D10)))))) else (P 0 D2)))) :
    pu_I X 240 [.ref 85, .int x1, .int x2, .int x3] D P := by
  refine pu_ent (E := [.ref 85, .int x1, .int x2, .int x3]) pu_n240.1 pu_n240.2 pu_t240_0 rfl ?_
  refine pu_aload_n rfl ?_
  refine pu_iconst ?_
  refine pu_putI pu_p8_49 pu_c85 ?_
  refine pu_aload_n rfl ?_
  refine pu_iload_n rfl ?_
  refine pu_cv (vs := [.int x1]) (rest := []) pu_g151 ⟨pu_c85, by decide⟩ rfl rfl rfl rfl rfl (pu_CI (pu_I_imp H (fun y1 D2 H => ?_)))
  refine pu_eq0 pu_t240_32 (fun h3 => ?_) (fun h3 => ?_)
  · replace H := pu_t h3 H
    refine pu_iconst ?_
    exact pu_iretI pu_rt240 H
  · replace H := pu_f h3 H
    refine pu_aload_n rfl ?_
    refine pu_getR pu_kr8_29 pu_c85 pu_r85_29 ?_
    refine pu_iload_n rfl ?_
    refine pu_ial pu_c103 pu_ln103 H.1 ?_
    replace H := H.2
    refine pu_iconst ?_
    refine pu_ne_ pu_t240_32 (fun h4 => ?_) (fun h4 => ?_)
    · replace H := pu_f h4 H
      refine pu_iconst ?_
      exact pu_iretI pu_rt240 H
    · replace H := pu_t h4 H
      refine pu_iload_n rfl ?_
      refine pu_lt0 pu_t240_32 (fun h5 => ?_) (fun h5 => ?_)
      · replace H := pu_t h5 H
        refine pu_iconst ?_
        exact pu_iretI pu_rt240 H
      · replace H := pu_f h5 H
        refine pu_iload_n rfl ?_
        refine pu_iconst ?_
        refine pu_le_ pu_t240_34 (fun h6 => ?_) (fun h6 => ?_)
        · replace H := pu_f h6 H
          refine pu_iload_n rfl ?_
          refine pu_ne0 pu_t240_47 (fun h7 => ?_) (fun h7 => ?_)
          · replace H := pu_f h7 H
            refine pu_iload_n rfl ?_
            refine pu_iconst ?_
            refine pu_ne_ pu_t240_61 (fun h8 => ?_) (fun h8 => ?_)
            · replace H := pu_f h8 H
              refine pu_aload_n rfl ?_
              refine pu_iload_n rfl ?_
              refine pu_iload_n rfl ?_
              refine pu_cv (vs := [.int x1, .int x3]) (rest := []) pu_g239 ⟨pu_c85, by decide⟩ rfl rfl rfl rfl rfl (pu_CI (pu_I_imp H (fun y9 D10 H => ?_)))
              exact pu_iretI pu_rt240 H
            · replace H := pu_t h8 H
              refine pu_aload_n rfl ?_
              refine pu_iload_n rfl ?_
              refine pu_iload_n rfl ?_
              refine pu_cv (vs := [.int x1, .int x3]) (rest := []) pu_g238 ⟨pu_c85, by decide⟩ rfl rfl rfl rfl rfl (pu_CI (pu_I_imp H (fun y11 D12 H => ?_)))
              refine pu_goto pu_t240_67 ?_
              exact pu_iretI pu_rt240 H
          · replace H := pu_t h7 H
            refine pu_aload_n rfl ?_
            refine pu_iload_n rfl ?_
            refine pu_iload_n rfl ?_
            refine pu_cv (vs := [.int x1, .int x3]) (rest := []) pu_g237 ⟨pu_c85, by decide⟩ rfl rfl rfl rfl rfl (pu_CI (pu_I_imp H (fun y13 D14 H => ?_)))
            refine pu_goto pu_t240_67 ?_
            exact pu_iretI pu_rt240 H
        · replace H := pu_t h6 H
          refine pu_iconst ?_
          exact pu_iretI pu_rt240 H
/-- LightAlongModel.trace(I)I -/
theorem pu_e241 {X : px_X} {x1 : Int32} {D : pu_D} {P : Int32 → pu_D → Prop} 
    (H : if x1 < 0 then (P (-1) D) else (if x1 < 20 then (if x1 < (D.1 85 49) then ((px_in x1 20 = true) ∧ P (D.1 116 x1.toNatClampNeg) D) else (P (-1) D)) else (P (-1) D))) :
    pu_I X 241 [.ref 85, .int x1] D P := by
  refine pu_ent (E := [.ref 85, .int x1]) pu_n241.1 pu_n241.2 pu_t241_0 rfl ?_
  refine pu_iload_n rfl ?_
  refine pu_lt0 pu_t241_27 (fun h1 => ?_) (fun h1 => ?_)
  · replace H := pu_t h1 H
    refine pu_iconst ?_
    exact pu_iretI pu_rt241 H
  · replace H := pu_f h1 H
    refine pu_iload_n rfl ?_
    refine pu_bipush ?_
    refine pu_ge_ pu_t241_27 (fun h2 => ?_) (fun h2 => ?_)
    · replace H := pu_f h2 H
      refine pu_iconst ?_
      exact pu_iretI pu_rt241 H
    · replace H := pu_t h2 H
      refine pu_iload_n rfl ?_
      refine pu_aload_n rfl ?_
      refine pu_getI pu_k8_49 pu_c85 ?_
      refine pu_ge_ pu_t241_27 (fun h3 => ?_) (fun h3 => ?_)
      · replace H := pu_f h3 H
        refine pu_iconst ?_
        exact pu_iretI pu_rt241 H
      · replace H := pu_t h3 H
        refine pu_aload_n rfl ?_
        refine pu_getR pu_kr8_48 pu_c85 pu_r85_48 ?_
        refine pu_iload_n rfl ?_
        refine pu_ial pu_c116 pu_ln116 H.1 ?_
        replace H := H.2
        refine pu_goto pu_t241_28 ?_
        exact pu_iretI pu_rt241 H
/-- LightAlongModel.keeps([IIIZ)I -/
def pu_h242_3 (X : px_X) (q1 : Nat) (x2 : Int32) (x3 : Int32) (x4 : Int32) (x5 : Int32) (D : pu_D) (P : Int32 → pu_D → Prop) : Prop := pu_W X 242 (0, 0) px_c242_3 [.ref 85, .ref q1, .int x2, .int x3, .int x4, .int x5] [] D (pu_qi P)
theorem pu_u242_3 {X : px_X} {q1 : Nat} {x2 : Int32} {x3 : Int32} {x4 : Int32} {x5 : Int32} {D : pu_D} {P : Int32 → pu_D → Prop} (hq1 : pu_cl q1 = 100)
    (H : if x5 < x2 then (if x4 = 0 then ((px_in x5 (pu_ln q1) = true) ∧ (px_in (x3 + x5) 180 = true) ∧ pu_h242_3 X q1 x2 x3 x4 (x5 + 1) (pu_wi D 112 (x3 + x5).toNatClampNeg (D.1 q1 x5.toNatClampNeg)) P) else ((px_in (x3 + x5) 180 = true) ∧ (px_in x5 (pu_ln q1) = true) ∧ pu_h242_3 X q1 x2 x3 x4 (x5 + 1) (pu_wi D q1 x5.toNatClampNeg (D.1 112 (x3 + x5).toNatClampNeg)) P)) else (P (x3 + x2) D)) :
    pu_h242_3 X q1 x2 x3 x4 x5 D P := by
  refine pu_iload rfl ?_
  refine pu_iload_n rfl ?_
  refine pu_ge_ pu_t242_49 (fun h1 => ?_) (fun h1 => ?_)
  · replace H := pu_f h1 H
    refine pu_iload_n rfl ?_
    refine pu_iload_n rfl ?_
    refine pu_iadd ?_
    exact pu_iretI pu_rt242 H
  · replace H := pu_t h1 H
    refine pu_iload rfl ?_
    refine pu_eq0 pu_t242_30 (fun h2 => ?_) (fun h2 => ?_)
    · replace H := pu_t h2 H
      refine pu_aload_n rfl ?_
      refine pu_getR pu_kr8_43 pu_c85 pu_r85_43 ?_
      refine pu_iload_n rfl ?_
      refine pu_iload rfl ?_
      refine pu_iadd ?_
      refine pu_aload_n rfl ?_
      refine pu_iload rfl ?_
      refine pu_ial hq1 rfl H.1 ?_
      replace H := H.2
      refine pu_ias pu_c112 pu_ln112 H.1 ?_
      replace H := H.2
      refine pu_iinc (L' := [.ref 85, .ref q1, .int x2, .int x3, .int x4, .int (x5 + 1)]) rfl (Or.inr rfl) rfl ?_
      refine pu_goto pu_t242_3 ?_
      exact H 
    · replace H := pu_f h2 H
      refine pu_aload_n rfl ?_
      refine pu_iload rfl ?_
      refine pu_aload_n rfl ?_
      refine pu_getR pu_kr8_43 pu_c85 pu_r85_43 ?_
      refine pu_iload_n rfl ?_
      refine pu_iload rfl ?_
      refine pu_iadd ?_
      refine pu_ial pu_c112 pu_ln112 H.1 ?_
      replace H := H.2
      refine pu_ias hq1 rfl H.1 ?_
      replace H := H.2
      refine pu_goto pu_t242_43 ?_
      refine pu_iinc (L' := [.ref 85, .ref q1, .int x2, .int x3, .int x4, .int (x5 + 1)]) rfl (Or.inr rfl) rfl ?_
      refine pu_goto pu_t242_3 ?_
      exact H 
theorem pu_e242 {X : px_X} {q1 : Nat} {x2 : Int32} {x3 : Int32} {x4 : Int32} {D : pu_D} {P : Int32 → pu_D → Prop} (hq1 : pu_cl q1 = 100)
    (H : pu_h242_3 X q1 x2 x3 x4 0 D P) :
    pu_I X 242 [.ref 85, .ref q1, .int x2, .int x3, .int x4] D P := by
  refine pu_ent (E := [.ref 85, .ref q1, .int x2, .int x3, .int x4, .null]) pu_n242.1 pu_n242.2 pu_t242_0 rfl ?_
  refine pu_iconst ?_
  refine pu_istore (L' := [.ref 85, .ref q1, .int x2, .int x3, .int x4, .int 0]) (Or.inr rfl) rfl ?_
  exact H 
/-- LightAlongModel.all(Z)V -/
theorem pu_e243 {X : px_X} {x1 : Int32} {D : pu_D} {P : pu_D → Prop} 
    (H : pu_I X 242 [.ref 85, .ref 87, .int 6, .int 0, .int x1] D (fun y1 D2 => pu_I X 242 [.ref 85, .ref 88, .int 6, .int y1, .int x1] D2 (fun y3 D4 => pu_I X 242 [.ref 85, .ref 89, .int 6, .int y3, .int x1] D4 (fun y5 D6 => pu_I X 242 [.ref 85, .ref 90, .int 6, .int y5, .int x1] D6 (fun y7 D8 => pu_I X 242 [.ref 85, .ref 91, .int 9, .int y7, .int x1] D8 (fun y9 D10 => pu_I X 242 [.ref 85, .ref 92, .int 9, .int y9, .int x1] D10 (fun y11 D12 => pu_I X 242 [.ref 85, .ref 93, .int 9, .int y11, .int x1] D12 (fun y13 D14 => pu_I X 242 [.ref 85, .ref 94, .int 9, .int y13, .int x1] D14 (fun y15 D16 => pu_I X 242 [.ref 85, .ref 95, .int 12, .int y15, .int x1] D16 (fun y17 D18 => pu_I X 242 [.ref 85, .ref 96, .int 12, .int y17, .int x1] D18 (fun y19 D20 => pu_I X 242 [.ref 85, .ref 97, .int 12, .int y19, .int x1] D20 (fun y21 D22 => pu_I X 242 [.ref 85, .ref 98, .int 12, .int y21, .int x1] D22 (fun y23 D24 => pu_I X 242 [.ref 85, .ref 99, .int 8, .int y23, .int x1] D24 (fun y25 D26 => pu_I X 242 [.ref 85, .ref 100, .int 8, .int y25, .int x1] D26 (fun y27 D28 => pu_I X 242 [.ref 85, .ref 101, .int 8, .int y27, .int x1] D28 (fun y29 D30 => pu_I X 242 [.ref 85, .ref 102, .int 6, .int y29, .int x1] D30 (fun y31 D32 => pu_V X 191 [.ref 85, .ref 117, .int x1] D32 (fun D34 => P D34)))))))))))))))))) :
    pu_V X 243 [.ref 85, .int x1] D P := by
  refine pu_ent (E := [.ref 85, .int x1, .null]) pu_n243.1 pu_n243.2 pu_t243_0 rfl ?_
  refine pu_aload_n rfl ?_
  refine pu_aload_n rfl ?_
  refine pu_getR pu_kr8_13 pu_c85 pu_r85_13 ?_
  refine pu_bipush ?_
  refine pu_iconst ?_
  refine pu_iload_n rfl ?_
  refine pu_cv (vs := [.ref 87, .int 6, .int 0, .int x1]) (rest := []) pu_g242 ⟨pu_c85, by decide⟩ rfl rfl rfl rfl rfl (pu_CI (pu_I_imp H (fun y1 D2 H => ?_)))
  refine pu_istore_n (L' := [.ref 85, .int x1, .int y1]) (Or.inr rfl) rfl ?_
  refine pu_aload_n rfl ?_
  refine pu_aload_n rfl ?_
  refine pu_getR pu_kr8_14 pu_c85 pu_r85_14 ?_
  refine pu_bipush ?_
  refine pu_iload_n rfl ?_
  refine pu_iload_n rfl ?_
  refine pu_cv (vs := [.ref 88, .int 6, .int y1, .int x1]) (rest := []) pu_g242 ⟨pu_c85, by decide⟩ rfl rfl rfl rfl rfl (pu_CI (pu_I_imp H (fun y3 D4 H => ?_)))
  refine pu_istore_n (L' := [.ref 85, .int x1, .int y3]) (Or.inr rfl) rfl ?_
  refine pu_aload_n rfl ?_
  refine pu_aload_n rfl ?_
  refine pu_getR pu_kr8_15 pu_c85 pu_r85_15 ?_
  refine pu_bipush ?_
  refine pu_iload_n rfl ?_
  refine pu_iload_n rfl ?_
  refine pu_cv (vs := [.ref 89, .int 6, .int y3, .int x1]) (rest := []) pu_g242 ⟨pu_c85, by decide⟩ rfl rfl rfl rfl rfl (pu_CI (pu_I_imp H (fun y5 D6 H => ?_)))
  refine pu_istore_n (L' := [.ref 85, .int x1, .int y5]) (Or.inr rfl) rfl ?_
  refine pu_aload_n rfl ?_
  refine pu_aload_n rfl ?_
  refine pu_getR pu_kr8_16 pu_c85 pu_r85_16 ?_
  refine pu_bipush ?_
  refine pu_iload_n rfl ?_
  refine pu_iload_n rfl ?_
  refine pu_cv (vs := [.ref 90, .int 6, .int y5, .int x1]) (rest := []) pu_g242 ⟨pu_c85, by decide⟩ rfl rfl rfl rfl rfl (pu_CI (pu_I_imp H (fun y7 D8 H => ?_)))
  refine pu_istore_n (L' := [.ref 85, .int x1, .int y7]) (Or.inr rfl) rfl ?_
  refine pu_aload_n rfl ?_
  refine pu_aload_n rfl ?_
  refine pu_getR pu_kr8_17 pu_c85 pu_r85_17 ?_
  refine pu_bipush ?_
  refine pu_iload_n rfl ?_
  refine pu_iload_n rfl ?_
  refine pu_cv (vs := [.ref 91, .int 9, .int y7, .int x1]) (rest := []) pu_g242 ⟨pu_c85, by decide⟩ rfl rfl rfl rfl rfl (pu_CI (pu_I_imp H (fun y9 D10 H => ?_)))
  refine pu_istore_n (L' := [.ref 85, .int x1, .int y9]) (Or.inr rfl) rfl ?_
  refine pu_aload_n rfl ?_
  refine pu_aload_n rfl ?_
  refine pu_getR pu_kr8_18 pu_c85 pu_r85_18 ?_
  refine pu_bipush ?_
  refine pu_iload_n rfl ?_
  refine pu_iload_n rfl ?_
  refine pu_cv (vs := [.ref 92, .int 9, .int y9, .int x1]) (rest := []) pu_g242 ⟨pu_c85, by decide⟩ rfl rfl rfl rfl rfl (pu_CI (pu_I_imp H (fun y11 D12 H => ?_)))
  refine pu_istore_n (L' := [.ref 85, .int x1, .int y11]) (Or.inr rfl) rfl ?_
  refine pu_aload_n rfl ?_
  refine pu_aload_n rfl ?_
  refine pu_getR pu_kr8_19 pu_c85 pu_r85_19 ?_
  refine pu_bipush ?_
  refine pu_iload_n rfl ?_
  refine pu_iload_n rfl ?_
  refine pu_cv (vs := [.ref 93, .int 9, .int y11, .int x1]) (rest := []) pu_g242 ⟨pu_c85, by decide⟩ rfl rfl rfl rfl rfl (pu_CI (pu_I_imp H (fun y13 D14 H => ?_)))
  refine pu_istore_n (L' := [.ref 85, .int x1, .int y13]) (Or.inr rfl) rfl ?_
  refine pu_aload_n rfl ?_
  refine pu_aload_n rfl ?_
  refine pu_getR pu_kr8_20 pu_c85 pu_r85_20 ?_
  refine pu_bipush ?_
  refine pu_iload_n rfl ?_
  refine pu_iload_n rfl ?_
  refine pu_cv (vs := [.ref 94, .int 9, .int y13, .int x1]) (rest := []) pu_g242 ⟨pu_c85, by decide⟩ rfl rfl rfl rfl rfl (pu_CI (pu_I_imp H (fun y15 D16 H => ?_)))
  refine pu_istore_n (L' := [.ref 85, .int x1, .int y15]) (Or.inr rfl) rfl ?_
  refine pu_aload_n rfl ?_
  refine pu_aload_n rfl ?_
  refine pu_getR pu_kr8_21 pu_c85 pu_r85_21 ?_
  refine pu_bipush ?_
  refine pu_iload_n rfl ?_
  refine pu_iload_n rfl ?_
  refine pu_cv (vs := [.ref 95, .int 12, .int y15, .int x1]) (rest := []) pu_g242 ⟨pu_c85, by decide⟩ rfl rfl rfl rfl rfl (pu_CI (pu_I_imp H (fun y17 D18 H => ?_)))
  refine pu_istore_n (L' := [.ref 85, .int x1, .int y17]) (Or.inr rfl) rfl ?_
  refine pu_aload_n rfl ?_
  refine pu_aload_n rfl ?_
  refine pu_getR pu_kr8_22 pu_c85 pu_r85_22 ?_
  refine pu_bipush ?_
  refine pu_iload_n rfl ?_
  refine pu_iload_n rfl ?_
  refine pu_cv (vs := [.ref 96, .int 12, .int y17, .int x1]) (rest := []) pu_g242 ⟨pu_c85, by decide⟩ rfl rfl rfl rfl rfl (pu_CI (pu_I_imp H (fun y19 D20 H => ?_)))
  refine pu_istore_n (L' := [.ref 85, .int x1, .int y19]) (Or.inr rfl) rfl ?_
  refine pu_aload_n rfl ?_
  refine pu_aload_n rfl ?_
  refine pu_getR pu_kr8_23 pu_c85 pu_r85_23 ?_
  refine pu_bipush ?_
  refine pu_iload_n rfl ?_
  refine pu_iload_n rfl ?_
  refine pu_cv (vs := [.ref 97, .int 12, .int y19, .int x1]) (rest := []) pu_g242 ⟨pu_c85, by decide⟩ rfl rfl rfl rfl rfl (pu_CI (pu_I_imp H (fun y21 D22 H => ?_)))
  refine pu_istore_n (L' := [.ref 85, .int x1, .int y21]) (Or.inr rfl) rfl ?_
  refine pu_aload_n rfl ?_
  refine pu_aload_n rfl ?_
  refine pu_getR pu_kr8_24 pu_c85 pu_r85_24 ?_
  refine pu_bipush ?_
  refine pu_iload_n rfl ?_
  refine pu_iload_n rfl ?_
  refine pu_cv (vs := [.ref 98, .int 12, .int y21, .int x1]) (rest := []) pu_g242 ⟨pu_c85, by decide⟩ rfl rfl rfl rfl rfl (pu_CI (pu_I_imp H (fun y23 D24 H => ?_)))
  refine pu_istore_n (L' := [.ref 85, .int x1, .int y23]) (Or.inr rfl) rfl ?_
  refine pu_aload_n rfl ?_
  refine pu_aload_n rfl ?_
  refine pu_getR pu_kr8_25 pu_c85 pu_r85_25 ?_
  refine pu_bipush ?_
  refine pu_iload_n rfl ?_
  refine pu_iload_n rfl ?_
  refine pu_cv (vs := [.ref 99, .int 8, .int y23, .int x1]) (rest := []) pu_g242 ⟨pu_c85, by decide⟩ rfl rfl rfl rfl rfl (pu_CI (pu_I_imp H (fun y25 D26 H => ?_)))
  refine pu_istore_n (L' := [.ref 85, .int x1, .int y25]) (Or.inr rfl) rfl ?_
  refine pu_aload_n rfl ?_
  refine pu_aload_n rfl ?_
  refine pu_getR pu_kr8_26 pu_c85 pu_r85_26 ?_
  refine pu_bipush ?_
  refine pu_iload_n rfl ?_
  refine pu_iload_n rfl ?_
  refine pu_cv (vs := [.ref 100, .int 8, .int y25, .int x1]) (rest := []) pu_g242 ⟨pu_c85, by decide⟩ rfl rfl rfl rfl rfl (pu_CI (pu_I_imp H (fun y27 D28 H => ?_)))
  refine pu_istore_n (L' := [.ref 85, .int x1, .int y27]) (Or.inr rfl) rfl ?_
  refine pu_aload_n rfl ?_
  refine pu_aload_n rfl ?_
  refine pu_getR pu_kr8_27 pu_c85 pu_r85_27 ?_
  refine pu_bipush ?_
  refine pu_iload_n rfl ?_
  refine pu_iload_n rfl ?_
  refine pu_cv (vs := [.ref 101, .int 8, .int y27, .int x1]) (rest := []) pu_g242 ⟨pu_c85, by decide⟩ rfl rfl rfl rfl rfl (pu_CI (pu_I_imp H (fun y29 D30 H => ?_)))
  refine pu_istore_n (L' := [.ref 85, .int x1, .int y29]) (Or.inr rfl) rfl ?_
  refine pu_aload_n rfl ?_
  refine pu_aload_n rfl ?_
  refine pu_getR pu_kr8_28 pu_c85 pu_r85_28 ?_
  refine pu_bipush ?_
  refine pu_iload_n rfl ?_
  refine pu_iload_n rfl ?_
  refine pu_cv (vs := [.ref 102, .int 6, .int y29, .int x1]) (rest := []) pu_g242 ⟨pu_c85, by decide⟩ rfl rfl rfl rfl rfl (pu_CI (pu_I_imp H (fun y31 D32 H => ?_)))
  refine pu_pop rfl ?_
  refine pu_aload_n rfl ?_
  refine pu_aload_n rfl ?_
  refine pu_getR pu_kr8_50 pu_c85 pu_r85_50 ?_
  refine pu_iload_n rfl ?_
  refine pu_cv (vs := [.ref 117, .int x1]) (rest := []) pu_g191 ⟨pu_c85, by decide⟩ rfl rfl rfl rfl rfl (pu_CV (pu_V_imp H (fun D34 H => ?_)))
  exact pu_vret pu_rt243 H
/-- LightAlongModel.image()I -/
theorem pu_e244 {X : px_X}  {D : pu_D} {P : Int32 → pu_D → Prop} 
    (H : pu_V X 243 [.ref 85, .int 0] (pu_wi D 85 51 1) (fun D2 => P (D2.1 85 1) D2)) :
    pu_I X 244 [.ref 85] D P := by
  refine pu_ent (E := [.ref 85]) pu_n244.1 pu_n244.2 pu_t244_0 rfl ?_
  refine pu_aload_n rfl ?_
  refine pu_iconst ?_
  refine pu_putZ pu_p8_51 pu_c85 (by decide) ?_
  refine pu_aload_n rfl ?_
  refine pu_iconst ?_
  refine pu_cv (vs := [.int 0]) (rest := []) pu_g243 ⟨pu_c85, by decide⟩ rfl rfl rfl rfl rfl (pu_CV (pu_V_imp H (fun D2 H => ?_)))
  refine pu_aload_n rfl ?_
  refine pu_getI pu_k8_1 pu_c85 ?_
  exact pu_iretI pu_rt244 H
/-- LightAlongModel.restore()I -/
theorem pu_e245 {X : px_X}  {D : pu_D} {P : Int32 → pu_D → Prop} 
    (H : if (D.1 85 51) = 0 then (pu_I X 149 [.ref 85, .int (-6)] D (fun y4 D5 => P y4 D5)) else (pu_V X 243 [.ref 85, .int 1] D (fun D3 => P (D3.1 85 1) D3))) :
    pu_I X 245 [.ref 85] D P := by
  refine pu_ent (E := [.ref 85]) pu_n245.1 pu_n245.2 pu_t245_0 rfl ?_
  refine pu_aload_n rfl ?_
  refine pu_getI pu_k8_51 pu_c85 ?_
  refine pu_ne0 pu_t245_14 (fun h1 => ?_) (fun h1 => ?_)
  · replace H := pu_f h1 H
    refine pu_aload_n rfl ?_
    refine pu_iconst ?_
    refine pu_cv (vs := [.int 1]) (rest := []) pu_g243 ⟨pu_c85, by decide⟩ rfl rfl rfl rfl rfl (pu_CV (pu_V_imp H (fun D3 H => ?_)))
    refine pu_aload_n rfl ?_
    refine pu_getI pu_k8_1 pu_c85 ?_
    exact pu_iretI pu_rt245 H
  · replace H := pu_t h1 H
    refine pu_aload_n rfl ?_
    refine pu_bipush ?_
    refine pu_cv (vs := [.int (-6)]) (rest := []) pu_g149 ⟨pu_c85, by decide⟩ rfl rfl rfl rfl rfl (pu_CI (pu_I_imp H (fun y4 D5 H => ?_)))
    exact pu_iretI pu_rt245 H
/-- LightAlongModel.status(I)I -/
def pu_h246_99 (X : px_X) (x2 : Int32) (x3 : Int32) (D : pu_D) (P : Int32 → pu_D → Prop) : Prop := ∀ z1 : Value, z1.category = 1 → pu_W X 246 (0, 0) px_c246_99 [.ref 85, z1, .int x2, .int x3] [] D (pu_qi P)
theorem pu_u246_99 {X : px_X} {x2 : Int32} {x3 : Int32} {D : pu_D} {P : Int32 → pu_D → Prop} 
    (H : if x3 < (D.1 85 1) then ((px_in x3 9 = true) ∧ if (D.1 93 x3.toNatClampNeg) = (-1) then (pu_h246_99 X (x2 + 0) (x3 + 1) D P) else ((px_in x3 9 = true) ∧ pu_h246_99 X (x2 + (D.1 94 x3.toNatClampNeg)) (x3 + 1) D P)) else (P x2 D)) :
    pu_h246_99 X x2 x3 D P := by
  intro z1 hz1
  refine pu_iload_n rfl ?_
  refine pu_aload_n rfl ?_
  refine pu_getI pu_k8_1 pu_c85 ?_
  refine pu_ge_ pu_t246_136 (fun h31 => ?_) (fun h31 => ?_)
  · replace H := pu_f h31 H
    refine pu_iload_n rfl ?_
    exact pu_iretI pu_rt246 H
  · replace H := pu_t h31 H
    refine pu_iload_n rfl ?_
    refine pu_aload_n rfl ?_
    refine pu_getR pu_kr8_19 pu_c85 pu_r85_19 ?_
    refine pu_iload_n rfl ?_
    refine pu_ial pu_c93 pu_ln93 H.1 ?_
    replace H := H.2
    refine pu_iconst ?_
    refine pu_ne_ pu_t246_122 (fun h32 => ?_) (fun h32 => ?_)
    · replace H := pu_f h32 H
      refine pu_aload_n rfl ?_
      refine pu_getR pu_kr8_20 pu_c85 pu_r85_20 ?_
      refine pu_iload_n rfl ?_
      refine pu_ial pu_c94 pu_ln94 H.1 ?_
      replace H := H.2
      refine pu_iadd ?_
      refine pu_istore_n (L' := [.ref 85, z1, .int (x2 + (D.1 94 x3.toNatClampNeg)), .int x3]) (Or.inr hz1) rfl ?_
      refine pu_iinc (L' := [.ref 85, z1, .int (x2 + (D.1 94 x3.toNatClampNeg)), .int (x3 + 1)]) rfl (Or.inr rfl) rfl ?_
      refine pu_goto pu_t246_99 ?_
      exact H _ hz1
    · replace H := pu_t h32 H
      refine pu_iconst ?_
      refine pu_goto pu_t246_128 ?_
      refine pu_iadd ?_
      refine pu_istore_n (L' := [.ref 85, z1, .int (x2 + 0), .int x3]) (Or.inr hz1) rfl ?_
      refine pu_iinc (L' := [.ref 85, z1, .int (x2 + 0), .int (x3 + 1)]) rfl (Or.inr rfl) rfl ?_
      refine pu_goto pu_t246_99 ?_
      exact H _ hz1
theorem pu_e246 {X : px_X} {x1 : Int32} {D : pu_D} {P : Int32 → pu_D → Prop} 
    (H : if x1 < 11 then (if x1 = 0 then (P (D.1 85 0) D) else if x1 = 1 then (P (D.1 85 1) D) else if x1 = 2 then (pu_I X 198 [.ref 85] D (fun y5 D6 => pu_I X 165 [.ref 85, .int y5] D6 (fun y7 D8 => P y7 D8))) else if x1 = 3 then (pu_h246_99 X 0 0 D P) else if x1 = 4 then (P (D.1 85 2) D) else if x1 = 5 then (P (D.1 85 3) D) else if x1 = 6 then (P (D.1 85 4) D) else if x1 = 7 then (P (D.1 85 5) D) else if x1 = 8 then (P (D.1 85 6) D) else if x1 = 9 then (P (D.1 85 49) D) else (P (-1) D)) else (if 17 < x1 then (if x1 = 0 then (P (D.1 85 0) D) else if x1 = 1 then (P (D.1 85 1) D) else if x1 = 2 then (pu_I X 198 [.ref 85] D (fun y20 D21 => pu_I X 165 [.ref 85, .int y20] D21 (fun y22 D23 => P y22 D23))) else if x1 = 3 then (pu_h246_99 X 0 0 D P) else if x1 = 4 then (P (D.1 85 2) D) else if x1 = 5 then (P (D.1 85 3) D) else if x1 = 6 then (P (D.1 85 4) D) else if x1 = 7 then (P (D.1 85 5) D) else if x1 = 8 then (P (D.1 85 6) D) else if x1 = 9 then (P (D.1 85 49) D) else (P (-1) D)) else ((px_in (x1 - 10) 8 = true) ∧ P (D.1 86 (x1 - 10).toNatClampNeg) D))) :
    pu_I X 246 [.ref 85, .int x1] D P := by
  refine pu_ent (E := [.ref 85, .int x1, .null, .null]) pu_n246.1 pu_n246.2 pu_t246_0 rfl ?_
  refine pu_iload_n rfl ?_
  refine pu_bipush ?_
  refine pu_lt_ pu_t246_22 (fun h1 => ?_) (fun h1 => ?_)
  · replace H := pu_t h1 H
    refine pu_iload_n rfl ?_
    by_cases h2 : x1 = 0
    · replace H := pu_t h2 H
      refine pu_tswC 0 (53) h2 (by decide +kernel) pu_t246_76 ?_
      refine pu_aload_n rfl ?_
      refine pu_getI pu_k8_0 pu_c85 ?_
      exact pu_iretI pu_rt246 H
    replace H := pu_f h2 H
    by_cases h3 : x1 = 1
    · replace H := pu_t h3 H
      refine pu_tswC 1 (58) h3 (by decide +kernel) pu_t246_81 ?_
      refine pu_aload_n rfl ?_
      refine pu_getI pu_k8_1 pu_c85 ?_
      exact pu_iretI pu_rt246 H
    replace H := pu_f h3 H
    by_cases h4 : x1 = 2
    · replace H := pu_t h4 H
      refine pu_tswC 2 (63) h4 (by decide +kernel) pu_t246_86 ?_
      refine pu_aload_n rfl ?_
      refine pu_aload_n rfl ?_
      refine pu_cv (vs := []) (rest := [.ref 85]) pu_g198 ⟨pu_c85, by decide⟩ rfl rfl rfl rfl rfl (pu_CI (pu_I_imp H (fun y5 D6 H => ?_)))
      refine pu_cv (vs := [.int y5]) (rest := []) pu_g165 ⟨pu_c85, by decide⟩ rfl rfl rfl rfl rfl (pu_CI (pu_I_imp H (fun y7 D8 H => ?_)))
      exact pu_iretI pu_rt246 H
    replace H := pu_f h4 H
    by_cases h9 : x1 = 3
    · replace H := pu_t h9 H
      refine pu_tswC 3 (72) h9 (by decide +kernel) pu_t246_95 ?_
      refine pu_iconst ?_
      refine pu_istore_n (L' := [.ref 85, .int x1, .int 0, .null]) (Or.inr rfl) rfl ?_
      refine pu_iconst ?_
      refine pu_istore_n (L' := [.ref 85, .int x1, .int 0, .int 0]) (Or.inr rfl) rfl ?_
      exact H _ rfl
    replace H := pu_f h9 H
    by_cases h10 : x1 = 4
    · replace H := pu_t h10 H
      refine pu_tswC 4 (115) h10 (by decide +kernel) pu_t246_138 ?_
      refine pu_aload_n rfl ?_
      refine pu_getI pu_k8_2 pu_c85 ?_
      exact pu_iretI pu_rt246 H
    replace H := pu_f h10 H
    by_cases h11 : x1 = 5
    · replace H := pu_t h11 H
      refine pu_tswC 5 (120) h11 (by decide +kernel) pu_t246_143 ?_
      refine pu_aload_n rfl ?_
      refine pu_getI pu_k8_3 pu_c85 ?_
      exact pu_iretI pu_rt246 H
    replace H := pu_f h11 H
    by_cases h12 : x1 = 6
    · replace H := pu_t h12 H
      refine pu_tswC 6 (125) h12 (by decide +kernel) pu_t246_148 ?_
      refine pu_aload_n rfl ?_
      refine pu_getI pu_k8_4 pu_c85 ?_
      exact pu_iretI pu_rt246 H
    replace H := pu_f h12 H
    by_cases h13 : x1 = 7
    · replace H := pu_t h13 H
      refine pu_tswC 7 (130) h13 (by decide +kernel) pu_t246_153 ?_
      refine pu_aload_n rfl ?_
      refine pu_getI pu_k8_5 pu_c85 ?_
      exact pu_iretI pu_rt246 H
    replace H := pu_f h13 H
    by_cases h14 : x1 = 8
    · replace H := pu_t h14 H
      refine pu_tswC 8 (135) h14 (by decide +kernel) pu_t246_158 ?_
      refine pu_aload_n rfl ?_
      refine pu_getI pu_k8_6 pu_c85 ?_
      exact pu_iretI pu_rt246 H
    replace H := pu_f h14 H
    by_cases h15 : x1 = 9
    · replace H := pu_t h15 H
      refine pu_tswC 9 (140) h15 (by decide +kernel) pu_t246_163 ?_
      refine pu_aload_n rfl ?_
      refine pu_getI pu_k8_49 pu_c85 ?_
      exact pu_iretI pu_rt246 H
    replace H := pu_f h15 H
    refine pu_tswD [0, 1, 2, 3, 4, 5, 6, 7, 8, 9] (by simp only [List.mem_cons, List.not_mem_nil, or_false, not_or]; exact ⟨h2, h3, h4, h9, h10, h11, h12, h13, h14, h15⟩) (by decide +kernel) pu_t246_168 ?_
    refine pu_iconst ?_
    exact pu_iretI pu_rt246 H
  · replace H := pu_f h1 H
    refine pu_iload_n rfl ?_
    refine pu_bipush ?_
    refine pu_gt_ pu_t246_22 (fun h16 => ?_) (fun h16 => ?_)
    · replace H := pu_t h16 H
      refine pu_iload_n rfl ?_
      by_cases h17 : x1 = 0
      · replace H := pu_t h17 H
        refine pu_tswC 0 (53) h17 (by decide +kernel) pu_t246_76 ?_
        refine pu_aload_n rfl ?_
        refine pu_getI pu_k8_0 pu_c85 ?_
        exact pu_iretI pu_rt246 H
      replace H := pu_f h17 H
      by_cases h18 : x1 = 1
      · replace H := pu_t h18 H
        refine pu_tswC 1 (58) h18 (by decide +kernel) pu_t246_81 ?_
        refine pu_aload_n rfl ?_
        refine pu_getI pu_k8_1 pu_c85 ?_
        exact pu_iretI pu_rt246 H
      replace H := pu_f h18 H
      by_cases h19 : x1 = 2
      · replace H := pu_t h19 H
        refine pu_tswC 2 (63) h19 (by decide +kernel) pu_t246_86 ?_
        refine pu_aload_n rfl ?_
        refine pu_aload_n rfl ?_
        refine pu_cv (vs := []) (rest := [.ref 85]) pu_g198 ⟨pu_c85, by decide⟩ rfl rfl rfl rfl rfl (pu_CI (pu_I_imp H (fun y20 D21 H => ?_)))
        refine pu_cv (vs := [.int y20]) (rest := []) pu_g165 ⟨pu_c85, by decide⟩ rfl rfl rfl rfl rfl (pu_CI (pu_I_imp H (fun y22 D23 H => ?_)))
        exact pu_iretI pu_rt246 H
      replace H := pu_f h19 H
      by_cases h24 : x1 = 3
      · replace H := pu_t h24 H
        refine pu_tswC 3 (72) h24 (by decide +kernel) pu_t246_95 ?_
        refine pu_iconst ?_
        refine pu_istore_n (L' := [.ref 85, .int x1, .int 0, .null]) (Or.inr rfl) rfl ?_
        refine pu_iconst ?_
        refine pu_istore_n (L' := [.ref 85, .int x1, .int 0, .int 0]) (Or.inr rfl) rfl ?_
        exact H _ rfl
      replace H := pu_f h24 H
      by_cases h25 : x1 = 4
      · replace H := pu_t h25 H
        refine pu_tswC 4 (115) h25 (by decide +kernel) pu_t246_138 ?_
        refine pu_aload_n rfl ?_
        refine pu_getI pu_k8_2 pu_c85 ?_
        exact pu_iretI pu_rt246 H
      replace H := pu_f h25 H
      by_cases h26 : x1 = 5
      · replace H := pu_t h26 H
        refine pu_tswC 5 (120) h26 (by decide +kernel) pu_t246_143 ?_
        refine pu_aload_n rfl ?_
        refine pu_getI pu_k8_3 pu_c85 ?_
        exact pu_iretI pu_rt246 H
      replace H := pu_f h26 H
      by_cases h27 : x1 = 6
      · replace H := pu_t h27 H
        refine pu_tswC 6 (125) h27 (by decide +kernel) pu_t246_148 ?_
        refine pu_aload_n rfl ?_
        refine pu_getI pu_k8_4 pu_c85 ?_
        exact pu_iretI pu_rt246 H
      replace H := pu_f h27 H
      by_cases h28 : x1 = 7
      · replace H := pu_t h28 H
        refine pu_tswC 7 (130) h28 (by decide +kernel) pu_t246_153 ?_
        refine pu_aload_n rfl ?_
        refine pu_getI pu_k8_5 pu_c85 ?_
        exact pu_iretI pu_rt246 H
      replace H := pu_f h28 H
      by_cases h29 : x1 = 8
      · replace H := pu_t h29 H
        refine pu_tswC 8 (135) h29 (by decide +kernel) pu_t246_158 ?_
        refine pu_aload_n rfl ?_
        refine pu_getI pu_k8_6 pu_c85 ?_
        exact pu_iretI pu_rt246 H
      replace H := pu_f h29 H
      by_cases h30 : x1 = 9
      · replace H := pu_t h30 H
        refine pu_tswC 9 (140) h30 (by decide +kernel) pu_t246_163 ?_
        refine pu_aload_n rfl ?_
        refine pu_getI pu_k8_49 pu_c85 ?_
        exact pu_iretI pu_rt246 H
      replace H := pu_f h30 H
      refine pu_tswD [0, 1, 2, 3, 4, 5, 6, 7, 8, 9] (by simp only [List.mem_cons, List.not_mem_nil, or_false, not_or]; exact ⟨h17, h18, h19, h24, h25, h26, h27, h28, h29, h30⟩) (by decide +kernel) pu_t246_168 ?_
      refine pu_iconst ?_
      exact pu_iretI pu_rt246 H
    · replace H := pu_f h16 H
      refine pu_aload_n rfl ?_
      refine pu_getR pu_kr8_12 pu_c85 pu_r85_12 ?_
      refine pu_iload_n rfl ?_
      refine pu_bipush ?_
      refine pu_isub ?_
      refine pu_ial pu_c86 pu_ln86 H.1 ?_
      replace H := H.2
      exact pu_iretI pu_rt246 H
/-- java/lang/Integer.bitCount(I)I -/
theorem pu_e247 {X : px_X} {x0 : Int32} {D : pu_D} {P : Int32 → pu_D → Prop} 
    (H : P ((((((((x0 - (((Int32.toUInt32 x0 >>> (Int32.toUInt32 1 &&& Int32.toUInt32 31)).toInt32) &&& 1431655765)) &&& 858993459) + (((Int32.toUInt32 (x0 - (((Int32.toUInt32 x0 >>> (Int32.toUInt32 1 &&& Int32.toUInt32 31)).toInt32) &&& 1431655765)) >>> (Int32.toUInt32 2 &&& Int32.toUInt32 31)).toInt32) &&& 858993459)) + ((Int32.toUInt32 (((x0 - (((Int32.toUInt32 x0 >>> (Int32.toUInt32 1 &&& Int32.toUInt32 31)).toInt32) &&& 1431655765)) &&& 858993459) + (((Int32.toUInt32 (x0 - (((Int32.toUInt32 x0 >>> (Int32.toUInt32 1 &&& Int32.toUInt32 31)).toInt32) &&& 1431655765)) >>> (Int32.toUInt32 2 &&& Int32.toUInt32 31)).toInt32) &&& 858993459)) >>> (Int32.toUInt32 4 &&& Int32.toUInt32 31)).toInt32)) &&& 252645135) + ((Int32.toUInt32 (((((x0 - (((Int32.toUInt32 x0 >>> (Int32.toUInt32 1 &&& Int32.toUInt32 31)).toInt32) &&& 1431655765)) &&& 858993459) + (((Int32.toUInt32 (x0 - (((Int32.toUInt32 x0 >>> (Int32.toUInt32 1 &&& Int32.toUInt32 31)).toInt32) &&& 1431655765)) >>> (Int32.toUInt32 2 &&& Int32.toUInt32 31)).toInt32) &&& 858993459)) + ((Int32.toUInt32 (((x0 - (((Int32.toUInt32 x0 >>> (Int32.toUInt32 1 &&& Int32.toUInt32 31)).toInt32) &&& 1431655765)) &&& 858993459) + (((Int32.toUInt32 (x0 - (((Int32.toUInt32 x0 >>> (Int32.toUInt32 1 &&& Int32.toUInt32 31)).toInt32) &&& 1431655765)) >>> (Int32.toUInt32 2 &&& Int32.toUInt32 31)).toInt32) &&& 858993459)) >>> (Int32.toUInt32 4 &&& Int32.toUInt32 31)).toInt32)) &&& 252645135) >>> (Int32.toUInt32 8 &&& Int32.toUInt32 31)).toInt32)) + ((Int32.toUInt32 ((((((x0 - (((Int32.toUInt32 x0 >>> (Int32.toUInt32 1 &&& Int32.toUInt32 31)).toInt32) &&& 1431655765)) &&& 858993459) + (((Int32.toUInt32 (x0 - (((Int32.toUInt32 x0 >>> (Int32.toUInt32 1 &&& Int32.toUInt32 31)).toInt32) &&& 1431655765)) >>> (Int32.toUInt32 2 &&& Int32.toUInt32 31)).toInt32) &&& 858993459)) + ((Int32.toUInt32 (((x0 - (((Int32.toUInt32 x0 >>> (Int32.toUInt32 1 &&& Int32.toUInt32 31)).toInt32) &&& 1431655765)) &&& 858993459) + (((Int32.toUInt32 (x0 - (((Int32.toUInt32 x0 >>> (Int32.toUInt32 1 &&& Int32.toUInt32 31)).toInt32) &&& 1431655765)) >>> (Int32.toUInt32 2 &&& Int32.toUInt32 31)).toInt32) &&& 858993459)) >>> (Int32.toUInt32 4 &&& Int32.toUInt32 31)).toInt32)) &&& 252645135) + ((Int32.toUInt32 (((((x0 - (((Int32.toUInt32 x0 >>> (Int32.toUInt32 1 &&& Int32.toUInt32 31)).toInt32) &&& 1431655765)) &&& 858993459) + (((Int32.toUInt32 (x0 - (((Int32.toUInt32 x0 >>> (Int32.toUInt32 1 &&& Int32.toUInt32 31)).toInt32) &&& 1431655765)) >>> (Int32.toUInt32 2 &&& Int32.toUInt32 31)).toInt32) &&& 858993459)) + ((Int32.toUInt32 (((x0 - (((Int32.toUInt32 x0 >>> (Int32.toUInt32 1 &&& Int32.toUInt32 31)).toInt32) &&& 1431655765)) &&& 858993459) + (((Int32.toUInt32 (x0 - (((Int32.toUInt32 x0 >>> (Int32.toUInt32 1 &&& Int32.toUInt32 31)).toInt32) &&& 1431655765)) >>> (Int32.toUInt32 2 &&& Int32.toUInt32 31)).toInt32) &&& 858993459)) >>> (Int32.toUInt32 4 &&& Int32.toUInt32 31)).toInt32)) &&& 252645135) >>> (Int32.toUInt32 8 &&& Int32.toUInt32 31)).toInt32)) >>> (Int32.toUInt32 16 &&& Int32.toUInt32 31)).toInt32)) &&& 63) D) :
    pu_I X 247 [.int x0] D P := by
  refine pu_ent (E := [.int x0]) pu_n247.1 pu_n247.2 pu_t247_0 rfl ?_
  refine pu_iload_n rfl ?_
  refine pu_iload_n rfl ?_
  refine pu_iconst ?_
  refine pu_iushr ?_
  refine pu_ldc_w (by decide) ?_
  refine pu_iand ?_
  refine pu_isub ?_
  refine pu_istore_n (L' := [.int (x0 - (((Int32.toUInt32 x0 >>> (Int32.toUInt32 1 &&& Int32.toUInt32 31)).toInt32) &&& 1431655765))]) (Or.inl rfl) rfl ?_
  refine pu_iload_n rfl ?_
  refine pu_ldc_w (by decide) ?_
  refine pu_iand ?_
  refine pu_iload_n rfl ?_
  refine pu_iconst ?_
  refine pu_iushr ?_
  refine pu_ldc_w (by decide) ?_
  refine pu_iand ?_
  refine pu_iadd ?_
  refine pu_istore_n (L' := [.int (((x0 - (((Int32.toUInt32 x0 >>> (Int32.toUInt32 1 &&& Int32.toUInt32 31)).toInt32) &&& 1431655765)) &&& 858993459) + (((Int32.toUInt32 (x0 - (((Int32.toUInt32 x0 >>> (Int32.toUInt32 1 &&& Int32.toUInt32 31)).toInt32) &&& 1431655765)) >>> (Int32.toUInt32 2 &&& Int32.toUInt32 31)).toInt32) &&& 858993459))]) (Or.inl rfl) rfl ?_
  refine pu_iload_n rfl ?_
  refine pu_iload_n rfl ?_
  refine pu_iconst ?_
  refine pu_iushr ?_
  refine pu_iadd ?_
  refine pu_ldc_w (by decide) ?_
  refine pu_iand ?_
  refine pu_istore_n (L' := [.int (((((x0 - (((Int32.toUInt32 x0 >>> (Int32.toUInt32 1 &&& Int32.toUInt32 31)).toInt32) &&& 1431655765)) &&& 858993459) + (((Int32.toUInt32 (x0 - (((Int32.toUInt32 x0 >>> (Int32.toUInt32 1 &&& Int32.toUInt32 31)).toInt32) &&& 1431655765)) >>> (Int32.toUInt32 2 &&& Int32.toUInt32 31)).toInt32) &&& 858993459)) + ((Int32.toUInt32 (((x0 - (((Int32.toUInt32 x0 >>> (Int32.toUInt32 1 &&& Int32.toUInt32 31)).toInt32) &&& 1431655765)) &&& 858993459) + (((Int32.toUInt32 (x0 - (((Int32.toUInt32 x0 >>> (Int32.toUInt32 1 &&& Int32.toUInt32 31)).toInt32) &&& 1431655765)) >>> (Int32.toUInt32 2 &&& Int32.toUInt32 31)).toInt32) &&& 858993459)) >>> (Int32.toUInt32 4 &&& Int32.toUInt32 31)).toInt32)) &&& 252645135)]) (Or.inl rfl) rfl ?_
  refine pu_iload_n rfl ?_
  refine pu_iload_n rfl ?_
  refine pu_bipush ?_
  refine pu_iushr ?_
  refine pu_iadd ?_
  refine pu_istore_n (L' := [.int ((((((x0 - (((Int32.toUInt32 x0 >>> (Int32.toUInt32 1 &&& Int32.toUInt32 31)).toInt32) &&& 1431655765)) &&& 858993459) + (((Int32.toUInt32 (x0 - (((Int32.toUInt32 x0 >>> (Int32.toUInt32 1 &&& Int32.toUInt32 31)).toInt32) &&& 1431655765)) >>> (Int32.toUInt32 2 &&& Int32.toUInt32 31)).toInt32) &&& 858993459)) + ((Int32.toUInt32 (((x0 - (((Int32.toUInt32 x0 >>> (Int32.toUInt32 1 &&& Int32.toUInt32 31)).toInt32) &&& 1431655765)) &&& 858993459) + (((Int32.toUInt32 (x0 - (((Int32.toUInt32 x0 >>> (Int32.toUInt32 1 &&& Int32.toUInt32 31)).toInt32) &&& 1431655765)) >>> (Int32.toUInt32 2 &&& Int32.toUInt32 31)).toInt32) &&& 858993459)) >>> (Int32.toUInt32 4 &&& Int32.toUInt32 31)).toInt32)) &&& 252645135) + ((Int32.toUInt32 (((((x0 - (((Int32.toUInt32 x0 >>> (Int32.toUInt32 1 &&& Int32.toUInt32 31)).toInt32) &&& 1431655765)) &&& 858993459) + (((Int32.toUInt32 (x0 - (((Int32.toUInt32 x0 >>> (Int32.toUInt32 1 &&& Int32.toUInt32 31)).toInt32) &&& 1431655765)) >>> (Int32.toUInt32 2 &&& Int32.toUInt32 31)).toInt32) &&& 858993459)) + ((Int32.toUInt32 (((x0 - (((Int32.toUInt32 x0 >>> (Int32.toUInt32 1 &&& Int32.toUInt32 31)).toInt32) &&& 1431655765)) &&& 858993459) + (((Int32.toUInt32 (x0 - (((Int32.toUInt32 x0 >>> (Int32.toUInt32 1 &&& Int32.toUInt32 31)).toInt32) &&& 1431655765)) >>> (Int32.toUInt32 2 &&& Int32.toUInt32 31)).toInt32) &&& 858993459)) >>> (Int32.toUInt32 4 &&& Int32.toUInt32 31)).toInt32)) &&& 252645135) >>> (Int32.toUInt32 8 &&& Int32.toUInt32 31)).toInt32))]) (Or.inl rfl) rfl ?_
  refine pu_iload_n rfl ?_
  refine pu_iload_n rfl ?_
  refine pu_bipush ?_
  refine pu_iushr ?_
  refine pu_iadd ?_
  refine pu_istore_n (L' := [.int (((((((x0 - (((Int32.toUInt32 x0 >>> (Int32.toUInt32 1 &&& Int32.toUInt32 31)).toInt32) &&& 1431655765)) &&& 858993459) + (((Int32.toUInt32 (x0 - (((Int32.toUInt32 x0 >>> (Int32.toUInt32 1 &&& Int32.toUInt32 31)).toInt32) &&& 1431655765)) >>> (Int32.toUInt32 2 &&& Int32.toUInt32 31)).toInt32) &&& 858993459)) + ((Int32.toUInt32 (((x0 - (((Int32.toUInt32 x0 >>> (Int32.toUInt32 1 &&& Int32.toUInt32 31)).toInt32) &&& 1431655765)) &&& 858993459) + (((Int32.toUInt32 (x0 - (((Int32.toUInt32 x0 >>> (Int32.toUInt32 1 &&& Int32.toUInt32 31)).toInt32) &&& 1431655765)) >>> (Int32.toUInt32 2 &&& Int32.toUInt32 31)).toInt32) &&& 858993459)) >>> (Int32.toUInt32 4 &&& Int32.toUInt32 31)).toInt32)) &&& 252645135) + ((Int32.toUInt32 (((((x0 - (((Int32.toUInt32 x0 >>> (Int32.toUInt32 1 &&& Int32.toUInt32 31)).toInt32) &&& 1431655765)) &&& 858993459) + (((Int32.toUInt32 (x0 - (((Int32.toUInt32 x0 >>> (Int32.toUInt32 1 &&& Int32.toUInt32 31)).toInt32) &&& 1431655765)) >>> (Int32.toUInt32 2 &&& Int32.toUInt32 31)).toInt32) &&& 858993459)) + ((Int32.toUInt32 (((x0 - (((Int32.toUInt32 x0 >>> (Int32.toUInt32 1 &&& Int32.toUInt32 31)).toInt32) &&& 1431655765)) &&& 858993459) + (((Int32.toUInt32 (x0 - (((Int32.toUInt32 x0 >>> (Int32.toUInt32 1 &&& Int32.toUInt32 31)).toInt32) &&& 1431655765)) >>> (Int32.toUInt32 2 &&& Int32.toUInt32 31)).toInt32) &&& 858993459)) >>> (Int32.toUInt32 4 &&& Int32.toUInt32 31)).toInt32)) &&& 252645135) >>> (Int32.toUInt32 8 &&& Int32.toUInt32 31)).toInt32)) + ((Int32.toUInt32 ((((((x0 - (((Int32.toUInt32 x0 >>> (Int32.toUInt32 1 &&& Int32.toUInt32 31)).toInt32) &&& 1431655765)) &&& 858993459) + (((Int32.toUInt32 (x0 - (((Int32.toUInt32 x0 >>> (Int32.toUInt32 1 &&& Int32.toUInt32 31)).toInt32) &&& 1431655765)) >>> (Int32.toUInt32 2 &&& Int32.toUInt32 31)).toInt32) &&& 858993459)) + ((Int32.toUInt32 (((x0 - (((Int32.toUInt32 x0 >>> (Int32.toUInt32 1 &&& Int32.toUInt32 31)).toInt32) &&& 1431655765)) &&& 858993459) + (((Int32.toUInt32 (x0 - (((Int32.toUInt32 x0 >>> (Int32.toUInt32 1 &&& Int32.toUInt32 31)).toInt32) &&& 1431655765)) >>> (Int32.toUInt32 2 &&& Int32.toUInt32 31)).toInt32) &&& 858993459)) >>> (Int32.toUInt32 4 &&& Int32.toUInt32 31)).toInt32)) &&& 252645135) + ((Int32.toUInt32 (((((x0 - (((Int32.toUInt32 x0 >>> (Int32.toUInt32 1 &&& Int32.toUInt32 31)).toInt32) &&& 1431655765)) &&& 858993459) + (((Int32.toUInt32 (x0 - (((Int32.toUInt32 x0 >>> (Int32.toUInt32 1 &&& Int32.toUInt32 31)).toInt32) &&& 1431655765)) >>> (Int32.toUInt32 2 &&& Int32.toUInt32 31)).toInt32) &&& 858993459)) + ((Int32.toUInt32 (((x0 - (((Int32.toUInt32 x0 >>> (Int32.toUInt32 1 &&& Int32.toUInt32 31)).toInt32) &&& 1431655765)) &&& 858993459) + (((Int32.toUInt32 (x0 - (((Int32.toUInt32 x0 >>> (Int32.toUInt32 1 &&& Int32.toUInt32 31)).toInt32) &&& 1431655765)) >>> (Int32.toUInt32 2 &&& Int32.toUInt32 31)).toInt32) &&& 858993459)) >>> (Int32.toUInt32 4 &&& Int32.toUInt32 31)).toInt32)) &&& 252645135) >>> (Int32.toUInt32 8 &&& Int32.toUInt32 31)).toInt32)) >>> (Int32.toUInt32 16 &&& Int32.toUInt32 31)).toInt32))]) (Or.inl rfl) rfl ?_
  refine pu_iload_n rfl ?_
  refine pu_bipush ?_
  refine pu_iand ?_
  exact pu_iretI pu_rt247 H
/-- java/lang/String.length()I -/
theorem pu_e251 {X : px_X} {q0 : Nat} {D : pu_D} {P : Int32 → pu_D → Prop} (hq0 : 1000 ≤ q0 ∧ q0 < 1011)
    (H : pu_I X 253 [.ref q0] D (fun y1 D2 => P ((Int32.ofNat (pu_sl q0)) >>> (y1 &&& 31)) D2)) :
    pu_I X 251 [.ref q0] D P := by
  refine pu_ent (E := [.ref q0]) pu_n251.1 pu_n251.2 pu_t251_0 rfl ?_
  refine pu_aload_n rfl ?_
  refine pu_getS0 hq0 ?_
  refine pu_alenS hq0 ?_
  refine pu_aload_n rfl ?_
  refine pu_cvS (vs := []) (rest := [.int (Int32.ofNat (pu_sl q0))]) pu_g253 hq0 rfl rfl rfl rfl rfl (pu_CI (pu_I_imp H (fun y1 D2 H => ?_)))
  refine pu_ishr ?_
  exact pu_iretI pu_rt251 H
/-- java/lang/String.charAt(I)C -/
theorem pu_e252 {X : px_X} {q0 : Nat} {x1 : Int32} {D : pu_D} {P : Int32 → pu_D → Prop} (hq0 : 1000 ≤ q0 ∧ q0 < 1011)
    (H : pu_I X 254 [.ref q0] D (fun y1 D2 => if y1 = 0 then (False) else (pu_I X 256 [.ref (q0 + 100), .int x1] D2 (fun y4 D5 => (px_rti (px_rt 252) y4 = true) ∧ P y4 D5)))) :
    pu_I X 252 [.ref q0, .int x1] D P := by
  refine pu_ent (E := [.ref q0, .int x1]) pu_n252.1 pu_n252.2 pu_t252_0 rfl ?_
  refine pu_aload_n rfl ?_
  refine pu_cvS (vs := []) (rest := []) pu_g254 hq0 rfl rfl rfl rfl rfl (pu_CI (pu_I_imp H (fun y1 D2 H => ?_)))
  refine pu_eq0 pu_t252_16 (fun h3 => ?_) (fun h3 => ?_)
  · replace H := pu_t h3 H
    refine pu_aload_n rfl ?_
    refine pu_getS0 hq0 ?_
    refine pu_iload_n rfl ?_
    exact False.elim H
  · replace H := pu_f h3 H
    refine pu_aload_n rfl ?_
    refine pu_getS0 hq0 ?_
    refine pu_iload_n rfl ?_
    refine pu_cs (vs := [.ref (q0 + 100), .int x1]) (rest := []) pu_g256 rfl rfl rfl rfl rfl (pu_CI (pu_I_imp H (fun y4 D5 H => ?_)))
    exact pu_iretT pu_rt252 (by rw [← pu_rt252]; exact H.1) H.2
/-- java/lang/String.coder()B -/
theorem pu_e253 {X : px_X} {q0 : Nat} {D : pu_D} {P : Int32 → pu_D → Prop} (hq0 : 1000 ≤ q0 ∧ q0 < 1011)
    (H : (px_rti (px_rt 253) 0 = true) ∧ P 0 D) :
    pu_I X 253 [.ref q0] D P := by
  refine pu_ent (E := [.ref q0]) pu_n253.1 pu_n253.2 pu_t253_0 rfl ?_
  refine pu_gs4 ?_
  refine pu_ifF (by decide) ?_
  refine pu_aload_n rfl ?_
  refine pu_getS1 hq0 ?_
  refine pu_goto pu_t253_14 ?_
  exact pu_iretT pu_rt253 (by rw [← pu_rt253]; exact H.1) H.2
/-- java/lang/String.isLatin1()Z -/
theorem pu_e254 {X : px_X} {q0 : Nat} {D : pu_D} {P : Int32 → pu_D → Prop} (hq0 : 1000 ≤ q0 ∧ q0 < 1011)
    (H : P 1 D) :
    pu_I X 254 [.ref q0] D P := by
  refine pu_ent (E := [.ref q0]) pu_n254.1 pu_n254.2 pu_t254_0 rfl ?_
  refine pu_gs4 ?_
  refine pu_ifF (by decide) ?_
  refine pu_aload_n rfl ?_
  refine pu_getS1 hq0 ?_
  refine pu_ifF (by decide) ?_
  refine pu_iconst ?_
  refine pu_goto pu_t254_18 ?_
  exact pu_iretZ pu_rt254 (by decide) H
/-- java/lang/String.checkIndex(II)V -/
theorem pu_e255 {X : px_X} {x0 : Int32} {x1 : Int32} {D : pu_D} {P : pu_D → Prop} 
    (H : pu_I X 259 [.int x0, .int x1, .retAddr 0] D (fun y1 D2 => P D2)) :
    pu_V X 255 [.int x0, .int x1] D P := by
  refine pu_ent (E := [.int x0, .int x1]) pu_n255.1 pu_n255.2 pu_t255_0 rfl ?_
  refine pu_iload_n rfl ?_
  refine pu_iload_n rfl ?_
  refine pu_gs5 ?_
  refine pu_cs (vs := [.int x0, .int x1, .retAddr 0]) (rest := []) pu_g259 rfl rfl rfl rfl rfl (pu_CI (pu_I_imp H (fun y1 D2 H => ?_)))
  refine pu_pop rfl ?_
  exact pu_vret pu_rt255 H
/-- java/lang/StringLatin1.charAt([BI)C -/
theorem pu_e256 {X : px_X} {q0 : Nat} {x1 : Int32} {D : pu_D} {P : Int32 → pu_D → Prop} (hq0 : 1000 ≤ q0 ∧ q0 < 1011)
    (H : pu_V X 255 [.int x1, .int (Int32.ofNat (pu_sl q0))] D (fun D2 => (px_in x1 (pu_sl q0) = true) ∧ (px_rti (px_rt 256) ((Int32.toUInt32 ((pu_sb q0 x1.toNatClampNeg) &&& 255) % 65536).toInt32) = true) ∧ P ((Int32.toUInt32 ((pu_sb q0 x1.toNatClampNeg) &&& 255) % 65536).toInt32) D2)) :
    pu_I X 256 [.ref (q0 + 100), .int x1] D P := by
  refine pu_ent (E := [.ref (q0 + 100), .int x1]) pu_n256.1 pu_n256.2 pu_t256_0 rfl ?_
  refine pu_iload_n rfl ?_
  refine pu_aload_n rfl ?_
  refine pu_alenS hq0 ?_
  refine pu_cs (vs := [.int x1, .int (Int32.ofNat (pu_sl q0))]) (rest := []) pu_g255 rfl rfl rfl rfl rfl (pu_CV (pu_V_imp H (fun D2 H => ?_)))
  refine pu_aload_n rfl ?_
  refine pu_iload_n rfl ?_
  refine pu_balS hq0 H.1 ?_
  replace H := H.2
  refine pu_sipush ?_
  refine pu_iand ?_
  refine pu_i2c ?_
  exact pu_iretT pu_rt256 (by rw [← pu_rt256]; exact H.1) H.2
/-- java/util/Arrays.fill([JJ)V -/
def pu_h257_6 (X : px_X) (q0 : Nat) (x1 : Int64) (x3 : Int32) (x4 : Int32) (D : pu_D) (P : pu_D → Prop) : Prop := ∀ z2 : Value, z2.category = 1 → pu_W X 257 (0, 0) px_c257_6 [.ref q0, .long x1, z2, .int x3, .int x4] [] D (pu_qv P)
theorem pu_u257_6 {X : px_X} {q0 : Nat} {x1 : Int64} {x3 : Int32} {x4 : Int32} {D : pu_D} {P : pu_D → Prop} (hq0 : pu_cl q0 = 102)
    (H : if x3 < x4 then ((px_in x3 (pu_ln q0) = true) ∧ pu_h257_6 X q0 x1 (x3 + 1) x4 (pu_wl D q0 x3.toNatClampNeg x1) P) else (P D)) :
    pu_h257_6 X q0 x1 x3 x4 D P := by
  intro z2 hz2
  refine pu_iload_n rfl ?_
  refine pu_iload rfl ?_
  refine pu_ge_ pu_t257_22 (fun h1 => ?_) (fun h1 => ?_)
  · replace H := pu_f h1 H
    exact pu_vret pu_rt257 H
  · replace H := pu_t h1 H
    refine pu_aload_n rfl ?_
    refine pu_iload_n rfl ?_
    refine pu_lload_n rfl ?_
    refine pu_las hq0 rfl H.1 ?_
    replace H := H.2
    refine pu_iinc (L' := [.ref q0, .long x1, z2, .int (x3 + 1), .int x4]) rfl (Or.inr hz2) rfl ?_
    refine pu_goto pu_t257_6 ?_
    exact H _ hz2
theorem pu_e257 {X : px_X} {q0 : Nat} {x1 : Int64} {D : pu_D} {P : pu_D → Prop} (hq0 : pu_cl q0 = 102)
    (H : pu_h257_6 X q0 x1 0 (Int32.ofNat (pu_ln q0)) D P) :
    pu_V X 257 [.ref q0, .long x1] D P := by
  refine pu_ent (E := [.ref q0, .long x1, .null, .null, .null]) pu_n257.1 pu_n257.2 pu_t257_0 rfl ?_
  refine pu_iconst ?_
  refine pu_istore_n (L' := [.ref q0, .long x1, .null, .int 0, .null]) (Or.inr rfl) rfl ?_
  refine pu_aload_n rfl ?_
  refine pu_alen (by decide) hq0 rfl ?_
  refine pu_istore (L' := [.ref q0, .long x1, .null, .int 0, .int (Int32.ofNat (pu_ln q0))]) (Or.inr rfl) rfl ?_
  exact H _ rfl
/-- java/util/Arrays.fill([II)V -/
def pu_h258_5 (X : px_X) (q0 : Nat) (x1 : Int32) (x2 : Int32) (x3 : Int32) (D : pu_D) (P : pu_D → Prop) : Prop := pu_W X 258 (0, 0) px_c258_5 [.ref q0, .int x1, .int x2, .int x3] [] D (pu_qv P)
theorem pu_u258_5 {X : px_X} {q0 : Nat} {x1 : Int32} {x2 : Int32} {x3 : Int32} {D : pu_D} {P : pu_D → Prop} (hq0 : pu_cl q0 = 100)
    (H : if x2 < x3 then ((px_in x2 (pu_ln q0) = true) ∧ pu_h258_5 X q0 x1 (x2 + 1) x3 (pu_wi D q0 x2.toNatClampNeg x1) P) else (P D)) :
    pu_h258_5 X q0 x1 x2 x3 D P := by
  refine pu_iload_n rfl ?_
  refine pu_iload_n rfl ?_
  refine pu_ge_ pu_t258_20 (fun h1 => ?_) (fun h1 => ?_)
  · replace H := pu_f h1 H
    exact pu_vret pu_rt258 H
  · replace H := pu_t h1 H
    refine pu_aload_n rfl ?_
    refine pu_iload_n rfl ?_
    refine pu_iload_n rfl ?_
    refine pu_ias hq0 rfl H.1 ?_
    replace H := H.2
    refine pu_iinc (L' := [.ref q0, .int x1, .int (x2 + 1), .int x3]) rfl (Or.inr rfl) rfl ?_
    refine pu_goto pu_t258_5 ?_
    exact H 
theorem pu_e258 {X : px_X} {q0 : Nat} {x1 : Int32} {D : pu_D} {P : pu_D → Prop} (hq0 : pu_cl q0 = 100)
    (H : pu_h258_5 X q0 x1 0 (Int32.ofNat (pu_ln q0)) D P) :
    pu_V X 258 [.ref q0, .int x1] D P := by
  refine pu_ent (E := [.ref q0, .int x1, .null, .null]) pu_n258.1 pu_n258.2 pu_t258_0 rfl ?_
  refine pu_iconst ?_
  refine pu_istore_n (L' := [.ref q0, .int x1, .int 0, .null]) (Or.inr rfl) rfl ?_
  refine pu_aload_n rfl ?_
  refine pu_alen (by decide) hq0 rfl ?_
  refine pu_istore_n (L' := [.ref q0, .int x1, .int 0, .int (Int32.ofNat (pu_ln q0))]) (Or.inr rfl) rfl ?_
  exact H 
/-- jdk/internal/util/Preconditions.checkIndex(IILjava/util/function/BiFunction;)I -/
theorem pu_e259 {X : px_X} {x0 : Int32} {x1 : Int32} {D : pu_D} {P : Int32 → pu_D → Prop} 
    (H : if x0 < 0 then (False) else (if x0 < x1 then (P x0 D) else (False))) :
    pu_I X 259 [.int x0, .int x1, .retAddr 0] D P := by
  refine pu_ent (E := [.int x0, .int x1, .retAddr 0]) pu_n259.1 pu_n259.2 pu_t259_0 rfl ?_
  refine pu_iload_n rfl ?_
  refine pu_lt0 pu_t259_9 (fun h1 => ?_) (fun h1 => ?_)
  · replace H := pu_t h1 H
    exact False.elim H
  · replace H := pu_f h1 H
    refine pu_iload_n rfl ?_
    refine pu_iload_n rfl ?_
    refine pu_lt_ pu_t259_16 (fun h2 => ?_) (fun h2 => ?_)
    · replace H := pu_t h2 H
      refine pu_iload_n rfl ?_
      exact pu_iretI pu_rt259 H
    · replace H := pu_f h2 H
      exact False.elim H
