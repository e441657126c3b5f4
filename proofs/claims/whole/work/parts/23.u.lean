/-! WHAT MUST HOLD AHEAD OF EACH METHOD, by program. -/
/-- LightAlong$Acts.forget()V -/
theorem pu_e1 {X : px_X}  {D : pu_D} {P : pu_D → Prop} 
    (H : P (pu_wi D 66 1 0)) :
    pu_V X 1 [.ref 66] D P := by
  refine pu_ent (E := [.ref 66]) pu_n1.1 pu_n1.2 pu_t1_0 rfl ?_
  refine pu_aload_n rfl ?_
  refine pu_iconst ?_
  refine pu_putI pu_p0_1 pu_c66 ?_
  exact pu_vret pu_rt1 H
/-- LightAlong$Acts.take(III)V -/
theorem pu_e2 {X : px_X} {x1 : Int32} {x2 : Int32} {x3 : Int32} {D : pu_D} {P : pu_D → Prop} 
    (H : P (pu_wi (pu_wi (pu_wi D 66 2 x1) 66 3 x2) 66 4 x3)) :
    pu_V X 2 [.ref 66, .int x1, .int x2, .int x3] D P := by
  refine pu_ent (E := [.ref 66, .int x1, .int x2, .int x3]) pu_n2.1 pu_n2.2 pu_t2_0 rfl ?_
  refine pu_aload_n rfl ?_
  refine pu_iload_n rfl ?_
  refine pu_putI pu_p0_2 pu_c66 ?_
  refine pu_aload_n rfl ?_
  refine pu_iload_n rfl ?_
  refine pu_putI pu_p0_3 pu_c66 ?_
  refine pu_aload_n rfl ?_
  refine pu_iload_n rfl ?_
  refine pu_putI pu_p0_4 pu_c66 ?_
  exact pu_vret pu_rt2 H
/-- LightAlong$Acts.bodyAt(I)I -/
theorem pu_e3 {X : px_X} {x1 : Int32} {D : pu_D} {P : Int32 → pu_D → Prop} 
    (H : if x1 < 0 then (P (-1) D) else (if x1 < (D.1 66 1) then (if x1 < 20 then ((px_in x1 20 = true) ∧ P (D.1 67 x1.toNatClampNeg) D) else (P (-1) D)) else (P (-1) D))) :
    pu_I X 3 [.ref 66, .int x1] D P := by
  refine pu_ent (E := [.ref 66, .int x1]) pu_n3.1 pu_n3.2 pu_t3_0 rfl ?_
  refine pu_iload_n rfl ?_
  refine pu_lt0 pu_t3_30 (fun h1 => ?_) (fun h1 => ?_)
  · replace H := pu_t h1 H
    refine pu_iconst ?_
    exact pu_iretI pu_rt3 H
  · replace H := pu_f h1 H
    refine pu_iload_n rfl ?_
    refine pu_aload_n rfl ?_
    refine pu_getI pu_k0_1 pu_c66 ?_
    refine pu_ge_ pu_t3_30 (fun h2 => ?_) (fun h2 => ?_)
    · replace H := pu_f h2 H
      refine pu_iconst ?_
      exact pu_iretI pu_rt3 H
    · replace H := pu_t h2 H
      refine pu_iload_n rfl ?_
      refine pu_aload_n rfl ?_
      refine pu_getR pu_kr0_0 pu_c66 pu_r66_0 ?_
      refine pu_alen (y := 20) (by decide) pu_c67 (by rw [pu_ln67]; rfl) ?_
      refine pu_ge_ pu_t3_30 (fun h3 => ?_) (fun h3 => ?_)
      · replace H := pu_f h3 H
        refine pu_iconst ?_
        exact pu_iretI pu_rt3 H
      · replace H := pu_t h3 H
        refine pu_aload_n rfl ?_
        refine pu_getR pu_kr0_0 pu_c66 pu_r66_0 ?_
        refine pu_iload_n rfl ?_
        refine pu_ial pu_c67 pu_ln67 H.1 ?_
        replace H := H.2
        refine pu_goto pu_t3_31 ?_
        exact pu_iretI pu_rt3 H
/-- LightAlong$Acts.begin(I)V -/
theorem pu_e4 {X : px_X} {x1 : Int32} {D : pu_D} {P : pu_D → Prop} 
    (H : if (D.1 66 1) < 20 then ((px_in (D.1 66 1) 20 = true) ∧ P (pu_wi (pu_wi D 67 (D.1 66 1).toNatClampNeg x1) 66 1 (((pu_wi D 67 (D.1 66 1).toNatClampNeg x1).1 66 1) + 1))) else (P (pu_wi D 66 1 ((D.1 66 1) + 1)))) :
    pu_V X 4 [.ref 66, .int x1] D P := by
  refine pu_ent (E := [.ref 66, .int x1]) pu_n4.1 pu_n4.2 pu_t4_0 rfl ?_
  refine pu_aload_n rfl ?_
  refine pu_getI pu_k0_1 pu_c66 ?_
  refine pu_aload_n rfl ?_
  refine pu_getR pu_kr0_0 pu_c66 pu_r66_0 ?_
  refine pu_alen (y := 20) (by decide) pu_c67 (by rw [pu_ln67]; rfl) ?_
  refine pu_ge_ pu_t4_22 (fun h1 => ?_) (fun h1 => ?_)
  · replace H := pu_f h1 H
    refine pu_aload_n rfl ?_
    refine pu_dup rfl ?_
    refine pu_getI pu_k0_1 pu_c66 ?_
    refine pu_iconst ?_
    refine pu_iadd ?_
    refine pu_putI pu_p0_1 pu_c66 ?_
    exact pu_vret pu_rt4 H
  · replace H := pu_t h1 H
    refine pu_aload_n rfl ?_
    refine pu_getR pu_kr0_0 pu_c66 pu_r66_0 ?_
    refine pu_aload_n rfl ?_
    refine pu_getI pu_k0_1 pu_c66 ?_
    refine pu_iload_n rfl ?_
    refine pu_ias pu_c67 pu_ln67 H.1 ?_
    replace H := H.2
    refine pu_aload_n rfl ?_
    refine pu_dup rfl ?_
    refine pu_getI pu_k0_1 pu_c66 ?_
    refine pu_iconst ?_
    refine pu_iadd ?_
    refine pu_putI pu_p0_1 pu_c66 ?_
    exact pu_vret pu_rt4 H
/-- LightAlong$Acts.burns(I)I -/
def pu_h5_14 (X : px_X) (x1 : Int32) (D : pu_D) (P : Int32 → pu_D → Prop) : Prop := ∀ z2 : Value, z2.category = 1 → pu_W X 5 (0, 0) px_c5_14 [.ref 66, .int x1, z2] [] D (pu_qi P)
def pu_h5_28 (X : px_X) (x1 : Int32) (D : pu_D) (P : Int32 → pu_D → Prop) : Prop := ∀ z2 : Value, z2.category = 1 → pu_W X 5 (0, 0) px_c5_28 [.ref 66, .int x1, z2] [] D (pu_qi P)
def pu_h5_42 (X : px_X) (x1 : Int32) (D : pu_D) (P : Int32 → pu_D → Prop) : Prop := ∀ z2 : Value, z2.category = 1 → pu_W X 5 (0, 0) px_c5_42 [.ref 66, .int x1, z2] [] D (pu_qi P)
theorem pu_u5_14 {X : px_X} {x1 : Int32} {D : pu_D} {P : Int32 → pu_D → Prop} 
    (H : if (D.1 66 2) = 3 then (pu_V X 4 [.ref 66, .int 41] D (fun D6 => pu_h5_28 X x1 D6 P)) else (pu_h5_28 X x1 D P)) :
    pu_h5_14 X x1 D P := by
  intro z2 hz2
  refine pu_aload_n rfl ?_
  refine pu_getI pu_k0_2 pu_c66 ?_
  refine pu_iconst ?_
  refine pu_ne_ pu_t5_28 (fun h4 => ?_) (fun h4 => ?_)
  · replace H := pu_f h4 H
    exact H _ hz2
  · replace H := pu_t h4 H
    refine pu_aload_n rfl ?_
    refine pu_bipush ?_
    refine pu_cv (vs := [.int 41]) (rest := []) pu_g4 ⟨pu_c66, by decide⟩ rfl rfl rfl rfl rfl (pu_CV (pu_V_imp H (fun D6 H => ?_)))
    exact H _ hz2
theorem pu_u5_28 {X : px_X} {x1 : Int32} {D : pu_D} {P : Int32 → pu_D → Prop} 
    (H : if (D.1 66 2) = 5 then (pu_V X 4 [.ref 66, .int 60] D (fun D9 => pu_h5_42 X x1 D9 P)) else (pu_h5_42 X x1 D P)) :
    pu_h5_28 X x1 D P := by
  intro z2 hz2
  refine pu_aload_n rfl ?_
  refine pu_getI pu_k0_2 pu_c66 ?_
  refine pu_iconst ?_
  refine pu_ne_ pu_t5_42 (fun h7 => ?_) (fun h7 => ?_)
  · replace H := pu_f h7 H
    exact H _ hz2
  · replace H := pu_t h7 H
    refine pu_aload_n rfl ?_
    refine pu_bipush ?_
    refine pu_cv (vs := [.int 60]) (rest := []) pu_g4 ⟨pu_c66, by decide⟩ rfl rfl rfl rfl rfl (pu_CV (pu_V_imp H (fun D9 H => ?_)))
    exact H _ hz2
theorem pu_u5_42 {X : px_X} {x1 : Int32} {D : pu_D} {P : Int32 → pu_D → Prop} 
    (H : pu_V X 4 [.ref 66, .int 10] D (fun D11 => if (D11.1 66 2) = 1 then (P ((x1 + (D11.1 66 3)) + (D11.1 66 4)) D11) else if (D11.1 66 2) = 3 then (P ((x1 + (D11.1 66 3)) - (D11.1 66 3)) D11) else if (D11.1 66 2) = 5 then (P ((x1 + (D11.1 66 3)) ^^^ 5) D11) else (P (x1 + (D11.1 66 3)) D11))) :
    pu_h5_42 X x1 D P := by
  intro z2 hz2
  refine pu_aload_n rfl ?_
  refine pu_bipush ?_
  refine pu_cv (vs := [.int 10]) (rest := []) pu_g4 ⟨pu_c66, by decide⟩ rfl rfl rfl rfl rfl (pu_CV (pu_V_imp H (fun D11 H => ?_)))
  refine pu_iload_n rfl ?_
  refine pu_aload_n rfl ?_
  refine pu_getI pu_k0_3 pu_c66 ?_
  refine pu_iadd ?_
  refine pu_istore_n (L' := [.ref 66, .int x1, .int (x1 + (D11.1 66 3))]) (Or.inr rfl) rfl ?_
  refine pu_aload_n rfl ?_
  refine pu_getI pu_k0_2 pu_c66 ?_
  by_cases h12 : (D11.1 66 2) = 1
  · replace H := pu_t h12 H
    refine pu_tswC 1 (33) h12 (by decide +kernel) pu_t5_92 ?_
    refine pu_iload_n rfl ?_
    refine pu_aload_n rfl ?_
    refine pu_getI pu_k0_4 pu_c66 ?_
    refine pu_iadd ?_
    exact pu_iretI pu_rt5 H
  replace H := pu_f h12 H
  by_cases h13 : (D11.1 66 2) = 3
  · replace H := pu_t h13 H
    refine pu_tswC 3 (40) h13 (by decide +kernel) pu_t5_99 ?_
    refine pu_iload_n rfl ?_
    refine pu_aload_n rfl ?_
    refine pu_getI pu_k0_3 pu_c66 ?_
    refine pu_isub ?_
    exact pu_iretI pu_rt5 H
  replace H := pu_f h13 H
  by_cases h14 : (D11.1 66 2) = 5
  · replace H := pu_t h14 H
    refine pu_tswC 5 (47) h14 (by decide +kernel) pu_t5_106 ?_
    refine pu_iload_n rfl ?_
    refine pu_iconst ?_
    refine pu_ixor ?_
    exact pu_iretI pu_rt5 H
  replace H := pu_f h14 H
  refine pu_tswD [1, 3, 5] (by simp only [List.mem_cons, List.not_mem_nil, or_false, not_or]; exact ⟨h12, h13, h14⟩) (by decide +kernel) pu_t5_110 ?_
  refine pu_iload_n rfl ?_
  exact pu_iretI pu_rt5 H
theorem pu_e5 {X : px_X} {x1 : Int32} {D : pu_D} {P : Int32 → pu_D → Prop} 
    (H : if (D.1 66 2) = 1 then (pu_V X 4 [.ref 66, .int 20] D (fun D3 => pu_h5_14 X x1 D3 P)) else (pu_h5_14 X x1 D P)) :
    pu_I X 5 [.ref 66, .int x1] D P := by
  refine pu_ent (E := [.ref 66, .int x1, .null]) pu_n5.1 pu_n5.2 pu_t5_0 rfl ?_
  refine pu_aload_n rfl ?_
  refine pu_getI pu_k0_2 pu_c66 ?_
  refine pu_iconst ?_
  refine pu_ne_ pu_t5_14 (fun h1 => ?_) (fun h1 => ?_)
  · replace H := pu_f h1 H
    exact H _ rfl
  · replace H := pu_t h1 H
    refine pu_aload_n rfl ?_
    refine pu_bipush ?_
    refine pu_cv (vs := [.int 20]) (rest := []) pu_g4 ⟨pu_c66, by decide⟩ rfl rfl rfl rfl rfl (pu_CV (pu_V_imp H (fun D3 H => ?_)))
    exact H _ rfl
/-- LightAlong$Acts.falls(I)I -/
def pu_h6_24 (X : px_X) (x1 : Int32) (D : pu_D) (P : Int32 → pu_D → Prop) : Prop := ∀ z2 : Value, z2.category = 1 → ∀ z3 : Value, z3.category = 1 → pu_W X 6 (0, 0) px_c6_24 [.ref 66, .int x1, z2, z3] [] D (pu_qi P)
def pu_h6_44 (X : px_X) (x1 : Int32) (x2 : Int32) (D : pu_D) (P : Int32 → pu_D → Prop) : Prop := ∀ z3 : Value, z3.category = 1 → pu_W X 6 (0, 0) px_c6_44 [.ref 66, .int x1, .int x2, z3] [] D (pu_qi P)
def pu_h6_54 (X : px_X) (x1 : Int32) (x2 : Int32) (D : pu_D) (P : Int32 → pu_D → Prop) : Prop := ∀ z3 : Value, z3.category = 1 → pu_W X 6 (0, 0) px_c6_54 [.ref 66, .int x1, .int x2, z3] [] D (pu_qi P)
def pu_h6_69 (X : px_X) (x1 : Int32) (x2 : Int32) (D : pu_D) (P : Int32 → pu_D → Prop) : Prop := ∀ z3 : Value, z3.category = 1 → pu_W X 6 (0, 0) px_c6_69 [.ref 66, .int x1, .int x2, z3] [] D (pu_qi P)
theorem pu_u6_24 {X : px_X} {x1 : Int32} {D : pu_D} {P : Int32 → pu_D → Prop} 
    (H : if (D.1 66 2) = 3 then (pu_V X 4 [.ref 66, .int 40] D (fun D9 => pu_h6_44 X x1 1 D9 P)) else (pu_h6_44 X x1 1 D P)) :
    pu_h6_24 X x1 D P := by
  intro z2 hz2 z3 hz3
  refine pu_iconst ?_
  refine pu_goto pu_t6_29 ?_
  refine pu_istore_n (L' := [.ref 66, .int x1, .int 1, z3]) (Or.inr rfl) rfl ?_
  refine pu_aload_n rfl ?_
  refine pu_getI pu_k0_2 pu_c66 ?_
  refine pu_iconst ?_
  refine pu_ne_ pu_t6_44 (fun h7 => ?_) (fun h7 => ?_)
  · replace H := pu_f h7 H
    exact H _ hz3
  · replace H := pu_t h7 H
    refine pu_aload_n rfl ?_
    refine pu_bipush ?_
    refine pu_cv (vs := [.int 40]) (rest := []) pu_g4 ⟨pu_c66, by decide⟩ rfl rfl rfl rfl rfl (pu_CV (pu_V_imp H (fun D9 H => ?_)))
    exact H _ hz3
theorem pu_u6_44 {X : px_X} {x1 : Int32} {x2 : Int32} {D : pu_D} {P : Int32 → pu_D → Prop} 
    (H : if x2 = 0 then (pu_h6_54 X x1 x2 D P) else (pu_V X 4 [.ref 66, .int 30] D (fun D12 => pu_h6_54 X x1 x2 D12 P))) :
    pu_h6_44 X x1 x2 D P := by
  intro z3 hz3
  refine pu_iload_n rfl ?_
  refine pu_eq0 pu_t6_54 (fun h10 => ?_) (fun h10 => ?_)
  · replace H := pu_t h10 H
    exact H _ hz3
  · replace H := pu_f h10 H
    refine pu_aload_n rfl ?_
    refine pu_bipush ?_
    refine pu_cv (vs := [.int 30]) (rest := []) pu_g4 ⟨pu_c66, by decide⟩ rfl rfl rfl rfl rfl (pu_CV (pu_V_imp H (fun D12 H => ?_)))
    exact H _ hz3
theorem pu_u6_54 {X : px_X} {x1 : Int32} {x2 : Int32} {D : pu_D} {P : Int32 → pu_D → Prop} 
    (H : if (D.1 66 2) = 6 then (pu_V X 4 [.ref 66, .int 70] D (fun D15 => pu_h6_69 X x1 x2 D15 P)) else (pu_h6_69 X x1 x2 D P)) :
    pu_h6_54 X x1 x2 D P := by
  intro z3 hz3
  refine pu_aload_n rfl ?_
  refine pu_getI pu_k0_2 pu_c66 ?_
  refine pu_bipush ?_
  refine pu_ne_ pu_t6_69 (fun h13 => ?_) (fun h13 => ?_)
  · replace H := pu_f h13 H
    exact H _ hz3
  · replace H := pu_t h13 H
    refine pu_aload_n rfl ?_
    refine pu_bipush ?_
    refine pu_cv (vs := [.int 70]) (rest := []) pu_g4 ⟨pu_c66, by decide⟩ rfl rfl rfl rfl rfl (pu_CV (pu_V_imp H (fun D15 H => ?_)))
    exact H _ hz3
theorem pu_u6_69 {X : px_X} {x1 : Int32} {x2 : Int32} {D : pu_D} {P : Int32 → pu_D → Prop} 
    (H : pu_V X 4 [.ref 66, .int 11] D (fun D17 => if (D17.1 66 2) = 3 then (pu_I X 5 [.ref 66, .int (x1 + 1)] D17 (fun y23 D24 => if x2 = 0 then (if (D24.1 66 2) = 6 then (P ((y23 * 2) * 2) D24) else (P (y23 * 2) D24)) else (P ((y23 * 2) * 3) D24))) else (pu_I X 5 [.ref 66, .int x1] D17 (fun y19 D20 => if x2 = 0 then (if (D20.1 66 2) = 6 then (P ((y19 * 2) * 2) D20) else (P (y19 * 2) D20)) else (P ((y19 * 2) * 3) D20))))) :
    pu_h6_69 X x1 x2 D P := by
  intro z3 hz3
  refine pu_aload_n rfl ?_
  refine pu_bipush ?_
  refine pu_cv (vs := [.int 11]) (rest := []) pu_g4 ⟨pu_c66, by decide⟩ rfl rfl rfl rfl rfl (pu_CV (pu_V_imp H (fun D17 H => ?_)))
  refine pu_aload_n rfl ?_
  refine pu_aload_n rfl ?_
  refine pu_getI pu_k0_2 pu_c66 ?_
  refine pu_iconst ?_
  refine pu_ne_ pu_t6_90 (fun h18 => ?_) (fun h18 => ?_)
  · replace H := pu_f h18 H
    refine pu_iload_n rfl ?_
    refine pu_cv (vs := [.int x1]) (rest := []) pu_g5 ⟨pu_c66, by decide⟩ rfl rfl rfl rfl rfl (pu_CI (pu_I_imp H (fun y19 D20 H => ?_)))
    refine pu_iconst ?_
    refine pu_imul ?_
    refine pu_istore_n (L' := [.ref 66, .int x1, .int x2, .int (y19 * 2)]) (Or.inr rfl) rfl ?_
    refine pu_iload_n rfl ?_
    refine pu_eq0 pu_t6_105 (fun h21 => ?_) (fun h21 => ?_)
    · replace H := pu_t h21 H
      refine pu_aload_n rfl ?_
      refine pu_getI pu_k0_2 pu_c66 ?_
      refine pu_bipush ?_
      refine pu_ne_ pu_t6_120 (fun h22 => ?_) (fun h22 => ?_)
      · replace H := pu_f h22 H
        refine pu_iload_n rfl ?_
        exact pu_iretI pu_rt6 H
      · replace H := pu_t h22 H
        refine pu_iload_n rfl ?_
        refine pu_iconst ?_
        refine pu_imul ?_
        refine pu_goto pu_t6_121 ?_
        exact pu_iretI pu_rt6 H
    · replace H := pu_f h21 H
      refine pu_iload_n rfl ?_
      refine pu_iconst ?_
      refine pu_imul ?_
      exact pu_iretI pu_rt6 H
  · replace H := pu_t h18 H
    refine pu_iload_n rfl ?_
    refine pu_iconst ?_
    refine pu_iadd ?_
    refine pu_goto pu_t6_91 ?_
    refine pu_cv (vs := [.int (x1 + 1)]) (rest := []) pu_g5 ⟨pu_c66, by decide⟩ rfl rfl rfl rfl rfl (pu_CI (pu_I_imp H (fun y23 D24 H => ?_)))
    refine pu_iconst ?_
    refine pu_imul ?_
    refine pu_istore_n (L' := [.ref 66, .int x1, .int x2, .int (y23 * 2)]) (Or.inr rfl) rfl ?_
    refine pu_iload_n rfl ?_
    refine pu_eq0 pu_t6_105 (fun h25 => ?_) (fun h25 => ?_)
    · replace H := pu_t h25 H
      refine pu_aload_n rfl ?_
      refine pu_getI pu_k0_2 pu_c66 ?_
      refine pu_bipush ?_
      refine pu_ne_ pu_t6_120 (fun h26 => ?_) (fun h26 => ?_)
      · replace H := pu_f h26 H
        refine pu_iload_n rfl ?_
        exact pu_iretI pu_rt6 H
      · replace H := pu_t h26 H
        refine pu_iload_n rfl ?_
        refine pu_iconst ?_
        refine pu_imul ?_
        refine pu_goto pu_t6_121 ?_
        exact pu_iretI pu_rt6 H
    · replace H := pu_f h25 H
      refine pu_iload_n rfl ?_
      refine pu_iconst ?_
      refine pu_imul ?_
      exact pu_iretI pu_rt6 H
theorem pu_e6 {X : px_X} {x1 : Int32} {D : pu_D} {P : Int32 → pu_D → Prop} 
    (H : if (D.1 66 2) = 2 then (pu_h6_24 X x1 D P) else (if (D.1 66 2) = 3 then (pu_h6_24 X x1 D P) else (if (D.1 66 2) = 5 then (pu_h6_24 X x1 D P) else (if (D.1 66 2) = 3 then (pu_V X 4 [.ref 66, .int 40] D (fun D6 => pu_h6_44 X x1 0 D6 P)) else (pu_h6_44 X x1 0 D P))))) :
    pu_I X 6 [.ref 66, .int x1] D P := by
  refine pu_ent (E := [.ref 66, .int x1, .null, .null]) pu_n6.1 pu_n6.2 pu_t6_0 rfl ?_
  refine pu_aload_n rfl ?_
  refine pu_getI pu_k0_2 pu_c66 ?_
  refine pu_iconst ?_
  refine pu_eq_ pu_t6_24 (fun h1 => ?_) (fun h1 => ?_)
  · replace H := pu_t h1 H
    exact H _ rfl _ rfl
  · replace H := pu_f h1 H
    refine pu_aload_n rfl ?_
    refine pu_getI pu_k0_2 pu_c66 ?_
    refine pu_iconst ?_
    refine pu_eq_ pu_t6_24 (fun h2 => ?_) (fun h2 => ?_)
    · replace H := pu_t h2 H
      exact H _ rfl _ rfl
    · replace H := pu_f h2 H
      refine pu_aload_n rfl ?_
      refine pu_getI pu_k0_2 pu_c66 ?_
      refine pu_iconst ?_
      refine pu_ne_ pu_t6_28 (fun h3 => ?_) (fun h3 => ?_)
      · replace H := pu_f h3 H
        refine pu_iconst ?_
        refine pu_istore_n (L' := [.ref 66, .int x1, .int 0, .null]) (Or.inr rfl) rfl ?_
        refine pu_aload_n rfl ?_
        refine pu_getI pu_k0_2 pu_c66 ?_
        refine pu_iconst ?_
        refine pu_ne_ pu_t6_44 (fun h4 => ?_) (fun h4 => ?_)
        · replace H := pu_f h4 H
          exact H _ rfl
        · replace H := pu_t h4 H
          refine pu_aload_n rfl ?_
          refine pu_bipush ?_
          refine pu_cv (vs := [.int 40]) (rest := []) pu_g4 ⟨pu_c66, by decide⟩ rfl rfl rfl rfl rfl (pu_CV (pu_V_imp H (fun D6 H => ?_)))
          exact H _ rfl
      · replace H := pu_t h3 H
        exact H _ rfl _ rfl
/-- LightAlong$Acts.costs(I)I -/
def pu_h7_14 (X : px_X) (x1 : Int32) (D : pu_D) (P : Int32 → pu_D → Prop) : Prop := ∀ z2 : Value, z2.category = 1 → ∀ z3 : Value, z3.category = 1 → ∀ z4 : Value, z4.category = 1 → pu_W X 7 (0, 0) px_c7_14 [.ref 66, .int x1, z2, z3, z4] [] D (pu_qi P)
def pu_h7_29 (X : px_X) (x1 : Int32) (D : pu_D) (P : Int32 → pu_D → Prop) : Prop := ∀ z2 : Value, z2.category = 1 → ∀ z3 : Value, z3.category = 1 → ∀ z4 : Value, z4.category = 1 → pu_W X 7 (0, 0) px_c7_29 [.ref 66, .int x1, z2, z3, z4] [] D (pu_qi P)
theorem pu_u7_14 {X : px_X} {x1 : Int32} {D : pu_D} {P : Int32 → pu_D → Prop} 
    (H : if (D.1 66 2) = 6 then (pu_V X 4 [.ref 66, .int 71] D (fun D6 => pu_h7_29 X x1 D6 P)) else (pu_h7_29 X x1 D P)) :
    pu_h7_14 X x1 D P := by
  intro z2 hz2 z3 hz3 z4 hz4
  refine pu_aload_n rfl ?_
  refine pu_getI pu_k0_2 pu_c66 ?_
  refine pu_bipush ?_
  refine pu_ne_ pu_t7_29 (fun h4 => ?_) (fun h4 => ?_)
  · replace H := pu_f h4 H
    exact H _ hz2 _ hz3 _ hz4
  · replace H := pu_t h4 H
    refine pu_aload_n rfl ?_
    refine pu_bipush ?_
    refine pu_cv (vs := [.int 71]) (rest := []) pu_g4 ⟨pu_c66, by decide⟩ rfl rfl rfl rfl rfl (pu_CV (pu_V_imp H (fun D6 H => ?_)))
    exact H _ hz2 _ hz3 _ hz4
theorem pu_u7_29 {X : px_X} {x1 : Int32} {D : pu_D} {P : Int32 → pu_D → Prop} 
    (H : if (D.1 66 2) = 6 then (pu_V X 4 [.ref 66, .int 12] D (fun D16 => pu_I X 6 [.ref 66, .int (x1 - (D.1 66 4))] D16 (fun y17 D18 => pu_I X 5 [.ref 66, .int ((x1 - (D.1 66 4)) - (D18.1 66 4))] D18 (fun y19 D20 => if (D20.1 66 2) = 4 then (P (-(y17 ^^^ y19)) D20) else (P (y17 ^^^ y19) D20))))) else (pu_V X 4 [.ref 66, .int 12] D (fun D9 => pu_I X 6 [.ref 66, .int x1] D9 (fun y10 D11 => pu_I X 5 [.ref 66, .int (x1 - (D11.1 66 4))] D11 (fun y12 D13 => if (D13.1 66 2) = 4 then (P (-(y10 ^^^ y12)) D13) else (P (y10 ^^^ y12) D13)))))) :
    pu_h7_29 X x1 D P := by
  intro z2 hz2 z3 hz3 z4 hz4
  refine pu_aload_n rfl ?_
  refine pu_getI pu_k0_2 pu_c66 ?_
  refine pu_bipush ?_
  refine pu_ne_ pu_t7_47 (fun h7 => ?_) (fun h7 => ?_)
  · replace H := pu_f h7 H
    refine pu_iload_n rfl ?_
    refine pu_istore_n (L' := [.ref 66, .int x1, .int x1, z3, z4]) (Or.inr rfl) rfl ?_
    refine pu_aload_n rfl ?_
    refine pu_bipush ?_
    refine pu_cv (vs := [.int 12]) (rest := []) pu_g4 ⟨pu_c66, by decide⟩ rfl rfl rfl rfl rfl (pu_CV (pu_V_imp H (fun D9 H => ?_)))
    refine pu_aload_n rfl ?_
    refine pu_iload_n rfl ?_
    refine pu_cv (vs := [.int x1]) (rest := []) pu_g6 ⟨pu_c66, by decide⟩ rfl rfl rfl rfl rfl (pu_CI (pu_I_imp H (fun y10 D11 H => ?_)))
    refine pu_istore_n (L' := [.ref 66, .int x1, .int x1, .int y10, z4]) (Or.inr rfl) rfl ?_
    refine pu_iload_n rfl ?_
    refine pu_aload_n rfl ?_
    refine pu_iload_n rfl ?_
    refine pu_aload_n rfl ?_
    refine pu_getI pu_k0_4 pu_c66 ?_
    refine pu_isub ?_
    refine pu_cv (vs := [.int (x1 - (D11.1 66 4))]) (rest := [.int y10]) pu_g5 ⟨pu_c66, by decide⟩ rfl rfl rfl rfl rfl (pu_CI (pu_I_imp H (fun y12 D13 H => ?_)))
    refine pu_ixor ?_
    refine pu_istore (L' := [.ref 66, .int x1, .int x1, .int y10, .int (y10 ^^^ y12)]) (Or.inr rfl) rfl ?_
    refine pu_aload_n rfl ?_
    refine pu_getI pu_k0_2 pu_c66 ?_
    refine pu_iconst ?_
    refine pu_ne_ pu_t7_89 (fun h14 => ?_) (fun h14 => ?_)
    · replace H := pu_f h14 H
      refine pu_iload rfl ?_
      exact pu_iretI pu_rt7 H
    · replace H := pu_t h14 H
      refine pu_iload rfl ?_
      refine pu_ineg ?_
      refine pu_goto pu_t7_91 ?_
      exact pu_iretI pu_rt7 H
  · replace H := pu_t h7 H
    refine pu_iload_n rfl ?_
    refine pu_aload_n rfl ?_
    refine pu_getI pu_k0_4 pu_c66 ?_
    refine pu_isub ?_
    refine pu_goto pu_t7_48 ?_
    refine pu_istore_n (L' := [.ref 66, .int x1, .int (x1 - (D.1 66 4)), z3, z4]) (Or.inr rfl) rfl ?_
    refine pu_aload_n rfl ?_
    refine pu_bipush ?_
    refine pu_cv (vs := [.int 12]) (rest := []) pu_g4 ⟨pu_c66, by decide⟩ rfl rfl rfl rfl rfl (pu_CV (pu_V_imp H (fun D16 H => ?_)))
    refine pu_aload_n rfl ?_
    refine pu_iload_n rfl ?_
    refine pu_cv (vs := [.int (x1 - (D.1 66 4))]) (rest := []) pu_g6 ⟨pu_c66, by decide⟩ rfl rfl rfl rfl rfl (pu_CI (pu_I_imp H (fun y17 D18 H => ?_)))
    refine pu_istore_n (L' := [.ref 66, .int x1, .int (x1 - (D.1 66 4)), .int y17, z4]) (Or.inr rfl) rfl ?_
    refine pu_iload_n rfl ?_
    refine pu_aload_n rfl ?_
    refine pu_iload_n rfl ?_
    refine pu_aload_n rfl ?_
    refine pu_getI pu_k0_4 pu_c66 ?_
    refine pu_isub ?_
    refine pu_cv (vs := [.int ((x1 - (D.1 66 4)) - (D18.1 66 4))]) (rest := [.int y17]) pu_g5 ⟨pu_c66, by decide⟩ rfl rfl rfl rfl rfl (pu_CI (pu_I_imp H (fun y19 D20 H => ?_)))
    refine pu_ixor ?_
    refine pu_istore (L' := [.ref 66, .int x1, .int (x1 - (D.1 66 4)), .int y17, .int (y17 ^^^ y19)]) (Or.inr rfl) rfl ?_
    refine pu_aload_n rfl ?_
    refine pu_getI pu_k0_2 pu_c66 ?_
    refine pu_iconst ?_
    refine pu_ne_ pu_t7_89 (fun h21 => ?_) (fun h21 => ?_)
    · replace H := pu_f h21 H
      refine pu_iload rfl ?_
      exact pu_iretI pu_rt7 H
    · replace H := pu_t h21 H
      refine pu_iload rfl ?_
      refine pu_ineg ?_
      refine pu_goto pu_t7_91 ?_
      exact pu_iretI pu_rt7 H
theorem pu_e7 {X : px_X} {x1 : Int32} {D : pu_D} {P : Int32 → pu_D → Prop} 
    (H : if (D.1 66 2) = 4 then (pu_V X 4 [.ref 66, .int 50] D (fun D3 => pu_h7_14 X x1 D3 P)) else (pu_h7_14 X x1 D P)) :
    pu_I X 7 [.ref 66, .int x1] D P := by
  refine pu_ent (E := [.ref 66, .int x1, .null, .null, .null]) pu_n7.1 pu_n7.2 pu_t7_0 rfl ?_
  refine pu_aload_n rfl ?_
  refine pu_getI pu_k0_2 pu_c66 ?_
  refine pu_iconst ?_
  refine pu_ne_ pu_t7_14 (fun h1 => ?_) (fun h1 => ?_)
  · replace H := pu_f h1 H
    exact H _ rfl _ rfl _ rfl
  · replace H := pu_t h1 H
    refine pu_aload_n rfl ?_
    refine pu_bipush ?_
    refine pu_cv (vs := [.int 50]) (rest := []) pu_g4 ⟨pu_c66, by decide⟩ rfl rfl rfl rfl rfl (pu_CV (pu_V_imp H (fun D3 H => ?_)))
    exact H _ rfl _ rfl _ rfl
/-- LightAlong$Choice.prepare(LLightAlong$Street;II)V -/
def pu_h9_38 (X : px_X) (x2 : Int32) (x3 : Int32) (x4 : Int32) (D : pu_D) (P : pu_D → Prop) : Prop := ∀ z5 : Value, z5.category = 1 → ∀ z6 : Value, z6.category = 1 → pu_W X 9 (0, 0) px_c9_38 [.ref 56, .ref 1, .int x2, .int x3, .int x4, z5, z6] [] D (pu_qv P)
def pu_h9_163 (X : px_X) (x2 : Int32) (x4 : Int32) (D : pu_D) (P : pu_D → Prop) : Prop := ∀ z3 : Value, z3.category = 1 → ∀ z5 : Value, z5.category = 1 → ∀ z6 : Value, z6.category = 1 → pu_W X 9 (0, 0) px_c9_163 [.ref 56, .ref 1, .int x2, z3, .int x4, z5, z6] [] D (pu_qv P)
def pu_h9_116 (X : px_X) (x2 : Int32) (x3 : Int32) (x4 : Int32) (x6 : Int32) (D : pu_D) (P : pu_D → Prop) : Prop := ∀ z5 : Value, z5.category = 1 → pu_W X 9 (0, 0) px_c9_116 [.ref 56, .ref 1, .int x2, .int x3, .int x4, z5, .int x6] [] D (pu_qv P)
theorem pu_u9_38 {X : px_X} {x2 : Int32} {x3 : Int32} {x4 : Int32} {D : pu_D} {P : pu_D → Prop} 
    (H : if x4 < (D.1 56 6) then ((px_in x4 120 = true) ∧ if (D.1 63 x4.toNatClampNeg) = 0 then ((px_in x4 120 = true) ∧ if (D.1 63 x4.toNatClampNeg) = 0 then ((px_in x4 120 = true) ∧ pu_I X 68 [.ref 1, .int x4, .int 0] (pu_wi (pu_wi D 59 x4.toNatClampNeg (D.1 2 (Int32.toNatClampNeg 0))) 60 x4.toNatClampNeg 2147483647) (fun y6 D7 => (px_in x4 120 = true) ∧ pu_h9_116 X x2 x3 x4 0 (pu_wi D7 58 x4.toNatClampNeg y6) P)) else ((px_in x4 120 = true) ∧ pu_I X 68 [.ref 1, .int x4, .int 0] (pu_wi (pu_wi D 59 x4.toNatClampNeg (D.1 2 (Int32.toNatClampNeg 0))) 60 x4.toNatClampNeg 5) (fun y8 D9 => (px_in x4 120 = true) ∧ pu_h9_116 X x2 x3 x4 0 (pu_wi D9 58 x4.toNatClampNeg y8) P))) else ((px_in x4 120 = true) ∧ if (D.1 63 x4.toNatClampNeg) = 0 then ((px_in x4 120 = true) ∧ pu_I X 68 [.ref 1, .int x4, .int 0] (pu_wi (pu_wi D 59 x4.toNatClampNeg 0) 60 x4.toNatClampNeg 2147483647) (fun y11 D12 => (px_in x4 120 = true) ∧ pu_h9_116 X x2 x3 x4 0 (pu_wi D12 58 x4.toNatClampNeg y11) P)) else ((px_in x4 120 = true) ∧ pu_I X 68 [.ref 1, .int x4, .int 0] (pu_wi (pu_wi D 59 x4.toNatClampNeg 0) 60 x4.toNatClampNeg 5) (fun y13 D14 => (px_in x4 120 = true) ∧ pu_h9_116 X x2 x3 x4 0 (pu_wi D14 58 x4.toNatClampNeg y13) P)))) else (pu_h9_163 X x2 0 D P)) :
    pu_h9_38 X x2 x3 x4 D P := by
  intro z5 hz5 z6 hz6
  refine pu_iload rfl ?_
  refine pu_aload_n rfl ?_
  refine pu_getI pu_k1_6 pu_c56 ?_
  refine pu_ge_ pu_t9_160 (fun h3 => ?_) (fun h3 => ?_)
  · replace H := pu_f h3 H
    refine pu_iconst ?_
    refine pu_istore (L' := [.ref 56, .ref 1, .int x2, .int x3, .int 0, z5, z6]) (Or.inr rfl) rfl ?_
    exact H _ rfl _ hz5 _ hz6
  · replace H := pu_t h3 H
    refine pu_aload_n rfl ?_
    refine pu_getR pu_kr1_5 pu_c56 pu_r56_5 ?_
    refine pu_getR pu_kr2_0 pu_c62 pu_r62_0 ?_
    refine pu_iload rfl ?_
    refine pu_bal pu_c63 pu_ln63 H.1 ?_
    replace H := H.2
    refine pu_istore (L' := [.ref 56, .ref 1, .int x2, .int x3, .int x4, .int (D.1 63 x4.toNatClampNeg), z6]) (Or.inr rfl) rfl ?_
    refine pu_aload_n rfl ?_
    refine pu_getR pu_kr1_2 pu_c56 pu_r56_2 ?_
    refine pu_iload rfl ?_
    refine pu_iload rfl ?_
    refine pu_eq0 pu_t9_74 (fun h4 => ?_) (fun h4 => ?_)
    · replace H := pu_t h4 H
      refine pu_aload_n rfl ?_
      refine pu_getR pu_kr4_0 pu_c1 pu_r1_0 ?_
      refine pu_iconst ?_
      refine pu_ial pu_c2 pu_ln2 (by decide) ?_
      refine pu_ias pu_c59 pu_ln59 H.1 ?_
      replace H := H.2
      refine pu_aload_n rfl ?_
      refine pu_getR pu_kr1_3 pu_c56 pu_r56_3 ?_
      refine pu_iload rfl ?_
      refine pu_iload rfl ?_
      refine pu_eq0 pu_t9_96 (fun h5 => ?_) (fun h5 => ?_)
      · replace H := pu_t h5 H
        refine pu_ldc (by decide) ?_
        refine pu_ias pu_c60 pu_ln60 H.1 ?_
        replace H := H.2
        refine pu_aload_n rfl ?_
        refine pu_getR pu_kr1_1 pu_c56 pu_r56_1 ?_
        refine pu_iload rfl ?_
        refine pu_aload_n rfl ?_
        refine pu_iload rfl ?_
        refine pu_iconst ?_
        refine pu_cv (vs := [.int x4, .int 0]) (rest := [.int x4, .ref 58]) pu_g68 ⟨pu_c1, by decide⟩ rfl rfl rfl rfl rfl (pu_CI (pu_I_imp H (fun y6 D7 H => ?_)))
        refine pu_ias pu_c58 pu_ln58 H.1 ?_
        replace H := H.2
        refine pu_iconst ?_
        refine pu_istore (L' := [.ref 56, .ref 1, .int x2, .int x3, .int x4, .int (D.1 63 x4.toNatClampNeg), .int 0]) (Or.inr rfl) rfl ?_
        exact H _ rfl
      · replace H := pu_f h5 H
        refine pu_iconst ?_
        refine pu_goto pu_t9_98 ?_
        refine pu_ias pu_c60 pu_ln60 H.1 ?_
        replace H := H.2
        refine pu_aload_n rfl ?_
        refine pu_getR pu_kr1_1 pu_c56 pu_r56_1 ?_
        refine pu_iload rfl ?_
        refine pu_aload_n rfl ?_
        refine pu_iload rfl ?_
        refine pu_iconst ?_
        refine pu_cv (vs := [.int x4, .int 0]) (rest := [.int x4, .ref 58]) pu_g68 ⟨pu_c1, by decide⟩ rfl rfl rfl rfl rfl (pu_CI (pu_I_imp H (fun y8 D9 H => ?_)))
        refine pu_ias pu_c58 pu_ln58 H.1 ?_
        replace H := H.2
        refine pu_iconst ?_
        refine pu_istore (L' := [.ref 56, .ref 1, .int x2, .int x3, .int x4, .int (D.1 63 x4.toNatClampNeg), .int 0]) (Or.inr rfl) rfl ?_
        exact H _ rfl
    · replace H := pu_f h4 H
      refine pu_iconst ?_
      refine pu_goto pu_t9_80 ?_
      refine pu_ias pu_c59 pu_ln59 H.1 ?_
      replace H := H.2
      refine pu_aload_n rfl ?_
      refine pu_getR pu_kr1_3 pu_c56 pu_r56_3 ?_
      refine pu_iload rfl ?_
      refine pu_iload rfl ?_
      refine pu_eq0 pu_t9_96 (fun h10 => ?_) (fun h10 => ?_)
      · replace H := pu_t h10 H
        refine pu_ldc (by decide) ?_
        refine pu_ias pu_c60 pu_ln60 H.1 ?_
        replace H := H.2
        refine pu_aload_n rfl ?_
        refine pu_getR pu_kr1_1 pu_c56 pu_r56_1 ?_
        refine pu_iload rfl ?_
        refine pu_aload_n rfl ?_
        refine pu_iload rfl ?_
        refine pu_iconst ?_
        refine pu_cv (vs := [.int x4, .int 0]) (rest := [.int x4, .ref 58]) pu_g68 ⟨pu_c1, by decide⟩ rfl rfl rfl rfl rfl (pu_CI (pu_I_imp H (fun y11 D12 H => ?_)))
        refine pu_ias pu_c58 pu_ln58 H.1 ?_
        replace H := H.2
        refine pu_iconst ?_
        refine pu_istore (L' := [.ref 56, .ref 1, .int x2, .int x3, .int x4, .int (D.1 63 x4.toNatClampNeg), .int 0]) (Or.inr rfl) rfl ?_
        exact H _ rfl
      · replace H := pu_f h10 H
        refine pu_iconst ?_
        refine pu_goto pu_t9_98 ?_
        refine pu_ias pu_c60 pu_ln60 H.1 ?_
        replace H := H.2
        refine pu_aload_n rfl ?_
        refine pu_getR pu_kr1_1 pu_c56 pu_r56_1 ?_
        refine pu_iload rfl ?_
        refine pu_aload_n rfl ?_
        refine pu_iload rfl ?_
        refine pu_iconst ?_
        refine pu_cv (vs := [.int x4, .int 0]) (rest := [.int x4, .ref 58]) pu_g68 ⟨pu_c1, by decide⟩ rfl rfl rfl rfl rfl (pu_CI (pu_I_imp H (fun y13 D14 H => ?_)))
        refine pu_ias pu_c58 pu_ln58 H.1 ?_
        replace H := H.2
        refine pu_iconst ?_
        refine pu_istore (L' := [.ref 56, .ref 1, .int x2, .int x3, .int x4, .int (D.1 63 x4.toNatClampNeg), .int 0]) (Or.inr rfl) rfl ?_
        exact H _ rfl
theorem pu_u9_163 {X : px_X} {x2 : Int32} {x4 : Int32} {D : pu_D} {P : pu_D → Prop} 
    (H : if x4 < (D.1 56 7) then (pu_I X 69 [.ref 1, .int (1 <<< (x4 &&& 31)), .int x2] D (fun y16 D17 => (px_in x4 9 = true) ∧ pu_h9_163 X x2 (x4 + 1) (pu_wi D17 61 x4.toNatClampNeg y16) P)) else (P D)) :
    pu_h9_163 X x2 x4 D P := by
  intro z3 hz3 z5 hz5 z6 hz6
  refine pu_iload rfl ?_
  refine pu_aload_n rfl ?_
  refine pu_getI pu_k1_7 pu_c56 ?_
  refine pu_ge_ pu_t9_194 (fun h15 => ?_) (fun h15 => ?_)
  · replace H := pu_f h15 H
    exact pu_vret pu_rt9 H
  · replace H := pu_t h15 H
    refine pu_aload_n rfl ?_
    refine pu_getR pu_kr1_4 pu_c56 pu_r56_4 ?_
    refine pu_iload rfl ?_
    refine pu_aload_n rfl ?_
    refine pu_iconst ?_
    refine pu_iload rfl ?_
    refine pu_ishl ?_
    refine pu_iload_n rfl ?_
    refine pu_cv (vs := [.int (1 <<< (x4 &&& 31)), .int x2]) (rest := [.int x4, .ref 61]) pu_g69 ⟨pu_c1, by decide⟩ rfl rfl rfl rfl rfl (pu_CI (pu_I_imp H (fun y16 D17 H => ?_)))
    refine pu_ias pu_c61 pu_ln61 H.1 ?_
    replace H := H.2
    refine pu_iinc (L' := [.ref 56, .ref 1, .int x2, z3, .int (x4 + 1), z5, z6]) rfl (Or.inr hz3) rfl ?_
    refine pu_goto pu_t9_163 ?_
    exact H _ hz3 _ hz5 _ hz6
theorem pu_u9_116 {X : px_X} {x2 : Int32} {x3 : Int32} {x4 : Int32} {x6 : Int32} {D : pu_D} {P : pu_D → Prop} 
    (H : if x6 < (D.1 56 7) then (pu_I X 61 [.ref 1, .int x6, .int x2, .int x4, .int x3] D (fun y19 D20 => (px_in ((x6 * 120) + x4) 1080 = true) ∧ pu_h9_116 X x2 x3 x4 (x6 + 1) (pu_wi D20 57 ((x6 * 120) + x4).toNatClampNeg y19) P)) else (pu_h9_38 X x2 x3 (x4 + 1) D P)) :
    pu_h9_116 X x2 x3 x4 x6 D P := by
  intro z5 hz5
  refine pu_iload rfl ?_
  refine pu_aload_n rfl ?_
  refine pu_getI pu_k1_7 pu_c56 ?_
  refine pu_ge_ pu_t9_154 (fun h18 => ?_) (fun h18 => ?_)
  · replace H := pu_f h18 H
    refine pu_iinc (L' := [.ref 56, .ref 1, .int x2, .int x3, .int (x4 + 1), z5, .int x6]) rfl (Or.inr rfl) rfl ?_
    refine pu_goto pu_t9_38 ?_
    exact H _ hz5 _ rfl
  · replace H := pu_t h18 H
    refine pu_aload_n rfl ?_
    refine pu_getR pu_kr1_0 pu_c56 pu_r56_0 ?_
    refine pu_iload rfl ?_
    refine pu_bipush ?_
    refine pu_imul ?_
    refine pu_iload rfl ?_
    refine pu_iadd ?_
    refine pu_aload_n rfl ?_
    refine pu_iload rfl ?_
    refine pu_iload_n rfl ?_
    refine pu_iload rfl ?_
    refine pu_iload_n rfl ?_
    refine pu_cv (vs := [.int x6, .int x2, .int x4, .int x3]) (rest := [.int ((x6 * 120) + x4), .ref 57]) pu_g61 ⟨pu_c1, by decide⟩ rfl rfl rfl rfl rfl (pu_CI (pu_I_imp H (fun y19 D20 H => ?_)))
    refine pu_ias pu_c57 pu_ln57 H.1 ?_
    replace H := H.2
    refine pu_iinc (L' := [.ref 56, .ref 1, .int x2, .int x3, .int x4, z5, .int (x6 + 1)]) rfl (Or.inr hz5) rfl ?_
    refine pu_goto pu_t9_116 ?_
    exact H _ hz5
theorem pu_e9 {X : px_X} {x2 : Int32} {x3 : Int32} {D : pu_D} {P : pu_D → Prop} 
    (H : pu_V X 20 [.ref 62, .ref 1] D (fun D2 => pu_h9_38 X x2 x3 0 (pu_wi (pu_wi D2 56 6 (D2.1 62 3)) 56 7 (if 9 < ((pu_wi D2 56 6 (D2.1 62 3)).1 5 2) then 9 else ((pu_wi D2 56 6 (D2.1 62 3)).1 5 2))) P)) :
    pu_V X 9 [.ref 56, .ref 1, .int x2, .int x3] D P := by
  refine pu_ent (E := [.ref 56, .ref 1, .int x2, .int x3, .null, .null, .null]) pu_n9.1 pu_n9.2 pu_t9_0 rfl ?_
  refine pu_aload_n rfl ?_
  refine pu_getR pu_kr1_5 pu_c56 pu_r56_5 ?_
  refine pu_aload_n rfl ?_
  refine pu_cv (vs := [.ref 1]) (rest := []) pu_g20 ⟨pu_c62, by decide⟩ rfl rfl rfl rfl rfl (pu_CV (pu_V_imp H (fun D2 H => ?_)))
  refine pu_aload_n rfl ?_
  refine pu_aload_n rfl ?_
  refine pu_getR pu_kr1_5 pu_c56 pu_r56_5 ?_
  refine pu_getI pu_k2_3 pu_c62 ?_
  refine pu_putI pu_p1_6 pu_c56 ?_
  refine pu_aload_n rfl ?_
  refine pu_aload_n rfl ?_
  refine pu_getR pu_kr4_2 pu_c1 pu_r1_2 ?_
  refine pu_getI pu_k6_2 pu_c5 ?_
  refine pu_bipush ?_
  refine pu_mmin rfl ?_
  refine pu_putI pu_p1_7 pu_c56 ?_
  refine pu_iconst ?_
  refine pu_istore (L' := [.ref 56, .ref 1, .int x2, .int x3, .int 0, .null, .null]) (Or.inr rfl) rfl ?_
  exact H _ rfl _ rfl
/-- LightAlong$Choice.best(LLightAlong$Street;I)I -/
def pu_h10_5 (X : px_X) (x2 : Int32) (x3 : Int32) (x4 : Int32) (D : pu_D) (P : Int32 → pu_D → Prop) : Prop := ∀ z5 : Value, z5.category = 1 → pu_W X 10 (0, 0) px_c10_5 [.ref 56, .ref 1, .int x2, .int x3, .int x4, z5] [] D (pu_qi P)
theorem pu_u10_5 {X : px_X} {x2 : Int32} {x3 : Int32} {x4 : Int32} {D : pu_D} {P : Int32 → pu_D → Prop} 
    (H : if x4 < (1 <<< ((D.1 56 7) &&& 31)) then (if x3 = (-1) then (pu_I X 13 [.ref 56, .ref 1, .int x4] D (fun y3 D4 => if y3 = 0 then (pu_h10_5 X x2 x3 (x4 + 1) D4 P) else (if x2 = 2 then (pu_I X 14 [.ref 56, .int x4] D4 (fun y7 D8 => if y7 = 0 then (pu_h10_5 X x2 x3 (x4 + 1) D8 P) else (pu_h10_5 X x2 x4 (x4 + 1) D8 P))) else (pu_h10_5 X x2 x4 (x4 + 1) D4 P)))) else (pu_I X 11 [.ref 56, .int x4, .int x3, .int x2] D (fun y10 D11 => if y10 = 0 then (pu_h10_5 X x2 x3 (x4 + 1) D11 P) else (pu_I X 13 [.ref 56, .ref 1, .int x4] D11 (fun y13 D14 => if y13 = 0 then (pu_h10_5 X x2 x3 (x4 + 1) D14 P) else (if x2 = 2 then (pu_I X 14 [.ref 56, .int x4] D14 (fun y17 D18 => if y17 = 0 then (pu_h10_5 X x2 x3 (x4 + 1) D18 P) else (pu_h10_5 X x2 x4 (x4 + 1) D18 P))) else (pu_h10_5 X x2 x4 (x4 + 1) D14 P))))))) else (P x3 D)) :
    pu_h10_5 X x2 x3 x4 D P := by
  intro z5 hz5
  refine pu_iload rfl ?_
  refine pu_iconst ?_
  refine pu_aload_n rfl ?_
  refine pu_getI pu_k1_7 pu_c56 ?_
  refine pu_ishl ?_
  refine pu_ge_ pu_t10_80 (fun h1 => ?_) (fun h1 => ?_)
  · replace H := pu_f h1 H
    refine pu_iload_n rfl ?_
    exact pu_iretI pu_rt10 H
  · replace H := pu_t h1 H
    refine pu_iload_n rfl ?_
    refine pu_iconst ?_
    refine pu_eq_ pu_t10_35 (fun h2 => ?_) (fun h2 => ?_)
    · replace H := pu_t h2 H
      refine pu_aload_n rfl ?_
      refine pu_aload_n rfl ?_
      refine pu_iload rfl ?_
      refine pu_cv (vs := [.ref 1, .int x4]) (rest := []) pu_g13 ⟨pu_c56, by decide⟩ rfl rfl rfl rfl rfl (pu_CI (pu_I_imp H (fun y3 D4 H => ?_)))
      refine pu_eq0 pu_t10_63 (fun h5 => ?_) (fun h5 => ?_)
      · replace H := pu_t h5 H
        refine pu_iconst ?_
        refine pu_istore (L' := [.ref 56, .ref 1, .int x2, .int x3, .int x4, .int 0]) (Or.inr rfl) rfl ?_
        refine pu_iload rfl ?_
        refine pu_ifT (by decide) pu_t10_74 ?_
        refine pu_iinc (L' := [.ref 56, .ref 1, .int x2, .int x3, .int (x4 + 1), .int 0]) rfl (Or.inr rfl) rfl ?_
        refine pu_goto pu_t10_5 ?_
        exact H _ rfl
      · replace H := pu_f h5 H
        refine pu_iload_n rfl ?_
        refine pu_iconst ?_
        refine pu_ne_ pu_t10_59 (fun h6 => ?_) (fun h6 => ?_)
        · replace H := pu_f h6 H
          refine pu_iconst ?_
          refine pu_goto pu_t10_64 ?_
          refine pu_istore (L' := [.ref 56, .ref 1, .int x2, .int x3, .int x4, .int 1]) (Or.inr rfl) rfl ?_
          refine pu_iload rfl ?_
          refine pu_ifF (by decide) ?_
          refine pu_iload rfl ?_
          refine pu_istore_n (L' := [.ref 56, .ref 1, .int x2, .int x4, .int x4, .int 1]) (Or.inr rfl) rfl ?_
          refine pu_iinc (L' := [.ref 56, .ref 1, .int x2, .int x4, .int (x4 + 1), .int 1]) rfl (Or.inr rfl) rfl ?_
          refine pu_goto pu_t10_5 ?_
          exact H _ rfl
        · replace H := pu_t h6 H
          refine pu_aload_n rfl ?_
          refine pu_iload rfl ?_
          refine pu_cv (vs := [.int x4]) (rest := []) pu_g14 ⟨pu_c56, by decide⟩ rfl rfl rfl rfl rfl (pu_CI (pu_I_imp H (fun y7 D8 H => ?_)))
          refine pu_eq0 pu_t10_63 (fun h9 => ?_) (fun h9 => ?_)
          · replace H := pu_t h9 H
            refine pu_iconst ?_
            refine pu_istore (L' := [.ref 56, .ref 1, .int x2, .int x3, .int x4, .int 0]) (Or.inr rfl) rfl ?_
            refine pu_iload rfl ?_
            refine pu_ifT (by decide) pu_t10_74 ?_
            refine pu_iinc (L' := [.ref 56, .ref 1, .int x2, .int x3, .int (x4 + 1), .int 0]) rfl (Or.inr rfl) rfl ?_
            refine pu_goto pu_t10_5 ?_
            exact H _ rfl
          · replace H := pu_f h9 H
            refine pu_iconst ?_
            refine pu_goto pu_t10_64 ?_
            refine pu_istore (L' := [.ref 56, .ref 1, .int x2, .int x3, .int x4, .int 1]) (Or.inr rfl) rfl ?_
            refine pu_iload rfl ?_
            refine pu_ifF (by decide) ?_
            refine pu_iload rfl ?_
            refine pu_istore_n (L' := [.ref 56, .ref 1, .int x2, .int x4, .int x4, .int 1]) (Or.inr rfl) rfl ?_
            refine pu_iinc (L' := [.ref 56, .ref 1, .int x2, .int x4, .int (x4 + 1), .int 1]) rfl (Or.inr rfl) rfl ?_
            refine pu_goto pu_t10_5 ?_
            exact H _ rfl
    · replace H := pu_f h2 H
      refine pu_aload_n rfl ?_
      refine pu_iload rfl ?_
      refine pu_iload_n rfl ?_
      refine pu_iload_n rfl ?_
      refine pu_cv (vs := [.int x4, .int x3, .int x2]) (rest := []) pu_g11 ⟨pu_c56, by decide⟩ rfl rfl rfl rfl rfl (pu_CI (pu_I_imp H (fun y10 D11 H => ?_)))
      refine pu_ne0 pu_t10_35 (fun h12 => ?_) (fun h12 => ?_)
      · replace H := pu_f h12 H
        refine pu_aload_n rfl ?_
        refine pu_aload_n rfl ?_
        refine pu_iload rfl ?_
        refine pu_cv (vs := [.ref 1, .int x4]) (rest := []) pu_g13 ⟨pu_c56, by decide⟩ rfl rfl rfl rfl rfl (pu_CI (pu_I_imp H (fun y13 D14 H => ?_)))
        refine pu_eq0 pu_t10_63 (fun h15 => ?_) (fun h15 => ?_)
        · replace H := pu_t h15 H
          refine pu_iconst ?_
          refine pu_istore (L' := [.ref 56, .ref 1, .int x2, .int x3, .int x4, .int 0]) (Or.inr rfl) rfl ?_
          refine pu_iload rfl ?_
          refine pu_ifT (by decide) pu_t10_74 ?_
          refine pu_iinc (L' := [.ref 56, .ref 1, .int x2, .int x3, .int (x4 + 1), .int 0]) rfl (Or.inr rfl) rfl ?_
          refine pu_goto pu_t10_5 ?_
          exact H _ rfl
        · replace H := pu_f h15 H
          refine pu_iload_n rfl ?_
          refine pu_iconst ?_
          refine pu_ne_ pu_t10_59 (fun h16 => ?_) (fun h16 => ?_)
          · replace H := pu_f h16 H
            refine pu_iconst ?_
            refine pu_goto pu_t10_64 ?_
            refine pu_istore (L' := [.ref 56, .ref 1, .int x2, .int x3, .int x4, .int 1]) (Or.inr rfl) rfl ?_
            refine pu_iload rfl ?_
            refine pu_ifF (by decide) ?_
            refine pu_iload rfl ?_
            refine pu_istore_n (L' := [.ref 56, .ref 1, .int x2, .int x4, .int x4, .int 1]) (Or.inr rfl) rfl ?_
            refine pu_iinc (L' := [.ref 56, .ref 1, .int x2, .int x4, .int (x4 + 1), .int 1]) rfl (Or.inr rfl) rfl ?_
            refine pu_goto pu_t10_5 ?_
            exact H _ rfl
          · replace H := pu_t h16 H
            refine pu_aload_n rfl ?_
            refine pu_iload rfl ?_
            refine pu_cv (vs := [.int x4]) (rest := []) pu_g14 ⟨pu_c56, by decide⟩ rfl rfl rfl rfl rfl (pu_CI (pu_I_imp H (fun y17 D18 H => ?_)))
            refine pu_eq0 pu_t10_63 (fun h19 => ?_) (fun h19 => ?_)
            · replace H := pu_t h19 H
              refine pu_iconst ?_
              refine pu_istore (L' := [.ref 56, .ref 1, .int x2, .int x3, .int x4, .int 0]) (Or.inr rfl) rfl ?_
              refine pu_iload rfl ?_
              refine pu_ifT (by decide) pu_t10_74 ?_
              refine pu_iinc (L' := [.ref 56, .ref 1, .int x2, .int x3, .int (x4 + 1), .int 0]) rfl (Or.inr rfl) rfl ?_
              refine pu_goto pu_t10_5 ?_
              exact H _ rfl
            · replace H := pu_f h19 H
              refine pu_iconst ?_
              refine pu_goto pu_t10_64 ?_
              refine pu_istore (L' := [.ref 56, .ref 1, .int x2, .int x3, .int x4, .int 1]) (Or.inr rfl) rfl ?_
              refine pu_iload rfl ?_
              refine pu_ifF (by decide) ?_
              refine pu_iload rfl ?_
              refine pu_istore_n (L' := [.ref 56, .ref 1, .int x2, .int x4, .int x4, .int 1]) (Or.inr rfl) rfl ?_
              refine pu_iinc (L' := [.ref 56, .ref 1, .int x2, .int x4, .int (x4 + 1), .int 1]) rfl (Or.inr rfl) rfl ?_
              refine pu_goto pu_t10_5 ?_
              exact H _ rfl
      · replace H := pu_t h12 H
        refine pu_goto pu_t10_74 ?_
        refine pu_iinc (L' := [.ref 56, .ref 1, .int x2, .int x3, .int (x4 + 1), z5]) rfl (Or.inr rfl) rfl ?_
        refine pu_goto pu_t10_5 ?_
        exact H _ hz5
theorem pu_e10 {X : px_X} {x2 : Int32} {D : pu_D} {P : Int32 → pu_D → Prop} 
    (H : pu_h10_5 X x2 (-1) 0 D P) :
    pu_I X 10 [.ref 56, .ref 1, .int x2] D P := by
  refine pu_ent (E := [.ref 56, .ref 1, .int x2, .null, .null, .null]) pu_n10.1 pu_n10.2 pu_t10_0 rfl ?_
  refine pu_iconst ?_
  refine pu_istore_n (L' := [.ref 56, .ref 1, .int x2, .int (-1), .null, .null]) (Or.inr rfl) rfl ?_
  refine pu_iconst ?_
  refine pu_istore (L' := [.ref 56, .ref 1, .int x2, .int (-1), .int 0, .null]) (Or.inr rfl) rfl ?_
  exact H _ rfl
/-- LightAlong$Choice.isBetter(III)Z -/
theorem pu_e11 {X : px_X} {x1 : Int32} {x2 : Int32} {x3 : Int32} {D : pu_D} {P : Int32 → pu_D → Prop} 
    (H : pu_I X 247 [.int x1] D (fun y1 D2 => pu_I X 247 [.int x2] D2 (fun y3 D4 => if x3 = 1 then (if (y1 - y3) = 0 then (pu_I X 12 [.ref 56, .int x1] D4 (fun y12 D13 => pu_I X 12 [.ref 56, .int x2] D13 (fun y14 D15 => if y12 < y14 then (P 1 D15) else (P 0 D15)))) else (if (y1 - y3) < 0 then (P 1 D4) else (P 0 D4))) else (pu_I X 12 [.ref 56, .int x1] D4 (fun y6 D7 => pu_I X 12 [.ref 56, .int x2] D7 (fun y8 D9 => if y6 < y8 then (P 1 D9) else (P 0 D9))))))) :
    pu_I X 11 [.ref 56, .int x1, .int x2, .int x3] D P := by
  refine pu_ent (E := [.ref 56, .int x1, .int x2, .int x3, .null]) pu_n11.1 pu_n11.2 pu_t11_0 rfl ?_
  refine pu_iload_n rfl ?_
  refine pu_cs (vs := [.int x1]) (rest := []) pu_g247 rfl rfl rfl rfl rfl (pu_CI (pu_I_imp H (fun y1 D2 H => ?_)))
  refine pu_iload_n rfl ?_
  refine pu_cs (vs := [.int x2]) (rest := [.int y1]) pu_g247 rfl rfl rfl rfl rfl (pu_CI (pu_I_imp H (fun y3 D4 H => ?_)))
  refine pu_isub ?_
  refine pu_istore (L' := [.ref 56, .int x1, .int x2, .int x3, .int (y1 - y3)]) (Or.inr rfl) rfl ?_
  refine pu_iload_n rfl ?_
  refine pu_iconst ?_
  refine pu_ne_ pu_t11_32 (fun h5 => ?_) (fun h5 => ?_)
  · replace H := pu_f h5 H
    refine pu_aload_n rfl ?_
    refine pu_iload_n rfl ?_
    refine pu_cv (vs := [.int x1]) (rest := []) pu_g12 ⟨pu_c56, by decide⟩ rfl rfl rfl rfl rfl (pu_CI (pu_I_imp H (fun y6 D7 H => ?_)))
    refine pu_aload_n rfl ?_
    refine pu_iload_n rfl ?_
    refine pu_cv (vs := [.int x2]) (rest := [.int y6]) pu_g12 ⟨pu_c56, by decide⟩ rfl rfl rfl rfl rfl (pu_CI (pu_I_imp H (fun y8 D9 H => ?_)))
    refine pu_ge_ pu_t11_49 (fun h10 => ?_) (fun h10 => ?_)
    · replace H := pu_f h10 H
      refine pu_iconst ?_
      exact pu_iretZ pu_rt11 (by decide) H
    · replace H := pu_t h10 H
      refine pu_iconst ?_
      refine pu_goto pu_t11_50 ?_
      exact pu_iretZ pu_rt11 (by decide) H
  · replace H := pu_t h5 H
    refine pu_iload rfl ?_
    refine pu_eq0 pu_t11_32 (fun h11 => ?_) (fun h11 => ?_)
    · replace H := pu_t h11 H
      refine pu_aload_n rfl ?_
      refine pu_iload_n rfl ?_
      refine pu_cv (vs := [.int x1]) (rest := []) pu_g12 ⟨pu_c56, by decide⟩ rfl rfl rfl rfl rfl (pu_CI (pu_I_imp H (fun y12 D13 H => ?_)))
      refine pu_aload_n rfl ?_
      refine pu_iload_n rfl ?_
      refine pu_cv (vs := [.int x2]) (rest := [.int y12]) pu_g12 ⟨pu_c56, by decide⟩ rfl rfl rfl rfl rfl (pu_CI (pu_I_imp H (fun y14 D15 H => ?_)))
      refine pu_ge_ pu_t11_49 (fun h16 => ?_) (fun h16 => ?_)
      · replace H := pu_f h16 H
        refine pu_iconst ?_
        exact pu_iretZ pu_rt11 (by decide) H
      · replace H := pu_t h16 H
        refine pu_iconst ?_
        refine pu_goto pu_t11_50 ?_
        exact pu_iretZ pu_rt11 (by decide) H
    · replace H := pu_f h11 H
      refine pu_iload rfl ?_
      refine pu_ge0 pu_t11_30 (fun h17 => ?_) (fun h17 => ?_)
      · replace H := pu_f h17 H
        refine pu_iconst ?_
        exact pu_iretZ pu_rt11 (by decide) H
      · replace H := pu_t h17 H
        refine pu_iconst ?_
        refine pu_goto pu_t11_31 ?_
        exact pu_iretZ pu_rt11 (by decide) H
/-- LightAlong$Choice.coinsOf(I)I -/
def pu_h12_4 (X : px_X) (x1 : Int32) (x2 : Int32) (x3 : Int32) (D : pu_D) (P : Int32 → pu_D → Prop) : Prop := pu_W X 12 (0, 0) px_c12_4 [.ref 56, .int x1, .int x2, .int x3] [] D (pu_qi P)
theorem pu_u12_4 {X : px_X} {x1 : Int32} {x2 : Int32} {x3 : Int32} {D : pu_D} {P : Int32 → pu_D → Prop} 
    (H : if x3 < (D.1 56 7) then (pu_I X 142 [.int x1, .int x3] D (fun y2 D3 => if y2 = 0 then (pu_h12_4 X x1 x2 (x3 + 1) D3 P) else ((px_in x3 9 = true) ∧ pu_h12_4 X x1 (x2 + (D3.1 61 x3.toNatClampNeg)) (x3 + 1) D3 P))) else (P x2 D)) :
    pu_h12_4 X x1 x2 x3 D P := by
  refine pu_iload_n rfl ?_
  refine pu_aload_n rfl ?_
  refine pu_getI pu_k1_7 pu_c56 ?_
  refine pu_ge_ pu_t12_35 (fun h1 => ?_) (fun h1 => ?_)
  · replace H := pu_f h1 H
    refine pu_iload_n rfl ?_
    exact pu_iretI pu_rt12 H
  · replace H := pu_t h1 H
    refine pu_iload_n rfl ?_
    refine pu_iload_n rfl ?_
    refine pu_cs (vs := [.int x1, .int x3]) (rest := []) pu_g142 rfl rfl rfl rfl rfl (pu_CI (pu_I_imp H (fun y2 D3 H => ?_)))
    refine pu_eq0 pu_t12_29 (fun h4 => ?_) (fun h4 => ?_)
    · replace H := pu_t h4 H
      refine pu_iinc (L' := [.ref 56, .int x1, .int x2, .int (x3 + 1)]) rfl (Or.inr rfl) rfl ?_
      refine pu_goto pu_t12_4 ?_
      exact H 
    · replace H := pu_f h4 H
      refine pu_iload_n rfl ?_
      refine pu_aload_n rfl ?_
      refine pu_getR pu_kr1_4 pu_c56 pu_r56_4 ?_
      refine pu_iload_n rfl ?_
      refine pu_ial pu_c61 pu_ln61 H.1 ?_
      replace H := H.2
      refine pu_iadd ?_
      refine pu_istore_n (L' := [.ref 56, .int x1, .int (x2 + (D3.1 61 x3.toNatClampNeg)), .int x3]) (Or.inr rfl) rfl ?_
      refine pu_iinc (L' := [.ref 56, .int x1, .int (x2 + (D3.1 61 x3.toNatClampNeg)), .int (x3 + 1)]) rfl (Or.inr rfl) rfl ?_
      refine pu_goto pu_t12_4 ?_
      exact H 
theorem pu_e12 {X : px_X} {x1 : Int32} {D : pu_D} {P : Int32 → pu_D → Prop} 
    (H : pu_h12_4 X x1 0 0 D P) :
    pu_I X 12 [.ref 56, .int x1] D P := by
  refine pu_ent (E := [.ref 56, .int x1, .null, .null]) pu_n12.1 pu_n12.2 pu_t12_0 rfl ?_
  refine pu_iconst ?_
  refine pu_istore_n (L' := [.ref 56, .int x1, .int 0, .null]) (Or.inr rfl) rfl ?_
  refine pu_iconst ?_
  refine pu_istore_n (L' := [.ref 56, .int x1, .int 0, .int 0]) (Or.inr rfl) rfl ?_
  exact H 
/-- LightAlong$Choice.isWell(LLightAlong$Street;I)Z -/
theorem pu_e13 {X : px_X} {x2 : Int32} {D : pu_D} {P : Int32 → pu_D → Prop} 
    (H : pu_I X 15 [.ref 56, .int x2] D (fun y1 D2 => if y1 = 0 then (P 0 D2) else (pu_I X 23 [.ref 62, .ref 1] D2 (fun y4 D5 => if y4 = 0 then (P 1 D5) else (P 0 D5))))) :
    pu_I X 13 [.ref 56, .ref 1, .int x2] D P := by
  refine pu_ent (E := [.ref 56, .ref 1, .int x2]) pu_n13.1 pu_n13.2 pu_t13_0 rfl ?_
  refine pu_aload_n rfl ?_
  refine pu_iload_n rfl ?_
  refine pu_cv (vs := [.int x2]) (rest := []) pu_g15 ⟨pu_c56, by decide⟩ rfl rfl rfl rfl rfl (pu_CI (pu_I_imp H (fun y1 D2 H => ?_)))
  refine pu_eq0 pu_t13_23 (fun h3 => ?_) (fun h3 => ?_)
  · replace H := pu_t h3 H
    refine pu_iconst ?_
    exact pu_iretZ pu_rt13 (by decide) H
  · replace H := pu_f h3 H
    refine pu_aload_n rfl ?_
    refine pu_getR pu_kr1_5 pu_c56 pu_r56_5 ?_
    refine pu_aload_n rfl ?_
    refine pu_cv (vs := [.ref 1]) (rest := []) pu_g23 ⟨pu_c62, by decide⟩ rfl rfl rfl rfl rfl (pu_CI (pu_I_imp H (fun y4 D5 H => ?_)))
    refine pu_ne0 pu_t13_23 (fun h6 => ?_) (fun h6 => ?_)
    · replace H := pu_f h6 H
      refine pu_iconst ?_
      exact pu_iretZ pu_rt13 (by decide) H
    · replace H := pu_t h6 H
      refine pu_iconst ?_
      refine pu_goto pu_t13_24 ?_
      exact pu_iretZ pu_rt13 (by decide) H
/-- LightAlong$Choice.isFirm(I)Z -/
def pu_h14_2 (X : px_X) (x1 : Int32) (x2 : Int32) (D : pu_D) (P : Int32 → pu_D → Prop) : Prop := pu_W X 14 (0, 0) px_c14_2 [.ref 56, .int x1, .int x2] [] D (pu_qi P)
theorem pu_u14_2 {X : px_X} {x1 : Int32} {x2 : Int32} {D : pu_D} {P : Int32 → pu_D → Prop} 
    (H : if x2 < (D.1 56 7) then (pu_I X 142 [.int x1, .int x2] D (fun y2 D3 => if y2 = 0 then (pu_h14_2 X x1 (x2 + 1) D3 P) else (pu_I X 15 [.ref 56, .int (x1 &&& ((1 <<< (x2 &&& 31)) ^^^ (-1)))] D3 (fun y5 D6 => if y5 = 0 then (P 0 D6) else (pu_h14_2 X x1 (x2 + 1) D6 P))))) else (P 1 D)) :
    pu_h14_2 X x1 x2 D P := by
  refine pu_iload_n rfl ?_
  refine pu_aload_n rfl ?_
  refine pu_getI pu_k1_7 pu_c56 ?_
  refine pu_ge_ pu_t14_40 (fun h1 => ?_) (fun h1 => ?_)
  · replace H := pu_f h1 H
    refine pu_iconst ?_
    exact pu_iretZ pu_rt14 (by decide) H
  · replace H := pu_t h1 H
    refine pu_iload_n rfl ?_
    refine pu_iload_n rfl ?_
    refine pu_cs (vs := [.int x1, .int x2]) (rest := []) pu_g142 rfl rfl rfl rfl rfl (pu_CI (pu_I_imp H (fun y2 D3 H => ?_)))
    refine pu_eq0 pu_t14_34 (fun h4 => ?_) (fun h4 => ?_)
    · replace H := pu_t h4 H
      refine pu_iinc (L' := [.ref 56, .int x1, .int (x2 + 1)]) rfl (Or.inr rfl) rfl ?_
      refine pu_goto pu_t14_2 ?_
      exact H 
    · replace H := pu_f h4 H
      refine pu_aload_n rfl ?_
      refine pu_iload_n rfl ?_
      refine pu_iconst ?_
      refine pu_iload_n rfl ?_
      refine pu_ishl ?_
      refine pu_iconst ?_
      refine pu_ixor ?_
      refine pu_iand ?_
      refine pu_cv (vs := [.int (x1 &&& ((1 <<< (x2 &&& 31)) ^^^ (-1)))]) (rest := []) pu_g15 ⟨pu_c56, by decide⟩ rfl rfl rfl rfl rfl (pu_CI (pu_I_imp H (fun y5 D6 H => ?_)))
      refine pu_ne0 pu_t14_34 (fun h7 => ?_) (fun h7 => ?_)
      · replace H := pu_f h7 H
        refine pu_iinc (L' := [.ref 56, .int x1, .int (x2 + 1)]) rfl (Or.inr rfl) rfl ?_
        refine pu_goto pu_t14_2 ?_
        exact H 
      · replace H := pu_t h7 H
        refine pu_iconst ?_
        exact pu_iretZ pu_rt14 (by decide) H
theorem pu_e14 {X : px_X} {x1 : Int32} {D : pu_D} {P : Int32 → pu_D → Prop} 
    (H : pu_h14_2 X x1 0 D P) :
    pu_I X 14 [.ref 56, .int x1] D P := by
  refine pu_ent (E := [.ref 56, .int x1, .null]) pu_n14.1 pu_n14.2 pu_t14_0 rfl ?_
  refine pu_iconst ?_
  refine pu_istore_n (L' := [.ref 56, .int x1, .int 0]) (Or.inr rfl) rfl ?_
  exact H 
/-- LightAlong$Choice.isBrightEnough(I)Z -/
def pu_h15_2 (X : px_X) (x1 : Int32) (x2 : Int32) (D : pu_D) (P : Int32 → pu_D → Prop) : Prop := ∀ z3 : Value, z3.category = 1 → ∀ z4 : Value, z4.category = 1 → pu_W X 15 (0, 0) px_c15_2 [.ref 56, .int x1, .int x2, z3, z4] [] D (pu_qi P)
def pu_h15_20 (X : px_X) (x1 : Int32) (x2 : Int32) (x3 : Int32) (x4 : Int32) (D : pu_D) (P : Int32 → pu_D → Prop) : Prop := pu_W X 15 (0, 0) px_c15_20 [.ref 56, .int x1, .int x2, .int x3, .int x4] [] D (pu_qi P)
theorem pu_u15_2 {X : px_X} {x1 : Int32} {x2 : Int32} {D : pu_D} {P : Int32 → pu_D → Prop} 
    (H : if x2 < (D.1 56 6) then ((px_in x2 120 = true) ∧ pu_h15_20 X x1 x2 (D.1 58 x2.toNatClampNeg) 0 D P) else (P 1 D)) :
    pu_h15_2 X x1 x2 D P := by
  intro z3 hz3 z4 hz4
  refine pu_iload_n rfl ?_
  refine pu_aload_n rfl ?_
  refine pu_getI pu_k1_6 pu_c56 ?_
  refine pu_ge_ pu_t15_97 (fun h1 => ?_) (fun h1 => ?_)
  · replace H := pu_f h1 H
    refine pu_iconst ?_
    exact pu_iretZ pu_rt15 (by decide) H
  · replace H := pu_t h1 H
    refine pu_aload_n rfl ?_
    refine pu_getR pu_kr1_1 pu_c56 pu_r56_1 ?_
    refine pu_iload_n rfl ?_
    refine pu_ial pu_c58 pu_ln58 H.1 ?_
    replace H := H.2
    refine pu_istore_n (L' := [.ref 56, .int x1, .int x2, .int (D.1 58 x2.toNatClampNeg), z4]) (Or.inr rfl) rfl ?_
    refine pu_iconst ?_
    refine pu_istore (L' := [.ref 56, .int x1, .int x2, .int (D.1 58 x2.toNatClampNeg), .int 0]) (Or.inr rfl) rfl ?_
    exact H 
theorem pu_u15_20 {X : px_X} {x1 : Int32} {x2 : Int32} {x3 : Int32} {x4 : Int32} {D : pu_D} {P : Int32 → pu_D → Prop} 
    (H : if x4 < (D.1 56 7) then (pu_I X 142 [.int x1, .int x4] D (fun y5 D6 => if y5 = 0 then (pu_h15_20 X x1 x2 x3 (x4 + 1) D6 P) else ((px_in ((x4 * 120) + x2) 1080 = true) ∧ pu_h15_20 X x1 x2 (x3 + (D6.1 57 ((x4 * 120) + x2).toNatClampNeg)) (x4 + 1) D6 P))) else ((px_in x2 120 = true) ∧ if x3 < (D.1 59 x2.toNatClampNeg) then (P 0 D) else ((px_in x2 120 = true) ∧ if (D.1 60 x2.toNatClampNeg) < x3 then (P 0 D) else ((px_in x2 120 = true) ∧ pu_h15_2 X x1 (x2 + 1) (pu_wi D 65 x2.toNatClampNeg x3) P)))) :
    pu_h15_20 X x1 x2 x3 x4 D P := by
  refine pu_iload rfl ?_
  refine pu_aload_n rfl ?_
  refine pu_getI pu_k1_7 pu_c56 ?_
  refine pu_ge_ pu_t15_59 (fun h2 => ?_) (fun h2 => ?_)
  · replace H := pu_f h2 H
    refine pu_iload_n rfl ?_
    refine pu_aload_n rfl ?_
    refine pu_getR pu_kr1_2 pu_c56 pu_r56_2 ?_
    refine pu_iload_n rfl ?_
    refine pu_ial pu_c59 pu_ln59 H.1 ?_
    replace H := H.2
    refine pu_lt_ pu_t15_79 (fun h3 => ?_) (fun h3 => ?_)
    · replace H := pu_t h3 H
      refine pu_iconst ?_
      exact pu_iretZ pu_rt15 (by decide) H
    · replace H := pu_f h3 H
      refine pu_iload_n rfl ?_
      refine pu_aload_n rfl ?_
      refine pu_getR pu_kr1_3 pu_c56 pu_r56_3 ?_
      refine pu_iload_n rfl ?_
      refine pu_ial pu_c60 pu_ln60 H.1 ?_
      replace H := H.2
      refine pu_le_ pu_t15_81 (fun h4 => ?_) (fun h4 => ?_)
      · replace H := pu_f h4 H
        refine pu_aload_n rfl ?_
        refine pu_getR pu_kr1_5 pu_c56 pu_r56_5 ?_
        refine pu_getR pu_kr2_2 pu_c62 pu_r62_2 ?_
        refine pu_iload_n rfl ?_
        refine pu_iload_n rfl ?_
        refine pu_ias pu_c65 pu_ln65 H.1 ?_
        replace H := H.2
        refine pu_iinc (L' := [.ref 56, .int x1, .int (x2 + 1), .int x3, .int x4]) rfl (Or.inr rfl) rfl ?_
        refine pu_goto pu_t15_2 ?_
        exact H _ rfl _ rfl
      · replace H := pu_t h4 H
        refine pu_iconst ?_
        exact pu_iretZ pu_rt15 (by decide) H
  · replace H := pu_t h2 H
    refine pu_iload_n rfl ?_
    refine pu_iload rfl ?_
    refine pu_cs (vs := [.int x1, .int x4]) (rest := []) pu_g142 rfl rfl rfl rfl rfl (pu_CI (pu_I_imp H (fun y5 D6 H => ?_)))
    refine pu_eq0 pu_t15_53 (fun h7 => ?_) (fun h7 => ?_)
    · replace H := pu_t h7 H
      refine pu_iinc (L' := [.ref 56, .int x1, .int x2, .int x3, .int (x4 + 1)]) rfl (Or.inr rfl) rfl ?_
      refine pu_goto pu_t15_20 ?_
      exact H 
    · replace H := pu_f h7 H
      refine pu_iload_n rfl ?_
      refine pu_aload_n rfl ?_
      refine pu_getR pu_kr1_0 pu_c56 pu_r56_0 ?_
      refine pu_iload rfl ?_
      refine pu_bipush ?_
      refine pu_imul ?_
      refine pu_iload_n rfl ?_
      refine pu_iadd ?_
      refine pu_ial pu_c57 pu_ln57 H.1 ?_
      replace H := H.2
      refine pu_iadd ?_
      refine pu_istore_n (L' := [.ref 56, .int x1, .int x2, .int (x3 + (D6.1 57 ((x4 * 120) + x2).toNatClampNeg)), .int x4]) (Or.inr rfl) rfl ?_
      refine pu_iinc (L' := [.ref 56, .int x1, .int x2, .int (x3 + (D6.1 57 ((x4 * 120) + x2).toNatClampNeg)), .int (x4 + 1)]) rfl (Or.inr rfl) rfl ?_
      refine pu_goto pu_t15_20 ?_
      exact H 
theorem pu_e15 {X : px_X} {x1 : Int32} {D : pu_D} {P : Int32 → pu_D → Prop} 
    (H : pu_h15_2 X x1 0 D P) :
    pu_I X 15 [.ref 56, .int x1] D P := by
  refine pu_ent (E := [.ref 56, .int x1, .null, .null, .null]) pu_n15.1 pu_n15.2 pu_t15_0 rfl ?_
  refine pu_iconst ?_
  refine pu_istore_n (L' := [.ref 56, .int x1, .int 0, .null, .null]) (Or.inr rfl) rfl ?_
  exact H _ rfl _ rfl
/-- LightAlong$Choice.lampsNeeded()I -/
def pu_h16_4 (X : px_X) (x1 : Int32) (x2 : Int32) (D : pu_D) (P : Int32 → pu_D → Prop) : Prop := ∀ z3 : Value, z3.category = 1 → pu_W X 16 (0, 0) px_c16_4 [.ref 56, .int x1, .int x2, z3] [] D (pu_qi P)
theorem pu_u16_4 {X : px_X} {x1 : Int32} {x2 : Int32} {D : pu_D} {P : Int32 → pu_D → Prop} 
    (H : if x2 < (D.1 56 6) then (pu_I X 17 [.ref 56, .int x2] D (fun y2 D3 => if y2 = (-1) then (P (-1) D3) else (pu_h16_4 X (if x1 < y2 then y2 else x1) (x2 + 1) D3 P))) else (P x1 D)) :
    pu_h16_4 X x1 x2 D P := by
  intro z3 hz3
  refine pu_iload_n rfl ?_
  refine pu_aload_n rfl ?_
  refine pu_getI pu_k1_6 pu_c56 ?_
  refine pu_ge_ pu_t16_37 (fun h1 => ?_) (fun h1 => ?_)
  · replace H := pu_f h1 H
    refine pu_iload_n rfl ?_
    exact pu_iretI pu_rt16 H
  · replace H := pu_t h1 H
    refine pu_aload_n rfl ?_
    refine pu_iload_n rfl ?_
    refine pu_cv (vs := [.int x2]) (rest := []) pu_g17 ⟨pu_c56, by decide⟩ rfl rfl rfl rfl rfl (pu_CI (pu_I_imp H (fun y2 D3 H => ?_)))
    refine pu_istore_n (L' := [.ref 56, .int x1, .int x2, .int y2]) (Or.inr rfl) rfl ?_
    refine pu_iload_n rfl ?_
    refine pu_iconst ?_
    refine pu_ne_ pu_t16_25 (fun h4 => ?_) (fun h4 => ?_)
    · replace H := pu_f h4 H
      refine pu_iload_n rfl ?_
      refine pu_iload_n rfl ?_
      refine pu_mmax rfl ?_
      refine pu_istore_n (L' := [.ref 56, .int (if x1 < y2 then y2 else x1), .int x2, .int y2]) (Or.inr rfl) rfl ?_
      refine pu_iinc (L' := [.ref 56, .int (if x1 < y2 then y2 else x1), .int (x2 + 1), .int y2]) rfl (Or.inr rfl) rfl ?_
      refine pu_goto pu_t16_4 ?_
      exact H _ rfl
    · replace H := pu_t h4 H
      refine pu_iconst ?_
      exact pu_iretI pu_rt16 H
theorem pu_e16 {X : px_X}  {D : pu_D} {P : Int32 → pu_D → Prop} 
    (H : pu_h16_4 X 0 0 D P) :
    pu_I X 16 [.ref 56] D P := by
  refine pu_ent (E := [.ref 56, .null, .null, .null]) pu_n16.1 pu_n16.2 pu_t16_0 rfl ?_
  refine pu_iconst ?_
  refine pu_istore_n (L' := [.ref 56, .int 0, .null, .null]) (Or.inr rfl) rfl ?_
  refine pu_iconst ?_
  refine pu_istore_n (L' := [.ref 56, .int 0, .int 0, .null]) (Or.inr rfl) rfl ?_
  exact H _ rfl
/-- LightAlong$Choice.lampsNeededAt(I)I -/
def pu_h17_12 (X : px_X) (x1 : Int32) (x2 : Int32) (x3 : Int32) (x4 : Int32) (D : pu_D) (P : Int32 → pu_D → Prop) : Prop := ∀ z5 : Value, z5.category = 1 → pu_W X 17 (0, 0) px_c17_12 [.ref 56, .int x1, .int x2, .int x3, .int x4, z5] [] D (pu_qi P)
theorem pu_u17_12 {X : px_X} {x1 : Int32} {x2 : Int32} {x3 : Int32} {x4 : Int32} {D : pu_D} {P : Int32 → pu_D → Prop} 
    (H : if x4 < (D.1 56 7) then ((px_in x1 120 = true) ∧ if x2 < (D.1 59 x1.toNatClampNeg) then (pu_I X 18 [.ref 56, .int x3, .int x1] D (fun y4 D5 => if y4 = (-1) then (P (-1) D5) else ((px_in ((y4 * 120) + x1) 1080 = true) ∧ pu_h17_12 X x1 (x2 + (D5.1 57 ((y4 * 120) + x1).toNatClampNeg)) (x3 ||| (1 <<< (y4 &&& 31))) (x4 + 1) D5 P))) else (P x4 D)) else ((px_in x1 120 = true) ∧ if x2 < (D.1 59 x1.toNatClampNeg) then (P (-1) D) else (P (D.1 56 7) D))) :
    pu_h17_12 X x1 x2 x3 x4 D P := by
  intro z5 hz5
  refine pu_iload rfl ?_
  refine pu_aload_n rfl ?_
  refine pu_getI pu_k1_7 pu_c56 ?_
  refine pu_ge_ pu_t17_78 (fun h1 => ?_) (fun h1 => ?_)
  · replace H := pu_f h1 H
    refine pu_iload_n rfl ?_
    refine pu_aload_n rfl ?_
    refine pu_getR pu_kr1_2 pu_c56 pu_r56_2 ?_
    refine pu_iload_n rfl ?_
    refine pu_ial pu_c59 pu_ln59 H.1 ?_
    replace H := H.2
    refine pu_lt_ pu_t17_95 (fun h2 => ?_) (fun h2 => ?_)
    · replace H := pu_t h2 H
      refine pu_iconst ?_
      exact pu_iretI pu_rt17 H
    · replace H := pu_f h2 H
      refine pu_aload_n rfl ?_
      refine pu_getI pu_k1_7 pu_c56 ?_
      refine pu_goto pu_t17_96 ?_
      exact pu_iretI pu_rt17 H
  · replace H := pu_t h1 H
    refine pu_iload_n rfl ?_
    refine pu_aload_n rfl ?_
    refine pu_getR pu_kr1_2 pu_c56 pu_r56_2 ?_
    refine pu_iload_n rfl ?_
    refine pu_ial pu_c59 pu_ln59 H.1 ?_
    replace H := H.2
    refine pu_lt_ pu_t17_34 (fun h3 => ?_) (fun h3 => ?_)
    · replace H := pu_t h3 H
      refine pu_aload_n rfl ?_
      refine pu_iload_n rfl ?_
      refine pu_iload_n rfl ?_
      refine pu_cv (vs := [.int x3, .int x1]) (rest := []) pu_g18 ⟨pu_c56, by decide⟩ rfl rfl rfl rfl rfl (pu_CI (pu_I_imp H (fun y4 D5 H => ?_)))
      refine pu_istore (L' := [.ref 56, .int x1, .int x2, .int x3, .int x4, .int y4]) (Or.inr rfl) rfl ?_
      refine pu_iload rfl ?_
      refine pu_iconst ?_
      refine pu_ne_ pu_t17_50 (fun h6 => ?_) (fun h6 => ?_)
      · replace H := pu_f h6 H
        refine pu_iload_n rfl ?_
        refine pu_aload_n rfl ?_
        refine pu_getR pu_kr1_0 pu_c56 pu_r56_0 ?_
        refine pu_iload rfl ?_
        refine pu_bipush ?_
        refine pu_imul ?_
        refine pu_iload_n rfl ?_
        refine pu_iadd ?_
        refine pu_ial pu_c57 pu_ln57 H.1 ?_
        replace H := H.2
        refine pu_iadd ?_
        refine pu_istore_n (L' := [.ref 56, .int x1, .int (x2 + (D5.1 57 ((y4 * 120) + x1).toNatClampNeg)), .int x3, .int x4, .int y4]) (Or.inr rfl) rfl ?_
        refine pu_iload_n rfl ?_
        refine pu_iconst ?_
        refine pu_iload rfl ?_
        refine pu_ishl ?_
        refine pu_ior ?_
        refine pu_istore_n (L' := [.ref 56, .int x1, .int (x2 + (D5.1 57 ((y4 * 120) + x1).toNatClampNeg)), .int (x3 ||| (1 <<< (y4 &&& 31))), .int x4, .int y4]) (Or.inr rfl) rfl ?_
        refine pu_iinc (L' := [.ref 56, .int x1, .int (x2 + (D5.1 57 ((y4 * 120) + x1).toNatClampNeg)), .int (x3 ||| (1 <<< (y4 &&& 31))), .int (x4 + 1), .int y4]) rfl (Or.inr rfl) rfl ?_
        refine pu_goto pu_t17_12 ?_
        exact H _ rfl
      · replace H := pu_t h6 H
        refine pu_iconst ?_
        exact pu_iretI pu_rt17 H
    · replace H := pu_f h3 H
      refine pu_iload rfl ?_
      exact pu_iretI pu_rt17 H
theorem pu_e17 {X : px_X} {x1 : Int32} {D : pu_D} {P : Int32 → pu_D → Prop} 
    (H : (px_in x1 120 = true) ∧ pu_h17_12 X x1 (D.1 58 x1.toNatClampNeg) 0 0 D P) :
    pu_I X 17 [.ref 56, .int x1] D P := by
  refine pu_ent (E := [.ref 56, .int x1, .null, .null, .null, .null]) pu_n17.1 pu_n17.2 pu_t17_0 rfl ?_
  refine pu_aload_n rfl ?_
  refine pu_getR pu_kr1_1 pu_c56 pu_r56_1 ?_
  refine pu_iload_n rfl ?_
  refine pu_ial pu_c58 pu_ln58 H.1 ?_
  replace H := H.2
  refine pu_istore_n (L' := [.ref 56, .int x1, .int (D.1 58 x1.toNatClampNeg), .null, .null, .null]) (Or.inr rfl) rfl ?_
  refine pu_iconst ?_
  refine pu_istore_n (L' := [.ref 56, .int x1, .int (D.1 58 x1.toNatClampNeg), .int 0, .null, .null]) (Or.inr rfl) rfl ?_
  refine pu_iconst ?_
  refine pu_istore (L' := [.ref 56, .int x1, .int (D.1 58 x1.toNatClampNeg), .int 0, .int 0, .null]) (Or.inr rfl) rfl ?_
  exact H _ rfl
/-- LightAlong$Choice.brightestAside(II)I -/
def pu_h18_5 (X : px_X) (x1 : Int32) (x2 : Int32) (x3 : Int32) (x4 : Int32) (D : pu_D) (P : Int32 → pu_D → Prop) : Prop := pu_W X 18 (0, 0) px_c18_5 [.ref 56, .int x1, .int x2, .int x3, .int x4] [] D (pu_qi P)
theorem pu_u18_5 {X : px_X} {x1 : Int32} {x2 : Int32} {x3 : Int32} {x4 : Int32} {D : pu_D} {P : Int32 → pu_D → Prop} 
    (H : if x4 < (D.1 56 7) then (pu_I X 142 [.int x1, .int x4] D (fun y2 D3 => if y2 = 0 then (if x3 = (-1) then (pu_h18_5 X x1 x2 x4 (x4 + 1) D3 P) else ((px_in ((x4 * 120) + x2) 1080 = true) ∧ (px_in ((x3 * 120) + x2) 1080 = true) ∧ if (D3.1 57 ((x3 * 120) + x2).toNatClampNeg) < (D3.1 57 ((x4 * 120) + x2).toNatClampNeg) then (pu_h18_5 X x1 x2 x4 (x4 + 1) D3 P) else (pu_h18_5 X x1 x2 x3 (x4 + 1) D3 P))) else (pu_h18_5 X x1 x2 x3 (x4 + 1) D3 P))) else (P x3 D)) :
    pu_h18_5 X x1 x2 x3 x4 D P := by
  refine pu_iload rfl ?_
  refine pu_aload_n rfl ?_
  refine pu_getI pu_k1_7 pu_c56 ?_
  refine pu_ge_ pu_t18_66 (fun h1 => ?_) (fun h1 => ?_)
  · replace H := pu_f h1 H
    refine pu_iload_n rfl ?_
    exact pu_iretI pu_rt18 H
  · replace H := pu_t h1 H
    refine pu_iload_n rfl ?_
    refine pu_iload rfl ?_
    refine pu_cs (vs := [.int x1, .int x4]) (rest := []) pu_g142 rfl rfl rfl rfl rfl (pu_CI (pu_I_imp H (fun y2 D3 H => ?_)))
    refine pu_eq0 pu_t18_26 (fun h4 => ?_) (fun h4 => ?_)
    · replace H := pu_t h4 H
      refine pu_iload_n rfl ?_
      refine pu_iconst ?_
      refine pu_eq_ pu_t18_57 (fun h5 => ?_) (fun h5 => ?_)
      · replace H := pu_t h5 H
        refine pu_iload rfl ?_
        refine pu_istore_n (L' := [.ref 56, .int x1, .int x2, .int x4, .int x4]) (Or.inr rfl) rfl ?_
        refine pu_iinc (L' := [.ref 56, .int x1, .int x2, .int x4, .int (x4 + 1)]) rfl (Or.inr rfl) rfl ?_
        refine pu_goto pu_t18_5 ?_
        exact H 
      · replace H := pu_f h5 H
        refine pu_aload_n rfl ?_
        refine pu_getR pu_kr1_0 pu_c56 pu_r56_0 ?_
        refine pu_iload rfl ?_
        refine pu_bipush ?_
        refine pu_imul ?_
        refine pu_iload_n rfl ?_
        refine pu_iadd ?_
        refine pu_ial pu_c57 pu_ln57 H.1 ?_
        replace H := H.2
        refine pu_aload_n rfl ?_
        refine pu_getR pu_kr1_0 pu_c56 pu_r56_0 ?_
        refine pu_iload_n rfl ?_
        refine pu_bipush ?_
        refine pu_imul ?_
        refine pu_iload_n rfl ?_
        refine pu_iadd ?_
        refine pu_ial pu_c57 pu_ln57 H.1 ?_
        replace H := H.2
        refine pu_le_ pu_t18_60 (fun h6 => ?_) (fun h6 => ?_)
        · replace H := pu_f h6 H
          refine pu_iinc (L' := [.ref 56, .int x1, .int x2, .int x3, .int (x4 + 1)]) rfl (Or.inr rfl) rfl ?_
          refine pu_goto pu_t18_5 ?_
          exact H 
        · replace H := pu_t h6 H
          refine pu_iload rfl ?_
          refine pu_istore_n (L' := [.ref 56, .int x1, .int x2, .int x4, .int x4]) (Or.inr rfl) rfl ?_
          refine pu_iinc (L' := [.ref 56, .int x1, .int x2, .int x4, .int (x4 + 1)]) rfl (Or.inr rfl) rfl ?_
          refine pu_goto pu_t18_5 ?_
          exact H 
    · replace H := pu_f h4 H
      refine pu_goto pu_t18_60 ?_
      refine pu_iinc (L' := [.ref 56, .int x1, .int x2, .int x3, .int (x4 + 1)]) rfl (Or.inr rfl) rfl ?_
      refine pu_goto pu_t18_5 ?_
      exact H 
theorem pu_e18 {X : px_X} {x1 : Int32} {x2 : Int32} {D : pu_D} {P : Int32 → pu_D → Prop} 
    (H : pu_h18_5 X x1 x2 (-1) 0 D P) :
    pu_I X 18 [.ref 56, .int x1, .int x2] D P := by
  refine pu_ent (E := [.ref 56, .int x1, .int x2, .null, .null]) pu_n18.1 pu_n18.2 pu_t18_0 rfl ?_
  refine pu_iconst ?_
  refine pu_istore_n (L' := [.ref 56, .int x1, .int x2, .int (-1), .null]) (Or.inr rfl) rfl ?_
  refine pu_iconst ?_
  refine pu_istore (L' := [.ref 56, .int x1, .int x2, .int (-1), .int 0]) (Or.inr rfl) rfl ?_
  exact H 
/-- LightAlong$Lights.measure(LLightAlong$Street;)V -/
def pu_h20_19 (X : px_X) (q0 : Nat) (x2 : Int32) (D : pu_D) (P : pu_D → Prop) : Prop := pu_W X 20 (0, 0) px_c20_19 [.ref q0, .ref 1, .int x2] [] D (pu_qv P)
theorem pu_u20_19 {X : px_X} {q0 : Nat} {x2 : Int32} {D : pu_D} {P : pu_D → Prop} (hq0 : pu_cl q0 = 2)
    (H : if x2 < (D.1 q0 3) then (pu_I X 50 [.ref 1, .int x2] D (fun y2 D3 => (px_in x2 120 = true) ∧ pu_h20_19 X q0 (x2 + 1) (pu_wi D3 (pu_rf q0 0) x2.toNatClampNeg (vp_nar .boolean y2)) P)) else (P D)) :
    pu_h20_19 X q0 x2 D P := by
  refine pu_iload_n rfl ?_
  refine pu_aload_n rfl ?_
  refine pu_getI pu_k2_3 hq0 ?_
  refine pu_ge_ pu_t20_44 (fun h1 => ?_) (fun h1 => ?_)
  · replace H := pu_f h1 H
    exact pu_vret pu_rt20 H
  · replace H := pu_t h1 H
    refine pu_aload_n rfl ?_
    refine pu_getR pu_kr2_0 hq0 rfl ?_
    refine pu_iload_n rfl ?_
    refine pu_aload_n rfl ?_
    refine pu_iload_n rfl ?_
    refine pu_cv (vs := [.int x2]) (rest := [.int x2, .ref (pu_rf q0 0)]) pu_g50 ⟨pu_c1, by decide⟩ rfl rfl rfl rfl rfl (pu_CI (pu_I_imp H (fun y2 D3 H => ?_)))
    refine pu_bas (pu_f2_0 hq0) (pu_l2_0 hq0) H.1 ?_
    replace H := H.2
    refine pu_iinc (L' := [.ref q0, .ref 1, .int (x2 + 1)]) rfl (Or.inr rfl) rfl ?_
    refine pu_goto pu_t20_19 ?_
    exact H 
theorem pu_e20 {X : px_X} {q0 : Nat} {D : pu_D} {P : pu_D → Prop} (hq0 : pu_cl q0 = 2)
    (H : pu_h20_19 X q0 0 (pu_wi D q0 3 (if 120 < ((D.1 2 (Int32.toNatClampNeg 3)) * 2) then 120 else ((D.1 2 (Int32.toNatClampNeg 3)) * 2))) P) :
    pu_V X 20 [.ref q0, .ref 1] D P := by
  refine pu_ent (E := [.ref q0, .ref 1, .null]) pu_n20.1 pu_n20.2 pu_t20_0 rfl ?_
  refine pu_aload_n rfl ?_
  refine pu_aload_n rfl ?_
  refine pu_getR pu_kr4_0 pu_c1 pu_r1_0 ?_
  refine pu_iconst ?_
  refine pu_ial pu_c2 pu_ln2 (by decide) ?_
  refine pu_iconst ?_
  refine pu_imul ?_
  refine pu_bipush ?_
  refine pu_mmin rfl ?_
  refine pu_putI pu_p2_3 hq0 ?_
  refine pu_iconst ?_
  refine pu_istore_n (L' := [.ref q0, .ref 1, .int 0]) (Or.inr rfl) rfl ?_
  exact H 
/-- LightAlong$Lights.shine(LLightAlong$Street;IZI)V -/
def pu_h21_8 (X : px_X) (x2 : Int32) (x3 : Int32) (x4 : Int32) (x5 : Int32) (D : pu_D) (P : pu_D → Prop) : Prop := pu_W X 21 (0, 0) px_c21_8 [.ref 52, .ref 1, .int x2, .int x3, .int x4, .int x5] [] D (pu_qv P)
theorem pu_u21_8 {X : px_X} {x2 : Int32} {x3 : Int32} {x4 : Int32} {x5 : Int32} {D : pu_D} {P : pu_D → Prop} 
    (H : if x5 < (D.1 52 3) then (pu_I X 64 [.ref 1, .int x2, .int x3, .int x5, .int x4] D (fun y4 D5 => (px_in x5 120 = true) ∧ pu_h21_8 X x2 x3 x4 (x5 + 1) (pu_wi D5 54 x5.toNatClampNeg y4) P)) else (P D)) :
    pu_h21_8 X x2 x3 x4 x5 D P := by
  refine pu_iload rfl ?_
  refine pu_aload_n rfl ?_
  refine pu_getI pu_k2_3 pu_c52 ?_
  refine pu_ge_ pu_t21_40 (fun h3 => ?_) (fun h3 => ?_)
  · replace H := pu_f h3 H
    exact pu_vret pu_rt21 H
  · replace H := pu_t h3 H
    refine pu_aload_n rfl ?_
    refine pu_getR pu_kr2_1 pu_c52 pu_r52_1 ?_
    refine pu_iload rfl ?_
    refine pu_aload_n rfl ?_
    refine pu_iload_n rfl ?_
    refine pu_iload_n rfl ?_
    refine pu_iload rfl ?_
    refine pu_iload rfl ?_
    refine pu_cv (vs := [.int x2, .int x3, .int x5, .int x4]) (rest := [.int x5, .ref 54]) pu_g64 ⟨pu_c1, by decide⟩ rfl rfl rfl rfl rfl (pu_CI (pu_I_imp H (fun y4 D5 H => ?_)))
    refine pu_ias pu_c54 pu_ln54 H.1 ?_
    replace H := H.2
    refine pu_iinc (L' := [.ref 52, .ref 1, .int x2, .int x3, .int x4, .int (x5 + 1)]) rfl (Or.inr rfl) rfl ?_
    refine pu_goto pu_t21_8 ?_
    exact H 
theorem pu_e21 {X : px_X} {x2 : Int32} {x3 : Int32} {x4 : Int32} {D : pu_D} {P : pu_D → Prop} 
    (H : pu_V X 20 [.ref 52, .ref 1] D (fun D2 => pu_h21_8 X x2 x3 x4 0 D2 P)) :
    pu_V X 21 [.ref 52, .ref 1, .int x2, .int x3, .int x4] D P := by
  refine pu_ent (E := [.ref 52, .ref 1, .int x2, .int x3, .int x4, .null]) pu_n21.1 pu_n21.2 pu_t21_0 rfl ?_
  refine pu_aload_n rfl ?_
  refine pu_aload_n rfl ?_
  refine pu_cv (vs := [.ref 1]) (rest := []) pu_g20 ⟨pu_c52, by decide⟩ rfl rfl rfl rfl rfl (pu_CV (pu_V_imp H (fun D2 H => ?_)))
  refine pu_iconst ?_
  refine pu_istore (L' := [.ref 52, .ref 1, .int x2, .int x3, .int x4, .int 0]) (Or.inr rfl) rfl ?_
  exact H 
/-- LightAlong$Lights.addShops(LLightAlong$Street;I)V -/
def pu_h22_2 (X : px_X) (x2 : Int32) (x3 : Int32) (D : pu_D) (P : pu_D → Prop) : Prop := pu_W X 22 (0, 0) px_c22_2 [.ref 52, .ref 1, .int x2, .int x3] [] D (pu_qv P)
theorem pu_u22_2 {X : px_X} {x2 : Int32} {x3 : Int32} {D : pu_D} {P : pu_D → Prop} 
    (H : if x3 < (D.1 52 3) then ((px_in x3 120 = true) ∧ pu_I X 68 [.ref 1, .int x3, .int x2] D (fun y2 D3 => (px_in x3 120 = true) ∧ pu_h22_2 X x2 (x3 + 1) (pu_wi D3 55 x3.toNatClampNeg ((D.1 54 x3.toNatClampNeg) + y2)) P)) else (P D)) :
    pu_h22_2 X x2 x3 D P := by
  refine pu_iload_n rfl ?_
  refine pu_aload_n rfl ?_
  refine pu_getI pu_k2_3 pu_c52 ?_
  refine pu_ge_ pu_t22_35 (fun h1 => ?_) (fun h1 => ?_)
  · replace H := pu_f h1 H
    exact pu_vret pu_rt22 H
  · replace H := pu_t h1 H
    refine pu_aload_n rfl ?_
    refine pu_getR pu_kr2_2 pu_c52 pu_r52_2 ?_
    refine pu_iload_n rfl ?_
    refine pu_aload_n rfl ?_
    refine pu_getR pu_kr2_1 pu_c52 pu_r52_1 ?_
    refine pu_iload_n rfl ?_
    refine pu_ial pu_c54 pu_ln54 H.1 ?_
    replace H := H.2
    refine pu_aload_n rfl ?_
    refine pu_iload_n rfl ?_
    refine pu_iload_n rfl ?_
    refine pu_cv (vs := [.int x3, .int x2]) (rest := [.int (D.1 54 x3.toNatClampNeg), .int x3, .ref 55]) pu_g68 ⟨pu_c1, by decide⟩ rfl rfl rfl rfl rfl (pu_CI (pu_I_imp H (fun y2 D3 H => ?_)))
    refine pu_iadd ?_
    refine pu_ias pu_c55 pu_ln55 H.1 ?_
    replace H := H.2
    refine pu_iinc (L' := [.ref 52, .ref 1, .int x2, .int (x3 + 1)]) rfl (Or.inr rfl) rfl ?_
    refine pu_goto pu_t22_2 ?_
    exact H 
theorem pu_e22 {X : px_X} {x2 : Int32} {D : pu_D} {P : pu_D → Prop} 
    (H : pu_h22_2 X x2 0 D P) :
    pu_V X 22 [.ref 52, .ref 1, .int x2] D P := by
  refine pu_ent (E := [.ref 52, .ref 1, .int x2, .null]) pu_n22.1 pu_n22.2 pu_t22_0 rfl ?_
  refine pu_iconst ?_
  refine pu_istore_n (L' := [.ref 52, .ref 1, .int x2, .int 0]) (Or.inr rfl) rfl ?_
  exact H 
/-- LightAlong$Lights.ruleBroken(LLightAlong$Street;)I -/
theorem pu_e23 {X : px_X} {q0 : Nat} {D : pu_D} {P : Int32 → pu_D → Prop} (hq0 : pu_cl q0 = 2)
    (H : pu_I X 26 [.ref q0, .ref 1] D (fun y1 D2 => if y1 = (-1) then (pu_I X 27 [.ref q0] D2 (fun y4 D5 => if y4 = (-1) then (pu_I X 28 [.ref q0, .ref 1] D5 (fun y7 D8 => if y7 = (-1) then (pu_I X 29 [.ref q0, .ref 1] D8 (fun y10 D11 => if y10 = (-1) then (P 0 D11) else (P 4 D11))) else (P 3 D8))) else (P 2 D5))) else (P 1 D2))) :
    pu_I X 23 [.ref q0, .ref 1] D P := by
  refine pu_ent (E := [.ref q0, .ref 1]) pu_n23.1 pu_n23.2 pu_t23_0 rfl ?_
  refine pu_aload_n rfl ?_
  refine pu_aload_n rfl ?_
  refine pu_cv (vs := [.ref 1]) (rest := []) pu_g26 ⟨hq0, by decide⟩ rfl rfl rfl rfl rfl (pu_CI (pu_I_imp H (fun y1 D2 H => ?_)))
  refine pu_iconst ?_
  refine pu_eq_ pu_t23_11 (fun h3 => ?_) (fun h3 => ?_)
  · replace H := pu_t h3 H
    refine pu_aload_n rfl ?_
    refine pu_cv (vs := []) (rest := []) pu_g27 ⟨hq0, by decide⟩ rfl rfl rfl rfl rfl (pu_CI (pu_I_imp H (fun y4 D5 H => ?_)))
    refine pu_iconst ?_
    refine pu_eq_ pu_t23_21 (fun h6 => ?_) (fun h6 => ?_)
    · replace H := pu_t h6 H
      refine pu_aload_n rfl ?_
      refine pu_aload_n rfl ?_
      refine pu_cv (vs := [.ref 1]) (rest := []) pu_g28 ⟨hq0, by decide⟩ rfl rfl rfl rfl rfl (pu_CI (pu_I_imp H (fun y7 D8 H => ?_)))
      refine pu_iconst ?_
      refine pu_eq_ pu_t23_32 (fun h9 => ?_) (fun h9 => ?_)
      · replace H := pu_t h9 H
        refine pu_aload_n rfl ?_
        refine pu_aload_n rfl ?_
        refine pu_cv (vs := [.ref 1]) (rest := []) pu_g29 ⟨hq0, by decide⟩ rfl rfl rfl rfl rfl (pu_CI (pu_I_imp H (fun y10 D11 H => ?_)))
        refine pu_iconst ?_
        refine pu_eq_ pu_t23_45 (fun h12 => ?_) (fun h12 => ?_)
        · replace H := pu_t h12 H
          refine pu_iconst ?_
          exact pu_iretI pu_rt23 H
        · replace H := pu_f h12 H
          refine pu_iconst ?_
          refine pu_goto pu_t23_46 ?_
          exact pu_iretI pu_rt23 H
      · replace H := pu_f h9 H
        refine pu_iconst ?_
        exact pu_iretI pu_rt23 H
    · replace H := pu_f h6 H
      refine pu_iconst ?_
      exact pu_iretI pu_rt23 H
  · replace H := pu_f h3 H
    refine pu_iconst ?_
    exact pu_iretI pu_rt23 H
/-- LightAlong$Lights.pointAgainst(LLightAlong$Street;I)I -/
theorem pu_e24 {X : px_X} {x2 : Int32} {D : pu_D} {P : Int32 → pu_D → Prop} 
    (H : if x2 = 1 then (pu_I X 26 [.ref 52, .ref 1] D (fun y2 D3 => P y2 D3)) else if x2 = 2 then (pu_I X 27 [.ref 52] D (fun y5 D6 => P y5 D6)) else if x2 = 3 then (pu_I X 28 [.ref 52, .ref 1] D (fun y8 D9 => P y8 D9)) else if x2 = 4 then (pu_I X 29 [.ref 52, .ref 1] D (fun y11 D12 => P y11 D12)) else (P (-1) D)) :
    pu_I X 24 [.ref 52, .ref 1, .int x2] D P := by
  refine pu_ent (E := [.ref 52, .ref 1, .int x2]) pu_n24.1 pu_n24.2 pu_t24_0 rfl ?_
  refine pu_iload_n rfl ?_
  by_cases h1 : x2 = 1
  · replace H := pu_t h1 H
    refine pu_tswC 1 (31) h1 (by decide +kernel) pu_t24_32 ?_
    refine pu_aload_n rfl ?_
    refine pu_aload_n rfl ?_
    refine pu_cv (vs := [.ref 1]) (rest := []) pu_g26 ⟨pu_c52, by decide⟩ rfl rfl rfl rfl rfl (pu_CI (pu_I_imp H (fun y2 D3 H => ?_)))
    exact pu_iretI pu_rt24 H
  replace H := pu_f h1 H
  by_cases h4 : x2 = 2
  · replace H := pu_t h4 H
    refine pu_tswC 2 (37) h4 (by decide +kernel) pu_t24_38 ?_
    refine pu_aload_n rfl ?_
    refine pu_cv (vs := []) (rest := []) pu_g27 ⟨pu_c52, by decide⟩ rfl rfl rfl rfl rfl (pu_CI (pu_I_imp H (fun y5 D6 H => ?_)))
    exact pu_iretI pu_rt24 H
  replace H := pu_f h4 H
  by_cases h7 : x2 = 3
  · replace H := pu_t h7 H
    refine pu_tswC 3 (42) h7 (by decide +kernel) pu_t24_43 ?_
    refine pu_aload_n rfl ?_
    refine pu_aload_n rfl ?_
    refine pu_cv (vs := [.ref 1]) (rest := []) pu_g28 ⟨pu_c52, by decide⟩ rfl rfl rfl rfl rfl (pu_CI (pu_I_imp H (fun y8 D9 H => ?_)))
    exact pu_iretI pu_rt24 H
  replace H := pu_f h7 H
  by_cases h10 : x2 = 4
  · replace H := pu_t h10 H
    refine pu_tswC 4 (48) h10 (by decide +kernel) pu_t24_49 ?_
    refine pu_aload_n rfl ?_
    refine pu_aload_n rfl ?_
    refine pu_cv (vs := [.ref 1]) (rest := []) pu_g29 ⟨pu_c52, by decide⟩ rfl rfl rfl rfl rfl (pu_CI (pu_I_imp H (fun y11 D12 H => ?_)))
    exact pu_iretI pu_rt24 H
  replace H := pu_f h10 H
  refine pu_tswD [1, 2, 3, 4] (by simp only [List.mem_cons, List.not_mem_nil, or_false, not_or]; exact ⟨h1, h4, h7, h10⟩) (by decide +kernel) pu_t24_55 ?_
  refine pu_iconst ?_
  exact pu_iretI pu_rt24 H
/-- LightAlong$Lights.leastLight()I -/
theorem pu_e25 {X : px_X}  {D : pu_D} {P : Int32 → pu_D → Prop} 
    (H : pu_I X 30 [.ref 52] D (fun y1 D2 => if y1 < 0 then (P (-1) D2) else (if y1 < 120 then ((px_in y1 120 = true) ∧ P (D2.1 55 y1.toNatClampNeg) D2) else (P (-1) D2)))) :
    pu_I X 25 [.ref 52] D P := by
  refine pu_ent (E := [.ref 52, .null]) pu_n25.1 pu_n25.2 pu_t25_0 rfl ?_
  refine pu_aload_n rfl ?_
  refine pu_cv (vs := []) (rest := []) pu_g30 ⟨pu_c52, by decide⟩ rfl rfl rfl rfl rfl (pu_CI (pu_I_imp H (fun y1 D2 H => ?_)))
  refine pu_istore_n (L' := [.ref 52, .int y1]) (Or.inr rfl) rfl ?_
  refine pu_iload_n rfl ?_
  refine pu_lt0 pu_t25_24 (fun h3 => ?_) (fun h3 => ?_)
  · replace H := pu_t h3 H
    refine pu_iconst ?_
    exact pu_iretI pu_rt25 H
  · replace H := pu_f h3 H
    refine pu_iload_n rfl ?_
    refine pu_bipush ?_
    refine pu_ge_ pu_t25_24 (fun h4 => ?_) (fun h4 => ?_)
    · replace H := pu_f h4 H
      refine pu_iconst ?_
      exact pu_iretI pu_rt25 H
    · replace H := pu_t h4 H
      refine pu_aload_n rfl ?_
      refine pu_getR pu_kr2_2 pu_c52 pu_r52_2 ?_
      refine pu_iload_n rfl ?_
      refine pu_ial pu_c55 pu_ln55 H.1 ?_
      replace H := H.2
      refine pu_goto pu_t25_25 ?_
      exact pu_iretI pu_rt25 H
/-- LightAlong$Lights.firstTooDark(LLightAlong$Street;)I -/
def pu_h26_2 (X : px_X) (q0 : Nat) (x2 : Int32) (D : pu_D) (P : Int32 → pu_D → Prop) : Prop := pu_W X 26 (0, 0) px_c26_2 [.ref q0, .ref 1, .int x2] [] D (pu_qi P)
theorem pu_u26_2 {X : px_X} {q0 : Nat} {x2 : Int32} {D : pu_D} {P : Int32 → pu_D → Prop} (hq0 : pu_cl q0 = 2)
    (H : if x2 < (D.1 q0 3) then ((px_in x2 120 = true) ∧ if (D.1 (pu_rf q0 2) x2.toNatClampNeg) < (D.1 2 (Int32.toNatClampNeg 0)) then ((px_in x2 120 = true) ∧ if (D.1 (pu_rf q0 0) x2.toNatClampNeg) = 0 then (P x2 D) else (pu_h26_2 X q0 (x2 + 1) D P)) else (pu_h26_2 X q0 (x2 + 1) D P)) else (P (-1) D)) :
    pu_h26_2 X q0 x2 D P := by
  refine pu_iload_n rfl ?_
  refine pu_aload_n rfl ?_
  refine pu_getI pu_k2_3 hq0 ?_
  refine pu_ge_ pu_t26_42 (fun h1 => ?_) (fun h1 => ?_)
  · replace H := pu_f h1 H
    refine pu_iconst ?_
    exact pu_iretI pu_rt26 H
  · replace H := pu_t h1 H
    refine pu_aload_n rfl ?_
    refine pu_getR pu_kr2_2 hq0 rfl ?_
    refine pu_iload_n rfl ?_
    refine pu_ial (pu_f2_2 hq0) (pu_l2_2 hq0) H.1 ?_
    replace H := H.2
    refine pu_aload_n rfl ?_
    refine pu_getR pu_kr4_0 pu_c1 pu_r1_0 ?_
    refine pu_iconst ?_
    refine pu_ial pu_c2 pu_ln2 (by decide) ?_
    refine pu_ge_ pu_t26_36 (fun h2 => ?_) (fun h2 => ?_)
    · replace H := pu_f h2 H
      refine pu_iinc (L' := [.ref q0, .ref 1, .int (x2 + 1)]) rfl (Or.inr rfl) rfl ?_
      refine pu_goto pu_t26_2 ?_
      exact H 
    · replace H := pu_t h2 H
      refine pu_aload_n rfl ?_
      refine pu_getR pu_kr2_0 hq0 rfl ?_
      refine pu_iload_n rfl ?_
      refine pu_bal (pu_f2_0 hq0) (pu_l2_0 hq0) H.1 ?_
      replace H := H.2
      refine pu_ne0 pu_t26_36 (fun h3 => ?_) (fun h3 => ?_)
      · replace H := pu_f h3 H
        refine pu_iinc (L' := [.ref q0, .ref 1, .int (x2 + 1)]) rfl (Or.inr rfl) rfl ?_
        refine pu_goto pu_t26_2 ?_
        exact H 
      · replace H := pu_t h3 H
        refine pu_iload_n rfl ?_
        exact pu_iretI pu_rt26 H
theorem pu_e26 {X : px_X} {q0 : Nat} {D : pu_D} {P : Int32 → pu_D → Prop} (hq0 : pu_cl q0 = 2)
    (H : pu_h26_2 X q0 0 D P) :
    pu_I X 26 [.ref q0, .ref 1] D P := by
  refine pu_ent (E := [.ref q0, .ref 1, .null]) pu_n26.1 pu_n26.2 pu_t26_0 rfl ?_
  refine pu_iconst ?_
  refine pu_istore_n (L' := [.ref q0, .ref 1, .int 0]) (Or.inr rfl) rfl ?_
  exact H 
/-- LightAlong$Lights.firstBrightPool()I -/
def pu_h27_2 (X : px_X) (q0 : Nat) (x1 : Int32) (D : pu_D) (P : Int32 → pu_D → Prop) : Prop := pu_W X 27 (0, 0) px_c27_2 [.ref q0, .int x1] [] D (pu_qi P)
theorem pu_u27_2 {X : px_X} {q0 : Nat} {x1 : Int32} {D : pu_D} {P : Int32 → pu_D → Prop} (hq0 : pu_cl q0 = 2)
    (H : if x1 < (D.1 q0 3) then ((px_in x1 120 = true) ∧ if 5 < (D.1 (pu_rf q0 2) x1.toNatClampNeg) then ((px_in x1 120 = true) ∧ if (D.1 (pu_rf q0 0) x1.toNatClampNeg) = 0 then (pu_h27_2 X q0 (x1 + 1) D P) else (P x1 D)) else (pu_h27_2 X q0 (x1 + 1) D P)) else (P (-1) D)) :
    pu_h27_2 X q0 x1 D P := by
  refine pu_iload_n rfl ?_
  refine pu_aload_n rfl ?_
  refine pu_getI pu_k2_3 hq0 ?_
  refine pu_ge_ pu_t27_37 (fun h1 => ?_) (fun h1 => ?_)
  · replace H := pu_f h1 H
    refine pu_iconst ?_
    exact pu_iretI pu_rt27 H
  · replace H := pu_t h1 H
    refine pu_aload_n rfl ?_
    refine pu_getR pu_kr2_2 hq0 rfl ?_
    refine pu_iload_n rfl ?_
    refine pu_ial (pu_f2_2 hq0) (pu_l2_2 hq0) H.1 ?_
    replace H := H.2
    refine pu_iconst ?_
    refine pu_le_ pu_t27_31 (fun h2 => ?_) (fun h2 => ?_)
    · replace H := pu_f h2 H
      refine pu_iinc (L' := [.ref q0, .int (x1 + 1)]) rfl (Or.inr rfl) rfl ?_
      refine pu_goto pu_t27_2 ?_
      exact H 
    · replace H := pu_t h2 H
      refine pu_aload_n rfl ?_
      refine pu_getR pu_kr2_0 hq0 rfl ?_
      refine pu_iload_n rfl ?_
      refine pu_bal (pu_f2_0 hq0) (pu_l2_0 hq0) H.1 ?_
      replace H := H.2
      refine pu_eq0 pu_t27_31 (fun h3 => ?_) (fun h3 => ?_)
      · replace H := pu_t h3 H
        refine pu_iinc (L' := [.ref q0, .int (x1 + 1)]) rfl (Or.inr rfl) rfl ?_
        refine pu_goto pu_t27_2 ?_
        exact H 
      · replace H := pu_f h3 H
        refine pu_iload_n rfl ?_
        exact pu_iretI pu_rt27 H
theorem pu_e27 {X : px_X} {q0 : Nat} {D : pu_D} {P : Int32 → pu_D → Prop} (hq0 : pu_cl q0 = 2)
    (H : pu_h27_2 X q0 0 D P) :
    pu_I X 27 [.ref q0] D P := by
  refine pu_ent (E := [.ref q0, .null]) pu_n27.1 pu_n27.2 pu_t27_0 rfl ?_
  refine pu_iconst ?_
  refine pu_istore_n (L' := [.ref q0, .int 0]) (Or.inr rfl) rfl ?_
  exact H 
/-- LightAlong$Lights.firstUneven(LLightAlong$Street;)I -/
def pu_h28_34 (X : px_X) (q0 : Nat) (x2 : Int32) (x3 : Int32) (x4 : Int32) (D : pu_D) (P : Int32 → pu_D → Prop) : Prop := ∀ z1 : Value, z1.category = 1 → pu_W X 28 (0, 0) px_c28_34 [.ref q0, z1, .int x2, .int x3, .int x4] [] D (pu_qi P)
theorem pu_u28_34 {X : px_X} {q0 : Nat} {x2 : Int32} {x3 : Int32} {x4 : Int32} {D : pu_D} {P : Int32 → pu_D → Prop} (hq0 : pu_cl q0 = 2)
    (H : if x4 < (D.1 q0 3) then ((px_in x4 120 = true) ∧ if x3 < (D.1 (pu_rf q0 2) x4.toNatClampNeg) then ((px_in x4 120 = true) ∧ if (D.1 (pu_rf q0 0) x4.toNatClampNeg) = 0 then (P x2 D) else (pu_h28_34 X q0 x2 x3 (x4 + 1) D P)) else (pu_h28_34 X q0 x2 x3 (x4 + 1) D P)) else (P (-1) D)) :
    pu_h28_34 X q0 x2 x3 x4 D P := by
  intro z1 hz1
  refine pu_iload rfl ?_
  refine pu_aload_n rfl ?_
  refine pu_getI pu_k2_3 hq0 ?_
  refine pu_ge_ pu_t28_72 (fun h5 => ?_) (fun h5 => ?_)
  · replace H := pu_f h5 H
    refine pu_iconst ?_
    exact pu_iretI pu_rt28 H
  · replace H := pu_t h5 H
    refine pu_aload_n rfl ?_
    refine pu_getR pu_kr2_2 hq0 rfl ?_
    refine pu_iload rfl ?_
    refine pu_ial (pu_f2_2 hq0) (pu_l2_2 hq0) H.1 ?_
    replace H := H.2
    refine pu_iload_n rfl ?_
    refine pu_le_ pu_t28_66 (fun h6 => ?_) (fun h6 => ?_)
    · replace H := pu_f h6 H
      refine pu_iinc (L' := [.ref q0, z1, .int x2, .int x3, .int (x4 + 1)]) rfl (Or.inr rfl) rfl ?_
      refine pu_goto pu_t28_34 ?_
      exact H _ hz1
    · replace H := pu_t h6 H
      refine pu_aload_n rfl ?_
      refine pu_getR pu_kr2_0 hq0 rfl ?_
      refine pu_iload rfl ?_
      refine pu_bal (pu_f2_0 hq0) (pu_l2_0 hq0) H.1 ?_
      replace H := H.2
      refine pu_ne0 pu_t28_66 (fun h7 => ?_) (fun h7 => ?_)
      · replace H := pu_f h7 H
        refine pu_iinc (L' := [.ref q0, z1, .int x2, .int x3, .int (x4 + 1)]) rfl (Or.inr rfl) rfl ?_
        refine pu_goto pu_t28_34 ?_
        exact H _ hz1
      · replace H := pu_t h7 H
        refine pu_iload_n rfl ?_
        exact pu_iretI pu_rt28 H
theorem pu_e28 {X : px_X} {q0 : Nat} {D : pu_D} {P : Int32 → pu_D → Prop} (hq0 : pu_cl q0 = 2)
    (H : pu_I X 30 [.ref q0] D (fun y1 D2 => if y1 < 0 then (P (-1) D2) else (if y1 < 120 then ((px_in y1 120 = true) ∧ pu_h28_34 X q0 y1 ((D2.1 2 (Int32.toNatClampNeg 1)) * (D2.1 (pu_rf q0 2) y1.toNatClampNeg)) 0 D2 P) else (P (-1) D2)))) :
    pu_I X 28 [.ref q0, .ref 1] D P := by
  refine pu_ent (E := [.ref q0, .ref 1, .null, .null, .null]) pu_n28.1 pu_n28.2 pu_t28_0 rfl ?_
  refine pu_aload_n rfl ?_
  refine pu_cv (vs := []) (rest := []) pu_g30 ⟨hq0, by decide⟩ rfl rfl rfl rfl rfl (pu_CI (pu_I_imp H (fun y1 D2 H => ?_)))
  refine pu_istore_n (L' := [.ref q0, .ref 1, .int y1, .null, .null]) (Or.inr rfl) rfl ?_
  refine pu_iload_n rfl ?_
  refine pu_lt0 pu_t28_15 (fun h3 => ?_) (fun h3 => ?_)
  · replace H := pu_t h3 H
    refine pu_iconst ?_
    exact pu_iretI pu_rt28 H
  · replace H := pu_f h3 H
    refine pu_iload_n rfl ?_
    refine pu_bipush ?_
    refine pu_lt_ pu_t28_17 (fun h4 => ?_) (fun h4 => ?_)
    · replace H := pu_t h4 H
      refine pu_aload_n rfl ?_
      refine pu_getR pu_kr4_0 pu_c1 pu_r1_0 ?_
      refine pu_iconst ?_
      refine pu_ial pu_c2 pu_ln2 (by decide) ?_
      refine pu_aload_n rfl ?_
      refine pu_getR pu_kr2_2 hq0 rfl ?_
      refine pu_iload_n rfl ?_
      refine pu_ial (pu_f2_2 hq0) (pu_l2_2 hq0) H.1 ?_
      replace H := H.2
      refine pu_imul ?_
      refine pu_istore_n (L' := [.ref q0, .ref 1, .int y1, .int ((D2.1 2 (Int32.toNatClampNeg 1)) * (D2.1 (pu_rf q0 2) y1.toNatClampNeg)), .null]) (Or.inr rfl) rfl ?_
      refine pu_iconst ?_
      refine pu_istore (L' := [.ref q0, .ref 1, .int y1, .int ((D2.1 2 (Int32.toNatClampNeg 1)) * (D2.1 (pu_rf q0 2) y1.toNatClampNeg)), .int 0]) (Or.inr rfl) rfl ?_
      exact H _ rfl
    · replace H := pu_f h4 H
      refine pu_iconst ?_
      exact pu_iretI pu_rt28 H
/-- LightAlong$Lights.firstBrightWindow(LLightAlong$Street;)I -/
def pu_h29_2 (X : px_X) (q0 : Nat) (x2 : Int32) (D : pu_D) (P : Int32 → pu_D → Prop) : Prop := ∀ z3 : Value, z3.category = 1 → ∀ z4 : Value, z4.category = 1 → pu_W X 29 (0, 0) px_c29_2 [.ref q0, .ref 1, .int x2, z3, z4] [] D (pu_qi P)
theorem pu_u29_2 {X : px_X} {q0 : Nat} {x2 : Int32} {D : pu_D} {P : Int32 → pu_D → Prop} (hq0 : pu_cl q0 = 2)
    (H : if x2 < (D.1 11 2) then (pu_I X 82 [.ref 11, .int x2, .int 0] D (fun y2 D3 => if y2 < 0 then (pu_h29_2 X q0 (x2 + 1) D3 P) else (if y2 < (D3.1 q0 3) then ((px_in y2 120 = true) ∧ pu_I X 82 [.ref 11, .int x2, .int 1] D3 (fun y6 D7 => if y6 < (D3.1 (pu_rf q0 2) y2.toNatClampNeg) then (P y2 D7) else (pu_h29_2 X q0 (x2 + 1) D7 P))) else (pu_h29_2 X q0 (x2 + 1) D3 P)))) else (P (-1) D)) :
    pu_h29_2 X q0 x2 D P := by
  intro z3 hz3 z4 hz4
  refine pu_iload_n rfl ?_
  refine pu_aload_n rfl ?_
  refine pu_getR pu_kr4_5 pu_c1 pu_r1_5 ?_
  refine pu_getI pu_k6_2 pu_c11 ?_
  refine pu_ge_ pu_t29_73 (fun h1 => ?_) (fun h1 => ?_)
  · replace H := pu_f h1 H
    refine pu_iconst ?_
    exact pu_iretI pu_rt29 H
  · replace H := pu_t h1 H
    refine pu_aload_n rfl ?_
    refine pu_getR pu_kr4_5 pu_c1 pu_r1_5 ?_
    refine pu_iload_n rfl ?_
    refine pu_iconst ?_
    refine pu_cv (vs := [.int x2, .int 0]) (rest := []) pu_g82 ⟨pu_c11, by decide⟩ rfl rfl rfl rfl rfl (pu_CI (pu_I_imp H (fun y2 D3 H => ?_)))
    refine pu_istore_n (L' := [.ref q0, .ref 1, .int x2, .int y2, z4]) (Or.inr rfl) rfl ?_
    refine pu_iload_n rfl ?_
    refine pu_lt0 pu_t29_39 (fun h4 => ?_) (fun h4 => ?_)
    · replace H := pu_t h4 H
      refine pu_iconst ?_
      refine pu_istore (L' := [.ref q0, .ref 1, .int x2, .int y2, .int 0]) (Or.inr rfl) rfl ?_
      refine pu_iload rfl ?_
      refine pu_ifT (by decide) pu_t29_67 ?_
      refine pu_iinc (L' := [.ref q0, .ref 1, .int (x2 + 1), .int y2, .int 0]) rfl (Or.inr rfl) rfl ?_
      refine pu_goto pu_t29_2 ?_
      exact H _ rfl _ rfl
    · replace H := pu_f h4 H
      refine pu_iload_n rfl ?_
      refine pu_aload_n rfl ?_
      refine pu_getI pu_k2_3 hq0 ?_
      refine pu_ge_ pu_t29_39 (fun h5 => ?_) (fun h5 => ?_)
      · replace H := pu_f h5 H
        refine pu_iconst ?_
        refine pu_istore (L' := [.ref q0, .ref 1, .int x2, .int y2, .int 0]) (Or.inr rfl) rfl ?_
        refine pu_iload rfl ?_
        refine pu_ifT (by decide) pu_t29_67 ?_
        refine pu_iinc (L' := [.ref q0, .ref 1, .int (x2 + 1), .int y2, .int 0]) rfl (Or.inr rfl) rfl ?_
        refine pu_goto pu_t29_2 ?_
        exact H _ rfl _ rfl
      · replace H := pu_t h5 H
        refine pu_iconst ?_
        refine pu_goto pu_t29_40 ?_
        refine pu_istore (L' := [.ref q0, .ref 1, .int x2, .int y2, .int 1]) (Or.inr rfl) rfl ?_
        refine pu_iload rfl ?_
        refine pu_ifF (by decide) ?_
        refine pu_aload_n rfl ?_
        refine pu_getR pu_kr2_2 hq0 rfl ?_
        refine pu_iload_n rfl ?_
        refine pu_ial (pu_f2_2 hq0) (pu_l2_2 hq0) H.1 ?_
        replace H := H.2
        refine pu_aload_n rfl ?_
        refine pu_getR pu_kr4_5 pu_c1 pu_r1_5 ?_
        refine pu_iload_n rfl ?_
        refine pu_iconst ?_
        refine pu_cv (vs := [.int x2, .int 1]) (rest := [.int (D3.1 (pu_rf q0 2) y2.toNatClampNeg)]) pu_g82 ⟨pu_c11, by decide⟩ rfl rfl rfl rfl rfl (pu_CI (pu_I_imp H (fun y6 D7 H => ?_)))
        refine pu_le_ pu_t29_67 (fun h8 => ?_) (fun h8 => ?_)
        · replace H := pu_f h8 H
          refine pu_iinc (L' := [.ref q0, .ref 1, .int (x2 + 1), .int y2, .int 1]) rfl (Or.inr rfl) rfl ?_
          refine pu_goto pu_t29_2 ?_
          exact H _ rfl _ rfl
        · replace H := pu_t h8 H
          refine pu_iload_n rfl ?_
          exact pu_iretI pu_rt29 H
theorem pu_e29 {X : px_X} {q0 : Nat} {D : pu_D} {P : Int32 → pu_D → Prop} (hq0 : pu_cl q0 = 2)
    (H : pu_h29_2 X q0 0 D P) :
    pu_I X 29 [.ref q0, .ref 1] D P := by
  refine pu_ent (E := [.ref q0, .ref 1, .null, .null, .null]) pu_n29.1 pu_n29.2 pu_t29_0 rfl ?_
  refine pu_iconst ?_
  refine pu_istore_n (L' := [.ref q0, .ref 1, .int 0, .null, .null]) (Or.inr rfl) rfl ?_
  exact H _ rfl _ rfl
/-- LightAlong$Lights.darkest()I -/
def pu_h30_6 (X : px_X) (q0 : Nat) (x1 : Int32) (x2 : Int32) (x3 : Int32) (D : pu_D) (P : Int32 → pu_D → Prop) : Prop := pu_W X 30 (0, 0) px_c30_6 [.ref q0, .int x1, .int x2, .int x3] [] D (pu_qi P)
theorem pu_u30_6 {X : px_X} {q0 : Nat} {x1 : Int32} {x2 : Int32} {x3 : Int32} {D : pu_D} {P : Int32 → pu_D → Prop} (hq0 : pu_cl q0 = 2)
    (H : if x3 < (D.1 q0 3) then ((px_in x3 120 = true) ∧ if (D.1 (pu_rf q0 0) x3.toNatClampNeg) = 0 then (if x1 = (-1) then ((px_in x3 120 = true) ∧ pu_h30_6 X q0 x3 (D.1 (pu_rf q0 2) x3.toNatClampNeg) (x3 + 1) D P) else ((px_in x3 120 = true) ∧ if (D.1 (pu_rf q0 2) x3.toNatClampNeg) < x2 then ((px_in x3 120 = true) ∧ pu_h30_6 X q0 x3 (D.1 (pu_rf q0 2) x3.toNatClampNeg) (x3 + 1) D P) else (pu_h30_6 X q0 x1 x2 (x3 + 1) D P))) else (pu_h30_6 X q0 x1 x2 (x3 + 1) D P)) else (P x1 D)) :
    pu_h30_6 X q0 x1 x2 x3 D P := by
  refine pu_iload_n rfl ?_
  refine pu_aload_n rfl ?_
  refine pu_getI pu_k2_3 hq0 ?_
  refine pu_ge_ pu_t30_56 (fun h1 => ?_) (fun h1 => ?_)
  · replace H := pu_f h1 H
    refine pu_iload_n rfl ?_
    exact pu_iretI pu_rt30 H
  · replace H := pu_t h1 H
    refine pu_aload_n rfl ?_
    refine pu_getR pu_kr2_0 hq0 rfl ?_
    refine pu_iload_n rfl ?_
    refine pu_bal (pu_f2_0 hq0) (pu_l2_0 hq0) H.1 ?_
    replace H := H.2
    refine pu_eq0 pu_t30_26 (fun h2 => ?_) (fun h2 => ?_)
    · replace H := pu_t h2 H
      refine pu_iload_n rfl ?_
      refine pu_iconst ?_
      refine pu_eq_ pu_t30_41 (fun h3 => ?_) (fun h3 => ?_)
      · replace H := pu_t h3 H
        refine pu_iload_n rfl ?_
        refine pu_istore_n (L' := [.ref q0, .int x3, .int x2, .int x3]) (Or.inr rfl) rfl ?_
        refine pu_aload_n rfl ?_
        refine pu_getR pu_kr2_2 hq0 rfl ?_
        refine pu_iload_n rfl ?_
        refine pu_ial (pu_f2_2 hq0) (pu_l2_2 hq0) H.1 ?_
        replace H := H.2
        refine pu_istore_n (L' := [.ref q0, .int x3, .int (D.1 (pu_rf q0 2) x3.toNatClampNeg), .int x3]) (Or.inr rfl) rfl ?_
        refine pu_iinc (L' := [.ref q0, .int x3, .int (D.1 (pu_rf q0 2) x3.toNatClampNeg), .int (x3 + 1)]) rfl (Or.inr rfl) rfl ?_
        refine pu_goto pu_t30_6 ?_
        exact H 
      · replace H := pu_f h3 H
        refine pu_aload_n rfl ?_
        refine pu_getR pu_kr2_2 hq0 rfl ?_
        refine pu_iload_n rfl ?_
        refine pu_ial (pu_f2_2 hq0) (pu_l2_2 hq0) H.1 ?_
        replace H := H.2
        refine pu_iload_n rfl ?_
        refine pu_ge_ pu_t30_50 (fun h4 => ?_) (fun h4 => ?_)
        · replace H := pu_f h4 H
          refine pu_iinc (L' := [.ref q0, .int x1, .int x2, .int (x3 + 1)]) rfl (Or.inr rfl) rfl ?_
          refine pu_goto pu_t30_6 ?_
          exact H 
        · replace H := pu_t h4 H
          refine pu_iload_n rfl ?_
          refine pu_istore_n (L' := [.ref q0, .int x3, .int x2, .int x3]) (Or.inr rfl) rfl ?_
          refine pu_aload_n rfl ?_
          refine pu_getR pu_kr2_2 hq0 rfl ?_
          refine pu_iload_n rfl ?_
          refine pu_ial (pu_f2_2 hq0) (pu_l2_2 hq0) H.1 ?_
          replace H := H.2
          refine pu_istore_n (L' := [.ref q0, .int x3, .int (D.1 (pu_rf q0 2) x3.toNatClampNeg), .int x3]) (Or.inr rfl) rfl ?_
          refine pu_iinc (L' := [.ref q0, .int x3, .int (D.1 (pu_rf q0 2) x3.toNatClampNeg), .int (x3 + 1)]) rfl (Or.inr rfl) rfl ?_
          refine pu_goto pu_t30_6 ?_
          exact H 
    · replace H := pu_f h2 H
      refine pu_goto pu_t30_50 ?_
      refine pu_iinc (L' := [.ref q0, .int x1, .int x2, .int (x3 + 1)]) rfl (Or.inr rfl) rfl ?_
      refine pu_goto pu_t30_6 ?_
      exact H 
theorem pu_e30 {X : px_X} {q0 : Nat} {D : pu_D} {P : Int32 → pu_D → Prop} (hq0 : pu_cl q0 = 2)
    (H : pu_h30_6 X q0 (-1) 0 0 D P) :
    pu_I X 30 [.ref q0] D P := by
  refine pu_ent (E := [.ref q0, .null, .null, .null]) pu_n30.1 pu_n30.2 pu_t30_0 rfl ?_
  refine pu_iconst ?_
  refine pu_istore_n (L' := [.ref q0, .int (-1), .null, .null]) (Or.inr rfl) rfl ?_
  refine pu_iconst ?_
  refine pu_istore_n (L' := [.ref q0, .int (-1), .int 0, .null]) (Or.inr rfl) rfl ?_
  refine pu_iconst ?_
  refine pu_istore_n (L' := [.ref q0, .int (-1), .int 0, .int 0]) (Or.inr rfl) rfl ?_
  exact H 
/-- LightAlong$Shelf.isRow()Z -/
theorem pu_e32 {X : px_X} {q0 : Nat} {D : pu_D} {P : Int32 → pu_D → Prop} (hq0 : pu_cl q0 = 3)
    (H : if (D.1 q0 1) < 100 then (P 0 D) else (P 1 D)) :
    pu_I X 32 [.ref q0] D P := by
  refine pu_ent (E := [.ref q0]) pu_n32.1 pu_n32.2 pu_t32_0 rfl ?_
  refine pu_aload_n rfl ?_
  refine pu_getI pu_k3_1 hq0 ?_
  refine pu_bipush ?_
  refine pu_lt_ pu_t32_13 (fun h1 => ?_) (fun h1 => ?_)
  · replace H := pu_t h1 H
    refine pu_iconst ?_
    exact pu_iretZ pu_rt32 (by decide) H
  · replace H := pu_f h1 H
    refine pu_iconst ?_
    refine pu_goto pu_t32_14 ?_
    exact pu_iretZ pu_rt32 (by decide) H
/-- LightAlong$Shelf.isLaying()Z -/
theorem pu_e33 {X : px_X} {q0 : Nat} {D : pu_D} {P : Int32 → pu_D → Prop} (hq0 : pu_cl q0 = 3)
    (H : if (D.1 q0 1) < 0 then (P 0 D) else (if (D.1 q0 1) < 100 then (P 1 D) else (P 0 D))) :
    pu_I X 33 [.ref q0] D P := by
  refine pu_ent (E := [.ref q0]) pu_n33.1 pu_n33.2 pu_t33_0 rfl ?_
  refine pu_aload_n rfl ?_
  refine pu_getI pu_k3_1 hq0 ?_
  refine pu_lt0 pu_t33_20 (fun h1 => ?_) (fun h1 => ?_)
  · replace H := pu_t h1 H
    refine pu_iconst ?_
    exact pu_iretZ pu_rt33 (by decide) H
  · replace H := pu_f h1 H
    refine pu_aload_n rfl ?_
    refine pu_getI pu_k3_1 hq0 ?_
    refine pu_bipush ?_
    refine pu_ge_ pu_t33_20 (fun h2 => ?_) (fun h2 => ?_)
    · replace H := pu_f h2 H
      refine pu_iconst ?_
      exact pu_iretZ pu_rt33 (by decide) H
    · replace H := pu_t h2 H
      refine pu_iconst ?_
      refine pu_goto pu_t33_21 ?_
      exact pu_iretZ pu_rt33 (by decide) H
/-- LightAlong$Shelf.holdNothing()V -/
theorem pu_e34 {X : px_X} {q0 : Nat} {D : pu_D} {P : pu_D → Prop} (hq0 : pu_cl q0 = 3)
    (H : P (pu_wi (pu_wi D q0 1 (-1)) q0 2 0)) :
    pu_V X 34 [.ref q0] D P := by
  refine pu_ent (E := [.ref q0]) pu_n34.1 pu_n34.2 pu_t34_0 rfl ?_
  refine pu_aload_n rfl ?_
  refine pu_iconst ?_
  refine pu_putI pu_p3_1 hq0 ?_
  refine pu_aload_n rfl ?_
  refine pu_iconst ?_
  refine pu_putI pu_p3_2 hq0 ?_
  exact pu_vret pu_rt34 H
/-- LightAlong$Shelf.holdRow(II)V -/
theorem pu_e35 {X : px_X} {q0 : Nat} {x1 : Int32} {x2 : Int32} {D : pu_D} {P : pu_D → Prop} (hq0 : pu_cl q0 = 3)
    (H : pu_V X 257 [.ref (pu_rf q0 0), .long (Int64.ofNat 0)] (pu_wi (pu_wi D q0 1 (100 + x1)) q0 2 (if 0 < (if 120 < x2 then 120 else x2) then (if 120 < x2 then 120 else x2) else 0)) (fun D2 => P D2)) :
    pu_V X 35 [.ref q0, .int x1, .int x2] D P := by
  refine pu_ent (E := [.ref q0, .int x1, .int x2]) pu_n35.1 pu_n35.2 pu_t35_0 rfl ?_
  refine pu_aload_n rfl ?_
  refine pu_bipush ?_
  refine pu_iload_n rfl ?_
  refine pu_iadd ?_
  refine pu_putI pu_p3_1 hq0 ?_
  refine pu_aload_n rfl ?_
  refine pu_iconst ?_
  refine pu_iload_n rfl ?_
  refine pu_bipush ?_
  refine pu_mmin rfl ?_
  refine pu_mmax rfl ?_
  refine pu_putI pu_p3_2 hq0 ?_
  refine pu_aload_n rfl ?_
  refine pu_getR pu_kr3_0 hq0 rfl ?_
  refine pu_lconst ?_
  refine pu_cs (vs := [.ref (pu_rf q0 0), .long (Int64.ofNat 0)]) (rest := []) pu_g257 rfl rfl rfl rfl rfl (pu_CV (pu_V_imp H (fun D2 H => ?_)))
  exact pu_vret pu_rt35 H
/-- LightAlong$Shelf.holdLaying(III)V -/
theorem pu_e36 {X : px_X} {q0 : Nat} {x1 : Int32} {x2 : Int32} {x3 : Int32} {D : pu_D} {P : pu_D → Prop} (hq0 : pu_cl q0 = 3)
    (H : if x1 = 1 then (P (pu_wi (pu_wi (pu_wi (pu_wi D q0 1 x1) q0 2 0) q0 3 x2) q0 4 x3)) else (if x1 = 3 then (P (pu_wi (pu_wi (pu_wi (pu_wi D q0 1 x1) q0 2 0) q0 3 x2) q0 4 x3)) else (if x1 = 4 then (P (pu_wi (pu_wi (pu_wi (pu_wi D q0 1 x1) q0 2 0) q0 3 x2) q0 4 x3)) else (if x1 = 6 then (P (pu_wi (pu_wi (pu_wi (pu_wi D q0 1 x1) q0 2 0) q0 3 x2) q0 4 x3)) else (P (pu_wi (pu_wi (pu_wi (pu_wi D q0 1 x1) q0 2 0) q0 3 0) q0 4 x3)))))) :
    pu_V X 36 [.ref q0, .int x1, .int x2, .int x3] D P := by
  refine pu_ent (E := [.ref q0, .int x1, .int x2, .int x3, .null]) pu_n36.1 pu_n36.2 pu_t36_0 rfl ?_
  refine pu_iload_n rfl ?_
  refine pu_iconst ?_
  refine pu_eq_ pu_t36_21 (fun h1 => ?_) (fun h1 => ?_)
  · replace H := pu_t h1 H
    refine pu_iconst ?_
    refine pu_goto pu_t36_26 ?_
    refine pu_istore (L' := [.ref q0, .int x1, .int x2, .int x3, .int 1]) (Or.inr rfl) rfl ?_
    refine pu_aload_n rfl ?_
    refine pu_iload_n rfl ?_
    refine pu_putI pu_p3_1 hq0 ?_
    refine pu_aload_n rfl ?_
    refine pu_iconst ?_
    refine pu_putI pu_p3_2 hq0 ?_
    refine pu_aload_n rfl ?_
    refine pu_iload rfl ?_
    refine pu_ifF (by decide) ?_
    refine pu_iload_n rfl ?_
    refine pu_goto pu_t36_49 ?_
    refine pu_putI pu_p3_3 hq0 ?_
    refine pu_aload_n rfl ?_
    refine pu_iload_n rfl ?_
    refine pu_putI pu_p3_4 hq0 ?_
    exact pu_vret pu_rt36 H
  · replace H := pu_f h1 H
    refine pu_iload_n rfl ?_
    refine pu_iconst ?_
    refine pu_eq_ pu_t36_21 (fun h2 => ?_) (fun h2 => ?_)
    · replace H := pu_t h2 H
      refine pu_iconst ?_
      refine pu_goto pu_t36_26 ?_
      refine pu_istore (L' := [.ref q0, .int x1, .int x2, .int x3, .int 1]) (Or.inr rfl) rfl ?_
      refine pu_aload_n rfl ?_
      refine pu_iload_n rfl ?_
      refine pu_putI pu_p3_1 hq0 ?_
      refine pu_aload_n rfl ?_
      refine pu_iconst ?_
      refine pu_putI pu_p3_2 hq0 ?_
      refine pu_aload_n rfl ?_
      refine pu_iload rfl ?_
      refine pu_ifF (by decide) ?_
      refine pu_iload_n rfl ?_
      refine pu_goto pu_t36_49 ?_
      refine pu_putI pu_p3_3 hq0 ?_
      refine pu_aload_n rfl ?_
      refine pu_iload_n rfl ?_
      refine pu_putI pu_p3_4 hq0 ?_
      exact pu_vret pu_rt36 H
    · replace H := pu_f h2 H
      refine pu_iload_n rfl ?_
      refine pu_iconst ?_
      refine pu_eq_ pu_t36_21 (fun h3 => ?_) (fun h3 => ?_)
      · replace H := pu_t h3 H
        refine pu_iconst ?_
        refine pu_goto pu_t36_26 ?_
        refine pu_istore (L' := [.ref q0, .int x1, .int x2, .int x3, .int 1]) (Or.inr rfl) rfl ?_
        refine pu_aload_n rfl ?_
        refine pu_iload_n rfl ?_
        refine pu_putI pu_p3_1 hq0 ?_
        refine pu_aload_n rfl ?_
        refine pu_iconst ?_
        refine pu_putI pu_p3_2 hq0 ?_
        refine pu_aload_n rfl ?_
        refine pu_iload rfl ?_
        refine pu_ifF (by decide) ?_
        refine pu_iload_n rfl ?_
        refine pu_goto pu_t36_49 ?_
        refine pu_putI pu_p3_3 hq0 ?_
        refine pu_aload_n rfl ?_
        refine pu_iload_n rfl ?_
        refine pu_putI pu_p3_4 hq0 ?_
        exact pu_vret pu_rt36 H
      · replace H := pu_f h3 H
        refine pu_iload_n rfl ?_
        refine pu_bipush ?_
        refine pu_ne_ pu_t36_25 (fun h4 => ?_) (fun h4 => ?_)
        · replace H := pu_f h4 H
          refine pu_iconst ?_
          refine pu_istore (L' := [.ref q0, .int x1, .int x2, .int x3, .int 0]) (Or.inr rfl) rfl ?_
          refine pu_aload_n rfl ?_
          refine pu_iload_n rfl ?_
          refine pu_putI pu_p3_1 hq0 ?_
          refine pu_aload_n rfl ?_
          refine pu_iconst ?_
          refine pu_putI pu_p3_2 hq0 ?_
          refine pu_aload_n rfl ?_
          refine pu_iload rfl ?_
          refine pu_ifT (by decide) pu_t36_48 ?_
          refine pu_iconst ?_
          refine pu_putI pu_p3_3 hq0 ?_
          refine pu_aload_n rfl ?_
          refine pu_iload_n rfl ?_
          refine pu_putI pu_p3_4 hq0 ?_
          exact pu_vret pu_rt36 H
        · replace H := pu_t h4 H
          refine pu_iconst ?_
          refine pu_goto pu_t36_26 ?_
          refine pu_istore (L' := [.ref q0, .int x1, .int x2, .int x3, .int 1]) (Or.inr rfl) rfl ?_
          refine pu_aload_n rfl ?_
          refine pu_iload_n rfl ?_
          refine pu_putI pu_p3_1 hq0 ?_
          refine pu_aload_n rfl ?_
          refine pu_iconst ?_
          refine pu_putI pu_p3_2 hq0 ?_
          refine pu_aload_n rfl ?_
          refine pu_iload rfl ?_
          refine pu_ifF (by decide) ?_
          refine pu_iload_n rfl ?_
          refine pu_goto pu_t36_49 ?_
          refine pu_putI pu_p3_3 hq0 ?_
          refine pu_aload_n rfl ?_
          refine pu_iload_n rfl ?_
          refine pu_putI pu_p3_4 hq0 ?_
          exact pu_vret pu_rt36 H
/-- LightAlong$Shelf.has(I)Z -/
theorem pu_e37 {X : px_X} {q0 : Nat} {x1 : Int32} {D : pu_D} {P : Int32 → pu_D → Prop} (hq0 : pu_cl q0 = 3)
    (H : if x1 < 0 then (P 0 D) else (if x1 < (D.1 q0 2) then (P 1 D) else (P 0 D))) :
    pu_I X 37 [.ref q0, .int x1] D P := by
  refine pu_ent (E := [.ref q0, .int x1]) pu_n37.1 pu_n37.2 pu_t37_0 rfl ?_
  refine pu_iload_n rfl ?_
  refine pu_lt0 pu_t37_16 (fun h1 => ?_) (fun h1 => ?_)
  · replace H := pu_t h1 H
    refine pu_iconst ?_
    exact pu_iretZ pu_rt37 (by decide) H
  · replace H := pu_f h1 H
    refine pu_iload_n rfl ?_
    refine pu_aload_n rfl ?_
    refine pu_getI pu_k3_2 hq0 ?_
    refine pu_ge_ pu_t37_16 (fun h2 => ?_) (fun h2 => ?_)
    · replace H := pu_f h2 H
      refine pu_iconst ?_
      exact pu_iretZ pu_rt37 (by decide) H
    · replace H := pu_t h2 H
      refine pu_iconst ?_
      refine pu_goto pu_t37_17 ?_
      exact pu_iretZ pu_rt37 (by decide) H
/-- LightAlong$Shelf.hasRun(II)Z -/
theorem pu_e38 {X : px_X} {q0 : Nat} {x1 : Int32} {x2 : Int32} {D : pu_D} {P : Int32 → pu_D → Prop} (hq0 : pu_cl q0 = 3)
    (H : if x1 < 0 then (P 0 D) else (if x2 < 0 then (P 0 D) else (if 0 < (lg_cmp ((Int32.toInt64 x1) + (Int32.toInt64 x2)) (Int32.toInt64 (D.1 q0 2))) then (P 0 D) else (P 1 D)))) :
    pu_I X 38 [.ref q0, .int x1, .int x2] D P := by
  refine pu_ent (E := [.ref q0, .int x1, .int x2]) pu_n38.1 pu_n38.2 pu_t38_0 rfl ?_
  refine pu_iload_n rfl ?_
  refine pu_lt0 pu_t38_26 (fun h1 => ?_) (fun h1 => ?_)
  · replace H := pu_t h1 H
    refine pu_iconst ?_
    exact pu_iretZ pu_rt38 (by decide) H
  · replace H := pu_f h1 H
    refine pu_iload_n rfl ?_
    refine pu_lt0 pu_t38_26 (fun h2 => ?_) (fun h2 => ?_)
    · replace H := pu_t h2 H
      refine pu_iconst ?_
      exact pu_iretZ pu_rt38 (by decide) H
    · replace H := pu_f h2 H
      refine pu_iload_n rfl ?_
      refine pu_i2l ?_
      refine pu_iload_n rfl ?_
      refine pu_i2l ?_
      refine pu_ladd ?_
      refine pu_aload_n rfl ?_
      refine pu_getI pu_k3_2 hq0 ?_
      refine pu_i2l ?_
      refine pu_lcmp ?_
      refine pu_gt0 pu_t38_26 (fun h3 => ?_) (fun h3 => ?_)
      · replace H := pu_t h3 H
        refine pu_iconst ?_
        exact pu_iretZ pu_rt38 (by decide) H
      · replace H := pu_f h3 H
        refine pu_iconst ?_
        refine pu_goto pu_t38_27 ?_
        exact pu_iretZ pu_rt38 (by decide) H
/-- LightAlong$Shelf.elementAt(I)J -/
theorem pu_e39 {X : px_X} {q0 : Nat} {x1 : Int32} {D : pu_D} {P : Int64 → pu_D → Prop} (hq0 : pu_cl q0 = 3)
    (H : if x1 < 0 then (P (Int64.ofNat 0) D) else (if x1 < (D.1 q0 2) then ((px_in x1 120 = true) ∧ P (D.2 (pu_rf q0 0) x1.toNatClampNeg) D) else (P (Int64.ofNat 0) D))) :
    pu_J X 39 [.ref q0, .int x1] D P := by
  refine pu_ent (E := [.ref q0, .int x1]) pu_n39.1 pu_n39.2 pu_t39_0 rfl ?_
  refine pu_iload_n rfl ?_
  refine pu_lt0 pu_t39_21 (fun h1 => ?_) (fun h1 => ?_)
  · replace H := pu_t h1 H
    refine pu_lconst ?_
    exact pu_lret pu_rt39 H
  · replace H := pu_f h1 H
    refine pu_iload_n rfl ?_
    refine pu_aload_n rfl ?_
    refine pu_getI pu_k3_2 hq0 ?_
    refine pu_ge_ pu_t39_21 (fun h2 => ?_) (fun h2 => ?_)
    · replace H := pu_f h2 H
      refine pu_lconst ?_
      exact pu_lret pu_rt39 H
    · replace H := pu_t h2 H
      refine pu_aload_n rfl ?_
      refine pu_getR pu_kr3_0 hq0 rfl ?_
      refine pu_iload_n rfl ?_
      refine pu_lal (pu_f3_0 hq0) (pu_l3_0 hq0) H.1 ?_
      replace H := H.2
      refine pu_goto pu_t39_22 ?_
      exact pu_lret pu_rt39 H
/-- LightAlong$Shelf.intAt(I)I -/
theorem pu_e40 {X : px_X} {q0 : Nat} {x1 : Int32} {D : pu_D} {P : Int32 → pu_D → Prop} (hq0 : pu_cl q0 = 3)
    (H : pu_J X 39 [.ref q0, .int x1] D (fun y1 D2 => P (Int64.toInt32 y1) D2)) :
    pu_I X 40 [.ref q0, .int x1] D P := by
  refine pu_ent (E := [.ref q0, .int x1]) pu_n40.1 pu_n40.2 pu_t40_0 rfl ?_
  refine pu_aload_n rfl ?_
  refine pu_iload_n rfl ?_
  refine pu_cv (vs := [.int x1]) (rest := []) pu_g39 ⟨hq0, by decide⟩ rfl rfl rfl rfl rfl (pu_CJ (pu_J_imp H (fun y1 D2 H => ?_)))
  refine pu_l2i ?_
  exact pu_iretI pu_rt40 H
/-- LightAlong$Shelf.put(IJ)V -/
theorem pu_e41 {X : px_X} {q0 : Nat} {x1 : Int32} {x2 : Int64} {D : pu_D} {P : pu_D → Prop} (hq0 : pu_cl q0 = 3)
    (H : pu_I X 37 [.ref q0, .int x1] D (fun y1 D2 => if y1 = 0 then (P D2) else (pu_J X 42 [.ref q0, .long x2] D2 (fun y4 D5 => (px_in x1 120 = true) ∧ P (pu_wl D5 (pu_rf q0 0) x1.toNatClampNeg y4))))) :
    pu_V X 41 [.ref q0, .int x1, .long x2] D P := by
  refine pu_ent (E := [.ref q0, .int x1, .long x2, .null]) pu_n41.1 pu_n41.2 pu_t41_0 rfl ?_
  refine pu_aload_n rfl ?_
  refine pu_iload_n rfl ?_
  refine pu_cv (vs := [.int x1]) (rest := []) pu_g37 ⟨hq0, by decide⟩ rfl rfl rfl rfl rfl (pu_CI (pu_I_imp H (fun y1 D2 H => ?_)))
  refine pu_eq0 pu_t41_19 (fun h3 => ?_) (fun h3 => ?_)
  · replace H := pu_t h3 H
    exact pu_vret pu_rt41 H
  · replace H := pu_f h3 H
    refine pu_aload_n rfl ?_
    refine pu_getR pu_kr3_0 hq0 rfl ?_
    refine pu_iload_n rfl ?_
    refine pu_aload_n rfl ?_
    refine pu_lload_n rfl ?_
    refine pu_cv (vs := [.long x2]) (rest := [.int x1, .ref (pu_rf q0 0)]) pu_g42 ⟨hq0, by decide⟩ rfl rfl rfl rfl rfl (pu_CJ (pu_J_imp H (fun y4 D5 H => ?_)))
    refine pu_las (pu_f3_0 hq0) (pu_l3_0 hq0) H.1 ?_
    replace H := H.2
    exact pu_vret pu_rt41 H
/-- LightAlong$Shelf.lowestBits(J)J -/
theorem pu_e42 {X : px_X} {q0 : Nat} {x1 : Int64} {D : pu_D} {P : Int64 → pu_D → Prop} (hq0 : pu_cl q0 = 3)
    (H : if ((D.1 q0 1) - 100) = 0 then (P (Int32.toInt64 ((Int32.toInt8 (Int64.toInt32 x1)).toInt32)) D) else if ((D.1 q0 1) - 100) = 1 then (P (Int32.toInt64 ((Int32.toInt16 (Int64.toInt32 x1)).toInt32)) D) else if ((D.1 q0 1) - 100) = 2 then (P (Int32.toInt64 (Int64.toInt32 x1)) D) else (P x1 D)) :
    pu_J X 42 [.ref q0, .long x1] D P := by
  refine pu_ent (E := [.ref q0, .long x1, .null]) pu_n42.1 pu_n42.2 pu_t42_0 rfl ?_
  refine pu_aload_n rfl ?_
  refine pu_getI pu_k3_1 hq0 ?_
  refine pu_bipush ?_
  refine pu_isub ?_
  by_cases h1 : ((D.1 q0 1) - 100) = 0
  · replace H := pu_t h1 H
    refine pu_tswC 0 (25) h1 (by decide +kernel) pu_t42_32 ?_
    refine pu_lload_n rfl ?_
    refine pu_l2i ?_
    refine pu_i2b ?_
    refine pu_i2l ?_
    exact pu_lret pu_rt42 H
  replace H := pu_f h1 H
  by_cases h2 : ((D.1 q0 1) - 100) = 1
  · replace H := pu_t h2 H
    refine pu_tswC 1 (30) h2 (by decide +kernel) pu_t42_37 ?_
    refine pu_lload_n rfl ?_
    refine pu_l2i ?_
    refine pu_i2s ?_
    refine pu_i2l ?_
    exact pu_lret pu_rt42 H
  replace H := pu_f h2 H
  by_cases h3 : ((D.1 q0 1) - 100) = 2
  · replace H := pu_t h3 H
    refine pu_tswC 2 (35) h3 (by decide +kernel) pu_t42_42 ?_
    refine pu_lload_n rfl ?_
    refine pu_l2i ?_
    refine pu_i2l ?_
    exact pu_lret pu_rt42 H
  replace H := pu_f h3 H
  refine pu_tswD [0, 1, 2] (by simp only [List.mem_cons, List.not_mem_nil, or_false, not_or]; exact ⟨h1, h2, h3⟩) (by decide +kernel) pu_t42_46 ?_
  refine pu_lload_n rfl ?_
  exact pu_lret pu_rt42 H
/-- LightAlong$Shelf.isOfKind(I)Z -/
theorem pu_e43 {X : px_X} {q0 : Nat} {x1 : Int32} {D : pu_D} {P : Int32 → pu_D → Prop} (hq0 : pu_cl q0 = 3)
    (H : if x1 = 0 then (pu_I X 33 [.ref q0] D (fun y2 D3 => (y2 &&& 1 = y2) ∧ P y2 D3)) else (if x1 = (D.1 q0 1) then (pu_I X 33 [.ref q0] D (fun y8 D9 => (y8 &&& 1 = y8) ∧ P y8 D9)) else (if x1 = 2 then (if (D.1 q0 1) = 3 then (P 1 D) else (if (D.1 q0 1) = 5 then (P 1 D) else (P 0 D))) else (P 0 D)))) :
    pu_I X 43 [.ref q0, .int x1] D P := by
  refine pu_ent (E := [.ref q0, .int x1]) pu_n43.1 pu_n43.2 pu_t43_0 rfl ?_
  refine pu_iload_n rfl ?_
  refine pu_eq0 pu_t43_12 (fun h1 => ?_) (fun h1 => ?_)
  · replace H := pu_t h1 H
    refine pu_aload_n rfl ?_
    refine pu_cv (vs := []) (rest := []) pu_g33 ⟨hq0, by decide⟩ rfl rfl rfl rfl rfl (pu_CI (pu_I_imp H (fun y2 D3 H => ?_)))
    exact pu_iretZ pu_rt43 H.1 H.2
  · replace H := pu_f h1 H
    refine pu_iload_n rfl ?_
    refine pu_aload_n rfl ?_
    refine pu_getI pu_k3_1 hq0 ?_
    refine pu_ne_ pu_t43_17 (fun h4 => ?_) (fun h4 => ?_)
    · replace H := pu_f h4 H
      refine pu_iload_n rfl ?_
      refine pu_iconst ?_
      refine pu_ne_ pu_t43_42 (fun h5 => ?_) (fun h5 => ?_)
      · replace H := pu_f h5 H
        refine pu_iconst ?_
        exact pu_iretZ pu_rt43 (by decide) H
      · replace H := pu_t h5 H
        refine pu_aload_n rfl ?_
        refine pu_getI pu_k3_1 hq0 ?_
        refine pu_iconst ?_
        refine pu_eq_ pu_t43_38 (fun h6 => ?_) (fun h6 => ?_)
        · replace H := pu_t h6 H
          refine pu_iconst ?_
          refine pu_goto pu_t43_43 ?_
          exact pu_iretZ pu_rt43 (by decide) H
        · replace H := pu_f h6 H
          refine pu_aload_n rfl ?_
          refine pu_getI pu_k3_1 hq0 ?_
          refine pu_iconst ?_
          refine pu_ne_ pu_t43_42 (fun h7 => ?_) (fun h7 => ?_)
          · replace H := pu_f h7 H
            refine pu_iconst ?_
            exact pu_iretZ pu_rt43 (by decide) H
          · replace H := pu_t h7 H
            refine pu_iconst ?_
            refine pu_goto pu_t43_43 ?_
            exact pu_iretZ pu_rt43 (by decide) H
    · replace H := pu_t h4 H
      refine pu_aload_n rfl ?_
      refine pu_cv (vs := []) (rest := []) pu_g33 ⟨hq0, by decide⟩ rfl rfl rfl rfl rfl (pu_CI (pu_I_imp H (fun y8 D9 H => ?_)))
      exact pu_iretZ pu_rt43 H.1 H.2
/-- LightAlong$Shelf.isHalfAt(I)Z -/
theorem pu_e44 {X : px_X} {q0 : Nat} {x1 : Int32} {D : pu_D} {P : Int32 → pu_D → Prop} (hq0 : pu_cl q0 = 3)
    (H : if (D.1 q0 1) = 4 then (if x1 < (D.1 q0 3) then (P 0 D) else (P 1 D)) else (P 0 D)) :
    pu_I X 44 [.ref q0, .int x1] D P := by
  refine pu_ent (E := [.ref q0, .int x1]) pu_n44.1 pu_n44.2 pu_t44_0 rfl ?_
  refine pu_aload_n rfl ?_
  refine pu_getI pu_k3_1 hq0 ?_
  refine pu_iconst ?_
  refine pu_ne_ pu_t44_20 (fun h1 => ?_) (fun h1 => ?_)
  · replace H := pu_f h1 H
    refine pu_iconst ?_
    exact pu_iretZ pu_rt44 (by decide) H
  · replace H := pu_t h1 H
    refine pu_iload_n rfl ?_
    refine pu_aload_n rfl ?_
    refine pu_getI pu_k3_3 hq0 ?_
    refine pu_lt_ pu_t44_20 (fun h2 => ?_) (fun h2 => ?_)
    · replace H := pu_t h2 H
      refine pu_iconst ?_
      exact pu_iretZ pu_rt44 (by decide) H
    · replace H := pu_f h2 H
      refine pu_iconst ?_
      refine pu_goto pu_t44_21 ?_
      exact pu_iretZ pu_rt44 (by decide) H
/-- LightAlong$Street.become(LLightAlong$Street;)V -/
theorem pu_e46 {X : px_X} {q0 : Nat} {q1 : Nat} {D : pu_D} {P : pu_D → Prop} (hq0 : pu_cl q0 = 4) (hq1 : pu_cl q1 = 4)
    (H : (pu_cpk (pu_rf q1 0) (pu_rf q0 0) 0 0 4) ∧ pu_V X 85 [.ref (pu_rf q0 1), .ref (pu_rf q1 1)] (pu_cpI D (pu_rf q1 0) (pu_rf q0 0) 0 0 4) (fun D2 => pu_V X 85 [.ref (pu_rf q0 2), .ref (pu_rf q1 2)] D2 (fun D4 => pu_V X 85 [.ref (pu_rf q0 3), .ref (pu_rf q1 3)] D4 (fun D6 => pu_V X 85 [.ref (pu_rf q0 4), .ref (pu_rf q1 4)] D6 (fun D8 => pu_V X 85 [.ref (pu_rf q0 5), .ref (pu_rf q1 5)] D8 (fun D10 => pu_V X 85 [.ref (pu_rf q0 6), .ref (pu_rf q1 6)] D10 (fun D12 => pu_V X 85 [.ref (pu_rf q0 7), .ref (pu_rf q1 7)] D12 (fun D14 => P D14)))))))) :
    pu_V X 46 [.ref q0, .ref q1] D P := by
  refine pu_ent (E := [.ref q0, .ref q1]) pu_n46.1 pu_n46.2 pu_t46_0 rfl ?_
  refine pu_aload_n rfl ?_
  refine pu_getR pu_kr4_0 hq1 rfl ?_
  refine pu_iconst ?_
  refine pu_aload_n rfl ?_
  refine pu_getR pu_kr4_0 hq0 rfl ?_
  refine pu_iconst ?_
  refine pu_aload_n rfl ?_
  refine pu_getR pu_kr4_0 hq0 rfl ?_
  refine pu_alen (y := 4) (by decide) (pu_f4_0 hq0) (by rw [(pu_l4_0 hq0)]; rfl) ?_
  refine pu_acpI (pu_f4_0 hq1) (pu_f4_0 hq0) rfl H.1 ?_
  replace H := H.2
  refine pu_aload_n rfl ?_
  refine pu_getR pu_kr4_1 hq0 rfl ?_
  refine pu_aload_n rfl ?_
  refine pu_getR pu_kr4_1 hq1 rfl ?_
  refine pu_cv (vs := [.ref (pu_rf q1 1)]) (rest := []) pu_g85 ⟨(pu_f4_1 hq0), by decide⟩ rfl rfl rfl rfl rfl (pu_CV (pu_V_imp H (fun D2 H => ?_)))
  refine pu_aload_n rfl ?_
  refine pu_getR pu_kr4_2 hq0 rfl ?_
  refine pu_aload_n rfl ?_
  refine pu_getR pu_kr4_2 hq1 rfl ?_
  refine pu_cv (vs := [.ref (pu_rf q1 2)]) (rest := []) pu_g85 ⟨(pu_f4_2 hq0), by decide⟩ rfl rfl rfl rfl rfl (pu_CV (pu_V_imp H (fun D4 H => ?_)))
  refine pu_aload_n rfl ?_
  refine pu_getR pu_kr4_3 hq0 rfl ?_
  refine pu_aload_n rfl ?_
  refine pu_getR pu_kr4_3 hq1 rfl ?_
  refine pu_cv (vs := [.ref (pu_rf q1 3)]) (rest := []) pu_g85 ⟨(pu_f4_3 hq0), by decide⟩ rfl rfl rfl rfl rfl (pu_CV (pu_V_imp H (fun D6 H => ?_)))
  refine pu_aload_n rfl ?_
  refine pu_getR pu_kr4_4 hq0 rfl ?_
  refine pu_aload_n rfl ?_
  refine pu_getR pu_kr4_4 hq1 rfl ?_
  refine pu_cv (vs := [.ref (pu_rf q1 4)]) (rest := []) pu_g85 ⟨(pu_f4_4 hq0), by decide⟩ rfl rfl rfl rfl rfl (pu_CV (pu_V_imp H (fun D8 H => ?_)))
  refine pu_aload_n rfl ?_
  refine pu_getR pu_kr4_5 hq0 rfl ?_
  refine pu_aload_n rfl ?_
  refine pu_getR pu_kr4_5 hq1 rfl ?_
  refine pu_cv (vs := [.ref (pu_rf q1 5)]) (rest := []) pu_g85 ⟨(pu_f4_5 hq0), by decide⟩ rfl rfl rfl rfl rfl (pu_CV (pu_V_imp H (fun D10 H => ?_)))
  refine pu_aload_n rfl ?_
  refine pu_getR pu_kr4_6 hq0 rfl ?_
  refine pu_aload_n rfl ?_
  refine pu_getR pu_kr4_6 hq1 rfl ?_
  refine pu_cv (vs := [.ref (pu_rf q1 6)]) (rest := []) pu_g85 ⟨(pu_f4_6 hq0), by decide⟩ rfl rfl rfl rfl rfl (pu_CV (pu_V_imp H (fun D12 H => ?_)))
  refine pu_aload_n rfl ?_
  refine pu_getR pu_kr4_7 hq0 rfl ?_
  refine pu_aload_n rfl ?_
  refine pu_getR pu_kr4_7 hq1 rfl ?_
  refine pu_cv (vs := [.ref (pu_rf q1 7)]) (rest := []) pu_g85 ⟨(pu_f4_7 hq0), by decide⟩ rfl rfl rfl rfl rfl (pu_CV (pu_V_imp H (fun D14 H => ?_)))
  exact pu_vret pu_rt46 H
/-- LightAlong$Street.hasRoom(I)Z -/
theorem pu_e47 {X : px_X} {x1 : Int32} {D : pu_D} {P : Int32 → pu_D → Prop} 
    (H : if 3 < x1 then (pu_R X 49 [.ref 17, .int x1] D (fun y2 D3 => (pu_cl y2 = 6) ∧ pu_I X 80 [.ref y2] D3 (fun y5 D6 => if y5 = 0 then (P 1 D6) else (P 0 D6)))) else (P 1 D)) :
    pu_I X 47 [.ref 17, .int x1] D P := by
  refine pu_ent (E := [.ref 17, .int x1]) pu_n47.1 pu_n47.2 pu_t47_0 rfl ?_
  refine pu_iload_n rfl ?_
  refine pu_iconst ?_
  refine pu_le_ pu_t47_16 (fun h1 => ?_) (fun h1 => ?_)
  · replace H := pu_f h1 H
    refine pu_iconst ?_
    refine pu_goto pu_t47_21 ?_
    exact pu_iretZ pu_rt47 (by decide) H
  · replace H := pu_t h1 H
    refine pu_aload_n rfl ?_
    refine pu_iload_n rfl ?_
    refine pu_cv (vs := [.int x1]) (rest := []) pu_g49 ⟨pu_c17, by decide⟩ rfl rfl rfl rfl rfl (pu_CR (pu_R_imp H (fun y2 D3 H => ?_)))
    have h4 := H.1
    replace H := H.2
    refine pu_cv (vs := []) (rest := []) pu_g80 ⟨h4, by decide⟩ rfl rfl rfl rfl rfl (pu_CI (pu_I_imp H (fun y5 D6 H => ?_)))
    refine pu_ne0 pu_t47_20 (fun h7 => ?_) (fun h7 => ?_)
    · replace H := pu_f h7 H
      refine pu_iconst ?_
      exact pu_iretZ pu_rt47 (by decide) H
    · replace H := pu_t h7 H
      refine pu_iconst ?_
      refine pu_goto pu_t47_21 ?_
      exact pu_iretZ pu_rt47 (by decide) H
/-- LightAlong$Street.add(I[I)V -/
theorem pu_e48 {X : px_X} {x1 : Int32} {D : pu_D} {P : pu_D → Prop} 
    (H : if x1 < 0 then (P D) else (if x1 < 11 then (if 3 < x1 then (if x1 = 5 then (pu_I X 84 [.ref 21, .int (D.1 51 (Int32.toNatClampNeg 0)), .int (D.1 51 (Int32.toNatClampNeg 1)), .int (-1), .int 0] D (fun y10 D11 => P D11)) else (pu_R X 49 [.ref 17, .int x1] D (fun y5 D6 => (pu_cl y5 = 6) ∧ pu_I X 84 [.ref y5, .int (D6.1 51 (Int32.toNatClampNeg 0)), .int (D6.1 51 (Int32.toNatClampNeg 1)), .int (D6.1 51 (Int32.toNatClampNeg 2)), .int (D6.1 51 (Int32.toNatClampNeg 3))] D6 (fun y8 D9 => P D9)))) else ((px_in x1 4 = true) ∧ P (pu_wi D 18 x1.toNatClampNeg (D.1 51 (Int32.toNatClampNeg 0))))) else (P D))) :
    pu_V X 48 [.ref 17, .int x1, .ref 51] D P := by
  refine pu_ent (E := [.ref 17, .int x1, .ref 51]) pu_n48.1 pu_n48.2 pu_t48_0 rfl ?_
  refine pu_iload_n rfl ?_
  refine pu_lt0 pu_t48_16 (fun h1 => ?_) (fun h1 => ?_)
  · replace H := pu_t h1 H
    exact pu_vret pu_rt48 H
  · replace H := pu_f h1 H
    refine pu_iload_n rfl ?_
    refine pu_bipush ?_
    refine pu_ge_ pu_t48_16 (fun h2 => ?_) (fun h2 => ?_)
    · replace H := pu_f h2 H
      exact pu_vret pu_rt48 H
    · replace H := pu_t h2 H
      refine pu_aload_n rfl ?_
      refine pu_alen (y := 4) (by decide) pu_c51 (by rw [pu_ln51]; rfl) ?_
      refine pu_iconst ?_
      refine pu_icT (by decide) pu_t48_17 ?_
      refine pu_iload_n rfl ?_
      refine pu_iconst ?_
      refine pu_gt_ pu_t48_34 (fun h3 => ?_) (fun h3 => ?_)
      · replace H := pu_t h3 H
        refine pu_iload_n rfl ?_
        refine pu_iconst ?_
        refine pu_ne_ pu_t48_58 (fun h4 => ?_) (fun h4 => ?_)
        · replace H := pu_f h4 H
          refine pu_aload_n rfl ?_
          refine pu_iload_n rfl ?_
          refine pu_cv (vs := [.int x1]) (rest := []) pu_g49 ⟨pu_c17, by decide⟩ rfl rfl rfl rfl rfl (pu_CR (pu_R_imp H (fun y5 D6 H => ?_)))
          have h7 := H.1
          replace H := H.2
          refine pu_aload_n rfl ?_
          refine pu_iconst ?_
          refine pu_ial pu_c51 pu_ln51 (by decide) ?_
          refine pu_aload_n rfl ?_
          refine pu_iconst ?_
          refine pu_ial pu_c51 pu_ln51 (by decide) ?_
          refine pu_aload_n rfl ?_
          refine pu_iconst ?_
          refine pu_ial pu_c51 pu_ln51 (by decide) ?_
          refine pu_aload_n rfl ?_
          refine pu_iconst ?_
          refine pu_ial pu_c51 pu_ln51 (by decide) ?_
          refine pu_cv (vs := [.int (D6.1 51 (Int32.toNatClampNeg 0)), .int (D6.1 51 (Int32.toNatClampNeg 1)), .int (D6.1 51 (Int32.toNatClampNeg 2)), .int (D6.1 51 (Int32.toNatClampNeg 3))]) (rest := []) pu_g84 ⟨h7, by decide⟩ rfl rfl rfl rfl rfl (pu_CI (pu_I_imp H (fun y8 D9 H => ?_)))
          refine pu_pop rfl ?_
          exact pu_vret pu_rt48 H
        · replace H := pu_t h4 H
          refine pu_aload_n rfl ?_
          refine pu_getR pu_kr4_2 pu_c17 pu_r17_2 ?_
          refine pu_aload_n rfl ?_
          refine pu_iconst ?_
          refine pu_ial pu_c51 pu_ln51 (by decide) ?_
          refine pu_aload_n rfl ?_
          refine pu_iconst ?_
          refine pu_ial pu_c51 pu_ln51 (by decide) ?_
          refine pu_iconst ?_
          refine pu_iconst ?_
          refine pu_cv (vs := [.int (D.1 51 (Int32.toNatClampNeg 0)), .int (D.1 51 (Int32.toNatClampNeg 1)), .int (-1), .int 0]) (rest := []) pu_g84 ⟨pu_c21, by decide⟩ rfl rfl rfl rfl rfl (pu_CI (pu_I_imp H (fun y10 D11 H => ?_)))
          refine pu_pop rfl ?_
          refine pu_goto pu_t48_79 ?_
          exact pu_vret pu_rt48 H
      · replace H := pu_f h3 H
        refine pu_aload_n rfl ?_
        refine pu_getR pu_kr4_0 pu_c17 pu_r17_0 ?_
        refine pu_iload_n rfl ?_
        refine pu_aload_n rfl ?_
        refine pu_iconst ?_
        refine pu_ial pu_c51 pu_ln51 (by decide) ?_
        refine pu_ias pu_c18 pu_ln18 H.1 ?_
        replace H := H.2
        refine pu_goto pu_t48_79 ?_
        exact pu_vret pu_rt48 H
/-- LightAlong$Street.tableOf(I)LLightAlong$Table; -/
theorem pu_e49 {X : px_X} {x1 : Int32} {D : pu_D} {P : Nat → pu_D → Prop} 
    (H : if x1 = 4 then (P 19 D) else if x1 = 5 then (P 21 D) else if x1 = 6 then (P 23 D) else if x1 = 7 then (P 25 D) else if x1 = 8 then (P 27 D) else if x1 = 9 then (P 29 D) else (P 31 D)) :
    pu_R X 49 [.ref 17, .int x1] D P := by
  refine pu_ent (E := [.ref 17, .int x1]) pu_n49.1 pu_n49.2 pu_t49_0 rfl ?_
  refine pu_iload_n rfl ?_
  by_cases h1 : x1 = 4
  · replace H := pu_t h1 H
    refine pu_tswC 4 (39) h1 (by decide +kernel) pu_t49_40 ?_
    refine pu_aload_n rfl ?_
    refine pu_getR pu_kr4_1 pu_c17 pu_r17_1 ?_
    exact pu_aret (by decide +kernel) H
  replace H := pu_f h1 H
  by_cases h2 : x1 = 5
  · replace H := pu_t h2 H
    refine pu_tswC 5 (44) h2 (by decide +kernel) pu_t49_45 ?_
    refine pu_aload_n rfl ?_
    refine pu_getR pu_kr4_2 pu_c17 pu_r17_2 ?_
    exact pu_aret (by decide +kernel) H
  replace H := pu_f h2 H
  by_cases h3 : x1 = 6
  · replace H := pu_t h3 H
    refine pu_tswC 6 (49) h3 (by decide +kernel) pu_t49_50 ?_
    refine pu_aload_n rfl ?_
    refine pu_getR pu_kr4_3 pu_c17 pu_r17_3 ?_
    exact pu_aret (by decide +kernel) H
  replace H := pu_f h3 H
  by_cases h4 : x1 = 7
  · replace H := pu_t h4 H
    refine pu_tswC 7 (54) h4 (by decide +kernel) pu_t49_55 ?_
    refine pu_aload_n rfl ?_
    refine pu_getR pu_kr4_4 pu_c17 pu_r17_4 ?_
    exact pu_aret (by decide +kernel) H
  replace H := pu_f h4 H
  by_cases h5 : x1 = 8
  · replace H := pu_t h5 H
    refine pu_tswC 8 (59) h5 (by decide +kernel) pu_t49_60 ?_
    refine pu_aload_n rfl ?_
    refine pu_getR pu_kr4_5 pu_c17 pu_r17_5 ?_
    exact pu_aret (by decide +kernel) H
  replace H := pu_f h5 H
  by_cases h6 : x1 = 9
  · replace H := pu_t h6 H
    refine pu_tswC 9 (64) h6 (by decide +kernel) pu_t49_65 ?_
    refine pu_aload_n rfl ?_
    refine pu_getR pu_kr4_6 pu_c17 pu_r17_6 ?_
    exact pu_aret (by decide +kernel) H
  replace H := pu_f h6 H
  refine pu_tswD [4, 5, 6, 7, 8, 9] (by simp only [List.mem_cons, List.not_mem_nil, or_false, not_or]; exact ⟨h1, h2, h3, h4, h5, h6⟩) (by decide +kernel) pu_t49_70 ?_
  refine pu_aload_n rfl ?_
  refine pu_getR pu_kr4_7 pu_c17 pu_r17_7 ?_
  exact pu_aret (by decide +kernel) H
/-- LightAlong$Street.isPool(I)Z -/
def pu_h50_2 (X : px_X) (x1 : Int32) (x2 : Int32) (D : pu_D) (P : Int32 → pu_D → Prop) : Prop := pu_W X 50 (0, 0) px_c50_2 [.ref 1, .int x1, .int x2] [] D (pu_qi P)
theorem pu_u50_2 {X : px_X} {x1 : Int32} {x2 : Int32} {D : pu_D} {P : Int32 → pu_D → Prop} 
    (H : if x2 < (D.1 15 2) then (pu_I X 82 [.ref 15, .int x2, .int 0] D (fun y2 D3 => if y2 = x1 then (P 1 D3) else (pu_h50_2 X x1 (x2 + 1) D3 P))) else (P 0 D)) :
    pu_h50_2 X x1 x2 D P := by
  refine pu_iload_n rfl ?_
  refine pu_aload_n rfl ?_
  refine pu_getR pu_kr4_7 pu_c1 pu_r1_7 ?_
  refine pu_getI pu_k6_2 pu_c15 ?_
  refine pu_ge_ pu_t50_34 (fun h1 => ?_) (fun h1 => ?_)
  · replace H := pu_f h1 H
    refine pu_iconst ?_
    exact pu_iretZ pu_rt50 (by decide) H
  · replace H := pu_t h1 H
    refine pu_aload_n rfl ?_
    refine pu_getR pu_kr4_7 pu_c1 pu_r1_7 ?_
    refine pu_iload_n rfl ?_
    refine pu_iconst ?_
    refine pu_cv (vs := [.int x2, .int 0]) (rest := []) pu_g82 ⟨pu_c15, by decide⟩ rfl rfl rfl rfl rfl (pu_CI (pu_I_imp H (fun y2 D3 H => ?_)))
    refine pu_iload_n rfl ?_
    refine pu_ne_ pu_t50_28 (fun h4 => ?_) (fun h4 => ?_)
    · replace H := pu_f h4 H
      refine pu_iinc (L' := [.ref 1, .int x1, .int (x2 + 1)]) rfl (Or.inr rfl) rfl ?_
      refine pu_goto pu_t50_2 ?_
      exact H 
    · replace H := pu_t h4 H
      refine pu_iconst ?_
      exact pu_iretZ pu_rt50 (by decide) H
theorem pu_e50 {X : px_X} {x1 : Int32} {D : pu_D} {P : Int32 → pu_D → Prop} 
    (H : pu_h50_2 X x1 0 D P) :
    pu_I X 50 [.ref 1, .int x1] D P := by
  refine pu_ent (E := [.ref 1, .int x1, .null]) pu_n50.1 pu_n50.2 pu_t50_0 rfl ?_
  refine pu_iconst ?_
  refine pu_istore_n (L' := [.ref 1, .int x1, .int 0]) (Or.inr rfl) rfl ?_
  exact H 
/-- LightAlong$Street.isSet(I)Z -/
theorem pu_e51 {X : px_X} {x1 : Int32} {D : pu_D} {P : Int32 → pu_D → Prop} 
    (H : if x1 < 0 then (P 0 D) else (if x1 < (1 <<< ((D.1 5 2) &&& 31)) then (P 1 D) else (P 0 D))) :
    pu_I X 51 [.ref 1, .int x1] D P := by
  refine pu_ent (E := [.ref 1, .int x1]) pu_n51.1 pu_n51.2 pu_t51_0 rfl ?_
  refine pu_iload_n rfl ?_
  refine pu_lt0 pu_t51_21 (fun h1 => ?_) (fun h1 => ?_)
  · replace H := pu_t h1 H
    refine pu_iconst ?_
    exact pu_iretZ pu_rt51 (by decide) H
  · replace H := pu_f h1 H
    refine pu_iload_n rfl ?_
    refine pu_iconst ?_
    refine pu_aload_n rfl ?_
    refine pu_getR pu_kr4_2 pu_c1 pu_r1_2 ?_
    refine pu_getI pu_k6_2 pu_c5 ?_
    refine pu_ishl ?_
    refine pu_ge_ pu_t51_21 (fun h2 => ?_) (fun h2 => ?_)
    · replace H := pu_f h2 H
      refine pu_iconst ?_
      exact pu_iretZ pu_rt51 (by decide) H
    · replace H := pu_t h2 H
      refine pu_iconst ?_
      refine pu_goto pu_t51_22 ?_
      exact pu_iretZ pu_rt51 (by decide) H
/-- LightAlong$Street.hasLamp(I)Z -/
theorem pu_e52 {X : px_X} {x1 : Int32} {D : pu_D} {P : Int32 → pu_D → Prop} 
    (H : pu_I X 82 [.ref 5, .int x1, .int 2] D (fun y1 D2 => if y1 = (-1) then (P 0 D2) else (P 1 D2))) :
    pu_I X 52 [.ref 1, .int x1] D P := by
  refine pu_ent (E := [.ref 1, .int x1]) pu_n52.1 pu_n52.2 pu_t52_0 rfl ?_
  refine pu_aload_n rfl ?_
  refine pu_getR pu_kr4_2 pu_c1 pu_r1_2 ?_
  refine pu_iload_n rfl ?_
  refine pu_iconst ?_
  refine pu_cv (vs := [.int x1, .int 2]) (rest := []) pu_g82 ⟨pu_c5, by decide⟩ rfl rfl rfl rfl rfl (pu_CI (pu_I_imp H (fun y1 D2 H => ?_)))
  refine pu_iconst ?_
  refine pu_eq_ pu_t52_17 (fun h3 => ?_) (fun h3 => ?_)
  · replace H := pu_t h3 H
    refine pu_iconst ?_
    exact pu_iretZ pu_rt52 (by decide) H
  · replace H := pu_f h3 H
    refine pu_iconst ?_
    refine pu_goto pu_t52_18 ?_
    exact pu_iretZ pu_rt52 (by decide) H
/-- LightAlong$Street.isOut(I)Z -/
theorem pu_e53 {X : px_X} {x1 : Int32} {D : pu_D} {P : Int32 → pu_D → Prop} 
    (H : pu_I X 82 [.ref 5, .int x1, .int 3] D (fun y1 D2 => if y1 = 1 then (P 1 D2) else (P 0 D2))) :
    pu_I X 53 [.ref 1, .int x1] D P := by
  refine pu_ent (E := [.ref 1, .int x1]) pu_n53.1 pu_n53.2 pu_t53_0 rfl ?_
  refine pu_aload_n rfl ?_
  refine pu_getR pu_kr4_2 pu_c1 pu_r1_2 ?_
  refine pu_iload_n rfl ?_
  refine pu_iconst ?_
  refine pu_cv (vs := [.int x1, .int 3]) (rest := []) pu_g82 ⟨pu_c5, by decide⟩ rfl rfl rfl rfl rfl (pu_CI (pu_I_imp H (fun y1 D2 H => ?_)))
  refine pu_iconst ?_
  refine pu_ne_ pu_t53_17 (fun h3 => ?_) (fun h3 => ?_)
  · replace H := pu_f h3 H
    refine pu_iconst ?_
    exact pu_iretZ pu_rt53 (by decide) H
  · replace H := pu_t h3 H
    refine pu_iconst ?_
    refine pu_goto pu_t53_18 ?_
    exact pu_iretZ pu_rt53 (by decide) H
/-- LightAlong$Street.putLamp(II)V -/
theorem pu_e54 {X : px_X} {x1 : Int32} {x2 : Int32} {D : pu_D} {P : pu_D → Prop} 
    (H : pu_V X 83 [.ref 5, .int x1, .int 2, .int x2] D (fun D2 => pu_V X 83 [.ref 5, .int x1, .int 3, .int 0] D2 (fun D4 => P D4))) :
    pu_V X 54 [.ref 1, .int x1, .int x2] D P := by
  refine pu_ent (E := [.ref 1, .int x1, .int x2]) pu_n54.1 pu_n54.2 pu_t54_0 rfl ?_
  refine pu_aload_n rfl ?_
  refine pu_getR pu_kr4_2 pu_c1 pu_r1_2 ?_
  refine pu_iload_n rfl ?_
  refine pu_iconst ?_
  refine pu_iload_n rfl ?_
  refine pu_cv (vs := [.int x1, .int 2, .int x2]) (rest := []) pu_g83 ⟨pu_c5, by decide⟩ rfl rfl rfl rfl rfl (pu_CV (pu_V_imp H (fun D2 H => ?_)))
  refine pu_aload_n rfl ?_
  refine pu_getR pu_kr4_2 pu_c1 pu_r1_2 ?_
  refine pu_iload_n rfl ?_
  refine pu_iconst ?_
  refine pu_iconst ?_
  refine pu_cv (vs := [.int x1, .int 3, .int 0]) (rest := []) pu_g83 ⟨pu_c5, by decide⟩ rfl rfl rfl rfl rfl (pu_CV (pu_V_imp H (fun D4 H => ?_)))
  exact pu_vret pu_rt54 H
/-- LightAlong$Street.lampBits()I -/
def pu_h55_4 (X : px_X) (x1 : Int32) (x2 : Int32) (D : pu_D) (P : Int32 → pu_D → Prop) : Prop := pu_W X 55 (0, 0) px_c55_4 [.ref 1, .int x1, .int x2] [] D (pu_qi P)
theorem pu_u55_4 {X : px_X} {x1 : Int32} {x2 : Int32} {D : pu_D} {P : Int32 → pu_D → Prop} 
    (H : if x2 < (D.1 5 2) then (pu_I X 52 [.ref 1, .int x2] D (fun y2 D3 => if y2 = 0 then (pu_h55_4 X x1 (x2 + 1) D3 P) else (pu_h55_4 X (x1 ||| (1 <<< (x2 &&& 31))) (x2 + 1) D3 P))) else (P x1 D)) :
    pu_h55_4 X x1 x2 D P := by
  refine pu_iload_n rfl ?_
  refine pu_aload_n rfl ?_
  refine pu_getR pu_kr4_2 pu_c1 pu_r1_2 ?_
  refine pu_getI pu_k6_2 pu_c5 ?_
  refine pu_ge_ pu_t55_35 (fun h1 => ?_) (fun h1 => ?_)
  · replace H := pu_f h1 H
    refine pu_iload_n rfl ?_
    exact pu_iretI pu_rt55 H
  · replace H := pu_t h1 H
    refine pu_aload_n rfl ?_
    refine pu_iload_n rfl ?_
    refine pu_cv (vs := [.int x2]) (rest := []) pu_g52 ⟨pu_c1, by decide⟩ rfl rfl rfl rfl rfl (pu_CI (pu_I_imp H (fun y2 D3 H => ?_)))
    refine pu_eq0 pu_t55_29 (fun h4 => ?_) (fun h4 => ?_)
    · replace H := pu_t h4 H
      refine pu_iinc (L' := [.ref 1, .int x1, .int (x2 + 1)]) rfl (Or.inr rfl) rfl ?_
      refine pu_goto pu_t55_4 ?_
      exact H 
    · replace H := pu_f h4 H
      refine pu_iload_n rfl ?_
      refine pu_iconst ?_
      refine pu_iload_n rfl ?_
      refine pu_ishl ?_
      refine pu_ior ?_
      refine pu_istore_n (L' := [.ref 1, .int (x1 ||| (1 <<< (x2 &&& 31))), .int x2]) (Or.inr rfl) rfl ?_
      refine pu_iinc (L' := [.ref 1, .int (x1 ||| (1 <<< (x2 &&& 31))), .int (x2 + 1)]) rfl (Or.inr rfl) rfl ?_
      refine pu_goto pu_t55_4 ?_
      exact H 
theorem pu_e55 {X : px_X}  {D : pu_D} {P : Int32 → pu_D → Prop} 
    (H : pu_h55_4 X 0 0 D P) :
    pu_I X 55 [.ref 1] D P := by
  refine pu_ent (E := [.ref 1, .null, .null]) pu_n55.1 pu_n55.2 pu_t55_0 rfl ?_
  refine pu_iconst ?_
  refine pu_istore_n (L' := [.ref 1, .int 0, .null]) (Or.inr rfl) rfl ?_
  refine pu_iconst ?_
  refine pu_istore_n (L' := [.ref 1, .int 0, .int 0]) (Or.inr rfl) rfl ?_
  exact H 
/-- LightAlong$Street.burningBits()I -/
def pu_h56_4 (X : px_X) (x1 : Int32) (x2 : Int32) (D : pu_D) (P : Int32 → pu_D → Prop) : Prop := pu_W X 56 (0, 0) px_c56_4 [.ref 1, .int x1, .int x2] [] D (pu_qi P)
theorem pu_u56_4 {X : px_X} {x1 : Int32} {x2 : Int32} {D : pu_D} {P : Int32 → pu_D → Prop} 
    (H : if x2 < (D.1 5 2) then (pu_I X 52 [.ref 1, .int x2] D (fun y2 D3 => if y2 = 0 then (pu_h56_4 X x1 (x2 + 1) D3 P) else (pu_I X 53 [.ref 1, .int x2] D3 (fun y5 D6 => if y5 = 0 then (pu_h56_4 X (x1 ||| (1 <<< (x2 &&& 31))) (x2 + 1) D6 P) else (pu_h56_4 X x1 (x2 + 1) D6 P))))) else (P x1 D)) :
    pu_h56_4 X x1 x2 D P := by
  refine pu_iload_n rfl ?_
  refine pu_aload_n rfl ?_
  refine pu_getR pu_kr4_2 pu_c1 pu_r1_2 ?_
  refine pu_getI pu_k6_2 pu_c5 ?_
  refine pu_ge_ pu_t56_43 (fun h1 => ?_) (fun h1 => ?_)
  · replace H := pu_f h1 H
    refine pu_iload_n rfl ?_
    exact pu_iretI pu_rt56 H
  · replace H := pu_t h1 H
    refine pu_aload_n rfl ?_
    refine pu_iload_n rfl ?_
    refine pu_cv (vs := [.int x2]) (rest := []) pu_g52 ⟨pu_c1, by decide⟩ rfl rfl rfl rfl rfl (pu_CI (pu_I_imp H (fun y2 D3 H => ?_)))
    refine pu_eq0 pu_t56_37 (fun h4 => ?_) (fun h4 => ?_)
    · replace H := pu_t h4 H
      refine pu_iinc (L' := [.ref 1, .int x1, .int (x2 + 1)]) rfl (Or.inr rfl) rfl ?_
      refine pu_goto pu_t56_4 ?_
      exact H 
    · replace H := pu_f h4 H
      refine pu_aload_n rfl ?_
      refine pu_iload_n rfl ?_
      refine pu_cv (vs := [.int x2]) (rest := []) pu_g53 ⟨pu_c1, by decide⟩ rfl rfl rfl rfl rfl (pu_CI (pu_I_imp H (fun y5 D6 H => ?_)))
      refine pu_ne0 pu_t56_37 (fun h7 => ?_) (fun h7 => ?_)
      · replace H := pu_f h7 H
        refine pu_iinc (L' := [.ref 1, .int x1, .int (x2 + 1)]) rfl (Or.inr rfl) rfl ?_
        refine pu_goto pu_t56_4 ?_
        exact H 
      · replace H := pu_t h7 H
        refine pu_iload_n rfl ?_
        refine pu_iconst ?_
        refine pu_iload_n rfl ?_
        refine pu_ishl ?_
        refine pu_ior ?_
        refine pu_istore_n (L' := [.ref 1, .int (x1 ||| (1 <<< (x2 &&& 31))), .int x2]) (Or.inr rfl) rfl ?_
        refine pu_iinc (L' := [.ref 1, .int (x1 ||| (1 <<< (x2 &&& 31))), .int (x2 + 1)]) rfl (Or.inr rfl) rfl ?_
        refine pu_goto pu_t56_4 ?_
        exact H 
theorem pu_e56 {X : px_X}  {D : pu_D} {P : Int32 → pu_D → Prop} 
    (H : pu_h56_4 X 0 0 D P) :
    pu_I X 56 [.ref 1] D P := by
  refine pu_ent (E := [.ref 1, .null, .null]) pu_n56.1 pu_n56.2 pu_t56_0 rfl ?_
  refine pu_iconst ?_
  refine pu_istore_n (L' := [.ref 1, .int 0, .null]) (Or.inr rfl) rfl ?_
  refine pu_iconst ?_
  refine pu_istore_n (L' := [.ref 1, .int 0, .int 0]) (Or.inr rfl) rfl ?_
  exact H 
/-- LightAlong$Street.burning(LLightAlong$Shelf;)I -/
theorem pu_e57 {X : px_X} {q1 : Nat} {D : pu_D} {P : Int32 → pu_D → Prop} (hq1 : pu_cl q1 = 3)
    (H : pu_I X 56 [.ref 1] D (fun y1 D2 => if (D2.1 q1 1) = 1 then (pu_I X 58 [.ref 1, .int (D2.1 q1 3)] D2 (fun y4 D5 => P (y1 &&& y4) D5)) else if (D2.1 q1 1) = 3 then (pu_I X 59 [.ref 1, .int y1, .int (D2.1 q1 3)] D2 (fun y7 D8 => P y7 D8)) else if (D2.1 q1 1) = 5 then (P (y1 &&& (D2.1 q1 4)) D2) else if (D2.1 q1 1) = 6 then (P (y1 &&& (D2.1 q1 3)) D2) else (P y1 D2))) :
    pu_I X 57 [.ref 1, .ref q1] D P := by
  refine pu_ent (E := [.ref 1, .ref q1, .null]) pu_n57.1 pu_n57.2 pu_t57_0 rfl ?_
  refine pu_aload_n rfl ?_
  refine pu_cv (vs := []) (rest := []) pu_g56 ⟨pu_c1, by decide⟩ rfl rfl rfl rfl rfl (pu_CI (pu_I_imp H (fun y1 D2 H => ?_)))
  refine pu_istore_n (L' := [.ref 1, .ref q1, .int y1]) (Or.inr rfl) rfl ?_
  refine pu_aload_n rfl ?_
  refine pu_getI pu_k3_1 hq1 ?_
  by_cases h3 : (D2.1 q1 1) = 1
  · replace H := pu_t h3 H
    refine pu_tswC 1 (39) h3 (by decide +kernel) pu_t57_48 ?_
    refine pu_iload_n rfl ?_
    refine pu_aload_n rfl ?_
    refine pu_aload_n rfl ?_
    refine pu_getI pu_k3_3 hq1 ?_
    refine pu_cv (vs := [.int (D2.1 q1 3)]) (rest := [.int y1]) pu_g58 ⟨pu_c1, by decide⟩ rfl rfl rfl rfl rfl (pu_CI (pu_I_imp H (fun y4 D5 H => ?_)))
    refine pu_iand ?_
    exact pu_iretI pu_rt57 H
  replace H := pu_f h3 H
  by_cases h6 : (D2.1 q1 1) = 3
  · replace H := pu_t h6 H
    refine pu_tswC 3 (50) h6 (by decide +kernel) pu_t57_59 ?_
    refine pu_aload_n rfl ?_
    refine pu_iload_n rfl ?_
    refine pu_aload_n rfl ?_
    refine pu_getI pu_k3_3 hq1 ?_
    refine pu_cv (vs := [.int y1, .int (D2.1 q1 3)]) (rest := []) pu_g59 ⟨pu_c1, by decide⟩ rfl rfl rfl rfl rfl (pu_CI (pu_I_imp H (fun y7 D8 H => ?_)))
    exact pu_iretI pu_rt57 H
  replace H := pu_f h6 H
  by_cases h9 : (D2.1 q1 1) = 5
  · replace H := pu_t h9 H
    refine pu_tswC 5 (60) h9 (by decide +kernel) pu_t57_69 ?_
    refine pu_iload_n rfl ?_
    refine pu_aload_n rfl ?_
    refine pu_getI pu_k3_4 hq1 ?_
    refine pu_iand ?_
    exact pu_iretI pu_rt57 H
  replace H := pu_f h9 H
  by_cases h10 : (D2.1 q1 1) = 6
  · replace H := pu_t h10 H
    refine pu_tswC 6 (67) h10 (by decide +kernel) pu_t57_76 ?_
    refine pu_iload_n rfl ?_
    refine pu_aload_n rfl ?_
    refine pu_getI pu_k3_3 hq1 ?_
    refine pu_iand ?_
    exact pu_iretI pu_rt57 H
  replace H := pu_f h10 H
  refine pu_tswD [1, 3, 5, 6] (by simp only [List.mem_cons, List.not_mem_nil, or_false, not_or]; exact ⟨h3, h6, h9, h10⟩) (by decide +kernel) pu_t57_83 ?_
  refine pu_iload_n rfl ?_
  exact pu_iretI pu_rt57 H
/-- LightAlong$Street.bitsOnSide(I)I -/
def pu_h58_4 (X : px_X) (x1 : Int32) (x2 : Int32) (x3 : Int32) (D : pu_D) (P : Int32 → pu_D → Prop) : Prop := pu_W X 58 (0, 0) px_c58_4 [.ref 1, .int x1, .int x2, .int x3] [] D (pu_qi P)
theorem pu_u58_4 {X : px_X} {x1 : Int32} {x2 : Int32} {x3 : Int32} {D : pu_D} {P : Int32 → pu_D → Prop} 
    (H : if x3 < (D.1 5 2) then (pu_I X 82 [.ref 5, .int x3, .int 0] D (fun y2 D3 => pu_I X 144 [.int y2] D3 (fun y4 D5 => if y4 = x1 then (pu_h58_4 X x1 (x2 ||| (1 <<< (x3 &&& 31))) (x3 + 1) D5 P) else (pu_h58_4 X x1 x2 (x3 + 1) D5 P)))) else (P x2 D)) :
    pu_h58_4 X x1 x2 x3 D P := by
  refine pu_iload_n rfl ?_
  refine pu_aload_n rfl ?_
  refine pu_getR pu_kr4_2 pu_c1 pu_r1_2 ?_
  refine pu_getI pu_k6_2 pu_c5 ?_
  refine pu_ge_ pu_t58_43 (fun h1 => ?_) (fun h1 => ?_)
  · replace H := pu_f h1 H
    refine pu_iload_n rfl ?_
    exact pu_iretI pu_rt58 H
  · replace H := pu_t h1 H
    refine pu_aload_n rfl ?_
    refine pu_getR pu_kr4_2 pu_c1 pu_r1_2 ?_
    refine pu_iload_n rfl ?_
    refine pu_iconst ?_
    refine pu_cv (vs := [.int x3, .int 0]) (rest := []) pu_g82 ⟨pu_c5, by decide⟩ rfl rfl rfl rfl rfl (pu_CI (pu_I_imp H (fun y2 D3 H => ?_)))
    refine pu_cs (vs := [.int y2]) (rest := []) pu_g144 rfl rfl rfl rfl rfl (pu_CI (pu_I_imp H (fun y4 D5 H => ?_)))
    refine pu_iload_n rfl ?_
    refine pu_ne_ pu_t58_37 (fun h6 => ?_) (fun h6 => ?_)
    · replace H := pu_f h6 H
      refine pu_iinc (L' := [.ref 1, .int x1, .int x2, .int (x3 + 1)]) rfl (Or.inr rfl) rfl ?_
      refine pu_goto pu_t58_4 ?_
      exact H 
    · replace H := pu_t h6 H
      refine pu_iload_n rfl ?_
      refine pu_iconst ?_
      refine pu_iload_n rfl ?_
      refine pu_ishl ?_
      refine pu_ior ?_
      refine pu_istore_n (L' := [.ref 1, .int x1, .int (x2 ||| (1 <<< (x3 &&& 31))), .int x3]) (Or.inr rfl) rfl ?_
      refine pu_iinc (L' := [.ref 1, .int x1, .int (x2 ||| (1 <<< (x3 &&& 31))), .int (x3 + 1)]) rfl (Or.inr rfl) rfl ?_
      refine pu_goto pu_t58_4 ?_
      exact H 
theorem pu_e58 {X : px_X} {x1 : Int32} {D : pu_D} {P : Int32 → pu_D → Prop} 
    (H : pu_h58_4 X x1 0 0 D P) :
    pu_I X 58 [.ref 1, .int x1] D P := by
  refine pu_ent (E := [.ref 1, .int x1, .null, .null]) pu_n58.1 pu_n58.2 pu_t58_0 rfl ?_
  refine pu_iconst ?_
  refine pu_istore_n (L' := [.ref 1, .int x1, .int 0, .null]) (Or.inr rfl) rfl ?_
  refine pu_iconst ?_
  refine pu_istore_n (L' := [.ref 1, .int x1, .int 0, .int 0]) (Or.inr rfl) rfl ?_
  exact H 
/-- LightAlong$Street.bitsInTurn(II)I -/
def pu_h59_8 (X : px_X) (x1 : Int32) (x3 : Int32) (x4 : Int32) (x5 : Int32) (D : pu_D) (P : Int32 → pu_D → Prop) : Prop := ∀ z2 : Value, z2.category = 1 → ∀ z6 : Value, z6.category = 1 → ∀ z7 : Value, z7.category = 1 → pu_W X 59 (0, 0) px_c59_8 [.ref 1, .int x1, z2, .int x3, .int x4, .int x5, z6, z7] [] D (pu_qi P)
def pu_h59_18 (X : px_X) (x1 : Int32) (x3 : Int32) (x4 : Int32) (x5 : Int32) (x6 : Int32) (D : pu_D) (P : Int32 → pu_D → Prop) : Prop := ∀ z2 : Value, z2.category = 1 → ∀ z7 : Value, z7.category = 1 → pu_W X 59 (0, 0) px_c59_18 [.ref 1, .int x1, z2, .int x3, .int x4, .int x5, .int x6, z7] [] D (pu_qi P)
theorem pu_u59_8 {X : px_X} {x1 : Int32} {x3 : Int32} {x4 : Int32} {x5 : Int32} {D : pu_D} {P : Int32 → pu_D → Prop} 
    (H : if x5 < 60 then (pu_h59_18 X x1 x3 x4 x5 0 D P) else (P x3 D)) :
    pu_h59_8 X x1 x3 x4 x5 D P := by
  intro z2 hz2 z6 hz6 z7 hz7
  refine pu_iload rfl ?_
  refine pu_bipush ?_
  refine pu_ge_ pu_t59_96 (fun h1 => ?_) (fun h1 => ?_)
  · replace H := pu_f h1 H
    refine pu_iload_n rfl ?_
    exact pu_iretI pu_rt59 H
  · replace H := pu_t h1 H
    refine pu_iconst ?_
    refine pu_istore (L' := [.ref 1, .int x1, z2, .int x3, .int x4, .int x5, .int 0, z7]) (Or.inr rfl) rfl ?_
    exact H _ hz2 _ hz7
theorem pu_u59_18 {X : px_X} {x1 : Int32} {x3 : Int32} {x4 : Int32} {x5 : Int32} {x6 : Int32} {D : pu_D} {P : Int32 → pu_D → Prop} 
    (H : if x6 < (D.1 5 2) then (pu_I X 82 [.ref 5, .int x6, .int 0] D (fun y3 D4 => pu_I X 142 [.int x1, .int x6] D4 (fun y5 D6 => if y5 = 0 then (pu_h59_18 X x1 x3 x4 x5 (x6 + 1) D6 P) else (pu_I X 143 [.int y3] D6 (fun y8 D9 => if y8 = x5 then (pu_I X 144 [.int y3] D9 (fun y11 D12 => if y11 = x4 then (pu_h59_18 X x1 (x3 ||| (1 <<< (x6 &&& 31))) (1 - x4) x5 (x6 + 1) D12 P) else (pu_h59_18 X x1 x3 x4 x5 (x6 + 1) D12 P))) else (pu_h59_18 X x1 x3 x4 x5 (x6 + 1) D9 P)))))) else (pu_h59_8 X x1 x3 x4 (x5 + 1) D P)) :
    pu_h59_18 X x1 x3 x4 x5 x6 D P := by
  intro z2 hz2 z7 hz7
  refine pu_iload rfl ?_
  refine pu_aload_n rfl ?_
  refine pu_getR pu_kr4_2 pu_c1 pu_r1_2 ?_
  refine pu_getI pu_k6_2 pu_c5 ?_
  refine pu_ge_ pu_t59_90 (fun h2 => ?_) (fun h2 => ?_)
  · replace H := pu_f h2 H
    refine pu_iinc (L' := [.ref 1, .int x1, z2, .int x3, .int x4, .int (x5 + 1), .int x6, z7]) rfl (Or.inr rfl) rfl ?_
    refine pu_goto pu_t59_8 ?_
    exact H _ hz2 _ rfl _ hz7
  · replace H := pu_t h2 H
    refine pu_aload_n rfl ?_
    refine pu_getR pu_kr4_2 pu_c1 pu_r1_2 ?_
    refine pu_iload rfl ?_
    refine pu_iconst ?_
    refine pu_cv (vs := [.int x6, .int 0]) (rest := []) pu_g82 ⟨pu_c5, by decide⟩ rfl rfl rfl rfl rfl (pu_CI (pu_I_imp H (fun y3 D4 H => ?_)))
    refine pu_istore (L' := [.ref 1, .int x1, z2, .int x3, .int x4, .int x5, .int x6, .int y3]) (Or.inr rfl) rfl ?_
    refine pu_iload_n rfl ?_
    refine pu_iload rfl ?_
    refine pu_cs (vs := [.int x1, .int x6]) (rest := []) pu_g142 rfl rfl rfl rfl rfl (pu_CI (pu_I_imp H (fun y5 D6 H => ?_)))
    refine pu_eq0 pu_t59_84 (fun h7 => ?_) (fun h7 => ?_)
    · replace H := pu_t h7 H
      refine pu_iinc (L' := [.ref 1, .int x1, z2, .int x3, .int x4, .int x5, .int (x6 + 1), .int y3]) rfl (Or.inr rfl) rfl ?_
      refine pu_goto pu_t59_18 ?_
      exact H _ hz2 _ rfl
    · replace H := pu_f h7 H
      refine pu_iload rfl ?_
      refine pu_cs (vs := [.int y3]) (rest := []) pu_g143 rfl rfl rfl rfl rfl (pu_CI (pu_I_imp H (fun y8 D9 H => ?_)))
      refine pu_iload rfl ?_
      refine pu_ne_ pu_t59_84 (fun h10 => ?_) (fun h10 => ?_)
      · replace H := pu_f h10 H
        refine pu_iinc (L' := [.ref 1, .int x1, z2, .int x3, .int x4, .int x5, .int (x6 + 1), .int y3]) rfl (Or.inr rfl) rfl ?_
        refine pu_goto pu_t59_18 ?_
        exact H _ hz2 _ rfl
      · replace H := pu_t h10 H
        refine pu_iload rfl ?_
        refine pu_cs (vs := [.int y3]) (rest := []) pu_g144 rfl rfl rfl rfl rfl (pu_CI (pu_I_imp H (fun y11 D12 H => ?_)))
        refine pu_iload rfl ?_
        refine pu_ne_ pu_t59_84 (fun h13 => ?_) (fun h13 => ?_)
        · replace H := pu_f h13 H
          refine pu_iinc (L' := [.ref 1, .int x1, z2, .int x3, .int x4, .int x5, .int (x6 + 1), .int y3]) rfl (Or.inr rfl) rfl ?_
          refine pu_goto pu_t59_18 ?_
          exact H _ hz2 _ rfl
        · replace H := pu_t h13 H
          refine pu_iload_n rfl ?_
          refine pu_iconst ?_
          refine pu_iload rfl ?_
          refine pu_ishl ?_
          refine pu_ior ?_
          refine pu_istore_n (L' := [.ref 1, .int x1, z2, .int (x3 ||| (1 <<< (x6 &&& 31))), .int x4, .int x5, .int x6, .int y3]) (Or.inr hz2) rfl ?_
          refine pu_iconst ?_
          refine pu_iload rfl ?_
          refine pu_isub ?_
          refine pu_istore (L' := [.ref 1, .int x1, z2, .int (x3 ||| (1 <<< (x6 &&& 31))), .int (1 - x4), .int x5, .int x6, .int y3]) (Or.inr rfl) rfl ?_
          refine pu_iinc (L' := [.ref 1, .int x1, z2, .int (x3 ||| (1 <<< (x6 &&& 31))), .int (1 - x4), .int x5, .int (x6 + 1), .int y3]) rfl (Or.inr rfl) rfl ?_
          refine pu_goto pu_t59_18 ?_
          exact H _ hz2 _ rfl
theorem pu_e59 {X : px_X} {x1 : Int32} {x2 : Int32} {D : pu_D} {P : Int32 → pu_D → Prop} 
    (H : pu_h59_8 X x1 0 x2 0 D P) :
    pu_I X 59 [.ref 1, .int x1, .int x2] D P := by
  refine pu_ent (E := [.ref 1, .int x1, .int x2, .null, .null, .null, .null, .null]) pu_n59.1 pu_n59.2 pu_t59_0 rfl ?_
  refine pu_iconst ?_
  refine pu_istore_n (L' := [.ref 1, .int x1, .int x2, .int 0, .null, .null, .null, .null]) (Or.inr rfl) rfl ?_
  refine pu_iload_n rfl ?_
  refine pu_istore (L' := [.ref 1, .int x1, .int x2, .int 0, .int x2, .null, .null, .null]) (Or.inr rfl) rfl ?_
  refine pu_iconst ?_
  refine pu_istore (L' := [.ref 1, .int x1, .int x2, .int 0, .int x2, .int 0, .null, .null]) (Or.inr rfl) rfl ?_
  exact H _ rfl _ rfl _ rfl
